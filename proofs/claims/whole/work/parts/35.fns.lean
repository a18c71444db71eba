section FNS
variable {cs : List Nat} {st : xS} {vs : List VR} {ks ws : List NP}
def Gd (j : JT 101) : Prop := jok 101 j ∧ fit j
theorem PV.frp {st st' : xS} {mx : Nat} {ps : List Nat} (h : PV st mx ps) (hf : FrP st st') : PV st' mx ps := by
  obtain ⟨h1, h2, h3, h4, h5, h6, h7⟩ := h
  have hb := hf.2 21 (by decide)
  exact ⟨by rw [hf.1 22 (by decide)]; exact h1, by rw [hf.1 23 (by decide)]; exact h2, h3, by rw [hb.2]; exact h4, by rw [hb.1]; exact h5, by rw [hb.1]; exact h6, by rw [hb.1]; exact h7⟩
theorem load1 {n x : Nat} {A : JT 101} (hM : MS st vs cs ks ws) (hA : Gd A) (hR : RegM st x (jt 101 A)) (hn : 3000000000 < n) (h1 : vs.length ≤ 4096) (h2 : cs.length ≤ 4096) (h3 : ks.length ≤ 4096) (h4 : ws = []) : ∃ (cc s c : Nat) (st1 : xS) (vs1 : List VR) (cs1 : List Nat) (ks1 : List NP), fM_register 104 n st (i3 x) = some (0, cc, s, c, st1) ∧ MS st1 (vs ++ vs1) (cs ++ cs1) (ks ++ ks1) ws ∧ Cost st st1 cc s ∧ FrP st st1 ∧ Arg (vs ++ vs1) (cs ++ cs1) (ks ++ ks1) 101 A c ∧ vs1.length ≤ 4096 ∧ cs1.length ≤ 4096 ∧ ks1.length ≤ 4096 ∧ (32 ≤ xsr st1 ∧ xsr st1 < 41) := by
  have hbv : bV = 32000 := rfl
  have hbk : bK = 32000 := rfl
  have hbc : bC = 100000 := rfl
  have hl : (jt 101 A).length ≤ 4096 := hA.2.2
  have hl' : (jt (100 + 1) A).length ≤ 4096 := hA.2.2
  obtain ⟨cc, s, c, st1, v1, c1, k1, e1, m1, m2, m3, m4, m5, m6, m7, m8⟩ := registerM (k := 100) (fu := 104) hM hA.1 hA.2 (by omega) (by omega) hn hR (by omega) (by omega) (by omega) (by rw [h4]; simp; omega)
  exact ⟨cc, s, c, st1, v1, c1, k1, e1, m1, m2, m3, ⟨m4, hA.1, hA.2.1, hA.2.2, Nat.le_trans (jc_le_jt 101 A) hA.2.2⟩, by omega, by omega, by omega, m8⟩
theorem Arg.mono {vs vs' : List VR} {cs cs' : List Nat} {ks ks' : List NP} {d : Nat} {j : JT d} {c : Nat} (h : Arg vs cs ks d j c) : Arg (vs ++ vs') (cs ++ cs') (ks ++ ks') d j c := ⟨h.1.mono, h.2⟩
theorem load2 {n x y : Nat} {A B : JT 101} (hM : MS st [] [] [] []) (hA : Gd A) (hB : Gd B) (hRa : RegM st x (jt 101 A)) (hRb : RegM st y (jt 101 B)) (hn : 3000000000 < n) : ∃ (cc s c : Nat) (st1 : xS) (cc2 s2 c2 : Nat) (st2 : xS) (vs1 : List VR) (cs1 : List Nat) (ks1 : List NP), fM_register 104 n st (i3 x) = some (0, cc, s, c, st1) ∧ fM_register 104 n st1 (i3 y) = some (0, cc2, s2, c2, st2) ∧ ¬ xct st1 < c ∧ MS st2 vs1 cs1 ks1 [] ∧ Cost st st1 cc s ∧ Cost st1 st2 cc2 s2 ∧ FrP st st2 ∧ Arg vs1 cs1 ks1 101 A c ∧ Arg vs1 cs1 ks1 101 B c2 ∧ Bd vs1 cs1 ks1 [] ∧ (32 ≤ xsr st2 ∧ xsr st2 < 41) := by
  obtain ⟨cc, s, c, st1, v1, c1, k1, e1, m1, m2, m3, m4, m5, m6, m7, m8⟩ := load1 (n := n) hM hA hRa hn (Nat.zero_le _) (Nat.zero_le _) (Nat.zero_le _) rfl
  rw [List.nil_append, List.nil_append, List.nil_append] at m1 m4
  obtain ⟨cc2, s2, c2, st2, v2, c3, k2, e2, n1, n2, n3, n4, n5, n6, n7, n8⟩ := load1 (n := n) m1 hB (hRb.fr m3) hn m5 m6 m7 rfl
  refine ⟨cc, s, c, st1, cc2, s2, c2, st2, v1 ++ v2, c1 ++ c3, k1 ++ k2, e1, e2, (m4.g m1).2.1, n1, m2, n2, m3.trans n3, m4.mono, n4, ⟨?_, ?_, ?_, Nat.zero_le _⟩, n8⟩
  · rw [List.length_append]; omega
  · rw [List.length_append]; omega
  · rw [List.length_append]; omega
theorem finB {n to x y op : Nat} {T : Nat → List Nat} {tape prn : List Nat} {pl rs : Int32} {A B : JT 101} (hT : RefT st T tape prn pl rs) (h0 : xsi st 0 = 0) (hM : MS st [] [] [] []) (hP : PV st 1000000000 []) (hA : Gd A) (hB : Gd B) (hx : x < 8) (hy : y < 8) (hta : T x = jt 101 A) (htb : T y = jt 101 B) (hto : to < 8) (hop : op ≤ 4) (hn : 5000000000 < n) : FinP st 0 0 (fM_finish 104 n st (i3 to) 0 (i3 op) (i3 x) (i3 y)) T to tape prn pl rs (oBin op A B : Nat ⊕ JT 101) := by
  obtain ⟨cc, s, c, st1, cc2, s2, c2, st2, vs1, cs1, ks1, e1, e2, hg, m1, m2, m3, m4, m5, m6, m7, m8⟩ := load2 (n := n) hM hA hB (hta ▸ hT.2.2.1 x hx) (htb ▸ hT.2.2.1 y hy) (by omega)
  unfold fM_finish
  rw [e1, Option.bind_some, if_pos rfl, if_neg (show ¬ (0 : Int32) = 1 by decide)]
  dsimp only
  rw [e2, Option.bind_some, if_pos rfl, if_neg hg, if_pos rfl]
  dsimp only
  have hbin := binary1M (e := 99) (n := n) (fu := 104) hop m1 m5 m6 m7 (by omega) (by omega)
  refine FinP.step (FinP.wrap (FinP.step (FinP.wrap ?_) m3)) m2
  exact finA (hT.fro ⟨⟨_, _, _, _, m1⟩, m4.o⟩) (by rw [m4.1 0 (by decide)]; exact h0) hbin (oBin_ok hA.1 hB.1) hto (by omega) (by omega)
theorem fin2 {n to x y f : Nat} {T : Nat → List Nat} {tape prn : List Nat} {pl rs : Int32} {A B : JT 101} (hT : RefT st T tape prn pl rs) (h0 : xsi st 0 = 0) (hM : MS st [] [] [] []) (hP : PV st 1000000000 []) (hA : Gd A) (hB : Gd B) (hx : x < 8) (hy : y < 8) (hta : T x = jt 101 A) (htb : T y = jt 101 B) (hto : to < 8) (hf : f ≤ 9) (hn : 5000000000 < n) : FinP st 0 0 (fM_finish 104 n st (i3 to) 2 (i3 f) (i3 x) (i3 y)) T to tape prn pl rs (oTwo f A B : Nat ⊕ JT 101) := by
  obtain ⟨cc, s, c, st1, cc2, s2, c2, st2, vs1, cs1, ks1, e1, e2, hg, m1, m2, m3, m4, m5, m6, m7, m8⟩ := load2 (n := n) hM hA hB (hta ▸ hT.2.2.1 x hx) (htb ▸ hT.2.2.1 y hy) (by omega)
  unfold fM_finish
  rw [e1, Option.bind_some, if_pos rfl, if_neg (show ¬ (2 : Int32) = 1 by decide)]
  dsimp only
  rw [e2, Option.bind_some, if_pos rfl, if_neg hg, if_neg (show ¬ (2 : Int32) = 0 by decide), if_neg (show ¬ (2 : Int32) = 1 by decide), if_pos rfl]
  dsimp only
  have hbin := two1M (e := 99) (n := n) (fu := 104) hf m1 (hP.frp m4) m5 m6 m7 (by omega) hn
  refine FinP.step (FinP.wrap (FinP.step (FinP.wrap ?_) m3)) m2
  exact finA (hT.fro ⟨⟨_, _, _, _, m1⟩, m4.o⟩) (by rw [m4.1 0 (by decide)]; exact h0) hbin (oTwo_ok hA.1 hB.1 m5.2.2.2.2) hto (by omega) (by omega)
theorem fin1O {n to x f : Nat} {y : Int32} {T : Nat → List Nat} {tape prn : List Nat} {pl rs : Int32} {A : JT 101} (hT : RefT st T tape prn pl rs) (h0 : xsi st 0 = 0) (hM : MS st [] [] [] []) (hP : PV st 1000000000 []) (hA : Gd A) (hx : x < 8) (hta : T x = jt 101 A) (hto : to < 8) (hf : f ≤ 13) (hn : 5000000000 < n) : FinP st 0 0 (fM_finish 104 n st (i3 to) 1 (i3 f) (i3 x) y) T to tape prn pl rs (oOne f A : Nat ⊕ JT 101) := by
  obtain ⟨cc, s, c, st1, v1, c1, k1, e1, m1, m2, m3, m4, m5, m6, m7, m8⟩ := load1 (n := n) hM hA (hta ▸ hT.2.2.1 x hx) (by omega) (Nat.zero_le _) (Nat.zero_le _) (Nat.zero_le _) rfl
  rw [List.nil_append, List.nil_append, List.nil_append] at m1 m4
  unfold fM_finish
  rw [e1, Option.bind_some, if_pos rfl, if_pos rfl, if_neg (show ¬ (1 : Int32) = 0 by decide), if_pos rfl]
  dsimp only
  have hT1 := hT.fro ⟨⟨_, _, _, _, m1⟩, m3.o⟩
  have hone := one1M (e := 99) (n := n) (fu := 104) hf (by omega) m1 hT1.2.1 (hP.frp m3) m8 m4 ⟨by omega, by omega, by omega, Nat.zero_le _⟩ (by omega) (by omega)
  refine FinP.step (FinP.wrap ?_) m2
  exact finA hT1 (by rw [m3.1 0 (by decide)]; exact h0) hone (oOne_ok (by omega) hA.1 m4.2.2.2.2) hto (by omega) (by omega)
theorem oKeyed_r {e f : Nat} {l K : List (JT e)} (hlen : l.length = K.length) : ∃ j, (oKeyed f (ja l : JT (e + 1)) (ja K) : Nat ⊕ JT (e + 2)) = .inr j := by
  have hres : oKeyed f (ja l) (ja K) = (if f = 0 then .inr (ja ((byT (tn K) l).map (lf e))) else if f = 1 then .inr (ja ((grs K none (tn K)).map (fun g => (ja (byT g l) : JT (e + 1))))) else if f = 2 then .inr (ja ((byT (fsts K none (tn K)) l).map (lf e))) else if f = 3 then .inr (match ((tn K).head?).bind (fun t => l[t]?) with | none => jk 0 | some y => lf (e + 1) (lf e y)) else .inr (match ((tn K).getLast?).bind (fun t => l[t]?) with | none => jk 0 | some y => lf (e + 1) (lf e y))) := if_pos hlen
  rw [hres]
  split
  · exact ⟨_, rfl⟩
  · split
    · exact ⟨_, rfl⟩
    · split
      · exact ⟨_, rfl⟩
      · split <;> exact ⟨_, rfl⟩
theorem fin3 {n to x y f : Nat} {T : Nat → List Nat} {tape prn : List Nat} {pl rs : Int32} {A B : JT 101} (hT : RefT st T tape prn pl rs) (h0 : xsi st 0 = 0) (hM : MS st [] [] [] []) (hP : PV st 1000000000 []) (hA : Gd A) (hB : Gd B) (hx : x < 8) (hy : y < 8) (hta : T x = jt 101 A) (htb : T y = jt 101 B) (hto : to < 8) (hf : f ≤ 4) (hn : 5000000000 < n) : FinP st 0 0 (fM_finish 104 n st (i3 to) 3 (i3 f) (i3 x) (i3 y)) T to tape prn pl rs (oKeyed f A B : Nat ⊕ JT 102) := by
  obtain ⟨cc, s, c, st1, cc2, s2, c2, st2, vs1, cs1, ks1, e1, e2, hg, m1, m2, m3, m4, m5, m6, m7, m8⟩ := load2 (n := n) hM hA hB (hta ▸ hT.2.2.1 x hx) (htb ▸ hT.2.2.1 y hy) (by omega)
  have hT2 := hT.fro ⟨⟨_, _, _, _, m1⟩, m4.o⟩
  have h02 : xsi st2 0 = 0 := by rw [m4.1 0 (by decide)]; exact h0
  obtain ⟨a1, a2, a3, _⟩ := m5.g m1
  obtain ⟨b1, b2, b3, _⟩ := m6.g m1
  have ka := m5.k7
  have kb := m6.k7
  obtain ⟨_, _, x5, _⟩ := kdc hA.1 _ rfl
  obtain ⟨_, _, y5, _⟩ := kdc hB.1 _ rfl
  have hne : ¬ (kd 101 A = 5 ∧ kd 101 B = 5) → oKeyed f A B = .inl 1 := fun h => by
    rcases jcases A with ⟨k, rfl⟩ | ⟨z, rfl⟩ | ⟨s, rfl⟩ | ⟨l, rfl⟩ | ⟨l, rfl⟩ <;> rcases jcases B with ⟨k', rfl⟩ | ⟨z', rfl⟩ | ⟨s', rfl⟩ | ⟨l', rfl⟩ | ⟨l', rfl⟩ <;> first
      | rfl
      | (exact absurd ⟨rfl, rfl⟩ h)
  have ref : ∀ wc wn, FinP st2 wc wn (some (wc + 1, wn + 6, xsI (xsI (xsI st2 8 1) 30 (xsi (xsI st2 8 1) 8)) 0 2)) T to tape prn pl rs (.inl 1 : Nat ⊕ JT 102) := fun wc wn => by
    refine ⟨1, 6, _, rfl, ⟨by omega, ?_⟩, ?_, xs_e⟩
    · show 6 + pt st2 ≤ pt st2 + 6 * 3
      omega
    · rw [xs_e]
      exact ((hT2.fro ⟨⟨_, _, _, _, m1.si (k := 8) (by decide) (by decide) (by decide) (by decide)⟩, FrO.at (k := 8) _ (by decide)⟩).f30).f0
  have refx : ∀ wc wn, FinP st2 wc wn (xmo (fun a => a.1) (fun a => a.2.1) (wc + 1) (wn + 6) (some (wc + 1, wn + 6, xsI (xsI (xsI st2 8 1) 30 (xsi (xsI st2 8 1) 8)) 0 2))) T to tape prn pl rs (.inl 1 : Nat ⊕ JT 102) := fun wc wn => by
    have : xmo (fun a : Nat × Nat × xS => a.1) (fun a => a.2.1) (wc + 1) (wn + 6) (some (wc + 1, wn + 6, xsI (xsI (xsI st2 8 1) 30 (xsi (xsI st2 8 1) 8)) 0 2)) = some (wc + 1, wn + 6, xsI (xsI (xsI st2 8 1) 30 (xsi (xsI st2 8 1) 8)) 0 2) := xmo_some (Nat.le_refl _) (Nat.le_refl _)
    rw [this]
    exact ref wc wn
  unfold fM_finish
  rw [e1, Option.bind_some, if_pos rfl, if_neg (show ¬ (3 : Int32) = 1 by decide)]
  dsimp only
  rw [e2, Option.bind_some, if_pos rfl, if_neg hg, if_neg (show ¬ (3 : Int32) = 0 by decide), if_neg (show ¬ (3 : Int32) = 1 by decide), if_neg (show ¬ (3 : Int32) = 2 by decide)]
  dsimp only
  refine FinP.step (FinP.wrap (FinP.step (FinP.wrap ?_) m3)) m2
  by_cases h5 : kd 101 A = 5
  · rw [array_s a1 (by rw [a3, h5]; rfl), Option.bind_some, if_pos rfl, if_neg b2, if_neg a2]
    dsimp only
    rw [if_neg a1]
    refine FinP.wrap ?_
    by_cases g5 : kd 101 B = 5
    · rw [array_s b1 (by rw [b3, g5]; rfl), Option.bind_some, if_pos rfl, if_neg b2, if_neg a2]
      dsimp only
      rw [if_neg b1]
      refine FinP.wrap ?_
      obtain ⟨l, rfl⟩ := x5 h5
      obtain ⟨K, rfl⟩ := y5 g5
      have hl := m5.la
      have hk := m6.la
      rw [(m5.1.sza m1).1, (m6.1.sza m1).1]
      by_cases hlen : l.length = K.length
      · rw [if_pos (by rw [hlen])]
        have hs := keyedM (e := 100) (n := n) (fu := 104) hf m1 hT2.2.1 m5 m6 m7 (by omega) (by omega) rfl rfl hlen
        have hj := oKeyed_ok (e := 100) (k := f) (x := (ja K : JT 101)) hA.1
        cases hres : (oKeyed f (ja l : JT 101) (ja K) : Nat ⊕ JT 102) with
        | inl k =>
          obtain ⟨j, hjj⟩ := oKeyed_r (e := 100) (f := f) hlen
          rw [hres] at hjj
          cases hjj
        | inr j =>
          rw [hres] at hs hj
          rcases hs with ⟨q1, q2, c3, st3, v', c', k', r1, n1, n2, n3, n4⟩ | ⟨_, hbig, q1, q2, st3, r1, n1, n2⟩
          · rw [r1, Option.bind_some, if_pos rfl]
            simp only [Nat.zero_add]
            exact FinP.step (FinP.wrap (finS (hT2.fro ⟨⟨_, _, _, _, n1⟩, n3⟩) (by rw [n3.1 0 (by decide)]; exact h02) n1 n4 (hj j rfl) hto (by omega) (by omega))) n2
          · refine ⟨q1, q2, xsI st3 0 3, ?_, ⟨n1.1, ?_⟩, Or.inr ⟨big_nf (hj j rfl) hbig, (hT2.fro n2).f0, xs_e⟩⟩
            · rw [r1, Option.bind_some, if_neg (show ¬ (1 : Nat) = 0 by decide), if_pos rfl]
              simp only [Nat.zero_add]
              exact xmo_some (Nat.le_refl _) (Nat.le_refl _)
            · have := n1.2
              show q2 + pt st2 ≤ pt st3 + 6 * 3
              omega
      · have : (oKeyed f (ja l : JT 101) (ja K) : Nat ⊕ JT 102) = .inl 1 := if_neg hlen
        rw [if_neg (by rw [i3_eq (by omega) (by omega)]; exact hlen), this]
        unfold fM_refuse
        rw [Option.bind_some, if_pos rfl]
        exact refx _ _
    · rw [array_f b1 (by rw [b3]; exact fun h => g5 ((ke (c := 5) kb (by omega)).mp h)), Option.bind_some, if_neg (show ¬ (1 : Nat) = 0 by decide), if_pos rfl, if_neg b2, if_neg a2, hne (fun h => g5 h.2)]
      exact refx _ _
  · rw [array_f a1 (by rw [a3]; exact fun h => h5 ((ke (c := 5) ka (by omega)).mp h)), Option.bind_some, if_neg (show ¬ (1 : Nat) = 0 by decide), if_pos rfl, if_neg b2, if_neg a2, hne (fun h => h5 h.1)]
    exact refx _ _
end FNS
