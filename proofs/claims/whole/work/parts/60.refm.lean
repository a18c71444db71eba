section RN
variable {base : Nat} {src : List Nat} {d : Nat}
def pF2 (recA : List Nat → List Nat ⊕ (JT d × List Nat)) (m : Nat) (seen : List Sx) (s : Sx) (r2 : List Nat) : List Nat ⊕ (List (Sx × JT d) × List Nat) := if (blk r2).head? = some 58 then (match recA (blk r2).tail with
      | .inl x => .inl x
      | .inr (v, r1) => if (blk r1).head? = some 44 then (match pF recA m (seen ++ [s]) (blk r1).tail with
          | .inl x => .inl x
          | .inr (l', r3) => .inr ((s, v) :: l', r3))
        else if (blk r1).head? = some 125 then .inr ([(s, v)], (blk r1).tail) else .inl (blk r1)) else .inl (blk r2)
theorem pF_34 {recA : List Nat → List Nat ⊕ (JT d × List Nat)} {m : Nat} {seen : List Sx} {r : List Nat} (h : (blk r).head? = some 34) : (∀ x, pS (r.length + 1) (blk r).tail = .inl x → pF recA (m + 1) seen r = .inl x) ∧ (∀ s r2, pS (r.length + 1) (blk r).tail = .inr (s, r2) → (s ∈ seen → pF recA (m + 1) seen r = .inl (blk r)) ∧ (s ∉ seen → pF recA (m + 1) seen r = pF2 recA m seen s r2)) := by
  refine ⟨fun x hx => ?_, fun s r2 hp => ⟨fun hs => ?_, fun hs => ?_⟩⟩
  · rw [pF, pM, if_pos h, hx]
  · rw [pF, pM, if_pos h, hp]
    dsimp only
    rw [if_pos hs]
  · rw [pF, pM, if_pos h, hp]
    dsimp only
    rw [if_neg hs]
    unfold pF2
    by_cases h58 : (blk r2).head? = some 58
    · rw [if_pos h58, if_pos h58]
      cases recA (blk r2).tail with
      | inl x => rfl
      | inr t =>
        obtain ⟨v, r1⟩ := t
        dsimp only
        by_cases h44 : (blk r1).head? = some 44
        · rw [if_pos h44, if_pos h44]
          cases pF recA m (seen ++ [s]) (blk r1).tail with
          | inl x => rfl
          | inr t =>
            obtain ⟨l2, r4⟩ := t
            rfl
        · rw [if_neg h44, if_neg h44]
    · rw [if_neg h58, if_neg h58]
theorem pF_n34 {recA : List Nat → List Nat ⊕ (JT d × List Nat)} {m : Nat} {seen : List Sx} {r : List Nat} (h : (blk r).head? ≠ some 34) : pF recA (m + 1) seen r = .inl (blk r) := by
  rw [pF, pM, if_neg h]
theorem memL {op : Int32 × Int32} {q : Nat} {rec : xS → Option (Nat × Nat × Nat × Nat × xS)} {recA : List Nat → List Nat ⊕ (JT d × List Nat)} (hrec : RecM base src op q rec recA) (hps : PS recA (fun j => (jc d j).length) (fun j => jok d j ∧ jd d j ≤ q)) (hsz : src.length ≤ 50000) {W0 : List NP} : ∀ (m : Nat) (r : List Nat) (n : Nat) (st : xS) (vs : List VR) (cs : List Nat) (ks W : List NP) (l : List (Sx × JT d)) (wc wn : Nat) (y4 : Int32) (y3 : Nat) (y2 : Int32), MS st vs cs ks (W0 ++ W) → PR base src st r → OP st op → RM vs cs ks d W l → (∀ x ∈ l, jd d x.2 ≤ 59) → sm (fun x : Sx × JT d => (strc x.1 ++ jc d x.2).length) l + r.length ≤ src.length → (q ≤ 59 ∨ ∃ l' r1, pF recA m (l.map (fun x => x.1)) r = .inr (l', r1) ∧ ∀ x ∈ l', jd d x.2 ≤ 59) → vs.length + r.length < bV → cs.length + r.length ≤ bC → ks.length + W.length + r.length ≤ bK → W0.length + W.length + r.length ≤ bK → r.length < m → 3000000 + 40000 * r.length < n → ValO base src st wc wn vs cs ks W0 2 (fM_members_b rec n 1 (i3 W0.length) y4 y3 y2 st wc wn) r W.length (mp (fun l' => jo (l ++ l')) (pF recA m (l.map (fun x => x.1)) r)) := by
  have hbV : bV = 32000 := rfl
  have hbc : bC = 100000 := rfl
  have hbK : bK = 32000 := rfl
  intro m
  induction m with
  | zero => intro r n st vs cs ks W l wc wn y4 y3 y2 _ _ _ _ _ _ _ _ _ _ _ hm; omega
  | succ m ih =>
    intro r n st vs cs ks W l wc wn y4 y3 y2 hM h h18 hR hdl hsm hG hb1 hb2 hb3 hb4 hm hn
    obtain ⟨n, rfl⟩ : ∃ j, n = j + 1 := ⟨n - 1, by omega⟩
    obtain ⟨e3, hP⟩ := h.blanks (n := n) (by omega)
    have hbl := blk_len r
    have hMx : MS (xsI st 16 (rp base src (blk r))) vs cs ks (W0 ++ W) := hM.si (by decide) (by decide) (by decide) (by decide)
    rw [fM_members_b, if_pos rfl, e3, Option.bind_some, hP.peek, Option.bind_some]
    by_cases h34 : (blk r).head? = some 34
    · obtain ⟨z1, z2⟩ := pF_34 (recA := recA) (m := m) (seen := l.map (fun x => x.1)) h34
      obtain ⟨r', hr'⟩ := head_c h34
      have hy2 : xsi (xsI st 16 (rp base src (blk r))) 16 = rp base src (blk r) := hP.2.2
      rw [hr'] at hP hMx hbl z1 z2 hy2 ⊢
      rw [List.length_cons] at hbl
      rw [List.tail_cons] at z1 z2
      rw [if_pos (show hv (34 :: r') = 34 from rfl), hy2]
      have hS := stringM_w (n := n) hMx hP (by omega) (by omega) hsz (by omega) (m := r.length + 1) (by omega)
      cases hp : pS (r.length + 1) r' with
      | inl x =>
        rw [hp] at hS
        rw [z1 x hp]
        obtain ⟨cc, k, st', e1, b1, b2⟩ := hS
        rw [Nat.zero_add, Nat.zero_add] at e1
        refine ⟨cc, k, st', ?_, b1, b2.any (Fr1.at _) (Nat.le_refl _)⟩
        rw [e1, Option.bind_some, if_neg (show ¬ (2 : Nat) = 0 by decide), if_neg (show ¬ (2 : Nat) = 1 by decide), if_pos rfl]
        dsimp only
        have hin : xmo (fun a : Nat × Nat × Nat × Nat × xS => a.2.1) (fun a => a.2.2.1) (wc + cc) (wn + k) (some (2, wc + cc, wn + k, 0, st')) = some (2, wc + cc, wn + k, 0, st') := xmo_some (Nat.le_refl _) (Nat.le_refl _)
        rw [hin]
        exact xmo_some (by show wc ≤ wc + cc; omega) (by show wn ≤ wn + k; omega)
      | inr t =>
        obtain ⟨s, r2⟩ := t
        rw [hp] at hS
        obtain ⟨zs1, zs2⟩ := z2 s r2 hp
        obtain ⟨_, sl, _⟩ := (pS_suf (r.length + 1) r').2 s r2 hp
        obtain ⟨cc, k, st1, e1, m1, m2, m3, m4, m5⟩ := hS
        rw [Nat.zero_add, Nat.zero_add] at e1
        have hstr := isStr_new (vs := vs) (cs := cs) (s := s)
        have hR1 : RM (vs ++ [((4, cs.length, cs.length + s.length - cs.length, 0, 1 + (cs.length + s.length - cs.length), 0) : VR)]) (cs ++ s) ks d W l := by
          have := hR.mono (vs' := [((4, cs.length, cs.length + s.length - cs.length, 0, 1 + (cs.length + s.length - cs.length), 0) : VR)]) (cs' := s) (ks' := [])
          rwa [List.append_nil] at this
        have hfr : Fr1 st st1 := (Fr1.at _).trans m4
        have hsk : SK st st1 := (SK.at (by decide)).trans m5
        have h18' : OP st1 op := h18.fr hfr
        obtain ⟨d1, d2⟩ := dupL (rec := rec) m1 hR1 hstr (by omega) (y2 := rp base src (34 :: r')) (wc := wc + cc) (wn := wn + k) W [] [] l n rfl rfl rfl (by omega)
        rw [List.length_nil, Nat.add_zero] at d1 d2
        rw [e1, Option.bind_some, if_pos rfl]
        dsimp only
        by_cases hin : s ∈ l.map (fun x => x.1)
        · rw [d1 hin, zs1 hin]
          have hin' : ∀ z : xS, xmo (fun a : Nat × Nat × Nat × Nat × xS => a.2.1) (fun a => a.2.2.1) (wc + cc) (wn + k) (some (2, wc + cc + 1, wn + k + 6, 0, z)) = some (2, wc + cc + 1, wn + k + 6, 0, z) := fun z => xmo_some (Nat.le_succ _) (by show wn + k ≤ wn + k + 6; omega)
          rw [hin']
          refine ⟨cc + 1, k + 6, xsI st1 20 (rp base src (34 :: r')), ?_, ⟨by have := m3.1; omega, ?_⟩, (Bad.of2 m1 FrP.refl (Nat.le_refl _) rfl).any hfr (by have := m3.2; have hpe : pt (xsI st 16 (rp base src (34 :: r'))) = pt st := rfl; omega)⟩
          · rw [← Nat.add_assoc, ← Nat.add_assoc]
            exact xmo_some (by show wc ≤ wc + cc + 1; omega) (by show wn ≤ wn + k + 6; omega)
          · have := m3.2
            have hpe : pt (xsI st 16 (rp base src (34 :: r'))) = pt st := rfl
            have hpe2 : pt (xsI st1 20 (rp base src (34 :: r'))) = pt st1 := rfl
            omega
        · obtain ⟨n', hn', hout⟩ := d2 hin
          rw [zs2 hin]
          have hG' : q ≤ 59 ∨ ∃ l' r1, pF2 recA m (l.map (fun x => x.1)) s r2 = .inr (l', r1) ∧ ∀ x ∈ l', jd d x.2 ≤ 59 := by
            rw [zs2 hin] at hG
            exact hG
          have hT := memT hrec hps hsz ih (n := n') (wc := wc + cc) (wn := wn + k) (y2 := rp base src (34 :: r')) m1 m2 h18' hR1 hstr (by omega) hdl (by omega) (by rw [List.length_append, List.length_singleton]; omega) (by rw [List.length_append]; omega) (by omega) (by omega) (by omega) (by omega) (pF2 recA m (l.map (fun x => x.1)) s r2) rfl hG'
          have hTs := ValO.step (a := [((4, cs.length, cs.length + s.length - cs.length, 0, 1 + (cs.length + s.length - cs.length), 0) : VR)]) (b := s) (c := []) (cc := cc) (k := k) (wc := wc) (wn := wn) (vs := vs) (cs := cs) (ks := ks) (r := r) (w := W.length) (st := st) (r1 := r2) (w' := W.length) (by rw [List.append_nil]; exact hT) ⟨m3.1, m3.2⟩ hfr hsk (by rw [List.length_singleton]; omega) (by omega) (by rw [List.length_nil]; omega)
          have hsome : ∃ out, fM_members_b rec n' 2 (i3 W0.length) (i3 (W0.length + W.length)) (vs.length + 1) (rp base src (34 :: r')) st1 (wc + cc) (wn + k) = some out := by
            cases hF : pF2 recA m (l.map (fun x => x.1)) s r2 with
            | inl x =>
              rw [hF] at hT
              obtain ⟨_, _, _, e, _⟩ := hT
              exact ⟨_, e⟩
            | inr t =>
              obtain ⟨l2, r4⟩ := t
              rw [hF] at hT
              obtain ⟨_, _, _, _, _, _, _, e, _⟩ := hT
              exact ⟨_, e⟩
          obtain ⟨out, ho⟩ := hsome
          obtain ⟨g1, g2⟩ := hT.ge out ho
          have heq : fM_members_b rec n 2 (i3 W0.length) (i3 W0.length) (vs.length + 1) (rp base src (34 :: r')) st1 (wc + cc) (wn + k) = some out := hout out g1 g2 ho
          rw [heq]
          rw [ho] at hT hTs
          rw [xmo_id hT.ge, xmo_id hTs.ge]
          exact hTs
    · rw [if_neg (show ¬ hv (blk r) = 34 from fun hh => h34 ((hP.hve (k := 34) (by omega)).mp hh)), pF_n34 h34, bad_5]
      have hx : xsi (xsI st 16 (rp base src (blk r))) 16 = rp base src (blk r) := hP.2.2
      rw [hx]
      exact ⟨1, 6, _, xmo_some (Nat.le_succ _) (by show wn ≤ wn + 6; omega), ⟨by omega, Nat.le_of_eq (Nat.add_comm _ _)⟩, (Bad.of2 hMx FrP.refl (Nat.le_refl _) rfl).any (Fr1.at _) (Nat.le_refl _)⟩
end RN
