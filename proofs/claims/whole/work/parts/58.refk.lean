/-! ===== the reference's reader: members ===== -/
section RL2
variable {base : Nat} {src : List Nat} {d : Nat}
theorem wholeO {st : xS} {n wc wn : Nat} {vs : List VR} {cs : List Nat} {ks W0 W : List NP} {l : List (Sx × JT d)} {r : List Nat} (hM : MS st vs cs ks (W0 ++ W)) (h : PR base src st (125 :: r)) (hR : RM vs cs ks d W l) (hd : ∀ x ∈ l, jd d x.2 ≤ 59) (hw : sm (fun x : Sx × JT d => (strc x.1 ++ jc d x.2).length) l ≤ 50000) (hbv : vs.length + 1 ≤ bV) (hbk : ks.length + W.length ≤ bK) (hn : 20 * bC < n) : ValO base src st wc wn vs cs ks W0 2 ((fM_whole n (xsI st 16 (xsi st 16 + 1)) 6 (i3 W0.length)).bind fun o8 => ((if o8.1 = 0 then xmo (fun a => a.2.1) (fun a => a.2.2.1) (wc + o8.2.1) (wn + o8.2.2.1) (some (0, (wc + o8.2.1), (wn + o8.2.2.1), o8.2.2.2.1, o8.2.2.2.2)) else (if o8.1 = 1 then xmo (fun a => a.2.1) (fun a => a.2.2.1) (wc + o8.2.1) (wn + o8.2.2.1) (some (1, (wc + o8.2.1), (wn + o8.2.2.1), 0, o8.2.2.2.2)) else none)))) (125 :: r) W.length (.inr (jo l, r)) := by
  obtain ⟨a1, a2, a3, a4, a5⟩ := hR.sums
  obtain ⟨cc, s, st1, st2, e1, m1, _, m2, m3, m4, _⟩ := whole_w (n := n) (hM.si (k := 16) (v := xsi st 16 + 1) (by decide) (by decide) (by decide) (by decide)) (k := 6) (by omega) a4 hbv hbk hn
  have hjd : jd (d + 1) (jo l) ≤ 59 + 1 := jd_o_le.mpr hd
  have hjc : (jc (d + 1) (jo l)).length ≤ 60000 := by
    rw [jc_o, lst_len, sm_flat]
    omega
  have hD : (W.map (fun p => vDp vs p.1)).foldl max 0 < 60 := by
    rw [a2]
    have : (l.map (fun x => jd d x.2)).foldl max 0 + 1 ≤ 60 := hjd
    omega
  have hW : 1 + (W.map (kWt vs 6)).sum ≤ 60000 := by
    rw [a3]
    have : (l.map (fun x : Sx × JT d => (strc x.1 ++ jc d x.2).length)).sum = sm (fun x : Sx × JT d => (strc x.1 ++ jc d x.2).length) l := rfl
    omega
  rw [if_pos ⟨hD, hW⟩] at e1
  have hrep := rep_o hR hjd hjc
  refine ⟨cc, s, vs.length + 1, st1, [_], [], W, ?_, by rw [List.append_nil]; exact m1, h.next.fr m3 m4, ⟨m2.1, m2.2⟩, (Fr1.at _).trans (Fr1.of m3), (SK.at (by decide)).trans m4, by rw [List.append_nil]; exact hrep, by rw [List.length_singleton, List.length_cons]; omega, by simp, by rw [List.length_cons]; omega⟩
  have e1' : fM_whole n (xsI st 16 (xsi st 16 + 1)) 6 (i3 W0.length) = some (0, cc, s, vs.length + 1, st1) := e1
  rw [e1', Option.bind_some, if_pos rfl]
  exact xmo_some (Nat.le_refl _) (Nat.le_refl _)
theorem RM.at : ∀ {vs : List VR} {cs : List Nat} {ks : List NP} {W : List NP} {l : List (Sx × JT d)} {U : List NP} {p : NP} {W' : List NP}, RM vs cs ks d W l → U ++ p :: W' = W → ∃ x l1 l2, l = l1 ++ x :: l2 ∧ l1.length = U.length ∧ isStr vs cs p.2 x.1 ∧ x.1.length ≤ 59999 := by
  intro vs cs ks W l U
  induction U generalizing W l with
  | nil =>
    intro p W' h hU
    rw [List.nil_append] at hU
    subst hU
    cases l with
    | nil => exact h.elim
    | cons x l => exact ⟨x, [], l, rfl, rfl, h.2.1, h.2.2.1⟩
  | cons u U ih =>
    intro p W' h hU
    subst hU
    cases l with
    | nil => exact h.elim
    | cons y l =>
      obtain ⟨x, l1, l2, h1, h2, h3, h4⟩ := ih (W := U ++ p :: W') (l := l) h.2.2.2 rfl
      exact ⟨x, y :: l1, l2, by rw [h1]; rfl, by rw [List.length_cons, List.length_cons, h2], h3, h4⟩
theorem dupL {rec : xS → Option (Nat × Nat × Nat × Nat × xS)} {st : xS} {vs : List VR} {cs : List Nat} {ks W0 W : List NP} {l : List (Sx × JT d)} (hM : MS st vs cs ks (W0 ++ W)) (hR : RM vs cs ks d W l) {c : Nat} {s : Sx} (hs : isStr vs cs c s) (hsl : s.length ≤ 59999) {y2 : Int32} {wc wn : Nat} : ∀ (W' U : List NP) (l1 l' : List (Sx × JT d)) (n : Nat), U ++ W' = W → l1 ++ l' = l → l1.length = U.length → 1000002 + W'.length < n → (s ∈ l'.map (fun x => x.1) → fM_members_b rec n 2 (i3 W0.length) (i3 (W0.length + U.length)) c y2 st wc wn = some (2, wc + 1, wn + 6, 0, xsI st 20 y2)) ∧ (s ∉ l'.map (fun x => x.1) → ∃ n', n = n' + W'.length ∧ ∀ out : Nat × Nat × Nat × Nat × xS, wc ≤ out.2.1 → wn ≤ out.2.2.1 → fM_members_b rec n' 2 (i3 W0.length) (i3 (W0.length + W.length)) c y2 st wc wn = some out → fM_members_b rec n 2 (i3 W0.length) (i3 (W0.length + U.length)) c y2 st wc wn = some out) := by
  have hcl := hM.cl.2.2.2
  have hbK : bK = 32000 := rfl
  have hWl := hR.sums.1
  intro W'
  induction W' with
  | nil =>
    intro U l1 l' n hU hl hlen hn
    rw [List.append_nil] at hU
    subst hU
    have hl' : l' = [] := by
      have : l1.length + l'.length = l.length := by rw [← hl, List.length_append]
      exact List.length_eq_zero_iff.mp (by omega)
    subst hl'
    exact ⟨fun h => absurd h (by simp), fun _ => ⟨n, rfl, fun out _ _ h => h⟩⟩
  | cons p W' ih =>
    intro U l1 l' n hU hl hlen hn
    obtain ⟨n, rfl⟩ : ∃ j, n = j + 1 := ⟨n - 1, by omega⟩
    rw [List.length_cons] at hn
    obtain ⟨x, k1, k2, hk, hkl, hx1, hx2⟩ := hR.at hU
    have hUl : W.length = U.length + (W'.length + 1) := by rw [← hU, List.length_append, List.length_cons]
    have hl1 : l1 = k1 ∧ l' = x :: k2 := List.append_inj (hl.trans hk) (by omega)
    obtain ⟨rfl, rfl⟩ := hl1
    have h12 := hM.1.1.2.2.2
    have r5 := hM.2.2.2.2.2.1
    rw [List.length_append] at h12 hcl r5
    obtain ⟨_, k11⟩ := hM.1.2.2.2.2 (W0.length + U.length) p (by
      rw [List.getElem?_append_right (by omega), ← hU, List.getElem?_append_right (by omega), show W0.length + U.length - W0.length - U.length = 0 by omega]
      rfl)
    have hst := sameTextM (n := n) hM hx1 hs (by omega) (by omega) (by omega)
    have hct : ¬ xct st < c := by have := hs.le; have := hM.2.2.1.1; omega
    have hstep : fM_members_b rec (n + 1) 2 (i3 W0.length) (i3 (W0.length + U.length)) c y2 st wc wn = xmo (fun a : Nat × Nat × Nat × Nat × xS => a.2.1) (fun a => a.2.2.1) wc wn (if x.1 = s then some (2, wc + 1, wn + 6, 0, xsI st 20 y2) else fM_members_b rec n 2 (i3 W0.length) (i3 (W0.length + U.length + 1)) c y2 st wc wn) := by
      rw [fM_members_b, if_neg (by decide), h12, if_neg (by rw [i3_le (by omega) (by omega)]; omega), if_neg (i3_idx (by omega) (by omega)), i3_N (by omega), k11, hst, Option.bind_some, i3_one]
      by_cases he : x.1 = s
      · rw [if_pos he, if_neg (by decide), if_pos he]
        congr 1
        unfold fM_bad
        rw [Option.bind_some, if_pos rfl, if_neg hct]
        exact xmo_some (Nat.le_refl _) (Nat.le_refl _)
      · rw [if_neg he, if_pos rfl, if_neg he]
    rw [hstep]
    obtain ⟨i1, i2⟩ := ih (U ++ [p]) (l1 ++ [x]) k2 n (by rw [← hU]; simp) (by rw [hk]; simp) (by simp; omega) (by omega)
    rw [List.length_append, List.length_singleton, ← Nat.add_assoc] at i1 i2
    by_cases he : x.1 = s
    · rw [if_pos he]
      refine ⟨fun _ => xmo_some (Nat.le_succ _) (by show wn ≤ wn + 6; omega), fun h => absurd (by rw [List.map_cons, he]; exact List.mem_cons_self ..) h⟩
    · rw [if_neg he]
      constructor
      · intro h
        rw [List.map_cons] at h
        rcases List.mem_cons.mp h with h | h
        · exact absurd h.symm he
        · rw [i1 h]
          exact xmo_some (Nat.le_succ _) (by show wn ≤ wn + 6; omega)
      · intro h
        obtain ⟨n', hn', hout⟩ := i2 (fun h' => h (by rw [List.map_cons]; exact List.mem_cons_of_mem _ h'))
        refine ⟨n', by rw [List.length_cons]; omega, fun out o1 o2 ho => ?_⟩
        rw [hout out o1 o2 ho]
        exact xmo_some o1 o2
end RL2
