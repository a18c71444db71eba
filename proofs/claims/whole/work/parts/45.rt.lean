/-! ===== what is printed is read again ===== -/
theorem pw_rt : ∀ (w r : List Nat), pw w (w ++ r) = .inr r := by
  intro w
  induction w with
  | nil => intro r; rfl
  | cons c w ih =>
    intro r
    rw [List.cons_append, pw, if_pos rfl, ih]
theorem esc_c : ∀ c, c < 128 → (esc c = [c] ∧ c ≠ 92 ∧ c ≠ 34 ∧ 32 ≤ c ∧ c < 127) ∨ (∃ x, x ≠ 117 ∧ esc c = [92, x] ∧ cof x = some c) ∨ (∃ a b, esc c = [92, 117, 48, 48, a, b] ∧ ∃ u v, hexv a = some u ∧ hexv b = some v ∧ 16 * u + v = c) := by
  intro c hc
  by_cases h1 : 32 ≤ c ∧ c < 127 ∧ c ≠ 34 ∧ c ≠ 92
  · left
    refine ⟨?_, h1.2.2.2, h1.2.2.1, h1.1, h1.2.1⟩
    unfold esc
    rw [if_neg (by omega), if_neg (by omega), if_neg (by omega), if_neg (by omega), if_neg (by omega), if_neg (by omega), if_neg (by omega), if_neg (by omega)]
  · right
    by_cases h2 : c = 34 ∨ c = 92 ∨ c = 8 ∨ c = 9 ∨ c = 10 ∨ c = 12 ∨ c = 13
    · left
      rcases h2 with rfl | rfl | rfl | rfl | rfl | rfl | rfl
      · exact ⟨34, by decide, rfl, rfl⟩
      · exact ⟨92, by decide, rfl, rfl⟩
      · exact ⟨98, by decide, rfl, rfl⟩
      · exact ⟨116, by decide, rfl, rfl⟩
      · exact ⟨110, by decide, rfl, rfl⟩
      · exact ⟨102, by decide, rfl, rfl⟩
      · exact ⟨114, by decide, rfl, rfl⟩
    · right
      refine ⟨hx (c / 16), hx (c % 16), ?_, c / 16, c % 16, ?_, ?_, by omega⟩
      · unfold esc
        rw [if_neg (by omega), if_neg (by omega), if_neg (by omega), if_neg (by omega), if_neg (by omega), if_neg (by omega), if_neg (by omega), if_pos (by omega)]
      · unfold hx hexv
        split
        · rw [if_pos (by omega)]
          congr 1
          omega
        · omega
      · unfold hx hexv
        split
        · rw [if_pos (by omega)]
          congr 1
          omega
        · rw [if_neg (by omega), if_pos (by omega)]
          congr 1
          omega
theorem pc_rt {c : Nat} (hc : c < 128) (r : List Nat) : pc (esc c ++ r) = .inr (c, r) ∧ (esc c ++ r).head? ≠ some 34 := by
  rcases esc_c c hc with ⟨h1, h2, h3, h4, h5⟩ | ⟨x, h0, h1, h2⟩ | ⟨a, b, h1, u, v, h2, h3, h4⟩
  · rw [h1]
    refine ⟨?_, fun h => h3 (Option.some.inj h)⟩
    rw [List.singleton_append, pc, if_neg h2, if_pos ⟨h4, h5⟩]
  · rw [h1]
    refine ⟨?_, fun h => absurd (Option.some.inj h) (by decide)⟩
    rw [List.cons_append, List.singleton_append, pc, if_pos rfl, pcE, if_neg h0]
    simp only [h2]
  · rw [h1]
    refine ⟨?_, fun h => absurd (Option.some.inj h) (by decide)⟩
    simp only [List.cons_append, List.nil_append]
    rw [pc, if_pos rfl, pcE, if_pos rfl, hex4]
    simp only [show hexv 48 = some 0 from rfl]
    rw [hex4]
    simp only [show hexv 48 = some 0 from rfl]
    rw [hex4]
    simp only [h2]
    rw [hex4]
    simp only [h3]
    rw [hex4, if_neg (by omega)]
    congr 2
    omega
theorem pS_rt : ∀ (s : Sx) (n : Nat) (r : List Nat), sok s → s.length < n → pS n (s.flatMap esc ++ 34 :: r) = .inr (s, r) := by
  intro s
  induction s with
  | nil =>
    intro n r _ hn
    obtain ⟨n, rfl⟩ : ∃ j, n = j + 1 := ⟨n - 1, by omega⟩
    rw [List.flatMap_nil, List.nil_append, pS, List.head?_cons, if_pos rfl]
    rfl
  | cons c s ih =>
    intro n r hs hn
    obtain ⟨n, rfl⟩ : ∃ j, n = j + 1 := ⟨n - 1, by omega⟩
    rw [List.length_cons] at hn
    obtain ⟨h1, h2⟩ := pc_rt (hs c (List.mem_cons_self ..)) (s.flatMap esc ++ 34 :: r)
    rw [List.flatMap_cons, List.append_assoc, pS, if_neg h2, h1]
    dsimp only
    rw [ih n r (fun x hx => hs x (List.mem_cons_of_mem _ hx)) (by omega)]
/-- not a digit first -/
def ND (r : List Nat) : Prop := ∀ c, r.head? = some c → isD c = false
theorem dv_rt : ∀ (k m v : Nat) (r : List Nat), ND r → dv v (dgs k m ++ r) = (v * 10 ^ k + m % 10 ^ k, r) := by
  intro k
  induction k with
  | zero =>
    intro m v r hr
    rw [dgs, List.nil_append, Nat.pow_zero, Nat.mod_one]
    cases r with
    | nil => rw [dv]; simp
    | cons c r =>
      rw [dv, if_neg (by rw [hr c rfl]; simp)]
      simp
  | succ k ih =>
    intro m v r hr
    have hd : m / 10 ^ k % 10 < 10 := Nat.mod_lt _ (by omega)
    rw [dgs, List.cons_append, dv, if_pos (by unfold isD; simp; omega), show 48 + m / 10 ^ k % 10 - 48 = m / 10 ^ k % 10 by omega, ih _ _ _ hr]
    congr 1
    have h1 : m % 10 ^ (k + 1) = m % 10 ^ k + 10 ^ k * (m / 10 ^ k % 10) := by
      rw [Nat.pow_succ, Nat.mod_mul]
    rw [h1, Nat.add_mul, Nat.pow_succ, Nat.mul_comm 10 v, Nat.mul_assoc, Nat.mul_comm 10 (10 ^ k), Nat.mul_comm (10 ^ k) (m / 10 ^ k % 10)]
    omega
theorem nlA_s : ∀ (f k m : Nat), 1 ≤ k → (k = 1 ∨ 10 ^ (k - 1) ≤ m) → m < 10 ^ (k + f) → m < 10 ^ nlA f k m ∧ 1 ≤ nlA f k m ∧ (nlA f k m = 1 ∨ 10 ^ (nlA f k m - 1) ≤ m) := by
  intro f
  induction f with
  | zero => intro k m h1 h2 h3; exact ⟨h3, h1, h2⟩
  | succ f ih =>
    intro k m h1 h2 h3
    rw [nlA]
    split
    · rename_i h
      exact ⟨h, h1, h2⟩
    · rename_i h
      refine ih (k + 1) m (by omega) (Or.inr ?_) (by rw [show k + 1 + f = k + (f + 1) by omega]; exact h3)
      rw [Nat.add_sub_cancel]
      omega
theorem pD_rt {m : Nat} (hm : m ≤ 9007199254740991) {r : List Nat} (hr : ND r) : pD (dgs (nl m) m ++ r) = some (m, r) := by
  obtain ⟨h1, h2, h3⟩ := nlA_s 15 1 m (by omega) (Or.inl rfl) (by
    have : (10 : Nat) ^ (1 + 15) = 10000000000000000 := by decide
    omega)
  unfold nl
  obtain ⟨k, hk⟩ : ∃ k, nlA 15 1 m = k + 1 := ⟨nlA 15 1 m - 1, by omega⟩
  rw [hk] at h1 h3 ⊢
  rw [Nat.add_sub_cancel] at h3
  have hpos : 0 < 10 ^ k := Nat.pow_pos (by omega)
  have hlt : m / 10 ^ k < 10 := by
    rw [Nat.div_lt_iff_lt_mul hpos, Nat.mul_comm, ← Nat.pow_succ]
    exact h1
  have hd : m / 10 ^ k % 10 = m / 10 ^ k := Nat.mod_eq_of_lt hlt
  rw [dgs, List.cons_append, pD, hd, if_pos (by unfold isD; simp; omega)]
  by_cases hz : m / 10 ^ k = 0
  · have hk0 : k = 0 := by
      rcases h3 with h3 | h3
      · omega
      · have := Nat.div_pos h3 hpos
        omega
    subst hk0
    rw [Nat.pow_zero, Nat.div_one] at hz
    subst hz
    rw [if_pos (by rfl)]
    rfl
  · rw [if_neg (by omega), show 48 + m / 10 ^ k - 48 = m / 10 ^ k by omega, dv_rt k m _ r hr]
    congr 2
    exact Nat.div_add_mod' m (10 ^ k)
theorem pN_rt {z : Int} (h1 : -9007199254740991 ≤ z) (h2 : z ≤ 9007199254740991) {r : List Nat} (hr : ND r) : pN (nt z ++ r) = .inr (z, r) := by
  have hp := pD_rt (m := z.natAbs) (by omega) hr
  unfold nt pN
  by_cases hz : z < 0
  · rw [if_pos hz, List.append_assoc, List.singleton_append, List.head?_cons, if_pos rfl, List.tail_cons, pNd, hp]
    dsimp only
    rw [if_neg (by omega)]
    congr 2
    omega
  · rw [if_neg hz, List.nil_append]
    have hh : (dgs (nl z.natAbs) z.natAbs ++ r).head? ≠ some 45 := by
      intro h
      cases hd : dgs (nl z.natAbs) z.natAbs with
      | nil =>
        have := dgs_len (nl z.natAbs) z.natAbs
        have h3 := nlA_pos 15 1 z.natAbs (by omega)
        unfold nl at *
        rw [hd] at this
        simp at this
        omega
      | cons c w =>
        rw [hd] at h
        have := dgs_lt _ _ c (by rw [hd]; exact List.mem_cons_self ..)
        simp at h
        omega
    rw [if_neg hh, pNd, hp]
    dsimp only
    rw [if_neg (by omega)]
    congr 2
    omega
section RT
variable {α : Type} {rec : List Nat → List Nat ⊕ (α × List Nat)} {g : α → List Nat}
theorem blk_c {c : Nat} {r : List Nat} (h : isB c = false) : blk (c :: r) = c :: r := by
  rw [blk, if_neg (by rw [h]; simp)]
theorem nd_c {c : Nat} {r : List Nat} (h : isD c = false) : ND (c :: r) := fun x hx => by
  rw [← Option.some.inj hx]
  exact h
theorem pE_rt {l0 : List α} (hrec : ∀ x ∈ l0, ∀ r, ND r → rec (g x ++ r) = .inr (x, r)) : ∀ (l : List α) (x : α) (n : Nat) (r : List Nat), x ∈ l0 → (∀ y ∈ l, y ∈ l0) → l.length < n → pE rec n (g x ++ (l.map g).flatMap (fun y => 44 :: y) ++ 93 :: r) = .inr (x :: l, r) := by
  intro l
  induction l with
  | nil =>
    intro x n r hx _ hn
    obtain ⟨n, rfl⟩ : ∃ j, n = j + 1 := ⟨n - 1, by omega⟩
    rw [List.map_nil, List.flatMap_nil, List.append_nil, pE, hrec x hx _ (nd_c (by decide))]
    dsimp only
    rw [blk_c (by decide), List.head?_cons, if_neg (by decide), if_pos rfl]
    rfl
  | cons y l ih =>
    intro x n r hx hl hn
    obtain ⟨n, rfl⟩ : ∃ j, n = j + 1 := ⟨n - 1, by omega⟩
    rw [List.length_cons] at hn
    rw [List.map_cons, List.flatMap_cons, List.append_assoc, List.append_assoc, List.cons_append, pE, hrec x hx _ (nd_c (by decide))]
    dsimp only
    rw [blk_c (by decide), List.head?_cons, if_pos rfl, List.tail_cons, ← List.append_assoc, ih y n r (hl y (List.mem_cons_self ..)) (fun z hz => hl z (List.mem_cons_of_mem _ hz)) (by omega)]
theorem flat_ge (l : List (List Nat)) : l.length ≤ (l.flatMap (fun y => 44 :: y)).length := by
  rw [fm44]
  omega
/-- a text that begins a value -/
def BV (w : List Nat) : Prop := ∃ c w', w = c :: w' ∧ isB c = false ∧ c ≠ 93 ∧ c ≠ 125
theorem pA_rt {l : List α} (hrec : ∀ x ∈ l, ∀ r, ND r → rec (g x ++ r) = .inr (x, r)) (hbv : ∀ x ∈ l, BV (g x)) (r : List Nat) : pA rec (cj (l.map g) ++ 93 :: r) = .inr (l, r) := by
  unfold pA
  cases l with
  | nil =>
    rw [List.map_nil, cj, List.nil_append, blk_c (by decide), List.head?_cons, if_pos rfl]
    rfl
  | cons x l =>
    obtain ⟨c, w, hw, h1, h2, _⟩ := hbv x (List.mem_cons_self ..)
    have hb : blk (cj ((x :: l).map g) ++ 93 :: r) = cj ((x :: l).map g) ++ 93 :: r := by
      rw [List.map_cons, cj, hw]
      simp only [List.cons_append]
      exact blk_c h1
    rw [hb, if_neg (by rw [List.map_cons, cj, hw]; simp only [List.cons_append, List.head?_cons]; exact fun h => h2 (Option.some.inj h)), List.map_cons, cj]
    exact pE_rt hrec l x _ r (List.mem_cons_self ..) (fun y hy => List.mem_cons_of_mem _ hy) (by
      have := flat_ge (l.map g)
      rw [List.length_map] at this
      simp only [List.length_append, List.length_cons]
      omega)
theorem pM_rt {seen : List Sx} {s : Sx} {x : α} (hs : sok s) (hns : s ∉ seen) {r : List Nat} (hrec : rec (g x ++ r) = .inr (x, r)) : pM rec seen (qt s ++ 58 :: g x ++ r) = .inr ((s, x), r) := by
  unfold pM qt
  simp only [List.cons_append, List.append_assoc, List.nil_append]
  rw [blk_c (by decide), List.head?_cons, if_pos rfl, List.tail_cons, pS_rt s _ _ hs (by
    have := escs_len s
    simp only [List.length_cons, List.length_append]
    omega)]
  dsimp only
  rw [if_neg hns, blk_c (by decide), List.head?_cons, if_pos rfl, List.tail_cons, hrec]
theorem pF_rt {l0 : List (Sx × α)} (hrec : ∀ p ∈ l0, ∀ r, ND r → rec (g p.2 ++ r) = .inr (p.2, r)) (hok : ∀ p ∈ l0, sok p.1) : ∀ (l : List (Sx × α)) (p : Sx × α) (n : Nat) (seen : List Sx) (r : List Nat), p ∈ l0 → (∀ y ∈ l, y ∈ l0) → (seen ++ (p :: l).map (fun y => y.1)).Nodup → l.length < n → pF rec n seen ((qt p.1 ++ 58 :: g p.2) ++ (l.map (fun y => qt y.1 ++ 58 :: g y.2)).flatMap (fun y => 44 :: y) ++ 125 :: r) = .inr (p :: l, r) := by
  intro l
  induction l with
  | nil =>
    intro p n seen r hp _ hnd hn
    obtain ⟨n, rfl⟩ : ∃ j, n = j + 1 := ⟨n - 1, by omega⟩
    have hns : p.1 ∉ seen := fun h => (List.nodup_append.mp hnd).2.2 _ h _ (by simp) rfl
    rw [List.map_nil, List.flatMap_nil, List.append_nil, pF, pM_rt (hok p hp) hns (hrec p hp _ (nd_c (by decide)))]
    dsimp only
    rw [blk_c (by decide), List.head?_cons, if_neg (by decide), if_pos rfl]
    rfl
  | cons y l ih =>
    intro p n seen r hp hl hnd hn
    obtain ⟨n, rfl⟩ : ∃ j, n = j + 1 := ⟨n - 1, by omega⟩
    rw [List.length_cons] at hn
    have hns : p.1 ∉ seen := fun h => (List.nodup_append.mp hnd).2.2 _ h _ (by simp) rfl
    rw [show (qt p.1 ++ 58 :: g p.2) ++ ((y :: l).map (fun y => qt y.1 ++ 58 :: g y.2)).flatMap (fun y => 44 :: y) ++ 125 :: r = (qt p.1 ++ 58 :: g p.2) ++ 44 :: ((qt y.1 ++ 58 :: g y.2) ++ (l.map (fun y => qt y.1 ++ 58 :: g y.2)).flatMap (fun y => 44 :: y) ++ 125 :: r) by simp, pF, pM_rt (hok p hp) hns (hrec p hp _ (nd_c (by decide)))]
    dsimp only
    rw [blk_c (by decide), List.head?_cons, if_pos rfl, List.tail_cons, ih y n (seen ++ [p.1]) r (hl y (List.mem_cons_self ..)) (fun z hz => hl z (List.mem_cons_of_mem _ hz)) (by
      rw [List.append_assoc]
      exact hnd) (by omega)]
theorem pO_rt {l : List (Sx × α)} (hrec : ∀ p ∈ l, ∀ r, ND r → rec (g p.2 ++ r) = .inr (p.2, r)) (hok : ∀ p ∈ l, sok p.1) (hnd : (l.map (fun p => p.1)).Nodup) (r : List Nat) : pO rec (cj (l.map (fun p => qt p.1 ++ 58 :: g p.2)) ++ 125 :: r) = .inr (l, r) := by
  unfold pO
  cases l with
  | nil =>
    rw [List.map_nil, cj, List.nil_append, blk_c (by decide), List.head?_cons, if_pos rfl]
    rfl
  | cons p l =>
    have hb : ∃ w, cj ((p :: l).map (fun p => qt p.1 ++ 58 :: g p.2)) ++ 125 :: r = 34 :: w := by
      rw [List.map_cons, cj]
      unfold qt
      simp only [List.cons_append]
      exact ⟨_, rfl⟩
    obtain ⟨w, hw⟩ := hb
    rw [hw, blk_c (by decide), List.head?_cons, if_neg (by decide), ← hw, List.map_cons, cj]
    exact pF_rt hrec hok l p _ [] r (List.mem_cons_self ..) (fun y hy => List.mem_cons_of_mem _ hy) hnd (by
      have := flat_ge (l.map (fun p => qt p.1 ++ 58 :: g p.2))
      rw [List.length_map] at this
      simp only [List.length_append, List.length_cons]
      omega)
end RT
theorem nt_head (z : Int) : ∃ c w, nt z = c :: w ∧ (c = 45 ∨ (48 ≤ c ∧ c < 58)) := by
  unfold nt
  split
  · exact ⟨45, _, rfl, Or.inl rfl⟩
  · have h1 := dgs_len (nl z.natAbs) z.natAbs
    have h3 := nlA_pos 15 1 z.natAbs (by omega)
    cases hd : dgs (nl z.natAbs) z.natAbs with
    | nil =>
      rw [hd] at h1
      unfold nl at h1
      simp at h1
      omega
    | cons c w =>
      exact ⟨c, w, rfl, Or.inr (dgs_lt _ _ c (by rw [hd]; exact List.mem_cons_self ..))⟩
theorem jt_bv {d : Nat} (j : JT (d + 1)) (hj : jok (d + 1) j) : BV (jt (d + 1) j) := by
  rcases jcases j with ⟨k, rfl⟩ | ⟨z, rfl⟩ | ⟨s, rfl⟩ | ⟨l, rfl⟩ | ⟨l, rfl⟩
  · have hk : k < 3 := hj
    rw [jt_k]
    obtain rfl | rfl | rfl : k = 0 ∨ k = 1 ∨ k = 2 := by omega
    · exact ⟨110, _, rfl, by decide, by decide, by decide⟩
    · exact ⟨102, _, rfl, by decide, by decide, by decide⟩
    · exact ⟨116, _, rfl, by decide, by decide, by decide⟩
  · rw [jt_n]
    obtain ⟨c, w, h, hc⟩ := nt_head z
    refine ⟨c, w, h, ?_, by omega, by omega⟩
    unfold isB
    simp
    omega
  · exact ⟨34, _, rfl, by decide, by decide, by decide⟩
  · exact ⟨91, _, rfl, by decide, by decide, by decide⟩
  · exact ⟨123, _, rfl, by decide, by decide, by decide⟩
theorem rt : ∀ (k o : Nat) (j : JT (k + 1)), o ≤ k → jok (k + 1) j → jd (k + 1) j ≤ o → ∀ r, ND r → pV k o (jt (k + 1) j ++ r) = .inr (j, r) := by
  intro k
  induction k with
  | zero =>
    intro o j ho hj hd r hr
    rcases jcases j with ⟨w, rfl⟩ | ⟨z, rfl⟩ | ⟨s, rfl⟩ | ⟨l, rfl⟩ | ⟨l, rfl⟩
    · have hk : w < 3 := hj
      rw [jt_k]
      obtain rfl | rfl | rfl : w = 0 ∨ w = 1 ∨ w = 2 := by omega
      · exact congrArg (fun x => match x with | .inl x => Sum.inl x | .inr r1 => Sum.inr ((jk 0 : JT (0 + 1)), r1)) (pw_rt (wd 0) r)
      · exact congrArg (fun x => match x with | .inl x => Sum.inl x | .inr r1 => Sum.inr ((jk 1 : JT (0 + 1)), r1)) (pw_rt (wd 1) r)
      · exact congrArg (fun x => match x with | .inl x => Sum.inl x | .inr r1 => Sum.inr ((jk 2 : JT (0 + 1)), r1)) (pw_rt (wd 2) r)
    · rw [jok_n] at hj
      have h := pN_rt hj.1 hj.2 hr
      rw [jt_n]
      obtain ⟨c, w, hw, hc⟩ := nt_head z
      rw [hw, List.cons_append] at h ⊢
      rw [pV, blk_c (by unfold isB; simp; omega)]
      simp only [List.head?_cons, Option.some.injEq]
      rw [if_neg (by omega), if_neg (by omega), if_neg (by omega), if_neg (by omega), if_neg (by omega), h]
      rfl
    · rw [jt_s]
      unfold qt
      rw [List.cons_append, List.append_assoc, pV, blk_c (by decide)]
      simp only [List.head?_cons, Option.some.injEq, List.tail_cons]
      rw [if_neg (by decide), if_neg (by decide), if_neg (by decide), if_pos trivial, List.singleton_append, pS_rt s _ _ hj (by
        have := escs_len s
        simp only [List.length_cons, List.length_append]
        omega)]
      rfl
    · have := jd_a_pos (l := l)
      omega
    · have := jd_o_pos (l := l)
      omega
  | succ k ih =>
    intro o j ho hj hd r hr
    rcases jcases j with ⟨w, rfl⟩ | ⟨z, rfl⟩ | ⟨s, rfl⟩ | ⟨l, rfl⟩ | ⟨l, rfl⟩
    · have hk : w < 3 := hj
      rw [jt_k]
      obtain rfl | rfl | rfl : w = 0 ∨ w = 1 ∨ w = 2 := by omega
      · exact congrArg (fun x => match x with | .inl x => Sum.inl x | .inr r1 => Sum.inr ((jk 0 : JT (k + 1 + 1)), r1)) (pw_rt (wd 0) r)
      · exact congrArg (fun x => match x with | .inl x => Sum.inl x | .inr r1 => Sum.inr ((jk 1 : JT (k + 1 + 1)), r1)) (pw_rt (wd 1) r)
      · exact congrArg (fun x => match x with | .inl x => Sum.inl x | .inr r1 => Sum.inr ((jk 2 : JT (k + 1 + 1)), r1)) (pw_rt (wd 2) r)
    · rw [jok_n] at hj
      have h := pN_rt hj.1 hj.2 hr
      rw [jt_n]
      obtain ⟨c, w, hw, hc⟩ := nt_head z
      rw [hw, List.cons_append] at h ⊢
      rw [pV, blk_c (by unfold isB; simp; omega)]
      simp only [List.head?_cons, Option.some.injEq]
      rw [if_neg (by omega), if_neg (by omega), if_neg (by omega), if_neg (by omega), if_neg (by omega), if_neg (by omega), h]
      rfl
    · rw [jt_s]
      unfold qt
      rw [List.cons_append, List.append_assoc, pV, blk_c (by decide)]
      simp only [List.head?_cons, Option.some.injEq, List.tail_cons]
      rw [if_neg (by decide), if_neg (by decide), if_neg (by decide), if_pos trivial, List.singleton_append, pS_rt s _ _ hj (by
        have := escs_len s
        simp only [List.length_cons, List.length_append]
        omega)]
      rfl
    · have hp := jd_a_pos (l := l)
      obtain ⟨o, rfl⟩ : ∃ q, o = q + 1 := ⟨o - 1, by omega⟩
      have hdl := jd_a_le.mp hd
      rw [jt_a, List.cons_append, List.append_assoc, pV, blk_c (by decide)]
      simp only [List.head?_cons, Option.some.injEq, List.tail_cons]
      rw [if_neg (by decide), if_neg (by decide), if_neg (by decide), if_neg (by decide), if_pos trivial, if_neg (by omega), List.singleton_append, Nat.add_sub_cancel, pA_rt (g := jt (k + 1)) (fun x hx r hr => ih o x (by omega) (hj x hx) (hdl x hx) r hr) (fun x hx => jt_bv x (hj x hx))]
      rfl
    · have hp := jd_o_pos (l := l)
      obtain ⟨o, rfl⟩ : ∃ q, o = q + 1 := ⟨o - 1, by omega⟩
      have hdl := jd_o_le.mp hd
      rw [jt_o, List.cons_append, List.append_assoc, pV, blk_c (by decide)]
      simp only [List.head?_cons, Option.some.injEq, List.tail_cons]
      rw [if_neg (by decide), if_neg (by decide), if_neg (by decide), if_neg (by decide), if_neg (by decide), if_pos trivial, if_neg (by omega), List.singleton_append, Nat.add_sub_cancel, pO_rt (g := jt (k + 1)) (fun p hp r hr => ih o p.2 (by omega) (hj.1 p hp).2 (hdl p hp) r hr) (fun p hp => (hj.1 p hp).1) hj.2]
      rfl
theorem rtT {k o : Nat} {j : JT (k + 1)} (ho : o ≤ k) (hj : jok (k + 1) j) (hd : jd (k + 1) j ≤ o) : pV k o (jt (k + 1) j) = .inr (j, []) := by
  have := rt k o j ho hj hd [] (fun c h => by simp at h)
  rwa [List.append_nil] at this
