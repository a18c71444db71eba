/-! ===== the bench: what is kept ===== -/
theorem esc_pos (c : Nat) : 1 ≤ (esc c).length := by
  unfold esc
  repeat' split
  all_goals simp
theorem escs_len (s : Sx) : s.length ≤ (s.flatMap esc).length := by
  induction s with
  | nil => exact Nat.le_refl _
  | cons c s ih =>
    have := esc_pos c
    rw [List.flatMap_cons, List.length_append, List.length_cons]
    omega
theorem qt_len (s : Sx) : s.length + 2 ≤ (qt s).length := by
  unfold qt
  have := escs_len s
  rw [List.length_cons, List.length_append, List.length_singleton]
  omega
def sml {α : Type} (g : α → List Nat) (l : List α) : Nat := (l.map (fun x => (g x).length)).sum
theorem fm44 {l : List (List Nat)} : (l.flatMap (fun y => 44 :: y)).length = (l.map List.length).sum + l.length := by
  induction l with
  | nil => rfl
  | cons x l ih =>
    rw [List.flatMap_cons, List.length_append, ih, List.map_cons, List.sum_cons, List.length_cons, List.length_cons]
    omega
theorem cj_len {l : List (List Nat)} : (cj l).length + 1 = (l.map List.length).sum + max l.length 1 := by
  cases l with
  | nil => rfl
  | cons x l =>
    rw [cj, List.length_append, fm44, List.map_cons, List.sum_cons, List.length_cons]
    omega
theorem nlA_pos : ∀ (f k n : Nat), 1 ≤ k → 1 ≤ nlA f k n := by
  intro f
  induction f with
  | zero => intro k n h; exact h
  | succ f ih =>
    intro k n h
    rw [nlA]
    split
    · exact h
    · exact ih _ _ (by omega)
theorem dgs_len : ∀ (k n : Nat), (dgs k n).length = k := by
  intro k
  induction k with
  | zero => intro n; rfl
  | succ k ih => intro n; rw [dgs, List.length_cons, ih]
theorem nt_pos (z : Int) : 1 ≤ (nt z).length := by
  unfold nt
  have := nlA_pos 15 1 z.natAbs (by omega)
  rw [List.length_append, dgs_len]
  unfold nl
  omega
theorem wd_pos (k : Nat) : 4 ≤ (wd k).length := by
  unfold wd
  split
  · simp
  · split <;> simp
theorem sum_le {α : Type} {a b : α → Nat} : ∀ {l : List α}, (∀ x ∈ l, a x ≤ b x) → (l.map a).sum ≤ (l.map b).sum := by
  intro l
  induction l with
  | nil => intro _; exact Nat.le_refl _
  | cons x l ih =>
    intro h
    rw [List.map_cons, List.map_cons, List.sum_cons, List.sum_cons]
    have := h x (List.mem_cons_self ..)
    have := ih (fun y hy => h y (List.mem_cons_of_mem _ hy))
    omega
/-- the cells are not more than the text -/
theorem jc_le_jt : ∀ (d : Nat) (j : JT d), (jc d j).length ≤ (jt d j).length := by
  intro d
  induction d with
  | zero => exact fun j => (j0 j).elim
  | succ d ih =>
    intro j
    rcases jcases j with ⟨k, rfl⟩ | ⟨z, rfl⟩ | ⟨s, rfl⟩ | ⟨l, rfl⟩ | ⟨l, rfl⟩
    · rw [jt_k]
      have := wd_pos k
      show 1 ≤ _
      omega
    · exact nt_pos z
    · rw [jc_s, strc_len, jt_s]
      have := qt_len s
      omega
    · rw [jc_a, jt_a, lst_len, sm_flat, List.length_cons, List.length_append]
      have h1 := cj_len (l := l.map (jt d))
      rw [List.map_map] at h1
      have h2 : sm (fun x => (jc d x).length) l ≤ (l.map (List.length ∘ jt d)).sum := sum_le (fun x _ => ih x)
      rw [List.length_singleton]
      omega
    · rw [jc_o, jt_o, lst_len, sm_flat, List.length_cons, List.length_append]
      have h1 := cj_len (l := l.map (fun p => qt p.1 ++ 58 :: jt d p.2))
      rw [List.map_map] at h1
      have h2 : sm (fun x : Sx × JT d => (strc x.1 ++ jc d x.2).length) l ≤ (l.map (List.length ∘ (fun p : Sx × JT d => qt p.1 ++ 58 :: jt d p.2))).sum := sum_le (fun x _ => by
        have := ih x.2
        have := qt_len x.1
        show (strc x.1 ++ jc d x.2).length ≤ (qt x.1 ++ 58 :: jt d x.2).length
        rw [List.length_append, List.length_append, strc_len, List.length_cons]
        omega)
      rw [List.length_singleton]
      omega
theorem jd_lt5 {d : Nat} {j : JT (d + 1)} (h : kd (d + 1) j < 5) : jd (d + 1) j = 0 := by
  rcases jcases j with ⟨k, rfl⟩ | ⟨z, rfl⟩ | ⟨s, rfl⟩ | ⟨l, rfl⟩ | ⟨l, rfl⟩
  · rfl
  · rfl
  · rfl
  · exact absurd h (by rw [kd_a]; omega)
  · exact absurd h (by rw [kd_o]; omega)
/-- what may stand in a register -/
def fit {d : Nat} (j : JT d) : Prop := jd d j ≤ 60 ∧ (jt d j).length ≤ 4096
noncomputable def fitD {d : Nat} (j : JT d) : Decidable (fit j) := Classical.propDecidable _
def rg (x : Int32) : Prop := ¬ (x < 0) ∧ ¬ ((7 : Int32) < x)
section BE
variable {n fu : Nat}
theorem within_w (x m : Int32) : fB_isWithin n x m = some (if ¬ x < 0 ∧ ¬ m < x then 1 else 0) := by
  unfold fB_isWithin
  by_cases h1 : x < 0
  · rw [if_pos h1, if_neg (fun h => h.1 h1)]
  · rw [if_neg h1]
    by_cases h2 : m < x
    · rw [if_pos h2, if_neg (fun h => h.2 h2)]
    · rw [if_neg h2, if_pos ⟨h1, h2⟩]
theorem reg_T {x : Int32} (h : ¬ x < 0 ∧ ¬ (7 : Int32) < x) : fB_isRegister n x = some 1 := by
  unfold fB_isRegister
  rw [within_w, Option.bind_some, if_pos h]
  rfl
theorem reg_F {x : Int32} (h : ¬ (¬ x < 0 ∧ ¬ (7 : Int32) < x)) : fB_isRegister n x = some 0 := by
  unfold fB_isRegister
  rw [within_w, Option.bind_some, if_neg h]
  rfl
theorem dem0 : fB_demand n 0 = some 1 := rfl
theorem dem1 : fB_demand n 1 = some 0 := rfl
theorem reg_i {x : Int32} (h : ¬ x < 0 ∧ ¬ (7 : Int32) < x) : ¬ (x < 0 ∨ 8 ≤ x.toNatClampNeg) ∧ ∃ k, k < 8 ∧ x = i3 k := by
  rcases i3_cases x with h' | ⟨k, hk, rfl⟩
  · exact absurd h' h.1
  · have h2 := h.2
    rw [show (7 : Int32) = i3 7 from rfl, i3_lt (by omega) (by omega)] at h2
    exact ⟨i3_idx (by omega) (by omega), k, by omega, rfl⟩
theorem with_i {x : Int32} {m : Nat} (hm : m < 1000) (h : ¬ x < 0 ∧ ¬ i3 m < x) : ∃ k, k ≤ m ∧ x = i3 k := by
  rcases i3_cases x with h' | ⟨k, hk, rfl⟩
  · exact absurd h' h.1
  · have h2 := h.2
    rw [i3_lt (by omega) (by omega)] at h2
    exact ⟨k, by omega, rfl⟩
variable {f0 : Nat → Int32} {v1 v2 : Int32} {f3 : Nat → Int32} {v4 v5 : Int32} {f9 f10 f12 f14 : Nat → Int32} {p11 p13 : Nat} {v15 v19 v20 : Int32}
theorem keepSpare_w (hn : 140000 < n) {e : Nat} (hfu : e + 1 ≤ fu) (hfu2 : 61 ≤ fu) {x : Int32} (hx : ¬ x < 0 ∧ ¬ (7 : Int32) < x) {t : TS} {r0 r : RS} (h0 : r0.2.1 = 0 ∧ r0.2.2 = 0) {j : JT (e + 1)} (hj : jok (e + 1) j) (hw : Wr r0 (jc (e + 1) j) r) : ∃ t' : TS, RV t' ∧ ((fit j ∧ fB_keepSpare fu n x f0 v1 v2 f3 v4 v5 t.1 (i3 t.2.1) t.2.2 f9 f10 p11 f12 p13 f14 v15 r.1 (i3 r.2.1) r.2.2 v19 v20 = some (0, i3 (jt (e + 1) j).length, t'.1, i3 t'.2.1, t'.2.2) ∧ r.2.1 = (jc (e + 1) j).length ∧ r.2.2 = 0 ∧ At r.1 r.2.1 0 (jc (e + 1) j)) ∨ (¬ fit j ∧ fB_keepSpare fu n x f0 v1 v2 f3 v4 v5 t.1 (i3 t.2.1) t.2.2 f9 f10 p11 f12 p13 f14 v15 r.1 (i3 r.2.1) r.2.2 v19 v20 = some (1, 0, t'.1, i3 t'.2.1, t'.2.2))) := by
  have hle := jc_le_jt (e + 1) j
  obtain ⟨hx1, _⟩ := reg_i hx
  have hrv := hw.v
  unfold fB_keepSpare fT_clear fT_size
  rw [Option.bind_some]
  dsimp only
  by_cases hr : r.2.2 = 0
  · obtain ⟨g1, _, g3⟩ := hw.end0 hr
    rw [h0.1, Nat.zero_add] at g1
    have hat : At r.1 r.2.1 0 (jc (e + 1) j) := by
      rcases hw.2 with ⟨_, _, _, _, _, g⟩ | ⟨_, g⟩
      · rw [h0.1] at g
        exact ⟨g, by omega, g3⟩
      · rw [hr] at g
        exact absurd g (by decide)
    obtain ⟨t1, e1, k1, k2, k3⟩ := write_w (n := n) (by omega) (e + 1) fu j r.1 0 r.2.1 0 r.2.2 (t.1, 0, 0) hj hat hfu (by omega) ⟨by simp, Or.inl rfl⟩
    have e1' : fP_write fu n 0 0 r.1 (i3 r.2.1) r.2.2 t.1 0 0 = some (t1.1, i3 t1.2.1, t1.2.2) := e1
    refine ⟨t1, k1, ?_⟩
    rw [e1', Option.bind_some]
    have ho : fR_isOver n r.1 (i3 r.2.1) r.2.2 = some 0 := by unfold fR_isOver; rw [hr]; rfl
    rw [ho, Option.bind_some, if_pos rfl]
    dsimp only
    have over : t1.2.2 = 1 → ((fT_isOver n t1.1 (i3 t1.2.1) t1.2.2).bind fun o8 => if o8 = 0 then (if x < 0 ∨ 8 ≤ x.toNatClampNeg then none else if x < 0 ∨ 8 ≤ x.toNatClampNeg then none else (some (i3 t1.2.1)).bind fun o13 => some (0, o13, t1.1, i3 t1.2.1, t1.2.2)) else some (1, 0, t1.1, i3 t1.2.1, t1.2.2)) = some ((1 : Nat), (0 : Int32), t1.1, i3 t1.2.1, t1.2.2) := by
      intro h
      unfold fT_isOver
      rw [h]
      rfl
    by_cases hd : jd (e + 1) j ≤ 60
    · have hw1 := k2 (Or.inr (by omega))
      by_cases hl : (jt (e + 1) j).length ≤ 4096
      · have hz := hw1.fits rfl (by rw [List.length_map]; show 0 + _ ≤ 4096; omega)
        obtain ⟨z1, _, _⟩ := hw1.end0 hz
        rw [List.length_map] at z1
        have z2 : t1.2.1 = (jt (e + 1) j).length := by rw [z1]; show 0 + _ = _; omega
        refine Or.inl ⟨⟨hd, hl⟩, ?_, g1, hr, hat⟩
        have ho2 : fT_isOver n t1.1 (i3 t1.2.1) t1.2.2 = some 0 := by unfold fT_isOver; rw [hz]; rfl
        rw [ho2, Option.bind_some, if_pos rfl, if_neg hx1, if_neg hx1, Option.bind_some, z2]
      · refine Or.inr ⟨fun h => hl h.2, over ?_⟩
        rcases hw1.2 with ⟨_, g, _⟩ | ⟨_, g⟩
        · rw [List.length_map] at g
          have : 0 + (jt (e + 1) j).length ≤ 4096 := g
          omega
        · exact g
    · refine Or.inr ⟨fun h => hd h.1, over (k3 ?_)⟩
      rintro (h | h)
      · rw [jd_lt5 h] at hd
        omega
      · exact hd (by omega)
  · have hr1 : r.2.2 = 1 := hrv.2.resolve_left hr
    obtain ⟨t1, e1, k1⟩ := writeT (n := n) (f := r.1) (v := r.2.1) (o := r.2.2) hn hrv.1 fu 0 0 (t.1, 0, 0) (by omega) (by omega) (by omega) ⟨by simp, Or.inl rfl⟩
    have e1' : fP_write fu n 0 0 r.1 (i3 r.2.1) r.2.2 t.1 0 0 = some (t1.1, i3 t1.2.1, t1.2.2) := e1
    refine ⟨t1, k1, Or.inr ⟨?_, ?_⟩⟩
    · intro h
      rcases hw.2 with ⟨_, _, g, _⟩ | ⟨g, _⟩
      · exact hr g
      · rw [h0.1, h0.2] at g
        rcases g with g | g
        · exact absurd g (by decide)
        · have := h.2
          omega
    · rw [e1', Option.bind_some]
      have ho : fR_isOver n r.1 (i3 r.2.1) r.2.2 = some 1 := by unfold fR_isOver; rw [hr1]; rfl
      rw [ho, Option.bind_some, if_neg (by decide)]
theorem done_0 {f6 : Nat → Int32} {v7 v8 : Int32} {f16 : Nat → Int64} {v17 v18 : Int32} : fB_demandDone n 0 f0 v1 v2 f3 v4 v5 f6 v7 v8 f9 f10 p11 f12 p13 f14 v15 f16 v17 v18 v19 v20 = some (0, v20) := rfl
theorem done_k {k : Nat} (h1 : 1 ≤ k) (h2 : k ≤ 5) {f6 : Nat → Int32} {v7 v8 : Int32} {f16 : Nat → Int64} {v17 v18 : Int32} : fB_demandDone n (i3 k) f0 v1 v2 f3 v4 v5 f6 v7 v8 f9 f10 p11 f12 p13 f14 v15 f16 v17 v18 v19 v20 = some (1, i3 k) := by
  obtain rfl | rfl | rfl | rfl | rfl : k = 1 ∨ k = 2 ∨ k = 3 ∨ k = 4 ∨ k = 5 := by omega
  all_goals rfl
end BE
