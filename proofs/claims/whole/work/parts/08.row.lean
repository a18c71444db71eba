/-! ===== strings in rows ===== -/
theorem cW_sub (a b : Int) : cW a - cW b = cW (a - b) := (Int64.ofInt_sub a b).symm
theorem cW_c {c : Nat} : (cW (c : Nat)).toInt32 = i3 c := by rw [cW_32, iz_nat]
def pf : Sx → Sx → Bool
  | [], _ => true
  | _ :: _, [] => false
  | x :: a, y :: b => decide (x = y) && pf a b
theorem pf_len : ∀ {a b : Sx}, pf a b = true → a.length ≤ b.length := by
  intro a
  induction a with
  | nil => intro b _; exact Nat.zero_le _
  | cons x a ih =>
    intro b h
    cases b with
    | nil => exact absurd h (by simp [pf])
    | cons y b =>
      simp only [pf, Bool.and_eq_true] at h
      exact Nat.succ_le_succ (ih h.2)
/-- first value of a name -/
def lu {α : Type} (s : Sx) : List (Sx × α) → Option α
  | [] => none
  | p :: l => if p.1 = s then some p.2 else lu s l
section ST
variable {n : Nat} {f g : Nat → Int64} {p q v u : Nat} {o o' : Int32} {s t : Sx}
theorem At.le (h : At f v p (strc s)) : p + 1 + s.length ≤ v ∧ v ≤ 4096 := by
  have := h.2
  rw [strc_len] at this
  omega
theorem At.hd4 (h : At f v p (strc s)) : f p = hd 4 s.length (s.length + 1) := (seg_cons.mp h.1).1
theorem At.body (h : At f v p (strc s)) : seg f (p + 1) (s.map (fun c => cW (c : Nat))) := (seg_cons.mp h.1).2
theorem At.slen (h : At f v p (strc s)) : fR_length n (i3 p) f (i3 v) o = some (i3 s.length) := by
  have := h.le
  rw [length_in (by omega) (by omega), h.hd4, hd_len (by omega) (by omega) (by omega)]
theorem At.scell (h : At f v p (strc s)) : fR_cell n (i3 p) f (i3 v) o = some (hd 4 s.length (s.length + 1)) := by
  have := h.le
  rw [cell_in (by omega) (by omega), h.hd4]
theorem At.skind (h : At f v p (strc s)) : fR_kind n (i3 p) f (i3 v) o = some (i3 4) := by
  have := h.le
  rw [kind_in (by omega) (by omega), h.hd4, hd_kind (by omega)]
theorem At.safter (h : At f v p (strc s)) : fR_after n (i3 p) f (i3 v) o = some (i3 (p + (s.length + 1))) := by
  have := h.le
  rw [after_in (by omega) (by omega), h.hd4, hd_and (by omega), show (4 : Int64) = cW ((4 : Nat) : Int) from rfl, lg_cW (by omega) (by omega) (by omega) (by omega), if_pos (by rw [izs_ge0]; omega), hd_span (by omega) (by omega) (by omega), i3_add]
theorem At.scode (h : At f v p (strc s)) {i : Nat} (hi : i < s.length) : fR_code n (i3 p) (i3 i) f (i3 v) o = some (i3 s[i]) := by
  have h2 := h.le
  rw [code_in (by omega) (by omega)]
  have h3 := seg_get h.body (i := i) (by simpa using hi)
  rw [h3, List.getElem_map, cW_c]
theorem lexC_nil_cons {α β : Type} {c : α → β → Int} {y : β} {b : List β} : lexC c [] (y :: b) = -1 := rfl
theorem lexC_cons_nil {α β : Type} {c : α → β → Int} {x : α} {a : List α} : lexC c (x :: a) [] = 1 := rfl
theorem lexC_cons {α β : Type} {c : α → β → Int} {x : α} {a : List α} {y : β} {b : List β} : lexC c (x :: a) (y :: b) = if c x y = 0 then lexC c a b else c x y := rfl
theorem lexC_nil {α β : Type} {c : α → β → Int} : lexC c ([] : List α) ([] : List β) = 0 := rfl
theorem oos_loop : ∀ (n : Nat) (a b : Sx) (k : Nat), 1 ≤ k → (∀ c ∈ a, c < 128) → (∀ c ∈ b, c < 128) → seg f (p + k) (a.map (fun c => cW (c : Nat))) → seg g (q + k) (b.map (fun c => cW (c : Nat))) → p + k + a.length ≤ v → v ≤ 4096 → q + k + b.length ≤ u → u ≤ 4096 → a.length < n →
    fR_orderOfStringsa_b f (i3 v) o g (i3 u) o' n 1 (i3 k) (i3 (min (k - 1 + a.length) (k - 1 + b.length))) (i3 (k - 1 + b.length)) (i3 (k - 1 + a.length)) (i3 p) (i3 q) = some (iz (cS a b)) := by
  intro n
  induction n with
  | zero => intro a b k _ _ _ _ _ _ _ _ _ h; omega
  | succ n ih =>
    intro a b k hk ha hb hfa hgb hpa hv hqb hu hn
    rw [fR_orderOfStringsa_b]
    cases a with
    | nil =>
      rw [if_pos (by rw [i3_lt (by simp at *; omega) (by omega)]; simp; omega)]
      cases b with
      | nil =>
        rw [if_pos rfl]
        rfl
      | cons y b =>
        simp only [List.length_nil, List.length_cons] at *
        rw [if_neg (by rw [i3_eq (by omega) (by omega)]; omega), if_neg (by rw [i3_le (by omega) (by omega)]; omega)]
        rfl
    | cons x a =>
      cases b with
      | nil =>
        simp only [List.length_nil, List.length_cons] at *
        rw [if_pos (by rw [i3_lt (by omega) (by omega)]; omega), if_neg (by rw [i3_eq (by omega) (by omega)]; omega), if_pos (by rw [i3_le (by omega) (by omega)]; omega)]
        rfl
      | cons y b =>
        simp only [List.length_cons, List.map_cons] at *
        obtain ⟨e1, hfa2⟩ := seg_cons.mp hfa
        obtain ⟨e2, hgb2⟩ := seg_cons.mp hgb
        have hx := ha x (List.mem_cons_self ..)
        have hy := hb y (List.mem_cons_self ..)
        rw [if_neg (by rw [i3_lt (by omega) (by omega)]; omega), i3_add, i3_add, if_neg (by rw [i3_le (by omega) (by omega)]; omega), if_neg (by rw [i3_le (by omega) (by omega)]; omega), if_neg (i3_idx (by omega) (by omega)), if_neg (i3_idx (by omega) (by omega)), i3_N (by omega), i3_N (by omega), e1, e2, cW_sub, show (0 : Int64) = cW 0 from rfl, lg_cW (by omega) (by omega) (by omega) (by omega)]
        unfold cS
        rw [lexC_cons]
        by_cases h : x = y
        · subst h
          rw [Int.sub_zero, if_pos (by rw [izs_eq0]; omega), if_pos (by rw [sg_eq0]; omega), i3_one]
          have := ih a b (k + 1) (by omega) (fun c hc => ha c (List.mem_cons_of_mem _ hc)) (fun c hc => hb c (List.mem_cons_of_mem _ hc)) hfa2 hgb2 (by omega) hv (by omega) hu (by omega)
          rw [show k + 1 - 1 + a.length = k - 1 + (a.length + 1) by omega, show k + 1 - 1 + b.length = k - 1 + (b.length + 1) by omega] at this
          exact this
        · rw [Int.sub_zero, if_neg (by rw [izs_eq0]; omega)]
          by_cases h2 : (x : Int) - y < 0
          · rw [if_neg (by rw [izs_ge0]; omega), if_neg (by rw [sg_eq0]; omega), show sg ((x : Int) - y) = -1 by unfold sg; rw [if_pos h2]]
            rfl
          · rw [if_pos (by rw [izs_ge0]; omega), if_neg (by rw [sg_eq0]; omega), show sg ((x : Int) - y) = 1 by unfold sg; rw [if_neg h2, if_neg (by omega)]]
            rfl
theorem At.oos (h : At f v p (strc s)) (h' : At g u q (strc t)) (hs : sok s) (ht : sok t) (hn : 4096 < n) : fR_orderOfStringsa n (i3 p) (i3 q) f (i3 v) o g (i3 u) o' = some (iz (cS s t)) := by
  have h1 := h.le
  have h2 := h'.le
  unfold fR_orderOfStringsa
  rw [if_neg (i3_nn (by omega)), if_neg (i3_nle (by omega) (by omega)), if_neg (i3_nn (by omega)), if_pos (by rw [i3_lt (by omega) (by omega)]; omega), if_neg (i3_idx (by omega) (by omega)), if_neg (i3_idx (by omega) (by omega)), i3_N (by omega), i3_N (by omega), h.hd4, h'.hd4, hd_len (by omega) (by omega) (by omega), hd_len (by omega) (by omega) (by omega)]
  have := oos_loop (o := o) (o' := o') (p := p) (q := q) (v := v) (u := u) (f := f) (g := g) n s t 1 (by omega) hs ht h.body h'.body (by omega) (by omega) (by omega) (by omega) (by omega)
  rw [show 1 - 1 + s.length = s.length by omega, show 1 - 1 + t.length = t.length by omega] at this
  by_cases h3 : t.length ≤ s.length
  · rw [if_pos (by rw [i3_le (by omega) (by omega)]; exact h3)]
    rw [Nat.min_eq_right h3] at this
    exact this
  · rw [if_neg (by rw [i3_le (by omega) (by omega)]; exact h3)]
    rw [Nat.min_eq_left (by omega)] at this
    exact this
end ST
theorem cS_refl : ∀ s : Sx, cS s s = 0 := by
  intro s
  induction s with
  | nil => rfl
  | cons x s ih =>
    unfold cS at *
    rw [lexC_cons, if_pos (by simp [sg]), ih]
theorem cS_eq : ∀ {s t : Sx}, cS s t = 0 → s = t := by
  intro s
  induction s with
  | nil =>
    intro t h
    cases t with
    | nil => rfl
    | cons y t => exact absurd h (by unfold cS; rw [lexC_nil_cons]; omega)
  | cons x s ih =>
    intro t h
    cases t with
    | nil => exact absurd h (by unfold cS; rw [lexC_cons_nil]; omega)
    | cons y t =>
      unfold cS at h
      rw [lexC_cons] at h
      by_cases hxy : sg ((x : Int) - y) = 0
      · rw [if_pos hxy] at h
        rw [sg_eq0] at hxy
        rw [ih h, show x = y by omega]
      · rw [if_neg hxy] at h
        exact absurd h hxy
theorem cS_le (s t : Sx) : -1 ≤ cS s t ∧ cS s t ≤ 1 := by
  induction s generalizing t with
  | nil => cases t <;> (unfold cS lexC; omega)
  | cons x s ih =>
    cases t with
    | nil => unfold cS lexC; omega
    | cons y t =>
      have := ih t
      have := sg_le ((x : Int) - y)
      unfold cS at *
      rw [lexC_cons]
      split <;> omega
theorem hd4_inj {a b : Nat} (ha : a < 65536) (hb : b < 65536) : hd 4 a (a + 1) = hd 4 b (b + 1) → a = b := by
  unfold hd
  rw [cW_eq (by omega) (by omega) (by omega) (by omega)]
  omega
theorem lg_zero (x y : Int64) : (lg_cmp x y = 0) = (x = y) := by
  unfold lg_cmp
  by_cases h : x > y
  · rw [if_pos h]
    refine propext ⟨fun h2 => absurd h2 (by decide), fun h2 => ?_⟩
    subst h2
    exact absurd h Int64.lt_irrefl
  · rw [if_neg h]
    by_cases h2 : x = y
    · rw [if_pos h2]
      exact propext ⟨fun _ => h2, fun _ => rfl⟩
    · rw [if_neg h2]
      exact propext ⟨fun h3 => absurd h3 (by decide), fun h3 => absurd h3 h2⟩
section VO
variable {f g : Nat → Int64} {p q v u d : Nat} {o o' : Int32} {s : Sx}
/-- the value of a name in an object -/
theorem vo_loop (hs : sok s) (hq : At g u q (strc s)) (tot : Nat) (ht : tot < 65536) (hlen : ∀ n, fR_length n (i3 p) f (i3 v) o = some (i3 tot)) : ∀ (l : List (Sx × JT d)) (n k r : Nat), (∀ x ∈ l, sok x.1 ∧ jok d x.2) → k + l.length = tot → At f v r (l.flatMap (fun x => strc x.1 ++ jc d x.2)) → 4097 + l.length < n →
    (∃ r' x, lu s l = some x ∧ x ∈ l.map (fun y => y.2) ∧ At f v r' (jc d x) ∧ fR_valueOfa_b f (i3 v) o g (i3 u) o' n 1 (i3 k) (i3 r) (i3 p) (i3 q) = some (i3 r')) ∨ (lu s l = none ∧ fR_valueOfa_b f (i3 v) o g (i3 u) o' n 1 (i3 k) (i3 r) (i3 p) (i3 q) = some (-1)) := by
  intro l
  induction l with
  | nil =>
    intro n k r _ hk _ hn
    refine Or.inr ⟨rfl, ?_⟩
    obtain ⟨n, rfl⟩ : ∃ m, n = m + 1 := ⟨n - 1, by omega⟩
    rw [fR_valueOfa_b, hlen, Option.bind_some, if_pos (by rw [i3_le (by omega) (by simp at hk; omega)]; simp at hk; omega)]
  | cons y l ih =>
    intro n k r hok hk hat hn
    rw [List.length_cons] at hk hn
    obtain ⟨n, rfl⟩ : ∃ m, n = m + 1 := ⟨n - 1, by omega⟩
    obtain ⟨hy, hy2⟩ := hok y (List.mem_cons_self ..)
    obtain ⟨h1, h2, h3⟩ := hat
    rw [List.flatMap_cons, List.append_assoc] at h1 h2
    simp only [List.length_append, strc_len] at h2
    obtain ⟨h1a, h1b⟩ := seg_app.mp h1
    obtain ⟨h1b, h1c⟩ := seg_app.mp h1b
    rw [strc_len] at h1b h1c
    have at1 : At f v r (strc y.1) := ⟨h1a, by rw [strc_len]; omega, h3⟩
    have at2 : At f v (r + (y.1.length + 1)) (jc d y.2) := ⟨h1b, by omega, h3⟩
    have at3 : At f v (r + (y.1.length + 1) + (jc d y.2).length) (l.flatMap (fun x => strc x.1 ++ jc d x.2)) := ⟨h1c, by omega, h3⟩
    have ih2 := fun m hm => ih m (k + 1) _ (fun x hx => hok x (List.mem_cons_of_mem _ hx)) (by omega) at3 hm
    have hs4 := hq.le
    rw [fR_valueOfa_b, hlen, Option.bind_some, if_neg (by rw [i3_le (by omega) (by omega)]; omega), at1.safter, Option.bind_some, at1.scell, Option.bind_some, hq.scell, Option.bind_some]
    by_cases hys : y.1 = s
    · refine Or.inl ⟨r + (y.1.length + 1), y.2, ?_, List.mem_cons_self .., at2, ?_⟩
      · unfold lu
        rw [if_pos hys]
      · rw [if_pos (by rw [lg_zero, hys]), at1.oos hq hy hs (by omega), Option.bind_some, hys, cS_refl, if_pos (by rfl)]
    · have e : lu s (y :: l) = lu s l := by
        rw [lu, if_neg hys]
      have e2 : (if lg_cmp (hd 4 y.1.length (y.1.length + 1)) (hd 4 s.length (s.length + 1)) = 0 then (fR_orderOfStringsa n (i3 r) (i3 q) f (i3 v) o g (i3 u) o').bind fun o13 => (if o13 = 0 then some (i3 (r + (y.1.length + 1))) else (fR_after n (i3 (r + (y.1.length + 1))) f (i3 v) o).bind fun o16 => fR_valueOfa_b f (i3 v) o g (i3 u) o' n 1 (i3 k + 1) o16 (i3 p) (i3 q)) else (fR_after n (i3 (r + (y.1.length + 1))) f (i3 v) o).bind fun o13 => fR_valueOfa_b f (i3 v) o g (i3 u) o' n 1 (i3 k + 1) o13 (i3 p) (i3 q)) = fR_valueOfa_b f (i3 v) o g (i3 u) o' n 1 (i3 (k + 1)) (i3 (r + (y.1.length + 1) + (jc d y.2).length)) (i3 p) (i3 q) := by
        have hne : ¬ iz (cS y.1 s) = 0 := by
          have := cS_le y.1 s
          rw [show (0 : Int32) = iz 0 from rfl, iz_eq (by omega) (by omega) (by omega) (by omega)]
          exact fun h => hys (cS_eq h)
        rw [at1.oos hq hy hs (by omega), Option.bind_some, if_neg hne, at2.after hy2, Option.bind_some, i3_one, ite_self]
      rw [e, e2]
      rcases ih2 n (by omega) with ⟨r', x, g1, g2, g3, g4⟩ | g
      · exact Or.inl ⟨r', x, g1, List.mem_cons_of_mem _ g2, g3, g4⟩
      · exact Or.inr g
end VO
/-! lists in rows -/
section LR
variable {f g : Nat → Int64} {p q v u d n : Nat} {o o' : Int32} {s : Sx}
theorem At.lhead {k len : Nat} {b : List Int64} (h : At f v p (lst k len b)) : f p = hd k len (b.length + 1) := (seg_cons.mp h.1).1
theorem At.lbody {k len : Nat} {b : List Int64} (h : At f v p (lst k len b)) : At f v (p + 1) b := ⟨(seg_cons.mp h.1).2, by have := h.2; rw [lst_len] at this; omega, h.2.2⟩
theorem At.llen {k len : Nat} {b : List Int64} (h : At f v p (lst k len b)) (hk : k < 8) (hl : len ≤ b.length) : fR_length n (i3 p) f (i3 v) o = some (i3 len) := by
  have h2 := h.2
  rw [lst_len] at h2
  rw [length_in (by omega) (by omega), h.lhead, hd_len hk (by omega) (by omega)]
theorem ja_len {l : List (JT d)} : l.length ≤ (l.flatMap (jc d)).length := flat_len (fun x _ => jc_pos d x)
theorem jo_len {l : List (Sx × JT d)} : l.length ≤ (l.flatMap (fun p => strc p.1 ++ jc d p.2)).length := flat_len (fun x _ => by rw [List.length_append, strc_len]; omega)
theorem At.alen {l : List (JT d)} (h : At f v p (jc (d + 1) (ja l))) : fR_length n (i3 p) f (i3 v) o = some (i3 l.length) := At.llen (k := 5) h (by omega) ja_len
theorem At.olen {l : List (Sx × JT d)} (h : At f v p (jc (d + 1) (jo l))) : fR_length n (i3 p) f (i3 v) o = some (i3 l.length) := At.llen (k := 6) h (by omega) jo_len
theorem At.abody {l : List (JT d)} (h : At f v p (jc (d + 1) (ja l))) : At f v (p + 1) (l.flatMap (jc d)) := At.lbody (k := 5) h
theorem At.obody {l : List (Sx × JT d)} (h : At f v p (jc (d + 1) (jo l))) : At f v (p + 1) (l.flatMap (fun p => strc p.1 ++ jc d p.2)) := At.lbody (k := 6) h
theorem At.asz {l : List (JT d)} (h : At f v p (jc (d + 1) (ja l))) : p + 1 + l.length ≤ v ∧ v ≤ 4096 := by
  have h2 := h.abody.2
  have := ja_len (l := l)
  omega
theorem At.osz {l : List (Sx × JT d)} (h : At f v p (jc (d + 1) (jo l))) : p + 1 + l.length ≤ v ∧ v ≤ 4096 := by
  have h2 := h.obody.2
  have := jo_len (l := l)
  omega
theorem At.num {z : Int} (h : At f v p (jc (d + 1) (jn z))) (h1 : -9007199254740991 ≤ z) (h2 : z ≤ 9007199254740991) : fR_number n (i3 p) f (i3 v) o = some (cW z) := by
  have h3 := h.2
  rw [jc_n, List.length_singleton] at h3
  rw [number_in (by omega) (by omega), seg_one.mp h.1, nc_num h1 h2]
theorem At.app {a b : List Int64} (h : At f v p (a ++ b)) : At f v p a ∧ At f v (p + a.length) b := by
  obtain ⟨h1, h2, h3⟩ := h
  obtain ⟨h4, h5⟩ := seg_app.mp h1
  rw [List.length_append] at h2
  exact ⟨⟨h4, by omega, h3⟩, ⟨h5, by omega, h3⟩⟩
theorem At.acons {x : JT d} {l : List (JT d)} (h : At f v p ((x :: l).flatMap (jc d))) : At f v p (jc d x) ∧ At f v (p + (jc d x).length) (l.flatMap (jc d)) := by
  rw [List.flatMap_cons] at h
  exact h.app
theorem At.ocons {x : Sx × JT d} {l : List (Sx × JT d)} (h : At f v p ((x :: l).flatMap (fun p => strc p.1 ++ jc d p.2))) : At f v p (strc x.1) ∧ At f v (p + (x.1.length + 1)) (jc d x.2) ∧ At f v (p + (x.1.length + 1) + (jc d x.2).length) (l.flatMap (fun p => strc p.1 ++ jc d p.2)) := by
  rw [List.flatMap_cons, List.append_assoc] at h
  obtain ⟨h1, h2⟩ := h.app
  obtain ⟨h2, h3⟩ := h2.app
  rw [strc_len] at h2 h3
  exact ⟨h1, h2, h3⟩
theorem At.is {j : JT d} (h : At f v p (jc d j)) (hok : jok d j) {k : Nat} (hk : k < 8) : fR_is n (i3 p) (i3 k) f (i3 v) o = some (if kd d j = k then 1 else 0) := by
  have hk8 : kd d j < 8 := by
    cases d with
    | zero => exact (j0 j).elim
    | succ d =>
      rcases jcases j with ⟨k, rfl⟩ | ⟨z, rfl⟩ | ⟨s, rfl⟩ | ⟨l, rfl⟩ | ⟨l, rfl⟩
      · rw [jok_k] at hok; rw [kd_k]; omega
      · rw [kd_n]; omega
      · rw [kd_s]; omega
      · rw [kd_a]; omega
      · rw [kd_o]; omega
  unfold fR_is
  rw [h.kind hok, Option.bind_some]
  by_cases hh : kd d j = k
  · rw [if_pos (by rw [i3_eq (by omega) (by omega)]; exact hh), if_pos hh]
  · rw [if_neg (by rw [i3_eq (by omega) (by omega)]; exact hh), if_neg hh]
theorem kd_lt8 {j : JT d} (hok : jok d j) : kd d j < 8 := by
  cases d with
  | zero => exact (j0 j).elim
  | succ d =>
    rcases jcases j with ⟨k, rfl⟩ | ⟨z, rfl⟩ | ⟨s, rfl⟩ | ⟨l, rfl⟩ | ⟨l, rfl⟩
    · rw [jok_k] at hok; rw [kd_k]; omega
    · rw [kd_n]; omega
    · rw [kd_s]; omega
    · rw [kd_a]; omega
    · rw [kd_o]; omega
theorem At.vo {l : List (Sx × JT d)} (h : At f v p (jc (d + 1) (jo l))) (hok : jok (d + 1) (jo l)) (hs : sok s) (hq : At g u q (strc s)) (hn : 8200 < n) :
    (∃ r' x, lu s l = some x ∧ x ∈ l.map (fun y => y.2) ∧ At f v r' (jc d x) ∧ fR_valueOfa n (i3 p) (i3 q) f (i3 v) o g (i3 u) o' = some (i3 r')) ∨ (lu s l = none ∧ fR_valueOfa n (i3 p) (i3 q) f (i3 v) o g (i3 u) o' = some (-1)) := by
  have h2 := h.osz
  unfold fR_valueOfa
  rw [i3_one]
  exact vo_loop hs hq l.length (by omega) (fun n => h.olen) l n 0 (p + 1) hok.1 (by omega) h.obody (by omega)
theorem hp_loop (k : Nat) (s t : Sx) (hk : k + t.length ≤ s.length) (hp : At f v p (strc s)) (hq : At g u q (strc t)) (hs : sok s) (ht : sok t) : ∀ (t' : Sx) (n i : Nat), t.drop i = t' → i + t'.length = t.length → t'.length < n → fR_hasParta_b f (i3 v) o g (i3 u) o' n 1 (i3 i) (i3 t.length) (i3 p) (i3 k) (i3 q) = some (if pf t' (s.drop (k + i)) then 1 else 0) := by
  have h1 := hp.le
  have h2 := hq.le
  intro t'
  induction t' with
  | nil =>
    intro n i hd hi hn
    obtain ⟨n, rfl⟩ : ∃ m, n = m + 1 := ⟨n - 1, by omega⟩
    rw [List.length_nil] at hi
    rw [fR_hasParta_b, if_pos (by rw [i3_le (by omega) (by omega)]; omega)]
    rfl
  | cons c t' ih =>
    intro n i hd hi hn
    rw [List.length_cons] at hi hn
    obtain ⟨n, rfl⟩ : ∃ m, n = m + 1 := ⟨n - 1, by omega⟩
    have hc : t[i]'(by omega) = c := by
      have := List.getElem_drop (xs := t) (i := i) (j := 0) (h := by rw [List.length_drop]; omega)
      simp only [hd] at this
      simpa using this.symm
    have hs2 : s.drop (k + i) = s[k + i]'(by omega) :: s.drop (k + i + 1) := List.drop_eq_getElem_cons (by omega)
    have hc1 : s[k + i]'(by omega) < 128 := hs _ (List.getElem_mem _)
    have hc2 : c < 128 := by rw [← hc]; exact ht _ (List.getElem_mem _)
    rw [fR_hasParta_b, if_neg (by rw [i3_le (by omega) (by omega)]; omega), i3_add, hp.scode (i := k + i) (by omega), Option.bind_some, hq.scode (i := i) (by omega), Option.bind_some, hs2, hc]
    unfold pf
    by_cases he : s[k + i]'(by omega) = c
    · rw [if_pos (by rw [he]), i3_one, ih n (i + 1) (by rw [← List.drop_drop, hd]; rfl) (by omega) (by omega)]
      simp [he, Nat.add_assoc]
    · rw [if_neg (by rw [i3_eq (by omega) (by omega)]; exact he)]
      simp [Ne.symm he]
theorem At.hp {k : Nat} {s t : Sx} (hk : k ≤ s.length) (hp : At f v p (strc s)) (hq : At g u q (strc t)) (hs : sok s) (ht : sok t) (hn : 4096 < n) : fR_hasParta n (i3 p) (i3 k) (i3 q) f (i3 v) o g (i3 u) o' = some (if pf t (s.drop k) then 1 else 0) := by
  have h1 := hp.le
  have h2 := hq.le
  unfold fR_hasParta
  rw [hq.slen, Option.bind_some, if_neg (i3_nn (by omega)), hp.slen, Option.bind_some, i3_add]
  by_cases h : k + t.length ≤ s.length
  · rw [if_pos (by rw [i3_le (by omega) (by omega)]; exact h)]
    exact hp_loop k s t h hp hq hs ht t n 0 rfl (by omega) (by omega)
  · rw [if_neg (by rw [i3_le (by omega) (by omega)]; exact h), if_neg]
    intro h3
    have := pf_len h3
    rw [List.length_drop] at this
    omega
end LR
