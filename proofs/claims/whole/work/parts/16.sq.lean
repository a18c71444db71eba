theorem nxA_spec {α : Type} (last : Option Sx) : ∀ (l : List (Sx × α)) (b : Option (Sx × α)),
    (∀ p, nxA last l b = some p → ((p ∈ l ∧ bh last p.1 = true) ∨ b = some p) ∧ (∀ q ∈ l, bh last q.1 = true → cS p.1 q.1 ≤ 0) ∧ (∀ y, b = some y → cS p.1 y.1 ≤ 0)) ∧ (nxA last l b = none → b = none ∧ ∀ q ∈ l, bh last q.1 = false) := by
  intro l
  induction l with
  | nil =>
    intro b
    refine ⟨fun p h => ⟨Or.inr h, fun q hq => absurd hq (by simp), fun y hy => ?_⟩, fun h => ⟨h, fun q hq => absurd hq (by simp)⟩⟩
    have h2 : b = some p := h
    rw [h2] at hy
    obtain rfl := Option.some.inj hy
    rw [cS_refl]
    omega
  | cons x l ih =>
    intro b
    rw [nxA]
    by_cases hc : ((last.all (fun t => decide (0 < cS x.1 t))) && (b.all (fun t => decide (cS x.1 t.1 < 0)))) = true
    · rw [if_pos hc]
      rw [Bool.and_eq_true] at hc
      obtain ⟨i1, i2⟩ := ih (some x)
      constructor
      · intro p hp
        obtain ⟨j1, j2, j3⟩ := i1 p hp
        have jx := j3 x rfl
        refine ⟨Or.inl ?_, fun q hq hb => ?_, fun y hy => ?_⟩
        · rcases j1 with ⟨a, b⟩ | a
          · exact ⟨List.mem_cons_of_mem _ a, b⟩
          · obtain rfl := Option.some.inj a
            exact ⟨List.mem_cons_self .., hc.1⟩
        · rcases List.mem_cons.mp hq with rfl | hq
          · exact jx
          · exact j2 q hq hb
        · rw [hy] at hc
          have h2 : cS x.1 y.1 < 0 := by simpa using hc.2
          exact cS_good.2.1 _ _ _ jx (by omega)
      · intro h
        exact absurd (i2 h).1 (by simp)
    · rw [if_neg hc]
      obtain ⟨i1, i2⟩ := ih b
      constructor
      · intro p hp
        obtain ⟨j1, j2, j3⟩ := i1 p hp
        refine ⟨?_, fun q hq hb => ?_, j3⟩
        · rcases j1 with ⟨a, b⟩ | a
          · exact Or.inl ⟨List.mem_cons_of_mem _ a, b⟩
          · exact Or.inr a
        · rcases List.mem_cons.mp hq with rfl | hq
          · cases b with
            | none =>
              unfold bh at hb
              simp [hb] at hc
            | some y =>
              unfold bh at hb
              have h2 := j3 y rfl
              have h3 : ¬ cS q.1 y.1 < 0 := fun h => hc (by simp [hb, h])
              have h4 := cS_good.1 q.1 y.1
              exact cS_good.2.1 _ _ _ h2 (by omega)
          · exact j2 q hq hb
      · intro h
        obtain ⟨j1, j2⟩ := i2 h
        refine ⟨j1, fun q hq => ?_⟩
        rcases List.mem_cons.mp hq with rfl | hq
        · rw [j1] at hc
          unfold bh
          simpa using hc
        · exact j2 q hq
theorem cnt1 {α : Type} {P Q : Sx × α → Bool} : ∀ (l : List (Sx × α)) (x : Sx × α), x ∈ l → (l.map (fun p => p.1)).Nodup → Q x = true → P x = false → (∀ y ∈ l, y.1 ≠ x.1 → P y = Q y) → l.countP Q = l.countP P + 1 := by
  intro l
  induction l with
  | nil => intro x hx; exact absurd hx (by simp)
  | cons z l ih =>
    intro x hx hnd hq hp hr
    rw [List.map_cons, List.nodup_cons] at hnd
    rcases List.mem_cons.mp hx with rfl | hx'
    · have : l.countP Q = l.countP P := by
        apply List.countP_congr
        intro y hy
        have hne : y.1 ≠ x.1 := fun h => hnd.1 (h ▸ List.mem_map_of_mem hy)
        rw [hr y (List.mem_cons_of_mem _ hy) hne]
      rw [List.countP_cons, List.countP_cons, this, hq, hp]
      simp
    · have hne : z.1 ≠ x.1 := fun h => hnd.1 (h ▸ List.mem_map_of_mem hx')
      have h1 := ih x hx' hnd.2 hq hp (fun y hy => hr y (List.mem_cons_of_mem _ hy))
      rw [List.countP_cons, List.countP_cons, h1, hr z (List.mem_cons_self ..) hne]
      omega
theorem mem_name {α : Type} {l : List (Sx × α)} (h : (l.map (fun p => p.1)).Nodup) {x y : Sx × α} (hx : x ∈ l) (hy : y ∈ l) (e : x.1 = y.1) : x = y := by
  induction l with
  | nil => exact absurd hx (by simp)
  | cons z l ih =>
    rw [List.map_cons, List.nodup_cons] at h
    rcases List.mem_cons.mp hx with rfl | hx2
    · rcases List.mem_cons.mp hy with rfl | hy2
      · rfl
      · exact absurd (e ▸ List.mem_map_of_mem hy2) h.1
    · rcases List.mem_cons.mp hy with rfl | hy2
      · exact absurd (e ▸ List.mem_map_of_mem hx2) h.1
      · exact ih h.2 hx2 hy2
/-- the names behind one, in order -/
theorem sq_spec {α : Type} {l : List (Sx × α)} (hnd : (l.map (fun p => p.1)).Nodup) : ∀ (n : Nat) (last : Option Sx), l.countP (fun p => bh last p.1) = n → (sq l n last).length = n ∧ (sq l n last).Pairwise (fun a b => cS a.1 b.1 < 0) ∧ (∀ q, q ∈ sq l n last ↔ q ∈ l ∧ bh last q.1 = true) := by
  intro n
  induction n with
  | zero =>
    intro last h
    refine ⟨rfl, List.Pairwise.nil, fun q => ⟨fun hq => absurd hq (by simp [sq]), fun hq => ?_⟩⟩
    rw [List.countP_eq_zero] at h
    exact absurd hq.2 (h q hq.1)
  | succ n ih =>
    intro last h
    obtain ⟨s1, s2⟩ := nxA_spec last l none
    rw [sq]
    cases hx : nx l last with
    | none =>
      have := (s2 hx).2
      have h0 : l.countP (fun p => bh last p.1) = 0 := List.countP_eq_zero.mpr (fun q hq => by rw [this q hq]; decide)
      omega
    | some p =>
      obtain ⟨j1, j2, _⟩ := s1 p hx
      have hp : p ∈ l ∧ bh last p.1 = true := by
        rcases j1 with h | h
        · exact h
        · exact absurd h (by simp)
      have hb : ∀ y ∈ l, y.1 ≠ p.1 → bh (some p.1) y.1 = bh last y.1 := fun y hy hne => by
        have h3 : bh (some p.1) y.1 = true ↔ bh last y.1 = true := by
          have h7 : bh (some p.1) y.1 = decide (0 < cS y.1 p.1) := by simp [bh]
          rw [h7, decide_eq_true_iff]
          have h6 := cS_good.1 y.1 p.1
          constructor
          · intro h4
            cases last with
            | none => rfl
            | some t =>
              have h5 : 0 < cS p.1 t := by simpa [bh] using hp.2
              have h8 := cS_good.1 p.1 t
              have h9 := cS_good.1 y.1 t
              have := cS_good.lt_trans' (a := t) (b := p.1) (e := y.1) (by omega) (by omega)
              simp only [bh, Option.all_some, decide_eq_true_eq]
              omega
          · intro h4
            have h5 := j2 y hy h4
            have h8 : cS y.1 p.1 ≠ 0 := fun h => hne (cS_eq h)
            omega
        exact Bool.eq_iff_iff.mpr h3
      have hself : bh (some p.1) p.1 = false := by
        simp [bh, cS_refl]
      have hc := cnt1 (P := fun y => bh (some p.1) y.1) (Q := fun y => bh last y.1) l p hp.1 hnd hp.2 hself hb
      obtain ⟨i1, i2, i3'⟩ := ih (some p.1) (by omega)
      refine ⟨by show (sq l n (some p.1)).length + 1 = n + 1; rw [i1], ?_, fun q => ?_⟩
      · refine List.Pairwise.cons (fun q hq => ?_) i2
        have h4 := ((i3' q).mp hq).2
        have h5 := cS_good.1 q.1 p.1
        simp only [bh, Option.all_some, decide_eq_true_eq] at h4
        omega
      · show q ∈ p :: sq l n (some p.1) ↔ _
        rw [List.mem_cons, i3']
        constructor
        · rintro (rfl | ⟨h1, h2⟩)
          · exact hp
          · refine ⟨h1, ?_⟩
            by_cases hq : q.1 = p.1
            · rw [hq, hself] at h2
              exact absurd h2 (by decide)
            · rw [← hb q h1 hq]
              exact h2
        · rintro ⟨h1, h2⟩
          by_cases hq : q.1 = p.1
          · exact Or.inl (mem_name hnd h1 hp.1 hq)
          · right
            refine ⟨h1, ?_⟩
            rw [hb q h1 hq]
            exact h2
theorem srt_spec {α : Type} {l : List (Sx × α)} (hnd : (l.map (fun p => p.1)).Nodup) : (srt l).length = l.length ∧ (srt l).Pairwise (fun a b => cS a.1 b.1 < 0) ∧ (∀ q, q ∈ srt l ↔ q ∈ l) := by
  have h : l.countP (fun p => bh none p.1) = l.length := List.countP_eq_length.mpr (fun _ _ => rfl)
  obtain ⟨h1, h2, h3⟩ := sq_spec hnd l.length none h
  exact ⟨h1, h2, fun q => (h3 q).trans ⟨fun h => h.1, fun h => ⟨h, rfl⟩⟩⟩
/-! ===== the order of ValueBench ===== -/
abbrev RecO : Type := Int32 → Int32 → Int32 → (Nat → Int64) → Int32 → Int32 → (Nat → Int64) → Int32 → Int32 → Option Int32
section OO
variable {f g : Nat → Int64} {v u p q d k : Nat} {o o' : Int32} {rec : RecO}
theorem min_i3 {a b : Nat} (ha : a < 2147483648) (hb : b < 2147483648) : (if i3 b < i3 a then i3 b else i3 a) = i3 (min a b) := by
  by_cases h : b < a
  · rw [if_pos (by rw [i3_lt hb ha]; exact h), Nat.min_eq_right (by omega)]
  · rw [if_neg (by rw [i3_lt hb ha]; exact h), Nat.min_eq_left (by omega)]
theorem sg_len {α β : Type} {c : α → β → Int} {a : List α} {b : List β} (h : a = [] ∨ b = []) : lexC c a b = sg ((a.length : Int) - b.length) := by
  cases a with
  | nil =>
    cases b with
    | nil => rfl
    | cons y b =>
      rw [lexC_nil_cons]
      unfold sg
      rw [if_pos (by simp <;> omega)]
  | cons x a =>
    cases b with
    | nil =>
      rw [lexC_cons_nil]
      unfold sg
      rw [if_neg (by simp <;> omega), if_neg (by simp <;> omega)]
    | cons y b => rcases h with h | h <;> exact absurd h (by simp)
theorem oa_loop (hk : k < 1000) {la lb : Nat} (ha : la < 65536) (hb : lb < 65536) (hla : ∀ n, fR_length n (i3 p) f (i3 v) o = some (i3 la)) (hlb : ∀ n, fR_length n (i3 q) g (i3 u) o' = some (i3 lb)) : ∀ (a b : List (JT d)) (n i r s : Nat), (∀ x ∈ a, jok d x) → (∀ x ∈ b, jok d x) → (∀ x ∈ a, ∀ y ∈ b, ∀ r s, At f v r (jc d x) → At g u s (jc d y) → rec (i3 r) (i3 s) (i3 (k + 1)) f (i3 v) o g (i3 u) o' = some (iz (jcmp d x y))) → i + a.length = la → i + b.length = lb → At f v r (a.flatMap (jc d)) → At g u s (b.flatMap (jc d)) → a.length < n →
    fO_ofArrays_b rec f (i3 v) o g (i3 u) o' n 1 (i3 i) (i3 s) (i3 r) (i3 (min la lb)) (i3 p) (i3 q) (i3 k) = some (iz (lexC (jcmp d) a b)) := by
  intro a
  induction a with
  | nil =>
    intro b n i r s _ _ _ hi hj _ _ hn
    obtain ⟨n, rfl⟩ : ∃ m, n = m + 1 := ⟨n - 1, by omega⟩
    rw [List.length_nil] at hi
    rw [fO_ofArrays_b, if_pos (by rw [i3_le (by omega) (by omega)]; omega), hla, Option.bind_some, hlb, Option.bind_some, JI_cmp (by omega) (by omega), Option.bind_some, sg_len (Or.inl rfl)]
    congr 3
    simp only [List.length_nil]
    omega
  | cons x a ih =>
    intro b n i r s hoa hob hrec hi hj hata hatb hn
    obtain ⟨n, rfl⟩ : ∃ m, n = m + 1 := ⟨n - 1, by omega⟩
    rw [List.length_cons] at hi hn
    cases b with
    | nil =>
      rw [List.length_nil] at hj
      rw [fO_ofArrays_b, if_pos (by rw [i3_le (by omega) (by omega)]; omega), hla, Option.bind_some, hlb, Option.bind_some, JI_cmp (by omega) (by omega), Option.bind_some, sg_len (Or.inr rfl)]
      congr 3
      simp only [List.length_nil, List.length_cons]
      omega
    | cons y b =>
      rw [List.length_cons] at hj
      obtain ⟨at1, at2⟩ := hata.acons
      obtain ⟨bt1, bt2⟩ := hatb.acons
      have hx := hoa x (List.mem_cons_self ..)
      have hy := hob y (List.mem_cons_self ..)
      have hle := jcmp_le d x y
      rw [fO_ofArrays_b, if_neg (by rw [i3_le (by omega) (by omega)]; omega), i3_one, hrec x (List.mem_cons_self ..) y (List.mem_cons_self ..) r s at1 bt1, Option.bind_some, lexC_cons]
      by_cases h : jcmp d x y = 0
      · rw [if_pos (by rw [h]; rfl), if_pos h, at1.after hx, Option.bind_some, bt1.after hy, Option.bind_some, i3_one]
        exact ih b n (i + 1) _ _ (fun z hz => hoa z (List.mem_cons_of_mem _ hz)) (fun z hz => hob z (List.mem_cons_of_mem _ hz)) (fun z hz w hw => hrec z (List.mem_cons_of_mem _ hz) w (List.mem_cons_of_mem _ hw)) (by omega) (by omega) at2 bt2 (by omega)
      · rw [if_neg (by rw [show (0 : Int32) = iz 0 from rfl, iz_eq (by omega) (by omega) (by omega) (by omega)]; exact h), if_neg h]
def fin {α : Type} (c : α → α → Int) (w : Int) (A B : List (Sx × α)) : Int :=
  if lexC cS (A.map (fun p => p.1)) (B.map (fun p => p.1)) = 0 then (if w = 0 then lexC c (A.map (fun p => p.2)) (B.map (fun p => p.2)) else w) else lexC cS (A.map (fun p => p.1)) (B.map (fun p => p.1))
theorem fin_map {d : Nat} {w : Int} {A B : List (Sx × (Nat × JT d))} : fin (fun x y => jcmp d x.2 y.2) w A B = fin (jcmp d) w (A.map (fun q => (q.1, q.2.2))) (B.map (fun q => (q.1, q.2.2))) := by
  have lm : ∀ (x y : List (Sx × (Nat × JT d))), lexC (fun x y : Nat × JT d => jcmp d x.2 y.2) (x.map (fun p => p.2)) (y.map (fun p => p.2)) = lexC (jcmp d) (x.map (fun p => p.2.2)) (y.map (fun p => p.2.2)) := by
    intro x
    induction x with
    | nil => intro y; cases y <;> rfl
    | cons a x ih =>
      intro y
      cases y with
      | nil => rfl
      | cons b y =>
        simp only [List.map_cons, lexC_cons, ih]
  unfold fin
  simp only [List.map_map, Function.comp_def, lm]
/-- the loop over names -/
theorem oo_loop (hk : k < 1000) {a b : List (Sx × JT d)} (ha : At f v p (jc (d + 1) (jo a))) (hb : At g u q (jc (d + 1) (jo b))) (hoa : jok (d + 1) (jo a)) (hob : jok (d + 1) (jo b)) (hrec : ∀ x ∈ a, ∀ y ∈ b, ∀ r s, At f v r (jc d x.2) → At g u s (jc d y.2) → rec (i3 r) (i3 s) (i3 (k + 1)) f (i3 v) o g (i3 u) o' = some (iz (jcmp d x.2 y.2))) :
    ∀ (m n i na nb : Nat) (w : Int) (la lb : Option Sx) (xa xb : Int32), i + m = min a.length b.length → i + na = a.length → i + nb = b.length → -1 ≤ w → w ≤ 1 → lastAt f v la xa → lastAt g u lb xb → (ql (p + 1) a).countP (fun p => bh la p.1) = na → (ql (q + 1) b).countP (fun p => bh lb p.1) = nb → 8205 + m < n →
    fO_ofObjects_b rec f (i3 v) o g (i3 u) o' n 1 (i3 i) (iz w) xb xa (i3 (min a.length b.length)) (i3 p) (i3 q) (i3 k) = some (iz (fin (fun x y => jcmp d x.2 y.2) w (sq (ql (p + 1) a) na la) (sq (ql (q + 1) b) nb lb))) := by
  have sza := ha.osz
  have szb := hb.osz
  have nda : ((ql (p + 1) a).map (fun p => p.1)).Nodup := by
    have := congrArg (List.map (fun p => p.1)) (ql_map a (p + 1))
    rw [List.map_map] at this
    show ((ql (p + 1) a).map _).Nodup
    exact this ▸ hoa.2
  have ndb : ((ql (q + 1) b).map (fun p => p.1)).Nodup := by
    have := congrArg (List.map (fun p => p.1)) (ql_map b (q + 1))
    rw [List.map_map] at this
    exact this ▸ hob.2
  intro m
  induction m with
  | zero =>
    intro n i na nb w la lb xa xb hm hna hnb hw1 hw2 hla hlb ca cb hn
    obtain ⟨n, rfl⟩ : ∃ m, n = m + 1 := ⟨n - 1, by omega⟩
    rw [fO_ofObjects_b, if_pos (by rw [i3_le (by omega) (by omega)]; omega), ha.olen, Option.bind_some, hb.olen, Option.bind_some, JI_cmp (by omega) (by omega), Option.bind_some]
    obtain ⟨l1, _⟩ := sq_spec nda na la ca
    obtain ⟨l2, _⟩ := sq_spec ndb nb lb cb
    have hz : sq (ql (p + 1) a) na la = [] ∨ sq (ql (q + 1) b) nb lb = [] := by
      rcases (show na = 0 ∨ nb = 0 by omega) with h | h
      · exact Or.inl (List.length_eq_zero_iff.mp (by omega))
      · exact Or.inr (List.length_eq_zero_iff.mp (by omega))
    have hz1 : (sq (ql (p + 1) a) na la).map (fun p => p.1) = [] ∨ (sq (ql (q + 1) b) nb lb).map (fun p => p.1) = [] := by simpa using hz
    have hz2 : (sq (ql (p + 1) a) na la).map (fun p => p.2) = [] ∨ (sq (ql (q + 1) b) nb lb).map (fun p => p.2) = [] := by simpa using hz
    unfold fin
    rw [sg_len hz1, sg_len hz2, List.length_map, List.length_map, List.length_map, List.length_map, l1, l2, show ((na : Int) - nb) = (a.length : Int) - b.length by omega]
    by_cases h : sg ((a.length : Int) - b.length) = 0
    · rw [if_pos (by rw [h]; rfl), if_pos h]
      by_cases hw : w = 0
      · rw [if_pos hw, h, hw]
      · rw [if_neg hw]
    · have := sg_le ((a.length : Int) - b.length)
      rw [if_neg (by rw [show (0 : Int32) = iz 0 from rfl, iz_eq (by omega) (by omega) (by omega) (by omega)]; exact h), if_neg h]
  | succ m ih =>
    intro n i na nb w la lb xa xb hm hna hnb hw1 hw2 hla hlb ca cb hn
    obtain ⟨n, rfl⟩ : ∃ m, n = m + 1 := ⟨n - 1, by omega⟩
    obtain ⟨na, rfl⟩ : ∃ j, na = j + 1 := ⟨na - 1, by omega⟩
    obtain ⟨nb, rfl⟩ : ∃ j, nb = j + 1 := ⟨nb - 1, by omega⟩
    rw [fO_ofObjects_b, if_neg (by rw [i3_le (by omega) (by omega)]; omega), ha.nn hoa hla (by omega), Option.bind_some, hb.nn hob hlb (by omega), Option.bind_some]
    have sa := sq_spec nda (na + 1) la ca
    have sb' := sq_spec ndb (nb + 1) lb cb
    rw [sq] at sa sb'
    rw [sq, sq]
    cases ea : nx (ql (p + 1) a) la with
    | none =>
      rw [ea] at sa
      exact absurd sa.1 (by simp)
    | some x =>
      cases eb : nx (ql (q + 1) b) lb with
      | none =>
        rw [eb] at sb'
        exact absurd sb'.1 (by simp)
      | some y =>
        rw [ea] at sa
        rw [eb] at sb'
        dsimp only at sa sb' ⊢
        have hx := (sa.2.2 x).mp (List.mem_cons_self ..)
        have hy := (sb'.2.2 y).mp (List.mem_cons_self ..)
        obtain ⟨ax1, ax2, ax3⟩ := ql_at a (p + 1) ha.obody x hx.1
        obtain ⟨ay1, ay2, ay3⟩ := ql_at b (q + 1) hb.obody y hy.1
        have kx := hoa.1 _ ax3
        have ky := hob.1 _ ay3
        have lx := ax1.le
        have ly := ay1.le
        have cna : (ql (p + 1) a).countP (fun p => bh (some x.1) p.1) = na := by
          have e1 : ∀ z ∈ ql (p + 1) a, z.1 ≠ x.1 → bh (some x.1) z.1 = bh la z.1 := fun z hz hne => by
            apply Bool.eq_iff_iff.mpr
            have n1 := (nxA_spec la (ql (p + 1) a) none).1 x ea
            simp only [bh, Option.all_some, decide_eq_true_eq]
            have h6 := cS_good.1 z.1 x.1
            constructor
            · intro h4
              cases la with
              | none => rfl
              | some t =>
                have h5 : 0 < cS x.1 t := by simpa [bh] using hx.2
                have h8 := cS_good.1 x.1 t
                have h9 := cS_good.1 z.1 t
                have := cS_good.lt_trans' (a := t) (b := x.1) (e := z.1) (by omega) (by omega)
                simp only [Option.all_some, decide_eq_true_eq]
                omega
            · intro h4
              have h5 := n1.2.1 z hz h4
              have h8 : cS z.1 x.1 ≠ 0 := fun h => hne (cS_eq h)
              omega
          have := cnt1 (P := fun z => bh (some x.1) z.1) (Q := fun z => bh la z.1) (ql (p + 1) a) x hx.1 nda hx.2 (by simp [bh, cS_refl]) e1
          omega
        have cnb : (ql (q + 1) b).countP (fun p => bh (some y.1) p.1) = nb := by
          have e1 : ∀ z ∈ ql (q + 1) b, z.1 ≠ y.1 → bh (some y.1) z.1 = bh lb z.1 := fun z hz hne => by
            apply Bool.eq_iff_iff.mpr
            have n1 := (nxA_spec lb (ql (q + 1) b) none).1 y eb
            simp only [bh, Option.all_some, decide_eq_true_eq]
            have h6 := cS_good.1 z.1 y.1
            constructor
            · intro h4
              cases lb with
              | none => rfl
              | some t =>
                have h5 : 0 < cS y.1 t := by simpa [bh] using hy.2
                have h8 := cS_good.1 y.1 t
                have h9 := cS_good.1 z.1 t
                have := cS_good.lt_trans' (a := t) (b := y.1) (e := z.1) (by omega) (by omega)
                simp only [Option.all_some, decide_eq_true_eq]
                omega
            · intro h4
              have h5 := n1.2.1 z hz h4
              have h8 : cS z.1 y.1 ≠ 0 := fun h => hne (cS_eq h)
              omega
          have := cnt1 (P := fun z => bh (some y.1) z.1) (Q := fun z => bh lb z.1) (ql (q + 1) b) y hy.1 ndb hy.2 (by simp [bh, cS_refl]) e1
          omega
        have e1 : lst1 (some x) = i3 x.2.1 := rfl
        have e2 : lst1 (some y) = i3 y.2.1 := rfl
        have hle := cS_le x.1 y.1
        rw [e1, e2, ax1.oos ay1 kx.1 ky.1 (by omega), Option.bind_some]
        have hnx : lastAt f v (some x.1) (i3 x.2.1) := Or.inr ⟨_, _, rfl, rfl, ax1, kx.1⟩
        have hny : lastAt g u (some y.1) (i3 y.2.1) := Or.inr ⟨_, _, rfl, rfl, ay1, ky.1⟩
        unfold fin
        simp only [List.map_cons, lexC_cons]
        by_cases hc : cS x.1 y.1 = 0
        · rw [if_pos (by rw [hc]; rfl), if_pos hc]
          have hw3 := jcmp_le d x.2.2 y.2.2
          by_cases hw : w = 0
          · have r1 := hrec _ ax3 _ ay3 _ _ ax2 ay2
            rw [if_pos (by rw [hw]; rfl), ax1.safter, Option.bind_some, ay1.safter, Option.bind_some, i3_one, r1, Option.bind_some, i3_one, ih n (i + 1) na nb (jcmp d x.2.2 y.2.2) _ _ _ _ (by omega) (by omega) (by omega) hw3.1 hw3.2 hnx hny cna cnb (by omega)]
            unfold fin
            rw [if_pos hw]
          · rw [if_neg (by rw [show (0 : Int32) = iz 0 from rfl, iz_eq (by omega) (by omega) (by omega) (by omega)]; exact hw), i3_one, ih n (i + 1) na nb w _ _ _ _ (by omega) (by omega) (by omega) hw1 hw2 hnx hny cna cnb (by omega)]
            unfold fin
            rw [if_neg hw, if_neg hw]
        · rw [if_neg (by rw [show (0 : Int32) = iz 0 from rfl, iz_eq (by omega) (by omega) (by omega) (by omega)]; exact hc), if_neg hc, if_neg hc]
end OO
theorem bh_cnt {α : Type} (l : List (Sx × α)) : l.countP (fun p => bh none p.1) = l.length := List.countP_eq_length.mpr (fun _ _ => rfl)
theorem of_w {n : Nat} (hn : 20000 < n) : ∀ (d fu : Nat) (x y : JT d) (f g : Nat → Int64) (p q v u k : Nat) (o o' : Int32), jok d x → jok d y → At f v p (jc d x) → At g u q (jc d y) → d ≤ fu → k + d ≤ 1000 → k + jd d x ≤ 60 → fO_of fu n (i3 p) (i3 q) (i3 k) f (i3 v) o g (i3 u) o' = some (iz (jcmp d x y)) := by
  intro d
  induction d with
  | zero => exact fun fu x => (j0 x).elim
  | succ d ih =>
    intro fu x y f g p q v u k o o' hox hoy hax hay hfu hk hkx
    obtain ⟨fu, rfl⟩ : ∃ m, fu = m + 1 := ⟨fu - 1, by omega⟩
    have kx := kd_lt8 hox
    have ky := kd_lt8 hoy
    rw [fO_of, hax.kind hox, Option.bind_some, hay.kind hoy, Option.bind_some]
    by_cases h : kd (d + 1) x = kd (d + 1) y
    · have hr : rk (d + 1) x = rk (d + 1) y := by rw [rk_ok hox, rk_ok hoy, h]
      rw [if_pos (by rw [h]), if_pos (by rw [show (60 : Int32) = i3 60 from rfl, i3_le (by omega) (by omega)]; omega), Option.bind_some]
      rcases rk_same hr with ⟨a, b, rfl, rfl, h3⟩ | ⟨a, b, rfl, rfl⟩ | ⟨a, b, rfl, rfl⟩ | ⟨a, b, rfl, rfl⟩ | ⟨a, b, rfl, rfl⟩
      · rw [jok_k] at hox
        rw [jcmp_k, kd_k, h3, Int.sub_self, if_neg (by rw [show (3 : Int32) = i3 3 from rfl, i3_eq (by omega) (by omega)]; omega), if_neg (by rw [show (4 : Int32) = i3 4 from rfl, i3_eq (by omega) (by omega)]; omega), if_neg (by rw [show (5 : Int32) = i3 5 from rfl, i3_eq (by omega) (by omega)]; omega), if_neg (by rw [show (6 : Int32) = i3 6 from rfl, i3_eq (by omega) (by omega)]; omega)]
        rfl
      · rw [jok_n] at hox hoy
        rw [kd_n, if_pos (by decide), hax.num hox.1 hox.2, Option.bind_some, hay.num hoy.1 hoy.2, Option.bind_some, JL_cmp (by omega) (by omega) (by omega) (by omega), Option.bind_some, jcmp_n]
      · rw [jok_s] at hox hoy
        rw [kd_s, if_neg (by decide), if_pos (by decide), At.oos hax hay hox hoy (by omega), Option.bind_some, jcmp_s]
      · have s1 := hax.asz
        have s2 := hay.asz
        have hd : ∀ z ∈ a, jd d z ≤ 59 - k := jd_a_le.mp (by have := jd_a_pos (l := a); omega)
        have hp := jd_a_pos (l := a)
        rw [kd_a, if_neg (by decide), if_neg (by decide), if_pos (by decide), jcmp_a]
        unfold fO_ofArrays
        rw [hax.alen, Option.bind_some, hay.alen, Option.bind_some, min_i3 (by omega) (by omega), i3_one, i3_one]
        have := oa_loop (rec := fO_of fu n) (o := o) (o' := o') (p := p) (q := q) (k := k) (by omega) (la := a.length) (lb := b.length) (by omega) (by omega) (fun n => hax.alen) (fun n => hay.alen) a b n 0 (p + 1) (q + 1) hox hoy (fun z hz w hw r s hr hs => ih fu z w f g r s v u (k + 1) o o' (hox z hz) (hoy w hw) hr hs (by omega) (by omega) (by have := hd z hz; omega)) (by omega) (by omega) hax.abody hay.abody (by omega)
        rw [show (0 : Int32) = i3 0 from rfl, this]
        rfl
      · have s1 := hax.osz
        have s2 := hay.osz
        have hd : ∀ z ∈ a, jd d z.2 ≤ 59 - k := jd_o_le.mp (by have := jd_o_pos (l := a); omega)
        have hp := jd_o_pos (l := a)
        rw [kd_o, if_neg (by decide), if_neg (by decide), if_neg (by decide), if_pos (by decide), jcmp_o]
        unfold fO_ofObjects
        rw [hax.olen, Option.bind_some, hay.olen, Option.bind_some, min_i3 (by omega) (by omega)]
        have := oo_loop (rec := fO_of fu n) (o := o) (o' := o') (k := k) (by omega) hax hay hox hoy (fun z hz w hw r s hr hs => ih fu z.2 w.2 f g r s v u (k + 1) o o' (hox.1 z hz).2 (hoy.1 w hw).2 hr hs (by omega) (by omega) (by have := hd z hz; omega)) (min a.length b.length) n 0 a.length b.length 0 none none (-1) (-1) (by omega) (by omega) (by omega) (by omega) (by omega) (Or.inl ⟨rfl, rfl⟩) (Or.inl ⟨rfl, rfl⟩) (by rw [bh_cnt, ql_len]) (by rw [bh_cnt, ql_len]) (by omega)
        rw [fin_map, ← sq_map (fun x : Nat × JT d => x.2), ← sq_map (fun x : Nat × JT d => x.2), ql_map, ql_map] at this
        have e0 : fin (jcmp d) 0 (sq a a.length none) (sq b b.length none) = objC (jcmp d) a b := by
          unfold fin objC srt
          rw [if_pos rfl]
        rw [e0] at this
        exact (congrArg (fun w => Option.bind w (fun y => some y)) this).trans rfl
    · rw [if_neg (by rw [i3_eq (by omega) (by omega)]; exact h), Option.bind_some, Option.bind_some, JI_cmp (by omega) (by omega), Option.bind_some, jcmp_ne (by rw [rk_ok hox, rk_ok hoy]; exact h), rk_ok hox, rk_ok hoy]
theorem of0_w {n : Nat} (hn : 20000 < n) {d fu : Nat} {x y : JT d} {f g : Nat → Int64} {p q v u : Nat} {o o' : Int32} (hx : jok d x) (hy : jok d y) (hax : At f v p (jc d x)) (hay : At g u q (jc d y)) (hfu : d ≤ fu) (hd : d ≤ 1000) (hk : jd d x ≤ 60) : fO_of fu n (i3 p) (i3 q) 0 f (i3 v) o g (i3 u) o' = some (iz (jcmp d x y)) := of_w hn d fu x y f g p q v u 0 o o' hx hy hax hay hfu (by omega) (by omega)
