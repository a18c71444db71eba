/-! ===== the same ===== -/
theorem srt_perm {α : Type} {l : List (Sx × α)} (hnd : (l.map (fun p => p.1)).Nodup) : (srt l).Perm l := by
  obtain ⟨h1, h2, h3⟩ := srt_spec hnd
  refine (List.perm_ext_iff_of_nodup (h2.imp (fun {a b} h e => ?_)) ?_).mpr h3
  · rw [e, cS_refl] at h
    omega
  · exact List.Pairwise.of_map (fun p => p.1) (fun a b h e => h (by rw [e])) hnd
theorem lex0 {α β : Type} {c : α → β → Int} : ∀ (a : List α) (b : List β), lexC c a b = 0 ↔ a.length = b.length ∧ ∀ (i : Nat) x y, a[i]? = some x → b[i]? = some y → c x y = 0 := by
  intro a
  induction a with
  | nil =>
    intro b
    cases b with
    | nil => exact ⟨fun _ => ⟨rfl, fun i x y h => by simp at h⟩, fun _ => rfl⟩
    | cons y b => exact ⟨fun h => absurd h (by rw [lexC_nil_cons]; omega), fun h => absurd h.1 (by simp)⟩
  | cons x a ih =>
    intro b
    cases b with
    | nil => exact ⟨fun h => absurd h (by rw [lexC_cons_nil]; omega), fun h => absurd h.1 (by simp)⟩
    | cons y b =>
      rw [lexC_cons]
      by_cases h : c x y = 0
      · rw [if_pos h, ih b, List.length_cons, List.length_cons]
        constructor
        · rintro ⟨h1, h2⟩
          refine ⟨by omega, fun i x' y' hx hy => ?_⟩
          cases i with
          | zero =>
            obtain rfl := Option.some.inj hx
            obtain rfl := Option.some.inj hy
            exact h
          | succ i => exact h2 i x' y' (by simpa using hx) (by simpa using hy)
        · rintro ⟨h1, h2⟩
          exact ⟨by omega, fun i x' y' hx hy => h2 (i + 1) x' y' (by simpa using hx) (by simpa using hy)⟩
      · rw [if_neg h]
        exact ⟨fun h2 => absurd h2 h, fun h2 => absurd (h2.2 0 x y rfl rfl) h⟩
theorem flat_sz {α β : Type} {g : α → List Int64} {g' : β → List Int64} : ∀ (a : List α) (b : List β), a.length = b.length → (∀ (i : Nat) x y, a[i]? = some x → b[i]? = some y → (g x).length = (g' y).length) → (a.flatMap g).length = (b.flatMap g').length := by
  intro a
  induction a with
  | nil =>
    intro b h _
    cases b with
    | nil => rfl
    | cons y b => simp at h
  | cons x a ih =>
    intro b h h2
    cases b with
    | nil => simp at h
    | cons y b =>
      rw [List.flatMap_cons, List.flatMap_cons, List.length_append, List.length_append, h2 0 x y rfl rfl, ih b (by simpa using h) (fun i x' y' hx hy => h2 (i + 1) x' y' (by simpa using hx) (by simpa using hy))]
/-- what is the same has as many cells -/
theorem jcmp_sz : ∀ (d : Nat) (x y : JT d), jok d x → jok d y → jcmp d x y = 0 → (jc d x).length = (jc d y).length := by
  intro d
  induction d with
  | zero => exact fun x => (j0 x).elim
  | succ d ih =>
    intro x y hx hy h
    have hr : rk (d + 1) x = rk (d + 1) y := by
      apply Decidable.byContradiction
      intro hne
      rw [jcmp_ne hne, sg_eq0] at h
      omega
    rcases rk_same hr with ⟨a, b, rfl, rfl, h3⟩ | ⟨a, b, rfl, rfl⟩ | ⟨a, b, rfl, rfl⟩ | ⟨a, b, rfl, rfl⟩ | ⟨a, b, rfl, rfl⟩
    · rfl
    · rfl
    · rw [jcmp_s] at h
      rw [cS_eq h]
    · rw [jcmp_a, lex0] at h
      rw [jc_a, jc_a, lst_len, lst_len, flat_sz a b h.1 (fun i x' y' hx' hy' => ih x' y' (hx x' (List.mem_of_getElem? hx')) (hy y' (List.mem_of_getElem? hy')) (h.2 i x' y' hx' hy'))]
    · rw [jcmp_o] at h
      unfold objC at h
      by_cases hc : lexC cS ((srt a).map (fun p => p.1)) ((srt b).map (fun p => p.1)) = 0
      · rw [if_pos hc, lex0] at h
        rw [lex0] at hc
        have pa := srt_perm hx.2
        have pb := srt_perm hy.2
        rw [jc_o, jc_o, lst_len, lst_len, ← (pa.flatMap_right _).length_eq, ← (pb.flatMap_right _).length_eq]
        congr 1
        apply flat_sz
        · have := hc.1
          rwa [List.length_map, List.length_map] at this
        · intro i p q hp hq
          rw [List.length_append, List.length_append, strc_len, strc_len]
          have h1 := cS_eq (hc.2 i p.1 q.1 (by rw [List.getElem?_map, hp]; rfl) (by rw [List.getElem?_map, hq]; rfl))
          have h2 := h.2 i p.2 q.2 (by rw [List.getElem?_map, hp]; rfl) (by rw [List.getElem?_map, hq]; rfl)
          have h3 := ih p.2 q.2 (hx.1 p (pa.mem_iff.mp (List.mem_of_getElem? hp))).2 (hy.1 q (pb.mem_iff.mp (List.mem_of_getElem? hq))).2 h2
          rw [h1, h3]
      · rw [if_neg hc] at h
        exact absurd h hc
theorem jcmp_len : ∀ {d : Nat} {x y : JT (d + 1)}, jok (d + 1) x → jok (d + 1) y → jcmp (d + 1) x y = 0 → (jc (d + 1) x)[0]? = (jc (d + 1) y)[0]? := by
  intro d x y hx hy h
  have hs := jcmp_sz (d + 1) x y hx hy h
  have hr : rk (d + 1) x = rk (d + 1) y := by
    apply Decidable.byContradiction
    intro hne
    rw [jcmp_ne hne, sg_eq0] at h
    omega
  rcases rk_same hr with ⟨a, b, rfl, rfl, h3⟩ | ⟨a, b, rfl, rfl⟩ | ⟨a, b, rfl, rfl⟩ | ⟨a, b, rfl, rfl⟩ | ⟨a, b, rfl, rfl⟩
  · rw [jok_k] at hx hy
    rw [show a = b by omega]
  · rw [jcmp_n, sg_eq0] at h
    rw [show a = b by omega]
  · rw [jcmp_s] at h
    rw [cS_eq h]
  · rw [jcmp_a, lex0] at h
    rw [jc_a, jc_a, lst_len, lst_len] at hs
    rw [jc_a, jc_a]
    unfold lst
    rw [h.1, show (a.flatMap (jc d)).length = (b.flatMap (jc d)).length by omega]
    rfl
  · rw [jcmp_o] at h
    unfold objC at h
    have hl : a.length = b.length := by
      by_cases hc : lexC cS ((srt a).map (fun p => p.1)) ((srt b).map (fun p => p.1)) = 0
      · rw [lex0] at hc
        have := hc.1
        rw [List.length_map, List.length_map, (srt_perm hx.2).length_eq, (srt_perm hy.2).length_eq] at this
        exact this
      · rw [if_neg hc] at h
        exact absurd h hc
    rw [jc_o, jc_o, lst_len, lst_len] at hs
    rw [jc_o, jc_o]
    unfold lst
    rw [hl, Nat.add_right_cancel hs]
    rfl
theorem At.cell0 {n d v p : Nat} {f : Nat → Int64} {o : Int32} {j : JT d} (h : At f v p (jc d j)) : ∃ x, (jc d j)[0]? = some x ∧ fR_cell n (i3 p) f (i3 v) o = some x := by
  have h1 := jc_pos d j
  have h2 := h.2
  refine ⟨(jc d j)[0], List.getElem?_eq_getElem (by omega), ?_⟩
  rw [cell_in (by omega) (by omega), ← seg_get h.1 (i := 0) (by omega)]
  rfl
theorem same_w {n : Nat} (hn : 20000 < n) {d fu : Nat} {x y : JT d} {f g : Nat → Int64} {p q v u : Nat} {o o' : Int32} (hx : jok d x) (hy : jok d y) (hax : At f v p (jc d x)) (hay : At g u q (jc d y)) (hfu : d ≤ fu) (hd : d ≤ 1000) (hk : jd d x ≤ 60) : fO_isSame fu n (i3 p) (i3 q) f (i3 v) o g (i3 u) o' = some (if jcmp d x y = 0 then 1 else 0) := by
  cases d with
  | zero => exact (j0 x).elim
  | succ d =>
    obtain ⟨a, ha, ea⟩ := hax.cell0 (n := n) (o := o)
    obtain ⟨b, hb, eb⟩ := hay.cell0 (n := n) (o := o')
    have hle := jcmp_le (d + 1) x y
    unfold fO_isSame
    rw [ea, Option.bind_some, eb, Option.bind_some]
    by_cases h : jcmp (d + 1) x y = 0
    · have he := jcmp_len hx hy h
      rw [ha, hb] at he
      rw [if_pos (by rw [lg_zero]; exact Option.some.inj he), show (0 : Int32) = i3 0 from rfl, of_w hn (d + 1) fu x y f g p q v u 0 o o' hx hy hax hay hfu (by omega) (by omega), Option.bind_some, h, if_pos rfl]
      rfl
    · rw [if_neg h]
      split
      · rw [show (0 : Int32) = i3 0 from rfl, of_w hn (d + 1) fu x y f g p q v u 0 o o' hx hy hax hay hfu (by omega) (by omega), Option.bind_some, if_neg (by rw [show i3 0 = iz 0 from rfl, iz_eq (by omega) (by omega) (by omega) (by omega)]; exact h)]
      · rfl
