/-! ===== the reference: which value a record stands for ===== -/
def RepB (vs : List VR) (cs : List Nat) (ks : List NP) {d : Nat} (rec : JT d → Nat → Prop) (v : VR) (j : JT (d + 1)) : Prop := match j with
  | .inl (.inl k) => v.1 = k
  | .inl (.inr (.inl z)) => v.1 = 3 ∧ v.2.2.2.2.2 = z
  | .inl (.inr (.inr s)) => v.1 = 4 ∧ v.2.2.1 = s.length ∧ ∀ i x, s[i]? = some x → cs[v.2.1 + i]? = some x
  | .inr (.inl l) => v.1 = 5 ∧ v.2.2.1 = l.length ∧ ∀ (i : Nat) x, l[i]? = some x → ∃ p : NP, ks[v.2.1 + i]? = some p ∧ rec x p.1
  | .inr (.inr l) => v.1 = 6 ∧ v.2.2.1 = l.length ∧ ∀ (i : Nat) x, l[i]? = some x → ∃ p : NP, ks[v.2.1 + i]? = some p ∧ rec x.2 p.1 ∧ isStr vs cs p.2 x.1
def Rep (vs : List VR) (cs : List Nat) (ks : List NP) : (d : Nat) → JT d → Nat → Prop
  | 0, j, _ => Empty.elim j
  | d + 1, j, c => 1 ≤ c ∧ ∃ v : VR, vs[c - 1]? = some v ∧ v.2.2.2.1 = jd (d + 1) j ∧ v.2.2.2.2.1 = (jc (d + 1) j).length ∧ jd (d + 1) j ≤ 60 ∧ (jc (d + 1) j).length ≤ 60000 ∧ RepB vs cs ks (Rep vs cs ks d) v j
theorem pre_get {α : Type} {l m : List α} {i : Nat} {x : α} (h : l[i]? = some x) : (l ++ m)[i]? = some x := by
  rw [List.getElem?_append_left (List.getElem?_eq_some_iff.mp h).1]
  exact h
theorem isStr.mono {vs vs' : List VR} {cs cs' : List Nat} {c : Nat} {s : Sx} (h : isStr vs cs c s) : isStr (vs ++ vs') (cs ++ cs') c s := by
  obtain ⟨h1, v, h2, h3, h4, h5, h6, h7⟩ := h
  exact ⟨h1, v, pre_get h2, h3, h4, h5, h6, fun i x hx => pre_get (h7 i x hx)⟩
theorem Rep.mono {vs vs' : List VR} {cs cs' : List Nat} {ks ks' : List NP} : ∀ (d : Nat) (j : JT d) (c : Nat), Rep vs cs ks d j c → Rep (vs ++ vs') (cs ++ cs') (ks ++ ks') d j c := by
  intro d
  induction d with
  | zero => intro j; exact (j0 j).elim
  | succ d ih =>
    intro j c h
    obtain ⟨h1, v, h2, h3, h4, h5, h6, h7⟩ := h
    refine ⟨h1, v, pre_get h2, h3, h4, h5, h6, ?_⟩
    rcases jcases j with ⟨k, rfl⟩ | ⟨z, rfl⟩ | ⟨s, rfl⟩ | ⟨l, rfl⟩ | ⟨l, rfl⟩
    · exact h7
    · exact h7
    · exact ⟨h7.1, h7.2.1, fun i x hx => pre_get (h7.2.2 i x hx)⟩
    · refine ⟨h7.1, h7.2.1, fun i x hx => ?_⟩
      obtain ⟨p, p1, p2⟩ := h7.2.2 i x hx
      exact ⟨p, pre_get p1, ih _ _ p2⟩
    · refine ⟨h7.1, h7.2.1, fun i x hx => ?_⟩
      obtain ⟨p, p1, p2, p3⟩ := h7.2.2 i x hx
      exact ⟨p, pre_get p1, ih _ _ p2, p3.mono⟩
theorem Rep.le {vs : List VR} {cs : List Nat} {ks : List NP} {d : Nat} {j : JT d} {c : Nat} (h : Rep vs cs ks d j c) : 1 ≤ c ∧ c ≤ vs.length := by
  cases d with
  | zero => exact (j0 j).elim
  | succ d =>
    obtain ⟨h1, v, h2, _⟩ := h
    have := (List.getElem?_eq_some_iff.mp h2).1
    omega
theorem Rep.dw {vs : List VR} {cs : List Nat} {ks : List NP} {d : Nat} {j : JT d} {c : Nat} (h : Rep vs cs ks d j c) : vDp vs c = jd d j ∧ vWt vs c = (jc d j).length ∧ jd d j ≤ 60 ∧ (jc d j).length ≤ 60000 := by
  cases d with
  | zero => exact (j0 j).elim
  | succ d =>
    obtain ⟨h1, v, h2, h3, h4, h5, h6, _⟩ := h
    exact ⟨by rw [vDp_some h2, h3], by rw [vWt_some h2, h4], h5, h6⟩
theorem isStr.le {vs : List VR} {cs : List Nat} {c : Nat} {s : Sx} (h : isStr vs cs c s) : 1 ≤ c ∧ c ≤ vs.length ∧ vWt vs c = s.length + 1 := by
  obtain ⟨h1, v, h2, h3, h4, h5, h6, h7⟩ := h
  have := (List.getElem?_eq_some_iff.mp h2).1
  exact ⟨h1, by omega, by rw [vWt_some h2, h6]⟩
/-- a row of values -/
def RL (vs : List VR) (cs : List Nat) (ks : List NP) (d : Nat) : List NP → List (JT d) → Prop
  | [], [] => True
  | p :: W, x :: l => Rep vs cs ks d x p.1 ∧ p.2 ≤ vs.length ∧ RL vs cs ks d W l
  | _, _ => False
def RM (vs : List VR) (cs : List Nat) (ks : List NP) (d : Nat) : List NP → List (Sx × JT d) → Prop
  | [], [] => True
  | p :: W, x :: l => Rep vs cs ks d x.2 p.1 ∧ isStr vs cs p.2 x.1 ∧ x.1.length ≤ 59999 ∧ RM vs cs ks d W l
  | _, _ => False
section RI
variable {vs vs' : List VR} {cs cs' : List Nat} {ks ks' : List NP} {d : Nat}
theorem RL.mono : ∀ {W : List NP} {l : List (JT d)}, RL vs cs ks d W l → RL (vs ++ vs') (cs ++ cs') (ks ++ ks') d W l := by
  intro W
  induction W with
  | nil => intro l h; cases l with
    | nil => trivial
    | cons x l => exact h.elim
  | cons p W ih => intro l h; cases l with
    | nil => exact h.elim
    | cons x l => exact ⟨h.1.mono, by have := h.2.1; rw [List.length_append]; omega, ih h.2.2⟩
theorem RM.mono : ∀ {W : List NP} {l : List (Sx × JT d)}, RM vs cs ks d W l → RM (vs ++ vs') (cs ++ cs') (ks ++ ks') d W l := by
  intro W
  induction W with
  | nil => intro l h; cases l with
    | nil => trivial
    | cons x l => exact h.elim
  | cons p W ih => intro l h; cases l with
    | nil => exact h.elim
    | cons x l => exact ⟨h.1.mono, h.2.1.mono, h.2.2.1, ih h.2.2.2⟩
theorem RL.snoc : ∀ {W : List NP} {l : List (JT d)} {p : NP} {x : JT d}, RL vs cs ks d W l → Rep vs cs ks d x p.1 → p.2 ≤ vs.length → RL vs cs ks d (W ++ [p]) (l ++ [x]) := by
  intro W
  induction W with
  | nil => intro l p x h hx hp; cases l with
    | nil => exact ⟨hx, hp, trivial⟩
    | cons x l => exact h.elim
  | cons q W ih => intro l p x h hx hp; cases l with
    | nil => exact h.elim
    | cons y l => exact ⟨h.1, h.2.1, ih h.2.2 hx hp⟩
theorem RM.snoc : ∀ {W : List NP} {l : List (Sx × JT d)} {p : NP} {x : Sx × JT d}, RM vs cs ks d W l → Rep vs cs ks d x.2 p.1 → isStr vs cs p.2 x.1 → x.1.length ≤ 59999 → RM vs cs ks d (W ++ [p]) (l ++ [x]) := by
  intro W
  induction W with
  | nil => intro l p x h hx hp hs; cases l with
    | nil => exact ⟨hx, hp, hs, trivial⟩
    | cons x l => exact h.elim
  | cons q W ih => intro l p x h hx hp hs; cases l with
    | nil => exact h.elim
    | cons y l => exact ⟨h.1, h.2.1, h.2.2.1, ih h.2.2.2 hx hp hs⟩
theorem RL.sums : ∀ {W : List NP} {l : List (JT d)}, RL vs cs ks d W l → W.length = l.length ∧ W.map (fun p => vDp vs p.1) = l.map (jd d) ∧ W.map (kWt vs 5) = l.map (fun x => (jc d x).length) ∧ (∀ p ∈ W, KP vs 5 p) ∧ (∀ (i : Nat) (x : JT d), l[i]? = some x → ∃ p : NP, W[i]? = some p ∧ Rep vs cs ks d x p.1) := by
  intro W
  induction W with
  | nil => intro l h; cases l with
    | nil => exact ⟨rfl, rfl, rfl, fun p hp => absurd hp (by simp), fun i x hx => by simp at hx⟩
    | cons x l => exact h.elim
  | cons p W ih => intro l h; cases l with
    | nil => exact h.elim
    | cons x l =>
      obtain ⟨h1, h2, h3⟩ := h
      obtain ⟨a1, a2, a3, a4, a5⟩ := ih h3
      obtain ⟨d1, d2, d3, d4⟩ := h1.dw
      have hle := h1.le
      refine ⟨by rw [List.length_cons, List.length_cons, a1], by rw [List.map_cons, List.map_cons, a2, d1], ?_, fun q hq => ?_, fun i y hy => ?_⟩
      · rw [List.map_cons, List.map_cons, a3]
        congr 1
      · rcases List.mem_cons.mp hq with rfl | hq
        · refine ⟨⟨hle.1, vs[q.1 - 1]'(by omega), List.getElem?_eq_getElem (by omega), ?_, ?_⟩, fun hk => absurd hk (by decide), h2⟩
          · have : vDp vs q.1 = (vs[q.1 - 1]'(by omega)).2.2.2.1 := vDp_some (List.getElem?_eq_getElem (by omega))
            omega
          · have : vWt vs q.1 = (vs[q.1 - 1]'(by omega)).2.2.2.2.1 := vWt_some (List.getElem?_eq_getElem (by omega))
            omega
        · exact a4 q hq
      · cases i with
        | zero =>
          obtain rfl := Option.some.inj hy
          exact ⟨p, rfl, h1⟩
        | succ i =>
          obtain ⟨q, q1, q2⟩ := a5 i y (by simpa using hy)
          exact ⟨q, by simpa using q1, q2⟩
theorem RM.sums : ∀ {W : List NP} {l : List (Sx × JT d)}, RM vs cs ks d W l → W.length = l.length ∧ W.map (fun p => vDp vs p.1) = l.map (fun x => jd d x.2) ∧ W.map (kWt vs 6) = l.map (fun x => (strc x.1 ++ jc d x.2).length) ∧ (∀ p ∈ W, KP vs 6 p) ∧ (∀ (i : Nat) (x : Sx × JT d), l[i]? = some x → ∃ p : NP, W[i]? = some p ∧ Rep vs cs ks d x.2 p.1 ∧ isStr vs cs p.2 x.1) := by
  intro W
  induction W with
  | nil => intro l h; cases l with
    | nil => exact ⟨rfl, rfl, rfl, fun p hp => absurd hp (by simp), fun i x hx => by simp at hx⟩
    | cons x l => exact h.elim
  | cons p W ih => intro l h; cases l with
    | nil => exact h.elim
    | cons x l =>
      obtain ⟨h1, h2, hs, h3⟩ := h
      obtain ⟨a1, a2, a3, a4, a5⟩ := ih h3
      obtain ⟨d1, d2, d3, d4⟩ := h1.dw
      have hle := h1.le
      have hsl := h2.le
      refine ⟨by rw [List.length_cons, List.length_cons, a1], by rw [List.map_cons, List.map_cons, a2, d1], ?_, fun q hq => ?_, fun i y hy => ?_⟩
      · rw [List.map_cons, List.map_cons, a3]
        congr 1
        show (if 6 = 6 then vWt vs p.1 + vWt vs p.2 else vWt vs p.1) = _
        rw [if_pos rfl, d2, hsl.2.2, List.length_append, strc_len]
        omega
      · rcases List.mem_cons.mp hq with rfl | hq
        · refine ⟨⟨hle.1, vs[q.1 - 1]'(by omega), List.getElem?_eq_getElem (by omega), ?_, ?_⟩, fun _ => ⟨hsl.1, vs[q.2 - 1]'(by omega), List.getElem?_eq_getElem (by omega), ?_⟩, hsl.2.1⟩
          · have : vDp vs q.1 = (vs[q.1 - 1]'(by omega)).2.2.2.1 := vDp_some (List.getElem?_eq_getElem (by omega))
            omega
          · have : vWt vs q.1 = (vs[q.1 - 1]'(by omega)).2.2.2.2.1 := vWt_some (List.getElem?_eq_getElem (by omega))
            omega
          · have : vWt vs q.2 = (vs[q.2 - 1]'(by omega)).2.2.2.2.1 := vWt_some (List.getElem?_eq_getElem (by omega))
            omega
        · exact a4 q hq
      · cases i with
        | zero =>
          obtain rfl := Option.some.inj hy
          exact ⟨p, rfl, h1, h2⟩
        | succ i =>
          obtain ⟨q, q1, q2⟩ := a5 i y (by simpa using hy)
          exact ⟨q, by simpa using q1, q2⟩
/-- the new record stands for the list -/
theorem rep_a {W : List NP} {l : List (JT d)} (h : RL vs cs ks d W l) (hd : jd (d + 1) (ja l) ≤ 60) (hw : (jc (d + 1) (ja l)).length ≤ 60000) : Rep (vs ++ [(5, ks.length, W.length, (W.map (fun p => vDp vs p.1)).foldl max 0 + 1, 1 + (W.map (kWt vs 5)).sum, 0)]) cs (ks ++ W) (d + 1) (ja l) (vs.length + 1) := by
  obtain ⟨a1, a2, a3, a4, a5⟩ := h.sums
  refine ⟨by omega, _, by rw [Nat.add_sub_cancel, List.getElem?_append_right (Nat.le_refl _), Nat.sub_self]; rfl, by rw [a2, jd_a], ?_, hd, hw, rfl, a1, fun i x hx => ?_⟩
  · rw [a3, jc_a, lst_len, sm_flat]
    exact Nat.add_comm _ _
  · obtain ⟨p, p1, p2⟩ := a5 i x hx
    refine ⟨p, ?_, ?_⟩
    · show (ks ++ W)[ks.length + i]? = _
      rw [List.getElem?_append_right (by omega), Nat.add_sub_cancel_left]
      exact p1
    · have := p2.mono (vs' := [((5, ks.length, W.length, (W.map (fun p => vDp vs p.1)).foldl max 0 + 1, 1 + (W.map (kWt vs 5)).sum, 0) : VR)]) (cs' := []) (ks' := W)
      rw [List.append_nil] at this
      exact this
theorem rep_o {W : List NP} {l : List (Sx × JT d)} (h : RM vs cs ks d W l) (hd : jd (d + 1) (jo l) ≤ 60) (hw : (jc (d + 1) (jo l)).length ≤ 60000) : Rep (vs ++ [(6, ks.length, W.length, (W.map (fun p => vDp vs p.1)).foldl max 0 + 1, 1 + (W.map (kWt vs 6)).sum, 0)]) cs (ks ++ W) (d + 1) (jo l) (vs.length + 1) := by
  obtain ⟨a1, a2, a3, a4, a5⟩ := h.sums
  refine ⟨by omega, _, by rw [Nat.add_sub_cancel, List.getElem?_append_right (Nat.le_refl _), Nat.sub_self]; rfl, by rw [a2, jd_o], ?_, hd, hw, rfl, a1, fun i x hx => ?_⟩
  · rw [a3, jc_o, lst_len, sm_flat]
    exact Nat.add_comm _ _
  · obtain ⟨p, p1, p2, p3⟩ := a5 i x hx
    refine ⟨p, ?_, ?_, ?_⟩
    · show (ks ++ W)[ks.length + i]? = _
      rw [List.getElem?_append_right (by omega), Nat.add_sub_cancel_left]
      exact p1
    · have := p2.mono (vs' := [((6, ks.length, W.length, (W.map (fun p => vDp vs p.1)).foldl max 0 + 1, 1 + (W.map (kWt vs 6)).sum, 0) : VR)]) (cs' := []) (ks' := W)
      rw [List.append_nil] at this
      exact this
    · have := p3.mono (vs' := [((6, ks.length, W.length, (W.map (fun p => vDp vs p.1)).foldl max 0 + 1, 1 + (W.map (kWt vs 6)).sum, 0) : VR)]) (cs' := [])
      rw [List.append_nil] at this
      exact this
end RI
