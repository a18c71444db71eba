section MRG
abbrev cl {d : Nat} (x : JT d) : Nat := (jc d x).length
def yl {d : Nat} (m : List (Sx × JT d)) (p : Sx × JT d) : Nat := match lu p.1 m with
  | none => 0
  | some y => cl y
theorem yl1 {d : Nat} {g : Sx × JT d → Nat} {s : Sx} {w : Nat} : ∀ (l : List (Sx × JT d)), (l.map (fun p => p.1)).Nodup → (l.map (fun p => if s = p.1 then w else g p)).sum ≤ w + (l.map g).sum
  | [], _ => Nat.zero_le _
  | p :: l, h => by
    rw [List.map_cons, List.nodup_cons] at h
    rw [List.map_cons, List.map_cons, List.sum_cons, List.sum_cons]
    by_cases e : s = p.1
    · rw [if_pos e]
      have : l.map (fun p => if s = p.1 then w else g p) = l.map g := List.map_congr_left (fun q hq => if_neg (fun e2 => h.1 (List.mem_map.mpr ⟨q, hq, by rw [← e2, e]⟩)))
      rw [this]
      omega
    · rw [if_neg e]
      have := yl1 (g := g) (s := s) (w := w) l h.2
      omega
theorem yl_sum {d : Nat} {l : List (Sx × JT d)} (hl : (l.map (fun p => p.1)).Nodup) : ∀ (m : List (Sx × JT d)), (l.map (yl m)).sum ≤ (m.map (fun q => cl q.2)).sum
  | [] => by
    have : l.map (yl ([] : List (Sx × JT d))) = l.map (fun _ => 0) := rfl
    rw [this]
    clear this hl
    induction l with
    | nil => exact Nat.le_refl _
    | cons p l ih => rw [List.map_cons, List.sum_cons, Nat.zero_add]; exact ih
  | q :: m => by
    have : l.map (yl (q :: m)) = l.map (fun p => if q.1 = p.1 then cl q.2 else yl m p) := List.map_congr_left (fun p _ => by
      show (match lu p.1 (q :: m) with | none => 0 | some y => cl y) = _
      rw [show lu p.1 (q :: m) = if q.1 = p.1 then some q.2 else lu p.1 m from rfl]
      by_cases e : q.1 = p.1
      · rw [if_pos e, if_pos e]
      · rw [if_neg e, if_neg e]
        rfl)
    rw [this, List.map_cons, List.sum_cons]
    have h1 := yl1 (g := yl m) (s := q.1) (w := cl q.2) l hl
    have h2 := yl_sum hl m
    omega
theorem cl_o {d : Nat} (l : List (Sx × JT d)) : cl (jo l) = 1 + l.length + (l.map (fun p => p.1.length)).sum + (l.map (fun p => cl p.2)).sum := by
  unfold cl
  rw [jc_o, lst_len]
  induction l with
  | nil => rfl
  | cons p l ih =>
    rw [List.flatMap_cons, List.length_append, List.length_append, strc_ln, List.length_cons, List.map_cons, List.map_cons, List.sum_cons, List.sum_cons]
    omega
theorem sum_add {α : Type} {f g : α → Nat} : ∀ (l : List α), (l.map (fun p => f p + g p)).sum = (l.map f).sum + (l.map g).sum
  | [] => rfl
  | p :: l => by rw [List.map_cons, List.map_cons, List.map_cons, List.sum_cons, List.sum_cons, List.sum_cons, sum_add l]; omega
theorem big_o {d : Nat} {L : List (Sx × JT d)} {p : Sx × JT d} (hp : p ∈ L) (h : 60 < jd d p.2 ∨ 60000 < (jc d p.2).length) : 60 < jd (d + 1) (jo L) ∨ 60000 < (jc (d + 1) (jo L)).length := by
  rcases h with h | h
  · left
    apply Classical.byContradiction
    intro hn
    have := (jd_o_le (n := 59)).mp (show jd (d + 1) (jo L) ≤ 59 + 1 by omega) p hp
    omega
  · right
    rw [jc_o, lst_len]
    obtain ⟨a, b, rfl⟩ := List.append_of_mem hp
    simp
    omega
def MgO (st : xS) (wc wn : Nat) (out : Option (Nat × Nat × Nat × Nat × xS)) (vs : List VR) (cs : List Nat) (ks ws : List NP) (S : Nat) {d : Nat} (j : JT d) : Prop :=
  (∃ (cc s c : Nat) (st' : xS) (vs' : List VR) (ks' : List NP), out = some (0, wc + cc, wn + s, c, st') ∧ MS st' (vs ++ vs') cs (ks ++ ks') ws ∧ Cost st st' cc s ∧ FrO st st' ∧ Rep (vs ++ vs') cs (ks ++ ks') d j c ∧ vs'.length ≤ S ∧ ks'.length ≤ S) ∨ ((60 < jd d j ∨ 60000 < (jc d j).length) ∧ ∃ (cc s : Nat) (st' : xS), out = some (1, wc + cc, wn + s, 0, st') ∧ CostE st st' cc s 1 ∧ OpB st st')
variable {cs : List Nat} {W0 : List NP} {d : Nat}
theorem MgO.ge {st : xS} {wc wn S : Nat} {out : Option (Nat × Nat × Nat × Nat × xS)} {vs : List VR} {ks ws : List NP} {j : JT d} (h : MgO st wc wn out vs cs ks ws S j) : ∀ a, out = some a → wc ≤ a.2.1 ∧ wn ≤ a.2.2.1 := by
  intro a ha
  rcases h with ⟨cc, s, c, st', _, _, e, _⟩ | ⟨_, cc, s, st', e, _⟩
  · rw [e] at ha
    injection ha with ha
    rw [← ha]
    exact ⟨Nat.le_add_right _ _, Nat.le_add_right _ _⟩
  · rw [e] at ha
    injection ha with ha
    rw [← ha]
    exact ⟨Nat.le_add_right _ _, Nat.le_add_right _ _⟩
theorem MgO.wrap {st : xS} {wc wn S : Nat} {out : Option (Nat × Nat × Nat × Nat × xS)} {vs : List VR} {ks ws : List NP} {j : JT d} (h : MgO st wc wn out vs cs ks ws S j) : MgO st wc wn (xmo (fun a => a.2.1) (fun a => a.2.2.1) wc wn out) vs cs ks ws S j := by
  rw [xmo_id h.ge]; exact h
theorem MgO.step {st st1 : xS} {wc wn cc s S S' : Nat} {out : Option (Nat × Nat × Nat × Nat × xS)} {vs a : List VR} {ks c ws : List NP} {j : JT d} (h : MgO st1 (wc + cc) (wn + s) out (vs ++ a) cs (ks ++ c) ws S' j) (hc : Cost st st1 cc s) (hf : FrO st st1) (h1 : a.length + S' ≤ S) (h2 : c.length + S' ≤ S) : MgO st wc wn out vs cs ks ws S j := by
  rcases h with ⟨c1, s1, x, st', v', n', e, g1, g2, g3, g4, g5, g6⟩ | ⟨hx, c1, s1, st', e, g1, g2⟩
  · refine Or.inl ⟨cc + c1, s + s1, x, st', a ++ v', c ++ n', by rw [e, Nat.add_assoc, Nat.add_assoc], ?_, hc.trans g2, hf.trans g3, ?_, by rw [List.length_append]; omega, by rw [List.length_append]; omega⟩
    · rw [← List.append_assoc, ← List.append_assoc]; exact g1
    · rw [← List.append_assoc, ← List.append_assoc]; exact g4
  · exact Or.inr ⟨hx, cc + c1, s + s1, st', by rw [e, Nat.add_assoc, Nat.add_assoc], hc.ce g1, ⟨g2.1, hf.trans g2.2⟩⟩
theorem MgO.step0 {st st1 : xS} {wc wn cc s S S' : Nat} {out : Option (Nat × Nat × Nat × Nat × xS)} {vs : List VR} {ks ws : List NP} {j : JT d} (h : MgO st1 (wc + cc) (wn + s) out vs cs ks ws S' j) (hc : Cost st st1 cc s) (hf : FrO st st1) (h1 : S' ≤ S) : MgO st wc wn out vs cs ks ws S j := by
  refine MgO.step (a := []) (c := []) (S' := S') ?_ hc hf (by simpa using h1) (by simpa using h1)
  rw [List.append_nil, List.append_nil]
  exact h
theorem whole_mg {st : xS} {vs : List VR} {ks W : List NP} {n wc wn S : Nat} {l : List (Sx × JT d)} (hM : MS st vs cs ks (W0 ++ W)) (hR : RM vs cs ks d W l) (hbv : vs.length + 1 ≤ bV) (hbk : ks.length + W.length ≤ bK) (hn : 20 * bC < n) (h1 : 1 ≤ S) (h2 : W.length ≤ S) : MgO st wc wn ((fM_whole n st 6 (i3 W0.length)).bind fun o2 => ((if o2.1 = 0 then xmo (fun a => a.2.1) (fun a => a.2.2.1) (wc + o2.2.1) (wn + o2.2.2.1) (some (0, (wc + o2.2.1), (wn + o2.2.2.1), o2.2.2.2.1, o2.2.2.2.2)) else (if o2.1 = 1 then xmo (fun a => a.2.1) (fun a => a.2.2.1) (wc + o2.2.1) (wn + o2.2.2.1) (some (1, (wc + o2.2.1), (wn + o2.2.2.1), 0, o2.2.2.2.2)) else none)))) vs cs ks W0 S (jo l) := by
  obtain ⟨a1, a2, a3, a4, a5⟩ := hR.sums
  obtain ⟨cc, s, st1, st2, e, m1, m2, m3, m4, _, m6, m7, _⟩ := whole_w (k := 6) hM (by omega) a4 hbv hbk hn
  have hD : jd (d + 1) (jo l) = (W.map (fun p => vDp vs p.1)).foldl max 0 + 1 := by rw [a2, jd_o]
  have hW : (jc (d + 1) (jo l)).length = 1 + (W.map (kWt vs 6)).sum := by
    rw [a3, jc_o, lst_len, sm_flat]
    exact Nat.add_comm _ _
  by_cases h : (W.map (fun p => vDp vs p.1)).foldl max 0 < 60 ∧ 1 + (W.map (kWt vs 6)).sum ≤ 60000
  · rw [if_pos h] at e
    refine Or.inl ⟨cc, s, vs.length + 1, st1, [_], W, ?_, m1, m3, m4.o, rep_o hR (by omega) (by omega), h1, h2⟩
    rw [show fM_whole n st 6 (i3 W0.length) = _ from e, Option.bind_some, if_pos rfl]
    exact xmo_some (Nat.le_refl _) (Nat.le_refl _)
  · rw [if_neg h] at e
    obtain ⟨v, m2⟩ := m2
    refine Or.inr ⟨by omega, cc + 1, s + 6, st2, ?_, ⟨by have := m6.1; omega, by have := m6.2; omega⟩, ⟨⟨_, _, _, _, m2⟩, m7.o⟩⟩
    rw [show fM_whole n st 6 (i3 W0.length) = _ from e, Option.bind_some, if_neg (show ¬ (1 : Nat) = 0 by decide), if_pos rfl]
    exact xmo_some (Nat.le_refl _) (Nat.le_refl _)
def RecG (cs : List Nat) (d : Nat) (rec : xS → Nat → Nat → Option (Nat × Nat × Nat × Nat × xS)) : Prop := ∀ (st : xS) (vs : List VR) (ks ws : List NP) (x y : JT d) (a b : Nat), Rep vs cs ks d x a → Rep vs cs ks d y b → jok d x → jok d y → kd d x = 6 → kd d y = 6 → MS st vs cs ks ws → vs.length + cl x + cl y ≤ bV → ks.length + cl x + cl y ≤ bK → ws.length + cl x + cl y ≤ bK → MgO st 0 0 (rec st a b) vs cs ks ws (cl x + cl y) (selD d x y)
theorem Rep.mo {vs vs' : List VR} {ks ks' : List NP} {j : JT d} {c : Nat} (h : Rep vs cs ks d j c) : Rep (vs ++ vs') cs (ks ++ ks') d j c := by
  have := h.mono (vs' := vs') (cs' := []) (ks' := ks')
  rw [List.append_nil] at this
  exact this
theorem RM.mo {vs vs' : List VR} {ks ks' : List NP} {W : List NP} {l : List (Sx × JT d)} (h : RM vs cs ks d W l) : RM (vs ++ vs') cs (ks ++ ks') d W l := by
  have := h.mono (vs' := vs') (cs' := []) (ks' := ks')
  rw [List.append_nil] at this
  exact this
theorem isStr.mo {vs vs' : List VR} {c : Nat} {s : Sx} (h : isStr vs cs c s) : isStr (vs ++ vs') cs c s := by
  have := h.mono (vs' := vs') (cs' := [])
  rw [List.append_nil] at this
  exact this
theorem mrg2 {rec : xS → Nat → Nat → Option (Nat × Nat × Nat × Nat × xS)} {l m : List (Sx × JT d)} {a b : Nat} : ∀ (q n i : Nat) (st : xS) (vs : List VR) (ks W : List NP) (X : List (Sx × JT d)) (wc wn : Nat), Rep vs cs ks (d + 1) (jo l) a → Rep vs cs ks (d + 1) (jo m) b → i + q = m.length → W.length + q ≤ l.length + m.length → MS st vs cs ks (W0 ++ W) → RM vs cs ks d W X → vs.length + 1 ≤ bV → ks.length + l.length + m.length ≤ bK → W0.length + l.length + m.length ≤ bK → 3000000 + q < n → MgO st wc wn (fM_merged_b rec n 2 (i3 i) (i3 W0.length) a b st wc wn) vs cs ks W0 (l.length + m.length + 1) (jo (X ++ bn l (m.drop i))) := by
  have hbc : bC = 100000 := rfl
  have hbk' : bK = 32000 := rfl
  intro q
  induction q with
  | zero =>
    intro n i st vs ks W X wc wn ha hb hi hW hM hR hbv hbk hbw hn
    obtain ⟨n, rfl⟩ : ∃ j, n = j + 1 := ⟨n - 1, by omega⟩
    obtain ⟨b1, _, _, _⟩ := hb.g hM
    obtain ⟨bs, bl⟩ := hb.szo hM
    rw [fM_merged_b, if_neg (by decide), if_neg b1, bs, if_pos (by rw [i3_le (by omega) (by omega)]; omega), List.drop_eq_nil_of_le (by omega)]
    have hnil : X ++ bn l ([] : List (Sx × JT d)) = X := List.append_nil X
    rw [hnil]
    exact MgO.wrap (whole_mg hM hR hbv (by omega) (by omega) (by omega) (by omega))
  | succ q ih =>
    intro n i st vs ks W X wc wn ha hb hi hW hM hR hbv hbk hbw hn
    obtain ⟨n, rfl⟩ : ∃ j, n = j + 1 := ⟨n - 1, by omega⟩
    obtain ⟨b1, _, _, _⟩ := hb.g hM
    obtain ⟨a1, a2, _, _⟩ := ha.g hM
    obtain ⟨bs, bl⟩ := hb.szo hM
    obtain ⟨as, al⟩ := ha.szo hM
    obtain ⟨k, nm, e1, e2, r1, s1, sl⟩ := hb.okid (n := n) hM (List.getElem?_eq_getElem (show i < m.length by omega))
    obtain ⟨p1, p2⟩ := placeM (n := n) hM ha s1 sl (by omega)
    rw [fM_merged_b, if_neg (by decide), if_neg b1, bs, if_neg (by rw [i3_le (by omega) (by omega)]; omega), e2, Option.bind_some, List.drop_eq_getElem_cons (show i < m.length by omega), i3_one]
    have hbn : bn l (m[i] :: m.drop (i + 1)) = if (lu m[i].1 l).isNone = true then m[i] :: bn l (m.drop (i + 1)) else bn l (m.drop (i + 1)) := by
      unfold bn
      rw [List.filter_cons]
    rw [hbn]
    cases e : lu m[i].1 l with
    | none =>
      obtain ⟨cc, s, st', e3, m1, m2, m3, _⟩ := wait_w (n := n) hM (a := k) (b := nm) r1.lev s1.le.2.1 (by rw [List.length_append]; omega) (by omega)
      rw [p1 e, Option.bind_some, if_neg (by decide), Option.bind_some, e1, Option.bind_some, e3, Option.bind_some, if_neg a2, if_pos (show (none : Option (JT d)).isNone = true from rfl)]
      refine MgO.wrap (MgO.step0 (MgO.wrap ?_) m2 m3.o (Nat.le_refl _))
      rw [List.append_assoc] at m1
      have := ih n (i + 1) st' vs ks (W ++ [(k, nm)]) (X ++ [m[i]]) (wc + cc) (wn + s) ha hb (by omega) (by rw [List.length_append]; simp; omega) m1 (hR.snoc r1 s1 sl) hbv hbk hbw (by omega)
      rw [List.append_assoc] at this
      exact this
    | some y =>
      obtain ⟨j, k', hj, _, f1, _, _⟩ := p2 y e
      rw [f1, Option.bind_some, if_pos (show (0 : Int32) ≤ i3 j by rw [show (0 : Int32) = i3 0 from rfl, i3_le (by omega) (by omega)]; omega), if_neg (show ¬ (some y).isNone = true from fun h => by cases h)]
      exact MgO.wrap (ih n (i + 1) st vs ks W X wc wn ha hb (by omega) (by omega) hM hR hbv hbk hbw (by omega))
def sS {d : Nat} (m l : List (Sx × JT d)) : Nat := (l.map (fun p => cl p.2 + yl m p)).sum
theorem mrg1 {rec : xS → Nat → Nat → Option (Nat × Nat × Nat × Nat × xS)} (hrec : RecG cs d rec) {l m : List (Sx × JT d)} {a b : Nat} (hol : ∀ p ∈ l, jok d p.2) (hom : ∀ p ∈ m, jok d p.2) : ∀ (q n i : Nat) (st : xS) (vs : List VR) (ks W : List NP) (X : List (Sx × JT d)) (wc wn : Nat), Rep vs cs ks (d + 1) (jo l) a → Rep vs cs ks (d + 1) (jo m) b → i + q = l.length → W.length = i → MS st vs cs ks (W0 ++ W) → RM vs cs ks d W X → vs.length + (sS m (l.drop i) + l.length + m.length + 1) ≤ bV → ks.length + (sS m (l.drop i) + l.length + m.length + 1) ≤ bK → W0.length + (sS m (l.drop i) + l.length + m.length + 1) ≤ bK → 3100000 + q < n → MgO st wc wn (fM_merged_b rec n 1 (i3 i) (i3 W0.length) a b st wc wn) vs cs ks W0 (sS m (l.drop i) + l.length + m.length + 1) (jo (X ++ ((l.drop i).map (bv (selD d) m) ++ bn l m))) := by
  have hbc : bC = 100000 := rfl
  have hbk' : bK = 32000 := rfl
  have hbv' : bV = 32000 := rfl
  intro q
  induction q with
  | zero =>
    intro n i st vs ks W X wc wn ha hb hi hW hM hR hbv hbk hbw hn
    obtain ⟨n, rfl⟩ : ∃ j, n = j + 1 := ⟨n - 1, by omega⟩
    obtain ⟨a1, _, a3, _⟩ := ha.g hM
    obtain ⟨as, al⟩ := ha.szo hM
    rw [fM_merged_b, if_pos rfl, if_neg a1, as, if_pos (by rw [i3_le (by omega) (by omega)]; omega), List.drop_eq_nil_of_le (by omega), List.map_nil, List.nil_append]
    have h0 : sS m ([] : List (Sx × JT d)) = 0 := rfl
    have := mrg2 (rec := rec) (W0 := W0) (l := l) m.length n 0 st vs ks W X wc wn ha hb (by omega) (by omega) hM hR (by omega) (by omega) (by omega) (by omega)
    rw [h0, Nat.zero_add]
    exact MgO.wrap this
  | succ q ih =>
    intro n i st vs ks W X wc wn ha hb hi hW hM hR hbv hbk hbw hn
    obtain ⟨n, rfl⟩ : ∃ j, n = j + 1 := ⟨n - 1, by omega⟩
    obtain ⟨a1, a2, a3, _⟩ := ha.g hM
    obtain ⟨b1, b2, _, _⟩ := hb.g hM
    obtain ⟨as, al⟩ := ha.szo hM
    obtain ⟨bs, bl⟩ := hb.szo hM
    obtain ⟨k, nm, e1, e2, r1, s1, sl⟩ := ha.okid (n := n) hM (List.getElem?_eq_getElem (show i < l.length by omega))
    obtain ⟨p1, p2⟩ := placeM (n := n) hM hb s1 sl (by omega)
    have hmem : l[i] ∈ l := List.getElem_mem _
    obtain ⟨d, rfl⟩ : ∃ d', d = d' + 1 := ⟨d - 1, by
      cases d with
      | zero => exact (j0 l[i].2).elim
      | succ d => rfl⟩
    have hsS : sS m (l.drop i) = cl l[i].2 + yl m l[i] + sS m (l.drop (i + 1)) := by
      rw [List.drop_eq_getElem_cons (show i < l.length by omega)]
      unfold sS
      rw [List.map_cons, List.sum_cons]
    rw [hsS] at hbv hbk hbw ⊢
    rw [fM_merged_b, if_pos rfl, if_neg a1, as, if_neg (by rw [i3_le (by omega) (by omega)]; omega), e2, Option.bind_some, List.drop_eq_getElem_cons (show i < l.length by omega), i3_one, List.map_cons]
    have body : ∀ (st1 : xS) (vs1 : List VR) (ks1 : List NP) (x : JT (d + 1)) (kx cc0 s0 : Nat), Cost st st1 cc0 s0 → FrO st st1 → MS st1 (vs ++ vs1) cs (ks ++ ks1) (W0 ++ W) → Rep (vs ++ vs1) cs (ks ++ ks1) (d + 1) x kx → vs1.length ≤ cl l[i].2 + yl m l[i] → ks1.length ≤ cl l[i].2 + yl m l[i] → bv (selD (d + 1)) m l[i] = (l[i].1, x) → ∃ (cc s : Nat) (st' : xS), fM_wait n st1 nm kx = some (cc, s, st') ∧ MgO st wc wn (xmo (fun a => a.2.1) (fun a => a.2.2.1) ((wc + cc0) + cc) ((wn + s0) + s) (fM_merged_b rec n 1 (i3 (i + 1)) (i3 W0.length) a b st' ((wc + cc0) + cc) ((wn + s0) + s))) vs cs ks W0 (cl l[i].2 + yl m l[i] + sS m (l.drop (i + 1)) + l.length + m.length + 1) (jo (X ++ (bv (selD (d + 1)) m l[i] :: (l.drop (i + 1)).map (bv (selD (d + 1)) m) ++ bn l m))) := by
      intro st1 vs1 ks1 x kx cc0 s0 hc0 hf0 hM1 hx hv1 hk1 hbv'
      obtain ⟨cc, s, st', e3, m1, m2, m3, _⟩ := wait_w (n := n) hM1 (a := kx) (b := nm) hx.lev (by have := s1.le.2.1; rw [List.length_append]; omega) (by rw [List.length_append]; omega) (by omega)
      refine ⟨cc, s, st', e3, ?_⟩
      rw [hbv']
      rw [List.append_assoc] at m1
      have := ih n (i + 1) st' (vs ++ vs1) (ks ++ ks1) (W ++ [(kx, nm)]) (X ++ [(l[i].1, x)]) (wc + (cc0 + cc)) (wn + (s0 + s)) ha.mo hb.mo (by omega) (by rw [List.length_append, hW]; rfl) m1 (hR.mo.snoc hx s1.mo sl) (by rw [List.length_append]; omega) (by rw [List.length_append]; omega) (by omega) (by omega)
      rw [List.append_assoc, ← Nat.add_assoc, ← Nat.add_assoc] at this
      refine MgO.step (a := vs1) (c := ks1) (cc := cc0 + cc) (s := s0 + s) (S' := sS m (l.drop (i + 1)) + l.length + m.length + 1) ?_ (hc0.trans m2) (hf0.trans m3.o) (by omega) (by omega)
      rw [← Nat.add_assoc, ← Nat.add_assoc]
      exact MgO.wrap this
    have b0 : ∀ (x : JT (d + 1)) (kx : Nat), Rep vs cs ks (d + 1) x kx → bv (selD (d + 1)) m l[i] = (l[i].1, x) → ∃ (cc s : Nat) (st' : xS), fM_wait n st nm kx = some (cc, s, st') ∧ MgO st wc wn (xmo (fun a => a.2.1) (fun a => a.2.2.1) (wc + cc) (wn + s) (fM_merged_b rec n 1 (i3 (i + 1)) (i3 W0.length) a b st' (wc + cc) (wn + s))) vs cs ks W0 (cl l[i].2 + yl m l[i] + sS m (l.drop (i + 1)) + l.length + m.length + 1) (jo (X ++ (bv (selD (d + 1)) m l[i] :: (l.drop (i + 1)).map (bv (selD (d + 1)) m) ++ bn l m))) := by
      intro x kx hx hbv'
      exact body st [] [] x kx 0 0 Cost.refl FrO.refl (by rw [List.append_nil, List.append_nil]; exact hM) (by rw [List.append_nil, List.append_nil]; exact hx) (Nat.zero_le _) (Nat.zero_le _) hbv'
    obtain ⟨kg1, kg2, kg3, _⟩ := r1.g hM
    have k7 := kd7 (hol _ hmem)
    cases e : lu l[i].1 m with
    | none =>
      obtain ⟨cc, s, st', w1, w2⟩ := b0 l[i].2 k r1 (by unfold bv; rw [e])
      rw [p1 e, Option.bind_some, e1, Option.bind_some, if_pos (by decide), Option.bind_some, w1, Option.bind_some, if_neg kg2, if_neg b2]
      exact MgO.wrap w2
    | some y =>
      obtain ⟨j, k', hj, hjm, f1, f2, f3⟩ := p2 y e
      have hoy : jok (d + 1) y := hom _ (List.mem_of_getElem? hjm)
      obtain ⟨yg1, yg2, yg3, _⟩ := f3.g hM
      have y7 := kd7 hoy
      have hyl : yl m l[i] = cl y := by unfold yl; rw [e]
      have hbve : bv (selD (d + 1)) m l[i] = (l[i].1, selD (d + 1) l[i].2 y) := by unfold bv; rw [e]
      rw [f1, Option.bind_some, e1, Option.bind_some, if_neg (i3_nn (by omega)), f2, Option.bind_some, if_neg kg1, kg3]
      by_cases hx6 : kd (d + 1) l[i].2 = 6
      · rw [if_pos (by rw [hx6]; rfl), if_neg yg1, yg3]
        by_cases hy6 : kd (d + 1) y = 6
        · rw [if_pos (by rw [hy6]; rfl)]
          have hrc := hrec st vs ks (W0 ++ W) l[i].2 y k k' r1 f3 (hol _ hmem) hoy hx6 hy6 hM (by omega) (by omega) (by rw [List.length_append]; omega)
          rcases hrc with ⟨cc, s, c, st1, vs1, ks1, e3, g1, g2, g3, g4, g5, g6⟩ | ⟨hbig, cc, s, st1, e3, g1, g2⟩
          · rw [e3, Option.bind_some]
            dsimp only
            obtain ⟨cg1, cg2, _, _⟩ := g4.g g1
            have hM1 : MS (xsI st1 9 (xsi st1 9 + xpi st1 3 (c - 1))) (vs ++ vs1) cs (ks ++ ks1) (W0 ++ W) := g1.si (by decide) (by decide) (by decide) (by decide)
            obtain ⟨k2, nm2, _, e4, _, s2, _⟩ := (ha.mo (vs' := vs1) (ks' := ks1)).okid (n := n) hM1 (List.getElem?_eq_getElem (show i < l.length by omega))
            obtain ⟨_, _, _, _⟩ := (ha.mo (vs' := vs1) (ks' := ks1)).g g1
            have ag := ((ha.mo (vs' := vs1) (ks' := ks1)).g g1).2.1
            have bg := ((hb.mo (vs' := vs1) (ks' := ks1)).g g1).2.1
            have yg := ((f3.mo (vs' := vs1) (ks' := ks1)).g g1).2.1
            rw [if_pos rfl, if_neg b2, if_neg cg1, e4, Option.bind_some]
            have hnm : nm2 = nm := by
              obtain ⟨h1, v, hv, _, _, _, _, _, _, hk⟩ := ha
              obtain ⟨pp, hp, _, _⟩ := hk i _ (List.getElem?_eq_getElem (show i < l.length by omega))
              have q1 := (kid_w (n := n) hM h1 hv hp).2
              have q2 := (kid_w (n := n) hM1 h1 (pre_get hv) (pre_get hp)).2
              rw [e2] at q1
              rw [e4] at q2
              injection q1 with q1
              injection q2 with q2
              rw [q1, q2]
            rw [hnm]
            obtain ⟨cc2, s2', st2, w1, w2⟩ := body (xsI st1 9 (xsi st1 9 + xpi st1 3 (c - 1))) vs1 ks1 (selD (d + 1) l[i].2 y) c cc s ⟨g2.1, g2.2⟩ (g3.trans (FrO.at (k := 9) _ (by decide))) hM1 g4 (by omega) (by omega) hbve
            rw [w1, Option.bind_some, if_neg yg, if_neg ag, if_neg bg, Nat.zero_add, Nat.zero_add]
            refine MgO.wrap ?_
            rw [xmo_id (fun z hz => ?_)]
            · exact w2
            · have := w2.ge z
              have h3 : ∀ z, (xmo (fun a : Nat × Nat × Nat × Nat × xS => a.2.1) (fun a => a.2.2.1) ((wc + cc) + cc2) ((wn + s) + s2') (fM_merged_b rec n 1 (i3 (i + 1)) (i3 W0.length) a b st2 ((wc + cc) + cc2) ((wn + s) + s2'))) = some z → wc + cc ≤ z.2.1 ∧ wn + s ≤ z.2.2.1 := by
                intro z hz
                unfold xmo at hz
                rw [Option.bind_eq_some_iff] at hz
                obtain ⟨u, hu, hz⟩ := hz
                split at hz
                · cases hz
                · rename_i hh
                  injection hz with hz
                  rw [← hz]
                  dsimp only at hh
                  omega
              exact h3 z hz
          · rw [e3, Option.bind_some, if_neg (show ¬ (1 : Nat) = 0 by decide), if_pos rfl, if_neg b2]
            dsimp only
            rw [Nat.zero_add, Nat.zero_add, hbve]
            refine MgO.wrap (Or.inr ⟨?_, cc, s, st1, xmo_some (Nat.le_refl _) (Nat.le_refl _), g1, g2⟩)
            exact big_o (p := (l[i].1, selD (d + 1) l[i].2 y)) (List.mem_append_right _ (List.mem_append_left _ List.mem_cons_self)) hbig
        · obtain ⟨cc, s, st', w1, w2⟩ := b0 y k' f3 (by rw [hbve, selD_n (Or.inr hy6) (hol _ hmem) hoy])
          rw [if_neg (show ¬ i3 (kd (d + 1) y) = 6 from fun h => hy6 ((ke (c := 6) y7 (by omega)).mp h)), Option.bind_some, w1, Option.bind_some, if_neg b2]
          exact MgO.wrap w2
      · obtain ⟨cc, s, st', w1, w2⟩ := b0 y k' f3 (by rw [hbve, selD_n (Or.inl hx6) (hol _ hmem) hoy])
        rw [if_neg (show ¬ i3 (kd (d + 1) l[i].2) = 6 from fun h => hx6 ((ke (c := 6) k7 (by omega)).mp h)), Option.bind_some, w1, Option.bind_some, if_neg yg2, if_neg b2]
        exact MgO.wrap w2
theorem mergeM {n : Nat} (hn : 4000000 < n) : ∀ (d fu : Nat), d ≤ fu → RecG cs d (fM_merged fu n) := by
  have hbk' : bK = 32000 := rfl
  intro d
  induction d with
  | zero => intro fu _ st vs ks ws x; exact (j0 x).elim
  | succ d ih =>
    intro fu hfu st vs ks ws x y a b ha hb hx hy hkx hky hM h1 h2 h3
    obtain ⟨fu, rfl⟩ : ∃ f, fu = f + 1 := ⟨fu - 1, by omega⟩
    obtain ⟨l, rfl⟩ : ∃ l, x = jo l := by
      rcases kd_3 hx (by omega) with ⟨z, rfl⟩ | ⟨s, rfl⟩ | ⟨l, rfl⟩ | ⟨l, rfl⟩
      · cases hkx
      · cases hkx
      · cases hkx
      · exact ⟨l, rfl⟩
    obtain ⟨m, rfl⟩ : ∃ l, y = jo l := by
      rcases kd_3 hy (by omega) with ⟨z, rfl⟩ | ⟨s, rfl⟩ | ⟨l, rfl⟩ | ⟨l, rfl⟩
      · cases hky
      · cases hky
      · cases hky
      · exact ⟨l, rfl⟩
    have c1 := cl_o l
    have c2 := cl_o m
    have hy := hy
    have hs : sS m l = (l.map (fun p => cl p.2)).sum + (l.map (yl m)).sum := sum_add l
    have hyl := yl_sum hx.2 m
    rw [fM_merged, hM.1.1.2.2.2, selD_o]
    have := mrg1 (W0 := ws) (ih fu (by omega)) (l := l) (m := m) (a := a) (b := b) (fun p hp => (hx.1 p hp).2) (fun p hp => (hy.1 p hp).2) l.length n 0 st vs ks [] [] 0 0 ha hb (by omega) rfl (by rw [List.append_nil]; exact hM) trivial (by rw [List.drop_zero]; omega) (by rw [List.drop_zero]; omega) (by rw [List.drop_zero]; omega) (by omega)
    rw [List.drop_zero] at this
    rcases this with ⟨cc, s, c, st', vs', ks', g⟩ | g
    · exact Or.inl ⟨cc, s, c, st', vs', ks', g.1, g.2.1, g.2.2.1, g.2.2.2.1, g.2.2.2.2.1, by have := g.2.2.2.2.2.1; omega, by have := g.2.2.2.2.2.2; omega⟩
    · exact Or.inr g
theorem MgO.op {st : xS} {wc wn S cR : Nat} {out : Option (Nat × Nat × Nat × Nat × xS)} {vs : List VR} {ks ws : List NP} {j : JT d} (h : MgO st wc wn out vs cs ks ws S j) : OpO st wc wn cR 1 out vs cs ks ws (.inr j) := by
  rcases h with ⟨cc, s, c, st', vs', ks', g1, g2, g3, g4, g5, _⟩ | ⟨g1, cc, s, st', g2, g3, g4⟩
  · exact Or.inl ⟨cc, s, c, st', vs', [], ks', g1, by rw [List.append_nil]; exact g2, g3, g4, by rw [List.append_nil]; exact g5⟩
  · exact Or.inr ⟨by omega, g1, cc, s, st', g2, g3, g4⟩
end MRG
