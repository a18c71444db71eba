section GRP
variable {cs : List Nat} {W0 : List NP} {e d : Nat} {K : List (JT d)}
theorem kc_anti (x y : Nat) : kc K y x = - kc K x y := by
  unfold kc
  cases K[x]? <;> cases K[y]? <;> first | rfl | exact (jcmp_good d).1 _ _
theorem kc_cong {x y : Nat} (hx : x < K.length) (hy : y < K.length) (h : kc K x y = 0) {z : Nat} (hz : z < K.length) : kc K x z = kc K y z := by
  unfold kc at h ⊢
  rw [List.getElem?_eq_getElem hx, List.getElem?_eq_getElem hy] at h
  rw [List.getElem?_eq_getElem hx, List.getElem?_eq_getElem hy, List.getElem?_eq_getElem hz]
  exact (jcmp_good d).cong h _
abbrev sk (K : List (JT d)) (f : Nat) : Nat → Bool := fun t => decide (kc K t f = 0)
theorem bgn_sk {p f t : Nat} (hp : p < K.length) (hf : f < K.length) (ht : t < K.length) (h : kc K p f = 0) : bgn K (some p) t = !sk K f t := by
  have h1 : kc K p t = kc K f t := kc_cong hp hf h ht
  have h2 := kc_anti (K := K) f t
  show decide (kc K p t ≠ 0) = !decide (kc K t f = 0)
  by_cases hz : kc K f t = 0
  · rw [decide_eq_false (by rw [h1]; simpa using hz), decide_eq_true (by omega)]
    rfl
  · rw [decide_eq_true (by rw [h1]; exact hz), decide_eq_false (by omega)]
    rfl
theorem run_tw {f : Nat} (hf : f < K.length) : ∀ (T : List Nat) (p : Nat), p < K.length → kc K p f = 0 → (∀ x ∈ T, x < K.length) → run K p T = T.takeWhile (sk K f)
  | [], _, _, _, _ => rfl
  | t :: T, p, hp, h, hT => by
    have ht := hT t List.mem_cons_self
    unfold run
    rw [bgn_sk hp hf ht h, List.takeWhile_cons]
    cases hs : sk K f t with
    | false => rfl
    | true =>
      have hz : kc K t f = 0 := of_decide_eq_true hs
      rw [Bool.not_true, if_neg (by decide), if_pos rfl, run_tw hf T t ht hz (fun x hx => hT x (List.mem_cons_of_mem _ hx))]
theorem grs_dw {f : Nat} (hf : f < K.length) : ∀ (T : List Nat) (p : Nat), p < K.length → kc K p f = 0 → (∀ x ∈ T, x < K.length) → grs K (some p) T = grs K none (T.dropWhile (sk K f))
  | [], _, _, _, _ => rfl
  | t :: T, p, hp, h, hT => by
    have ht := hT t List.mem_cons_self
    rw [List.dropWhile_cons]
    conv => lhs; unfold grs
    rw [bgn_sk hp hf ht h]
    cases hs : sk K f t with
    | false => rfl
    | true =>
      have hz : kc K t f = 0 := of_decide_eq_true hs
      rw [Bool.not_true, if_neg (by decide), if_pos rfl, grs_dw hf T t ht hz (fun x hx => hT x (List.mem_cons_of_mem _ hx))]
theorem fsts_dw {f : Nat} (hf : f < K.length) : ∀ (T : List Nat) (p : Nat), p < K.length → kc K p f = 0 → (∀ x ∈ T, x < K.length) → fsts K (some p) T = fsts K none (T.dropWhile (sk K f))
  | [], _, _, _, _ => rfl
  | t :: T, p, hp, h, hT => by
    have ht := hT t List.mem_cons_self
    rw [List.dropWhile_cons]
    conv => lhs; unfold fsts
    rw [bgn_sk hp hf ht h]
    cases hs : sk K f t with
    | false => rfl
    | true =>
      have hz : kc K t f = 0 := of_decide_eq_true hs
      rw [Bool.not_true, if_neg (by decide), if_pos rfl, fsts_dw hf T t ht hz (fun x hx => hT x (List.mem_cons_of_mem _ hx))]
theorem kc_self {x : Nat} : kc K x x = 0 := by
  have := kc_anti (K := K) x x
  omega
theorem grs_n {f : Nat} {T : List Nat} (hf : f < K.length) (hT : ∀ x ∈ T, x < K.length) : grs K none (f :: T) = (f :: T.takeWhile (sk K f)) :: grs K none (T.dropWhile (sk K f)) := by
  rw [← run_tw hf T f hf kc_self hT, ← grs_dw hf T f hf kc_self hT]
  rfl
theorem fsts_n {f : Nat} {T : List Nat} (hf : f < K.length) (hT : ∀ x ∈ T, x < K.length) : fsts K none (f :: T) = f :: fsts K none (T.dropWhile (sk K f)) := by
  rw [← fsts_dw hf T f hf kc_self hT]
  rfl
def TabM (st : xS) (tot : Nat) (T : List Nat) : Prop := tot = T.length ∧ (∀ x ∈ T, x < tot) ∧ seg (xba st 13) 0 (T.map i3) ∧ tot ≤ xln st 13
theorem TabM.at {st : xS} {tot i : Nat} {T : List Nat} (h : TabM st tot T) (hi : i < T.length) : xba st 13 i = i3 T[i] ∧ T[i] < tot := by
  refine ⟨?_, h.2.1 _ (List.getElem_mem _)⟩
  have := h.2.2.1 i (i3 T[i]) (by rw [List.getElem?_map, List.getElem?_eq_getElem hi]; rfl)
  rw [Nat.zero_add] at this
  exact this
theorem TabM.fr {st st' : xS} {tot : Nat} {T : List Nat} (h : TabM st tot T) (hf : Fr0 st st') : TabM st' tot T := ⟨h.1, h.2.1, by rw [hf.b13.1]; exact h.2.2.1, by rw [hf.b13.2]; exact h.2.2.2⟩
theorem keyZ {st : xS} {vs : List VR} {ks ws : List NP} {fu n b tot f t : Nat} (hM : MS st vs cs ks ws) (hb : Rep vs cs ks (d + 1) (ja K) b) (hok : ∀ x ∈ K, jok d x) (hd : d ≤ fu) (hn : 5000000 < n) (htk : tot = K.length) (hf : f < tot) (ht : t < tot) : ∃ (k1 k2 : Nat) (z : Int32), fM_kid n st b (i3 t) = some k1 ∧ fM_kid n st b (i3 f) = some k2 ∧ fM_order fu n st k1 k2 = some z ∧ (z = 0 ↔ sk K f t = true) := by
  obtain ⟨k1, e1, r1⟩ := hb.kid (n := n) hM (List.getElem?_eq_getElem (show t < K.length by omega))
  obtain ⟨k2, e2, r2⟩ := hb.kid (n := n) hM (List.getElem?_eq_getElem (show f < K.length by omega))
  obtain ⟨z, hz, z0, _⟩ := (orderM (n := n) hM hn d fu hd _ _ _ _ r1 r2 (hok _ (List.getElem_mem _)) (hok _ (List.getElem_mem _))).tests
  refine ⟨k1, k2, z, e1, e2, hz, z0.trans ?_⟩
  have hkc : kc K t f = jcmp d K[t] K[f] := by
    unfold kc
    rw [List.getElem?_eq_getElem (by omega), List.getElem?_eq_getElem (by omega)]
  show _ ↔ decide (kc K t f = 0) = true
  rw [hkc]
  exact ⟨fun h => decide_eq_true h, fun h => of_decide_eq_true h⟩
theorem in2 {vs : List VR} {ks ws : List NP} {fu tot a b f i N wc wn : Nat} {y5 y9 : Int32} {R : Nat ⊕ JT (e + 1)} {T : List Nat} {st : xS} (hM : MS st vs cs ks ws) (hb : Rep vs cs ks (d + 1) (ja K) b) (hok : ∀ x ∈ K, jok d x) (hd : d ≤ fu) (htk : tot = K.length) (h2 : tot ≤ 4096) (hTb : TabM st tot T) (hf : f < tot) (hN : 5000001 ≤ N)
    (hK : ∀ (n' j' : Nat) (y8' y7' : Int32), N ≤ n' → i < j' → T.drop j' = (T.drop (i + 1)).dropWhile (sk K f) → j' ≤ tot → OpO st wc wn 1 1 (fM_sort1_b fu n' 2 (i3 j') y5 (i3 tot) a b 2 y9 y8' y7' st wc wn) vs cs ks W0 R) : ∀ (q n j : Nat), j + q = tot → i < j → (T.drop (i + 1)).dropWhile (sk K f) = (T.drop j).dropWhile (sk K f) → N + q + 1 ≤ n → OpO st wc wn 1 1 (fM_sort1_b fu n 3 (i3 i) y5 (i3 tot) a b 2 y9 (i3 j) (i3 f) st wc wn) vs cs ks W0 R := by
  obtain ⟨t1, t2, t3, t4⟩ := hTb
  intro q
  induction q with
  | zero =>
    intro n j hj hij hdw hn
    obtain ⟨n, rfl⟩ : ∃ k, n = k + 1 := ⟨n - 1, by omega⟩
    rw [fM_sort1_b, if_neg (by decide), if_neg (by decide), if_pos (by rw [i3_le (by omega) (by omega)]; omega), if_neg (by decide)]
    refine OpO.wrap (hK n j _ _ (by omega) hij ?_ (by omega))
    rw [hdw, List.drop_eq_nil_of_le (by omega)]
    rfl
  | succ q ih =>
    intro n j hj hij hdw hn
    obtain ⟨n, rfl⟩ : ∃ k, n = k + 1 := ⟨n - 1, by omega⟩
    have hTb : TabM st tot T := ⟨t1, t2, t3, t4⟩
    obtain ⟨hx, hlt⟩ := hTb.at (i := j) (by omega)
    obtain ⟨k1, k2, z, e1, e2, e3, hz⟩ := keyZ (n := n) hM hb hok hd (by omega) htk hf hlt
    rw [fM_sort1_b, if_neg (by decide), if_neg (by decide), if_neg (by rw [i3_le (by omega) (by omega)]; omega), if_neg (i3_idx (by omega) (by omega)), i3_N (by omega), hx, e1, Option.bind_some, e2, Option.bind_some, e3, Option.bind_some]
    rw [List.drop_eq_getElem_cons (show j < T.length by omega), List.dropWhile_cons] at hdw
    by_cases h0 : z = 0
    · rw [if_pos h0, if_neg (by decide), if_neg (by rw [i3_eq (by omega) (by omega)]; omega), i3_one]
      rw [if_pos (hz.mp h0)] at hdw
      exact OpO.wrap (ih n (j + 1) (by omega) (by omega) hdw (by omega))
    · rw [if_neg h0, if_neg (by decide)]
      rw [if_neg (fun h => h0 (hz.mpr h)), ← List.drop_eq_getElem_cons (show j < T.length by omega)] at hdw
      exact OpO.wrap (hK n j _ _ (by omega) hij hdw.symm (by omega))
theorem dw_drop {α : Type} (p : α → Bool) : ∀ (l : List α), ∃ k, l.dropWhile p = l.drop k ∧ k ≤ l.length
  | [] => ⟨0, rfl, Nat.le_refl _⟩
  | x :: l => by
    rw [List.dropWhile_cons]
    by_cases h : p x = true
    · rw [if_pos h]
      obtain ⟨k, h1, h2⟩ := dw_drop p l
      exact ⟨k + 1, h1, Nat.succ_le_succ h2⟩
    · rw [if_neg h]
      exact ⟨0, rfl, Nat.zero_le _⟩
theorem srt2 {vs : List VR} {ks : List NP} {fu tot a b : Nat} {l : List (JT e)} {T : List Nat} (ha : Rep vs cs ks (e + 1) (ja l) a) (hb : Rep vs cs ks (d + 1) (ja K) b) (hok : ∀ x ∈ K, jok d x) (hd : d ≤ fu) (htk : tot = K.length) (htl : tot = l.length) (h2 : tot ≤ 4096) (hbv : vs.length + 1 ≤ bV) (hbk : ks.length + (W0.length + tot) ≤ bK) : ∀ (q n i : Nat) (st : xS) (W : List NP) (X : List (JT e)) (wc wn : Nat) (y9 y8 y7 : Int32), i + q = tot → W.length ≤ i → MS st vs cs ks (W0 ++ W) → RL vs cs ks e W X → TabM st tot T → 6000000 + q * 10000 < n → OpO st wc wn 1 1 (fM_sort1_b fu n 2 (i3 i) (i3 W0.length) (i3 tot) a b 2 y9 y8 y7 st wc wn) vs cs ks W0 (.inr (ja (X ++ byT (fsts K none (T.drop i)) l))) := by
  have hbc' : bC = 100000 := rfl
  have hbk' : bK = 32000 := rfl
  intro q
  induction q using Nat.strongRecOn with
  | ind q ih =>
    intro n i st W X wc wn y9 y8 y7 hi hW hM hR hTb hn
    obtain ⟨n, rfl⟩ : ∃ j, n = j + 1 := ⟨n - 1, by omega⟩
    have t1 := hTb.1
    cases q with
    | zero =>
      have hnil : X ++ byT (fsts K none []) l = X := List.append_nil X
      rw [fM_sort1_b, if_neg (by decide), if_pos rfl, if_pos (by rw [i3_le (by omega) (by omega)]; omega), List.drop_eq_nil_of_le (by omega), hnil]
      exact OpO.wrap (OpO.l1 (cR := 1) (by omega) (whole_ao hM hR hbv (by omega) (by omega)))
    | succ q =>
      have hmul : (q + 1) * 10000 = q * 10000 + 10000 := Nat.succ_mul _ _
      obtain ⟨hx, hlt⟩ := hTb.at (i := i) (by omega)
      have h4 := hTb.2.2.2
      have hll : l[T[i]]? = some l[T[i]] := List.getElem?_eq_getElem (by omega)
      rw [fM_sort1_b, if_neg (by decide), if_pos rfl, if_neg (by rw [i3_le (by omega) (by omega)]; omega), if_neg (i3_idx (by omega) (by omega)), if_neg (by decide), i3_N (by omega), hx]
      obtain ⟨n, rfl⟩ : ∃ j, n = j + 1 := ⟨n - 1, by omega⟩
      obtain ⟨k1, k2, z, e1, e2, e3, hz⟩ := keyZ (n := n) hM hb hok hd (by omega) htk hlt hlt
      have hz0 : z = 0 := hz.mpr (decide_eq_true kc_self)
      obtain rfl : k1 = k2 := by rw [e1] at e2; injection e2
      obtain ⟨k, e4, r4⟩ := ha.kid (n := n) hM hll
      obtain ⟨_, a2, _, _⟩ := ha.g hM
      obtain ⟨_, b2, _, _⟩ := hb.g hM
      obtain ⟨cc, s, st', e5, m1, m2, m3, _⟩ := wait_w (n := n) hM (a := k) (b := 0) r4.lev (by omega) (by rw [List.length_append]; omega) (by omega)
      rw [fM_sort1_b, if_neg (by decide), if_neg (by decide), if_neg (by rw [i3_le (by omega) (by omega)]; omega), if_neg (i3_idx (by omega) (by omega)), i3_N (by omega), hx, e1, Option.bind_some, Option.bind_some, e3, Option.bind_some, if_pos hz0, if_neg (by decide), if_pos rfl, if_neg (i3_id2 (by omega) (by omega)), e4, Option.bind_some, e5, Option.bind_some, if_neg a2, if_neg b2, i3_one]
      refine OpO.wrap (OpO.wrap (OpO.step0 (OpO.wrap ?_) m2 m3.o))
      rw [List.append_assoc] at m1
      have hTK : ∀ x ∈ T.drop (i + 1), x < K.length := fun x hx => by
        have := hTb.2.1 x (List.mem_of_mem_drop hx)
        omega
      rw [List.drop_eq_getElem_cons (show i < T.length by omega), fsts_n (by omega) hTK, byT_c hll]
      refine in2 (N := 6000000 + q * 10000 + 1) m1 hb hok hd htk h2 (hTb.fr m3) hlt (by omega) (fun n' j' y8' y7' hn' hij hdr hjt => ?_) q n (i + 1) (by omega) (by omega) rfl (by omega)
      rw [← hdr]
      have := ih (tot - j') (by omega) n' j' st' (W ++ [(k, 0)]) (X ++ [l[T[i]]]) (wc + cc) (wn + s) (xsi st 12) y8' y7' (by omega) (by rw [List.length_append]; simp; omega) m1 (hR.snoc r4 (by omega)) (hTb.fr m3) (Nat.lt_of_lt_of_le (Nat.lt_succ_of_le (Nat.add_le_add_left (Nat.mul_le_mul_right 10000 (by omega)) 6000000)) hn')
      rw [List.append_assoc] at this
      exact this
noncomputable def fin1 (fu n : Nat) (y6 y5 y4 : Int32) (y1 y2 : Nat) (y9 y8 y7 : Int32) (ws9 : xS) (wc wn : Nat) : Option (Nat × Nat × Nat × Nat × xS) := (fM_whole n (xsI ws9 9 ((xsi ws9 9) + (y8 - y6))) 5 y9).bind fun o1 => ((if o1.1 = 0 then if (xct ws9) < y1 then none else if (xct ws9) < y2 then none else xmo (fun a => a.2.1) (fun a => a.2.2.1) (wc + o1.2.1) (wn + o1.2.2.1) ((fM_wait n o1.2.2.2.2 0 o1.2.2.2.1).bind fun o15 => (if (xct o1.2.2.2.2) < y1 then none else if (xct o1.2.2.2.2) < y2 then none else xmo (fun a => a.2.1) (fun a => a.2.2.1) ((wc + o1.2.1) + o15.1) ((wn + o1.2.2.1) + o15.2.1) (fM_sort1_b fu n 2 y8 y5 y4 y1 y2 1 y9 y8 y7 o15.2.2 ((wc + o1.2.1) + o15.1) ((wn + o1.2.2.1) + o15.2.1)))) else (if o1.1 = 1 then if (xct ws9) < y1 then none else if (xct ws9) < y2 then none else xmo (fun a => a.2.1) (fun a => a.2.2.1) (wc + o1.2.1) (wn + o1.2.2.1) (some (1, (wc + o1.2.1), (wn + o1.2.2.1), 0, o1.2.2.2.2)) else none)))
theorem in1 {vs : List VR} {ks WW : List NP} {fu tot a b f i N : Nat} {y5 y9 : Int32} {R : Nat ⊕ JT (e + 2)} {l : List (JT e)} {T : List Nat} (ha : Rep vs cs ks (e + 1) (ja l) a) (hb : Rep vs cs ks (d + 1) (ja K) b) (hok : ∀ x ∈ K, jok d x) (hd : d ≤ fu) (htk : tot = K.length) (htl : tot = l.length) (h2 : tot ≤ 4096) (hf : f < tot) (hN : 5000001 ≤ N) (hbw : WW.length + tot ≤ bK)
    (hK : ∀ (n' j' : Nat) (st' : xS) (G' : List NP) (Y : List (JT e)) (wc' wn' : Nat), N ≤ n' → i < j' → (∃ P, Y = byT P l ∧ T.drop i = P ++ T.drop j' ∧ P = f :: (T.drop (i + 1)).takeWhile (sk K f)) → T.drop j' = (T.drop (i + 1)).dropWhile (sk K f) → j' ≤ tot → MS st' vs cs ks (WW ++ G') → RL vs cs ks e G' Y → TabM st' tot T → G'.length + i ≤ j' → OpO st' wc' wn' 1 1 (fin1 fu n' (i3 i) y5 (i3 tot) a b y9 (i3 j') (i3 f) st' wc' wn') vs cs ks W0 R) : ∀ (q n j : Nat) (st : xS) (G : List NP) (P : List Nat) (wc wn : Nat), j + q = tot → i < j → (T.drop (i + 1)).dropWhile (sk K f) = (T.drop j).dropWhile (sk K f) → T.drop i = P ++ T.drop j → f :: (T.drop (i + 1)).takeWhile (sk K f) = P ++ (T.drop j).takeWhile (sk K f) → MS st vs cs ks (WW ++ G) → RL vs cs ks e G (byT P l) → TabM st tot T → G.length + i ≤ j → N + q + 1 ≤ n → OpO st wc wn 1 1 (fM_sort1_b fu n 3 (i3 i) y5 (i3 tot) a b 1 y9 (i3 j) (i3 f) st wc wn) vs cs ks W0 R := by
  have hbk' : bK = 32000 := rfl
  intro q
  induction q with
  | zero =>
    intro n j st G P wc wn hj hij hdw hdr htw hM hR hTb hG hn
    obtain ⟨n, rfl⟩ : ∃ k, n = k + 1 := ⟨n - 1, by omega⟩
    have t1 := hTb.1
    rw [fM_sort1_b, if_neg (by decide), if_neg (by decide), if_pos (by rw [i3_le (by omega) (by omega)]; omega), if_pos rfl]
    rw [show T.drop j = [] from List.drop_eq_nil_of_le (by omega)] at hdw htw
    refine OpO.wrap (hK n j st G (byT P l) wc wn (by omega) hij ⟨P, rfl, hdr, ?_⟩ ?_ (by omega) hM hR hTb hG)
    · rw [htw]
      exact (List.append_nil P).symm
    · rw [hdw]
      exact List.drop_eq_nil_of_le (by omega)
  | succ q ih =>
    intro n j st G P wc wn hj hij hdw hdr htw hM hR hTb hG hn
    obtain ⟨n, rfl⟩ : ∃ k, n = k + 1 := ⟨n - 1, by omega⟩
    have t1 := hTb.1
    have t4 := hTb.2.2.2
    obtain ⟨hx, hlt⟩ := hTb.at (i := j) (by omega)
    obtain ⟨k1, k2, z, e1, e2, e3, hz⟩ := keyZ (n := n) hM hb hok hd (by omega) htk hf hlt
    obtain ⟨_, a2, _, _⟩ := ha.g hM
    obtain ⟨_, b2, _, _⟩ := hb.g hM
    have hcons := List.drop_eq_getElem_cons (show j < T.length by omega)
    rw [fM_sort1_b, if_neg (by decide), if_neg (by decide), if_neg (by rw [i3_le (by omega) (by omega)]; omega), if_neg (i3_idx (by omega) (by omega)), i3_N (by omega), hx, e1, Option.bind_some, e2, Option.bind_some, e3, Option.bind_some]
    by_cases h0 : z = 0
    · have hll : l[T[j]]? = some l[T[j]] := List.getElem?_eq_getElem (by omega)
      obtain ⟨k, e4, r4⟩ := ha.kid (n := n) hM hll
      obtain ⟨cc, s, st', e5, m1, m2, m3, _⟩ := wait_w (n := n) hM (a := k) (b := 0) r4.lev (by omega) (by rw [List.length_append]; omega) (by omega)
      rw [if_pos h0, if_pos rfl, if_neg (i3_id2 (by omega) (by omega)), e4, Option.bind_some, e5, Option.bind_some, if_neg a2, if_neg b2, i3_one]
      refine OpO.wrap (OpO.step0 (OpO.wrap ?_) m2 m3.o)
      rw [List.append_assoc] at m1
      have hby : byT (P ++ [T[j]]) l = byT P l ++ [l[T[j]]] := by
        unfold byT
        rw [List.filterMap_append, List.filterMap_cons, hll, List.filterMap_nil]
      refine ih n (j + 1) st' (G ++ [(k, 0)]) (P ++ [T[j]]) (wc + cc) (wn + s) (by omega) (by omega) ?_ ?_ ?_ m1 (by rw [hby]; exact hR.snoc r4 (by omega)) (hTb.fr m3) (by rw [List.length_append]; simp; omega) (by omega)
      · rw [hdw, hcons, List.dropWhile_cons, if_pos (hz.mp h0)]
      · rw [hdr, hcons, List.append_assoc]
        rfl
      · rw [htw, hcons, List.takeWhile_cons, if_pos (hz.mp h0), List.append_assoc]
        rfl
    · rw [if_neg h0, if_pos rfl]
      refine OpO.wrap (hK n j st G (byT P l) wc wn (by omega) hij ⟨P, rfl, hdr, ?_⟩ ?_ (by omega) hM hR hTb hG)
      · rw [htw, hcons, List.takeWhile_cons, if_neg (fun h => h0 (hz.mpr h)), List.append_nil]
      · rw [hdw, hcons, List.dropWhile_cons, if_neg (fun h => h0 (hz.mpr h))]
theorem srt1 {fu tot a b : Nat} {l : List (JT e)} {T : List Nat} (hok : ∀ x ∈ K, jok d x) (hd : d ≤ fu) (htk : tot = K.length) (htl : tot = l.length) (h2 : tot ≤ 4096) (hbw : W0.length + 2 * tot ≤ bK) : ∀ (q n i : Nat) (st : xS) (vs : List VR) (ks W : List NP) (X : List (JT (e + 1))) (wc wn : Nat) (y9 y8 y7 : Int32), Rep vs cs ks (e + 1) (ja l) a → Rep vs cs ks (d + 1) (ja K) b → i + q = tot → W.length ≤ i → MS st vs cs ks (W0 ++ W) → RL vs cs ks (e + 1) W X → TabM st tot T → vs.length + q + 1 ≤ bV → ks.length + W.length + 2 * q ≤ bK → 6000000 + q * 10000 < n → OpO st wc wn 1 1 (fM_sort1_b fu n 2 (i3 i) (i3 W0.length) (i3 tot) a b 1 y9 y8 y7 st wc wn) vs cs ks W0 (.inr (ja (X ++ (grs K none (T.drop i)).map (fun g => (ja (byT g l) : JT (e + 1)))))) := by
  have hbc' : bC = 100000 := rfl
  have hbk' : bK = 32000 := rfl
  have hbv' : bV = 32000 := rfl
  intro q
  induction q using Nat.strongRecOn with
  | ind q ih =>
    intro n i st vs ks W X wc wn y9 y8 y7 ha hb hi hW hM hR hTb hbv hbk hn
    obtain ⟨n, rfl⟩ : ∃ j, n = j + 1 := ⟨n - 1, by omega⟩
    have t1 := hTb.1
    cases q with
    | zero =>
      have hnil : X ++ (grs K none []).map (fun g => (ja (byT g l) : JT (e + 1))) = X := List.append_nil X
      rw [fM_sort1_b, if_neg (by decide), if_pos rfl, if_pos (by rw [i3_le (by omega) (by omega)]; omega), List.drop_eq_nil_of_le (by omega), hnil]
      exact OpO.wrap (OpO.l1 (cR := 1) (by omega) (whole_ao hM hR (by omega) (by omega) (by omega)))
    | succ q =>
      have hmul : (q + 1) * 10000 = q * 10000 + 10000 := Nat.succ_mul _ _
      obtain ⟨hx, hlt⟩ := hTb.at (i := i) (by omega)
      have h4 := hTb.2.2.2
      have hll : l[T[i]]? = some l[T[i]] := List.getElem?_eq_getElem (by omega)
      have h12 : xsi st 12 = i3 (W0 ++ W).length := hM.1.1.2.2.2
      rw [fM_sort1_b, if_neg (by decide), if_pos rfl, if_neg (by rw [i3_le (by omega) (by omega)]; omega), if_neg (i3_idx (by omega) (by omega)), if_neg (by decide), i3_N (by omega), hx, h12]
      obtain ⟨n, rfl⟩ : ∃ j, n = j + 1 := ⟨n - 1, by omega⟩
      obtain ⟨k1, k2, z, e1, e2, e3, hz⟩ := keyZ (n := n) hM hb hok hd (by omega) htk hlt hlt
      have hz0 : z = 0 := hz.mpr (decide_eq_true kc_self)
      obtain rfl : k1 = k2 := by rw [e1] at e2; injection e2
      obtain ⟨k, e4, r4⟩ := ha.kid (n := n) hM hll
      obtain ⟨_, a2, _, _⟩ := ha.g hM
      obtain ⟨_, b2, _, _⟩ := hb.g hM
      obtain ⟨cc, s, st', e5, m1, m2, m3, _⟩ := wait_w (n := n) hM (a := k) (b := 0) r4.lev (by omega) (by rw [List.length_append]; omega) (by omega)
      rw [fM_sort1_b, if_neg (by decide), if_neg (by decide), if_neg (by rw [i3_le (by omega) (by omega)]; omega), if_neg (i3_idx (by omega) (by omega)), i3_N (by omega), hx, e1, Option.bind_some, Option.bind_some, e3, Option.bind_some, if_pos hz0, if_pos rfl, if_neg (i3_id2 (by omega) (by omega)), e4, Option.bind_some, e5, Option.bind_some, if_neg a2, if_neg b2, i3_one]
      refine OpO.wrap (OpO.wrap (OpO.step0 (OpO.wrap ?_) m2 m3.o))
      have hTK : ∀ x ∈ T.drop (i + 1), x < K.length := fun x hx => by
        have := hTb.2.1 x (List.mem_of_mem_drop hx)
        omega
      have hcons := List.drop_eq_getElem_cons (show i < T.length by omega)
      refine in1 (WW := W0 ++ W) (N := 6000000 + q * 10000 + 1) (T := T) (l := l) ha hb hok hd htk htl h2 hlt (by omega) (by rw [List.length_append]; omega) (fun n' j' st2 G' Y wc' wn' hn' hij hP hdr hjt hM2 hR2 hTb2 hG' => ?_) q n (i + 1) st' [(k, 0)] [T[i]] (wc + cc) (wn + s) (by omega) (by omega) rfl hcons rfl m1 (by rw [byT_c hll]; exact ⟨r4, by omega, trivial⟩) (hTb.fr m3) (by simp; omega) (by omega)
      obtain ⟨P, rfl, hP1, hP2⟩ := hP
      have hgr : grs K none (T.drop i) = P :: grs K none (T.drop j') := by rw [hcons, grs_n (by omega) hTK, hP2, ← hdr]
      rw [hgr, List.map_cons]
      have hM3 : MS (xsI st2 9 (xsi st2 9 + (i3 j' - i3 i))) vs cs ks ((W0 ++ W) ++ G') := hM2.si (by decide) (by decide) (by decide) (by decide)
      obtain ⟨_, a5, _, _⟩ := ha.g hM2
      obtain ⟨_, b5, _, _⟩ := hb.g hM2
      unfold fin1
      rcases whole_ax (n := n') hM3 hR2 (by omega) (by omega) (by omega) with ⟨c1, s1, st3, v1, g1, g2, g3, g4, g5⟩ | ⟨hbig, c1, s1, st3, g1, g2, g3⟩
      · obtain ⟨c2, s2, st4, g6, n1, n2, n3, _⟩ := wait_w (n := n') g2 (a := vs.length + 1) (b := 0) (by rw [List.length_append]; simp) (by omega) (by rw [List.length_append]; omega) (by omega)
        have ha' := ha.mo (vs' := [v1]) (ks' := G')
        have hb' := hb.mo (vs' := [v1]) (ks' := G')
        obtain ⟨_, a6, _, _⟩ := ha'.g g2
        obtain ⟨_, b6, _, _⟩ := hb'.g g2
        rw [g1, Option.bind_some, if_pos rfl, if_neg a5, if_neg b5]
        dsimp only
        rw [g6, Option.bind_some, if_neg a6, if_neg b6]
        dsimp only
        have hT4 : TabM st4 tot T := by
          have h1 : TabM (xsI st2 9 (xsi st2 9 + (i3 j' - i3 i))) tot T := hTb2
          exact (h1.fr g4).fr n3
        rw [List.append_assoc] at n1
        have := ih (tot - j') (by omega) n' j' st4 (vs ++ [v1]) (ks ++ G') (W ++ [(vs.length + 1, 0)]) (X ++ [ja (byT P l)]) (wc' + c1 + c2) (wn' + s1 + s2) (i3 (W0 ++ W).length) (i3 j') (i3 T[i]) ha' hb' (by omega) (by rw [List.length_append]; simp; omega) n1 (hR.mo.snoc g5 (by omega)) hT4 (by rw [List.length_append]; simp; omega) (by rw [List.length_append, List.length_append]; simp; omega) (Nat.lt_of_lt_of_le (Nat.lt_succ_of_le (Nat.add_le_add_left (Nat.mul_le_mul_right 10000 (by omega)) 6000000)) hn')
        rw [List.append_assoc] at this
        refine OpO.step (a := [v1]) (b := []) (c := G') (cc := c1) (s := s1) (OpO.wrap ?_) (st1 := st3) ⟨g3.1, g3.2⟩ ((FrO.at (k := 9) _ (by decide)).trans g4.o)
        refine OpO.step0 (cc := c2) (s := s2) (OpO.wrap ?_) n2 n3.o
        rw [List.append_nil]
        exact this
      · rw [g1, Option.bind_some, if_neg (show ¬ (1 : Nat) = 0 by decide), if_pos rfl, if_neg a5, if_neg b5]
        refine Or.inr ⟨by omega, big_a (p := (ja (byT P l) : JT (e + 1))) (List.mem_append_right _ List.mem_cons_self) hbig, c1, s1, st3, xmo_some (Nat.le_refl _) (Nat.le_refl _), ⟨g2.1, g2.2⟩, ⟨g3.1, (FrO.at (k := 9) _ (by decide)).trans g3.2⟩⟩
end GRP
