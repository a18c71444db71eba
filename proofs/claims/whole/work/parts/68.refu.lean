theorem shr4 : ∀ c, c < 128 → i3 c >>> ((4 : Int32) &&& 31) = i3 (c / 16) := by decide +kernel
theorem and15c : ∀ c, c < 128 → i3 c &&& 15 = i3 (c % 16) := by decide +kernel
section PX2
variable {mx : Nat} {vs : List VR} {cs : List Nat} {ks ws : List NP}
theorem putSL {c : Nat} {s : Sx} (hs : isStr vs cs c s) : ∀ (q n i : Nat) (st : xS) (ps : List Nat) (wc wn : Nat), i + q = s.length → MS st vs cs ks ws → PV st mx ps → ps.length ≤ mx → mx + 100 ≤ bP → bP + 1 + q < n → PutO st mx ps wc wn (fM_putString_b n 1 (i3 i) c st wc wn) ((s.drop i).flatMap esc ++ [34]) := by
  have hs' := hs
  obtain ⟨c1, v, cv, c4, csz, _, _, cg⟩ := hs'
  have hbc : bC = 100000 := rfl
  have hbp : bP = 200000 := rfl
  intro q
  induction q with
  | zero =>
    intro n i st ps wc wn hi hM h hl hb hn
    obtain ⟨n, rfl⟩ : ∃ j, n = j + 1 := ⟨n - 1, by omega⟩
    obtain ⟨g1, g2, _⟩ := hM.vc c1 cv
    have hsl : s.length ≤ 2 * bC := by
      cases hz : s.length with
      | zero => omega
      | succ k =>
        have hxx := cg k s[k] (List.getElem?_eq_getElem (by omega))
        have := (List.getElem?_eq_some_iff.mp hxx).1
        have := hM.cl.2.1
        omega
    rw [fM_putString_b, if_neg g1, g2.2.2.1, csz, if_pos (by rw [i3_le (by omega) (by omega)]; omega), List.drop_eq_nil_of_le (by omega), List.flatMap_nil, List.nil_append]
    have hX := PutO.bind (K := fun o2 => some (0, (wc + o2.2.1), (wn + o2.2.2.1), o2.2.2.2)) (wc := wc) (wn := wn) (w1 := [34]) (w2 := []) (put_o (n := n) h hl (c := 34) (by omega) (by omega) (by omega)) (fun cc s st1 p1 l1 f1 => PutO.done p1 l1)
    exact (congrArg (fun x => PutO st mx ps wc wn x [34]) (xmo_id hX.ge)).mpr hX
  | succ q ih =>
    intro n i st ps wc wn hi hM h hl hb hn
    obtain ⟨n, rfl⟩ : ∃ j, n = j + 1 := ⟨n - 1, by omega⟩
    obtain ⟨g1, g2, _⟩ := hM.vc c1 cv
    have hxx := cg i s[i] (List.getElem?_eq_getElem (by omega))
    have hcl := (List.getElem?_eq_some_iff.mp hxx).1
    have hcc := hM.cl.2.1
    obtain ⟨y1, y2⟩ := hM.1.2.2.1 _ _ hxx
    have hln := hM.2.2.2.1.1
    have hsl : s.length ≤ 2 * bC := by
      have hxx := cg (s.length - 1) s[s.length - 1] (List.getElem?_eq_getElem (by omega))
      have := (List.getElem?_eq_some_iff.mp hxx).1
      omega
    have wrap : ∀ X w, PutO st mx ps wc wn X w → PutO st mx ps wc wn (xmo (fun a => a.2.1) (fun a => a.2.2.1) wc wn X) w := fun X w h => by rw [xmo_id h.ge]; exact h
    have hle := hs.le
    have hG : ∀ st1, Fr2 st st1 → ¬ xct st1 < c := fun st1 f => by
      have := (hM.fr2 f).2.2.1.1
      omega
    rw [fM_putString_b, if_neg g1, g2.2.2.1, csz, if_neg (by rw [i3_le (by omega) (by omega)]; omega), g2.2.1, i3_add, if_neg (i3_idx (by omega) (by omega)), i3_N (by omega), y1, i3_one, List.drop_eq_getElem_cons (show i < s.length by omega), List.flatMap_cons, List.append_assoc]
    have rec' : ∀ (st1 : xS) (w : List Nat) (wc' wn' : Nat), Fr2 st st1 → PV st1 mx (ps ++ w) → (ps ++ w).length ≤ mx → w.length ≤ 6 → PutO st1 mx (ps ++ w) wc' wn' (fM_putString_b n 1 (i3 (i + 1)) c st1 wc' wn') ((s.drop (i + 1)).flatMap esc ++ [34]) := fun st1 w wc' wn' f p l hw => ih n (i + 1) st1 (ps ++ w) wc' wn' (by omega) (hM.fr2 f) p l hb (by omega)
    have ce : ∀ d : Nat, d < 256 → (i3 s[i] = i3 d) = (s[i] = d) := fun d hd => i3_eq (by omega) (by omega)
    have l1 : ∀ (w : List Nat), (ps ++ w).length = ps.length + w.length := fun w => List.length_append
    refine wrap _ _ ?_
    by_cases e34 : s[i] = 34
    · rw [if_pos (show i3 s[i] = 34 by rw [e34]; rfl), show esc s[i] = [92] ++ [34] by rw [e34]; rfl, List.append_assoc]
      refine PutO.bind (put_o h hl (c := 92) (by omega) (by omega) (by omega)) (fun cc k st1 p1 k1 f1 => ?_)
      refine PutO.bindG (hG st1 f1) (w1 := [34]) (by rw [e34]; exact put_o p1 k1 (c := 34) (by omega) (by rw [l1]; simp; omega) (by omega)) (fun cc k st2 p2 k2 f2 => ?_)
      rw [List.append_assoc] at p2 k2 ⊢
      exact rec' st2 _ _ _ (f1.trans f2) p2 k2 (by simp)
    rw [if_neg (show ¬ i3 s[i] = 34 from fun hh => e34 ((ce 34 (by omega)).mp hh))]
    by_cases e92 : s[i] = 92
    · rw [if_pos (show i3 s[i] = 92 by rw [e92]; rfl), show esc s[i] = [92] ++ [92] by rw [e92]; rfl, List.append_assoc]
      refine PutO.bind (put_o h hl (c := 92) (by omega) (by omega) (by omega)) (fun cc k st1 p1 k1 f1 => ?_)
      refine PutO.bindG (hG st1 f1) (w1 := [92]) (by rw [e92]; exact put_o p1 k1 (c := 92) (by omega) (by rw [l1]; simp; omega) (by omega)) (fun cc k st2 p2 k2 f2 => ?_)
      rw [List.append_assoc] at p2 k2 ⊢
      exact rec' st2 _ _ _ (f1.trans f2) p2 k2 (by simp)
    rw [if_neg (show ¬ i3 s[i] = 92 from fun hh => e92 ((ce 92 (by omega)).mp hh))]
    have c32 : (i3 s[i] < 32) = (s[i] < 32) := i3_lt (a := s[i]) (b := 32) (by omega) (by omega)
    have c127 : ((127 : Int32) ≤ i3 s[i]) = (127 ≤ s[i]) := i3_le (a := 127) (b := s[i]) (by omega) (by omega)
    have hsh : i3 s[i] >>> ((4 : Int32) &&& 31) = i3 (s[i] / 16) := shr4 _ y2
    have han : i3 s[i] &&& 15 = i3 (s[i] % 16) := and15c _ y2
    by_cases e32 : s[i] < 32 ∨ s[i] = 127
    · by_cases h32 : s[i] < 32
      · rw [if_pos (by rw [c32]; exact h32)]
        have hesc : s[i] ≠ 8 → s[i] ≠ 9 → s[i] ≠ 10 → s[i] ≠ 12 → s[i] ≠ 13 → esc s[i] = [92, 117, 48, 48, hx (s[i] / 16), hx (s[i] % 16)] := fun a b c' d' e' => by
          unfold esc
          rw [if_neg e34, if_neg e92, if_neg a, if_neg b, if_neg c', if_neg d', if_neg e', if_pos (Or.inl h32)]
        by_cases e8 : s[i] = 8
        · rw [show esc s[i] = [92] ++ [98] by rw [e8]; rfl, List.append_assoc]
          refine PutO.bind (put_o h hl (c := 92) (by omega) (by omega) (by omega)) (fun cc k st1 p1 k1 f1 => ?_)
          dsimp only
          rw [if_pos (show i3 s[i] = 8 by rw [e8]; rfl)]
          refine PutO.bindG (hG st1 f1) (w1 := [98]) (put_o p1 k1 (c := 98) (by omega) (by rw [l1]; simp; omega) (by omega)) (fun cc k st2 p2 k2 f2 => ?_)
          rw [List.append_assoc] at p2 k2 ⊢
          exact rec' st2 _ _ _ (f1.trans f2) p2 k2 (by simp)
        by_cases e9 : s[i] = 9
        · rw [show esc s[i] = [92] ++ [116] by rw [e9]; rfl, List.append_assoc]
          refine PutO.bind (put_o h hl (c := 92) (by omega) (by omega) (by omega)) (fun cc k st1 p1 k1 f1 => ?_)
          dsimp only
          rw [if_neg (show ¬ i3 s[i] = 8 from fun hh => e8 ((ce 8 (by omega)).mp hh)), if_pos (show i3 s[i] = 9 by rw [e9]; rfl)]
          refine PutO.bindG (hG st1 f1) (w1 := [116]) (put_o p1 k1 (c := 116) (by omega) (by rw [l1]; simp; omega) (by omega)) (fun cc k st2 p2 k2 f2 => ?_)
          rw [List.append_assoc] at p2 k2 ⊢
          exact rec' st2 _ _ _ (f1.trans f2) p2 k2 (by simp)
        by_cases e10 : s[i] = 10
        · rw [show esc s[i] = [92] ++ [110] by rw [e10]; rfl, List.append_assoc]
          refine PutO.bind (put_o h hl (c := 92) (by omega) (by omega) (by omega)) (fun cc k st1 p1 k1 f1 => ?_)
          dsimp only
          rw [if_neg (show ¬ i3 s[i] = 8 from fun hh => e8 ((ce 8 (by omega)).mp hh)), if_neg (show ¬ i3 s[i] = 9 from fun hh => e9 ((ce 9 (by omega)).mp hh)), if_pos (show i3 s[i] = 10 by rw [e10]; rfl)]
          refine PutO.bindG (hG st1 f1) (w1 := [110]) (put_o p1 k1 (c := 110) (by omega) (by rw [l1]; simp; omega) (by omega)) (fun cc k st2 p2 k2 f2 => ?_)
          rw [List.append_assoc] at p2 k2 ⊢
          exact rec' st2 _ _ _ (f1.trans f2) p2 k2 (by simp)
        by_cases e12 : s[i] = 12
        · rw [show esc s[i] = [92] ++ [102] by rw [e12]; rfl, List.append_assoc]
          refine PutO.bind (put_o h hl (c := 92) (by omega) (by omega) (by omega)) (fun cc k st1 p1 k1 f1 => ?_)
          dsimp only
          rw [if_neg (show ¬ i3 s[i] = 8 from fun hh => e8 ((ce 8 (by omega)).mp hh)), if_neg (show ¬ i3 s[i] = 9 from fun hh => e9 ((ce 9 (by omega)).mp hh)), if_neg (show ¬ i3 s[i] = 10 from fun hh => e10 ((ce 10 (by omega)).mp hh)), if_pos (show i3 s[i] = 12 by rw [e12]; rfl)]
          refine PutO.bindG (hG st1 f1) (w1 := [102]) (put_o p1 k1 (c := 102) (by omega) (by rw [l1]; simp; omega) (by omega)) (fun cc k st2 p2 k2 f2 => ?_)
          rw [List.append_assoc] at p2 k2 ⊢
          exact rec' st2 _ _ _ (f1.trans f2) p2 k2 (by simp)
        by_cases e13 : s[i] = 13
        · rw [show esc s[i] = [92] ++ [114] by rw [e13]; rfl, List.append_assoc]
          refine PutO.bind (put_o h hl (c := 92) (by omega) (by omega) (by omega)) (fun cc k st1 p1 k1 f1 => ?_)
          dsimp only
          rw [if_neg (show ¬ i3 s[i] = 8 from fun hh => e8 ((ce 8 (by omega)).mp hh)), if_neg (show ¬ i3 s[i] = 9 from fun hh => e9 ((ce 9 (by omega)).mp hh)), if_neg (show ¬ i3 s[i] = 10 from fun hh => e10 ((ce 10 (by omega)).mp hh)), if_neg (show ¬ i3 s[i] = 12 from fun hh => e12 ((ce 12 (by omega)).mp hh)), if_pos (show i3 s[i] = 13 by rw [e13]; rfl)]
          refine PutO.bindG (hG st1 f1) (w1 := [114]) (put_o p1 k1 (c := 114) (by omega) (by rw [l1]; simp; omega) (by omega)) (fun cc k st2 p2 k2 f2 => ?_)
          rw [List.append_assoc] at p2 k2 ⊢
          exact rec' st2 _ _ _ (f1.trans f2) p2 k2 (by simp)
        rw [hesc e8 e9 e10 e12 e13, show [92, 117, 48, 48, hx (s[i] / 16), hx (s[i] % 16)] = [92] ++ ([117, 48, 48] ++ ([hx (s[i] / 16)] ++ [hx (s[i] % 16)])) from rfl, List.append_assoc, List.append_assoc, List.append_assoc]
        refine PutO.bind (put_o h hl (c := 92) (by omega) (by omega) (by omega)) (fun cc k st1 p1 k1 f1 => ?_)
        dsimp only
        rw [if_neg (show ¬ i3 s[i] = 8 from fun hh => e8 ((ce 8 (by omega)).mp hh)), if_neg (show ¬ i3 s[i] = 9 from fun hh => e9 ((ce 9 (by omega)).mp hh)), if_neg (show ¬ i3 s[i] = 10 from fun hh => e10 ((ce 10 (by omega)).mp hh)), if_neg (show ¬ i3 s[i] = 12 from fun hh => e12 ((ce 12 (by omega)).mp hh)), if_neg (show ¬ i3 s[i] = 13 from fun hh => e13 ((ce 13 (by omega)).mp hh))]
        refine PutO.bindG (hG st1 f1) (put1c_w p1 k1 (by rw [l1]; simp; omega) (by omega)) (fun cc k st2 p2 k2 f2 => ?_)
        refine PutO.bindG (hG st2 (f1.trans f2)) (w1 := [hx (s[i] / 16)]) (by rw [hsh]; exact putHex_w p2 k2 (by simp only [List.length_append, List.length_cons, List.length_nil]; omega) (by omega) (by omega)) (fun cc k st3 p3 k3 f3 => ?_)
        refine PutO.bindG (hG st3 ((f1.trans f2).trans f3)) (w1 := [hx (s[i] % 16)]) (by rw [han]; exact putHex_w p3 k3 (by simp only [List.length_append, List.length_cons, List.length_nil]; omega) (by omega) (by omega)) (fun cc k st4 p4 k4 f4 => ?_)
        rw [List.append_assoc, List.append_assoc, List.append_assoc] at p4 k4 ⊢
        exact rec' st4 _ _ _ (((f1.trans f2).trans f3).trans f4) p4 k4 (by simp)
      · have h127 : s[i] = 127 := by omega
        rw [if_neg (by rw [c32]; exact h32), if_pos (by rw [c127]; omega)]
        have e8 : s[i] ≠ 8 := by omega
        have e9 : s[i] ≠ 9 := by omega
        have e10 : s[i] ≠ 10 := by omega
        have e12 : s[i] ≠ 12 := by omega
        have e13 : s[i] ≠ 13 := by omega
        have hesc : esc s[i] = [92, 117, 48, 48, hx (s[i] / 16), hx (s[i] % 16)] := by
          unfold esc
          rw [if_neg e34, if_neg e92, if_neg e8, if_neg e9, if_neg e10, if_neg e12, if_neg e13, if_pos (Or.inr h127)]
        rw [hesc, show [92, 117, 48, 48, hx (s[i] / 16), hx (s[i] % 16)] = [92] ++ ([117, 48, 48] ++ ([hx (s[i] / 16)] ++ [hx (s[i] % 16)])) from rfl, List.append_assoc, List.append_assoc, List.append_assoc]
        refine PutO.bind (put_o h hl (c := 92) (by omega) (by omega) (by omega)) (fun cc k st1 p1 k1 f1 => ?_)
        dsimp only
        rw [if_neg (show ¬ i3 s[i] = 8 from fun hh => e8 ((ce 8 (by omega)).mp hh)), if_neg (show ¬ i3 s[i] = 9 from fun hh => e9 ((ce 9 (by omega)).mp hh)), if_neg (show ¬ i3 s[i] = 10 from fun hh => e10 ((ce 10 (by omega)).mp hh)), if_neg (show ¬ i3 s[i] = 12 from fun hh => e12 ((ce 12 (by omega)).mp hh)), if_neg (show ¬ i3 s[i] = 13 from fun hh => e13 ((ce 13 (by omega)).mp hh))]
        refine PutO.bindG (hG st1 f1) (put1c_w p1 k1 (by rw [l1]; simp; omega) (by omega)) (fun cc k st2 p2 k2 f2 => ?_)
        refine PutO.bindG (hG st2 (f1.trans f2)) (w1 := [hx (s[i] / 16)]) (by rw [hsh]; exact putHex_w p2 k2 (by simp only [List.length_append, List.length_cons, List.length_nil]; omega) (by omega) (by omega)) (fun cc k st3 p3 k3 f3 => ?_)
        refine PutO.bindG (hG st3 ((f1.trans f2).trans f3)) (w1 := [hx (s[i] % 16)]) (by rw [han]; exact putHex_w p3 k3 (by simp only [List.length_append, List.length_cons, List.length_nil]; omega) (by omega) (by omega)) (fun cc k st4 p4 k4 f4 => ?_)
        rw [List.append_assoc, List.append_assoc, List.append_assoc] at p4 k4 ⊢
        exact rec' st4 _ _ _ (((f1.trans f2).trans f3).trans f4) p4 k4 (by simp)
    · rw [if_neg (by rw [c32]; omega), if_neg (by rw [c127]; omega)]
      have hesc : esc s[i] = [s[i]] := by
        unfold esc
        rw [if_neg e34, if_neg e92, if_neg (by omega), if_neg (by omega), if_neg (by omega), if_neg (by omega), if_neg (by omega), if_neg e32]
      rw [hesc]
      refine PutO.bind (put_o h hl y2 (by omega) (by omega)) (fun cc k st1 p1 k1 f1 => ?_)
      exact rec' st1 _ _ _ f1 p1 k1 (by simp)
end PX2
