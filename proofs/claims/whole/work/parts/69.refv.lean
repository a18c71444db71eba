section PX3
variable {mx : Nat} {vs : List VR} {cs : List Nat} {ks ws : List NP}
theorem pStr_w {st : xS} {ps : List Nat} {n c : Nat} {s : Sx} (hs : isStr vs cs c s) (hM : MS st vs cs ks ws) (h : PV st mx ps) (hl : ps.length ≤ mx) (hb : mx + 100 ≤ bP) (hn : bP + 1 + s.length < n) : PutO st mx ps 0 0 (fM_putString n st c) (qt s) := by
  unfold fM_putString
  have hle := hs.le
  have hG : ¬ xct st < c := by have := hM.2.2.1.1; omega
  refine PutO.bindG hG (w1 := [34]) (w2 := s.flatMap esc ++ [34]) (K := fun o1 => fM_putString_b n 1 0 c o1.2.2.2 (0 + o1.2.1) (0 + o1.2.2.1)) (put_o (n := n) h hl (c := 34) (by omega) (by omega) (by omega)) (fun cc k st1 p1 l1 f1 => ?_)
  exact putSL hs s.length n 0 st1 (ps ++ [34]) _ _ (by omega) (hM.fr2 f1) p1 l1 hb (by omega)
theorem pn2 {m : Nat} (hm : m < 10000000000000000) {z : Int64} : ∀ (k n : Nat) (st : xS) (ps : List Nat) (wc wn : Nat), k ≤ 15 → bP + k + 2 < n → PV st mx ps → ps.length ≤ mx → ps.length + k + 1 ≤ bP → PutO st mx ps wc wn (fM_putNumber_b n 2 (cW ((10 ^ k : Nat) : Int)) (cW (m : Int)) z st wc wn) (dgs (k + 1) m) := by
  intro k
  induction k with
  | zero =>
    intro n st ps wc wn _ hn h hl hb
    obtain ⟨n, rfl⟩ : ∃ j, n = j + 2 := ⟨n - 2, by omega⟩
    have hq := Nat.div_le_self m (10 ^ 0)
    have hc : ¬ lg_cmp (cW ((10 ^ 0 : Nat) : Int)) 0 ≤ 0 := by
      rw [show (0 : Int64) = cW 0 from rfl, lg_cW (by omega) (by omega) (by omega) (by omega), izs_le0]
      omega
    rw [fM_putNumber_b, if_neg (by decide), if_neg hc, if_neg (by decide), q_div (by omega) (by omega), dig_code (by omega)]
    have hX := PutO.bind (K := fun o2 => fM_putNumber_b (n + 1) 2 (cW ((10 ^ 0 : Nat) : Int) / 10) (cW (m : Int)) z o2.2.2.2 (wc + o2.2.1) (wn + o2.2.2.1)) (wc := wc) (wn := wn) (w1 := [48 + m / 10 ^ 0 % 10]) (w2 := []) (put_o (n := n + 1) h hl (c := 48 + m / 10 ^ 0 % 10) (by omega) (by omega) (by omega)) (fun cc s st1 p1 l1 f1 => by
      dsimp only
      rw [show cW ((10 ^ 0 : Nat) : Int) / 10 = 0 by decide, fM_putNumber_b, if_neg (by decide), if_pos (by decide), xmo_id (PutO.done (wc := wc + cc) (wn := wn + s) p1 l1).ge]
      exact PutO.done p1 l1)
    rw [xmo_id hX.ge]
    exact hX
  | succ k ih =>
    intro n st ps wc wn hk hn h hl hb
    obtain ⟨n, rfl⟩ : ∃ j, n = j + 1 := ⟨n - 1, by omega⟩
    have hq := Nat.div_le_self m (10 ^ (k + 1))
    have h15 := ten_le hk
    have hp := ten_pos (k + 1)
    have hp' := ten_pos k
    have hs : 10 ^ (k + 1) = 10 ^ k * 10 := Nat.pow_succ 10 k
    have hc : ¬ lg_cmp (cW ((10 ^ (k + 1) : Nat) : Int)) 0 ≤ 0 := by
      rw [show (0 : Int64) = cW 0 from rfl, lg_cW (by omega) (by omega) (by omega) (by omega), izs_le0]
      omega
    have hc2 : ¬ cW ((10 ^ (k + 1) : Nat) : Int) = 0 := by
      rw [show (0 : Int64) = cW 0 from rfl, cW_eq (by omega) (by omega) (by omega) (by omega)]
      omega
    have hd : cW ((10 ^ (k + 1) : Nat) : Int) / 10 = cW ((10 ^ k : Nat) : Int) := by
      rw [show (10 : Int64) = cW ((10 : Nat) : Int) from rfl, q_div (by omega) (by omega), hs, Nat.mul_div_cancel _ (by omega)]
    rw [fM_putNumber_b, if_neg (by decide), if_neg hc, if_neg hc2, q_div (by omega) (by omega), dig_code (by omega)]
    have hX := PutO.bind (K := fun o2 => fM_putNumber_b n 2 (cW ((10 ^ (k + 1) : Nat) : Int) / 10) (cW (m : Int)) z o2.2.2.2 (wc + o2.2.1) (wn + o2.2.2.1)) (wc := wc) (wn := wn) (w1 := [48 + m / 10 ^ (k + 1) % 10]) (w2 := dgs (k + 1) m) (put_o (n := n) h hl (c := 48 + m / 10 ^ (k + 1) % 10) (by omega) (by omega) (by omega)) (fun cc s st1 p1 l1 f1 => by
      dsimp only
      rw [hd]
      exact ih n st1 _ _ _ (by omega) (by omega) p1 l1 (by rw [List.length_append]; simp; omega))
    rw [xmo_id hX.ge]
    exact hX
theorem pn1 {m : Nat} (hm : m < 10000000000000000) {z : Int64} : ∀ (f k n : Nat) (st : xS) (ps : List Nat) (wc wn : Nat), k + f = 15 → bP + 40 < n + k → PV st mx ps → ps.length ≤ mx → ps.length + 20 ≤ bP → PutO st mx ps wc wn (fM_putNumber_b n 1 (cW ((10 ^ k : Nat) : Int)) (cW (m : Int)) z st wc wn) (dgs (nlA f (k + 1) m) m) := by
  intro f
  induction f with
  | zero =>
    intro k n st ps wc wn hk hn h hl hb
    obtain rfl : k = 15 := by omega
    obtain ⟨n, rfl⟩ : ∃ j, n = j + 1 := ⟨n - 1, by omega⟩
    have hq := Nat.div_le_self m (10 ^ 15)
    have hc3 : lg_cmp (cW ((m / 10 ^ 15 : Nat) : Int)) 9 ≤ 0 := by
      rw [show (9 : Int64) = cW 9 from rfl, lg_cW (by omega) (by omega) (by omega) (by omega), izs_le0]
      omega
    have hX := pn2 hm (z := z) 15 n st ps wc wn (by omega) (by omega) h hl (by omega)
    rw [fM_putNumber_b, if_pos rfl, if_neg (by decide), q_div (by omega) (by omega), if_pos hc3, xmo_id hX.ge]
    exact hX
  | succ f ih =>
    intro k n st ps wc wn hk hn h hl hb
    obtain ⟨n, rfl⟩ : ∃ j, n = j + 1 := ⟨n - 1, by omega⟩
    have h14 : 10 ^ k ≤ 100000000000000 := Nat.pow_le_pow_right (n := 10) (by omega) (show k ≤ 14 by omega)
    have hp := ten_pos k
    have hs : 10 ^ (k + 1) = 10 ^ k * 10 := Nat.pow_succ 10 k
    have hq := Nat.div_le_self m (10 ^ k)
    have hc2 : ¬ cW ((10 ^ k : Nat) : Int) = 0 := by
      rw [show (0 : Int64) = cW 0 from rfl, cW_eq (by omega) (by omega) (by omega) (by omega)]
      omega
    have hlt : m / 10 ^ k < 10 ↔ m < 10 ^ (k + 1) := by
      rw [Nat.div_lt_iff_lt_mul (by omega), hs, Nat.mul_comm]
    have hc3 : (lg_cmp (cW ((m / 10 ^ k : Nat) : Int)) 9 ≤ 0) = (m < 10 ^ (k + 1)) := by
      rw [← propext hlt]
      generalize m / 10 ^ k = q at hq
      rw [show (9 : Int64) = cW 9 from rfl, lg_cW (by omega) (by omega) (by omega) (by omega), izs_le0]
      exact propext (by omega)
    unfold nlA
    rw [fM_putNumber_b, if_pos rfl, if_neg hc2, q_div (by omega) (by omega)]
    by_cases hh : m < 10 ^ (k + 1)
    · have hX := pn2 hm (z := z) k n st ps wc wn (by omega) (by omega) h hl (by omega)
      rw [if_pos hh, if_pos (by rw [hc3]; exact hh), xmo_id hX.ge]
      exact hX
    · rw [if_neg hh, if_neg (by rw [hc3]; exact hh)]
      have e : cW ((10 ^ k : Nat) : Int) * 10 = cW ((10 ^ (k + 1) : Nat) : Int) := by
        rw [show (10 : Int64) = cW 10 from rfl, cW_mul, hs]
        rfl
      rw [e]
      have hX := ih (k + 1) n st ps wc wn (by omega) (by omega) h hl hb
      rw [xmo_id hX.ge]
      exact hX
theorem pNum_w {st : xS} {ps : List Nat} {n : Nat} {z : Int} (h1 : -9007199254740991 ≤ z) (h2 : z ≤ 9007199254740991) (h : PV st mx ps) (hl : ps.length ≤ mx) (hb : ps.length + 30 ≤ bP) (hn : bP + 40 < n) : PutO st mx ps 0 0 (fM_putNumber n st (cW z)) (nt z) := by
  unfold fM_putNumber nt nl
  have hc : (0 ≤ lg_cmp (cW z) 0) = (0 ≤ z) := by
    rw [show (0 : Int64) = cW 0 from rfl, lg_cW (by omega) (by omega) (by omega) (by omega), izs_ge0, Int.sub_zero]
  by_cases hz : z < 0
  · rw [if_neg (by rw [hc]; omega), if_pos hz]
    refine PutO.bind (K := fun o1 => if 0 ≤ lg_cmp (cW z) 0 then fM_putNumber_b n 1 1 (cW z) (cW z) o1.2.2.2 (0 + o1.2.1) (0 + o1.2.2.1) else fM_putNumber_b n 1 1 (-cW z) (cW z) o1.2.2.2 (0 + o1.2.1) (0 + o1.2.2.1)) (put_o h hl (c := 45) (by omega) (by omega) (by omega)) (fun cc s st1 p1 l1 f1 => ?_)
    dsimp only
    rw [if_neg (by rw [hc]; omega), cW_neg, show -z = (z.natAbs : Int) by omega]
    exact pn1 (m := z.natAbs) (by omega) (z := cW z) 15 0 n st1 _ _ _ (by omega) (by omega) p1 l1 (by rw [List.length_append]; simp; omega)
  · rw [if_pos (by rw [hc]; omega), if_neg hz, if_pos (by rw [hc]; omega), List.nil_append]
    have := pn1 (m := z.natAbs) (by omega) (z := cW z) 15 0 n st ps 0 0 (by omega) (by omega) h hl (by omega)
    rw [show (z.natAbs : Int) = z by omega] at this
    exact this
end PX3
