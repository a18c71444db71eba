section ZTim81
section TIM
variable {st : xS} {vs : List VR} {cs : List Nat} {ks ws : List NP} {e n : Nat}
theorem fresh_o {k : Nat} {wc wn cR cL : Nat} (hM : MS st vs cs ks ws) (hb : vs.length + 1 ≤ bV) (hn : bV < n) : OpO st wc wn cR cL ((fM_fresh n st (i3 k)).bind fun o3 => (xmo (fun a => a.2.1) (fun a => a.2.2.1) (wc + o3.1) (wn + o3.2.1) (some (0, (wc + o3.1), (wn + o3.2.1), o3.2.2.1, o3.2.2.2)))) vs cs ks ws (.inr (jk k) : Nat ⊕ JT (e + 1)) := by
  obtain ⟨cc, s, st', e1, m1, m2, m3, _⟩ := fresh_w (n := n) hM k hb hn
  refine OpO.new (cc := cc) (s := s) (st' := st') ?_ m1 m2 m3.o rep_k
  rw [e1, Option.bind_some]
  exact xmo_some (Nat.le_refl _) (Nat.le_refl _)
theorem limit_o {wc wn cR q : Nat} {j : JT e} (hM : MS st vs cs ks ws) (hq : 1 ≤ q) (hj : 60 < jd e j ∨ 60000 < (jc e j).length) : OpO st wc wn cR q ((fM_limit n st).bind fun o4 => (if o4.1 = 1 then xmo (fun a => a.2.1) (fun a => a.2.2.1) (wc + o4.2.1) (wn + o4.2.2.1) (some (q, (wc + o4.2.1), (wn + o4.2.2.1), 0, st)) else none)) vs cs ks ws (.inr j) := by
  refine Or.inr ⟨hq, hj, 1, 6, st, ?_, ⟨by omega, by omega⟩, ⟨⟨_, _, _, _, hM⟩, FrO.refl⟩⟩
  unfold fM_limit
  rw [Option.bind_some, if_pos rfl]
  exact xmo_some (Nat.le_refl _) (Nat.le_refl _)
theorem rp_succ (s : Sx) (k : Nat) : (List.replicate (k + 1) s).flatten = (List.replicate k s).flatten ++ s := by
  rw [List.replicate_succ', List.flatten_append, List.flatten_singleton]
theorem rp_len (s : Sx) (k : Nat) : ((List.replicate k s).flatten).length = k * s.length := by
  induction k with
  | zero => simp
  | succ k ih => rw [rp_succ, List.length_append, ih, Nat.succ_mul]
theorem timL {rec : xS → Nat → Nat → Option (Nat × Nat × Nat × Nat × xS)} {d0 : Nat} {s : Sx} {a b Z : Nat} (ha : isStr vs cs a s) (hb : Rep vs cs ks (e + 1) (jn (Z : Int)) b) (hs : 1 ≤ s.length) (hZ : Z * s.length ≤ 60000) (hbc : cs.length + 60000 ≤ bC) (hbv : vs.length + 1 ≤ bV) : ∀ (q n k : Nat) (st : xS) (wc wn : Nat), k + q = Z → MS st vs (cs ++ (List.replicate k s).flatten) ks ws → 2 * bC + q < n → OpO st wc wn 1 2 (fM_times_b rec d0 n 1 (cW (k : Nat)) (i3 cs.length) a b st wc wn) vs (cs ++ (List.replicate k s).flatten) ks ws (.inr (js (List.replicate Z s).flatten) : Nat ⊕ JT (e + 1)) := by
  have hbc' : bC = 100000 := rfl
  have hbv' : bV = 32000 := rfl
  have hZ2 : Z ≤ 60000 := by
    have : Z * 1 ≤ Z * s.length := Nat.mul_le_mul_left Z hs
    omega
  intro q
  induction q with
  | zero =>
    intro n k st wc wn hk hM hn
    obtain ⟨n, rfl⟩ : ∃ j, n = j + 1 := ⟨n - 1, by omega⟩
    have hb' : Rep vs (cs ++ (List.replicate k s).flatten) ks (e + 1) (jn (Z : Int)) b := by
      have := hb.mono (vs' := []) (cs' := (List.replicate k s).flatten) (ks' := [])
      rw [List.append_nil, List.append_nil] at this
      exact this
    obtain ⟨b1, _, _, _⟩ := hb'.g hM
    obtain rfl : k = Z := by omega
    rw [fM_times_b, if_neg b1, hb'.num hM, if_pos (by rw [lg_cW (by omega) (by omega) (by omega) (by omega), izs_ge0]; omega)]
    exact OpO.wrap (OpO.l1 (cR := 1) (by omega) (string_o hM hbv (by omega)))
  | succ q ih =>
    intro n k st wc wn hk hM hn
    obtain ⟨n, rfl⟩ : ∃ j, n = j + 1 := ⟨n - 1, by omega⟩
    have hb' : Rep vs (cs ++ (List.replicate k s).flatten) ks (e + 1) (jn (Z : Int)) b := by
      have := hb.mono (vs' := []) (cs' := (List.replicate k s).flatten) (ks' := [])
      rw [List.append_nil, List.append_nil] at this
      exact this
    have ha' : isStr vs (cs ++ (List.replicate k s).flatten) a s := by
      have := ha.mono (vs' := []) (cs' := (List.replicate k s).flatten)
      rw [List.append_nil] at this
      exact this
    obtain ⟨b1, _, _, _⟩ := hb'.g hM
    have hk1 : (k + 1) * s.length ≤ Z * s.length := Nat.mul_le_mul_right _ (by omega)
    rw [Nat.succ_mul] at hk1
    obtain ⟨cc, w, st', e1, m1, m2, m3, _⟩ := letters_w (n := n) hM ha' (by rw [List.length_append, rp_len]; omega) (by omega)
    obtain ⟨a1, v, av, a4, asz, _, _, ag⟩ := ha'
    obtain ⟨g1, g2, _⟩ := hM.vc a1 av
    rw [fM_times_b, if_neg b1, hb'.num hM, if_neg (by rw [lg_cW (by omega) (by omega) (by omega) (by omega), izs_ge0]; omega), if_neg g1, g2.2.2.1, asz, if_neg (by rw [show (0 : Int32) = i3 0 from rfl, i3_le (by omega) (by omega)]; omega), e1, Option.bind_some]
    dsimp only
    rw [show (cW (k : Nat) : Int64) + 1 = cW ((k + 1 : Nat) : Int) by rw [show (1 : Int64) = cW 1 from rfl, cW_add]; rfl]
    rw [List.append_assoc, ← rp_succ] at m1
    have := ih n (k + 1) st' (wc + cc) (wn + w) (by omega) m1 (by omega)
    refine OpO.wrap (OpO.step (a := []) (b := s) (c := []) (cc := cc) (s := w) (OpO.wrap ?_) m2 m3.o)
    rw [List.append_nil, List.append_nil, List.append_assoc, ← rp_succ]
    exact this
end TIM
end ZTim81
section ZTin82
section TIN
variable {st : xS} {vs : List VR} {cs : List Nat} {ks ws : List NP} {e n : Nat}
theorem i3_div {a b : Nat} (ha : a < 2147483648) (hb : b < 2147483648) : i3 a / i3 b = i3 (a / b) := by
  apply Int32.toInt_inj.mp
  rw [i3_iz, i3_iz, Int32.toInt_div, iz_int (by omega) (by omega), iz_int (by omega) (by omega), i3_iz]
  exact (Int32.toInt_ofInt).symm
theorem rep_big {s : Sx} {z : Int} (hs : 1 ≤ s.length) (hz : ((60000 / s.length : Nat) : Int) < z) : 60000 < (jc (e + 1) (js (rep s z) : JT (e + 1))).length := by
  rw [jc_s, strc_ln]
  unfold rep
  rw [rp_len]
  have h1 : 60000 / s.length < z.toNat := by omega
  have h2 := (Nat.div_lt_iff_lt_mul (show 0 < s.length by omega)).mp h1
  omega
theorem timA {rec : xS → Nat → Nat → Option (Nat × Nat × Nat × Nat × xS)} {d0 : Nat} {s : Sx} {z : Int} {a b : Nat} (hM : MS st vs cs ks ws) (ha : Arg vs cs ks (e + 1) (js s) a) (hb : Arg vs cs ks (e + 1) (jn z) b) (hB : Bd vs cs ks ws) (hz : 1 ≤ z) (hn : 5000000 < n) : OpO st 0 0 1 2 (if i3 s.length ≤ 0 then fM_times_b rec d0 n 1 0 (i3 cs.length) a b st 0 0 else if i3 s.length = 0 then none else (if (lg_cmp (cW z) (60000 / (i3 s.length)).toInt64) ≤ 0 then fM_times_b rec d0 n 1 0 (i3 cs.length) a b st 0 0 else (fM_limit n st).bind fun o4 => ((if o4.1 = 1 then xmo (fun a => a.2.1) (fun a => a.2.2.1) (0 + o4.2.1) (0 + o4.2.2.1) (some (2, (0 + o4.2.1), (0 + o4.2.2.1), 0, st)) else none)))) vs cs ks ws (.inr (js (rep s z)) : Nat ⊕ JT (e + 1)) := by
  obtain ⟨B1, B2, B3, B4⟩ := hB
  have hbv : bV = 32000 := rfl
  have hbc : bC = 100000 := rfl
  have hsl := ha.ls
  have hzr : -9007199254740991 ≤ z ∧ z ≤ 9007199254740991 := hb.2.1
  by_cases h0 : s.length = 0
  · obtain rfl : s = [] := List.length_eq_zero_iff.mp h0
    obtain ⟨n, rfl⟩ : ∃ j, n = j + 1 := ⟨n - 1, by omega⟩
    obtain ⟨b1, _, _, _⟩ := hb.g hM
    obtain ⟨a1, _, _, _⟩ := ha.g hM
    have hrep : rep [] z = [] := by unfold rep; exact List.length_eq_zero_iff.mp (by rw [rp_len]; rfl)
    rw [if_pos (by decide), fM_times_b, if_neg b1, hb.1.num hM, if_neg (by rw [show (0 : Int64) = cW 0 from rfl, lg_cW (by omega) (by omega) (by omega) (by omega), izs_ge0]; omega), if_neg a1, (ha.1.szs hM).1, if_pos (by decide), hrep]
    have := OpO.l1 (wc := 0) (wn := 0) (q := 2) (cR' := 1) (by omega) (string_o (st := st) (vs := vs) (cs := cs) (ks := ks) (ws := ws) (s := []) (n := n) (cR := 1) (d := e) (by rw [List.append_nil]; exact hM) (by omega) (by omega))
    rw [List.append_nil] at this
    exact OpO.wrap this
  · rw [if_neg (by rw [show (0 : Int32) = i3 0 from rfl, i3_le (by omega) (by omega)]; omega), if_neg (by rw [show (0 : Int32) = i3 0 from rfl, i3_eq (by omega) (by omega)]; omega), show (60000 : Int32) = i3 60000 from rfl, i3_div (by omega) (by omega), i3_64 (by have := Nat.div_le_self 60000 s.length; omega)]
    have hq := Nat.div_le_self 60000 s.length
    have hcmp : (lg_cmp (cW z) (cW ((60000 / s.length : Nat) : Int)) ≤ 0) = (z ≤ ((60000 / s.length : Nat) : Int)) := by
      generalize 60000 / s.length = w at hq
      rw [lg_cW (by omega) (by omega) (by omega) (by omega), izs_le0]
      exact propext (by omega)
    by_cases h : z ≤ ((60000 / s.length : Nat) : Int)
    · rw [if_pos (by rw [hcmp]; exact h)]
      obtain ⟨Z, rfl⟩ : ∃ Z : Nat, z = (Z : Int) := ⟨z.toNat, by omega⟩
      have hZ : Z * s.length ≤ 60000 := (Nat.le_div_iff_mul_le (by omega)).mp (by omega)
      have := timL (rec := rec) (d0 := d0) (ws := ws) (isStr_rep ha.1) hb.1 (by omega) hZ (by omega) (by omega) Z n 0 st 0 0 (by omega) (by rw [List.replicate_zero, List.flatten_nil, List.append_nil]; exact hM) (by have : Z * 1 ≤ Z * s.length := Nat.mul_le_mul_left Z (by omega); omega)
      rw [List.replicate_zero, List.flatten_nil, List.append_nil] at this
      exact this
    · rw [if_neg (by rw [hcmp]; exact h)]
      exact limit_o hM (by omega) (Or.inr (rep_big (by omega) (by omega)))
theorem timesS {d0 : Nat} {s : Sx} {z : Int} {a b : Nat} (hM : MS st vs cs ks ws) (ha : Arg vs cs ks (e + 1) (js s) a) (hb : Arg vs cs ks (e + 1) (jn z) b) (hB : Bd vs cs ks ws) (hn : 5000000 < n) : OpO st 0 0 1 2 (fM_times (d0 + 1) n st a b) vs cs ks ws (repR s z : Nat ⊕ JT (e + 1)) := by
  obtain ⟨a1, a2, a3, _⟩ := ha.g hM
  obtain ⟨b1, b2, b3, _⟩ := hb.g hM
  have hsl := ha.ls
  have hbv : bV = 32000 := rfl
  have hzr : -9007199254740991 ≤ z ∧ z ≤ 9007199254740991 := hb.2.1
  have hc1 : (0 ≤ lg_cmp (cW z) 1) = (1 ≤ z) := by
    rw [show (1 : Int64) = cW 1 from rfl, lg_cW (by omega) (by omega) (by omega) (by omega), izs_ge0]
    exact propext (by omega)
  have hc6 : (lg_cmp (cW z) 60000 ≤ 0) = (z ≤ 60000) := by
    rw [show (60000 : Int64) = cW 60000 from rfl, lg_cW (by omega) (by omega) (by omega) (by omega), izs_le0]
    exact propext (by omega)
  unfold repR
  rw [fM_times, if_neg a1, a3, b3, kd_s, kd_n, if_neg (by decide), if_neg (by decide), if_neg (by decide), if_pos (by decide), if_neg b1, if_pos (by decide), hb.1.num hM, (ha.1.szs hM).1, hM.1.1.2.1]
  by_cases h1 : 1 ≤ z
  · rw [if_pos (by rw [hc1]; exact h1), if_neg (show ¬ z < 1 by omega)]
    have hA := timA (rec := fM_times d0 n) (d0 := d0) hM ha hb hB h1 hn
    by_cases c : lg_cmp (cW z * ((i3 s.length).toInt64 + 1)) 600000 ≤ 0
    · rw [if_pos c]
      exact hA
    · rw [if_neg c]
      by_cases c2 : i3 s.length ≤ 0
      · rw [if_pos c2] at hA ⊢
        rw [if_pos c2]
        exact hA
      · rw [if_neg c2]
        by_cases c3 : z ≤ 60000
        · rw [if_pos (by rw [hc6]; exact c3)]
          exact hA
        · rw [if_neg (by rw [hc6]; exact c3)]
          have hs1 : 1 ≤ s.length := by
            rw [show (0 : Int32) = i3 0 from rfl, i3_le (by omega) (by omega)] at c2
            omega
          have := Nat.div_le_self 60000 s.length
          exact limit_o hM (by omega) (Or.inr (rep_big hs1 (by omega)))
  · rw [if_neg (by rw [hc1]; exact h1), if_pos (show z < 1 by omega)]
    exact fresh_o (k := 0) hM (by have := hB.1; omega) (by omega)
end TIN
end ZTin82
section ZTim83
section TIM3
variable {st : xS} {vs : List VR} {cs : List Nat} {ks ws : List NP} {e n : Nat}
theorem tiX {d0 a b p q : Nat} (a1 : ¬ (a = 0 ∨ xct st < a)) (b1 : ¬ (b = 0 ∨ xct st < b)) (a3 : xpi st 0 (a - 1) = i3 p) (b3 : xpi st 0 (b - 1) = i3 q) (hp : p < 7) (hq : q < 7) (h : ¬ (p = 3 ∧ q = 3) ∧ ¬ (p = 6 ∧ q = 6) ∧ ¬ (p = 3 ∧ q = 4) ∧ ¬ (p = 4 ∧ q = 3)) : fM_times (d0 + 1) n st a b = (fM_refuse n st 1).bind fun o3 => ((if o3.1 = 1 then xmo (fun a => a.2.1) (fun a => a.2.2.1) (0 + o3.2.1) (0 + o3.2.2.1) (some (1, (0 + o3.2.1), (0 + o3.2.2.1), 0, o3.2.2.2.2)) else none)) := by
  have P : ∀ c : Nat, c < 8 → (i3 p = i3 c) = (p = c) := fun c hc => ke hp hc
  have Q : ∀ c : Nat, c < 8 → (i3 q = i3 c) = (q = c) := fun c hc => ke hq hc
  rw [fM_times, if_neg a1, a3, b3]
  by_cases p3 : p = 3
  · rw [if_pos (show i3 p = 3 by rw [p3]; rfl), if_neg b1, if_neg (show ¬ i3 q = 3 from fun hh => h.1 ⟨p3, (Q 3 (by omega)).mp hh⟩), if_neg (show ¬ i3 p = 6 from fun hh => by have := (P 6 (by omega)).mp hh; omega), if_pos (show i3 p = 3 by rw [p3]; rfl), if_neg (show ¬ i3 q = 4 from fun hh => h.2.2.1 ⟨p3, (Q 4 (by omega)).mp hh⟩), if_neg (show ¬ i3 p = 4 from fun hh => by have := (P 4 (by omega)).mp hh; omega)]
  · rw [if_neg (show ¬ i3 p = 3 from fun hh => p3 ((P 3 (by omega)).mp hh))]
    by_cases p6 : p = 6
    · rw [if_pos (show i3 p = 6 by rw [p6]; rfl), if_neg b1, if_neg (show ¬ i3 q = 6 from fun hh => h.2.1 ⟨p6, (Q 6 (by omega)).mp hh⟩), if_neg (show ¬ i3 p = 3 from fun hh => p3 ((P 3 (by omega)).mp hh)), if_neg (show ¬ i3 p = 4 from fun hh => by have := (P 4 (by omega)).mp hh; omega)]
    · rw [if_neg (show ¬ i3 p = 6 from fun hh => p6 ((P 6 (by omega)).mp hh)), if_neg (show ¬ i3 p = 3 from fun hh => p3 ((P 3 (by omega)).mp hh))]
      by_cases p4 : p = 4
      · rw [if_pos (show i3 p = 4 by rw [p4]; rfl), if_neg b1, if_neg (show ¬ i3 q = 3 from fun hh => h.2.2.2 ⟨p4, (Q 3 (by omega)).mp hh⟩)]
      · rw [if_neg (show ¬ i3 p = 4 from fun hh => p4 ((P 4 (by omega)).mp hh))]
theorem oT_ne {x y : JT (e + 1)} (h : ¬ (kd (e + 1) x = 6 ∧ kd (e + 1) y = 6) ∧ ¬ (kd (e + 1) x = 3 ∧ kd (e + 1) y = 4) ∧ ¬ (kd (e + 1) x = 4 ∧ kd (e + 1) y = 3)) : oTimes x y = .inl 1 := by
  rcases jcases x with ⟨k, rfl⟩ | ⟨z, rfl⟩ | ⟨s, rfl⟩ | ⟨l, rfl⟩ | ⟨l, rfl⟩ <;> rcases jcases y with ⟨k', rfl⟩ | ⟨z', rfl⟩ | ⟨s', rfl⟩ | ⟨l', rfl⟩ | ⟨l', rfl⟩ <;> first
    | rfl
    | (exact absurd ⟨rfl, rfl⟩ h.1)
    | (exact absurd ⟨rfl, rfl⟩ h.2.1)
    | (exact absurd ⟨rfl, rfl⟩ h.2.2)
theorem kdc {x : JT (e + 1)} (hx : jok (e + 1) x) (c : Nat) (hc : kd (e + 1) x = c) : (c = 3 → ∃ z, x = jn z) ∧ (c = 4 → ∃ s, x = js s) ∧ (c = 5 → ∃ l, x = ja l) ∧ (c = 6 → ∃ l, x = jo l) := by
  rcases jcases x with ⟨k, rfl⟩ | ⟨z, rfl⟩ | ⟨s, rfl⟩ | ⟨l, rfl⟩ | ⟨l, rfl⟩
  · have h3 : k < 3 := hx
    rw [kd_k] at hc
    refine ⟨fun h => ?_, fun h => ?_, fun h => ?_, fun h => ?_⟩ <;> omega
  · rw [kd_n] at hc
    exact ⟨fun _ => ⟨z, rfl⟩, fun h => by omega, fun h => by omega, fun h => by omega⟩
  · rw [kd_s] at hc
    exact ⟨fun h => by omega, fun _ => ⟨s, rfl⟩, fun h => by omega, fun h => by omega⟩
  · rw [kd_a] at hc
    exact ⟨fun h => by omega, fun h => by omega, fun _ => ⟨l, rfl⟩, fun h => by omega⟩
  · rw [kd_o] at hc
    exact ⟨fun h => by omega, fun h => by omega, fun h => by omega, fun _ => ⟨l, rfl⟩⟩
theorem timN {d0 : Nat} {x y : Int} {a b : Nat} (hM : MS st vs cs ks ws) (ha : Arg vs cs ks (e + 1) (jn x) a) (hb : Arg vs cs ks (e + 1) (jn y) b) (hB : Bd vs cs ks ws) (hn : 5000000 < n) : OpO st 0 0 1 2 (fM_times (d0 + 1) n st a b) vs cs ks ws (oNum 2 x y : Nat ⊕ JT (e + 1)) := by
  obtain ⟨a1, a2, a3, _⟩ := ha.g hM
  obtain ⟨b1, b2, b3, _⟩ := hb.g hM
  have hbv : bV = 32000 := rfl
  have hB1 := hB.1
  have hx : -9007199254740991 ≤ x ∧ x ≤ 9007199254740991 := ha.2.1
  have hy : -9007199254740991 ≤ y ∧ y ≤ 9007199254740991 := hb.2.1
  rw [fM_times, if_neg a1, a3, b3, kd_n, kd_n, if_pos (by decide), if_neg b1, if_pos (by decide), ha.1.num hM, hb.1.num hM, abs_cW (by omega) (by omega), abs_cW (by omega) (by omega), cW_mul]
  show OpO _ _ _ _ _ _ _ _ _ _ (if x ≠ 0 ∧ 9007199254740991 / x.natAbs < y.natAbs then .inl 2 else numR (x * y))
  have hc0 : (lg_cmp (cW (x.natAbs : Nat)) 0 = 0) = (x = 0) := by
    rw [show (0 : Int64) = cW 0 from rfl, lg_cW (by omega) (by omega) (by omega) (by omega), izs_eq0]
    exact propext (by omega)
  by_cases h0 : x = 0
  · rw [if_pos (by rw [hc0]; exact h0), if_neg (fun h => h.1 h0)]
    exact OpO.r1 (number_o (n := n) hM (by rw [h0, Int.zero_mul]; omega) (by rw [h0, Int.zero_mul]; omega) (by omega) (by omega))
  · rw [if_neg (by rw [hc0]; exact h0), if_neg (show ¬ cW (x.natAbs : Nat) = 0 by rw [show (0 : Int64) = cW 0 from rfl, cW_eq (by omega) (by omega) (by omega) (by omega)]; omega), show (9007199254740991 : Int64) = cW ((9007199254740991 : Nat) : Int) from rfl, q_div (by omega) (by omega)]
    have hq := Nat.div_le_self 9007199254740991 x.natAbs
    have hcmp : (lg_cmp (cW (y.natAbs : Nat)) (cW ((9007199254740991 / x.natAbs : Nat) : Int)) ≤ 0) = (y.natAbs ≤ 9007199254740991 / x.natAbs) := by
      generalize 9007199254740991 / x.natAbs = w at hq
      rw [lg_cW (by omega) (by omega) (by omega) (by omega), izs_le0]
      exact propext (by omega)
    by_cases h : y.natAbs ≤ 9007199254740991 / x.natAbs
    · rw [if_pos (by rw [hcmp]; exact h), if_neg (fun hh => by omega)]
      have hm : (x * y).natAbs ≤ 9007199254740991 := by
        rw [Int.natAbs_mul, Nat.mul_comm]
        exact (Nat.le_div_iff_mul_le (by omega)).mp h
      exact OpO.r1 (number_o (n := n) hM (by omega) (by omega) (by omega) (by omega))
    · rw [if_neg (by rw [hcmp]; exact h), if_pos ⟨h0, by omega⟩]
      exact refuse_o (k := 2) hM
theorem timesM {fu : Nat} {x y : JT (e + 2)} {a b : Nat} (hM : MS st vs cs ks ws) (ha : Arg vs cs ks (e + 2) x a) (hb : Arg vs cs ks (e + 2) y b) (hB : Bd vs cs ks ws) (hfu : e + 3 ≤ fu) (hn : 5000000 < n) : OpO st 0 0 1 2 (fM_times fu n st a b) vs cs ks ws (oBin 2 x y) := by
  obtain ⟨fu, rfl⟩ : ∃ f, fu = f + 1 := ⟨fu - 1, by omega⟩
  obtain ⟨a1, a2, a3, _⟩ := ha.g hM
  obtain ⟨b1, b2, b3, _⟩ := hb.g hM
  have ka := ha.k7
  have kb := hb.k7
  have hB' := hB
  obtain ⟨B1, B2, B3, B4⟩ := hB
  have hbv : bV = 32000 := rfl
  have hbk : bK = 32000 := rfl
  obtain ⟨x3, x4, _, x6⟩ := kdc ha.2.1 _ rfl
  obtain ⟨y3, y4, _, y6⟩ := kdc hb.2.1 _ rfl
  by_cases c1 : kd (e + 2) x = 3 ∧ kd (e + 2) y = 3
  · obtain ⟨z, rfl⟩ := x3 c1.1
    obtain ⟨w, rfl⟩ := y3 c1.2
    exact timN hM ha hb hB' hn
  rw [oBin_np (by omega)]
  show OpO _ _ _ _ _ _ _ _ _ _ (oTimes x y)
  by_cases c2 : kd (e + 2) x = 6 ∧ kd (e + 2) y = 6
  · obtain ⟨l, rfl⟩ := x6 c2.1
    obtain ⟨m, rfl⟩ := y6 c2.2
    have h1 : cl (jo l) ≤ 4096 := ha.2.2.2.2
    have h2 : cl (jo m) ≤ 4096 := hb.2.2.2.2
    have hm := mergeM (cs := cs) (n := n) (by omega) (e + 2) fu (by omega) st vs ks ws _ _ a b ha.1 hb.1 ha.2.1 hb.2.1 rfl rfl hM (by omega) (by omega) (by omega)
    rw [fM_times, if_neg a1, a3, b3, kd_o, kd_o, if_neg (by decide), if_pos (by decide), if_neg b1, if_pos (by decide)]
    exact OpO.l1 (cR := 1) (by omega) hm.op
  by_cases c3 : kd (e + 2) x = 3 ∧ kd (e + 2) y = 4
  · obtain ⟨z, rfl⟩ := x3 c3.1
    obtain ⟨s, rfl⟩ := y4 c3.2
    obtain ⟨fu, rfl⟩ : ∃ f, fu = f + 1 := ⟨fu - 1, by omega⟩
    have hs := timesS (d0 := fu) (n := n) hM hb ha hB' hn
    rw [fM_times, if_neg a1, a3, b3, kd_n, kd_s, if_pos (by decide), if_neg b1, if_neg (by decide), if_neg (by decide), if_pos (by decide), if_pos (by decide)]
    exact OpO.t2 (by omega) hs
  by_cases c4 : kd (e + 2) x = 4 ∧ kd (e + 2) y = 3
  · obtain ⟨s, rfl⟩ := x4 c4.1
    obtain ⟨z, rfl⟩ := y3 c4.2
    exact timesS hM ha hb hB' hn
  rw [oT_ne ⟨c2, c3, c4⟩, tiX a1 b1 a3 b3 ka kb ⟨c1, c2, c3, c4⟩]
  exact refuse_o (k := 1) hM
end TIM3
end ZTim83
section ZSpl84
section SPLT
variable {st : xS} {vs : List VR} {cs : List Nat} {ks ws : List NP} {e n : Nat}
theorem piece_w (hM : MS st vs cs ks ws) {a p q : Nat} {s : Sx} (ha : isStr vs cs a s) (hpq : p ≤ q) (hqs : q ≤ s.length) (hsl : s.length ≤ 59999) (hb : vs.length + 1 ≤ bV) (hn : bV < n) : ∃ (cc k : Nat) (st' : xS) (v : VR), fM_piece n st a (i3 p) (i3 q) = some (cc, k, vs.length + 1, st') ∧ MS st' (vs ++ [v]) cs ks ws ∧ Cost st st' cc k ∧ Fr0 st st' ∧ Rep (vs ++ [v]) cs ks (e + 1) (js ((s.drop p).take (q - p))) (vs.length + 1) := by
  have ha' := ha
  obtain ⟨h1, v, hv, h4, hsz, _, _, hg⟩ := ha
  obtain ⟨cc, k, st1, e1, m1, m2, m3, m4⟩ := fresh_w hM 4 hb hn
  have e1' : fM_fresh n st 4 = some (cc, k, vs.length + 1, st1) := e1
  have hct := m1.2.2.1.1
  rw [List.length_append, List.length_singleton] at hct
  have hnew := m1.1.2.1 vs.length _ (by rw [List.getElem?_append_right (Nat.le_refl _), Nat.sub_self]; rfl)
  obtain ⟨g1, _, g3⟩ := hM.vc h1 hv
  obtain ⟨f1, f2, _⟩ := m1.vc h1 (pre_get hv)
  have hlast := set_last m1 (st' := xsP (xsP (xsP st1 2 (vs.length + 1 - 1) (i3 (v.2.1 + p))) 3 (vs.length + 1 - 1) (i3 (q - p))) 5 (vs.length + 1 - 1) (i3 (1 + (q - p)))) (v := (4, v.2.1 + p, q - p, 0, 1 + (q - p), 0)) (by
    rw [Nat.add_sub_cancel]
    obtain ⟨a0, a1, a2, a3, a4, a5⟩ := hnew
    exact ⟨a0, upd_eq, upd_eq, a3, upd_eq, a5⟩) (fun i x hi hx => by
    rw [Nat.add_sub_cancel]
    obtain ⟨a0, a1, a2, a3, a4, a5⟩ := hx
    have hne : i ≠ vs.length := by omega
    exact ⟨a0, (upd_ne hne).trans a1, (upd_ne hne).trans a2, a3, (upd_ne hne).trans a4, a5⟩) rfl rfl rfl rfl rfl
  obtain ⟨l1, l2, l3, l4⟩ := hlast
  have hlen : ((s.drop p).take (q - p)).length = q - p := by rw [List.length_take, List.length_drop]; omega
  refine ⟨cc, k, _, _, ?_, l1, ⟨m2.1, by have := m2.2; omega⟩, m3.trans l2, ?_⟩
  · unfold fM_piece
    rw [e1', Option.bind_some, if_neg (fun h => g1 (Or.inr h))]
    dsimp only
    have e5 : (1 : Int32) + i3 (q - p) = i3 (1 + (q - p)) := i3_add 1 _
    rw [if_neg f1, if_neg (by omega), upd_eq, f2.2.1, i3_add, i3_sub' hpq, e5, Nat.zero_add, Nat.zero_add]
    exact xmo_some (Nat.le_refl _) (Nat.le_refl _)
  · have := rep_s (vs := vs) (cs := cs) (ks := ks) (d := e) (s := (s.drop p).take (q - p)) (p := v.2.1 + p) (fun i x hx => by
      rw [List.getElem?_take] at hx
      split at hx
      · rw [List.getElem?_drop] at hx
        rw [Nat.add_assoc]
        exact hg _ _ hx
      · cases hx) (by omega)
    rw [hlen] at this
    exact this
theorem part_w (hM : MS st vs cs ks ws) {a p q : Nat} {s : Sx} (ha : isStr vs cs a s) (hpq : p ≤ q) (hqs : q ≤ s.length) (hsl : s.length ≤ 59999) (hb : vs.length + 1 ≤ bV) (hn : bV < n) : ∃ (cc k : Nat) (st' : xS) (v : VR), fM_part n st a (i3 p) (i3 q) = some (cc, k, vs.length + 1, st') ∧ MS st' (vs ++ [v]) cs ks ws ∧ Cost st st' cc k ∧ FrO st st' ∧ Rep (vs ++ [v]) cs ks (e + 1) (js ((s.drop p).take (q - p))) (vs.length + 1) := by
  have hM' : MS (xsI st 9 (xsi st 9 + (i3 q - i3 p))) vs cs ks ws := hM.si (by decide) (by decide) (by decide) (by decide)
  obtain ⟨cc, k, st', v, e1, m1, m2, m3, m4⟩ := piece_w (e := e) (n := n) hM' ha hpq hqs hsl hb hn
  refine ⟨cc, k, st', v, ?_, m1, ⟨m2.1, m2.2⟩, (FrO.at (k := 9) _ (by decide)).trans m3.o, m4⟩
  unfold fM_part
  rw [e1, Option.bind_some, Nat.zero_add, Nat.zero_add]
  exact xmo_some (Nat.le_refl _) (Nat.le_refl _)
theorem spl_skip (s t : Sx) : ∀ (r k b : Nat), k + r = b → b ≤ s.length → spl s t (s.length - k) k b = spl s t (s.length - b) b b := by
  intro r
  induction r with
  | zero => intro k b h hb; obtain rfl : k = b := by omega
            rfl
  | succ r ih =>
    intro k b h hb
    obtain ⟨m, hm⟩ : ∃ m, s.length - k = m + 1 := ⟨s.length - k - 1, by omega⟩
    rw [hm, spl, if_neg (fun hh => by omega)]
    have := ih (k + 1) b (by omega) hb
    rw [show s.length - (k + 1) = m by omega] at this
    exact this
theorem pf_nil (x : Sx) : pf [] x = true := by cases x <;> rfl
theorem pf_cons (x y : Nat) (t s : Sx) : pf (x :: t) (y :: s) = (decide (x = y) && pf t s) := rfl
theorem pf_short : ∀ {t x : Sx}, x.length < t.length → pf t x = false := fun {t x} h => by
  cases e : pf t x with
  | false => rfl
  | true => exact absurd (pf_len e) (by omega)
theorem splI {s t : Sx} {a b k N : Nat} {W0 : List NP} {wc wn cR cL : Nat} {y3 y4 : Int32} {R : Nat ⊕ JT (e + 2)} (hM : MS st vs cs ks ws) (ha : isStr vs cs a s) (hb : isStr vs cs b t) (hsl : s.length ≤ 59999) (ht1 : 1 ≤ t.length) (hks : k + t.length ≤ s.length) (hN : 4000000 ≤ N)
    (hS : pf t (s.drop k) = false → ∀ (n' : Nat) (y7 y6 : Int32), N ≤ n' → OpO st wc wn cR cL (fM_split_b n' 1 (i3 k + 1) y4 y3 a b y7 y6 st wc wn) vs cs ks W0 R)
    (hT : pf t (s.drop k) = true → ∀ (n' : Nat) (y7 y6 : Int32), N ≤ n' → OpO st wc wn cR cL ((fM_part n' st a y4 (i3 k)).bind fun o2 => (if (xct st) < a then none else xmo (fun a => a.2.1) (fun a => a.2.2.1) (wc + o2.1) (wn + o2.2.1) ((fM_wait n' o2.2.2.2 0 o2.2.2.1).bind fun o14 => (if (xct o2.2.2.2) < a then none else if (xct o2.2.2.2) < b then none else xmo (fun a => a.2.1) (fun a => a.2.2.1) ((wc + o2.1) + o14.1) ((wn + o2.2.1) + o14.2.1) (if b = 0 ∨ (xct o14.2.2) < b then none else fM_split_b n' 1 (i3 k + ((xpi o14.2.2 3) (b - 1))) (i3 k + ((xpi o14.2.2 3) (b - 1))) y3 a b y7 y6 o14.2.2 ((wc + o2.1) + o14.1) ((wn + o2.2.1) + o14.2.1)))))) vs cs ks W0 R) :
    ∀ (r n j : Nat), j + r = t.length → pf t (s.drop k) = pf (t.drop j) (s.drop (k + j)) → N + r + 2 ≤ n → OpO st wc wn cR cL (fM_split_b n 2 (i3 k) y4 y3 a b (i3 j) 1 st wc wn) vs cs ks W0 R := by
  obtain ⟨a1, v, av, a4, asz, _, _, ag⟩ := ha
  obtain ⟨b1, u, bu, b4, bsz, _, _, bg⟩ := hb
  obtain ⟨g1, g2, _⟩ := hM.vc a1 av
  obtain ⟨f1, f2, _⟩ := hM.vc b1 bu
  have hcc := hM.cl.2.1
  have hbc : bC = 100000 := rfl
  intro r
  induction r with
  | zero =>
    intro n j hj hp hn
    obtain ⟨n, rfl⟩ : ∃ i, n = i + 1 := ⟨n - 1, by omega⟩
    rw [List.drop_eq_nil_of_le (show t.length ≤ j by omega), pf_nil] at hp
    rw [fM_split_b, if_neg (by decide), if_neg f1, f2.2.2.1, bsz, if_pos (by rw [i3_le (by omega) (by omega)]; omega), if_neg (by rw [show (0 : Int32) = i3 0 from rfl, i3_eq (by omega) (by omega)]; omega), if_neg (by decide)]
    exact OpO.wrap (hT hp n _ _ (by omega))
  | succ r ih =>
    intro n j hj hp hn
    obtain ⟨n, rfl⟩ : ∃ i, n = i + 1 := ⟨n - 1, by omega⟩
    have hxa := ag (k + j) s[k + j] (List.getElem?_eq_getElem (by omega))
    have hxb := bg j t[j] (List.getElem?_eq_getElem (by omega))
    have la := (List.getElem?_eq_some_iff.mp hxa).1
    have lb := (List.getElem?_eq_some_iff.mp hxb).1
    obtain ⟨y1, y2⟩ := hM.1.2.2.1 _ _ hxa
    obtain ⟨z1, z2⟩ := hM.1.2.2.1 _ _ hxb
    have hln := hM.2.2.2.1.1
    rw [List.drop_eq_getElem_cons (show j < t.length by omega), List.drop_eq_getElem_cons (show k + j < s.length by omega), pf_cons] at hp
    rw [fM_split_b, if_neg (by decide), if_neg f1, f2.2.2.1, bsz, if_neg (by rw [i3_le (by omega) (by omega)]; omega), if_neg (show ¬ (1 : Int32) = 0 by decide), if_neg g1, g2.2.1, f2.2.1, i3_add, i3_add, i3_add, Nat.add_assoc, if_neg (i3_idx (by omega) (by omega)), if_neg (i3_idx (by omega) (by omega)), i3_N (by omega), i3_N (by omega), y1, z1, i3_one]
    by_cases ez : s[k + j] = t[j]
    · rw [if_pos (by rw [ez])]
      rw [decide_eq_true ez.symm, Bool.true_and] at hp
      exact OpO.wrap (ih n (j + 1) (by omega) hp (by omega))
    · rw [if_neg (by rw [i3_eq (by omega) (by omega)]; exact ez)]
      rw [decide_eq_false (fun h => ez h.symm), Bool.false_and] at hp
      obtain ⟨n, rfl⟩ : ∃ i, n = i + 1 := ⟨n - 1, by omega⟩
      rw [fM_split_b, if_neg (by decide), if_neg f1, f2.2.2.1, bsz, if_neg (show ¬ i3 t.length = 0 by rw [show (0 : Int32) = i3 0 from rfl, i3_eq (by omega) (by omega)]; omega), if_pos rfl, if_pos rfl, ite_self]
      exact OpO.wrap (OpO.wrap (hS hp n _ _ (by omega)))
theorem RL.mo {vs vs' : List VR} {cs : List Nat} {ks ks' : List NP} {d : Nat} {W : List NP} {l : List (JT d)} (h : RL vs cs ks d W l) : RL (vs ++ vs') cs (ks ++ ks') d W l := by
  have := h.mono (vs' := vs') (cs' := []) (ks' := ks')
  rw [List.append_nil] at this
  exact this
theorem RL.mv {vs vs' : List VR} {cs : List Nat} {ks : List NP} {d : Nat} {W : List NP} {l : List (JT d)} (h : RL vs cs ks d W l) : RL (vs ++ vs') cs ks d W l := by
  have := h.mono (vs' := vs') (cs' := []) (ks' := [])
  rw [List.append_nil, List.append_nil] at this
  exact this
theorem Rep.mv {vs vs' : List VR} {cs : List Nat} {ks : List NP} {d : Nat} {j : JT d} {c : Nat} (h : Rep vs cs ks d j c) : Rep (vs ++ vs') cs ks d j c := by
  have := h.mono (vs' := vs') (cs' := []) (ks' := [])
  rw [List.append_nil, List.append_nil] at this
  exact this
theorem OpO.stepv {st st1 : xS} {vs : List VR} {cs : List Nat} {ks ws : List NP} {d : Nat} {wc wn cc s cR cL : Nat} {out : Option (Nat × Nat × Nat × Nat × xS)} {res : Nat ⊕ JT d} {a : List VR} (h : OpO st1 (wc + cc) (wn + s) cR cL out (vs ++ a) cs ks ws res) (hc : Cost st st1 cc s) (hf : FrO st st1) : OpO st wc wn cR cL out vs cs ks ws res := by
  refine OpO.step (a := a) (b := []) (c := []) ?_ hc hf
  rw [List.append_nil, List.append_nil]
  exact h
theorem splE {a b : Nat} {s : Sx} {W0 : List NP} (hsl : s.length ≤ 59999) : ∀ (q n k : Nat) (st : xS) (vs : List VR) (W : List NP) (X : List (JT (e + 1))) (wc wn : Nat) (y4 y7 y6 : Int32), k + q = s.length → isStr vs cs a s → isStr vs cs b [] → MS st vs cs ks (W0 ++ W) → RL vs cs ks (e + 1) W X → vs.length + q + 1 ≤ bV → W0.length + W.length + q ≤ bK → ks.length + W.length + q ≤ bK → 3000000 + 2 * q < n → OpO st wc wn 1 1 (fM_split_b n 1 (i3 k) y4 (i3 W0.length) a b y7 y6 st wc wn) vs cs ks W0 (.inr (ja (X ++ (s.drop k).map (fun c => (js [c] : JT (e + 1)))))) := by
  have hbc : bC = 100000 := rfl
  have hbk' : bK = 32000 := rfl
  have hbv' : bV = 32000 := rfl
  intro q
  induction q with
  | zero =>
    intro n k st vs W X wc wn y4 y7 y6 hk ha hb hM hR hbv hbw hbk hn
    obtain ⟨n, rfl⟩ : ∃ i, n = i + 1 := ⟨n - 1, by omega⟩
    obtain ⟨a1, v, av, a4, asz, _, _, ag⟩ := ha
    obtain ⟨b1, u, bu, b4, bsz, _, _, bg⟩ := hb
    obtain ⟨g1, g2, _⟩ := hM.vc a1 av
    obtain ⟨f1, f2, _⟩ := hM.vc b1 bu
    rw [fM_split_b, if_pos rfl, if_neg g1, g2.2.2.1, asz, if_pos (by rw [i3_le (by omega) (by omega)]; omega), if_neg f1, f2.2.2.1, bsz, if_pos (by decide), List.drop_eq_nil_of_le (by omega), List.map_nil, List.append_nil]
    exact OpO.wrap (OpO.l1 (cR := 1) (by omega) (whole_ao hM hR (by omega) (by omega) (by omega)))
  | succ q ih =>
    intro n k st vs W X wc wn y4 y7 y6 hk ha hb hM hR hbv hbw hbk hn
    obtain ⟨n, rfl⟩ : ∃ i, n = i + 2 := ⟨n - 2, by omega⟩
    obtain ⟨c1, s1, st1, v1, e1, m1, m2, m3, m4⟩ := part_w (e := e) (n := n) hM ha (p := k) (q := k + 1) (by omega) (by omega) hsl (by omega) (by omega)
    obtain ⟨c2, s2, st2, e2, n1, n2, n3, _⟩ := wait_w (n := n) m1 (a := vs.length + 1) (b := 0) (by rw [List.length_append]; simp) (by omega) (by rw [List.length_append]; omega) (by omega)
    have ha' := ha
    have hb' := hb
    obtain ⟨a1, v, av, a4, asz, _, _, ag⟩ := ha
    obtain ⟨b1, u, bu, b4, bsz, _, _, bg⟩ := hb
    obtain ⟨g1, g2, _⟩ := hM.vc a1 av
    obtain ⟨f1, f2, _⟩ := hM.vc b1 bu
    have g3 := (m1.vc a1 (pre_get av)).1
    have f3 := (m1.vc b1 (pre_get bu)).1
    rw [fM_split_b, if_pos rfl, if_neg g1, g2.2.2.1, asz, if_neg (by rw [i3_le (by omega) (by omega)]; omega), if_neg f1, f2.2.2.1, bsz, if_pos (by decide), fM_split_b, if_neg (by decide), if_neg f1, f2.2.2.1, bsz, if_pos (by decide), if_pos (by decide), i3_one, e1, Option.bind_some, if_neg (fun h => g1 (Or.inr h))]
    dsimp only
    rw [e2, Option.bind_some, if_neg (fun h => g3 (Or.inr h)), if_neg (fun h => f3 (Or.inr h))]
    dsimp only
    refine OpO.wrap (OpO.wrap (OpO.stepv (a := [v1]) (OpO.wrap (OpO.step0 (OpO.wrap ?_) n2 n3.o)) m2 m3))
    rw [List.append_assoc] at n1
    have hpc : (s.drop k).take (k + 1 - k) = [s[k]] := by
      rw [List.drop_eq_getElem_cons (show k < s.length by omega), Nat.add_sub_cancel_left]
      rfl
    rw [hpc] at m4
    have := ih n (k + 1) st2 (vs ++ [v1]) (W ++ [(vs.length + 1, 0)]) (X ++ [js [s[k]]]) (wc + c1 + c2) (wn + s1 + s2) y4 0 0 (by omega) ha'.mo hb'.mo n1 (hR.mv.snoc m4 (by omega)) (by rw [List.length_append]; simp; omega) (by rw [List.length_append]; simp; omega) (by rw [List.length_append]; simp; omega) (by omega)
    rw [List.append_assoc] at this
    rw [List.drop_eq_getElem_cons (show k < s.length by omega), List.map_cons]
    exact this
theorem splO {a b : Nat} {s t : Sx} {W0 : List NP} (hsl : s.length ≤ 4095) (htl : t.length ≤ 4095) (ht1 : 1 ≤ t.length) (hs1 : 1 ≤ s.length) : ∀ (q n k bg : Nat) (st : xS) (vs : List VR) (W : List NP) (X : List (JT (e + 1))) (wc wn : Nat) (y7 y6 : Int32), k + q = s.length → bg ≤ k → isStr vs cs a s → isStr vs cs b t → MS st vs cs ks (W0 ++ W) → RL vs cs ks (e + 1) W X → vs.length + q + 2 ≤ bV → W0.length + W.length + q + 1 ≤ bK → ks.length + W.length + q + 1 ≤ bK → 4000000 + 5000 * q < n → OpO st wc wn 1 1 (fM_split_b n 1 (i3 k) (i3 bg) (i3 W0.length) a b y7 y6 st wc wn) vs cs ks W0 (.inr (ja (X ++ (spl s t q k bg).map (fun x => (js x : JT (e + 1)))))) := by
  have hbc : bC = 100000 := rfl
  have hbk' : bK = 32000 := rfl
  have hbv' : bV = 32000 := rfl
  intro q
  induction q using Nat.strongRecOn with
  | ind q ih =>
    intro n k bg st vs W X wc wn y7 y6 hk hbg ha hb hM hR hbv hbw hbk hn
    obtain ⟨n, rfl⟩ : ∃ i, n = i + 1 := ⟨n - 1, by omega⟩
    have ha' := ha
    have hb' := hb
    obtain ⟨a1, v, av, a4, asz, _, _, ag⟩ := ha
    obtain ⟨b1, u, bu, b4, bsz, _, _, bgg⟩ := hb
    obtain ⟨g1, g2, _⟩ := hM.vc a1 av
    obtain ⟨f1, f2, _⟩ := hM.vc b1 bu
    cases q with
    | zero =>
      obtain ⟨c1, s1, st1, v1, e1, m1, m2, m3, m4⟩ := part_w (e := e) (n := n) hM ha' (p := bg) (q := s.length) (by omega) (by omega) (by omega) (by omega) (by omega)
      obtain ⟨c2, s2, st2, e2, n1, n2, n3, _⟩ := wait_w (n := n) m1 (a := vs.length + 1) (b := 0) (by rw [List.length_append]; simp) (by omega) (by rw [List.length_append]; omega) (by omega)
      rw [fM_split_b, if_pos rfl, if_neg g1, g2.2.2.1, asz, if_pos (by rw [i3_le (by omega) (by omega)]; omega), if_neg f1, f2.2.2.1, bsz, if_neg (by rw [show (0 : Int32) = i3 0 from rfl, i3_le (by omega) (by omega)]; omega), if_neg (by rw [show (0 : Int32) = i3 0 from rfl, i3_le (by omega) (by omega)]; omega), e1, Option.bind_some]
      dsimp only
      rw [e2, Option.bind_some]
      dsimp only
      have hpc : (s.drop bg).take (s.length - bg) = s.drop bg := List.take_of_length_le (by rw [List.length_drop]; omega)
      rw [hpc] at m4
      rw [List.append_assoc] at n1
      refine OpO.wrap (OpO.stepv (a := [v1]) (OpO.wrap (OpO.step0 (OpO.wrap (OpO.l1 (cR := 1) (by omega) ?_)) n2 n3.o)) m2 m3)
      exact whole_ao n1 (hR.mv.snoc m4 (by omega)) (by rw [List.length_append]; simp; omega) (by rw [List.length_append]; simp; omega) (by omega)
    | succ q =>
      rw [fM_split_b, if_pos rfl, if_neg g1, g2.2.2.1, asz, if_neg (by rw [i3_le (by omega) (by omega)]; omega), if_neg f1, f2.2.2.1, bsz, if_neg (by rw [show (0 : Int32) = i3 0 from rfl, i3_le (by omega) (by omega)]; omega), i3_add]
      unfold spl
      have hno : pf t (s.drop k) = false → ∀ (n' : Nat) (y7 y6 : Int32), 4000001 + 5000 * q ≤ n' → OpO st wc wn 1 1 (fM_split_b n' 1 (i3 k + 1) (i3 bg) (i3 W0.length) a b y7 y6 st wc wn) vs cs ks W0 (.inr (ja (X ++ (if bg ≤ k ∧ pf t (s.drop k) = true then ((s.drop bg).take (k - bg)) :: spl s t q (k + 1) (k + t.length) else spl s t q (k + 1) bg).map (fun x => (js x : JT (e + 1)))))) := by
        intro hp n' y7 y6 hn'
        rw [if_neg (fun hh => by rw [hp] at hh; exact absurd hh.2 (by decide)), i3_one]
        exact ih q (by omega) n' (k + 1) bg st vs W X wc wn y7 y6 (by omega) (by omega) ha' hb' hM hR (by omega) (by omega) (by omega) (by omega)
      by_cases hkt : s.length < k + t.length
      · have hp : pf t (s.drop k) = false := pf_short (by rw [List.length_drop]; omega)
        rw [if_pos (by rw [i3_lt (by omega) (by omega)]; exact hkt)]
        obtain ⟨n, rfl⟩ : ∃ i, n = i + 1 := ⟨n - 1, by omega⟩
        rw [fM_split_b, if_neg (by decide), if_neg f1, f2.2.2.1, bsz, if_neg (show ¬ i3 t.length = 0 by rw [show (0 : Int32) = i3 0 from rfl, i3_eq (by omega) (by omega)]; omega), if_pos rfl, if_pos rfl, ite_self]
        exact OpO.wrap (OpO.wrap (hno hp n _ _ (by omega)))
      · rw [if_neg (by rw [i3_lt (by omega) (by omega)]; exact hkt)]
        refine OpO.wrap (splI (N := 4000001 + 5000 * q) hM ha' hb' (by omega) ht1 (by omega) (by omega) hno (fun hp n' y7 y6 hn' => ?_) t.length n 0 (by omega) (by rw [List.drop_zero, Nat.add_zero]) (by omega))
        obtain ⟨c1, s1, st1, v1, e1, m1, m2, m3, m4⟩ := part_w (e := e) (n := n') hM ha' (p := bg) (q := k) (by omega) (by omega) (by omega) (by omega) (by omega)
        obtain ⟨c2, s2, st2, e2, n1, n2, n3, _⟩ := wait_w (n := n') m1 (a := vs.length + 1) (b := 0) (by rw [List.length_append]; simp) (by omega) (by rw [List.length_append]; omega) (by omega)
        have g3 := (m1.vc a1 (pre_get av)).1
        have f3 := (m1.vc b1 (pre_get bu)).1
        obtain ⟨h3, h4, _⟩ := n1.vc b1 (pre_get (m := [v1]) bu)
        rw [e1, Option.bind_some, if_neg (fun h => g1 (Or.inr h))]
        dsimp only
        rw [e2, Option.bind_some, if_neg (fun h => g3 (Or.inr h)), if_neg (fun h => f3 (Or.inr h))]
        dsimp only
        rw [if_neg h3, h4.2.2.1, bsz, i3_add]
        refine OpO.stepv (a := [v1]) (OpO.wrap (OpO.step0 (OpO.wrap ?_) n2 n3.o)) m2 m3
        rw [List.append_assoc] at n1
        have := ih (s.length - (k + t.length)) (by omega) n' (k + t.length) (k + t.length) st2 (vs ++ [v1]) (W ++ [(vs.length + 1, 0)]) (X ++ [js ((s.drop bg).take (k - bg))]) (wc + c1 + c2) (wn + s1 + s2) y7 y6 (by omega) (by omega) ha'.mo hb'.mo n1 (hR.mv.snoc m4 (by omega)) (by rw [List.length_append]; simp; omega) (by rw [List.length_append]; simp; omega) (by rw [List.length_append]; simp; omega) (by omega)
        have hsk := spl_skip s t (t.length - 1) (k + 1) (k + t.length) (by omega) (by omega)
        rw [show s.length - (k + 1) = q by omega] at hsk
        rw [List.append_assoc, ← hsk] at this
        rw [if_pos ⟨hbg, hp⟩, List.map_cons]
        exact this
theorem splitM {s t : Sx} {a b : Nat} (hM : MS st vs cs ks ws) (ha : Arg vs cs ks (e + 2) (js s) a) (hb : Arg vs cs ks (e + 2) (js t) b) (hB : Bd vs cs ks ws) (hn : 3000000000 < n) : OpO st 0 0 1 1 (fM_split n st a b) vs cs ks ws (.inr (ja ((pcs s t).map (fun x => (js x : JT (e + 1)))))) := by
  obtain ⟨B1, B2, B3, B4⟩ := hB
  have hbv : bV = 32000 := rfl
  have hbk : bK = 32000 := rfl
  have hbc : bC = 100000 := rfl
  have hsl := ha.ls
  have htl := hb.ls
  unfold fM_split pcs
  rw [hM.1.1.2.2.2]
  by_cases ht : t = []
  · subst ht
    rw [if_pos rfl]
    have := splE (e := e) (W0 := ws) (cs := cs) (ks := ks) (a := a) (b := b) (s := s) (by omega) s.length n 0 st vs [] [] 0 0 0 0 0 (by omega) (isStr_rep ha.1) (isStr_rep hb.1) (by rw [List.append_nil]; exact hM) trivial (by omega) (by simp; omega) (by simp; omega) (by omega)
    rw [List.map_map]
    exact this
  · rw [if_neg ht]
    by_cases hs : s = []
    · subst hs
      rw [if_pos rfl, List.map_nil]
      obtain ⟨n, rfl⟩ : ∃ i, n = i + 1 := ⟨n - 1, by omega⟩
      obtain ⟨g1, _, _, _⟩ := ha.g hM
      obtain ⟨f1, _, _, _⟩ := hb.g hM
      have ht0 : 0 < t.length := List.length_pos_iff.mpr ht
      rw [fM_split_b, if_pos rfl, if_neg g1, (ha.1.szs hM).1, if_pos (by decide), if_neg f1, (hb.1.szs hM).1, if_neg (by rw [show (0 : Int32) = i3 0 from rfl, i3_le (by omega) (by omega)]; omega), if_pos (by decide)]
      exact OpO.wrap (OpO.l1 (cR := 1) (by omega) (whole_ao (W := []) (l := []) (by rw [List.append_nil]; exact hM) trivial (by omega) (by simp; omega) (by omega)))
    · rw [if_neg hs]
      have ht0 : 0 < t.length := List.length_pos_iff.mpr ht
      have hs0 : 0 < s.length := List.length_pos_iff.mpr hs
      exact splO (e := e) (W0 := ws) (cs := cs) (ks := ks) (a := a) (b := b) (s := s) (t := t) hsl htl ht0 hs0 s.length n 0 0 st vs [] [] 0 0 0 0 (by omega) (by omega) (isStr_rep ha.1) (isStr_rep hb.1) (by rw [List.append_nil]; exact hM) trivial (by omega) (by simp; omega) (by simp; omega) (by omega)
end SPLT
end ZSpl84
section ZBin85
section BIN
variable {st : xS} {vs : List VR} {cs : List Nat} {ks ws : List NP} {e n : Nat}
theorem oMi_ne {x y : JT (e + 1)} (h : ¬ (kd (e + 1) x = 5 ∧ kd (e + 1) y = 5)) : oMinus x y = .inl 1 := by
  rcases jcases x with ⟨k, rfl⟩ | ⟨z, rfl⟩ | ⟨s, rfl⟩ | ⟨l, rfl⟩ | ⟨l, rfl⟩ <;> rcases jcases y with ⟨k', rfl⟩ | ⟨z', rfl⟩ | ⟨s', rfl⟩ | ⟨l', rfl⟩ | ⟨l', rfl⟩ <;> first
    | rfl
    | (exact absurd ⟨rfl, rfl⟩ h)
theorem oPi_ne {x y : JT (e + 2)} (h : ¬ (kd (e + 2) x = 4 ∧ kd (e + 2) y = 4)) : oPieces x y = .inl 1 := by
  rcases jcases x with ⟨k, rfl⟩ | ⟨z, rfl⟩ | ⟨s, rfl⟩ | ⟨l, rfl⟩ | ⟨l, rfl⟩ <;> rcases jcases y with ⟨k', rfl⟩ | ⟨z', rfl⟩ | ⟨s', rfl⟩ | ⟨l', rfl⟩ | ⟨l', rfl⟩ <;> first
    | rfl
    | (exact absurd ⟨rfl, rfl⟩ h)
theorem tdiv_b {x y : Int} (hx : -9007199254740991 ≤ x ∧ x ≤ 9007199254740991) : -9007199254740991 ≤ x.tdiv y ∧ x.tdiv y ≤ 9007199254740991 := by
  have : (x.tdiv y).natAbs ≤ x.natAbs := by
    rw [Int.natAbs_tdiv]
    exact Nat.div_le_self _ _
  omega
theorem tmod_b {x y : Int} (hx : -9007199254740991 ≤ x ∧ x ≤ 9007199254740991) : -9007199254740991 ≤ x - x.tdiv y * y ∧ x - x.tdiv y * y ≤ 9007199254740991 := by
  have h1 := Int.mul_tdiv_add_tmod x y
  have h2 : (x.tmod y).natAbs ≤ x.natAbs := by
    rw [Int.natAbs_tmod]
    exact Nat.mod_le _ _
  have h3 : x.tdiv y * y = y * x.tdiv y := Int.mul_comm _ _
  omega
theorem binary1M {fu op : Nat} {x y : JT (e + 2)} {a b : Nat} (hop : op ≤ 4) (hM : MS st vs cs ks ws) (ha : Arg vs cs ks (e + 2) x a) (hb : Arg vs cs ks (e + 2) y b) (hB : Bd vs cs ks ws) (hfu : e + 3 ≤ fu) (hn : 3000000000 < n) : OpO st 0 0 1 2 (fM_binary1 fu n st (i3 op) a b) vs cs ks ws (oBin op x y) := by
  obtain ⟨a1, a2, a3, _⟩ := ha.g hM
  obtain ⟨b1, b2, b3, _⟩ := hb.g hM
  have ka := ha.k7
  have kb := hb.k7
  have hB1 := hB.1
  have hbv : bV = 32000 := rfl
  obtain ⟨x3, x4, x5, _⟩ := kdc ha.2.1 _ rfl
  obtain ⟨y3, y4, y5, _⟩ := kdc hb.2.1 _ rfl
  have P : ∀ c : Nat, c < 8 → (i3 (kd (e + 2) x) = i3 c) = (kd (e + 2) x = c) := fun c hc => ke ka hc
  have Q : ∀ c : Nat, c < 8 → (i3 (kd (e + 2) y) = i3 c) = (kd (e + 2) y = c) := fun c hc => ke kb hc
  unfold fM_binary1
  obtain rfl | rfl | rfl | rfl | rfl : op = 0 ∨ op = 1 ∨ op = 2 ∨ op = 3 ∨ op = 4 := by omega
  · rw [if_pos (by decide)]
    exact OpO.t2 (by omega) (addedM hM ha hb hB (by omega))
  · rw [if_neg (by decide), if_pos (by decide), if_neg a1, a3, b3]
    by_cases c1 : kd (e + 2) x = 3 ∧ kd (e + 2) y = 3
    · obtain ⟨z, rfl⟩ := x3 c1.1
      obtain ⟨w, rfl⟩ := y3 c1.2
      have hz : -9007199254740991 ≤ z ∧ z ≤ 9007199254740991 := ha.2.1
      have hw : -9007199254740991 ≤ w ∧ w ≤ 9007199254740991 := hb.2.1
      rw [kd_n, kd_n, if_pos (by decide), if_neg b1, if_pos (by decide), ha.1.num hM, hb.1.num hM, show cW z - cW w = cW (z - w) from (Int64.ofInt_sub _ _).symm]
      exact OpO.r1 (number_o (n := n) hM (by omega) (by omega) (by omega) (by omega))
    rw [oBin_np (by omega)]
    show OpO _ _ _ _ _ _ _ _ _ _ (oMinus x y)
    by_cases c5 : kd (e + 2) x = 5 ∧ kd (e + 2) y = 5
    · obtain ⟨l, rfl⟩ := x5 c5.1
      obtain ⟨m, rfl⟩ := y5 c5.2
      rw [kd_a, kd_a, if_neg (by decide), if_pos (by decide), if_neg b1, if_pos (by decide)]
      exact OpO.l1 (cR := 1) (by omega) (withoutM hM ha hb (by omega) hB hn)
    rw [oMi_ne c5]
    by_cases h3 : kd (e + 2) x = 3
    · rw [if_pos (show i3 (kd (e + 2) x) = 3 by rw [h3]; rfl), if_neg b1, if_neg (show ¬ i3 (kd (e + 2) y) = 3 from fun hh => c1 ⟨h3, (Q 3 (by omega)).mp hh⟩), if_neg (show ¬ i3 (kd (e + 2) x) = 5 from fun hh => by have := (P 5 (by omega)).mp hh; omega)]
      exact refuse_o (k := 1) hM
    · rw [if_neg (show ¬ i3 (kd (e + 2) x) = 3 from fun hh => h3 ((P 3 (by omega)).mp hh))]
      by_cases h5 : kd (e + 2) x = 5
      · rw [if_pos (show i3 (kd (e + 2) x) = 5 by rw [h5]; rfl), if_neg b1, if_neg (show ¬ i3 (kd (e + 2) y) = 5 from fun hh => c5 ⟨h5, (Q 5 (by omega)).mp hh⟩)]
        exact refuse_o (k := 1) hM
      · rw [if_neg (show ¬ i3 (kd (e + 2) x) = 5 from fun hh => h5 ((P 5 (by omega)).mp hh))]
        exact refuse_o (k := 1) hM
  · rw [if_neg (by decide), if_neg (by decide), if_pos (by decide)]
    exact OpO.t2 (by omega) (timesM hM ha hb hB hfu (by omega))
  · rw [if_neg (by decide), if_neg (by decide), if_neg (by decide), if_pos (by decide), if_neg a1, a3, b3]
    by_cases c1 : kd (e + 2) x = 3 ∧ kd (e + 2) y = 3
    · obtain ⟨z, rfl⟩ := x3 c1.1
      obtain ⟨w, rfl⟩ := y3 c1.2
      have hz : -9007199254740991 ≤ z ∧ z ≤ 9007199254740991 := ha.2.1
      have hw : -9007199254740991 ≤ w ∧ w ≤ 9007199254740991 := hb.2.1
      have ht := tdiv_b (y := w) hz
      rw [kd_n, kd_n, if_neg (by decide), if_pos (by decide), if_neg b1, if_pos (by decide), ha.1.num hM, hb.1.num hM, cW_div (by omega) (by omega) (by omega) (by omega)]
      show OpO _ _ _ _ _ _ _ _ _ _ (if w = 0 then .inl 3 else numR (z.tdiv w))
      have hc : (lg_cmp (cW w) 0 = 0) = (w = 0) := by
        rw [show (0 : Int64) = cW 0 from rfl, lg_cW (by omega) (by omega) (by omega) (by omega), izs_eq0, Int.sub_zero]
      by_cases h0 : w = 0
      · rw [if_pos (by rw [hc]; exact h0), if_pos h0]
        exact refuse_o (k := 3) hM
      · rw [if_neg (by rw [hc]; exact h0), if_neg h0, if_neg (show ¬ cW w = 0 by rw [show (0 : Int64) = cW 0 from rfl, cW_eq (by omega) (by omega) (by omega) (by omega)]; exact h0)]
        exact OpO.r1 (number_o (n := n) hM (by omega) (by omega) (by omega) (by omega))
    rw [oBin_np (by omega)]
    show OpO _ _ _ _ _ _ _ _ _ _ (oPieces x y)
    by_cases c4 : kd (e + 2) x = 4 ∧ kd (e + 2) y = 4
    · obtain ⟨s, rfl⟩ := x4 c4.1
      obtain ⟨t, rfl⟩ := y4 c4.2
      rw [kd_s, kd_s, if_pos (by decide), if_neg b1, if_pos (by decide)]
      exact OpO.l1 (cR := 1) (by omega) (splitM hM ha hb hB hn)
    rw [oPi_ne c4]
    by_cases h4 : kd (e + 2) x = 4
    · rw [if_pos (show i3 (kd (e + 2) x) = 4 by rw [h4]; rfl), if_neg b1, if_neg (show ¬ i3 (kd (e + 2) y) = 4 from fun hh => c4 ⟨h4, (Q 4 (by omega)).mp hh⟩), if_neg (show ¬ i3 (kd (e + 2) x) = 3 from fun hh => by have := (P 3 (by omega)).mp hh; omega)]
      exact refuse_o (k := 1) hM
    · rw [if_neg (show ¬ i3 (kd (e + 2) x) = 4 from fun hh => h4 ((P 4 (by omega)).mp hh))]
      by_cases h3 : kd (e + 2) x = 3
      · rw [if_pos (show i3 (kd (e + 2) x) = 3 by rw [h3]; rfl), if_neg b1, if_neg (show ¬ i3 (kd (e + 2) y) = 3 from fun hh => c1 ⟨h3, (Q 3 (by omega)).mp hh⟩)]
        exact refuse_o (k := 1) hM
      · rw [if_neg (show ¬ i3 (kd (e + 2) x) = 3 from fun hh => h3 ((P 3 (by omega)).mp hh))]
        exact refuse_o (k := 1) hM
  · rw [if_neg (by decide), if_neg (by decide), if_neg (by decide), if_neg (by decide), if_neg a1, a3, b3]
    by_cases c1 : kd (e + 2) x = 3 ∧ kd (e + 2) y = 3
    · obtain ⟨z, rfl⟩ := x3 c1.1
      obtain ⟨w, rfl⟩ := y3 c1.2
      have hz : -9007199254740991 ≤ z ∧ z ≤ 9007199254740991 := ha.2.1
      have hw : -9007199254740991 ≤ w ∧ w ≤ 9007199254740991 := hb.2.1
      have ht := tmod_b (y := w) hz
      rw [kd_n, kd_n, if_pos (by decide), if_neg b1, if_pos (by decide), ha.1.num hM, hb.1.num hM, cW_div (by omega) (by omega) (by omega) (by omega), cW_mul, show cW z - cW (z.tdiv w * w) = cW (z - z.tdiv w * w) from (Int64.ofInt_sub _ _).symm]
      show OpO _ _ _ _ _ _ _ _ _ _ (if w = 0 then .inl 3 else numR (z - z.tdiv w * w))
      have hc : (lg_cmp (cW w) 0 = 0) = (w = 0) := by
        rw [show (0 : Int64) = cW 0 from rfl, lg_cW (by omega) (by omega) (by omega) (by omega), izs_eq0, Int.sub_zero]
      by_cases h0 : w = 0
      · rw [if_pos (by rw [hc]; exact h0), if_pos h0]
        exact refuse_o (k := 3) hM
      · rw [if_neg (by rw [hc]; exact h0), if_neg h0, if_neg (show ¬ cW w = 0 by rw [show (0 : Int64) = cW 0 from rfl, cW_eq (by omega) (by omega) (by omega) (by omega)]; exact h0)]
        exact OpO.r1 (number_o (n := n) hM (by omega) (by omega) (by omega) (by omega))
    rw [oBin_np (by omega)]
    show OpO _ _ _ _ _ _ _ _ _ _ (.inl 1)
    by_cases h3 : kd (e + 2) x = 3
    · rw [if_pos (show i3 (kd (e + 2) x) = 3 by rw [h3]; rfl), if_neg b1, if_neg (show ¬ i3 (kd (e + 2) y) = 3 from fun hh => c1 ⟨h3, (Q 3 (by omega)).mp hh⟩)]
      exact refuse_o (k := 1) hM
    · rw [if_neg (show ¬ i3 (kd (e + 2) x) = 3 from fun hh => h3 ((P 3 (by omega)).mp hh))]
      exact refuse_o (k := 1) hM
end BIN
end ZBin85
