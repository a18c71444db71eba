section RDC
variable {st : xS} {vs : List VR} {cs : List Nat} {ks ws : List NP} {d n : Nat}
def Sm (vs : List VR) (cs : List Nat) (ks : List NP) (st : xS) (d : Nat) (rec : xS → Nat → Nat → Option Int32) : Prop := ∀ (x y : JT d) (a b : Nat), Rep vs cs ks d x a → Rep vs cs ks d y b → jok d x → jok d y → rec st a b = some (if jcmp d x y = 0 then 1 else 0)
theorem sameA (hM : MS st vs cs ks ws) {rec : xS → Nat → Nat → Option Int32} (hrec : Sm vs cs ks st d rec) {l m : List (JT d)} {a b : Nat} (ha : Rep vs cs ks (d + 1) (ja l) a) (hb : Rep vs cs ks (d + 1) (ja m) b) (hol : ∀ x ∈ l, jok d x) (hom : ∀ x ∈ m, jok d x) (hlen : l.length = m.length) : ∀ (q n i : Nat), i + q = l.length → q < n → fM_same1_b rec st n 1 (i3 i) a b = some (if lexC (jcmp d) (l.drop i) (m.drop i) = 0 then 1 else 0) := by
  obtain ⟨hsz, hll⟩ := ha.sza hM
  obtain ⟨g1, _, g3, _⟩ := ha.g hM
  intro q
  induction q with
  | zero =>
    intro n i hi hn
    obtain ⟨n, rfl⟩ : ∃ j, n = j + 1 := ⟨n - 1, by omega⟩
    rw [fM_same1_b, if_neg g1, hsz, if_pos (by rw [i3_le (by omega) (by omega)]; omega), List.drop_eq_nil_of_le (by omega), List.drop_eq_nil_of_le (by omega)]
    rfl
  | succ q ih =>
    intro n i hi hn
    obtain ⟨n, rfl⟩ : ∃ j, n = j + 1 := ⟨n - 1, by omega⟩
    obtain ⟨k1, e1, r1⟩ := ha.kid (n := n) hM (List.getElem?_eq_getElem (show i < l.length by omega))
    obtain ⟨k2, e2, r2⟩ := hb.kid (n := n) hM (List.getElem?_eq_getElem (show i < m.length by omega))
    rw [fM_same1_b, if_neg g1, hsz, if_neg (by rw [i3_le (by omega) (by omega)]; omega), g3, kd_a, if_pos (by decide), if_neg (i3_nn (by omega)), e1, Option.bind_some, e2, Option.bind_some, hrec _ _ _ _ r1 r2 (hol _ (List.getElem_mem _)) (hom _ (List.getElem_mem _)), Option.bind_some, List.drop_eq_getElem_cons (show i < l.length by omega), List.drop_eq_getElem_cons (show i < m.length by omega)]
    unfold lexC
    by_cases e : jcmp d l[i] m[i] = 0
    · rw [if_pos e, if_pos e, if_neg (by decide), i3_one]
      exact ih n (i + 1) (by omega) (by omega)
    · rw [if_neg e, if_neg e, if_pos (by decide), if_neg e]
theorem sameO (hM : MS st vs cs ks ws) {rec : xS → Nat → Nat → Option Int32} (hrec : Sm vs cs ks st d rec) {l m : List (Sx × JT d)} {a b : Nat} (ha : Rep vs cs ks (d + 1) (jo l) a) (hb : Rep vs cs ks (d + 1) (jo m) b) (hol : ∀ x ∈ l, jok d x.2) (hom : ∀ x ∈ m, jok d x.2) : ∀ (q n i : Nat), i + q = l.length → 2000000 + q < n → fM_same1_b rec st n 1 (i3 i) a b = some (if (l.drop i).all (fun p => luB m p.1 (fun y => decide (jcmp d p.2 y = 0))) = true then 1 else 0) := by
  obtain ⟨hsz, hll⟩ := ha.szo hM
  obtain ⟨g1, _, g3, _⟩ := ha.g hM
  intro q
  induction q with
  | zero =>
    intro n i hi hn
    obtain ⟨n, rfl⟩ : ∃ j, n = j + 1 := ⟨n - 1, by omega⟩
    rw [fM_same1_b, if_neg g1, hsz, if_pos (by rw [i3_le (by omega) (by omega)]; omega), List.drop_eq_nil_of_le (by omega)]
    rfl
  | succ q ih =>
    intro n i hi hn
    obtain ⟨n, rfl⟩ : ∃ j, n = j + 1 := ⟨n - 1, by omega⟩
    obtain ⟨k1, m1, e1, e2, r1, s1, sl⟩ := ha.okid (n := n) hM (List.getElem?_eq_getElem (show i < l.length by omega))
    obtain ⟨p1, p2⟩ := placeM (n := n) hM hb s1 sl (by omega)
    have hmb := (hb.szo hM).2
    rw [fM_same1_b, if_neg g1, hsz, if_neg (by rw [i3_le (by omega) (by omega)]; omega), g3, kd_o, if_neg (by decide), e2, Option.bind_some, List.drop_eq_getElem_cons (show i < l.length by omega), List.all_cons]
    cases e : lu l[i].1 m with
    | none =>
      rw [p1 e, Option.bind_some, if_pos (by decide)]
      have : luB m l[i].1 (fun y => decide (jcmp d l[i].2 y = 0)) = false := by unfold luB; rw [e]
      rw [this, Bool.false_and, if_neg (by decide)]
    | some y =>
      obtain ⟨j, k, hj, hjm, f1, f2, f3⟩ := p2 y e
      have hoy : jok d y := hom _ (List.mem_of_getElem? hjm)
      have : luB m l[i].1 (fun y => decide (jcmp d l[i].2 y = 0)) = decide (jcmp d l[i].2 y = 0) := by unfold luB; rw [e]
      rw [f1, Option.bind_some, if_neg (i3_nn (by omega)), e1, Option.bind_some, f2, Option.bind_some, hrec _ _ _ _ r1 f3 (hol _ (List.getElem_mem _)) hoy, Option.bind_some, this]
      by_cases ez : jcmp d l[i].2 y = 0
      · rw [if_pos ez, if_neg (by decide), i3_one, decide_eq_true ez, Bool.true_and]
        exact ih n (i + 1) (by omega) (by omega)
      · rw [if_neg ez, if_pos (by decide), decide_eq_false ez, Bool.false_and, if_neg (by decide)]
theorem same1M (hM : MS st vs cs ks ws) (hn : 3000000 < n) : ∀ (d fu : Nat), d ≤ fu → Sm vs cs ks st d (fM_same1 fu n) := by
  intro d
  induction d with
  | zero => intro fu _ x; exact (j0 x).elim
  | succ d ih =>
    intro fu hfu x y a b ha hb hx hy
    obtain ⟨fu, rfl⟩ : ∃ f, fu = f + 1 := ⟨fu - 1, by omega⟩
    obtain ⟨a1, _, a3, _⟩ := ha.g hM
    obtain ⟨b1, _, b3, _⟩ := hb.g hM
    have hka : kd (d + 1) x < 7 := by
      rcases jcases x with ⟨k, rfl⟩ | ⟨z, rfl⟩ | ⟨s, rfl⟩ | ⟨l, rfl⟩ | ⟨l, rfl⟩
      · have h3 : k < 3 := hx
        rw [kd_k]; omega
      · rw [kd_n]; omega
      · rw [kd_s]; omega
      · rw [kd_a]; omega
      · rw [kd_o]; omega
    have hkb : kd (d + 1) y < 7 := by
      rcases jcases y with ⟨k, rfl⟩ | ⟨z, rfl⟩ | ⟨s, rfl⟩ | ⟨l, rfl⟩ | ⟨l, rfl⟩
      · have h3 : k < 3 := hy
        rw [kd_k]; omega
      · rw [kd_n]; omega
      · rw [kd_s]; omega
      · rw [kd_a]; omega
      · rw [kd_o]; omega
    have hkk : (i3 (kd (d + 1) x) = i3 (kd (d + 1) y)) = (kd (d + 1) x = kd (d + 1) y) := i3_eq (by omega) (by omega)
    rw [fM_same1, if_neg a1, if_neg b1, a3, b3]
    by_cases hk : kd (d + 1) x = kd (d + 1) y
    · rw [if_pos (by rw [hk])]
      have hr : rk (d + 1) x = rk (d + 1) y := by rw [rk_ok hx, rk_ok hy, hk]
      rcases rk_same hr with ⟨p, q, rfl, rfl, _⟩ | ⟨p, q, rfl, rfl⟩ | ⟨p, q, rfl, rfl⟩ | ⟨p, q, rfl, rfl⟩ | ⟨p, q, rfl, rfl⟩
      · rw [kd_k, kd_k] at hk
        have h3 : p < 3 := hx
        have e3 : ∀ c : Nat, c < 256 → (i3 p = i3 c) = (p = c) := fun c hc => i3_eq (by omega) (by omega)
        rw [kd_k, if_neg (show ¬ i3 p = 3 from fun h => by have := (e3 3 (by omega)).mp h; omega), if_neg (show ¬ i3 p = 4 from fun h => by have := (e3 4 (by omega)).mp h; omega), if_neg (show ¬ (5 : Int32) ≤ i3 p by rw [show (5 : Int32) = i3 5 from rfl, i3_le (by omega) (by omega)]; omega), jcmp_k, hk, if_pos (by rw [Int.sub_self]; rfl)]
      · rw [kd_n, if_pos (by decide), ha.num hM, hb.num hM, jcmp_n]
        have hp : -9007199254740991 ≤ p ∧ p ≤ 9007199254740991 := hx
        have hq : -9007199254740991 ≤ q ∧ q ≤ 9007199254740991 := hy
        have : (lg_cmp (cW p) (cW q) = 0) = (sg (p - q) = 0) := by
          rw [lg_cW (by omega) (by omega) (by omega) (by omega)]
          unfold sg
          by_cases c1 : p - q < 0
          · rw [if_pos c1]; decide
          · rw [if_neg c1]
            by_cases c2 : p - q = 0
            · rw [if_pos c2]; decide
            · rw [if_neg c2]; decide
        by_cases e : sg (p - q) = 0
        · rw [if_pos (by rw [this]; exact e), if_pos e]
        · rw [if_neg (by rw [this]; exact e), if_neg e]
      · rw [kd_s, if_neg (by decide), if_pos (by decide), sameTextM hM (isStr_rep ha) (isStr_rep hb) (by have := (ha.szs hM).2; omega) (by have := (hb.szs hM).2; omega) (by omega), Option.bind_some, jcmp_s]
        by_cases e : p = q
        · rw [if_pos e, if_neg (by decide), if_pos (by rw [e]; exact cS_refl q)]
        · rw [if_neg e, if_neg (by decide), if_neg (fun h => e (cS_eq h))]
      · rw [kd_a, if_neg (by decide), if_neg (by decide), if_pos (by decide), (ha.sza hM).1, (hb.sza hM).1, jcmp_a]
        have h1 := (ha.sza hM).2
        have h2 := (hb.sza hM).2
        by_cases e : p.length = q.length
        · rw [if_pos (by rw [e])]
          exact sameA hM (ih fu (by omega)) ha hb hx hy e p.length n 0 (by omega) (by omega)
        · rw [if_neg (by rw [i3_eq (by omega) (by omega)]; exact e), if_neg (fun h => e ((lex0 _ _).mp h).1)]
      · rw [kd_o, if_neg (by decide), if_neg (by decide), if_pos (by decide), (ha.szo hM).1, (hb.szo hM).1, jcmp_o]
        have h1 := (ha.szo hM).2
        have h2 := (hb.szo hM).2
        by_cases e : p.length = q.length
        · rw [if_pos (by rw [e]), show (0 : Int32) = i3 0 from rfl, sameO hM (ih fu (by omega)) ha hb (fun x h => (hx.1 x h).2) (fun x h => (hy.1 x h).2) p.length n 0 (by omega) (by omega), List.drop_zero]
          congr 1
          by_cases e2 : p.all (fun p => luB q p.1 (fun y => decide (jcmp d p.2 y = 0))) = true
          · rw [if_pos e2, if_pos ((obj0 hx.2 hy.2).mpr ⟨e, e2⟩)]
          · rw [if_neg e2, if_neg (fun h => e2 ((obj0 hx.2 hy.2).mp h).2)]
            rfl
        · rw [if_neg (by rw [i3_eq (by omega) (by omega)]; exact e), if_neg (fun h => e ((obj0 hx.2 hy.2).mp h).1)]
    · rw [if_neg (by rw [hkk]; exact hk), if_neg ?_]
      intro h
      have hne : rk (d + 1) x ≠ rk (d + 1) y := by rw [rk_ok hx, rk_ok hy]; exact hk
      rw [jcmp_ne hne] at h
      unfold sg at h
      split at h
      · cases h
      · split at h
        · omega
        · cases h
end RDC
