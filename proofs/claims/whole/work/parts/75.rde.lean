section RDE
variable {st : xS} {vs : List VR} {cs : List Nat} {ks ws : List NP} {d n : Nat}
theorem OrZ.tests {out : Option Int32} {r : Int} (h : OrZ out r) : ∃ x : Int32, out = some x ∧ (x = 0 ↔ r = 0) ∧ (x ≤ 0 ↔ r ≤ 0) ∧ (0 ≤ x ↔ 0 ≤ r) ∧ (x < 0 ↔ r < 0) ∧ OrZ (some x) r := by
  obtain ⟨z, h1, rfl, h3, h4⟩ := h
  refine ⟨iz z, h1, ?_, ?_, ?_, ?_, ⟨z, rfl, rfl, h3, h4⟩⟩
  · rw [show (0 : Int32) = iz 0 from rfl, iz_eq (by omega) (by omega) (by omega) (by omega), sg_0]
  · rw [show (0 : Int32) = iz 0 from rfl, iz_le (by omega) (by omega) (by omega) (by omega)]
    have := @sg_gt z
    omega
  · rw [show (0 : Int32) = iz 0 from rfl, iz_le (by omega) (by omega) (by omega) (by omega)]
    have := @sg_lt z
    omega
  · rw [show (0 : Int32) = iz 0 from rfl, iz_lt (by omega) (by omega) (by omega) (by omega), sg_lt]
def NmL (vs : List VR) (cs : List Nat) (o : Option Sx) (y : Nat) : Prop := match o with
  | none => y = 0
  | some s => isStr vs cs y s ∧ s.length ≤ 59999
theorem follL (hM : MS st vs cs ks ws) {rec : xS → Nat → Nat → Option Int32} {l : List (Sx × JT d)} (hrec : l ≠ [] → OrS vs cs st rec) {c : Nat} (hc : Rep vs cs ks (d + 1) (jo l) c) {last : Option Sx} {y2 : Nat} (hl2 : NmL vs cs last y2) : ∀ (q n i : Nat) (b : Option (Sx × JT d)) (y3 : Nat), i + q = l.length → q < n → NmL vs cs (b.map (fun p => p.1)) y3 → ∃ y, fM_following_b rec st n 1 (i3 i) y3 c y2 = some y ∧ NmL vs cs ((nxA last (l.drop i) b).map (fun p => p.1)) y := by
  obtain ⟨hsz, hll⟩ := hc.szo hM
  obtain ⟨g1, _, _, _⟩ := hc.g hM
  intro q
  induction q with
  | zero =>
    intro n i b y3 hi hn hb
    obtain ⟨n, rfl⟩ : ∃ j, n = j + 1 := ⟨n - 1, by omega⟩
    refine ⟨y3, ?_, ?_⟩
    · rw [fM_following_b, if_neg g1, hsz, if_pos (by rw [i3_le (by omega) (by omega)]; omega)]
    · rw [List.drop_eq_nil_of_le (by omega)]
      exact hb
  | succ q ih =>
    intro n i b y3 hi hn hb
    obtain ⟨n, rfl⟩ : ∃ j, n = j + 1 := ⟨n - 1, by omega⟩
    have hne : l ≠ [] := fun h => by rw [h] at hi; simp at hi
    obtain ⟨k1, m1, e1, e2, r1, s1, sl⟩ := hc.okid (n := n) hM (List.getElem?_eq_getElem (show i < l.length by omega))
    rw [fM_following_b, if_neg g1, hsz, if_neg (by rw [i3_le (by omega) (by omega)]; omega), e2, Option.bind_some, List.drop_eq_getElem_cons (show i < l.length by omega), i3_one]
    unfold nxA
    have tk := ih n (i + 1) (some l[i]) m1 (by omega) (by omega) ⟨s1, sl⟩
    have kp := ih n (i + 1) b y3 (by omega) (by omega) hb
    have body : (bh last l[i].1 = true → ∃ y, (if y3 = 0 then fM_following_b rec st n 1 (i3 (i + 1)) m1 c y2 else (rec st m1 y3).bind fun o5 => (if 0 ≤ o5 then fM_following_b rec st n 1 (i3 (i + 1)) y3 c y2 else fM_following_b rec st n 1 (i3 (i + 1)) m1 c y2)) = some y ∧ NmL vs cs ((nxA last (l.drop (i + 1)) (if (last.all (fun t => decide (0 < cS l[i].1 t))) && (b.all (fun t => decide (cS l[i].1 t.1 < 0))) then some l[i] else b)).map (fun p => p.1)) y) := by
      intro hbh
      unfold bh at hbh
      rw [hbh, Bool.true_and]
      cases b with
      | none =>
        have h0 : y3 = 0 := hb
        rw [if_pos h0]
        exact tk
      | some p =>
        have hs : isStr vs cs y3 p.1 ∧ p.1.length ≤ 59999 := hb
        have h0 : ¬ y3 = 0 := by have := hs.1.1; omega
        obtain ⟨x, hx, _, _, t3, t4, _⟩ := (hrec hne _ _ _ _ s1 hs.1 sl hs.2).tests
        rw [if_neg h0, hx, Option.bind_some]
        simp only [Option.all_some]
        by_cases e : 0 ≤ cS l[i].1 p.1
        · rw [if_pos (t3.mpr e), if_neg (fun h => by have := of_decide_eq_true h; omega)]
          exact kp
        · rw [if_neg (fun h => e (t3.mp h)), if_pos (decide_eq_true (by omega))]
          exact tk
    cases last with
    | none =>
      have h0 : y2 = 0 := hl2
      rw [if_pos h0]
      exact body rfl
    | some t =>
      have hs : isStr vs cs y2 t ∧ t.length ≤ 59999 := hl2
      have h0 : ¬ y2 = 0 := by have := hs.1.1; omega
      obtain ⟨x, hx, _, t2, _, _, _⟩ := (hrec hne _ _ _ _ s1 hs.1 sl hs.2).tests
      rw [if_neg h0, hx, Option.bind_some]
      by_cases e : cS l[i].1 t ≤ 0
      · rw [if_pos (t2.mpr e)]
        have : (Option.all (fun t => decide (0 < cS l[i].1 t)) (some t)) = false := by
          rw [Option.all_some]
          exact decide_eq_false (by omega)
        rw [this, Bool.false_and, if_neg (by decide)]
        exact kp
      · rw [if_neg (fun h => e (t2.mp h))]
        exact body (by unfold bh; rw [Option.all_some]; exact decide_eq_true (by omega))
theorem follM (hM : MS st vs cs ks ws) {rec : xS → Nat → Nat → Option Int32} {l : List (Sx × JT d)} (hrec : l ≠ [] → OrS vs cs st rec) {c : Nat} (hc : Rep vs cs ks (d + 1) (jo l) c) {last : Option Sx} {y2 : Nat} (hl2 : NmL vs cs last y2) (hn : 100000 < n) {p : Sx × JT d} (hp : nx l last = some p) : ∃ y, fM_following rec n st c y2 = some y ∧ isStr vs cs y p.1 ∧ p.1.length ≤ 59999 := by
  have hll := (hc.szo hM).2
  obtain ⟨y, h1, h2⟩ := follL hM hrec hc hl2 l.length n 0 none 0 (by omega) (by omega) rfl
  unfold nx at hp
  rw [List.drop_zero, hp] at h2
  exact ⟨y, h1, h2⟩
theorem obj2 (hM : MS st vs cs ks ws) {rec : xS → Nat → Nat → Option Int32} {l m : List (Sx × JT d)} (hrec : Or vs cs ks st d rec) (hrs : l ≠ [] → OrS vs cs st rec) {a b : Nat} (ha : Rep vs cs ks (d + 1) (jo l) a) (hb : Rep vs cs ks (d + 1) (jo m) b) (hol : jok (d + 1) (jo l)) (hom : jok (d + 1) (jo m)) : ∀ (na n i : Nat) (la : Option Sx) (y3 : Nat) (B : List (Sx × JT d)), i + na = l.length → 3000000 + na < n → NmL vs cs la y3 → l.countP (fun p => bh la p.1) = na → B.map (fun p => p.1) = (sq l na la).map (fun p => p.1) → (∀ q ∈ B, q ∈ m) → OrZ (fM_objects_b rec st n 2 (i3 i) 0 y3 a b) (lexC (jcmp d) ((sq l na la).map (fun p => p.2)) (B.map (fun p => p.2))) := by
  obtain ⟨hsz, hll⟩ := ha.szo hM
  obtain ⟨g1, _, _, _⟩ := ha.g hM
  intro na
  induction na with
  | zero =>
    intro n i la y3 B hi hn _ _ hB _
    obtain ⟨n, rfl⟩ : ∃ j, n = j + 1 := ⟨n - 1, by omega⟩
    have hB0 : B = [] := by
      have := congrArg List.length hB
      rw [List.length_map] at this
      exact List.length_eq_zero_iff.mp this
    rw [fM_objects_b, if_neg (by decide), if_neg g1, hsz, if_pos (by rw [i3_le (by omega) (by omega)]; omega), hB0]
    exact ⟨0, rfl, rfl, by omega, by omega⟩
  | succ na ih =>
    intro n i la y3 B hi hn hla hcnt hB hBm
    obtain ⟨n, rfl⟩ : ∃ j, n = j + 1 := ⟨n - 1, by omega⟩
    obtain ⟨p, hp, hpl, hpc, hsq⟩ := nx_step hol.2 hcnt
    rw [hsq] at hB ⊢
    obtain ⟨q, B', rfl, hq1, hB'⟩ : ∃ q B', B = q :: B' ∧ q.1 = p.1 ∧ B'.map (fun p => p.1) = (sq l na (some p.1)).map (fun p => p.1) := by
      cases B with
      | nil => simp at hB
      | cons q B' =>
        rw [List.map_cons, List.map_cons] at hB
        injection hB with h1 h2
        exact ⟨q, B', rfl, h1, h2⟩
    obtain ⟨y, f1, f2, f3⟩ := follM (n := n) hM hrs ha hla (by omega) hp
    have lua : lu p.1 l = some p.2 := lu_in hol.2 hpl
    have lub : lu p.1 m = some q.2 := lu_in hom.2 (by rw [← hq1]; exact hBm q List.mem_cons_self)
    obtain ⟨j1, k1, _, _, a1, a2, a3⟩ := (placeM (n := n) hM ha f2 f3 (by omega)).2 _ lua
    obtain ⟨j2, k2, _, _, b1, b2, b3⟩ := (placeM (n := n) hM hb f2 f3 (by omega)).2 _ lub
    obtain ⟨x, hx, t1, _, _, _, t6⟩ := (hrec _ _ _ _ a3 b3 (hol.1 p hpl).2 (hom.1 q (hBm q List.mem_cons_self)).2).tests
    rw [fM_objects_b, if_neg (by decide), if_neg g1, hsz, if_neg (by rw [i3_le (by omega) (by omega)]; omega), f1, Option.bind_some, a1, Option.bind_some, a2, Option.bind_some, b1, Option.bind_some, b2, Option.bind_some, hx, Option.bind_some, List.map_cons, List.map_cons]
    unfold lexC
    by_cases e : jcmp d p.2 q.2 = 0
    · rw [if_pos (t1.mpr e), if_pos e, i3_one]
      exact ih n (i + 1) (some p.1) y B' (by omega) (by omega) ⟨f2, f3⟩ hpc hB' (fun r hr => hBm r (List.mem_cons_of_mem _ hr))
    · rw [if_neg (fun h => e (t1.mp h)), if_neg e]
      exact t6
theorem obj1 (hM : MS st vs cs ks ws) {rec : xS → Nat → Nat → Option Int32} {l m : List (Sx × JT d)} (hrec : Or vs cs ks st d rec) (hrs : l ≠ [] ∨ m ≠ [] → OrS vs cs st rec) {a b : Nat} (ha : Rep vs cs ks (d + 1) (jo l) a) (hb : Rep vs cs ks (d + 1) (jo m) b) (hol : jok (d + 1) (jo l)) (hom : jok (d + 1) (jo m)) : ∀ (na nb n i : Nat) (la lb : Option Sx) (y3 y4 : Nat), i + na = l.length → i + nb = m.length → 4000000 + na < n → NmL vs cs la y3 → NmL vs cs lb y4 → l.countP (fun p => bh la p.1) = na → m.countP (fun p => bh lb p.1) = nb → (∃ P Q, srt l = P ++ sq l na la ∧ srt m = Q ++ sq m nb lb ∧ P.map (fun p => p.1) = Q.map (fun p => p.1)) → OrZ (fM_objects_b rec st n 1 (i3 i) y4 y3 a b) (if lexC cS ((sq l na la).map (fun p => p.1)) ((sq m nb lb).map (fun p => p.1)) = 0 then lexC (jcmp d) ((srt l).map (fun p => p.2)) ((srt m).map (fun p => p.2)) else lexC cS ((sq l na la).map (fun p => p.1)) ((sq m nb lb).map (fun p => p.1))) := by
  obtain ⟨hsz, hll⟩ := ha.szo hM
  obtain ⟨g1, _, _, _⟩ := ha.g hM
  obtain ⟨hsz', hmm⟩ := hb.szo hM
  obtain ⟨f1, _, _, _⟩ := hb.g hM
  have fin : ∀ (na nb n i : Nat) (la lb : Option Sx) (y3 y4 : Nat), i + na = l.length → i + nb = m.length → 3500000 < n → l.countP (fun p => bh la p.1) = na → m.countP (fun p => bh lb p.1) = nb → (∃ P Q, srt l = P ++ sq l na la ∧ srt m = Q ++ sq m nb lb ∧ P.map (fun p => p.1) = Q.map (fun p => p.1)) → na = 0 ∨ nb = 0 → OrZ (if i3 l.length = i3 m.length then fM_objects_b rec st n 2 0 0 0 a b else some (i3 l.length - i3 m.length)) (if lexC cS ((sq l na la).map (fun p => p.1)) ((sq m nb lb).map (fun p => p.1)) = 0 then lexC (jcmp d) ((srt l).map (fun p => p.2)) ((srt m).map (fun p => p.2)) else lexC cS ((sq l na la).map (fun p => p.1)) ((sq m nb lb).map (fun p => p.1))) := by
    intro na nb n i la lb y3 y4 h1 h2 hn c1 c2 hPQ h0
    have l1 := (sq_spec hol.2 na la c1).1
    have l2 := (sq_spec hom.2 nb lb c2).1
    have hlx : lexC cS ((sq l na la).map (fun p => p.1)) ((sq m nb lb).map (fun p => p.1)) = sg ((l.length : Int) - m.length) := by
      rw [sg_len, List.length_map, List.length_map, l1, l2]
      · congr 1
        omega
      · rcases h0 with h0 | h0
        · left
          rw [List.map_eq_nil_iff]
          exact List.length_eq_zero_iff.mp (by omega)
        · right
          rw [List.map_eq_nil_iff]
          exact List.length_eq_zero_iff.mp (by omega)
    rw [hlx]
    by_cases e : l.length = m.length
    · rw [if_pos (by rw [e]), if_pos (by rw [e, Int.sub_self]; rfl)]
      obtain ⟨P, Q, p1, p2, p3⟩ := hPQ
      have z1 : sq l na la = [] := List.length_eq_zero_iff.mp (by omega)
      have z2 : sq m nb lb = [] := List.length_eq_zero_iff.mp (by omega)
      have hnm : (srt m).map (fun p => p.1) = (srt l).map (fun p => p.1) := by
        rw [p1, p2, z1, z2, List.append_nil, List.append_nil, p3]
      exact obj2 hM hrec (fun h => hrs (Or.inl h)) ha hb hol hom l.length n 0 none 0 (srt m) (by omega) (by omega) rfl (bh_cnt l) hnm (fun q hq => ((srt_spec hom.2).2.2 q).mp hq)
    · rw [if_neg (by rw [i3_eq (by omega) (by omega)]; exact e), if_neg (fun h => e (by have := sg_0.mp h; omega))]
      exact i3_dif (by omega) (by omega)
  intro na
  induction na with
  | zero =>
    intro nb n i la lb y3 y4 h1 h2 hn hla hlb c1 c2 hPQ
    obtain ⟨n, rfl⟩ : ∃ j, n = j + 1 := ⟨n - 1, by omega⟩
    rw [fM_objects_b, if_pos rfl, if_neg g1, hsz, if_pos (by rw [i3_le (by omega) (by omega)]; omega), if_neg f1, hsz']
    exact fin 0 nb n i la lb y3 y4 h1 h2 (by omega) c1 c2 hPQ (Or.inl rfl)
  | succ na ih =>
    intro nb n i la lb y3 y4 h1 h2 hn hla hlb c1 c2 hPQ
    obtain ⟨n, rfl⟩ : ∃ j, n = j + 1 := ⟨n - 1, by omega⟩
    rw [fM_objects_b, if_pos rfl, if_neg g1, hsz, if_neg (by rw [i3_le (by omega) (by omega)]; omega), if_neg f1, hsz']
    cases nb with
    | zero =>
      rw [if_pos (by rw [i3_le (by omega) (by omega)]; omega)]
      exact fin (na + 1) 0 n i la lb y3 y4 h1 h2 (by omega) c1 c2 hPQ (Or.inr rfl)
    | succ nb =>
      have hne : l ≠ [] := fun h => by rw [h] at h1; simp at h1
      obtain ⟨p, hp, hpl, hpc, hsq⟩ := nx_step hol.2 c1
      obtain ⟨q, hq, hql, hqc, hsq'⟩ := nx_step hom.2 c2
      obtain ⟨y, e1, e2, e3⟩ := follM (n := n) hM (fun _ => hrs (Or.inl hne)) ha hla (by omega) hp
      obtain ⟨y', e1', e2', e3'⟩ := follM (n := n) hM (fun _ => hrs (Or.inl hne)) hb hlb (by omega) hq
      obtain ⟨x, hx, t1, _, _, _, t6⟩ := (hrs (Or.inl hne) _ _ _ _ e2 e2' e3 e3').tests
      rw [if_neg (by rw [i3_le (by omega) (by omega)]; omega), e1, Option.bind_some, e1', Option.bind_some, hx, Option.bind_some, hsq, hsq', List.map_cons, List.map_cons]
      have hlex : lexC cS (p.1 :: (sq l na (some p.1)).map (fun p => p.1)) (q.1 :: (sq m nb (some q.1)).map (fun p => p.1)) = if cS p.1 q.1 = 0 then lexC cS ((sq l na (some p.1)).map (fun p => p.1)) ((sq m nb (some q.1)).map (fun p => p.1)) else cS p.1 q.1 := rfl
      rw [hlex]
      by_cases e : cS p.1 q.1 = 0
      · rw [if_pos (t1.mpr e), if_pos e, i3_one]
        refine ih nb n (i + 1) (some p.1) (some q.1) y y' (by omega) (by omega) (by omega) ⟨e2, e3⟩ ⟨e2', e3'⟩ hpc hqc ?_
        obtain ⟨P, Q, p1, p2, p3⟩ := hPQ
        refine ⟨P ++ [p], Q ++ [q], by rw [p1, hsq, List.append_assoc]; rfl, by rw [p2, hsq', List.append_assoc]; rfl, ?_⟩
        rw [List.map_append, List.map_append, p3, List.map_cons, List.map_cons, cS_eq e]
      · rw [if_neg (fun h => e (t1.mp h)), if_neg e, if_neg e]
        exact t6
theorem kd7 {x : JT (d + 1)} (hx : jok (d + 1) x) : kd (d + 1) x < 7 := by
  rcases jcases x with ⟨k, rfl⟩ | ⟨z, rfl⟩ | ⟨s, rfl⟩ | ⟨l, rfl⟩ | ⟨l, rfl⟩
  · have h3 : k < 3 := hx
    rw [kd_k]; omega
  · rw [kd_n]; omega
  · rw [kd_s]; omega
  · rw [kd_a]; omega
  · rw [kd_o]; omega
theorem orderM (hM : MS st vs cs ks ws) (hn : 5000000 < n) : ∀ (d fu : Nat), d ≤ fu → Or vs cs ks st d (fM_order fu n) := by
  intro d
  induction d with
  | zero => intro fu _ x; exact (j0 x).elim
  | succ d ih =>
    intro fu hfu x y a b ha hb hx hy
    obtain ⟨fu, rfl⟩ : ∃ f, fu = f + 1 := ⟨fu - 1, by omega⟩
    obtain ⟨a1, _, a3, _⟩ := ha.g hM
    obtain ⟨b1, _, b3, _⟩ := hb.g hM
    have hka := kd7 hx
    have hkb := kd7 hy
    rw [fM_order, if_neg a1, if_neg b1, a3, b3]
    by_cases hk : kd (d + 1) x = kd (d + 1) y
    · rw [if_pos (by rw [hk])]
      have hr : rk (d + 1) x = rk (d + 1) y := by rw [rk_ok hx, rk_ok hy, hk]
      rcases rk_same hr with ⟨p, q, rfl, rfl, hpq⟩ | ⟨p, q, rfl, rfl⟩ | ⟨p, q, rfl, rfl⟩ | ⟨p, q, rfl, rfl⟩ | ⟨p, q, rfl, rfl⟩
      · have h3 : p < 3 := hx
        have e3 : ∀ c : Nat, c < 256 → (i3 p = i3 c) = (p = c) := fun c hc => i3_eq (by omega) (by omega)
        rw [kd_k, if_neg (show ¬ i3 p = 3 from fun h => by have := (e3 3 (by omega)).mp h; omega), if_neg (show ¬ i3 p = 4 from fun h => by have := (e3 4 (by omega)).mp h; omega), if_neg (show ¬ i3 p = 5 from fun h => by have := (e3 5 (by omega)).mp h; omega), if_neg (show ¬ i3 p = 6 from fun h => by have := (e3 6 (by omega)).mp h; omega), jcmp_k, hpq, Int.sub_self]
        exact ⟨0, rfl, rfl, by omega, by omega⟩
      · rw [kd_n, if_pos (by decide), ha.num hM, hb.num hM, jcmp_n]
        have hp : -9007199254740991 ≤ p ∧ p ≤ 9007199254740991 := hx
        have hq : -9007199254740991 ≤ q ∧ q ≤ 9007199254740991 := hy
        rw [lg_cW (by omega) (by omega) (by omega) (by omega)]
        by_cases c1 : 0 ≤ p - q
        · rw [if_pos (by rw [izs_ge0]; exact c1)]
          by_cases c2 : p - q ≤ 0
          · rw [if_pos (by rw [izs_le0]; exact c2)]
            exact ⟨0, rfl, by rw [show p - q = 0 by omega], by omega, by omega⟩
          · rw [if_neg (by rw [izs_le0]; exact c2)]
            exact ⟨1, rfl, by unfold sg; rw [if_neg (by decide), if_neg (by decide), if_neg (by omega), if_neg (by omega)], by omega, by omega⟩
        · rw [if_neg (by rw [izs_ge0]; exact c1)]
          exact ⟨-1, rfl, by unfold sg; rw [if_pos (by decide), if_pos (by omega)], by omega, by omega⟩
      · rw [kd_s, if_neg (by decide), if_pos (by decide), jcmp_s]
        exact orderS hM (isStr_rep ha) (isStr_rep hb) (ha.szs hM).2 (hb.szs hM).2 p.length n 0 (by omega) (by omega) (by have := (ha.szs hM).2; omega)
      · rw [kd_a, if_neg (by decide), if_neg (by decide), if_pos (by decide), jcmp_a]
        exact orderA hM (ih fu (by omega)) ha hb hx hy p.length n 0 (by omega) (by omega) (by have := (ha.sza hM).2; omega)
      · rw [kd_o, if_neg (by decide), if_neg (by decide), if_neg (by decide), if_pos (by decide), jcmp_o]
        have h1 := (ha.szo hM).2
        have h2 := (hb.szo hM).2
        have hrs : p ≠ [] ∨ q ≠ [] → OrS vs cs st (fM_order fu n) := fun h => by
          have hd0 : d ≠ 0 := fun e => by
            subst e
            rcases h with h | h
            · cases p with
              | nil => exact h rfl
              | cons z _ => exact (j0 z.2).elim
            · cases q with
              | nil => exact h rfl
              | cons z _ => exact (j0 z.2).elim
          obtain ⟨f, rfl⟩ : ∃ f, fu = f + 1 := ⟨fu - 1, by omega⟩
          exact orderS' hM (by omega)
        have := obj1 hM (ih fu (by omega)) hrs ha hb hx hy p.length q.length n 0 none none 0 0 (by omega) (by omega) (by omega) rfl rfl (bh_cnt p) (bh_cnt q) ⟨[], [], rfl, rfl, rfl⟩
        obtain ⟨z, hz, z1, z2, z3⟩ := this
        refine ⟨z, ?_, ?_, z2, z3⟩
        · unfold fM_objects
          rw [show fM_objects_b (fM_order fu n) st n 1 0 0 0 a b = some (iz z) from hz, Option.bind_some]
        · exact z1
    · rw [if_neg (by rw [i3_eq (by omega) (by omega)]; exact hk)]
      have hne : rk (d + 1) x ≠ rk (d + 1) y := by rw [rk_ok hx, rk_ok hy]; exact hk
      rw [jcmp_ne hne, rk_ok hx, rk_ok hy]
      exact i3_dif (by omega) (by omega)
end RDE
