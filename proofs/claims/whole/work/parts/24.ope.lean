section OPE
variable {f g : Nat → Int64} {v u e : Nat} {o o' : Int32} {n fu : Nat} {r : RS}
theorem times_w (hn : 40000 < n) (hfu : e + 1 ≤ fu) {a b : JT (e + 1)} (ha : At f v 0 (jc (e + 1) a)) (hoa : jok (e + 1) a) (hb : At g u 0 (jc (e + 1) b)) (hob : jok (e + 1) b) (hja : jd (e + 1) a ≤ 60) (hr : RV r) (hnn : ¬ (kd (e + 1) a = 3 ∧ kd (e + 1) b = 3)) : OK r (fA_times fu n f (i3 v) o g (i3 u) o' r.1 (i3 r.2.1) r.2.2) (oTimes a b) := by
  have isa : ∀ k, k < 8 → fR_is n 0 (i3 k) f (i3 v) o = some (if kd (e + 1) a = k then 1 else 0) := fun k hk => ha.is hoa hk
  have isb : ∀ k, k < 8 → fR_is n 0 (i3 k) g (i3 u) o' = some (if kd (e + 1) b = k then 1 else 0) := fun k hk => hb.is hob hk
  have a6 := isa 6 (by omega)
  have a4 := isa 4 (by omega)
  have a3 := isa 3 (by omega)
  have b6 := isb 6 (by omega)
  have b4' := isb 4 (by omega)
  have b3' := isb 3 (by omega)
  unfold fA_times
  rw [show (6 : Int32) = i3 6 from rfl, show (4 : Int32) = i3 4 from rfl, show (3 : Int32) = i3 3 from rfl]
  simp only [a6, a4, a3, b6, b4', b3', Option.bind_some]
  by_cases h1 : kd (e + 1) a = 6 ∧ kd (e + 1) b = 6
  · rw [if_pos h1.1, if_neg (by decide), if_pos h1.2, if_neg (by decide)]
    rcases rk_same (show rk (e + 1) a = rk (e + 1) b by rw [rk_ok hoa, rk_ok hob, h1.1, h1.2]) with ⟨x, y, rfl, rfl, _⟩ | ⟨x, y, rfl, rfl⟩ | ⟨x, y, rfl, rfl⟩ | ⟨x, y, rfl, rfl⟩ | ⟨x, y, rfl, rfl⟩
    · rw [jok_k] at hoa; rw [kd_k] at h1; omega
    · rw [kd_n] at h1; omega
    · rw [kd_s] at h1; omega
    · rw [kd_a] at h1; omega
    · obtain ⟨r1, e1, w1⟩ := both_deep (o := o) (o' := o') (n := n) (by omega) e fu 0 0 0 x y r ha hoa hb hob hr hfu (by omega)
      have e2 : fA_putBoth fu n 0 0 1 0 f (i3 v) o g (i3 u) o' r.1 (i3 r.2.1) r.2.2 = some (r1.1, i3 r1.2.1, r1.2.2) := e1
      rw [e2]
      exact OK.val (j := jo (bw (selD e) x y)) rfl w1
  · by_cases h2 : kd (e + 1) a = 4 ∧ kd (e + 1) b = 3
    · obtain ⟨s, rfl⟩ := kds hoa h2.1
      obtain ⟨z, rfl⟩ := kdn hob h2.2
      rw [jok_n] at hob
      have en : fR_number n 0 g (i3 u) o' = some (cW z) := At.num (p := 0) hb hob.1 hob.2
      rw [kd_s, kd_n, if_pos (by decide), if_neg (by decide), if_neg (by decide), en, Option.bind_some]
      exact repeated_w (e := e) (by omega) hob.1 hob.2 ha hr
    · by_cases h3 : kd (e + 1) a = 3 ∧ kd (e + 1) b = 4
      · obtain ⟨s, rfl⟩ := kds hob h3.2
        obtain ⟨z, rfl⟩ := kdn hoa h3.1
        rw [jok_n] at hoa
        have en : fR_number n 0 f (i3 v) o = some (cW z) := At.num (p := 0) ha hoa.1 hoa.2
        rw [kd_s, kd_n, if_pos (by decide), if_pos (by decide), if_neg (by decide), if_neg (by decide), en, Option.bind_some]
        exact repeated_w (e := e) (by omega) hoa.1 hoa.2 hb hr
      · have hres : oTimes a b = .inl 1 := by
          unfold oTimes
          rcases jcases a with ⟨k, rfl⟩ | ⟨z, rfl⟩ | ⟨s, rfl⟩ | ⟨l, rfl⟩ | ⟨l, rfl⟩ <;> rcases jcases b with ⟨k', rfl⟩ | ⟨z', rfl⟩ | ⟨s', rfl⟩ | ⟨l', rfl⟩ | ⟨l', rfl⟩ <;> first | rfl | exact absurd ⟨rfl, rfl⟩ h1 | exact absurd ⟨rfl, rfl⟩ h2 | exact absurd ⟨rfl, rfl⟩ h3
        rw [hres]
        have fin : OK (d := e + 1) r (some ((1 : Int32), r.1, i3 r.2.1, r.2.2)) (.inl 1) := OK.refuse (k := 1) hr (by omega) (by omega)
        have c1 : ∀ P : Prop, [Decidable P] → ((if P then 1 else 0 : Int32) = 0) = ¬ P := fun P _ => by
          by_cases hP : P
          · rw [if_pos hP]; exact propext ⟨fun h => absurd h (by decide), fun h => absurd hP h⟩
          · rw [if_neg hP]; exact propext ⟨fun _ => hP, fun _ => rfl⟩
        simp only [c1]
        by_cases g6 : kd (e + 1) a = 6
        · have : ¬ kd (e + 1) b = 6 := fun h => h1 ⟨g6, h⟩
          have g4 : ¬ kd (e + 1) a = 4 := by omega
          have g3 : ¬ kd (e + 1) a = 3 := by omega
          simp only [g6, this, g4, g3, not_true, not_false_eq_true, if_true, if_false, if_neg, not_false]
          simpa using fin
        · by_cases g4 : kd (e + 1) a = 4
          · have g3 : ¬ kd (e + 1) a = 3 := by omega
            have : ¬ kd (e + 1) b = 3 := fun h => h2 ⟨g4, h⟩
            simpa [g6, g4, g3, this] using fin
          · by_cases g3 : kd (e + 1) a = 3
            · have : ¬ kd (e + 1) b = 4 := fun h => h3 ⟨g3, h⟩
              simpa [g6, g4, g3, this] using fin
            · simpa [g6, g4, g3] using fin
theorem chars_loop {s : Sx} (ha : At f v 0 (strc s)) {r1 : RS} : ∀ (s' : Sx) (n i : Nat) (w : List Int64) (r2 : RS), s.drop i = s' → i + s'.length = s.length → Wr r1 w r2 → s'.length < n →
    ∃ r' : RS, fA_putCharacters_b f (i3 v) o n 1 (i3 i) r2.1 (i3 r2.2.1) r2.2.2 = some (i3 s.length, r'.1, i3 r'.2.1, r'.2.2) ∧ Wr r1 (w ++ s'.flatMap (fun c => strc [c])) r' := by
  have hl := ha.le
  have hlen : ∀ n, fR_length n 0 f (i3 v) o = some (i3 s.length) := fun n => ha.slen
  intro s'
  induction s' with
  | nil =>
    intro n i w r2 _ hi hw hn
    obtain ⟨n, rfl⟩ : ∃ j, n = j + 1 := ⟨n - 1, by omega⟩
    rw [List.length_nil] at hi
    refine ⟨r2, ?_, by rw [List.flatMap_nil, List.append_nil]; exact hw⟩
    rw [fA_putCharacters_b, hlen, Option.bind_some, if_pos (by rw [i3_le (by omega) (by omega)]; omega), Option.bind_some]
  | cons c s' ih =>
    intro n i w r2 hd hi hw hn
    rw [List.length_cons] at hi hn
    obtain ⟨n, rfl⟩ : ∃ j, n = j + 1 := ⟨n - 1, by omega⟩
    obtain ⟨r3, e3, w3⟩ := putPart_w (n := n) (o' := o) hw.v ha (a := i) (b := i + 1) (by omega) (by omega)
    rw [hd, Nat.add_sub_cancel_left, List.take_succ_cons, List.take_zero] at w3
    obtain ⟨r4, e4, w4⟩ := ih n (i + 1) (w ++ strc [c]) r3 (by rw [← List.drop_drop, hd]; rfl) (by omega) (hw.app w3) (by omega)
    refine ⟨r4, ?_, by rw [List.flatMap_cons, ← List.append_assoc]; exact w4⟩
    have e5 : fR_putPart n 0 (i3 i) (i3 (i + 1)) r2.1 (i3 r2.2.1) r2.2.2 f (i3 v) o = some (r3.1, i3 r3.2.1, r3.2.2) := e3
    rw [fA_putCharacters_b, hlen, Option.bind_some, if_neg (by rw [i3_le (by omega) (by omega)]; omega), i3_one, e5, Option.bind_some]
    exact e4
theorem pieces_loop {s t : Sx} (ha : At f v 0 (strc s)) (hs : sok s) (hb : At g u 0 (strc t)) (ht : sok t) {r1 : RS} : ∀ (m n k b c : Nat) (w : List Int64) (r2 : RS), k + m = s.length → b ≤ s.length → Wr r1 w r2 → 4097 + m < n →
    ∃ r' : RS, fA_putPieces_b f (i3 v) o g (i3 u) o' n 1 (i3 k) (i3 b) (i3 c) r2.1 (i3 r2.2.1) r2.2.2 = some (i3 (c + (spl s t m k b).length - 1), r'.1, i3 r'.2.1, r'.2.2) ∧ Wr r1 (w ++ (spl s t m k b).flatMap strc) r' := by
  have hl := ha.le
  have hl2 := hb.le
  have hlen : ∀ n, fR_length n 0 f (i3 v) o = some (i3 s.length) := fun n => ha.slen
  have hlen2 : ∀ n, fR_length n 0 g (i3 u) o' = some (i3 t.length) := fun n => hb.slen
  intro m
  induction m with
  | zero =>
    intro n k b c w r2 hk hb2 hw hn
    obtain ⟨n, rfl⟩ : ∃ j, n = j + 1 := ⟨n - 1, by omega⟩
    obtain ⟨r3, e3, w3⟩ := putPart_w (n := n) (o' := o) hw.v ha (a := b) (b := s.length) hb2 (by omega)
    rw [List.take_of_length_le (by rw [List.length_drop]; omega)] at w3
    have e5 : fR_putPart n 0 (i3 b) (i3 s.length) r2.1 (i3 r2.2.1) r2.2.2 f (i3 v) o = some (r3.1, i3 r3.2.1, r3.2.2) := e3
    refine ⟨r3, ?_, ?_⟩
    · rw [fA_putPieces_b, hlen, Option.bind_some, if_pos (by rw [i3_le (by omega) (by omega)]; omega), Option.bind_some, e5]
      rfl
    · have := hw.app w3
      simpa [spl] using this
  | succ m ih =>
    intro n k b c w r2 hk hb2 hw hn
    obtain ⟨n, rfl⟩ : ∃ j, n = j + 1 := ⟨n - 1, by omega⟩
    rw [fA_putPieces_b, hlen, Option.bind_some, if_neg (by rw [i3_le (by omega) (by omega)]; omega), spl]
    have hp : fR_hasParta n 0 (i3 k) 0 f (i3 v) o g (i3 u) o' = some (if pf t (s.drop k) then 1 else 0) := At.hp (p := 0) (q := 0) (k := k) (by omega) ha hb hs ht (by omega)
    by_cases h1 : b ≤ k
    · rw [if_neg (by rw [i3_lt (by omega) (by omega)]; omega), hp, Option.bind_some]
      by_cases h2 : pf t (s.drop k) = true
      · have hpl := pf_len h2
        rw [List.length_drop] at hpl
        obtain ⟨r3, e3, w3⟩ := putPart_w (n := n) (o' := o) hw.v ha (a := b) (b := k) h1 (by omega)
        have e5 : fR_putPart n 0 (i3 b) (i3 k) r2.1 (i3 r2.2.1) r2.2.2 f (i3 v) o = some (r3.1, i3 r3.2.1, r3.2.2) := e3
        obtain ⟨r4, e4, w4⟩ := ih n (k + 1) (k + t.length) (c + 1) _ r3 (by omega) (by omega) (hw.app w3) (by omega)
        rw [if_pos h2, if_neg (by decide), e5, Option.bind_some, hlen2, Option.bind_some, if_pos ⟨h1, h2⟩, i3_one, i3_one, i3_add]
        refine ⟨r4, ?_, ?_⟩
        · dsimp only
          rw [e4, List.length_cons, show c + 1 + (spl s t m (k + 1) (k + t.length)).length - 1 = c + ((spl s t m (k + 1) (k + t.length)).length + 1) - 1 by omega]
        · rw [List.flatMap_cons, ← List.append_assoc]
          exact w4
      · rw [if_neg h2, if_pos (by decide), if_neg (fun h => h2 h.2), i3_one]
        exact ih n (k + 1) b c w r2 (by omega) hb2 hw (by omega)
    · rw [if_pos (by rw [i3_lt (by omega) (by omega)]; omega), if_neg (fun h => h1 h.1), i3_one]
      exact ih n (k + 1) b c w r2 (by omega) hb2 hw (by omega)
theorem spl_pos {s t : Sx} : ∀ (m k b : Nat), 1 ≤ (spl s t m k b).length := by
  intro m
  induction m with
  | zero => intro k b; exact Nat.le_refl 1
  | succ m ih =>
    intro k b
    rw [spl]
    split
    · rw [List.length_cons]; omega
    · exact ih _ _
theorem spl_len {s t : Sx} : ∀ (m k b : Nat), (spl s t m k b).length ≤ m + 1 := by
  intro m
  induction m with
  | zero => intro k b; exact Nat.le_refl 1
  | succ m ih =>
    intro k b
    rw [spl]
    split
    · have := ih (k + 1) (k + t.length)
      rw [List.length_cons]; omega
    · have := ih (k + 1) b
      omega
theorem pieces_w (hn : 40000 < n) {a b : JT (e + 2)} (ha : At f v 0 (jc (e + 2) a)) (hoa : jok (e + 2) a) (hb : At g u 0 (jc (e + 2) b)) (hob : jok (e + 2) b) (hr : RV r) : OK r (fA_pieces n f (i3 v) o g (i3 u) o' r.1 (i3 r.2.1) r.2.2) (oPieces a b) := by
  have isa : fR_is n 0 (i3 4) f (i3 v) o = some (if kd (e + 2) a = 4 then 1 else 0) := ha.is hoa (by omega)
  have isb : fR_is n 0 (i3 4) g (i3 u) o' = some (if kd (e + 2) b = 4 then 1 else 0) := hb.is hob (by omega)
  unfold fA_pieces
  rw [show (4 : Int32) = i3 4 from rfl, isa, Option.bind_some]
  by_cases h1 : kd (e + 2) a = 4
  · rw [if_pos h1, if_neg (by decide), isb, Option.bind_some]
    by_cases h2 : kd (e + 2) b = 4
    · rw [if_pos h2, if_neg (by decide)]
      rcases rk_same (show rk (e + 2) a = rk (e + 2) b by rw [rk_ok hoa, rk_ok hob, h1, h2]) with ⟨x, y, rfl, rfl, _⟩ | ⟨x, y, rfl, rfl⟩ | ⟨x, y, rfl, rfl⟩ | ⟨x, y, rfl, rfl⟩ | ⟨x, y, rfl, rfl⟩
      · rw [jok_k] at hoa; rw [kd_k] at h1; omega
      · rw [kd_n] at h1; omega
      · have ha' : At f v 0 (strc x) := ha
        have hb' : At g u 0 (strc y) := hb
        have hl := ha'.le
        have hl2 := hb'.le
        have hlen : fR_length n 0 f (i3 v) o = some (i3 x.length) := ha'.slen
        have hlen2 : fR_length n 0 g (i3 u) o' = some (i3 y.length) := hb'.slen
        obtain ⟨r1, e1, w1⟩ := open_w (n := n) hr
        have fm : ∀ l : List Sx, (l.map (fun x => (js x : JT (e + 1)))).flatMap (jc (e + 1)) = l.flatMap strc := fun l => by
          rw [List.flatMap_map]
          rfl
        have fin : ∀ (l : List Sx) (r2 : RS), l.length < 65536 → Wr r1 (l.flatMap strc) r2 → OK r ((fR_close n (i3 r1.2.1 - 1) 5 (i3 l.length) r2.1 (i3 r2.2.1) r2.2.2).bind fun o16 => some ((0 : Int32), o16, i3 r2.2.1, r2.2.2)) (.inr (ja (l.map (fun x => (js x : JT (e + 1)))))) := fun l r2 hll w2 => by
          obtain ⟨f3, e3, w3⟩ := close_w (n := n) (k := 5) (len := l.length) w1 w2 (by omega) (fun _ => hll)
          rw [show (5 : Int32) = i3 5 from rfl, e3]
          refine OK.val (r' := (f3, r2.2.1, r2.2.2)) rfl ?_
          rw [jc_a, List.length_map, fm]
          exact w3
        rw [e1, Option.bind_some, hlen2, Option.bind_some]
        have hres : oPieces (js x : JT (e + 2)) (js y) = .inr (ja ((pcs x y).map (fun x => (js x : JT (e + 1))))) := rfl
        rw [hres]
        by_cases hy : y = []
        · subst hy
          obtain ⟨r2, e2, w2⟩ := chars_loop (o := o) (r1 := r1) ha' x n 0 [] r1 rfl (by omega) (Wr.nil w1.v) (by omega)
          have e3 : fA_putCharacters n f (i3 v) o r1.1 (i3 r1.2.1) r1.2.2 = some (i3 x.length, r2.1, i3 r2.2.1, r2.2.2) := e2
          rw [if_pos (by rfl)]
          dsimp only
          rw [e3, Option.bind_some]
          have hp : pcs x [] = x.map (fun c => [c]) := if_pos rfl
          rw [hp]
          have := fin (x.map (fun c => [c])) r2 (by rw [List.length_map]; omega) (by rw [List.flatMap_map]; exact w2)
          rw [List.length_map] at this
          exact this
        · have hyl : y.length ≠ 0 := fun h => hy (List.length_eq_zero_iff.mp h)
          rw [if_neg (by rw [show (0 : Int32) = i3 0 from rfl, i3_eq (by omega) (by omega)]; exact hyl)]
          unfold fA_putPieces
          dsimp only
          rw [hlen, Option.bind_some]
          by_cases hx : x = []
          · subst hx
            rw [if_pos (by rfl), Option.bind_some]
            have hp : pcs [] y = [] := by unfold pcs; rw [if_neg hy, if_pos rfl]
            rw [hp]
            exact fin [] r1 (by simp) (Wr.nil w1.v)
          · have hxl : x.length ≠ 0 := fun h => hx (List.length_eq_zero_iff.mp h)
            obtain ⟨r2, e2, w2⟩ := pieces_loop (o := o) (o' := o') (r1 := r1) ha' hoa hb' hob x.length n 0 0 1 [] r1 (by omega) (by omega) (Wr.nil w1.v) (by omega)
            have e3 : fA_putPieces_b f (i3 v) o g (i3 u) o' n 1 0 0 1 r1.1 (i3 r1.2.1) r1.2.2 = some (i3 (1 + (spl x y x.length 0 0).length - 1), r2.1, i3 r2.2.1, r2.2.2) := e2
            rw [if_neg (by rw [show (0 : Int32) = i3 0 from rfl, i3_eq (by omega) (by omega)]; exact hxl), e3, Option.bind_some]
            have hp : pcs x y = spl x y x.length 0 0 := by unfold pcs; rw [if_neg hy, if_neg hx]
            rw [hp, Nat.add_sub_cancel_left]
            have := spl_len (s := x) (t := y) x.length 0 0
            exact fin _ r2 (by omega) w2
      · rw [kd_a] at h1; omega
      · rw [kd_o] at h1; omega
    · rw [if_neg h2, if_pos (by decide)]
      have : oPieces a b = .inl 1 := by
        unfold oPieces
        rcases jcases a with ⟨k, rfl⟩ | ⟨z, rfl⟩ | ⟨s, rfl⟩ | ⟨l, rfl⟩ | ⟨l, rfl⟩ <;> rcases jcases b with ⟨k', rfl⟩ | ⟨z', rfl⟩ | ⟨s', rfl⟩ | ⟨l', rfl⟩ | ⟨l', rfl⟩ <;> first | rfl | exact absurd rfl h2
      rw [this]
      exact OK.refuse (k := 1) hr (by omega) (by omega)
  · rw [if_neg h1, if_pos (by decide)]
    have : oPieces a b = .inl 1 := by
      unfold oPieces
      rcases jcases a with ⟨k, rfl⟩ | ⟨z, rfl⟩ | ⟨s, rfl⟩ | ⟨l, rfl⟩ | ⟨l, rfl⟩ <;> first | rfl | exact absurd rfl h1
    rw [this]
    exact OK.refuse (k := 1) hr (by omega) (by omega)
end OPE
