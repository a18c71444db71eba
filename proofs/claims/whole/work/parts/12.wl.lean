/-! ===== the printer over lists ===== -/
def Wo (t : TS) (w : List Int32) (ok : Prop) (t' : TS) : Prop := RV t' ∧ (ok → Wr t w t') ∧ (¬ ok → t'.2.2 = 1)
theorem Wr.stick {α : Type} {t t' : BS α} {w : List α} (h : Wr t w t') (h1 : t.2.2 = 1) : t'.2.2 = 1 := by
  obtain ⟨_, h⟩ := h
  rcases h with ⟨a, _⟩ | ⟨_, b⟩
  · rw [h1] at a
    exact absurd a (by decide)
  · exact b
theorem Wr.wo {t t' : TS} {w : List Int32} (h : Wr t w t') : Wo t w True t' := ⟨h.1, fun _ => h, fun h => absurd trivial h⟩
theorem Wo.stick {t t' : TS} {w : List Int32} {ok : Prop} (h : Wo t w ok t') (h1 : t.2.2 = 1) : t'.2.2 = 1 := by
  by_cases hk : ok
  · exact (h.2.1 hk).stick h1
  · exact h.2.2 hk
theorem Wo.app {t t1 t2 : TS} {a b : List Int32} {A B : Prop} (h1 : Wo t a A t1) (h2 : Wo t1 b B t2) : Wo t (a ++ b) (A ∧ B) t2 := by
  refine ⟨h2.1, fun h => (h1.2.1 h.1).app (h2.2.1 h.2), fun h => ?_⟩
  by_cases hA : A
  · exact h2.2.2 (fun hB => h ⟨hA, hB⟩)
  · exact h2.stick (h1.2.2 hA)
theorem Wo.cong {t t' : TS} {w : List Int32} {A B : Prop} (h : Wo t w A t') (hab : A ↔ B) : Wo t w B t' := ⟨h.1, fun b => h.2.1 (hab.mpr b), fun b => h.2.2 (fun a => b (hab.mp a))⟩
theorem cj_map {α : Type} {g : α → List Nat} {x : List Nat} {l : List α} : cj (x :: l.map g) = x ++ l.flatMap (fun y => 44 :: g y) := by
  show x ++ (l.map g).flatMap _ = _
  rw [List.flatMap_map]
theorem b3 {α β γ : Type} {o : Option (α × β × γ)} {x : α × β × γ} (h : o = some x) : (o.bind fun y => some (y.1, y.2.1, y.2.2)) = some x := by
  rw [h]
  rfl
abbrev RecW : Type := Int32 → Int32 → (Nat → Int64) → Int32 → Int32 → (Nat → Int32) → Int32 → Int32 → Option ((Nat → Int32) × Int32 × Int32)
section WL
variable {f : Nat → Int64} {p v k e : Nat} {o : Int32} {rec : RecW}
theorem wl_a (hk : k < 60) {l : List (JT e)} (hl : l.length < 65536) (hlen : ∀ n, fR_length n (i3 p) f (i3 v) o = some (i3 l.length)) : ∀ (l' : List (JT e)) (n i q : Nat) (t : TS), (∀ x ∈ l', jok e x) → (∀ x ∈ l', ∀ q t, At f v q (jc e x) → RV t → ∃ t' : TS, rec (i3 q) (i3 (k + 1)) f (i3 v) o t.1 (i3 t.2.1) t.2.2 = some (t'.1, i3 t'.2.1, t'.2.2) ∧ Wo t ((jt e x).map sb) (jd e x + (k + 1) ≤ 60) t') → i + l'.length = l.length → At f v q (l'.flatMap (jc e)) → l'.length < n → RV t →
    ∃ t' : TS, fP_writeList_b rec f (i3 v) o n 1 (i3 i) (i3 q) 0 (i3 p) (i3 k) t.1 (i3 t.2.1) t.2.2 = some (t'.1, i3 t'.2.1, t'.2.2) ∧ Wo t (((if i = 0 then cj (l'.map (jt e)) else l'.flatMap (fun x => 44 :: jt e x)) ++ [93]).map sb) (∀ x ∈ l', jd e x + (k + 1) ≤ 60) t' := by
  intro l'
  induction l' with
  | nil =>
    intro n i q t _ _ hi _ hn ht
    rw [List.length_nil] at hi
    obtain ⟨n, rfl⟩ : ∃ j, n = j + 1 := ⟨n - 1, by omega⟩
    obtain ⟨t1, e1, g1⟩ := add_c (n := n) ht (c := 93) (by omega)
    refine ⟨t1, ?_, ?_⟩
    · rw [fP_writeList_b, hlen, Option.bind_some, if_pos (by rw [i3_le (by omega) (by omega)]; omega), if_pos rfl, show (93 : Int32) = i3 93 from rfl, e1]
      rfl
    · have : (if i = 0 then cj ([].map (jt e)) else [].flatMap (fun x => 44 :: jt e x)) = [] := by split <;> rfl
      rw [this]
      exact g1.wo.cong (by simp)
  | cons x l' ih =>
    intro n i q t hok hrec hi hat hn ht
    rw [List.length_cons] at hi hn
    obtain ⟨n, rfl⟩ : ∃ j, n = j + 1 := ⟨n - 1, by omega⟩
    obtain ⟨at1, at2⟩ := hat.acons
    have hx := hok x (List.mem_cons_self ..)
    by_cases h0 : i = 0
    · subst h0
      obtain ⟨t1, e1, g1⟩ := hrec x (List.mem_cons_self ..) q t at1 ht
      obtain ⟨t2, e2, g2⟩ := ih n 1 _ t1 (fun y hy => hok y (List.mem_cons_of_mem _ hy)) (fun y hy => hrec y (List.mem_cons_of_mem _ hy)) (by omega) at2 (by omega) g1.1
      refine ⟨t2, ?_, ?_⟩
      · rw [fP_writeList_b, hlen, Option.bind_some, if_neg (by rw [i3_le (by omega) (by omega)]; omega), if_pos (by decide), if_pos rfl, i3_one, e1, Option.bind_some, at1.after hx, Option.bind_some]
        exact e2
      · rw [if_pos rfl]
        rw [if_neg (by omega)] at g2
        have g3 := g1.app g2
        rw [← List.map_append, ← List.append_assoc] at g3
        rw [List.map_cons, cj_map]
        exact g3.cong (by simp)
    · obtain ⟨t0, e0, g0⟩ := add_c (n := n) ht (c := 44) (by omega)
      obtain ⟨t1, e1, g1⟩ := hrec x (List.mem_cons_self ..) q t0 at1 g0.v
      obtain ⟨t2, e2, g2⟩ := ih n (i + 1) _ t1 (fun y hy => hok y (List.mem_cons_of_mem _ hy)) (fun y hy => hrec y (List.mem_cons_of_mem _ hy)) (by omega) at2 (by omega) g1.1
      refine ⟨t2, ?_, ?_⟩
      · rw [fP_writeList_b, hlen, Option.bind_some, if_neg (by rw [i3_le (by omega) (by omega)]; omega), if_neg (by rw [show (0 : Int32) = i3 0 from rfl, i3_le (by omega) (by omega)]; omega), show (44 : Int32) = i3 44 from rfl, e0, Option.bind_some, if_pos rfl]
        dsimp only
        rw [i3_one, e1, Option.bind_some, at1.after hx, Option.bind_some, i3_one]
        exact e2
      · rw [if_neg h0]
        rw [if_neg (by omega)] at g2
        have g3 := (g0.wo.app g1).app g2
        rw [List.flatMap_cons, List.append_assoc, List.map_append]
        exact g3.cong (by simp)
theorem wl_o (hk : k < 60) {l : List (Sx × JT e)} (hl : l.length < 65536) (hlen : ∀ n, fR_length n (i3 p) f (i3 v) o = some (i3 l.length)) : ∀ (l' : List (Sx × JT e)) (n i q : Nat) (t : TS), (∀ x ∈ l', sok x.1 ∧ jok e x.2) → (∀ x ∈ l', ∀ q t, At f v q (jc e x.2) → RV t → ∃ t' : TS, rec (i3 q) (i3 (k + 1)) f (i3 v) o t.1 (i3 t.2.1) t.2.2 = some (t'.1, i3 t'.2.1, t'.2.2) ∧ Wo t ((jt e x.2).map sb) (jd e x.2 + (k + 1) ≤ 60) t') → i + l'.length = l.length → At f v q (l'.flatMap (fun x => strc x.1 ++ jc e x.2)) → 4097 + l'.length < n → RV t →
    ∃ t' : TS, fP_writeList_b rec f (i3 v) o n 1 (i3 i) (i3 q) 1 (i3 p) (i3 k) t.1 (i3 t.2.1) t.2.2 = some (t'.1, i3 t'.2.1, t'.2.2) ∧ Wo t (((if i = 0 then cj (l'.map (fun x : Sx × JT e => qt x.1 ++ 58 :: jt e x.2)) else l'.flatMap (fun x : Sx × JT e => 44 :: (qt x.1 ++ 58 :: jt e x.2))) ++ [125]).map sb) (∀ x ∈ l', jd e x.2 + (k + 1) ≤ 60) t' := by
  intro l'
  induction l' with
  | nil =>
    intro n i q t _ _ hi _ hn ht
    rw [List.length_nil] at hi
    obtain ⟨n, rfl⟩ : ∃ j, n = j + 1 := ⟨n - 1, by omega⟩
    obtain ⟨t1, e1, g1⟩ := add_c (n := n) ht (c := 125) (by omega)
    refine ⟨t1, ?_, ?_⟩
    · rw [fP_writeList_b, hlen, Option.bind_some, if_pos (by rw [i3_le (by omega) (by omega)]; omega), if_neg (by decide), show (125 : Int32) = i3 125 from rfl, e1]
      rfl
    · have : (if i = 0 then cj ([].map (fun x : Sx × JT e => qt x.1 ++ 58 :: jt e x.2)) else [].flatMap (fun x : Sx × JT e => 44 :: (qt x.1 ++ 58 :: jt e x.2))) = [] := by split <;> rfl
      rw [this]
      exact g1.wo.cong (by simp)
  | cons x l' ih =>
    intro n i q t hok hrec hi hat hn ht
    rw [List.length_cons] at hi hn
    obtain ⟨n, rfl⟩ : ∃ j, n = j + 1 := ⟨n - 1, by omega⟩
    obtain ⟨at0, at1, at2⟩ := hat.ocons
    obtain ⟨hs, hx⟩ := hok x (List.mem_cons_self ..)
    by_cases h0 : i = 0
    · subst h0
      obtain ⟨t1, e1, g1⟩ := writeString_w (n := n) (o := o) at0 hs (by omega) ht
      obtain ⟨t2, e2, g2⟩ := add_c (n := n) g1.v (c := 58) (by omega)
      obtain ⟨t3, e3, g3⟩ := hrec x (List.mem_cons_self ..) _ t2 at1 g2.v
      obtain ⟨t4, e4, g4⟩ := ih n 1 _ t3 (fun y hy => hok y (List.mem_cons_of_mem _ hy)) (fun y hy => hrec y (List.mem_cons_of_mem _ hy)) (by omega) at2 (by omega) g3.1
      refine ⟨t4, ?_, ?_⟩
      · rw [fP_writeList_b, hlen, Option.bind_some, if_neg (by rw [i3_le (by omega) (by omega)]; omega), if_pos (by decide), if_neg (by decide), e1, Option.bind_some]
        dsimp only
        rw [show (58 : Int32) = i3 58 from rfl, e2, Option.bind_some, at0.safter, Option.bind_some]
        dsimp only
        rw [i3_one, e3, Option.bind_some, at1.after hx, Option.bind_some]
        exact e4
      · rw [if_pos rfl]
        rw [if_neg (by omega)] at g4
        have g5 := ((g1.wo.app g2.wo).app g3).app g4
        rw [List.map_cons, cj_map]
        rw [List.append_assoc, List.map_append, List.map_append, List.map_cons]
        rw [List.append_assoc] at g5
        simp only [List.append_assoc, List.singleton_append, List.cons_append, List.nil_append] at g5 ⊢
        exact g5.cong (by simp)
    · obtain ⟨t0, e0, g0⟩ := add_c (n := n) ht (c := 44) (by omega)
      obtain ⟨t1, e1, g1⟩ := writeString_w (n := n) (o := o) at0 hs (by omega) g0.v
      obtain ⟨t2, e2, g2⟩ := add_c (n := n) g1.v (c := 58) (by omega)
      obtain ⟨t3, e3, g3⟩ := hrec x (List.mem_cons_self ..) _ t2 at1 g2.v
      obtain ⟨t4, e4, g4⟩ := ih n (i + 1) _ t3 (fun y hy => hok y (List.mem_cons_of_mem _ hy)) (fun y hy => hrec y (List.mem_cons_of_mem _ hy)) (by omega) at2 (by omega) g3.1
      refine ⟨t4, ?_, ?_⟩
      · rw [fP_writeList_b, hlen, Option.bind_some, if_neg (by rw [i3_le (by omega) (by omega)]; omega), if_neg (by rw [show (0 : Int32) = i3 0 from rfl, i3_le (by omega) (by omega)]; omega), show (44 : Int32) = i3 44 from rfl, e0, Option.bind_some, if_neg (by decide)]
        dsimp only
        rw [e1, Option.bind_some]
        dsimp only
        rw [show (58 : Int32) = i3 58 from rfl, e2, Option.bind_some, at0.safter, Option.bind_some]
        dsimp only
        rw [i3_one, e3, Option.bind_some, at1.after hx, Option.bind_some, i3_one]
        exact e4
      · rw [if_neg h0]
        rw [if_neg (by omega)] at g4
        have g5 := (((g0.wo.app g1.wo).app g2.wo).app g3).app g4
        rw [List.flatMap_cons]
        simp only [List.append_assoc, List.singleton_append, List.cons_append, List.nil_append, List.map_append, List.map_cons] at g5 ⊢
        exact g5.cong (by simp)
end WL
theorem write_w {n : Nat} (hn : 10000 < n) : ∀ (e d : Nat) (j : JT e) (f : Nat → Int64) (p v k : Nat) (o : Int32) (t : TS), jok e j → At f v p (jc e j) → e ≤ d → k ≤ 61 → RV t → ∃ t' : TS, fP_write d n (i3 p) (i3 k) f (i3 v) o t.1 (i3 t.2.1) t.2.2 = some (t'.1, i3 t'.2.1, t'.2.2) ∧ Wo t ((jt e j).map sb) (kd e j < 5 ∨ jd e j + k ≤ 60) t' := by
  intro e
  induction e with
  | zero => exact fun d j => (j0 j).elim
  | succ e ih =>
    intro d j f p v k o t hok hat hd hk ht
    obtain ⟨d, rfl⟩ : ∃ m, d = m + 1 := ⟨d - 1, by omega⟩
    have hw := word_w (n := n) ht
    rw [fP_write, hat.kind hok, Option.bind_some, show (0 : Int32) = i3 0 from rfl, show (1 : Int32) = i3 1 from rfl, show (2 : Int32) = i3 2 from rfl, show (3 : Int32) = i3 3 from rfl, show (4 : Int32) = i3 4 from rfl]
    rcases jcases j with ⟨c, rfl⟩ | ⟨z, rfl⟩ | ⟨s, rfl⟩ | ⟨l, rfl⟩ | ⟨l, rfl⟩
    · rw [jok_k] at hok
      rw [kd_k, jt_k]
      obtain rfl | rfl | rfl : c = 0 ∨ c = 1 ∨ c = 2 := by omega
      · obtain ⟨t', e1, g1⟩ := hw.1
        rw [if_pos rfl, e1]
        exact ⟨t', rfl, g1.wo.cong (by simp)⟩
      · obtain ⟨t', e1, g1⟩ := hw.2.1
        rw [if_neg (by decide), if_pos rfl, e1]
        exact ⟨t', rfl, g1.wo.cong (by simp)⟩
      · obtain ⟨t', e1, g1⟩ := hw.2.2
        rw [if_neg (by decide), if_neg (by decide), if_pos rfl, e1]
        exact ⟨t', rfl, g1.wo.cong (by simp)⟩
    · rw [jok_n] at hok
      obtain ⟨t', e1, g1⟩ := addNumber_w (n := n) (by omega) ht hok.1 hok.2
      rw [kd_n, jt_n, if_neg (by decide), if_neg (by decide), if_neg (by decide), if_pos rfl, hat.num hok.1 hok.2, Option.bind_some, e1]
      exact ⟨t', rfl, g1.wo.cong (by simp)⟩
    · rw [jok_s] at hok
      obtain ⟨t', e1, g1⟩ := writeString_w (n := n) (o := o) hat hok (by omega) ht
      rw [kd_s, jt_s, if_neg (by decide), if_neg (by decide), if_neg (by decide), if_neg (by decide), if_pos rfl, e1]
      exact ⟨t', rfl, g1.wo.cong (by simp)⟩
    · have hsz := hat.asz
      rw [kd_a, jt_a, if_neg (by decide), if_neg (by decide), if_neg (by decide), if_neg (by decide), if_neg (by decide)]
      unfold fP_writeList
      by_cases h60 : k < 60
      · obtain ⟨t1, e1, g1⟩ := add_c (n := n) ht (c := 91) (by omega)
        obtain ⟨t2, e2, g2⟩ := wl_a (rec := fP_write d n) h60 (l := l) (by omega) (fun n => hat.alen (o := o)) l n 0 (p + 1) t1 hok (fun x hx q t hq hr => by
          obtain ⟨t', e3, g3⟩ := ih d x f q v (k + 1) o t (hok x hx) hq (by omega) (by omega) hr
          refine ⟨t', e3, g3.cong ⟨fun h => ?_, fun h => Or.inr h⟩⟩
          rcases h with h | h
          · cases e with
            | zero => exact (j0 x).elim
            | succ e =>
              rcases jcases x with ⟨c, rfl⟩ | ⟨z, rfl⟩ | ⟨s, rfl⟩ | ⟨l, rfl⟩ | ⟨l, rfl⟩
              · rw [jd_k]; omega
              · rw [jd_n]; omega
              · rw [jd_s]; omega
              · rw [kd_a] at h; omega
              · rw [kd_o] at h; omega
          · exact h) (by omega) hat.abody (by omega) g1.v
        refine ⟨t2, ?_, ?_⟩
        · rw [if_pos (by rw [show (60 : Int32) = i3 60 from rfl, i3_lt (by omega) (by omega)]; exact h60), show (6 : Int32) = i3 6 from rfl, hat.is hok (by omega), kd_a, if_neg (by decide), Option.bind_some, if_pos rfl, show (91 : Int32) = i3 91 from rfl, e1, Option.bind_some, i3_one]
          exact b3 e2
        · have g3 := g1.wo.app g2
          rw [if_pos rfl] at g3
          refine g3.cong ?_
          rw [show jd (e + 1) (ja l) + k ≤ 60 ↔ jd (e + 1) (ja l) ≤ (59 - k) + 1 by omega, jd_a_le]
          refine ⟨fun h => Or.inr (fun x hx => by have := h.2 x hx; omega), fun h => ⟨trivial, fun x hx => ?_⟩⟩
          rcases h with h | h
          · omega
          · have := h x hx
            omega
      · rw [if_neg (by rw [show (60 : Int32) = i3 60 from rfl, i3_lt (by omega) (by omega)]; exact h60)]
        unfold fT_setOver
        refine ⟨(t.1, t.2.1, 1), rfl, ⟨⟨ht.1, Or.inr rfl⟩, fun h => ?_, fun _ => rfl⟩⟩
        have := jd_a_pos (l := l)
        omega
    · have hsz := hat.osz
      rw [kd_o, jt_o, if_neg (by decide), if_neg (by decide), if_neg (by decide), if_neg (by decide), if_neg (by decide)]
      unfold fP_writeList
      by_cases h60 : k < 60
      · obtain ⟨t1, e1, g1⟩ := add_c (n := n) ht (c := 123) (by omega)
        obtain ⟨t2, e2, g2⟩ := wl_o (rec := fP_write d n) h60 (l := l) (by omega) (fun n => hat.olen (o := o)) l n 0 (p + 1) t1 hok.1 (fun x hx q t hq hr => by
          obtain ⟨t', e3, g3⟩ := ih d x.2 f q v (k + 1) o t (hok.1 x hx).2 hq (by omega) (by omega) hr
          refine ⟨t', e3, g3.cong ⟨fun h => ?_, fun h => Or.inr h⟩⟩
          obtain ⟨x1, x⟩ := x
          simp only at *
          rcases h with h | h
          · cases e with
            | zero => exact (j0 x).elim
            | succ e =>
              rcases jcases x with ⟨c, rfl⟩ | ⟨z, rfl⟩ | ⟨s, rfl⟩ | ⟨l, rfl⟩ | ⟨l, rfl⟩
              · rw [jd_k]; omega
              · rw [jd_n]; omega
              · rw [jd_s]; omega
              · rw [kd_a] at h; omega
              · rw [kd_o] at h; omega
          · exact h) (by omega) hat.obody (by omega) g1.v
        refine ⟨t2, ?_, ?_⟩
        · rw [if_pos (by rw [show (60 : Int32) = i3 60 from rfl, i3_lt (by omega) (by omega)]; exact h60), show (6 : Int32) = i3 6 from rfl, hat.is hok (by omega), kd_o, if_pos rfl, Option.bind_some, if_neg (by decide), show (123 : Int32) = i3 123 from rfl, e1, Option.bind_some, i3_one]
          exact b3 e2
        · have g3 := g1.wo.app g2
          rw [if_pos rfl] at g3
          refine g3.cong ?_
          rw [show jd (e + 1) (jo l) + k ≤ 60 ↔ jd (e + 1) (jo l) ≤ (59 - k) + 1 by omega, jd_o_le]
          refine ⟨fun h => Or.inr (fun x hx => by have := h.2 x hx; omega), fun h => ⟨trivial, fun x hx => ?_⟩⟩
          rcases h with h | h
          · omega
          · have := h x hx
            omega
      · rw [if_neg (by rw [show (60 : Int32) = i3 60 from rfl, i3_lt (by omega) (by omega)]; exact h60)]
        unfold fT_setOver
        refine ⟨(t.1, t.2.1, 1), rfl, ⟨⟨ht.1, Or.inr rfl⟩, fun h => ?_, fun _ => rfl⟩⟩
        have := jd_o_pos (l := l)
        omega
