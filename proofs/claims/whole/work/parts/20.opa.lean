/-! ===== what the operators make ===== -/
def bv {α : Type} (sel : α → α → α) (m : List (Sx × α)) (p : Sx × α) : Sx × α := (p.1, match lu p.1 m with | none => p.2 | some y => sel p.2 y)
def bn {α : Type} (l m : List (Sx × α)) : List (Sx × α) := m.filter (fun p => (lu p.1 l).isNone)
def bw {α : Type} (sel : α → α → α) (l m : List (Sx × α)) : List (Sx × α) := l.map (bv sel m) ++ bn l m
def selD : (e : Nat) → JT e → JT e → JT e
  | 0, x, _ => x
  | e + 1, .inr (.inr l), .inr (.inr m) => .inr (.inr (bw (selD e) l m))
  | _ + 1, _, y => y
theorem selD_o {e : Nat} {l m : List (Sx × JT e)} : selD (e + 1) (jo l) (jo m) = jo (bw (selD e) l m) := rfl
theorem selD_n {e : Nat} {x y : JT (e + 1)} (h : kd (e + 1) x ≠ 6 ∨ kd (e + 1) y ≠ 6) (hx : jok (e + 1) x) (hy : jok (e + 1) y) : selD (e + 1) x y = y := by
  rcases jcases x with ⟨k, rfl⟩ | ⟨z, rfl⟩ | ⟨s, rfl⟩ | ⟨l, rfl⟩ | ⟨l, rfl⟩
  · rfl
  · rfl
  · rfl
  · rfl
  · rcases jcases y with ⟨k, rfl⟩ | ⟨z, rfl⟩ | ⟨s, rfl⟩ | ⟨l', rfl⟩ | ⟨l', rfl⟩
    · rfl
    · rfl
    · rfl
    · rfl
    · rcases h with h | h <;> exact absurd rfl h
section KD
variable {e : Nat} {a : JT (e + 1)}
theorem kdn (ho : jok (e + 1) a) (h : kd (e + 1) a = 3) : ∃ z, a = jn z := by
  rcases jcases a with ⟨c, rfl⟩ | ⟨c, rfl⟩ | ⟨c, rfl⟩ | ⟨c, rfl⟩ | ⟨c, rfl⟩
  · rw [jok_k] at ho; rw [kd_k] at h; omega
  · exact ⟨c, rfl⟩
  · rw [kd_s] at h; omega
  · rw [kd_a] at h; omega
  · rw [kd_o] at h; omega
theorem kds (ho : jok (e + 1) a) (h : kd (e + 1) a = 4) : ∃ z, a = js z := by
  rcases jcases a with ⟨c, rfl⟩ | ⟨c, rfl⟩ | ⟨c, rfl⟩ | ⟨c, rfl⟩ | ⟨c, rfl⟩
  · rw [jok_k] at ho; rw [kd_k] at h; omega
  · rw [kd_n] at h; omega
  · exact ⟨c, rfl⟩
  · rw [kd_a] at h; omega
  · rw [kd_o] at h; omega
theorem kda (ho : jok (e + 1) a) (h : kd (e + 1) a = 5) : ∃ z, a = ja z := by
  rcases jcases a with ⟨c, rfl⟩ | ⟨c, rfl⟩ | ⟨c, rfl⟩ | ⟨c, rfl⟩ | ⟨c, rfl⟩
  · rw [jok_k] at ho; rw [kd_k] at h; omega
  · rw [kd_n] at h; omega
  · rw [kd_s] at h; omega
  · exact ⟨c, rfl⟩
  · rw [kd_o] at h; omega
theorem kdo (ho : jok (e + 1) a) (h : kd (e + 1) a = 6) : ∃ z, a = jo z := by
  rcases jcases a with ⟨c, rfl⟩ | ⟨c, rfl⟩ | ⟨c, rfl⟩ | ⟨c, rfl⟩ | ⟨c, rfl⟩
  · rw [jok_k] at ho; rw [kd_k] at h; omega
  · rw [kd_n] at h; omega
  · rw [kd_s] at h; omega
  · rw [kd_a] at h; omega
  · exact ⟨c, rfl⟩
theorem kdk (ho : jok (e + 1) a) (h : kd (e + 1) a < 3) : a = jk (kd (e + 1) a) := by
  rcases jcases a with ⟨c, rfl⟩ | ⟨c, rfl⟩ | ⟨c, rfl⟩ | ⟨c, rfl⟩ | ⟨c, rfl⟩
  · rfl
  · rw [kd_n] at h; omega
  · rw [kd_s] at h; omega
  · rw [kd_a] at h; omega
  · rw [kd_o] at h; omega
end KD
abbrev oc {d : Nat} (p : Sx × JT d) : List Int64 := strc p.1 ++ jc d p.2
theorem lu_mem {α : Type} {s : Sx} : ∀ {l : List (Sx × α)} {x : α}, lu s l = some x → (s, x) ∈ l := by
  intro l
  induction l with
  | nil => intro x h; exact absurd h (by simp [lu])
  | cons p l ih =>
    intro x h
    rw [lu] at h
    by_cases hp : p.1 = s
    · rw [if_pos hp] at h
      obtain rfl := Option.some.inj h
      rw [← hp]
      exact List.mem_cons_self ..
    · rw [if_neg hp] at h
      exact List.mem_cons_of_mem _ (ih h)
theorem lu_none {α : Type} {s : Sx} : ∀ {l : List (Sx × α)}, lu s l = none ↔ s ∉ l.map (fun p => p.1) := by
  intro l
  induction l with
  | nil => simp [lu]
  | cons p l ih =>
    rw [lu, List.map_cons, List.mem_cons]
    by_cases hp : p.1 = s
    · rw [if_pos hp]
      simp [hp]
    · rw [if_neg hp, ih]
      simp [Ne.symm hp]
section OW
variable {f g : Nat → Int64} {p q v u e : Nat} {o o' : Int32}
theorem At.isT {n d k : Nat} {j : JT d} (h : At f v p (jc d j)) (hok : jok d j) (hk : kd d j = k) : fR_is n (i3 p) (i3 k) f (i3 v) o = some 1 := by
  have := kd_lt8 hok
  rw [h.is hok (by omega), if_pos hk]
theorem At.isF {n d k : Nat} {j : JT d} (h : At f v p (jc d j)) (hok : jok d j) (hk8 : k < 8) (hk : kd d j ≠ k) : fR_is n (i3 p) (i3 k) f (i3 v) o = some 0 := by
  rw [h.is hok (by omega), if_neg hk]
theorem nn_loop2 {l : List (Sx × JT e)} (ha : At f v p (jc (e + 1) (jo l))) (hoa : jok (e + 1) (jo l)) {tot : Nat} (ht : tot < 65536) (hlen : ∀ n, fR_length n (i3 q) g (i3 u) o' = some (i3 tot)) : ∀ (m : List (Sx × JT e)) (n i s c : Nat) (r : RS), (∀ x ∈ m, sok x.1 ∧ jok e x.2) → i + m.length = tot → At g u s (m.flatMap oc) → RV r → 8300 + m.length < n →
    ∃ r' : RS, fA_putNewNames_b f (i3 v) o g (i3 u) o' n 1 (i3 i) (i3 s) (i3 c) (i3 p) (i3 q) r.1 (i3 r.2.1) r.2.2 = some (i3 (c + (m.filter (fun x => (lu x.1 l).isNone)).length), r'.1, i3 r'.2.1, r'.2.2) ∧ Wr r ((m.filter (fun x => (lu x.1 l).isNone)).flatMap oc) r' := by
  intro m
  induction m with
  | nil =>
    intro n i s c r _ hi _ hr hn
    obtain ⟨n, rfl⟩ : ∃ j, n = j + 1 := ⟨n - 1, by omega⟩
    rw [List.length_nil] at hi
    refine ⟨r, ?_, Wr.nil hr⟩
    rw [fA_putNewNames_b, hlen, Option.bind_some, if_pos (by rw [i3_le (by omega) (by omega)]; omega)]
    rfl
  | cons x m ih =>
    intro n i s c r hok hi hat hr hn
    obtain ⟨n, rfl⟩ : ∃ j, n = j + 1 := ⟨n - 1, by omega⟩
    rw [List.length_cons] at hi hn
    obtain ⟨at1, at2, at3⟩ := At.ocons hat
    obtain ⟨hs, hx⟩ := hok x (List.mem_cons_self ..)
    rw [fA_putNewNames_b, hlen, Option.bind_some, if_neg (by rw [i3_le (by omega) (by omega)]; omega), at1.safter, Option.bind_some]
    rcases ha.vo (n := n) (o := o) (o' := o') hoa hs at1 (by omega) with ⟨r', y, h1, h2, h3, h4⟩ | ⟨h1, h4⟩
    · have h5 := h3.2
      have h6 := jc_pos e y
      rw [h4, Option.bind_some, if_neg (by rw [i3_m1 (by omega)]; exact not_false), at2.after hx, Option.bind_some, i3_one]
      rw [List.filter_cons_of_neg (by rw [h1]; simp)]
      exact ih n (i + 1) _ c r (fun y hy => hok y (List.mem_cons_of_mem _ hy)) (by omega) at3 hr (by omega)
    · rw [h4, Option.bind_some, if_pos rfl]
      obtain ⟨r1, e1, w1⟩ := putCopyS_w (n := n) (o' := o') hr at1
      obtain ⟨r2, e2, w2⟩ := putCopy_w (n := n) (o' := o') w1.v at2 hx
      obtain ⟨r3, e3, w3⟩ := ih n (i + 1) _ (c + 1) r2 (fun y hy => hok y (List.mem_cons_of_mem _ hy)) (by omega) at3 w2.v (by omega)
      rw [List.filter_cons_of_pos (by rw [h1]; simp)]
      refine ⟨r3, ?_, ?_⟩
      · rw [e1, Option.bind_some]
        dsimp only
        rw [e2, Option.bind_some, at2.after hx, Option.bind_some]
        dsimp only
        rw [i3_one, i3_one, e3, List.length_cons, Nat.add_assoc, Nat.add_comm 1]
      · rw [List.flatMap_cons]
        exact (w1.app w2).app w3
abbrev RecB : Type := Int32 → Int32 → Int32 → Int32 → (Nat → Int64) → Int32 → Int32 → (Nat → Int64) → Int32 → Int32 → (Nat → Int64) → Int32 → Int32 → Option ((Nat → Int64) × Int32 × Int32)
theorem filter_le {α : Type} (l : List α) (P : α → Bool) : (l.filter P).length ≤ l.length := List.length_filter_le P l
/-- the names of both -/
theorem both_loop {rec : RecB} {k : Nat} (hk : k ≤ 60) {deep : Bool} {sel : JT e → JT e → JT e} {l m : List (Sx × JT e)} (ha : At f v p (jc (e + 1) (jo l))) (hoa : jok (e + 1) (jo l)) (hb : At g u q (jc (e + 1) (jo m))) (hob : jok (e + 1) (jo m)) {r0 r1 : RS} {x0 : Int64} (h01 : Wr r0 [x0] r1)
    (hplain : deep = false → ∀ x y, sel x y = y)
    (hdeep : deep = true → ∀ x ∈ l, kd e x.2 = 6 → ∀ y ∈ m.map (fun z => z.2), kd e y = 6 → k < 60 ∧ ∀ r s (r2 : RS), At f v r (jc e x.2) → At g u s (jc e y) → RV r2 → ∃ r3 : RS, rec (i3 r) (i3 s) 1 (i3 (k + 1)) f (i3 v) o g (i3 u) o' r2.1 (i3 r2.2.1) r2.2.2 = some (r3.1, i3 r3.2.1, r3.2.2) ∧ Wr r2 (jc e (sel x.2 y)) r3)
    (hsel : ∀ x y, jok e x → jok e y → kd e x ≠ 6 ∨ kd e y ≠ 6 → sel x y = y) :
    ∀ (l' : List (Sx × JT e)) (n i s : Nat) (w : List Int64) (r2 : RS), (∀ x ∈ l', x ∈ l) → i + l'.length = l.length → At f v s (l'.flatMap oc) → Wr r1 w r2 → 12500 + l'.length < n →
    ∃ r' : RS, fA_putBoth_b rec f (i3 v) o g (i3 u) o' n 1 (i3 i) (i3 s) (i3 r1.2.1 - 1) (i3 p) (i3 q) (if deep then 1 else 0) (i3 k) r2.1 (i3 r2.2.1) r2.2.2 = some (r'.1, i3 r'.2.1, r'.2.2) ∧ Wr r0 (lst 6 (l.length + (bn l m).length) (w ++ (l'.map (bv sel m) ++ bn l m).flatMap oc)) r' := by
  have sza := ha.osz
  have szb := hb.osz
  intro l'
  induction l' with
  | nil =>
    intro n i s w r2 _ hi _ hw hn
    obtain ⟨n, rfl⟩ : ∃ j, n = j + 1 := ⟨n - 1, by omega⟩
    rw [List.length_nil] at hi
    obtain ⟨r3, e3, w3⟩ := nn_loop2 (o := o) (o' := o') ha hoa (tot := m.length) (by omega) (fun n => hb.olen) m n 0 (q + 1) 0 r2 hob.1 (by omega) hb.obody hw.v (by omega)
    have hfl := filter_le m (fun x => (lu x.1 l).isNone)
    obtain ⟨f4, e4, w4⟩ := close_w (n := n) (k := 6) (len := l.length + (m.filter (fun x => (lu x.1 l).isNone)).length) h01 (hw.app w3) (by omega) (fun _ => by omega)
    refine ⟨(f4, r3.2.1, r3.2.2), ?_, ?_⟩
    · rw [fA_putBoth_b, ha.olen, Option.bind_some, if_pos (by rw [i3_le (by omega) (by omega)]; omega)]
      unfold fA_putNewNames
      rw [i3_one, show (0 : Int32) = i3 0 from rfl, e3, Option.bind_some, Option.bind_some]
      dsimp only
      rw [i3_add, Nat.zero_add, show (6 : Int32) = i3 6 from rfl, e4]
      rfl
    · exact w4
  | cons x l' ih =>
    intro n i s w r2 hsub hi hat hw hn
    obtain ⟨n, rfl⟩ : ∃ j, n = j + 1 := ⟨n - 1, by omega⟩
    rw [List.length_cons] at hi hn
    obtain ⟨at1, at2, at3⟩ := At.ocons hat
    have hxl := hsub x (List.mem_cons_self ..)
    obtain ⟨hs, hx⟩ := hoa.1 x hxl
    obtain ⟨r3, e3, w3⟩ := putCopyS_w (n := n) (o' := o) hw.v at1
    -- after the value y was written
    have go : ∀ (y : JT e) (r4 : RS), Wr r3 (jc e y) r4 → bv sel m x = (x.1, y) → ∃ r' : RS, ((fR_after n (i3 (s + (x.1.length + 1))) f (i3 v) o).bind fun o14 => fA_putBoth_b rec f (i3 v) o g (i3 u) o' n 1 (i3 i + 1) o14 (i3 r1.2.1 - 1) (i3 p) (i3 q) (if deep then 1 else 0) (i3 k) r4.1 (i3 r4.2.1) r4.2.2) = some (r'.1, i3 r'.2.1, r'.2.2) ∧ Wr r0 (lst 6 (l.length + (bn l m).length) (w ++ ((x :: l').map (bv sel m) ++ bn l m).flatMap oc)) r' := by
      intro y r4 w4 hy
      obtain ⟨r5, e5, w5⟩ := ih n (i + 1) _ (w ++ (strc x.1 ++ jc e y)) r4 (fun z hz => hsub z (List.mem_cons_of_mem _ hz)) (by omega) at3 (by rw [← List.append_assoc]; exact (hw.app w3).app w4) (by omega)
      refine ⟨r5, ?_, ?_⟩
      · rw [at2.after hx, Option.bind_some, i3_one]
        exact e5
      · rw [List.map_cons, List.cons_append, List.flatMap_cons, hy]
        rw [List.append_assoc] at w5
        exact w5
    rw [fA_putBoth_b, ha.olen, Option.bind_some, if_neg (by rw [i3_le (by omega) (by omega)]; omega), at1.safter, Option.bind_some]
    rcases hb.vo (n := n) (o := o') (o' := o) hob hs at1 (by omega) with ⟨s2, y, h1, h2, h3, h4⟩ | ⟨h1, h4⟩
    · have h5 := h3.2
      have h6 := jc_pos e y
      obtain ⟨z, hz, hzy⟩ := List.mem_map.mp h2
      have hy : jok e y := by
        rw [← hzy]
        exact (hob.1 z hz).2
      obtain ⟨r4, e4, w4⟩ := putCopy_w (n := n) (o' := o') w3.v h3 hy
      have plain : sel x.2 y = y → ∃ r' : RS, ((fR_putCopy n (i3 s2) r3.1 (i3 r3.2.1) r3.2.2 g (i3 u) o').bind fun o12 => (fR_after n (i3 (s + (x.1.length + 1))) f (i3 v) o).bind fun o14 => fA_putBoth_b rec f (i3 v) o g (i3 u) o' n 1 (i3 i + 1) o14 (i3 r1.2.1 - 1) (i3 p) (i3 q) (if deep then 1 else 0) (i3 k) o12.1 o12.2.1 o12.2.2) = some (r'.1, i3 r'.2.1, r'.2.2) ∧ Wr r0 (lst 6 (l.length + (bn l m).length) (w ++ ((x :: l').map (bv sel m) ++ bn l m).flatMap oc)) r' := fun hsy => by
        rw [e4, Option.bind_some]
        exact go y r4 w4 (by unfold bv; rw [h1]; exact congrArg _ hsy)
      rw [h4, Option.bind_some, e3, Option.bind_some, if_neg (by rw [i3_m1 (by omega)]; exact not_false)]
      dsimp only
      cases hdp : deep with
      | false =>
        subst hdp
        rw [if_pos (by decide)]
        exact plain (hplain rfl _ _)
      | true =>
        subst hdp
        rw [if_neg (by decide)]
        by_cases kx : kd e x.2 = 6
        · by_cases ky : kd e y = 6
          · obtain ⟨hk60, hrec⟩ := hdeep rfl x hxl kx y h2 ky
            obtain ⟨r5, e5, w5⟩ := hrec _ _ r3 at2 h3 w3.v
            rw [if_neg (by rw [show (60 : Int32) = i3 60 from rfl, i3_le (by omega) (by omega)]; omega), show (6 : Int32) = i3 6 from rfl, at2.isT hx kx, Option.bind_some, if_neg (by decide), h3.isT hy ky, Option.bind_some, if_neg (by decide), i3_one, e5, Option.bind_some]
            exact go (sel x.2 y) r5 w5 (by unfold bv; rw [h1])
          · have hsy := hsel x.2 y hx hy (Or.inr ky)
            split
            · exact plain hsy
            · rw [show (6 : Int32) = i3 6 from rfl, at2.isT hx kx, Option.bind_some, if_neg (by decide), h3.isF hy (by omega) ky, Option.bind_some, if_pos rfl]
              exact plain hsy
        · have hsy := hsel x.2 y hx hy (Or.inl kx)
          split
          · exact plain hsy
          · rw [show (6 : Int32) = i3 6 from rfl, at2.isF hx (by omega) kx, Option.bind_some, if_pos rfl]
            exact plain hsy
    · obtain ⟨r4, e4, w4⟩ := putCopy_w (n := n) (o' := o) w3.v at2 hx
      rw [h4, Option.bind_some, e3, Option.bind_some, if_pos rfl]
      dsimp only
      rw [e4, Option.bind_some]
      exact go x.2 r4 w4 (by unfold bv; rw [h1])
end OW
