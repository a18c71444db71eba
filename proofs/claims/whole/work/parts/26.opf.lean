section OPF
variable {f g : Nat → Int64} {v u e : Nat} {o o' : Int32} {n fu : Nat} {r : RS}
theorem oBin_ne {op : Nat} {a b : JT (e + 2)} (h : ¬ (kd (e + 2) a = 3 ∧ kd (e + 2) b = 3)) : oBin op a b = if op = 0 then oPlus a b else if op = 1 then oMinus a b else if op = 2 then oTimes a b else if op = 3 then oPieces a b else .inl 1 := by
  unfold oBin
  rcases jcases a with ⟨k, rfl⟩ | ⟨z, rfl⟩ | ⟨s, rfl⟩ | ⟨l, rfl⟩ | ⟨l, rfl⟩ <;> rcases jcases b with ⟨k', rfl⟩ | ⟨z', rfl⟩ | ⟨s', rfl⟩ | ⟨l', rfl⟩ | ⟨l', rfl⟩ <;> first | rfl | exact absurd ⟨rfl, rfl⟩ h
theorem binary_w (hn : 40000 < n) (hfu : e + 2 ≤ fu) (he : e + 1 ≤ 1000) {op : Nat} (hop : op ≤ 4) {a b : JT (e + 2)} (ha : At f v 0 (jc (e + 2) a)) (hoa : jok (e + 2) a) (hb : At g u 0 (jc (e + 2) b)) (hob : jok (e + 2) b) (hja : jd (e + 2) a ≤ 60) (hjb : jd (e + 2) b ≤ 60) (hr : RV r) : OK r (fA_apply fu n (i3 op) f (i3 v) o g (i3 u) o' r.1 (i3 r.2.1) r.2.2) (oBin op a b) := by
  have isa : fR_is n 0 (i3 3) f (i3 v) o = some (if kd (e + 2) a = 3 then 1 else 0) := ha.is hoa (by omega)
  have isb : fR_is n 0 (i3 3) g (i3 u) o' = some (if kd (e + 2) b = 3 then 1 else 0) := hb.is hob (by omega)
  have e0 : (i3 op = 0) = (op = 0) := i3_eq (b := 0) (by omega) (by omega)
  have e1 : (i3 op = 1) = (op = 1) := i3_eq (b := 1) (by omega) (by omega)
  have e2 : (i3 op = 2) = (op = 2) := i3_eq (b := 2) (by omega) (by omega)
  have e3 : (i3 op = 3) = (op = 3) := i3_eq (b := 3) (by omega) (by omega)
  have mid : ¬ (kd (e + 2) a = 3 ∧ kd (e + 2) b = 3) → OK r (if i3 op = 0 then fA_plus fu n f (i3 v) o g (i3 u) o' r.1 (i3 r.2.1) r.2.2 else if i3 op = 1 then fA_minus fu n f (i3 v) o g (i3 u) o' r.1 (i3 r.2.1) r.2.2 else if i3 op = 2 then fA_times fu n f (i3 v) o g (i3 u) o' r.1 (i3 r.2.1) r.2.2 else if i3 op = 3 then fA_pieces n f (i3 v) o g (i3 u) o' r.1 (i3 r.2.1) r.2.2 else some ((1 : Int32), r.1, i3 r.2.1, r.2.2)) (oBin op a b) := fun hnn => by
    rw [oBin_ne hnn]
    obtain rfl | rfl | rfl | rfl | rfl : op = 0 ∨ op = 1 ∨ op = 2 ∨ op = 3 ∨ op = 4 := by omega
    · rw [if_pos (by decide), if_pos rfl]
      exact plus_w (by omega) (by omega) ha hoa hb hob hr hnn
    · rw [if_neg (by decide), if_pos (by decide), if_neg (by decide), if_pos rfl]
      exact minus_w hn (by omega) (by omega) ha hoa hb hob (Nat.le_succ_of_le hjb) hr
    · rw [if_neg (by decide), if_neg (by decide), if_pos (by decide), if_neg (by decide), if_neg (by decide), if_pos rfl]
      exact times_w hn (by omega) ha hoa hb hob hja hr hnn
    · rw [if_neg (by decide), if_neg (by decide), if_neg (by decide), if_pos (by decide), if_neg (by decide), if_neg (by decide), if_neg (by decide), if_pos rfl]
      exact pieces_w hn ha hoa hb hob hr
    · rw [if_neg (by decide), if_neg (by decide), if_neg (by decide), if_neg (by decide), if_neg (by decide), if_neg (by decide), if_neg (by decide), if_neg (by decide)]
      exact OK.refuse (k := 1) hr (by omega) (by omega)
  unfold fA_apply
  simp only [b4]
  rw [show (3 : Int32) = i3 3 from rfl, isa, Option.bind_some]
  by_cases h1 : kd (e + 2) a = 3
  · rw [if_pos h1, if_neg (by decide), isb, Option.bind_some]
    by_cases h2 : kd (e + 2) b = 3
    · rw [if_pos h2, if_neg (by decide)]
      obtain ⟨x, rfl⟩ := kdn hoa h1
      obtain ⟨y, rfl⟩ := kdn hob h2
      rw [jok_n] at hoa hob
      have n1 : fR_number n 0 f (i3 v) o = some (cW x) := At.num (p := 0) ha hoa.1 hoa.2
      have n2 : fR_number n 0 g (i3 u) o' = some (cW y) := At.num (p := 0) hb hob.1 hob.2
      rw [n1, Option.bind_some, n2, Option.bind_some]
      exact ofNumbers_w hr hop hoa.1 hoa.2 hob.1 hob.2
    · rw [if_neg h2, if_pos (by decide)]
      exact mid (fun h => h2 h.2)
  · rw [if_neg h1, if_pos (by decide)]
    exact mid (fun h => h1 h.1)
theorem binarya_w (hn : 40000 < n) (hfu : e + 2 ≤ fu) (he : e + 1 ≤ 1000) {op : Nat} (hop : op ≤ 4) {a : JT (e + 2)} (ha : At f v 0 (jc (e + 2) a)) (hoa : jok (e + 2) a) (hja : jd (e + 2) a ≤ 60) (hr : RV r) : OK r (fA_applya fu n (i3 op) f (i3 v) o r.1 (i3 r.2.1) r.2.2) (oBin op a a) := by
  rw [al_A_apply]
  exact binary_w hn hfu he hop ha hoa ha hoa hja hja hr
end OPF
