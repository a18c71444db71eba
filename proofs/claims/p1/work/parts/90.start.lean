theorem xl_flag {l : Launch} (h : l.flags = flags0) : l.stackTraces = false := by
  unfold Launch.stackTraces
  rw [h]
  decide +kernel
theorem whole_start {p : Program} {e : Env} {s : State} {m : MethodId} {below : List Frame} {meth : Method} {c : Code} (l : Launch) (hl9 : l.stackTraces = false) {b L : Nat} {xs : Nat → Int32} (hL : L ≤ 6) (C0 : lw_At p s m meth c b L xs) : W p l e room_1 s m #[Value.ref b] below meth c s.heap [] 0 0 (lw_Z below #[Value.ref b] s) (entryFrame m ([Value.ref b] : List Value).toArray 8) := by
  obtain ⟨hx, hb, hr, hml, hown, hts, hXs, hbl, hlocks, hgv⟩ := C0
  obtain ⟨D, cT, hK⟩ := xl_K hts
  obtain ⟨aK, aV, hZ⟩ := xl_xa hts hgv
  have C : xLw p s m meth c b D cT aK aV (fun q => s.heap.size ≤ q) := ⟨hx, hb, hr, hml, hown, fun w h => hts w (xw_in w h), hbl, fun h => absurd hbl (Nat.not_lt.mpr h), hlocks, hK, hZ, fun _ h => h, fun _ h => h⟩
  refine xl_prefix (xs := xs) l hl9 D cT aK aV C (fun z H locs ls hP hD hS hl => ?_)
  rcases (by omega : L = 0 ∨ L = 1 ∨ L = 2 ∨ L = 3 ∨ L = 4 ∨ L = 5 ∨ L = 6) with rfl | rfl | rfl | rfl | rfl | rfl | rfl
  · exact xl_short0 l hl9 D cT aK aV C hXs hS hl
  · exact xl_short1 l hl9 D cT aK aV C hXs hS hl
  · exact xl_short2 l hl9 D cT aK aV C hXs hS hl
  · exact xl_short3 l hl9 D cT aK aV C hXs hS hl
  · exact xl_short4 l hl9 D cT aK aV C hXs hS hl
  · exact xl_short5 l hl9 D cT aK aV C hXs hS hl
  · exact xl_six l hl9 D cT aK aV C hXs z hP hD hS hl

