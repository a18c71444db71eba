/-! THE CLAIM OUT OF ONE WALK OF THE LAW'S BODY. Your part is whole_start (and what it stands on); all else here is the same for every law, but numbers. -/
def R_law : String := "ValueBenchLaw"
def lw_P (b : Addr) (xs : List Int32) (args : Array Value) (s : State) : Prop := args = #[.ref b] ∧ s.IntsAt b xs ∧ xs.length ≤ 6 ∧ (Jvm.Cond.and given_1 narrow_1).before args s = true
def lw_Q (_ : Array Value) (s : State) (o : Outcome) (t : State) : Prop := o = .returned (some (.int 1)) ∧ Framed s o t [] 600002 7302232
def lw_Z (below : List Frame) (a : Array Value) (s : State) : State → Prop := fun t => ∃ o, t.status = .running ∧ Ended t below o ∧ lw_Q a s o t
/-- the law's own end, with 1 on the stack, nothing written that was there before, its room as the claim has it -/
theorem lw_ret {p : Program} {l : Launch} {e : Env} {s : State} {m : MethodId} {below : List Frame} {meth : Method} {c : Code} {b : Nat} (hx : p.tables.exec = Jvm.exec) (hb : c.code = code) (hr : meth.sig.returnType = ret) (hlocks : meth.locks = false) {pc : Nat} {H : Heap} {ls : Array Slot} (hdg : decode code pc = .ok (.ireturn, 1)) : W p l e room_1 s m #[Value.ref b] below meth c H [] 600002 7302232 (lw_Z below #[Value.ref b] s) (F0 m pc ls [.int 1]) := by
  intro T hT X
  obtain ⟨fs, hret, hrun, hended, hW, hframe⟩ := X.leave (v := some (.int 1)) (hlocks := hlocks) (fun h => by rw [hr] at h; cases h)
  have hmeth' : T.vm.method? m = some meth := X.method'
  refine ⟨T.setFrames fs, ?_, .returned (some (.int 1)), hrun, hended, rfl, ⟨_, rfl⟩, hW, hframe⟩
  jvm_step X.here [X.here.top, hx, hb, hdg, hmeth', hr, ret, narrow_b1]
  (try refine ⟨rfl, ?_⟩); (try refine ⟨rfl, ?_⟩)
  first | (intro acts; rw [hret _ acts rfl rfl rfl]) | rw [hret _ _ rfl rfl rfl]
  exact Steps.refl _
/-- what holds at the law's entry: the machine, the code, the tables' words (any of lw_tbl by 'hts w (by decide +kernel)'), the script of L ints xs at the cell b, what the Statement gives of the start (any of its parts by flat_of_before) -/
def lw_At (p : Program) (s : State) (m : MethodId) (meth : Method) (c : Code) (b L : Nat) (xs : Nat → Int32) : Prop :=
  p.tables.exec = Jvm.exec ∧ c.code = code ∧ meth.sig.returnType = ret ∧ c.maxLocals = 8 ∧ s.vm.findClass R_law = some m.cls ∧ (∀ w ∈ lw_tbl, w.before #[Value.ref b] s = true) ∧ va_X b L xs s s.heap ∧ b < s.heap.size ∧ meth.locks = false ∧ (Jvm.Cond.and given_1 narrow_1).before #[Value.ref b] s = true

def xLw (p : Program) (s : State) (m : MethodId) (meth : Method) (c : Code) (b : Nat) (D : va_G) (cT : Nat → ClassId) (aK aV : Nat → Nat) (A : Nat → Prop) : Prop :=
  p.tables.exec = Jvm.exec ∧ c.code = code ∧ meth.sig.returnType = ret ∧ c.maxLocals = 8 ∧ s.vm.findClass "ValueBenchLaw" = some m.cls ∧ (∀ w ∈ xw, w.before #[Value.ref b] s = true) ∧ b < s.heap.size ∧ ¬ A b ∧ meth.locks = false ∧ va_K D xcl (xty cT) s ∧ xa aK aV A s s.heap ∧ (∀ q : Nat, s.heap.size ≤ q → A q) ∧ (∀ q : Nat, A q → s.heap.size ≤ q)
def xW0 (cT : Nat → ClassId) (z : Nat → Nat) : va_W := (((z 0), .inr (0, [.ref (z 1), .ref (z 3), .ref (z 5), .ref (z 7), .ref (z 8), .ref (z 13), .int (-1), .int 0])) :: ((z 1), .inr (1, [.ref (z 2), .int 0, .int 0])) :: ((z 2), .inl (cT 0, 4096, .inl (fun _ => 0))) :: ((z 3), .inr (1, [.ref (z 4), .int 0, .int 0])) :: ((z 4), .inl (cT 0, 4096, .inl (fun _ => 0))) :: ((z 5), .inr (1, [.ref (z 6), .int 0, .int 0])) :: ((z 6), .inl (cT 0, 4096, .inl (fun _ => 0))) :: ((z 7), .inl (cT 3, 8, .inr (.inr (.inr (.inr (va_up (va_up (va_up (va_up (va_up (va_up (va_up (va_up (fun _ => none) 0 (some (z 15))) 1 (some (z 17))) 2 (some (z 19))) 3 (some (z 21))) 4 (some (z 23))) 5 (some (z 25))) 6 (some (z 27))) 7 (some (z 29)))))))) :: ((z 8), .inr (3, [.ref (z 9), .ref (z 10), .ref (z 11), .ref (z 12), .int 0])) :: ((z 9), .inl (cT 1, 2048, .inl (fun _ => 0))) :: ((z 10), .inl (cT 1, 2048, .inl (fun _ => 0))) :: ((z 11), .inl (cT 1, 2048, .inl (fun _ => 0))) :: ((z 12), .inl (cT 1, 2048, .inl (fun _ => 0))) :: ((z 13), .inr (2, [.ref (z 14), .int 1, .int 0])) :: ((z 14), .inl (cT 2, 4096, .inr (.inl (fun _ => 0)))) :: ((z 15), .inr (2, [.ref (z 16), .int 1, .int 0])) :: ((z 16), .inl (cT 2, 4096, .inr (.inl (fun _ => 0)))) :: ((z 17), .inr (2, [.ref (z 18), .int 1, .int 0])) :: ((z 18), .inl (cT 2, 4096, .inr (.inl (fun _ => 0)))) :: ((z 19), .inr (2, [.ref (z 20), .int 1, .int 0])) :: ((z 20), .inl (cT 2, 4096, .inr (.inl (fun _ => 0)))) :: ((z 21), .inr (2, [.ref (z 22), .int 1, .int 0])) :: ((z 22), .inl (cT 2, 4096, .inr (.inl (fun _ => 0)))) :: ((z 23), .inr (2, [.ref (z 24), .int 1, .int 0])) :: ((z 24), .inl (cT 2, 4096, .inr (.inl (fun _ => 0)))) :: ((z 25), .inr (2, [.ref (z 26), .int 1, .int 0])) :: ((z 26), .inl (cT 2, 4096, .inr (.inl (fun _ => 0)))) :: ((z 27), .inr (2, [.ref (z 28), .int 1, .int 0])) :: ((z 28), .inl (cT 2, 4096, .inr (.inl (fun _ => 0)))) :: ((z 29), .inr (2, [.ref (z 30), .int 1, .int 0])) :: ((z 30), .inl (cT 2, 4096, .inr (.inl (fun _ => 0)))) :: ((z 31), .inr (5, [.int 0, .ref (z 32), .int 0, .ref (z 33), .int 0, .ref (z 34), .ref (z 35), .int 0, .int 0, .int 0, .ref (z 36), .ref (z 37), .int 0, .ref (z 38), .ref (z 39), .null, .int 0, .int 0, .int 0, .int 40, .int (-1), .ref (z 40), .int 0, .int 1000000000, .ref (z 41), .ref (z 50), .ref (z 51), .int 0, .ref (z 52), .int 0, .int 0, .int (-1)])) :: ((z 32), .inl (cT 4, 1024, .inr (.inr (.inr (.inr (fun _ => none)))))) :: ((z 33), .inl (cT 0, 4096, .inl (fun _ => 0))) :: ((z 34), .inl (cT 4, 1024, .inr (.inr (.inr (.inr (fun _ => none)))))) :: ((z 35), .inl (cT 4, 1024, .inr (.inr (.inr (.inr (fun _ => none)))))) :: ((z 36), .inl (cT 4, 256, .inr (.inr (.inr (.inr (fun _ => none)))))) :: ((z 37), .inl (cT 4, 256, .inr (.inr (.inr (.inr (fun _ => none)))))) :: ((z 38), .inl (cT 1, 64, .inl (fun _ => 0))) :: ((z 39), .inl (cT 1, 64, .inl (fun _ => 0))) :: ((z 40), .inl (cT 0, 1024, .inl (fun _ => 0))) :: ((z 41), .inl (cT 5, 8, .inr (.inr (.inr (.inr (x8 (z 42) (z 43) (z 44) (z 45) (z 46) (z 47) (z 48) (z 49))))))) :: ((z 42), .inl (cT 0, 4096, .inl (upd (upd (upd (upd (fun _ => 0) 0 110) 1 117) 2 108) 3 108))) :: ((z 43), .inl (cT 0, 4096, .inl (upd (upd (upd (upd (fun _ => 0) 0 110) 1 117) 2 108) 3 108))) :: ((z 44), .inl (cT 0, 4096, .inl (upd (upd (upd (upd (fun _ => 0) 0 110) 1 117) 2 108) 3 108))) :: ((z 45), .inl (cT 0, 4096, .inl (upd (upd (upd (upd (fun _ => 0) 0 110) 1 117) 2 108) 3 108))) :: ((z 46), .inl (cT 0, 4096, .inl (upd (upd (upd (upd (fun _ => 0) 0 110) 1 117) 2 108) 3 108))) :: ((z 47), .inl (cT 0, 4096, .inl (upd (upd (upd (upd (fun _ => 0) 0 110) 1 117) 2 108) 3 108))) :: ((z 48), .inl (cT 0, 4096, .inl (upd (upd (upd (upd (fun _ => 0) 0 110) 1 117) 2 108) 3 108))) :: ((z 49), .inl (cT 0, 4096, .inl (upd (upd (upd (upd (fun _ => 0) 0 110) 1 117) 2 108) 3 108))) :: ((z 50), .inl (cT 1, 8, .inl (upd (upd (upd (upd (upd (upd (upd (upd (fun _ => 0) 0 4) 1 4) 2 4) 3 4) 4 4) 5 4) 6 4) 7 4))) :: ((z 51), .inl (cT 0, 4096, .inl (fun _ => 0))) :: ((z 52), .inl (cT 0, 4096, .inl (fun _ => 0))) :: ((z 53), .inl (cT 2, 1, .inr (.inl (fun _ => 0)))) :: [])
theorem xp_R (cT : Nat → ClassId) (z : Nat → Nat) (i : Nat) (hi : i < 8) : (xW0 cT z)[15 + 2 * i]? = some ((z (15 + 2 * i)), .inr (2, [.ref (z (16 + 2 * i)), .int 1, .int 0])) := by
  rcases (by omega : i = 0 ∨ i = 1 ∨ i = 2 ∨ i = 3 ∨ i = 4 ∨ i = 5 ∨ i = 6 ∨ i = 7) with rfl | rfl | rfl | rfl | rfl | rfl | rfl | rfl <;> rfl
theorem xp_S (cT : Nat → ClassId) (z : Nat → Nat) (i : Nat) (hi : i < 8) : (xW0 cT z)[16 + 2 * i]? = some ((z (16 + 2 * i)), .inl (cT 2, 4096, .inr (.inl (fun _ => 0)))) := by
  rcases (by omega : i = 0 ∨ i = 1 ∨ i = 2 ∨ i = 3 ∨ i = 4 ∨ i = 5 ∨ i = 6 ∨ i = 7) with rfl | rfl | rfl | rfl | rfl | rfl | rfl | rfl <;> rfl
theorem xp_M (cT : Nat → ClassId) (z : Nat → Nat) (i : Nat) (hi : i < 8) : (xW0 cT z)[42 + i]? = some ((z (42 + i)), .inl (cT 0, 4096, .inl (upd (upd (upd (upd (fun _ => 0) 0 110) 1 117) 2 108) 3 108))) := by
  rcases (by omega : i = 0 ∨ i = 1 ∨ i = 2 ∨ i = 3 ∨ i = 4 ∨ i = 5 ∨ i = 6 ∨ i = 7) with rfl | rfl | rfl | rfl | rfl | rfl | rfl | rfl <;> rfl
theorem xp_f (z : Nat → Nat) (i : Nat) (hi : i < 8) : (va_up (va_up (va_up (va_up (va_up (va_up (va_up (va_up (fun _ => none) 0 (some (z 15))) 1 (some (z 17))) 2 (some (z 19))) 3 (some (z 21))) 4 (some (z 23))) 5 (some (z 25))) 6 (some (z 27))) 7 (some (z 29))) i = some (z (15 + 2 * i)) := by
  rcases (by omega : i = 0 ∨ i = 1 ∨ i = 2 ∨ i = 3 ∨ i = 4 ∨ i = 5 ∨ i = 6 ∨ i = 7) with rfl | rfl | rfl | rfl | rfl | rfl | rfl | rfl <;> rfl
theorem xp_g (z : Nat → Nat) (i : Nat) (hi : i < 8) : (x8 (z 42) (z 43) (z 44) (z 45) (z 46) (z 47) (z 48) (z 49)) i = some (z (42 + i)) := by
  rcases (by omega : i = 0 ∨ i = 1 ∨ i = 2 ∨ i = 3 ∨ i = 4 ∨ i = 5 ∨ i = 6 ∨ i = 7) with rfl | rfl | rfl | rfl | rfl | rfl | rfl | rfl <;> rfl
theorem xp_s (i : Nat) (hi : i < 8) : (upd (upd (upd (upd (upd (upd (upd (upd (fun _ => 0) 0 4) 1 4) 2 4) 3 4) 4 4) 5 4) 6 4) 7 4) i = 4 := by
  rcases (by omega : i = 0 ∨ i = 1 ∨ i = 2 ∨ i = 3 ∨ i = 4 ∨ i = 5 ∨ i = 6 ∨ i = 7) with rfl | rfl | rfl | rfl | rfl | rfl | rfl | rfl <;> rfl
theorem xnil {ws : va_W} : ([] : List Nat).map (fun i => ws[i]?) = ([] : va_W).map some := rfl
theorem xcons {ws : va_W} {k : Nat} {x : Nat × va_E} {is : List Nat} {wc : va_W} (h : ws[k]? = some x) (h2 : is.map (fun i => ws[i]?) = wc.map some) : (k :: is).map (fun i => ws[i]?) = (x :: wc).map some := by
  rw [List.map_cons, List.map_cons, h2]
  exact congrArg (· :: _) h
theorem xfm {ws : va_W} : ∀ (is : List Nat) (wc : va_W), is.map (fun i => ws[i]?) = wc.map some → is.filterMap (fun i => ws[i]?) = wc
  | [], [], _ => rfl
  | [], _ :: _, h => by cases h
  | _ :: _, [], h => by cases h
  | k :: is, x :: wc, h => by
    rw [List.map_cons, List.map_cons] at h
    have h1 : ws[k]? = some x := (List.cons.inj h).1
    rw [List.filterMap_cons, h1, xfm is wc (List.cons.inj h).2]
theorem xsub2 {D : va_G} {cl : List vw_C} {A : Nat → Prop} {ws wc : va_W} {H : Heap} (hP : va_P D cl ws H) (hD : va_D A ws) (is : List Nat) (h2 : is.map (fun i => ws[i]?) = wc.map some) (hn : va_nd is = true) : va_P D cl wc H ∧ va_D A wc := ⟨hP.sub is (xfm is wc h2), hD.sub is hn h2⟩
theorem xnd1 {i j : Nat} {b : Bool} (h : (i == j || b) = true) (hn : i ≠ j) : b = true := by
  cases b
  · rw [Bool.or_false] at h
    exact absurd (beq_iff_eq.mp h) hn
  · rfl
theorem xrw (x : Int32) : x < 0 ∨ (¬ x < 0 ∧ 0 ≤ x) := by
  by_cases h : x < 0
  · exact Or.inl h
  · exact Or.inr ⟨h, Int32.not_lt.mp h⟩
theorem xr8 (x : Int32) : x < 0 ∨ (¬ x < 0 ∧ 7 < x ∧ ¬ x ≤ 7) ∨ (¬ x < 0 ∧ ¬ 7 < x ∧ x ≤ 7 ∧ vp_in x 8 ∧ x.toNatClampNeg < 8) := by
  rcases pk_ix x (n := 8) (by decide) with h | h | ⟨j, hj, rfl⟩
  · exact Or.inl h
  · refine Or.inr (Or.inl ?_)
    have h1 := Int32.le_iff_toInt_le.mp h
    rw [nI_toInt (by decide)] at h1
    refine ⟨fun q => ?_, Int32.lt_iff_toInt_lt.mpr ?_, fun q => ?_⟩
    · have h2 := Int32.lt_iff_toInt_lt.mp q
      rw [show (0 : Int32).toInt = 0 from by decide] at h2
      omega
    · rw [show (7 : Int32).toInt = 7 from by decide]
      omega
    · have h2 := Int32.le_iff_toInt_le.mp q
      rw [show (7 : Int32).toInt = 7 from by decide] at h2
      omega
  · refine Or.inr (Or.inr ?_)
    revert hj; revert j; unfold vp_in; decide +kernel
theorem xf1 (x : Int32) : x < 0 ∨ (¬ x < 0 ∧ 0 < x ∧ ¬ x ≤ 0) ∨ (¬ x < 0 ∧ ¬ 0 < x ∧ x ≤ 0 ∧ x = 0) := by
  rcases pk_ix x (n := 1) (by decide) with h | h | ⟨j, hj, rfl⟩
  · exact Or.inl h
  · refine Or.inr (Or.inl ?_)
    have h1 := Int32.le_iff_toInt_le.mp h
    rw [nI_toInt (by decide)] at h1
    refine ⟨fun q => ?_, Int32.lt_iff_toInt_lt.mpr ?_, fun q => ?_⟩
    · have h2 := Int32.lt_iff_toInt_lt.mp q
      rw [show (0 : Int32).toInt = 0 from by decide] at h2
      omega
    · rw [show (0 : Int32).toInt = 0 from by decide]
      omega
    · have h2 := Int32.le_iff_toInt_le.mp q
      rw [show (0 : Int32).toInt = 0 from by decide] at h2
      omega
  · refine Or.inr (Or.inr ?_)
    revert hj; revert j; decide +kernel
theorem xf4 (x : Int32) : x < 0 ∨ (¬ x < 0 ∧ 3 < x ∧ ¬ x ≤ 3) ∨ (¬ x < 0 ∧ ¬ 3 < x ∧ x ≤ 3 ∧ (x = 0 ∨ x = 1 ∨ x = 2 ∨ x = 3)) := by
  rcases pk_ix x (n := 4) (by decide) with h | h | ⟨j, hj, rfl⟩
  · exact Or.inl h
  · refine Or.inr (Or.inl ?_)
    have h1 := Int32.le_iff_toInt_le.mp h
    rw [nI_toInt (by decide)] at h1
    refine ⟨fun q => ?_, Int32.lt_iff_toInt_lt.mpr ?_, fun q => ?_⟩
    · have h2 := Int32.lt_iff_toInt_lt.mp q
      rw [show (0 : Int32).toInt = 0 from by decide] at h2
      omega
    · rw [show (3 : Int32).toInt = 3 from by decide]
      omega
    · have h2 := Int32.le_iff_toInt_le.mp q
      rw [show (3 : Int32).toInt = 3 from by decide] at h2
      omega
  · refine Or.inr (Or.inr ?_)
    revert hj; revert j; decide +kernel
theorem xf5 (x : Int32) : x < 0 ∨ (¬ x < 0 ∧ 4 < x ∧ ¬ x ≤ 4) ∨ (¬ x < 0 ∧ ¬ 4 < x ∧ x ≤ 4 ∧ (x = 0 ∨ x = 1 ∨ x = 2 ∨ x = 3 ∨ x = 4)) := by
  rcases pk_ix x (n := 5) (by decide) with h | h | ⟨j, hj, rfl⟩
  · exact Or.inl h
  · refine Or.inr (Or.inl ?_)
    have h1 := Int32.le_iff_toInt_le.mp h
    rw [nI_toInt (by decide)] at h1
    refine ⟨fun q => ?_, Int32.lt_iff_toInt_lt.mpr ?_, fun q => ?_⟩
    · have h2 := Int32.lt_iff_toInt_lt.mp q
      rw [show (0 : Int32).toInt = 0 from by decide] at h2
      omega
    · rw [show (4 : Int32).toInt = 4 from by decide]
      omega
    · have h2 := Int32.le_iff_toInt_le.mp q
      rw [show (4 : Int32).toInt = 4 from by decide] at h2
      omega
  · refine Or.inr (Or.inr ?_)
    revert hj; revert j; decide +kernel
theorem xf10 (x : Int32) : x < 0 ∨ (¬ x < 0 ∧ 9 < x ∧ ¬ x ≤ 9) ∨ (¬ x < 0 ∧ ¬ 9 < x ∧ x ≤ 9 ∧ (x = 0 ∨ x = 1 ∨ x = 2 ∨ x = 3 ∨ x = 4 ∨ x = 5 ∨ x = 6 ∨ x = 7 ∨ x = 8 ∨ x = 9)) := by
  rcases pk_ix x (n := 10) (by decide) with h | h | ⟨j, hj, rfl⟩
  · exact Or.inl h
  · refine Or.inr (Or.inl ?_)
    have h1 := Int32.le_iff_toInt_le.mp h
    rw [nI_toInt (by decide)] at h1
    refine ⟨fun q => ?_, Int32.lt_iff_toInt_lt.mpr ?_, fun q => ?_⟩
    · have h2 := Int32.lt_iff_toInt_lt.mp q
      rw [show (0 : Int32).toInt = 0 from by decide] at h2
      omega
    · rw [show (9 : Int32).toInt = 9 from by decide]
      omega
    · have h2 := Int32.le_iff_toInt_le.mp q
      rw [show (9 : Int32).toInt = 9 from by decide] at h2
      omega
  · refine Or.inr (Or.inr ?_)
    revert hj; revert j; decide +kernel
theorem xf14 (x : Int32) : x < 0 ∨ (¬ x < 0 ∧ 13 < x ∧ ¬ x ≤ 13) ∨ (¬ x < 0 ∧ ¬ 13 < x ∧ x ≤ 13 ∧ (x = 0 ∨ x = 1 ∨ x = 2 ∨ x = 3 ∨ x = 4 ∨ x = 5 ∨ x = 6 ∨ x = 7 ∨ x = 8 ∨ x = 9 ∨ x = 10 ∨ x = 11 ∨ x = 12 ∨ x = 13)) := by
  rcases pk_ix x (n := 14) (by decide) with h | h | ⟨j, hj, rfl⟩
  · exact Or.inl h
  · refine Or.inr (Or.inl ?_)
    have h1 := Int32.le_iff_toInt_le.mp h
    rw [nI_toInt (by decide)] at h1
    refine ⟨fun q => ?_, Int32.lt_iff_toInt_lt.mpr ?_, fun q => ?_⟩
    · have h2 := Int32.lt_iff_toInt_lt.mp q
      rw [show (0 : Int32).toInt = 0 from by decide] at h2
      omega
    · rw [show (13 : Int32).toInt = 13 from by decide]
      omega
    · have h2 := Int32.le_iff_toInt_le.mp q
      rw [show (13 : Int32).toInt = 13 from by decide] at h2
      omega
  · refine Or.inr (Or.inr ?_)
    revert hj; revert j; decide +kernel
