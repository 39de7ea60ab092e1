/-! the law: what the tables say at its entry -/
theorem xTb_of {args : Array Value} {s : State} (hts : ∀ w ∈ lw_tbl, w.before args s = true) : ∀ w ∈ xTb, w.before args s = true := fun w hw => hts w (List.mem_filter.mp hw).1
theorem kn_arr {args : Array Value} {s : State} (hts : ∀ w ∈ lw_tbl, w.before args s = true) (k : Nat) (hk : k < 5) : ∃ cA : ClassId, ArrOfT s cA (xaty k) ∧ va_RA s cA (xaty k) := by
  have hp : ∀ ty : FieldType, Cond.arrayClass ty ∈ xTb → ∃ cA : ClassId, ArrOfT s cA ty ∧ s.vm.findClass ("[" ++ ty.toString) = some cA := fun ty h => by
    obtain ⟨cA, kA, comp, h1, h2, h3⟩ := Cond.arrayClass_spec (xTb_of hts _ h)
    exact ⟨cA, fun n z => ⟨fun k h => (by cases h), kA, h2, comp, h3⟩, h1⟩
  have ho : ∀ C : String, Cond.arrayOver (.object C) ∈ lw_tbl → ∃ cA : ClassId, ArrOfT s cA (.object C) ∧ va_RA s cA (.object C) := fun C h => by
    obtain ⟨comp, cA, kA, h1, -, h3, h4, h5⟩ := Cond.arrayOver_spec (hts _ h)
    exact ⟨cA, fun n z => ⟨fun k h => (by cases h), kA, h3, comp, h4⟩, kA, comp, h3, h4, h1, h5⟩
  rcases (show k = 0 ∨ k = 1 ∨ k = 2 ∨ k = 3 ∨ k = 4 by omega) with rfl | rfl | rfl | rfl | rfl
  · exact hp _ xac_int
  · exact hp _ xac_long
  · exact hp _ xac_boolean
  · exact ho _ xao_5
  · exact ho _ xao_4
theorem kn_start {args : Array Value} {s : State} (hts : ∀ w ∈ lw_tbl, w.before args s = true) : ∃ (D : va_G) (ca : Nat → ClassId), va_K D xClasses (xtys ca) s ∧ xNw s := by
  have h1 : ∀ ci : Nat, ∃ cC : ClassId, ∃ iS : Nat → Nat, ci < 9 → u_Kn s (xR ci) (xF ci) (xFn ci) cC iS := fun ci => by
    by_cases h : ci < 9
    · obtain ⟨a, b2, c⟩ := u_known (xTb_of hts) (xws_ok ci h) (xTb_of hts _ (xin_ok ci h).1)
      exact ⟨a, b2, fun _ => c⟩
    · exact ⟨0, id, fun q => absurd q h⟩
  have h2 : ∀ k : Nat, ∃ cA : ClassId, k < 5 → ArrOfT s cA (xaty k) ∧ va_RA s cA (xaty k) := fun k => by
    by_cases h : k < 5
    · obtain ⟨a, c⟩ := kn_arr hts k h
      exact ⟨a, fun _ => c⟩
    · exact ⟨0, fun q => absurd q h⟩
  obtain ⟨dC, h3⟩ := Classical.axiomOfChoice h1
  obtain ⟨dI, h4⟩ := Classical.axiomOfChoice h3
  obtain ⟨ca, h5⟩ := Classical.axiomOfChoice h2
  refine ⟨(dC, dI), ca, ⟨fun ci q hq => ?_, fun k q hq => ?_⟩, fun a i x hm => va_Nw.of rfl (hts _ hm), va_AO.of (hts _ xao_4), va_AO.of (hts _ xao_5)⟩
  · have hl : ci < 9 := (List.getElem?_eq_some_iff.mp hq).1
    rw [xcls_at ci hl] at hq
    cases hq
    exact h4 ci hl
  · have hl : k < 5 := by
      have := (List.getElem?_eq_some_iff.mp hq).1
      simpa [xtys] using this
    rw [xtys_at hl] at hq
    cases hq
    exact h5 k hl
/-- what a call of a type answers -/
theorem ret_int {ins : Instr} {st : List Value} {v : Option Value} (h : xret (some .int) ins st = some v) : ∃ x : Int32, v = some (.int x) := by
  unfold xret at h
  (repeat' split at h) <;> first | (cases h; done) | (cases h; exact ⟨_, rfl⟩) | skip
  all_goals (cases h)
  all_goals (first | exact ⟨_, rfl⟩ | contradiction | simp_all)
theorem ret_long {ins : Instr} {st : List Value} {v : Option Value} (h : xret (some .long) ins st = some v) : ∃ x : Int64, v = some (.long x) := by
  unfold xret at h
  (repeat' split at h) <;> first | (cases h; done) | (cases h; exact ⟨_, rfl⟩) | skip
  all_goals (cases h)
  all_goals (first | exact ⟨_, rfl⟩ | contradiction | simp_all)
theorem run_ty {call : xCall} {I : xI} {rt : Option FieldType} {P : Option Value → Prop} (hP : ∀ (ins : Instr) (st : List Value) (v : Option Value), xret rt ins st = some v → P v) : ∀ (f : Nat) (g : xC) (r : Option Value) (h : xH) (t : Nat), xrun call I rt f g = some (r, h, t) → P r
  | 0, _, _, _, _, h => by cases h
  | f + 1, g, r, h2, t, h => by
    unfold xrun at h
    split at h
    · cases h
    · split at h
      · rename_i v hv
        split at h
        · cases h
          exact hP _ _ _ hv
        · cases h
      · split at h
        · split at h
          · exact run_ty hP f _ _ _ _ h
          · cases h
        · split at h
          · exact run_ty hP f _ _ _ _ h
          · cases h
theorem sem_ty {j d : Nat} {av : List Value} {h h2 : xH} {t t2 : Nat} {r : Option Value} {rt : Option FieldType} {P : Option Value → Prop} (hrt : xrt[j]? = some rt) (hP : ∀ (ins : Instr) (st : List Value) (v : Option Value), xret rt ins st = some v → P v) (hs : xsem d j av h t = some (r, h2, t2)) : P r := by
  cases d with
  | zero => cases hs
  | succ d =>
    unfold xsem at hs
    rw [hrt] at hs
    split at hs
    · rename_i he
      cases he
      split at hs
      · exact run_ty hP _ _ _ _ _ hs
      · cases hs
    · cases hs
