/-! differences of a reference's places: bounds -/
/-- nodes with one left out -/
def skp (X : Nat → Int) (c j : Nat) : Int := if j < c then X j else X (j + 1)
theorem skp_1_0 (X : Nat → Int) : dfA X 0 1 1 = vdA (skp X 0) 0 0 := by
  simp [dfA, dfB, vdA, vdB, skp]
  try ac_rfl
theorem skp_2_0 (X : Nat → Int) : dfA X 0 2 2 = vdA (skp X 0) 1 1 := by
  simp [dfA, dfB, vdA, vdB, skp]
  try ac_rfl
theorem skp_2_1 (X : Nat → Int) : dfA X 1 2 2 = vdA (skp X 1) 1 1 := by
  simp [dfA, dfB, vdA, vdB, skp]
  try ac_rfl
theorem skp_3_0 (X : Nat → Int) : dfA X 0 3 3 = vdA (skp X 0) 2 2 := by
  simp [dfA, dfB, vdA, vdB, skp]
  try ac_rfl
theorem skp_3_1 (X : Nat → Int) : dfA X 1 3 3 = vdA (skp X 1) 2 2 := by
  simp [dfA, dfB, vdA, vdB, skp]
  try ac_rfl
theorem skp_3_2 (X : Nat → Int) : dfA X 2 3 3 = vdA (skp X 2) 2 2 := by
  simp [dfA, dfB, vdA, vdB, skp]
  try ac_rfl
theorem skp_4_0 (X : Nat → Int) : dfA X 0 4 4 = vdA (skp X 0) 3 3 := by
  simp [dfA, dfB, vdA, vdB, skp]
  try ac_rfl
theorem skp_4_1 (X : Nat → Int) : dfA X 1 4 4 = vdA (skp X 1) 3 3 := by
  simp [dfA, dfB, vdA, vdB, skp]
  try ac_rfl
theorem skp_4_2 (X : Nat → Int) : dfA X 2 4 4 = vdA (skp X 2) 3 3 := by
  simp [dfA, dfB, vdA, vdB, skp]
  try ac_rfl
theorem skp_4_3 (X : Nat → Int) : dfA X 3 4 4 = vdA (skp X 3) 3 3 := by
  simp [dfA, dfB, vdA, vdB, skp]
  try ac_rfl
theorem skp_5_0 (X : Nat → Int) : dfA X 0 5 5 = vdA (skp X 0) 4 4 := by
  simp [dfA, dfB, vdA, vdB, skp]
  try ac_rfl
theorem skp_5_1 (X : Nat → Int) : dfA X 1 5 5 = vdA (skp X 1) 4 4 := by
  simp [dfA, dfB, vdA, vdB, skp]
  try ac_rfl
theorem skp_5_2 (X : Nat → Int) : dfA X 2 5 5 = vdA (skp X 2) 4 4 := by
  simp [dfA, dfB, vdA, vdB, skp]
  try ac_rfl
theorem skp_5_3 (X : Nat → Int) : dfA X 3 5 5 = vdA (skp X 3) 4 4 := by
  simp [dfA, dfB, vdA, vdB, skp]
  try ac_rfl
theorem skp_5_4 (X : Nat → Int) : dfA X 4 5 5 = vdA (skp X 4) 4 4 := by
  simp [dfA, dfB, vdA, vdB, skp]
  try ac_rfl
theorem skp_all (X : Nat → Int) {n c : Nat} (hn : n ≤ 5) (hc : c < n) : dfA X c n n = vdA (skp X c) (n - 1) (n - 1) := by
  rcases (show n = 1 ∨ n = 2 ∨ n = 3 ∨ n = 4 ∨ n = 5 by omega) with rfl | rfl | rfl | rfl | rfl
  · rw [show c = 0 by omega]
    exact skp_1_0 X
  · rcases (show c = 0 ∨ c = 1 by omega) with rfl | rfl
    · exact skp_2_0 X
    · exact skp_2_1 X
  · rcases (show c = 0 ∨ c = 1 ∨ c = 2 by omega) with rfl | rfl | rfl
    · exact skp_3_0 X
    · exact skp_3_1 X
    · exact skp_3_2 X
  · rcases (show c = 0 ∨ c = 1 ∨ c = 2 ∨ c = 3 by omega) with rfl | rfl | rfl | rfl
    · exact skp_4_0 X
    · exact skp_4_1 X
    · exact skp_4_2 X
    · exact skp_4_3 X
  · rcases (show c = 0 ∨ c = 1 ∨ c = 2 ∨ c = 3 ∨ c = 4 by omega) with rfl | rfl | rfl | rfl | rfl
    · exact skp_5_0 X
    · exact skp_5_1 X
    · exact skp_5_2 X
    · exact skp_5_3 X
    · exact skp_5_4 X
theorem skp_st {X : Nat → Int} {n c : Nat} (h : ∀ i j, i < j → j < n → X i < X j) : ∀ i j, i < j → j < n - 1 → skp X c i < skp X c j := fun i j hij hj => by
  unfold skp
  by_cases q1 : j < c
  · rw [if_pos (show i < c by omega), if_pos q1]
    exact h i j hij (by omega)
  · rw [if_neg q1]
    by_cases q2 : i < c
    · rw [if_pos q2]
      exact h i (j + 1) (by omega) (by omega)
    · rw [if_neg q2]
      exact h (i + 1) (j + 1) (by omega) (by omega)
theorem skp_in {X : Nat → Int} {n c : Nat} (h : ∀ i, i < n → -6 ≤ X i ∧ X i ≤ 6) : ∀ i, i < n - 1 → -6 ≤ skp X c i ∧ skp X c i ≤ 6 := fun i hi => by
  unfold skp
  split
  · exact h i (by omega)
  · exact h (i + 1) (by omega)
/-- the greatest products of n places' differences -/
def vdM (n : Nat) : Int := if n ≤ 1 then 1 else if n = 2 then 12 else if n = 3 then 432 else 52488
theorem vd_le {X : Nat → Int} {n : Nat} (hn : n ≤ 4) (h : ∀ i j, i < j → j < n → X i < X j) (hb : ∀ i, i < n → -6 ≤ X i ∧ X i ≤ 6) : vdA X n n ≤ vdM n := by
  rcases (show n = 0 ∨ n = 1 ∨ n = 2 ∨ n = 3 ∨ n = 4 by omega) with rfl | rfl | rfl | rfl | rfl
  · show (1 : Int) ≤ 1
    decide
  · show (1 : Int) * 1 ≤ 1
    decide
  · have h1 := hb 0 (by decide)
    have h2 := hb 1 (by decide)
    have e : vdA X 2 2 = X 1 - X 0 := by
      simp [vdA, vdB]
    rw [e]
    show X 1 - X 0 ≤ 12
    omega
  · have e : vdA X 3 3 = (X 1 - X 0) * ((X 2 - X 0) * (X 2 - X 1)) := by
      simp [vdA, vdB]
      try ac_rfl
    rw [e]
    exact vd3i (hb 0 (by decide)).1 (h 0 1 (by decide) (by decide)) (h 1 2 (by decide) (by decide)) (hb 2 (by decide)).2
  · have e : vdA X 4 4 = (X 1 - X 0) * ((X 2 - X 0) * (X 2 - X 1)) * ((X 3 - X 0) * (X 3 - X 1) * (X 3 - X 2)) := by
      simp [vdA, vdB]
      try ac_rfl
    rw [e]
    exact vd4i (hb 0 (by decide)).1 (h 0 1 (by decide) (by decide)) (h 1 2 (by decide) (by decide)) (h 2 3 (by decide) (by decide)) (hb 3 (by decide)).2
theorem df_le {X : Nat → Int} {n c : Nat} (hn : n ≤ 5) (hc : c < n) (h : ∀ i j, i < j → j < n → X i < X j) (hb : ∀ i, i < n → -6 ≤ X i ∧ X i ≤ 6) : 0 < dfA X c n n ∧ dfA X c n n ≤ vdM (n - 1) := by
  refine ⟨dfA_pos h (Nat.le_refl n), ?_⟩
  rw [skp_all X hn hc]
  exact vd_le (by omega) (skp_st h) (skp_in hb)
