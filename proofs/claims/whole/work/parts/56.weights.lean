/-! weights by differences -/
theorem wd_1_0 (X : Nat → Int) : sgT 1 0 * dfA X 0 1 1 * apN X 0 1 = vdA X 1 1 := by
  show (1 : Int) * (1 * 1) * (1 * 1) = (1 * 1)
  rfl
theorem wd_2_0 (X : Nat → Int) : sgT 2 0 * dfA X 0 2 2 * apN X 0 2 = vdA X 2 2 := by
  show (-1 : Int) * ((1 * (1 * 1)) * 1) * ((1 * 1) * (X 0 - X 1)) = ((1 * (1 * (X 1 - X 0))) * 1)
  rw [show X 0 - X 1 = -(X 1 - X 0) from by omega]
  generalize X 1 - X 0 = e0
  simp only [Int.one_mul, Int.mul_one, Int.neg_mul, Int.mul_neg, Int.neg_neg]
  try ac_rfl
theorem wd_2_1 (X : Nat → Int) : sgT 2 1 * dfA X 1 2 2 * apN X 1 2 = vdA X 2 2 := by
  show (1 : Int) * ((1 * (1 * 1)) * 1) * ((1 * (X 1 - X 0)) * 1) = ((1 * (1 * (X 1 - X 0))) * 1)
  generalize X 1 - X 0 = e0
  simp only [Int.one_mul, Int.mul_one, Int.neg_mul, Int.mul_neg, Int.neg_neg]
  try ac_rfl
theorem wd_3_0 (X : Nat → Int) : sgT 3 0 * dfA X 0 3 3 * apN X 0 3 = vdA X 3 3 := by
  show (1 : Int) * (((1 * ((1 * 1) * 1)) * (1 * (X 2 - X 1))) * 1) * (((1 * 1) * (X 0 - X 1)) * (X 0 - X 2)) = (((1 * ((1 * (X 1 - X 0)) * (X 2 - X 0))) * (1 * (X 2 - X 1))) * 1)
  rw [show X 0 - X 1 = -(X 1 - X 0) from by omega]
  rw [show X 0 - X 2 = -(X 2 - X 0) from by omega]
  generalize X 1 - X 0 = e0
  generalize X 2 - X 0 = e1
  generalize X 2 - X 1 = e2
  simp only [Int.one_mul, Int.mul_one, Int.neg_mul, Int.mul_neg, Int.neg_neg]
  try ac_rfl
theorem wd_3_1 (X : Nat → Int) : sgT 3 1 * dfA X 1 3 3 * apN X 1 3 = vdA X 3 3 := by
  show (-1 : Int) * (((1 * ((1 * 1) * (X 2 - X 0))) * (1 * 1)) * 1) * (((1 * (X 1 - X 0)) * 1) * (X 1 - X 2)) = (((1 * ((1 * (X 1 - X 0)) * (X 2 - X 0))) * (1 * (X 2 - X 1))) * 1)
  rw [show X 1 - X 2 = -(X 2 - X 1) from by omega]
  generalize X 1 - X 0 = e0
  generalize X 2 - X 0 = e1
  generalize X 2 - X 1 = e2
  simp only [Int.one_mul, Int.mul_one, Int.neg_mul, Int.mul_neg, Int.neg_neg]
  try ac_rfl
theorem wd_3_2 (X : Nat → Int) : sgT 3 2 * dfA X 2 3 3 * apN X 2 3 = vdA X 3 3 := by
  show (1 : Int) * (((1 * ((1 * (X 1 - X 0)) * 1)) * (1 * 1)) * 1) * (((1 * (X 2 - X 0)) * (X 2 - X 1)) * 1) = (((1 * ((1 * (X 1 - X 0)) * (X 2 - X 0))) * (1 * (X 2 - X 1))) * 1)
  generalize X 1 - X 0 = e0
  generalize X 2 - X 0 = e1
  generalize X 2 - X 1 = e2
  simp only [Int.one_mul, Int.mul_one, Int.neg_mul, Int.mul_neg, Int.neg_neg]
  try ac_rfl
theorem wd_4_0 (X : Nat → Int) : sgT 4 0 * dfA X 0 4 4 * apN X 0 4 = vdA X 4 4 := by
  show (-1 : Int) * ((((1 * (((1 * 1) * 1) * 1)) * ((1 * (X 2 - X 1)) * (X 3 - X 1))) * (1 * (X 3 - X 2))) * 1) * ((((1 * 1) * (X 0 - X 1)) * (X 0 - X 2)) * (X 0 - X 3)) = ((((1 * (((1 * (X 1 - X 0)) * (X 2 - X 0)) * (X 3 - X 0))) * ((1 * (X 2 - X 1)) * (X 3 - X 1))) * (1 * (X 3 - X 2))) * 1)
  rw [show X 0 - X 1 = -(X 1 - X 0) from by omega]
  rw [show X 0 - X 2 = -(X 2 - X 0) from by omega]
  rw [show X 0 - X 3 = -(X 3 - X 0) from by omega]
  generalize X 1 - X 0 = e0
  generalize X 2 - X 0 = e1
  generalize X 3 - X 0 = e2
  generalize X 2 - X 1 = e3
  generalize X 3 - X 1 = e4
  generalize X 3 - X 2 = e5
  simp only [Int.one_mul, Int.mul_one, Int.neg_mul, Int.mul_neg, Int.neg_neg]
  try ac_rfl
theorem wd_4_1 (X : Nat → Int) : sgT 4 1 * dfA X 1 4 4 * apN X 1 4 = vdA X 4 4 := by
  show (1 : Int) * ((((1 * (((1 * 1) * (X 2 - X 0)) * (X 3 - X 0))) * ((1 * 1) * 1)) * (1 * (X 3 - X 2))) * 1) * ((((1 * (X 1 - X 0)) * 1) * (X 1 - X 2)) * (X 1 - X 3)) = ((((1 * (((1 * (X 1 - X 0)) * (X 2 - X 0)) * (X 3 - X 0))) * ((1 * (X 2 - X 1)) * (X 3 - X 1))) * (1 * (X 3 - X 2))) * 1)
  rw [show X 1 - X 2 = -(X 2 - X 1) from by omega]
  rw [show X 1 - X 3 = -(X 3 - X 1) from by omega]
  generalize X 1 - X 0 = e0
  generalize X 2 - X 0 = e1
  generalize X 3 - X 0 = e2
  generalize X 2 - X 1 = e3
  generalize X 3 - X 1 = e4
  generalize X 3 - X 2 = e5
  simp only [Int.one_mul, Int.mul_one, Int.neg_mul, Int.mul_neg, Int.neg_neg]
  try ac_rfl
theorem wd_4_2 (X : Nat → Int) : sgT 4 2 * dfA X 2 4 4 * apN X 2 4 = vdA X 4 4 := by
  show (-1 : Int) * ((((1 * (((1 * (X 1 - X 0)) * 1) * (X 3 - X 0))) * ((1 * 1) * (X 3 - X 1))) * (1 * 1)) * 1) * ((((1 * (X 2 - X 0)) * (X 2 - X 1)) * 1) * (X 2 - X 3)) = ((((1 * (((1 * (X 1 - X 0)) * (X 2 - X 0)) * (X 3 - X 0))) * ((1 * (X 2 - X 1)) * (X 3 - X 1))) * (1 * (X 3 - X 2))) * 1)
  rw [show X 2 - X 3 = -(X 3 - X 2) from by omega]
  generalize X 1 - X 0 = e0
  generalize X 2 - X 0 = e1
  generalize X 3 - X 0 = e2
  generalize X 2 - X 1 = e3
  generalize X 3 - X 1 = e4
  generalize X 3 - X 2 = e5
  simp only [Int.one_mul, Int.mul_one, Int.neg_mul, Int.mul_neg, Int.neg_neg]
  try ac_rfl
theorem wd_4_3 (X : Nat → Int) : sgT 4 3 * dfA X 3 4 4 * apN X 3 4 = vdA X 4 4 := by
  show (1 : Int) * ((((1 * (((1 * (X 1 - X 0)) * (X 2 - X 0)) * 1)) * ((1 * (X 2 - X 1)) * 1)) * (1 * 1)) * 1) * ((((1 * (X 3 - X 0)) * (X 3 - X 1)) * (X 3 - X 2)) * 1) = ((((1 * (((1 * (X 1 - X 0)) * (X 2 - X 0)) * (X 3 - X 0))) * ((1 * (X 2 - X 1)) * (X 3 - X 1))) * (1 * (X 3 - X 2))) * 1)
  generalize X 1 - X 0 = e0
  generalize X 2 - X 0 = e1
  generalize X 3 - X 0 = e2
  generalize X 2 - X 1 = e3
  generalize X 3 - X 1 = e4
  generalize X 3 - X 2 = e5
  simp only [Int.one_mul, Int.mul_one, Int.neg_mul, Int.mul_neg, Int.neg_neg]
  try ac_rfl
theorem wd_5_0 (X : Nat → Int) : sgT 5 0 * dfA X 0 5 5 * apN X 0 5 = vdA X 5 5 := by
  show (1 : Int) * (((((1 * ((((1 * 1) * 1) * 1) * 1)) * (((1 * (X 2 - X 1)) * (X 3 - X 1)) * (X 4 - X 1))) * ((1 * (X 3 - X 2)) * (X 4 - X 2))) * (1 * (X 4 - X 3))) * 1) * (((((1 * 1) * (X 0 - X 1)) * (X 0 - X 2)) * (X 0 - X 3)) * (X 0 - X 4)) = (((((1 * ((((1 * (X 1 - X 0)) * (X 2 - X 0)) * (X 3 - X 0)) * (X 4 - X 0))) * (((1 * (X 2 - X 1)) * (X 3 - X 1)) * (X 4 - X 1))) * ((1 * (X 3 - X 2)) * (X 4 - X 2))) * (1 * (X 4 - X 3))) * 1)
  rw [show X 0 - X 1 = -(X 1 - X 0) from by omega]
  rw [show X 0 - X 2 = -(X 2 - X 0) from by omega]
  rw [show X 0 - X 3 = -(X 3 - X 0) from by omega]
  rw [show X 0 - X 4 = -(X 4 - X 0) from by omega]
  generalize X 1 - X 0 = e0
  generalize X 2 - X 0 = e1
  generalize X 3 - X 0 = e2
  generalize X 4 - X 0 = e3
  generalize X 2 - X 1 = e4
  generalize X 3 - X 1 = e5
  generalize X 4 - X 1 = e6
  generalize X 3 - X 2 = e7
  generalize X 4 - X 2 = e8
  generalize X 4 - X 3 = e9
  simp only [Int.one_mul, Int.mul_one, Int.neg_mul, Int.mul_neg, Int.neg_neg]
  try ac_rfl
theorem wd_5_1 (X : Nat → Int) : sgT 5 1 * dfA X 1 5 5 * apN X 1 5 = vdA X 5 5 := by
  show (-1 : Int) * (((((1 * ((((1 * 1) * (X 2 - X 0)) * (X 3 - X 0)) * (X 4 - X 0))) * (((1 * 1) * 1) * 1)) * ((1 * (X 3 - X 2)) * (X 4 - X 2))) * (1 * (X 4 - X 3))) * 1) * (((((1 * (X 1 - X 0)) * 1) * (X 1 - X 2)) * (X 1 - X 3)) * (X 1 - X 4)) = (((((1 * ((((1 * (X 1 - X 0)) * (X 2 - X 0)) * (X 3 - X 0)) * (X 4 - X 0))) * (((1 * (X 2 - X 1)) * (X 3 - X 1)) * (X 4 - X 1))) * ((1 * (X 3 - X 2)) * (X 4 - X 2))) * (1 * (X 4 - X 3))) * 1)
  rw [show X 1 - X 2 = -(X 2 - X 1) from by omega]
  rw [show X 1 - X 3 = -(X 3 - X 1) from by omega]
  rw [show X 1 - X 4 = -(X 4 - X 1) from by omega]
  generalize X 1 - X 0 = e0
  generalize X 2 - X 0 = e1
  generalize X 3 - X 0 = e2
  generalize X 4 - X 0 = e3
  generalize X 2 - X 1 = e4
  generalize X 3 - X 1 = e5
  generalize X 4 - X 1 = e6
  generalize X 3 - X 2 = e7
  generalize X 4 - X 2 = e8
  generalize X 4 - X 3 = e9
  simp only [Int.one_mul, Int.mul_one, Int.neg_mul, Int.mul_neg, Int.neg_neg]
  try ac_rfl
theorem wd_5_2 (X : Nat → Int) : sgT 5 2 * dfA X 2 5 5 * apN X 2 5 = vdA X 5 5 := by
  show (1 : Int) * (((((1 * ((((1 * (X 1 - X 0)) * 1) * (X 3 - X 0)) * (X 4 - X 0))) * (((1 * 1) * (X 3 - X 1)) * (X 4 - X 1))) * ((1 * 1) * 1)) * (1 * (X 4 - X 3))) * 1) * (((((1 * (X 2 - X 0)) * (X 2 - X 1)) * 1) * (X 2 - X 3)) * (X 2 - X 4)) = (((((1 * ((((1 * (X 1 - X 0)) * (X 2 - X 0)) * (X 3 - X 0)) * (X 4 - X 0))) * (((1 * (X 2 - X 1)) * (X 3 - X 1)) * (X 4 - X 1))) * ((1 * (X 3 - X 2)) * (X 4 - X 2))) * (1 * (X 4 - X 3))) * 1)
  rw [show X 2 - X 3 = -(X 3 - X 2) from by omega]
  rw [show X 2 - X 4 = -(X 4 - X 2) from by omega]
  generalize X 1 - X 0 = e0
  generalize X 2 - X 0 = e1
  generalize X 3 - X 0 = e2
  generalize X 4 - X 0 = e3
  generalize X 2 - X 1 = e4
  generalize X 3 - X 1 = e5
  generalize X 4 - X 1 = e6
  generalize X 3 - X 2 = e7
  generalize X 4 - X 2 = e8
  generalize X 4 - X 3 = e9
  simp only [Int.one_mul, Int.mul_one, Int.neg_mul, Int.mul_neg, Int.neg_neg]
  try ac_rfl
theorem wd_5_3 (X : Nat → Int) : sgT 5 3 * dfA X 3 5 5 * apN X 3 5 = vdA X 5 5 := by
  show (-1 : Int) * (((((1 * ((((1 * (X 1 - X 0)) * (X 2 - X 0)) * 1) * (X 4 - X 0))) * (((1 * (X 2 - X 1)) * 1) * (X 4 - X 1))) * ((1 * 1) * (X 4 - X 2))) * (1 * 1)) * 1) * (((((1 * (X 3 - X 0)) * (X 3 - X 1)) * (X 3 - X 2)) * 1) * (X 3 - X 4)) = (((((1 * ((((1 * (X 1 - X 0)) * (X 2 - X 0)) * (X 3 - X 0)) * (X 4 - X 0))) * (((1 * (X 2 - X 1)) * (X 3 - X 1)) * (X 4 - X 1))) * ((1 * (X 3 - X 2)) * (X 4 - X 2))) * (1 * (X 4 - X 3))) * 1)
  rw [show X 3 - X 4 = -(X 4 - X 3) from by omega]
  generalize X 1 - X 0 = e0
  generalize X 2 - X 0 = e1
  generalize X 3 - X 0 = e2
  generalize X 4 - X 0 = e3
  generalize X 2 - X 1 = e4
  generalize X 3 - X 1 = e5
  generalize X 4 - X 1 = e6
  generalize X 3 - X 2 = e7
  generalize X 4 - X 2 = e8
  generalize X 4 - X 3 = e9
  simp only [Int.one_mul, Int.mul_one, Int.neg_mul, Int.mul_neg, Int.neg_neg]
  try ac_rfl
theorem wd_5_4 (X : Nat → Int) : sgT 5 4 * dfA X 4 5 5 * apN X 4 5 = vdA X 5 5 := by
  show (1 : Int) * (((((1 * ((((1 * (X 1 - X 0)) * (X 2 - X 0)) * (X 3 - X 0)) * 1)) * (((1 * (X 2 - X 1)) * (X 3 - X 1)) * 1)) * ((1 * (X 3 - X 2)) * 1)) * (1 * 1)) * 1) * (((((1 * (X 4 - X 0)) * (X 4 - X 1)) * (X 4 - X 2)) * (X 4 - X 3)) * 1) = (((((1 * ((((1 * (X 1 - X 0)) * (X 2 - X 0)) * (X 3 - X 0)) * (X 4 - X 0))) * (((1 * (X 2 - X 1)) * (X 3 - X 1)) * (X 4 - X 1))) * ((1 * (X 3 - X 2)) * (X 4 - X 2))) * (1 * (X 4 - X 3))) * 1)
  generalize X 1 - X 0 = e0
  generalize X 2 - X 0 = e1
  generalize X 3 - X 0 = e2
  generalize X 4 - X 0 = e3
  generalize X 2 - X 1 = e4
  generalize X 3 - X 1 = e5
  generalize X 4 - X 1 = e6
  generalize X 3 - X 2 = e7
  generalize X 4 - X 2 = e8
  generalize X 4 - X 3 = e9
  simp only [Int.one_mul, Int.mul_one, Int.neg_mul, Int.mul_neg, Int.neg_neg]
  try ac_rfl
theorem wd_all (X : Nat → Int) {n i : Nat} (hn : n ≤ 5) (hi : i < n) : sgT n i * dfA X i n n * apN X i n = vdA X n n := by
  rcases (show n = 1 ∨ n = 2 ∨ n = 3 ∨ n = 4 ∨ n = 5 by omega) with rfl | rfl | rfl | rfl | rfl
  · rcases (show i = 0 by omega) with rfl
    · exact wd_1_0 X
  · rcases (show i = 0 ∨ i = 1 by omega) with rfl | rfl
    · exact wd_2_0 X
    · exact wd_2_1 X
  · rcases (show i = 0 ∨ i = 1 ∨ i = 2 by omega) with rfl | rfl | rfl
    · exact wd_3_0 X
    · exact wd_3_1 X
    · exact wd_3_2 X
  · rcases (show i = 0 ∨ i = 1 ∨ i = 2 ∨ i = 3 by omega) with rfl | rfl | rfl | rfl
    · exact wd_4_0 X
    · exact wd_4_1 X
    · exact wd_4_2 X
    · exact wd_4_3 X
  · rcases (show i = 0 ∨ i = 1 ∨ i = 2 ∨ i = 3 ∨ i = 4 by omega) with rfl | rfl | rfl | rfl | rfl
    · exact wd_5_0 X
    · exact wd_5_1 X
    · exact wd_5_2 X
    · exact wd_5_3 X
    · exact wd_5_4 X
theorem plB_sorted {b : Nat → Bool} {l : List Nat} (hL : l = plB b 13) {i j : Nat} (hij : i < j) (hj : j < l.length) : nfP l i < nfP l j := by
  have h1 : l.Pairwise (fun a b => a < b) := by
    rw [hL]
    exact List.Pairwise.filter b List.pairwise_lt_range
  have h2 := List.pairwise_iff_getElem.mp h1 i j (by omega) hj hij
  simp only [nfP, List.getD_eq_getElem?_getD, List.getElem?_eq_getElem hj, List.getElem?_eq_getElem (show i < l.length by omega), Option.getD_some]
  exact h2
theorem nfX_lt {b : Nat → Bool} {l : List Nat} (hL : l = plB b 13) {i j : Nat} (hij : i < j) (hj : j < l.length) : nfX l i < nfX l j := by
  have := plB_sorted hL hij hj
  unfold nfX
  omega
theorem dfB_pos {X : Nat → Int} {c a n : Nat} (h : ∀ i j, i < j → j < n → X i < X j) : ∀ {k : Nat}, a + k + 1 ≤ n → 0 < dfB X c a k
  | 0, _ => show (0 : Int) < 1 by decide
  | k + 1, hk => by
    rw [dfB]
    refine Int.mul_pos (dfB_pos h (k := k) (by omega)) ?_
    split
    · decide
    · have := h a (a + k + 1) (by omega) (by omega)
      omega
theorem dfA_pos {X : Nat → Int} {c n : Nat} (h : ∀ i j, i < j → j < n → X i < X j) : ∀ {a : Nat}, a ≤ n → 0 < dfA X c n a
  | 0, _ => show (0 : Int) < 1 by decide
  | a + 1, ha => by
    rw [dfA]
    exact Int.mul_pos (dfA_pos h (a := a) (by omega)) (dfB_pos h (by omega))
theorem vdB_pos {X : Nat → Int} {a n : Nat} (h : ∀ i j, i < j → j < n → X i < X j) : ∀ {k : Nat}, a + k + 1 ≤ n → 0 < vdB X a k
  | 0, _ => show (0 : Int) < 1 by decide
  | k + 1, hk => by
    rw [vdB]
    have := h a (a + k + 1) (by omega) (by omega)
    exact Int.mul_pos (vdB_pos h (k := k) (by omega)) (by omega)
theorem vdA_pos {X : Nat → Int} {n : Nat} (h : ∀ i j, i < j → j < n → X i < X j) : ∀ {a : Nat}, a ≤ n → 0 < vdA X n a
  | 0, _ => show (0 : Int) < 1 by decide
  | a + 1, ha => by
    rw [vdA]
    exact Int.mul_pos (vdA_pos h (a := a) (by omega)) (vdB_pos h (by omega))
/-- the differences' weights -/
def wdD (X : Nat → Int) (n i : Nat) : Int := sgT n i * dfA X i n n
theorem WT_D {X : Nat → Int} {n : Nat} (hn : n ≤ 5) (h : ∀ i j, i < j → j < n → X i < X j) : WT X n (wdD X n) (vdA X n n) :=
  ⟨fun _ hi => wd_all X hn hi, fun i j h1 h2 q => by have := h i j h1 h2; omega⟩
theorem WT_w {X : Nat → Int} {n : Nat} (hdv : ∀ i, i < n → apN X i n ∣ 479001600) (h : ∀ i j, i < j → j < n → X i ≠ X j) : WT X n (wgt X n) (scl X n) := ⟨fun _ hi => wgt_ap hdv hi, h⟩
/-- the reference's sums -/
theorem bdN_sum (f g : Nat → Int) (n : Nat) : ∀ i, bdN f g n i = sumN (fun i => wdD f n i * g i) i
  | 0 => rfl
  | i + 1 => by
    rw [bdN, sumN, bdN_sum f g n i, wdD, sgT]
    split
    · rw [Int.one_mul]
    · rw [Int.neg_mul, Int.one_mul, Int.neg_mul]
theorem lvS_sum (R : Nat → Int) (l : List Nat) : ∀ i, lvS R l i = sumN (fun i => if R (nfP l i + 18) = 1 then dfA (nfX l) i l.length l.length * ((qv (fun j => R (j + 1)) ((nfP l i : Int) - 6)).natAbs : Int) else 0) i
  | 0 => rfl
  | i + 1 => by rw [lvS, sumN, lvS_sum R l i]
theorem msN_sum (l : List Nat) (Y Q : Nat → Int) : ∀ i, msN l Y Q i = sumN (fun i => msW l Q i * Y (nfP l i)) i
  | 0 => rfl
  | i + 1 => by rw [msN, sumN, msN_sum l Y Q i]
theorem mzN_sum (l : List Nat) (fx : Nat) (Q : Nat → Int) : ∀ i, mzN l fx Q i = sumN (fun i => if bt fx (nfP l i) = 1 then 0 else ((msW l Q i).natAbs : Int)) i
  | 0 => rfl
  | i + 1 => by rw [mzN, sumN, mzN_sum l fx Q i]
/-- one fraction, told twice -/
theorem red_eq {a b a2 b2 c e : Int} (hc : 0 < c) (he : 0 < e) (h1 : c * a = e * a2) (h2 : c * b = e * b2) (hb : 0 < b) (hb2 : 0 < b2) : (a.natAbs : Int).tdiv (Int.gcd a b : Int) = (a2.natAbs : Int).tdiv (Int.gcd a2 b2 : Int) ∧ b.tdiv (Int.gcd a b : Int) = b2.tdiv (Int.gcd a2 b2 : Int) := by
  have g1 := (gcd_rng (a := a) hb).1
  have g2 := (gcd_rng (a := a2) hb2).1
  have k1 : (c.natAbs * Int.gcd a b : Nat) = e.natAbs * Int.gcd a2 b2 := by
    rw [← Int.gcd_mul_left, ← Int.gcd_mul_left, h1, h2]
  have k2 : c * (Int.gcd a b : Int) = e * (Int.gcd a2 b2 : Int) := by
    have := congrArg (fun z : Nat => (z : Int)) k1
    simp only [Int.natCast_mul] at this
    rw [Int.natAbs_of_nonneg (by omega), Int.natAbs_of_nonneg (by omega)] at this
    exact this
  generalize (Int.gcd a b : Int) = g at *
  generalize (Int.gcd a2 b2 : Int) = g' at *
  have k3 : ∀ u v : Int, c * u = e * v → u.tdiv g = v.tdiv g' := fun u v huv => by
    rw [← Int.mul_tdiv_mul_of_pos u g hc, huv, k2, Int.mul_tdiv_mul_of_pos v g' he]
  refine ⟨k3 _ _ ?_, k3 _ _ h2⟩
  have q1 : c * (a.natAbs : Int) = ((c * a).natAbs : Int) := by rw [Int.natAbs_mul, Int.natCast_mul, Int.natAbs_of_nonneg (show 0 ≤ c by omega)]
  have q2 : e * (a2.natAbs : Int) = ((e * a2).natAbs : Int) := by rw [Int.natAbs_mul, Int.natCast_mul, Int.natAbs_of_nonneg (show 0 ≤ e by omega)]
  rw [q1, q2, h1]
