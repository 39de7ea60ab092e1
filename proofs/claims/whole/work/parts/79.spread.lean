/-! how great products of differences of places can be -/
theorem vd4n : ∀ a, a < 13 → ∀ b, b < 13 → ∀ c, c < 13 → ∀ e, e < 13 → (b - a) * ((c - a) * (c - b)) * ((e - a) * (e - b) * (e - c)) ≤ 52488 := by decide +kernel
theorem vd3n : ∀ a, a < 13 → ∀ b, b < 13 → ∀ c, c < 13 → (b - a) * ((c - a) * (c - b)) ≤ 432 := by decide +kernel
theorem vd4i {x0 x1 x2 x3 : Int} (h0 : -6 ≤ x0) (h1 : x0 < x1) (h2 : x1 < x2) (h3 : x2 < x3) (h4 : x3 ≤ 6) : (x1 - x0) * ((x2 - x0) * (x2 - x1)) * ((x3 - x0) * (x3 - x1) * (x3 - x2)) ≤ 52488 := by
  have h := Int.ofNat_le.mpr (vd4n (x0 + 6).toNat (by omega) (x1 + 6).toNat (by omega) (x2 + 6).toNat (by omega) (x3 + 6).toNat (by omega))
  simp only [Int.natCast_mul] at h
  rw [show (((x1 + 6).toNat - (x0 + 6).toNat : Nat) : Int) = x1 - x0 by omega, show (((x2 + 6).toNat - (x0 + 6).toNat : Nat) : Int) = x2 - x0 by omega, show (((x2 + 6).toNat - (x1 + 6).toNat : Nat) : Int) = x2 - x1 by omega, show (((x3 + 6).toNat - (x0 + 6).toNat : Nat) : Int) = x3 - x0 by omega, show (((x3 + 6).toNat - (x1 + 6).toNat : Nat) : Int) = x3 - x1 by omega, show (((x3 + 6).toNat - (x2 + 6).toNat : Nat) : Int) = x3 - x2 by omega] at h
  exact h
theorem vd3i {x0 x1 x2 : Int} (h0 : -6 ≤ x0) (h1 : x0 < x1) (h2 : x1 < x2) (h4 : x2 ≤ 6) : (x1 - x0) * ((x2 - x0) * (x2 - x1)) ≤ 432 := by
  have h := Int.ofNat_le.mpr (vd3n (x0 + 6).toNat (by omega) (x1 + 6).toNat (by omega) (x2 + 6).toNat (by omega))
  simp only [Int.natCast_mul] at h
  rw [show (((x1 + 6).toNat - (x0 + 6).toNat : Nat) : Int) = x1 - x0 by omega, show (((x2 + 6).toNat - (x0 + 6).toNat : Nat) : Int) = x2 - x0 by omega, show (((x2 + 6).toNat - (x1 + 6).toNat : Nat) : Int) = x2 - x1 by omega] at h
  exact h
