/-! bounds of the class's fits: what crude bounds give -/
section
variable {R : Nat → Int} {th fx d w s : Nat} {Y Q : Nat → Int}
theorem ms_bd (hC : COK th fx d w Y Q) (hr2 : ∀ p, bt s p = 1 → bt th p = 1 ∧ bt fx p = 0) (hl : (clL fx s).length = d + 2) {i : Nat} (hi : i < (clL fx s).length) : -61791206400 ≤ msW (clL fx s) Q i ∧ msW (clL fx s) Q i ≤ 61791206400 := by
  have hn := nd_in hC hr2 hi
  have h1 := wgt_b (cl_dvd fx s) hi
  have h2 := qv_bd hC hn.1
  exact mul_bd (A := 479001600) (B := 129) h1.1 h1.2.1 h2.1 h2.2
theorem cS_1 (hK : KR R th fx d w Y Q) (hC : COK th fx d w Y Q) (hQ : NPL th Q) (hs : s < 8192) (hr : refP R s) : ((clL fx s).length ≤ 5 ∧ 0 < (clL fx s).length) ∧ (∀ i, i < (clL fx s).length → apN (nfX (clL fx s)) i (clL fx s).length ∣ 479001600) ∧ (∀ i, i < (clL fx s).length → -9223372036854775807 ≤ msW (clL fx s) Q i ∧ msW (clL fx s) Q i ≤ 9223372036854775807) ∧
    (-9223372036854775807 ≤ msN (clL fx s) Y Q (clL fx s).length ∧ msN (clL fx s) Y Q (clL fx s).length ≤ 9223372036854775807) ∧ (0 < mzN (clL fx s) fx Q (clL fx s).length ∧ mzN (clL fx s) fx Q (clL fx s).length ≤ 9223372036854775807) ∧ (0 < cB0 fx Y Q s ∧ cB0 fx Y Q s ≤ 9223372036854775807) := by
  have hl := ref_len hK hC hs hr
  have hd := hC.2.2.1
  have hr2 := ((KR_ref hK hC hs).mp hr).1
  have hB := cB_pos hK hC hQ hs hr
  have hab := ab_bd hK hC hQ hs hr
  have hsc := scl_p (cl_dvd fx s) (show 0 < (clL fx s).length by omega)
  have h5 : (((clL fx s).length : Nat) : Int) ≤ 5 := by omega
  refine ⟨⟨by omega, by omega⟩, cl_dvd fx s, fun i hi => ?_, ?_, ⟨(lev_eq hK hC hQ hs hr).1, ?_⟩, hB.2.2.2, ?_⟩
  · have := ms_bd hC hr2 hl hi
    omega
  · rw [msN_sum]
    have h := sum_bd (B := 6117329433600) (n := (clL fx s).length) (f := fun i => msW (clL fx s) Q i * Y (nfP (clL fx s) i)) (fun i hi => by
      have h1 := ms_bd hC hr2 hl hi
      have h2 := hC.2.2.2.2.2.2.2.1 _ (nd_in hC hr2 hi).1
      exact mul_bd (A := 61791206400) (B := 99) h1.1 h1.2 h2.1 h2.2)
    have h6 : (((clL fx s).length : Nat) : Int) * 6117329433600 ≤ 5 * 6117329433600 := Int.mul_le_mul_of_nonneg_right h5 (by decide)
    omega
  · rw [mzN_sum]
    have h := sum_bd (B := 61791206400) (n := (clL fx s).length) (f := fun i => if bt fx (nfP (clL fx s) i) = 1 then 0 else ((msW (clL fx s) Q i).natAbs : Int)) (fun i hi => by
      have h1 := ms_bd hC hr2 hl hi
      have h2 : ((msW (clL fx s) Q i).natAbs : Int) ≤ 61791206400 := by omega
      have h3 : (-61791206400 : Int) ≤ ((msW (clL fx s) Q i).natAbs : Int) := by omega
      by_cases q : bt fx (nfP (clL fx s) i) = 1
      · rw [if_pos q]
        exact ⟨by decide, by decide⟩
      · rw [if_neg q]
        exact ⟨h3, h2⟩)
    have h6 : (((clL fx s).length : Nat) : Int) * 61791206400 ≤ 5 * 61791206400 := Int.mul_le_mul_of_nonneg_right h5 (by decide)
    omega
  · rw [hB.2.2.1]
    have h := mul_bd (a := scl (nfX (clL fx s)) (clL fx s).length) (b := bOf R s) (A := 479001600) (B := 33854760) (by omega) (by omega) (by omega) (by omega)
    omega
end
