/-! bounds of the class's fits: what is left to bound -/
section
variable {R : Nat → Int} {th fx d w s : Nat} {Y Q : Nat → Int}
theorem gap_le (h : 0 < cB0 fx Y Q s) (p : Nat) : ((cGp fx Y Q s p).natAbs : Int) ≤ ((uC fx Y Q s p).natAbs : Int) := by
  have h1 := uC_gap h p
  exact abs_of_mul h1.1 (h1.2.trans (Int.mul_comm _ _))
theorem cSO_of (hK : KR R th fx d w Y Q) (hC : COK th fx d w Y Q) (hQ : NPL th Q) (hs : s < 8192) (hr : refP R s) (hT : ∀ k, k < 4 → -9223372036854775807 ≤ cT fx Y Q s k ∧ cT fx Y Q s k ≤ 9223372036854775807) (hu : ∀ p, p < 13 → -71000000000000000 ≤ uC fx Y Q s p ∧ uC fx Y Q s p ≤ 71000000000000000) : cSO fx Y Q s := by
  have h1 := cS_1 hK hC hQ hs hr
  have hg : ∀ p, p < 13 → -71000000000000000 ≤ cGp fx Y Q s p ∧ cGp fx Y Q s p ≤ 71000000000000000 := fun p hp => by
    have h2 := gap_le h1.2.2.2.2.2.1 p
    have h3 := hu p hp
    omega
  refine ⟨h1.1, h1.2.1, h1.2.2.1, h1.2.2.2.1, h1.2.2.2.2.1, h1.2.2.2.2.2, hT, fun a b ha hb => ?_, fun a ha => ?_⟩
  · have h2 := hg a ha
    have h3 := qv_bd hC hb
    have h4 := mul_bd (a := cGp fx Y Q s a) (b := qv Q ((b : Int) - 6)) (A := 71000000000000000) (B := 129) h2.1 h2.2 h3.1 h3.2
    omega
  · have h2 := hg a ha
    exact ⟨by omega, by omega⟩
end
