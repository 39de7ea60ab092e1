/-! what the reference's answers rest on -/
section
variable {R : Nat → Int} {th fx d w : Nat} {Y Q : Nat → Int}
theorem few_gok (hK : KR R th fx d w Y Q) (hC : COK th fx d w Y Q) (hm : pop th = d + 1) : GOK (nfX (lOf R 8191)) (fun j => nY R (nfP (lOf R 8191) j)) (d + 1) 1 := by
  have hl : (gLs th).length = d + 1 := (gLs_n th).trans hm
  have hd := hC.2.2.1
  have hst : ∀ i j, i < j → j < d + 1 → nfX (gLs th) i < nfX (gLs th) j := fun i j a b => nfX_lt (b := bB th) (l := gLs th) rfl a (by omega)
  have hb : ∀ i, i < d + 1 → -6 ≤ nfX (gLs th) i ∧ nfX (gLs th) i ≤ 6 := fun i a => nfX_b (b := bB th) (l := gLs th) rfl i (by omega)
  have h5 := vdA_pos hst (Nat.le_refl (d + 1))
  have h6 := vd_le (show d + 1 ≤ 4 by omega) hst hb
  have h7 := vdM_le (d + 1)
  rw [gLs_R hK hC]
  refine ⟨by omega, hb, by omega, fun p hp => ?_⟩
  refine up_bd (by omega) hst hb (fun i hi => ?_) hp
  have := nY_bd hK hC (gLs_in (show i < (gLs th).length by omega)).1
  show -864718279920 ≤ nY R (nfP (gLs th) i) ∧ nY R (nfP (gLs th) i) ≤ 864718279920
  omega
theorem ready_all (hK : KR R th fx d w Y Q) (hC : COK th fx d w Y Q) (hm : d + 1 ≤ pop th) : RDH R d := by
  have h0 : manyN R 0 13 = pop th := KR_m0 hK hC 13 (Nat.le_refl 13)
  by_cases q : pop th = d + 1
  · refine Or.inl ⟨by omega, ?_, few_gok hK hC q⟩
    rw [gLs_R hK hC]
    exact (gLs_n th).trans q
  · exact Or.inr ⟨by omega, _, (first_ref hK hC (by omega)).2.1, (first_ref hK hC (by omega)).2.2⟩
end
