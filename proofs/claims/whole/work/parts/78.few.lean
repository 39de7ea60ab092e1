/-! the fit through all of few points -/
section
variable {R : Nat → Int} {th fx d w : Nat} {Y Q : Nat → Int}
theorem gLs_e (th : Nat) : clL th 0 = gLs th := by
  rw [clL, gLs, Nat.zero_or]
theorem gLs_n (th : Nat) : (gLs th).length = pop th := plB_n th 13
theorem gLs_R (hK : KR R th fx d w Y Q) (hC : COK th fx d w Y Q) : lOf R 8191 = gLs th := by
  refine plB_cg (fun p hp => ?_)
  have h1 := hK.1 p hp
  have h2 := hC.2.2.2.2.1 p
  have h3 := bt_lt th p
  have h4 : bt 8191 p = 1 := (show bt 8191 p = if p < 13 then 1 else 0 from bt_ones 13 p).trans (if_pos hp)
  unfold selB bB
  refine decide_eq_decide.mpr ⟨fun q => ?_, fun q => ?_⟩ <;> omega
theorem gLs_WT (th : Nat) : WT (nfX (gLs th)) (gLs th).length (wgt (nfX (gLs th)) (gLs th).length) (scl (nfX (gLs th)) (gLs th).length) := by
  have h := cl_WT th 0
  rwa [gLs_e] at h
theorem gLs_dvd (th : Nat) : ∀ i, i < (gLs th).length → apN (nfX (gLs th)) i (gLs th).length ∣ 479001600 := by
  have h := cl_dvd th 0
  rwa [gLs_e] at h
theorem gLs_in {th i : Nat} (hi : i < (gLs th).length) : nfP (gLs th) i < 13 ∧ bt th (nfP (gLs th) i) = 1 := by
  have h := nd_place th 13 i hi
  exact ⟨h.1, h.2.1⟩
theorem glV_few (fx : Nat) (Y Q : Nat → Int) (l : List Nat) (i : Nat) : glV fx 1 0 0 Y Q l i = Y (nfP l i) * qv Q ((nfP l i : Int) - 6) := by
  rw [glV, Int.mul_one, Int.zero_mul, Int.neg_zero, Int.zero_mul]
  split
  · omega
  · split <;> omega
theorem gT_deg (fx : Nat) (Y Q : Nat → Int) (th : Nat) : ∀ k, (gLs th).length ≤ k → gT fx Y Q th k = 0 := fun k hk => by
  rw [gT, ptN_sum]
  exact sumN_zero (fun i hi => by rw [(onA_hi (nfX (gLs th)) 1 i (gLs th).length k).2 hi hk, Int.mul_zero])
/-- the class's numbers and the reference's -/
theorem gT_al (hK : KR R th fx d w Y Q) (hC : COK th fx d w Y Q) (hm : pop th = d + 1) : ∀ k, k < 4 → vdA (nfX (gLs th)) (d + 1) (d + 1) * gT fx Y Q th k = scl (nfX (gLs th)) (gLs th).length * alA (nfX (gLs th)) (fun j => nY R (nfP (gLs th) j)) (d + 1) (d + 1) k := by
  have hl : (gLs th).length = d + 1 := (gLs_n th).trans hm
  have hd := hC.2.2.1
  refine ev4_uniq (f := fun k => vdA (nfX (gLs th)) (d + 1) (d + 1) * gT fx Y Q th k) (g := fun k => scl (nfX (gLs th)) (gLs th).length * alA (nfX (gLs th)) (fun j => nY R (nfP (gLs th) j)) (d + 1) (d + 1) k) (xs := nfX (gLs th)) hd (fun k h1 _ => ?_) (fun k h1 _ => ?_) (fun i j h1 h2 q => ?_) (fun i hi => ?_)
  · show _ * _ = _
    rw [gT_deg fx Y Q th k (by omega), Int.mul_zero]
  · show _ * _ = _
    rw [alA_hi _ _ (d + 1) (d + 1) (Nat.le_refl _) k (by omega), Int.mul_zero]
  · have := nfX_lt (b := bB th) (l := gLs th) rfl h1 (by omega)
    omega
  · have hil : i < (gLs th).length := by omega
    have hin := gLs_in hil
    have e1 : ev4 (gT fx Y Q th) (nfX (gLs th) i) = scl (nfX (gLs th)) (gLs th).length * (Y (nfP (gLs th) i) * qv Q ((nfP (gLs th) i : Int) - 6)) := by
      have h1 : ev4 (gT fx Y Q th) (nfX (gLs th) i) = pv (gT fx Y Q th) ((gLs th).length - 1) (nfX (gLs th) i) := (ev4_pv _ _).trans (pv_hi (by omega) (fun k h1 _ => gT_deg fx Y Q th k (by omega)))
      rw [h1, gT, ptN_sum, WT_int (gLs_WT th) hil, glV_few]
    rw [ev4_smul, ev4_smul, e1, ← ev_up (show d + 1 ≤ 4 by omega) _ (d + 1) (Nat.le_refl _), upN_at (by omega) _ (by omega)]
    show _ = scl (nfX (gLs th)) (gLs th).length * (nY R (nfP (gLs th) i) * vdA (nfX (gLs th)) (d + 1) (d + 1))
    rw [nY_eq hK hin.1 hin.2]
    ac_rfl
theorem gB_parts (hm : pop th = d + 1) : 0 < scl (nfX (gLs th)) (gLs th).length ∧ 0 < gB0 th ∧ 0 < shG (gB0 th) (gT fx Y Q th) 4 ∧ shG (gB0 th) (gT fx Y Q th) 4 * gBe fx Y Q th = scl (nfX (gLs th)) (gLs th).length * 1 ∧ (∀ k, k < 4 → shG (gB0 th) (gT fx Y Q th) 4 * gP fx Y Q th k = gT fx Y Q th k) ∧ gBe fx Y Q th ≠ 0 := by
  have hl : (gLs th).length = d + 1 := (gLs_n th).trans hm
  have hs := (scl_p (gLs_dvd th) (by omega)).1
  have h0 : 0 < gB0 th := by
    rw [gB0]
    omega
  have h1 := shG_b (P := gT fx Y Q th) h0 4
  have h2 := shG_dvd (P := gT fx Y Q th) (b := gB0 th) 4
  have e1 : shG (gB0 th) (gT fx Y Q th) 4 * gBe fx Y Q th = gB0 th := by
    rw [Int.mul_comm]
    exact Int.tdiv_mul_cancel h2.1
  refine ⟨hs, h0, h1.1, e1, fun k hk => ?_, fun q => ?_⟩
  · rw [Int.mul_comm]
    exact Int.tdiv_mul_cancel (h2.2 k hk)
  · rw [q, Int.mul_zero] at e1
    omega
/-- a fit of the reference as its answers hold it: through all points -/
def XPF (R : Nat → Int) (d : Nat) (X P : Nat → Int) (c : Int) : Prop := c = 1 ∧ ∀ j, j < d + 1 → X j = nfX (lOf R 8191) j ∧ P j = nY R (nfP (lOf R 8191) j)
theorem XPF_v (hK : KR R th fx d w Y Q) (hC : COK th fx d w Y Q) (hm : pop th = d + 1) {X P : Nat → Int} {c : Int} (hX : XPF R d X P c) : c = 1 ∧ vdA X (d + 1) (d + 1) = vdA (nfX (gLs th)) (d + 1) (d + 1) ∧ (∀ x, upN X P x (d + 1) (d + 1) = upN (nfX (gLs th)) (fun j => nY R (nfP (gLs th) j)) x (d + 1) (d + 1)) ∧ alA X P (d + 1) (d + 1) = alA (nfX (gLs th)) (fun j => nY R (nfP (gLs th) j)) (d + 1) (d + 1) ∧ 0 < vdA (nfX (gLs th)) (d + 1) (d + 1) := by
  have hl := gLs_R hK hC
  have hX2 := hX.2
  rw [hl] at hX2
  have g1 : ∀ j, j < d + 1 → X j = nfX (gLs th) j := fun j hj => (hX2 j hj).1
  have g2 : ∀ j, j < d + 1 → P j = (fun j => nY R (nfP (gLs th) j)) j := fun j hj => (hX2 j hj).2
  refine ⟨hX.1, vdA_congr g1, fun x => upN_congr g1 g2, alA_cg g1 g2 (Nat.le_refl _), ?_⟩
  exact vdA_pos (fun i j h1 h2 => nfX_lt (b := bB th) (l := gLs th) rfl h1 (by have := gLs_n th; omega)) (Nat.le_refl (d + 1))
theorem few_part (hK : KR R th fx d w Y Q) (hC : COK th fx d w Y Q) (hm : pop th = d + 1) {X P : Nat → Int} {c : Int} (hX : XPF R d X P c) {j : Nat} (hj : j < 4) {z : Int} (hz : z = 0 ∨ z = 1 ∨ z = 2) :
    tlV z (fdU (alA X P (d + 1) (d + 1) j) (c * vdA X (d + 1) (d + 1))) (((c * vdA X (d + 1) (d + 1)).natAbs : Int).tdiv (Int.gcd (alA X P (d + 1) (d + 1) j) (c * vdA X (d + 1) (d + 1)) : Int)) = frV (gP fx Y Q th j) (gBe fx Y Q th) z := by
  have hB := gB_parts (fx := fx) (Y := Y) (Q := Q) hm
  have hv := XPF_v hK hC hm hX
  rw [hv.1, hv.2.1, hv.2.2.2.1]
  refine tl_fr hB.2.2.2.2.2 (by omega) ?_ hz
  refine cross hB.1 hB.2.2.1 ?_ hB.2.2.2.1
  rw [hB.2.2.2.2.1 j hj]
  exact gT_al hK hC hm j hj
theorem few_ev (hK : KR R th fx d w Y Q) (hC : COK th fx d w Y Q) (hm : pop th = d + 1) (x : Int) : vdA (nfX (gLs th)) (d + 1) (d + 1) * (shG (gB0 th) (gT fx Y Q th) 4 * ev4 (gP fx Y Q th) x) = scl (nfX (gLs th)) (gLs th).length * upN (nfX (gLs th)) (fun j => nY R (nfP (gLs th) j)) x (d + 1) (d + 1) := by
  have hB := gB_parts (fx := fx) (Y := Y) (Q := Q) hm
  have hd := hC.2.2.1
  have e1 : ev4 (gT fx Y Q th) x = shG (gB0 th) (gT fx Y Q th) 4 * ev4 (gP fx Y Q th) x := by
    rw [← ev4_smul]
    exact ev4_congr (fun k hk => (hB.2.2.2.2.1 k hk).symm)
  rw [← e1, ev_up (show d + 1 ≤ 4 by omega) _ (d + 1) (Nat.le_refl _), ← ev4_smul, ← ev4_smul]
  exact ev4_congr (gT_al hK hC hm)
theorem few_value (hK : KR R th fx d w Y Q) (hC : COK th fx d w Y Q) (hm : pop th = d + 1) {X P : Nat → Int} {c : Int} (hX : XPF R d X P c) {x : Int} (hx : qv Q x ≠ 0) {z : Int} (hz : z = 0 ∨ z = 1 ∨ z = 2) :
    tlV z (fdU (upN X P x (d + 1) (d + 1)) (qv (fun j => R (j + 1)) x * (c * vdA X (d + 1) (d + 1)))) (((qv (fun j => R (j + 1)) x * (c * vdA X (d + 1) (d + 1))).natAbs : Int).tdiv (Int.gcd (upN X P x (d + 1) (d + 1)) (qv (fun j => R (j + 1)) x * (c * vdA X (d + 1) (d + 1))) : Int)) = frV (ev4 (gP fx Y Q th) x) (gBe fx Y Q th * qv Q x) z := by
  have hB := gB_parts (fx := fx) (Y := Y) (Q := Q) hm
  have hv := XPF_v hK hC hm hX
  rw [hv.1, hv.2.1, hv.2.2.1, KR_qv hK]
  refine tl_fr (Int.mul_ne_zero hB.2.2.2.2.2 hx) (Int.mul_ne_zero hx (by omega)) ?_ hz
  have h := cross hB.1 hB.2.2.1 (few_ev hK hC hm x) hB.2.2.2.1
  have q1 : ev4 (gP fx Y Q th) x * (qv Q x * (1 * vdA (nfX (gLs th)) (d + 1) (d + 1))) = ev4 (gP fx Y Q th) x * (1 * vdA (nfX (gLs th)) (d + 1) (d + 1)) * qv Q x := by ac_rfl
  rw [q1, h]
  ac_rfl
theorem few_error (hK : KR R th fx d w Y Q) (hC : COK th fx d w Y Q) (hQ : NPL th Q) (hm : pop th = d + 1) {X P : Nat → Int} {c : Int} (hX : XPF R d X P c) {p : Nat} (hp : p < 13) (htp : bt th p = 1) {z : Int} (hz : z = 0 ∨ z = 1 ∨ z = 2) :
    tlV z (eUG R X P (d + 1) c p) (eDG R X P (d + 1) c p) = frV (gpV (gBe fx Y Q th) (gP fx Y Q th) Y Q p) (gBe fx Y Q th * qv Q ((p : Int) - 6)) z := by
  have hB := gB_parts (fx := fx) (Y := Y) (Q := Q) hm
  have hv := XPF_v hK hC hm hX
  have hx := hQ p hp htp
  have he := few_ev (fx := fx) hK hC hm ((p : Int) - 6)
  have e1 : uG R X P (d + 1) c p = Y p * qv Q ((p : Int) - 6) * (1 * vdA (nfX (gLs th)) (d + 1) (d + 1)) - upN (nfX (gLs th)) (fun j => nY R (nfP (gLs th) j)) ((p : Int) - 6) (d + 1) (d + 1) := by
    rw [uG, hv.1, hv.2.1, hv.2.2.1, nY_eq hK hp htp]
  have e2 : wG R X (d + 1) c p = qv Q ((p : Int) - 6) * (1 * vdA (nfX (gLs th)) (d + 1) (d + 1)) := by
    rw [wG, hv.1, hv.2.1, KR_qv hK]
  have h1 : vdA (nfX (gLs th)) (d + 1) (d + 1) * (shG (gB0 th) (gT fx Y Q th) 4 * gpV (gBe fx Y Q th) (gP fx Y Q th) Y Q p) = scl (nfX (gLs th)) (gLs th).length * uG R X P (d + 1) c p := by
    rw [e1, gpV, Int.mul_sub, Int.mul_sub, Int.mul_sub, he]
    congr 1
    have q1 : vdA (nfX (gLs th)) (d + 1) (d + 1) * (shG (gB0 th) (gT fx Y Q th) 4 * (gBe fx Y Q th * Y p * qv Q ((p : Int) - 6))) = vdA (nfX (gLs th)) (d + 1) (d + 1) * ((shG (gB0 th) (gT fx Y Q th) 4 * gBe fx Y Q th) * (Y p * qv Q ((p : Int) - 6))) := by ac_rfl
    rw [q1, hB.2.2.2.1]
    ac_rfl
  rw [eUG, eDG, e2]
  refine tl_fr (Int.mul_ne_zero hB.2.2.2.2.2 hx) (Int.mul_ne_zero hx (by omega)) ?_ hz
  have h := cross hB.1 hB.2.2.1 h1 hB.2.2.2.1
  have q1 : gpV (gBe fx Y Q th) (gP fx Y Q th) Y Q p * (qv Q ((p : Int) - 6) * (1 * vdA (nfX (gLs th)) (d + 1) (d + 1))) = gpV (gBe fx Y Q th) (gP fx Y Q th) Y Q p * (1 * vdA (nfX (gLs th)) (d + 1) (d + 1)) * qv Q ((p : Int) - 6) := by ac_rfl
  rw [q1, h]
  ac_rfl
end
