/-! the class's polynomial and the reference's are one -/
theorem sg_term {n i r fa m pf : Nat} {x : Int} (h1 : n = m + pf) (h2 : i + fa = r + pf) (h3 : r < m) : sgT n i * (if (r + fa) % 2 = 0 then x else -x) = if m % 2 = 1 then x else -x := by
  rcases sgT_a n i with ⟨e, q⟩ | ⟨e, q⟩
  · rw [e, Int.one_mul]
    by_cases z : m % 2 = 1
    · rw [if_pos z, if_pos (by omega)]
    · rw [if_neg z, if_neg (by omega)]
  · rw [e]
    by_cases z : m % 2 = 1
    · rw [if_pos z, if_neg (by omega)]
      omega
    · rw [if_neg z, if_pos (by omega)]
      omega
theorem shG_dvd {P : Nat → Int} {b : Int} : ∀ k, shG b P k ∣ b ∧ ∀ j, j < k → shG b P k ∣ P j
  | 0 => ⟨Int.dvd_refl b, fun j hj => absurd hj (Nat.not_lt_zero j)⟩
  | k + 1 => by
    have ih := shG_dvd (P := P) (b := b) k
    have h1 : shG b P (k + 1) ∣ shG b P k := Int.gcd_dvd_left ..
    have h2 : shG b P (k + 1) ∣ P k := Int.gcd_dvd_right ..
    refine ⟨Int.dvd_trans h1 ih.1, fun j hj => ?_⟩
    by_cases e : j = k
    · rw [e]; exact h2
    · exact Int.dvd_trans h1 (ih.2 j (by omega))
/-- the error at a place, times all that lies below -/
def uC (fx : Nat) (Y Q : Nat → Int) (s p : Nat) : Int := Y p * qv Q ((p : Int) - 6) * cB0 fx Y Q s - ev4 (cT fx Y Q s) ((p : Int) - 6)
theorem uC_gap {fx s : Nat} {Y Q : Nat → Int} (h : 0 < cB0 fx Y Q s) (p : Nat) : 0 < cG fx Y Q s ∧ uC fx Y Q s p = cG fx Y Q s * cGp fx Y Q s p := by
  have h1 := shG_b (P := cT fx Y Q s) h 4
  have h2 := shG_dvd (P := cT fx Y Q s) (b := cB0 fx Y Q s) 4
  refine ⟨h1.1, ?_⟩
  have e1 : cBe fx Y Q s * cG fx Y Q s = cB0 fx Y Q s := Int.tdiv_mul_cancel h2.1
  have e2 : ∀ k, k < 4 → cG fx Y Q s * cP fx Y Q s k = cT fx Y Q s k := fun k hk => by
    rw [Int.mul_comm]
    exact Int.tdiv_mul_cancel (h2.2 k hk)
  have e3 : ev4 (cT fx Y Q s) ((p : Int) - 6) = cG fx Y Q s * ev4 (cP fx Y Q s) ((p : Int) - 6) := by
    rw [← ev4_smul]
    exact ev4_congr (fun k hk => (e2 k hk).symm)
  rw [uC, cGp, gpV, e3, ← e1, Int.mul_sub]
  congr 1
  ac_rfl
section
variable {R : Nat → Int} {th fx d w s : Nat} {Y Q : Nat → Int}
theorem nd_rank (hK : KR R th fx d w Y Q) (hC : COK th fx d w Y Q) (hs : s < 8192) (hr : refP R s) {i : Nat} (hi : i < (clL fx s).length) (hf : bt fx (nfP (clL fx s) i) = 0) : (clL fx s).length = pop s + pop fx ∧ i + fxA R (nfP (clL fx s) i) (12 - nfP (clL fx s) i) = frC R (clL fx s) i + pop fx ∧ frC R (clL fx s) i < pop s ∧ frC R (clL fx s) i = popN s (nfP (clL fx s) i) := by
  have hr2 := ((KR_ref hK hC hs).mp hr).1
  have hn := nd_in hC hr2 hi
  have hp := nd_place (s ||| fx) 13 i hi
  have h1 := pop_or (a := s) (b := fx) (fun p hp => (hr2 p hp).2)
  have h2 := h1 (nfP (clL fx s) i)
  have h3 := h1 13
  have h4 := frK_rank (fun p hp => (hr2 p hp).2) hi
  have h5 := frC_eq hK hC hr2 i (by omega)
  have h6 := (tau_e hK hC hn.1 hf).2
  have h7 := plB_n (s ||| fx) 13
  have h8 := popN_lt13 (th := s) hn.1
  have h9 : popN (s ||| fx) (nfP (clL fx s) i) = i := hp.2.2.1
  have h10 : (clL fx s).length = popN (s ||| fx) 13 := h7
  unfold pop at *
  omega
/-- weights of differences times the values at the nodes are 0 together -/
theorem fp_zero (hK : KR R th fx d w Y Q) (hC : COK th fx d w Y Q) (hQ : NPL th Q) (hs : s < 8192) (hr : refP R s) : sumN (fun i => wdD (nfX (clL fx s)) (clL fx s).length i * fpV R (clL fx s) (aOf R s) (bOf R s) i) (clL fx s).length = 0 := by
  obtain ⟨g, o, b, hg, e1, e2, e3, e4, e5⟩ := aOf_c hK hC hQ hs hr
  have hr2 := ((KR_ref hK hC hs).mp hr).1
  have hT : ∀ i, i < (clL fx s).length → wdD (nfX (clL fx s)) (clL fx s).length i * fpV R (clL fx s) (aOf R s) (bOf R s) i = b * (wdD (nfX (clL fx s)) (clL fx s).length i * nfY R (clL fx s) i) + -o * (if R (nfP (clL fx s) i + 18) = 1 then dfA (nfX (clL fx s)) i (clL fx s).length (clL fx s).length * ((qv (fun j => R (j + 1)) ((nfP (clL fx s) i : Int) - 6)).natAbs : Int) else 0) := fun i hi => by
    have hn := nd_in hC hr2 hi
    have hk := hK.1 _ hn.1
    rw [fpV, e3, nfY]
    by_cases q : R (nfP (clL fx s) i + 18) = 1
    · rw [if_pos q, if_pos q]
      have hd := nd_rank hK hC hs hr hi (by omega)
      have ht := sg_term (x := aOf R s * ((qv (fun j => R (j + 1)) ((nfP (clL fx s) i : Int) - 6)).natAbs : Int)) hd.1 hd.2.1 hd.2.2.1
      have ho : (if pop s % 2 = 1 then aOf R s * ((qv (fun j => R (j + 1)) ((nfP (clL fx s) i : Int) - 6)).natAbs : Int) else -(aOf R s * ((qv (fun j => R (j + 1)) ((nfP (clL fx s) i : Int) - 6)).natAbs : Int))) = o * ((qv (fun j => R (j + 1)) ((nfP (clL fx s) i : Int) - 6)).natAbs : Int) := by
        rw [e5]
        split
        · rfl
        · rw [Int.neg_mul, Int.neg_neg]
      rw [ho] at ht
      rw [wdD]
      generalize (if (frC R (clL fx s) i + fxA R (nfP (clL fx s) i) (12 - nfP (clL fx s) i)) % 2 = 0 then aOf R s * ((qv (fun j => R (j + 1)) ((nfP (clL fx s) i : Int) - 6)).natAbs : Int) else -(aOf R s * ((qv (fun j => R (j + 1)) ((nfP (clL fx s) i : Int) - 6)).natAbs : Int))) = z at *
      generalize ((qv (fun j => R (j + 1)) ((nfP (clL fx s) i : Int) - 6)).natAbs : Int) = q at *
      generalize dfA (nfX (clL fx s)) i (clL fx s).length (clL fx s).length = D at *
      generalize sgT (clL fx s).length i = S at *
      generalize nY R (nfP (clL fx s) i) = y at *
      have e : S * D * (y * b - z) = b * (S * D * y) + -(D * (S * z)) := by
        rw [Int.mul_sub, show S * D * z = D * (S * z) from by ac_rfl, show S * D * (y * b) = b * (S * D * y) from by ac_rfl]
        omega
      rw [e, ht, Int.neg_mul]
      congr 2
      ac_rfl
    · rw [if_neg q, if_neg q, Int.mul_zero, Int.add_zero]
      ac_rfl
  rw [sumN_congr hT, sumN_add, sumN_mul, sumN_mul, ← lvS_sum, e2]
  have hO : sumN (fun i => wdD (nfX (clL fx s)) (clL fx s).length i * nfY R (clL fx s) i) (clL fx s).length = o * g := by
    rw [← e1, lvO, bdN_sum]
  rw [hO, Int.neg_mul, show b * (o * g) = o * (b * g) from by ac_rfl]
  omega
theorem gl_zero (hK : KR R th fx d w Y Q) (hC : COK th fx d w Y Q) (hQ : NPL th Q) (hs : s < 8192) (hr : refP R s) : sumN (fun i => wgt (nfX (clL fx s)) (clL fx s).length i * glV fx (cD fx Y Q s) (cU fx Y Q s) (cL fx Y Q s) Y Q (clL fx s) i) (clL fx s).length = 0 := by
  have h0 := fp_zero hK hC hQ hs hr
  have hl := ref_len hK hC hs hr
  have hd := hC.2.2.1
  have hW := cl_WT fx s
  have hD := cl_WD fx s (by omega)
  have hX : ∀ i j, i < j → j < (clL fx s).length → nfX (clL fx s) i < nfX (clL fx s) j := fun i j h1 h2 => nfX_lt (b := bB (s ||| fx)) rfl h1 h2
  have hv := vdA_pos hX (Nat.le_refl _)
  have e : vdA (nfX (clL fx s)) (clL fx s).length (clL fx s).length * sumN (fun i => wgt (nfX (clL fx s)) (clL fx s).length i * glV fx (cD fx Y Q s) (cU fx Y Q s) (cL fx Y Q s) Y Q (clL fx s) i) (clL fx s).length = scl (nfX (clL fx s)) (clL fx s).length * sumN (fun i => wdD (nfX (clL fx s)) (clL fx s).length i * fpV R (clL fx s) (aOf R s) (bOf R s) i) (clL fx s).length := by
    rw [← sumN_mul, ← sumN_mul]
    refine sumN_congr (fun i hi => ?_)
    rw [gl_eq hK hC hQ hs hr hi, ← Int.mul_assoc, Int.mul_comm (vdA _ _ _), WT_prop hW hD hi]
    ac_rfl
  rw [h0, Int.mul_zero] at e
  rcases Int.mul_eq_zero.mp e with q | q
  · omega
  · exact q
theorem cT_sum (fx : Nat) (Y Q : Nat → Int) (s : Nat) : cT fx Y Q s = fun k => sumN (fun i => wgt (nfX (clL fx s)) (clL fx s).length i * glV fx (cD fx Y Q s) (cU fx Y Q s) (cL fx Y Q s) Y Q (clL fx s) i * onA (nfX (clL fx s)) 1 i (clL fx s).length k) (clL fx s).length := ptN_sum _ _ _ _ _
theorem cT_deg (hK : KR R th fx d w Y Q) (hC : COK th fx d w Y Q) (hQ : NPL th Q) (hs : s < 8192) (hr : refP R s) : ∀ k, d < k → cT fx Y Q s k = 0 := fun k hk => by
  have hl := ref_len hK hC hs hr
  rw [cT_sum]
  show sumN (fun i => wgt (nfX (clL fx s)) (clL fx s).length i * glV fx (cD fx Y Q s) (cU fx Y Q s) (cL fx Y Q s) Y Q (clL fx s) i * onA (nfX (clL fx s)) 1 i (clL fx s).length k) (clL fx s).length = 0
  by_cases e : k = d + 1
  · rw [← gl_zero hK hC hQ hs hr]
    refine sumN_congr (fun i hi => ?_)
    rw [show k = (clL fx s).length - 1 from by omega, (onA_top (nfX (clL fx s)) 1 i (clL fx s).length).2 hi, Int.mul_one]
  · refine sumN_zero (fun i hi => ?_)
    rw [(onA_hi (nfX (clL fx s)) 1 i (clL fx s).length k).2 hi (by omega), Int.mul_zero]
/-- the class's polynomial at the nodes -/
theorem cT_at (hK : KR R th fx d w Y Q) (hC : COK th fx d w Y Q) (hQ : NPL th Q) (hs : s < 8192) (hr : refP R s) {j : Nat} (hj : j < (clL fx s).length) : ev4 (cT fx Y Q s) (nfX (clL fx s) j) = scl (nfX (clL fx s)) (clL fx s).length * fpV R (clL fx s) (aOf R s) (bOf R s) j := by
  have hl := ref_len hK hC hs hr
  have hd := hC.2.2.1
  have hdg := cT_deg hK hC hQ hs hr
  have h1 : ev4 (cT fx Y Q s) (nfX (clL fx s) j) = pv (cT fx Y Q s) d (nfX (clL fx s) j) := (ev4_pv _ _).trans (pv_hi hd (fun k h1 _ => hdg k h1))
  have h2 : pv (cT fx Y Q s) ((clL fx s).length - 1) (nfX (clL fx s) j) = pv (cT fx Y Q s) d (nfX (clL fx s) j) := pv_hi (by omega) (fun k h1 _ => hdg k h1)
  rw [h1, ← h2, ← gl_eq hK hC hQ hs hr hj, cT_sum]
  exact WT_int (cl_WT fx s) hj
/-- one polynomial -/
theorem cT_al (hK : KR R th fx d w Y Q) (hC : COK th fx d w Y Q) (hQ : NPL th Q) (hs : s < 8192) (hr : refP R s) : ∀ k, k < 4 → vdA (nfX (clL fx s)) (d + 1) (d + 1) * cT fx Y Q s k = scl (nfX (clL fx s)) (clL fx s).length * alA (nfX (clL fx s)) (fpV R (clL fx s) (aOf R s) (bOf R s)) (d + 1) (d + 1) k := by
  have hl := ref_len hK hC hs hr
  have hd := hC.2.2.1
  have hdg := cT_deg hK hC hQ hs hr
  refine ev4_uniq (f := fun k => vdA (nfX (clL fx s)) (d + 1) (d + 1) * cT fx Y Q s k) (g := fun k => scl (nfX (clL fx s)) (clL fx s).length * alA (nfX (clL fx s)) (fpV R (clL fx s) (aOf R s) (bOf R s)) (d + 1) (d + 1) k) (xs := nfX (clL fx s)) hd (fun k h1 _ => ?_) (fun k h1 _ => ?_) (fun i j h1 h2 q => ?_) (fun i hi => ?_)
  · show _ * _ = _
    rw [hdg k h1, Int.mul_zero]
  · show _ * _ = _
    rw [alA_hi _ _ (d + 1) (d + 1) (Nat.le_refl _) k (by omega), Int.mul_zero]
  · have := nfX_lt (b := bB (s ||| fx)) (l := clL fx s) rfl h1 (by omega)
    omega
  · rw [ev4_smul, ev4_smul, cT_at hK hC hQ hs hr (by omega), ← ev_up (show d + 1 ≤ 4 by omega) _ (d + 1) (Nat.le_refl _), upN_at (by omega) _ (by omega)]
    ac_rfl
/-- the errors of the class and of the reference -/
theorem u_rel (hK : KR R th fx d w Y Q) (hC : COK th fx d w Y Q) (hQ : NPL th Q) (hs : s < 8192) (hr : refP R s) {p : Nat} (hp : p < 13) (ht : bt th p = 1) : vdA (nfX (clL fx s)) (d + 1) (d + 1) * uC fx Y Q s p = scl (nfX (clL fx s)) (clL fx s).length * uG R (nfX (clL fx s)) (fpV R (clL fx s) (aOf R s) (bOf R s)) (d + 1) (bOf R s) p := by
  have hd := hC.2.2.1
  have hl := lev_eq hK hC hQ hs hr
  have h1 := cT_al hK hC hQ hs hr
  have e1 : vdA (nfX (clL fx s)) (d + 1) (d + 1) * ev4 (cT fx Y Q s) ((p : Int) - 6) = scl (nfX (clL fx s)) (clL fx s).length * ev4 (alA (nfX (clL fx s)) (fpV R (clL fx s) (aOf R s) (bOf R s)) (d + 1) (d + 1)) ((p : Int) - 6) := by
    rw [← ev4_smul, ← ev4_smul]
    exact ev4_congr h1
  rw [uC, uG, ev_up (show d + 1 ≤ 4 by omega) _ (d + 1) (Nat.le_refl _), Int.mul_sub, Int.mul_sub, e1, nY_eq hK hp ht, cB0, hl.2.2]
  congr 1
  ac_rfl
/-- the error at a node -/
theorem u_node (hK : KR R th fx d w Y Q) (hC : COK th fx d w Y Q) (hQ : NPL th Q) (hs : s < 8192) (hr : refP R s) {i : Nat} (hi : i < (clL fx s).length) : uC fx Y Q s (nfP (clL fx s) i) = scl (nfX (clL fx s)) (clL fx s).length * (if bt fx (nfP (clL fx s) i) = 1 then 0 else (if (popN s (nfP (clL fx s) i) + toV fx (nfP (clL fx s) i)) % 2 = 0 then aOf R s * ((qv Q ((nfP (clL fx s) i : Int) - 6)).natAbs : Int) else -(aOf R s * ((qv Q ((nfP (clL fx s) i : Int) - 6)).natAbs : Int)))) := by
  have hl := lev_eq hK hC hQ hs hr
  have hr2 := ((KR_ref hK hC hs).mp hr).1
  have hn := nd_in hC hr2 hi
  have hk := hK.1 _ hn.1
  have h1 := cT_at hK hC hQ hs hr hi
  have e0 : ((nfP (clL fx s) i : Nat) : Int) - 6 = nfX (clL fx s) i := rfl
  rw [uC, e0, h1, fpV, nY_eq hK hn.1 hn.2.1, KR_qv hK, cB0, hl.2.2, e0]
  by_cases q : bt fx (nfP (clL fx s) i) = 1
  · rw [if_pos q, if_neg (show ¬ R (nfP (clL fx s) i + 18) = 1 by omega), Int.mul_zero]
    have : Y (nfP (clL fx s) i) * qv Q (nfX (clL fx s) i) * (scl (nfX (clL fx s)) (clL fx s).length * bOf R s) = scl (nfX (clL fx s)) (clL fx s).length * (Y (nfP (clL fx s) i) * qv Q (nfX (clL fx s) i) * bOf R s) := by ac_rfl
    omega
  · have hnr := nd_rank hK hC hs hr hi (by omega)
    have htt := (tau_e hK hC hn.1 (show bt fx (nfP (clL fx s) i) = 0 by omega)).1
    rw [if_neg q, if_pos (show R (nfP (clL fx s) i + 18) = 1 by omega), hnr.2.2.2, show (popN s (nfP (clL fx s) i) + fxA R (nfP (clL fx s) i) (12 - nfP (clL fx s) i)) % 2 = (popN s (nfP (clL fx s) i) + toV fx (nfP (clL fx s) i)) % 2 from by omega]
    generalize (if (popN s (nfP (clL fx s) i) + toV fx (nfP (clL fx s) i)) % 2 = 0 then aOf R s * ((qv Q (nfX (clL fx s) i)).natAbs : Int) else -(aOf R s * ((qv Q (nfX (clL fx s) i)).natAbs : Int))) = z
    rw [Int.mul_sub, show Y (nfP (clL fx s) i) * qv Q (nfX (clL fx s) i) * (scl (nfX (clL fx s)) (clL fx s).length * bOf R s) = scl (nfX (clL fx s)) (clL fx s).length * (Y (nfP (clL fx s) i) * qv Q (nfX (clL fx s) i) * bOf R s) from by ac_rfl]
    omega
end
