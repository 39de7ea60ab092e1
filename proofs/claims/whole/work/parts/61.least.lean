/-! the least greatest error -/
theorem abs_sum {f g : Nat → Int} : ∀ {n : Nat}, (∀ i, i < n → ((f i).natAbs : Int) ≤ g i) → ((sumN f n).natAbs : Int) ≤ sumN g n
  | 0, _ => by
    show (((0 : Int)).natAbs : Int) ≤ 0
    decide
  | n + 1, h => by
    have h1 := abs_sum (n := n) (fun i hi => h i (by omega))
    have h2 := h n (by omega)
    rw [sumN, sumN]
    omega
section
variable {R : Nat → Int} {th fx d w s t : Nat} {Y Q : Nat → Int}
theorem cB_pos (hK : KR R th fx d w Y Q) (hC : COK th fx d w Y Q) (hQ : NPL th Q) (hs : s < 8192) (hr : refP R s) : 0 < scl (nfX (clL fx s)) (clL fx s).length ∧ 0 < bOf R s ∧ cB0 fx Y Q s = scl (nfX (clL fx s)) (clL fx s).length * bOf R s ∧ 0 < cB0 fx Y Q s := by
  have hl := ref_len hK hC hs hr
  have h1 := (scl_p (cl_dvd fx s) (by omega)).1
  obtain ⟨g, o, b, hg, e1, e2, e3, e4, e5⟩ := aOf_c hK hC hQ hs hr
  have h2 := (lev_eq hK hC hQ hs hr).2.2
  have e : cB0 fx Y Q s = scl (nfX (clL fx s)) (clL fx s).length * bOf R s := by rw [cB0, h2]
  refine ⟨h1, by omega, e, ?_⟩
  rw [e]
  exact Int.mul_pos h1 (by omega)
theorem u_fixed (hK : KR R th fx d w Y Q) (hC : COK th fx d w Y Q) (hQ : NPL th Q) (hs : s < 8192) (hr : refP R s) {p : Nat} (hp : p < 13) (hf : bt fx p = 1) : uC fx Y Q s p = 0 := by
  obtain ⟨i, hi, hip⟩ := pl_node (s ||| fx) 13 p hp (by rw [bt_or, hf]; have := bt_lt s p; omega)
  have h := u_node hK hC hQ hs hr (i := i) hi
  rw [show nfP (clL fx s) i = p from hip, if_pos hf, Int.mul_zero] at h
  exact h
/-- at a reference's own points the error is level, and leans by turns -/
theorem u_own (hK : KR R th fx d w Y Q) (hC : COK th fx d w Y Q) (hQ : NPL th Q) (hs : s < 8192) (hr : refP R s) {p : Nat} (hp : p < 13) (hb : bt s p = 1) : uC fx Y Q s p = scl (nfX (clL fx s)) (clL fx s).length * (if (popN s p + toV fx p) % 2 = 0 then aOf R s * ((qv Q ((p : Int) - 6)).natAbs : Int) else -(aOf R s * ((qv Q ((p : Int) - 6)).natAbs : Int))) := by
  obtain ⟨i, hi, hip⟩ := pl_node (s ||| fx) 13 p hp (by rw [bt_or, hb]; have := bt_lt fx p; omega)
  have hr2 := ((KR_ref hK hC hs).mp hr).1 p hb
  have h := u_node hK hC hQ hs hr (i := i) hi
  rw [show nfP (clL fx s) i = p from hip, if_neg (show ¬ bt fx p = 1 by omega)] at h
  exact h
theorem u_abs (hK : KR R th fx d w Y Q) (hC : COK th fx d w Y Q) (hQ : NPL th Q) (hs : s < 8192) (hr : refP R s) {p : Nat} (hp : p < 13) (hb : bt s p = 1) : bOf R s * ((uC fx Y Q s p).natAbs : Int) = ((aOf R s).natAbs : Int) * ((qv Q ((p : Int) - 6)).natAbs : Int) * cB0 fx Y Q s := by
  have h := cB_pos hK hC hQ hs hr
  have e : ((uC fx Y Q s p).natAbs : Int) = scl (nfX (clL fx s)) (clL fx s).length * (((aOf R s).natAbs : Int) * ((qv Q ((p : Int) - 6)).natAbs : Int)) := by
    rw [u_own hK hC hQ hs hr hp hb, Int.natAbs_mul, Int.natCast_mul, Int.natAbs_of_nonneg (Int.le_of_lt h.1)]
    congr 1
    split
    · rw [Int.natAbs_mul, Int.natCast_mul, Int.natAbs_natCast]
    · rw [Int.natAbs_neg, Int.natAbs_mul, Int.natCast_mul, Int.natAbs_natCast]
  rw [e, h.2.2.1]
  ac_rfl
/-- the functional of a reference on the errors of a fit -/
theorem u_ann (hK : KR R th fx d w Y Q) (hC : COK th fx d w Y Q) (hQ : NPL th Q) (hs : s < 8192) (hr : refP R s) (ht : t < 8192) (hrt : refP R t) : sumN (fun i => wdD (nfX (clL fx t)) (clL fx t).length i * uC fx Y Q s (nfP (clL fx t) i)) (clL fx t).length = cB0 fx Y Q s * lvO R (clL fx t) := by
  have hl := ref_len hK hC ht hrt
  have hd := hC.2.2.1
  have hr2 := ((KR_ref hK hC ht).mp hrt).1
  have hdg := cT_deg hK hC hQ hs hr
  have h0 := WT_ann (cl_WD fx t (by omega)) (by omega) (p := cT fx Y Q s) (hdg _ (by omega))
  have hT : ∀ i, i < (clL fx t).length → wdD (nfX (clL fx t)) (clL fx t).length i * uC fx Y Q s (nfP (clL fx t) i) = cB0 fx Y Q s * (wdD (nfX (clL fx t)) (clL fx t).length i * nfY R (clL fx t) i) + -1 * (wdD (nfX (clL fx t)) (clL fx t).length i * pv (cT fx Y Q s) ((clL fx t).length - 1) (nfX (clL fx t) i)) := fun i hi => by
    have hn := nd_in hC hr2 hi
    have e1 : ev4 (cT fx Y Q s) (nfX (clL fx t) i) = pv (cT fx Y Q s) d (nfX (clL fx t) i) := (ev4_pv _ _).trans (pv_hi hd (fun k h1 _ => hdg k h1))
    have e2 : pv (cT fx Y Q s) ((clL fx t).length - 1) (nfX (clL fx t) i) = pv (cT fx Y Q s) d (nfX (clL fx t) i) := pv_hi (by omega) (fun k h1 _ => hdg k h1)
    have e0 : ((nfP (clL fx t) i : Nat) : Int) - 6 = nfX (clL fx t) i := rfl
    rw [e2, ← e1, nfY, nY_eq hK hn.1 hn.2.1, uC, e0, Int.mul_sub]
    rw [show wdD (nfX (clL fx t)) (clL fx t).length i * (Y (nfP (clL fx t) i) * qv Q (nfX (clL fx t) i) * cB0 fx Y Q s) = cB0 fx Y Q s * (wdD (nfX (clL fx t)) (clL fx t).length i * (Y (nfP (clL fx t) i) * qv Q (nfX (clL fx t) i))) from by ac_rfl]
    omega
  rw [sumN_congr hT, sumN_add, sumN_mul, sumN_mul, h0, lvO, bdN_sum]
  omega
theorem wdD_abs (fx t : Nat) (h : (clL fx t).length ≤ 5) (i : Nat) : ((wdD (nfX (clL fx t)) (clL fx t).length i).natAbs : Int) = dfA (nfX (clL fx t)) i (clL fx t).length (clL fx t).length ∧ 0 < dfA (nfX (clL fx t)) i (clL fx t).length (clL fx t).length := by
  have hX : ∀ i j, i < j → j < (clL fx t).length → nfX (clL fx t) i < nfX (clL fx t) j := fun i j h1 h2 => nfX_lt (b := bB (t ||| fx)) rfl h1 h2
  have hdp := dfA_pos (c := i) hX (Nat.le_refl (clL fx t).length)
  have hsg := sgT_a (clL fx t).length i
  rw [wdD, Int.natAbs_mul, Int.natCast_mul]
  refine ⟨?_, hdp⟩
  rw [show ((sgT (clL fx t).length i).natAbs : Int) = 1 from by omega, Int.one_mul]
  omega
/-- a fit's greatest error is no less than any reference's level error -/
theorem lev_le (hK : KR R th fx d w Y Q) (hC : COK th fx d w Y Q) (hQ : NPL th Q) (hs : s < 8192) (hr : refP R s) (hmax : ∀ p, p < 13 → bt th p = 1 → bt fx p = 0 → bOf R s * ((uC fx Y Q s p).natAbs : Int) ≤ ((aOf R s).natAbs : Int) * ((qv Q ((p : Int) - 6)).natAbs : Int) * cB0 fx Y Q s) (ht : t < 8192) (hrt : refP R t) : ((aOf R t).natAbs : Int) * bOf R s ≤ ((aOf R s).natAbs : Int) * bOf R t := by
  have hB := cB_pos hK hC hQ hs hr
  have hl := ref_len hK hC ht hrt
  have hd := hC.2.2.1
  have hr2 := ((KR_ref hK hC ht).mp hrt).1
  obtain ⟨g, o, b, hg, e1, e2, e3, e4, e5⟩ := aOf_c hK hC hQ ht hrt
  have h0 := u_ann hK hC hQ hs hr ht hrt
  have h1 := abs_sum (f := fun i => bOf R s * (wdD (nfX (clL fx t)) (clL fx t).length i * uC fx Y Q s (nfP (clL fx t) i))) (g := fun i => (((aOf R s).natAbs : Int) * cB0 fx Y Q s) * (if R (nfP (clL fx t) i + 18) = 1 then dfA (nfX (clL fx t)) i (clL fx t).length (clL fx t).length * ((qv (fun j => R (j + 1)) ((nfP (clL fx t) i : Int) - 6)).natAbs : Int) else 0)) (n := (clL fx t).length) (fun i hi => by
    have hn := nd_in hC hr2 hi
    have hk := hK.1 _ hn.1
    have hw := wdD_abs fx t (by omega) i
    by_cases q : bt fx (nfP (clL fx t) i) = 1
    · rw [u_fixed hK hC hQ hs hr hn.1 q, Int.mul_zero, Int.mul_zero, if_neg (by omega), Int.mul_zero]
      decide
    · rw [if_pos (by omega), KR_qv hK, Int.natAbs_mul, Int.natAbs_mul, Int.natCast_mul, Int.natCast_mul, hw.1, Int.natAbs_of_nonneg (show 0 ≤ bOf R s by omega)]
      have h2 := Int.mul_le_mul_of_nonneg_left (hmax _ hn.1 hn.2.1 (by omega)) (Int.le_of_lt hw.2)
      rw [show bOf R s * (dfA (nfX (clL fx t)) i (clL fx t).length (clL fx t).length * ((uC fx Y Q s (nfP (clL fx t) i)).natAbs : Int)) = dfA (nfX (clL fx t)) i (clL fx t).length (clL fx t).length * (bOf R s * ((uC fx Y Q s (nfP (clL fx t) i)).natAbs : Int)) from by ac_rfl]
      rw [show ((aOf R s).natAbs : Int) * cB0 fx Y Q s * (dfA (nfX (clL fx t)) i (clL fx t).length (clL fx t).length * ((qv Q ((nfP (clL fx t) i : Int) - 6)).natAbs : Int)) = dfA (nfX (clL fx t)) i (clL fx t).length (clL fx t).length * (((aOf R s).natAbs : Int) * ((qv Q ((nfP (clL fx t) i : Int) - 6)).natAbs : Int) * cB0 fx Y Q s) from by ac_rfl]
      exact h2)
  rw [sumN_mul, sumN_mul, h0, ← lvS_sum, e1, e2, Int.natAbs_mul, Int.natAbs_mul, Int.natAbs_mul, Int.natCast_mul, Int.natCast_mul, Int.natCast_mul, Int.natAbs_of_nonneg (show 0 ≤ bOf R s by omega), Int.natAbs_of_nonneg (show 0 ≤ cB0 fx Y Q s by omega), Int.natAbs_of_nonneg (show 0 ≤ g by omega)] at h1
  have ho : ((aOf R t).natAbs : Int) = (o.natAbs : Int) := by
    rw [e5]
    split
    · rfl
    · rw [Int.natAbs_neg]
  rw [ho, e3]
  have h3 : (o.natAbs : Int) * bOf R s * (cB0 fx Y Q s * g) ≤ ((aOf R s).natAbs : Int) * b * (cB0 fx Y Q s * g) := by
    have q1 : (o.natAbs : Int) * bOf R s * (cB0 fx Y Q s * g) = bOf R s * (cB0 fx Y Q s * ((o.natAbs : Int) * g)) := by ac_rfl
    have q2 : ((aOf R s).natAbs : Int) * b * (cB0 fx Y Q s * g) = ((aOf R s).natAbs : Int) * cB0 fx Y Q s * (b * g) := by ac_rfl
    rw [q1, q2]
    exact h1
  exact Int.le_of_mul_le_mul_right h3 (Int.mul_pos hB.2.2.2 hg)
end
