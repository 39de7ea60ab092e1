/-! a fit whose errors lean by turns on a reference lies below that reference's level -/
section
variable {R : Nat → Int} {th fx d w s t : Nat} {Y Q : Nat → Int}
theorem alt_eq {u : Int} {a b z : Nat} (hab : a % 2 = b % 2) (h : 0 ≤ (if (a + z) % 2 = 0 then u else -u)) : u = (if b % 2 = 0 then (if z % 2 = 0 then (u.natAbs : Int) else -(u.natAbs : Int)) else -(if z % 2 = 0 then (u.natAbs : Int) else -(u.natAbs : Int))) := by
  by_cases q1 : b % 2 = 0
  · rw [if_pos q1]
    by_cases q2 : z % 2 = 0
    · rw [if_pos q2]
      rw [if_pos (by omega)] at h
      omega
    · rw [if_neg q2]
      rw [if_neg (by omega)] at h
      omega
  · rw [if_neg q1]
    by_cases q2 : z % 2 = 0
    · rw [if_pos q2]
      rw [if_neg (by omega)] at h
      omega
    · rw [if_neg q2]
      rw [if_pos (by omega)] at h
      omega
theorem alt_term (hK : KR R th fx d w Y Q) (hC : COK th fx d w Y Q) (ht : t < 8192) (hrt : refP R t) {u : Nat → Int} (z : Nat) (hu : ∀ p, p < 13 → bt fx p = 1 → u p = 0) (hal : ∀ p, p < 13 → bt t p = 1 → 0 ≤ (if (popN t p + toV fx p + z) % 2 = 0 then u p else -u p)) {i : Nat} (hi : i < (clL fx t).length) : wdD (nfX (clL fx t)) (clL fx t).length i * u (nfP (clL fx t) i) = (if (pop t + z) % 2 = 1 then 1 else -1) * (dfA (nfX (clL fx t)) i (clL fx t).length (clL fx t).length * ((u (nfP (clL fx t) i)).natAbs : Int)) := by
  have hr2 := ((KR_ref hK hC ht).mp hrt).1
  have hn := nd_in hC hr2 hi
  by_cases q : bt fx (nfP (clL fx t) i) = 1
  · rw [hu _ hn.1 q, Int.mul_zero, show ((0 : Int).natAbs : Int) = 0 from rfl, Int.mul_zero, Int.mul_zero]
  · have hf : bt fx (nfP (clL fx t) i) = 0 := by
      have := bt_lt fx (nfP (clL fx t) i)
      omega
    have hk := nd_rank hK hC ht hrt hi hf
    have hta := tau_e hK hC hn.1 hf
    have hb := alt_eq (b := frC R (clL fx t) i + fxA R (nfP (clL fx t) i) (12 - nfP (clL fx t) i)) (by omega) (hal _ hn.1 (by omega))
    have hg := sg_term (x := if z % 2 = 0 then ((u (nfP (clL fx t) i)).natAbs : Int) else -((u (nfP (clL fx t) i)).natAbs : Int)) hk.1 hk.2.1 hk.2.2.1
    rw [← hb] at hg
    have e : wdD (nfX (clL fx t)) (clL fx t).length i * u (nfP (clL fx t) i) = dfA (nfX (clL fx t)) i (clL fx t).length (clL fx t).length * (sgT (clL fx t).length i * u (nfP (clL fx t) i)) := by
      rw [wdD]
      ac_rfl
    rw [e, hg]
    by_cases q1 : pop t % 2 = 1
    · rw [if_pos q1]
      by_cases q2 : z % 2 = 0
      · rw [if_pos q2, if_pos (by omega), Int.one_mul]
      · rw [if_neg q2, if_neg (by omega), Int.mul_neg]
        omega
    · rw [if_neg q1]
      by_cases q2 : z % 2 = 0
      · rw [if_pos q2, if_neg (by omega), Int.mul_neg]
        omega
      · rw [if_neg q2, if_pos (by omega), Int.one_mul, Int.neg_neg]
/-- the sum of the errors' sizes, weighed: all of the level -/
theorem alt_sum (hK : KR R th fx d w Y Q) (hC : COK th fx d w Y Q) (hQ : NPL th Q) (hs : s < 8192) (hr : refP R s) (ht : t < 8192) (hrt : refP R t) (z : Nat) (hal : ∀ p, p < 13 → bt t p = 1 → 0 ≤ (if (popN t p + toV fx p + z) % 2 = 0 then uC fx Y Q s p else -uC fx Y Q s p)) : cB0 fx Y Q s * ((lvO R (clL fx t)).natAbs : Int) = sumN (fun i => dfA (nfX (clL fx t)) i (clL fx t).length (clL fx t).length * ((uC fx Y Q s (nfP (clL fx t) i)).natAbs : Int)) (clL fx t).length := by
  have hB := cB_pos hK hC hQ hs hr
  have h0 := u_ann hK hC hQ hs hr ht hrt
  have hl := ref_len hK hC ht hrt
  have hd := hC.2.2.1
  rw [sumN_congr (fun i hi => alt_term hK hC ht hrt z (fun p hp hf => u_fixed hK hC hQ hs hr hp hf) hal hi), sumN_mul] at h0
  have h1 : 0 ≤ sumN (fun i => dfA (nfX (clL fx t)) i (clL fx t).length (clL fx t).length * ((uC fx Y Q s (nfP (clL fx t) i)).natAbs : Int)) (clL fx t).length :=
    sumN_nn (fun i hi => Int.mul_nonneg (Int.le_of_lt (wdD_abs fx t (by omega) i).2) (by omega))
  have h2 := congrArg Int.natAbs h0
  rw [Int.natAbs_mul, Int.natAbs_mul, show (if (pop t + z) % 2 = 1 then (1 : Int) else -1).natAbs = 1 from by split <;> rfl, Nat.one_mul] at h2
  have h4 := congrArg (fun n : Nat => (n : Int)) h2
  simp only [Int.natCast_mul] at h4
  rw [Int.natAbs_of_nonneg (show 0 ≤ cB0 fx Y Q s by omega)] at h4
  rw [← h4]
  exact Int.natAbs_of_nonneg h1
theorem lev_lt (hK : KR R th fx d w Y Q) (hC : COK th fx d w Y Q) (hQ : NPL th Q) (hs : s < 8192) (hr : refP R s) (ht : t < 8192) (hrt : refP R t) (z : Nat) (hal : ∀ p, p < 13 → bt t p = 1 → 0 ≤ (if (popN t p + toV fx p + z) % 2 = 0 then uC fx Y Q s p else -uC fx Y Q s p)) (hge : ∀ p, p < 13 → bt t p = 1 → ((aOf R s).natAbs : Int) * ((qv Q ((p : Int) - 6)).natAbs : Int) * cB0 fx Y Q s ≤ bOf R s * ((uC fx Y Q s p).natAbs : Int)) (hgt : ∃ p, p < 13 ∧ bt t p = 1 ∧ ((aOf R s).natAbs : Int) * ((qv Q ((p : Int) - 6)).natAbs : Int) * cB0 fx Y Q s < bOf R s * ((uC fx Y Q s p).natAbs : Int)) : ((aOf R s).natAbs : Int) * bOf R t < ((aOf R t).natAbs : Int) * bOf R s := by
  have hB := cB_pos hK hC hQ hs hr
  have hl := ref_len hK hC ht hrt
  have hd := hC.2.2.1
  have hr2 := ((KR_ref hK hC ht).mp hrt).1
  obtain ⟨g, o, b, hg, e1, e2, e3, e4, e5⟩ := aOf_c hK hC hQ ht hrt
  have h0 := alt_sum hK hC hQ hs hr ht hrt z hal
  have hfree : ∀ i, i < (clL fx t).length → ¬ bt fx (nfP (clL fx t) i) = 1 → bt t (nfP (clL fx t) i) = 1 := fun i hi q => by
    have hn := nd_in hC hr2 hi
    have := bt_lt fx (nfP (clL fx t) i)
    omega
  have h1 := sumN_lt (f := fun i => (((aOf R s).natAbs : Int) * cB0 fx Y Q s) * (if R (nfP (clL fx t) i + 18) = 1 then dfA (nfX (clL fx t)) i (clL fx t).length (clL fx t).length * ((qv (fun j => R (j + 1)) ((nfP (clL fx t) i : Int) - 6)).natAbs : Int) else 0)) (g := fun i => bOf R s * (dfA (nfX (clL fx t)) i (clL fx t).length (clL fx t).length * ((uC fx Y Q s (nfP (clL fx t) i)).natAbs : Int))) (n := (clL fx t).length) (fun i hi => by
    have hn := nd_in hC hr2 hi
    have hk := hK.1 _ hn.1
    have hw := wdD_abs fx t (by omega) i
    by_cases q : bt fx (nfP (clL fx t) i) = 1
    · rw [u_fixed hK hC hQ hs hr hn.1 q, if_neg (by omega), Int.mul_zero, show ((0 : Int).natAbs : Int) = 0 from rfl, Int.mul_zero, Int.mul_zero]
      exact Int.le_refl 0
    · rw [if_pos (by omega), KR_qv hK]
      have h2 := Int.mul_le_mul_of_nonneg_left (hge _ hn.1 (hfree i hi q)) (Int.le_of_lt hw.2)
      rw [show bOf R s * (dfA (nfX (clL fx t)) i (clL fx t).length (clL fx t).length * ((uC fx Y Q s (nfP (clL fx t) i)).natAbs : Int)) = dfA (nfX (clL fx t)) i (clL fx t).length (clL fx t).length * (bOf R s * ((uC fx Y Q s (nfP (clL fx t) i)).natAbs : Int)) from by ac_rfl]
      rw [show ((aOf R s).natAbs : Int) * cB0 fx Y Q s * (dfA (nfX (clL fx t)) i (clL fx t).length (clL fx t).length * ((qv Q ((nfP (clL fx t) i : Int) - 6)).natAbs : Int)) = dfA (nfX (clL fx t)) i (clL fx t).length (clL fx t).length * (((aOf R s).natAbs : Int) * ((qv Q ((nfP (clL fx t) i : Int) - 6)).natAbs : Int) * cB0 fx Y Q s) from by ac_rfl]
      exact h2) (by
    obtain ⟨p, hp, hb, hlt⟩ := hgt
    obtain ⟨i, hi, hip⟩ := pl_node (t ||| fx) 13 p hp (by rw [bt_or, hb]; have := bt_lt fx p; omega)
    have hip2 : nfP (clL fx t) i = p := hip
    have hr3 := hr2 p hb
    have hk := hK.1 _ hp
    have hw := wdD_abs fx t (by omega) i
    refine ⟨i, hi, ?_⟩
    show ((aOf R s).natAbs : Int) * cB0 fx Y Q s * (if R (nfP (clL fx t) i + 18) = 1 then dfA (nfX (clL fx t)) i (clL fx t).length (clL fx t).length * ((qv (fun j => R (j + 1)) ((nfP (clL fx t) i : Int) - 6)).natAbs : Int) else 0) < bOf R s * (dfA (nfX (clL fx t)) i (clL fx t).length (clL fx t).length * ((uC fx Y Q s (nfP (clL fx t) i)).natAbs : Int))
    rw [hip2, if_pos (by omega), KR_qv hK]
    have h2 := Int.mul_lt_mul_of_pos_left hlt hw.2
    rw [show bOf R s * (dfA (nfX (clL fx t)) i (clL fx t).length (clL fx t).length * ((uC fx Y Q s p).natAbs : Int)) = dfA (nfX (clL fx t)) i (clL fx t).length (clL fx t).length * (bOf R s * ((uC fx Y Q s p).natAbs : Int)) from by ac_rfl]
    rw [show ((aOf R s).natAbs : Int) * cB0 fx Y Q s * (dfA (nfX (clL fx t)) i (clL fx t).length (clL fx t).length * ((qv Q ((p : Int) - 6)).natAbs : Int)) = dfA (nfX (clL fx t)) i (clL fx t).length (clL fx t).length * (((aOf R s).natAbs : Int) * ((qv Q ((p : Int) - 6)).natAbs : Int) * cB0 fx Y Q s) from by ac_rfl]
    exact h2)
  rw [sumN_mul, sumN_mul, ← h0, ← lvS_sum, e1, e2, Int.natAbs_mul, Int.natCast_mul, Int.natAbs_of_nonneg (show 0 ≤ g by omega)] at h1
  have ho : ((aOf R t).natAbs : Int) = (o.natAbs : Int) := by
    rw [e5]
    split
    · rfl
    · rw [Int.natAbs_neg]
  rw [ho, e3]
  have h3 : ((aOf R s).natAbs : Int) * b * (cB0 fx Y Q s * g) < (o.natAbs : Int) * bOf R s * (cB0 fx Y Q s * g) := by
    have q1 : (o.natAbs : Int) * bOf R s * (cB0 fx Y Q s * g) = bOf R s * (cB0 fx Y Q s * ((o.natAbs : Int) * g)) := by ac_rfl
    have q2 : ((aOf R s).natAbs : Int) * b * (cB0 fx Y Q s * g) = ((aOf R s).natAbs : Int) * cB0 fx Y Q s * (b * g) := by ac_rfl
    rw [q1, q2]
    exact h1
  exact Int.lt_of_mul_lt_mul_right h3 (Int.le_of_lt (Int.mul_pos hB.2.2.2 hg))
end
