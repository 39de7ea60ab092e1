/-! fits of one greatest level are one -/
theorem sumN_eqs {f g : Nat → Int} {n : Nat} (h : ∀ i, i < n → f i ≤ g i) (e : sumN f n = sumN g n) : ∀ i, i < n → f i = g i := fun i hi => by
  have h1 := h i hi
  by_cases q : f i < g i
  · have := sumN_lt h ⟨i, hi, q⟩
    omega
  · omega
theorem abs_le_e {e x y : Int} (he : e = 1 ∨ e = -1) (h : (x.natAbs : Int) ≤ y) : e * x ≤ y := by
  rcases he with q | q
  · rw [q]
    omega
  · rw [q]
    omega
section
variable {R : Nat → Int} {th fx d w s t : Nat} {Y Q : Nat → Int}
/-- at the nodes of a reference of a level no fit can better: each term is at its greatest -/
theorem tight (hK : KR R th fx d w Y Q) (hC : COK th fx d w Y Q) (hQ : NPL th Q) (hs : s < 8192) (hr : refP R s) (ht : t < 8192) (hrt : refP R t) (hmax : ∀ p, p < 13 → bt t p = 1 → bOf R s * ((uC fx Y Q s p).natAbs : Int) ≤ ((aOf R s).natAbs : Int) * ((qv Q ((p : Int) - 6)).natAbs : Int) * cB0 fx Y Q s) (hE : ((aOf R t).natAbs : Int) * bOf R s = ((aOf R s).natAbs : Int) * bOf R t) {e : Int} (he : e = 1 ∨ e = -1) (hel : e * lvO R (clL fx t) = ((lvO R (clL fx t)).natAbs : Int)) : ∀ i, i < (clL fx t).length → e * (bOf R s * (wdD (nfX (clL fx t)) (clL fx t).length i * uC fx Y Q s (nfP (clL fx t) i))) = (((aOf R s).natAbs : Int) * cB0 fx Y Q s) * (if bt fx (nfP (clL fx t) i) = 1 then 0 else dfA (nfX (clL fx t)) i (clL fx t).length (clL fx t).length * ((qv Q ((nfP (clL fx t) i : Int) - 6)).natAbs : Int)) := by
  have hB := cB_pos hK hC hQ hs hr
  have hl := ref_len hK hC ht hrt
  have hd := hC.2.2.1
  have hr2 := ((KR_ref hK hC ht).mp hrt).1
  obtain ⟨g, o, b, hg, e1, e2, e3, e4, e5⟩ := aOf_c hK hC hQ ht hrt
  have h0 := u_ann hK hC hQ hs hr ht hrt
  have hS : lvS R (clL fx t) (clL fx t).length = sumN (fun i => if bt fx (nfP (clL fx t) i) = 1 then 0 else dfA (nfX (clL fx t)) i (clL fx t).length (clL fx t).length * ((qv Q ((nfP (clL fx t) i : Int) - 6)).natAbs : Int)) (clL fx t).length := by
    rw [lvS_sum]
    refine sumN_congr (fun i hi => ?_)
    have hn := nd_in hC hr2 hi
    have hk := hK.1 _ hn.1
    by_cases q : bt fx (nfP (clL fx t) i) = 1
    · rw [if_pos q, if_neg (by omega)]
    · rw [if_neg q, if_pos (by omega), KR_qv hK]
  refine sumN_eqs (fun i hi => ?_) ?_
  · have hn := nd_in hC hr2 hi
    have hw := wdD_abs fx t (by omega) i
    refine abs_le_e he ?_
    by_cases q : bt fx (nfP (clL fx t) i) = 1
    · rw [u_fixed hK hC hQ hs hr hn.1 q, Int.mul_zero, Int.mul_zero, if_pos q, Int.mul_zero]
      decide
    · rw [if_neg q, Int.natAbs_mul, Int.natAbs_mul, Int.natCast_mul, Int.natCast_mul, hw.1, Int.natAbs_of_nonneg (show 0 ≤ bOf R s by omega)]
      have hfree : bt t (nfP (clL fx t) i) = 1 := by
        have := bt_lt fx (nfP (clL fx t) i)
        omega
      have h2 := Int.mul_le_mul_of_nonneg_left (hmax _ hn.1 hfree) (Int.le_of_lt hw.2)
      rw [show bOf R s * (dfA (nfX (clL fx t)) i (clL fx t).length (clL fx t).length * ((uC fx Y Q s (nfP (clL fx t) i)).natAbs : Int)) = dfA (nfX (clL fx t)) i (clL fx t).length (clL fx t).length * (bOf R s * ((uC fx Y Q s (nfP (clL fx t) i)).natAbs : Int)) from by ac_rfl]
      rw [show ((aOf R s).natAbs : Int) * cB0 fx Y Q s * (dfA (nfX (clL fx t)) i (clL fx t).length (clL fx t).length * ((qv Q ((nfP (clL fx t) i : Int) - 6)).natAbs : Int)) = dfA (nfX (clL fx t)) i (clL fx t).length (clL fx t).length * (((aOf R s).natAbs : Int) * ((qv Q ((nfP (clL fx t) i : Int) - 6)).natAbs : Int) * cB0 fx Y Q s) from by ac_rfl]
      exact h2
  · rw [sumN_mul, sumN_mul, sumN_mul, h0, ← hS]
    have ho : ((aOf R t).natAbs : Int) = (o.natAbs : Int) := by
      rw [e5]
      split
      · rfl
      · rw [Int.natAbs_neg]
    have q1 : e * (bOf R s * (cB0 fx Y Q s * lvO R (clL fx t))) = bOf R s * (cB0 fx Y Q s * (e * lvO R (clL fx t))) := by ac_rfl
    rw [q1, hel, e1, e2, Int.natAbs_mul, Int.natCast_mul, Int.natAbs_of_nonneg (show 0 ≤ g by omega)]
    have q2 : bOf R s * (cB0 fx Y Q s * ((o.natAbs : Int) * g)) = ((o.natAbs : Int) * bOf R s) * (cB0 fx Y Q s * g) := by ac_rfl
    have q3 : ((aOf R s).natAbs : Int) * cB0 fx Y Q s * (b * g) = (((aOf R s).natAbs : Int) * b) * (cB0 fx Y Q s * g) := by ac_rfl
    rw [q2, q3, ← ho, hE, e3]
/-- so the errors there are one -/
theorem fit_nodes (hK : KR R th fx d w Y Q) (hC : COK th fx d w Y Q) (hQ : NPL th Q) (hs : s < 8192) (hr : refP R s) (ht : t < 8192) (hrt : refP R t) (hmax : ∀ p, p < 13 → bt t p = 1 → bOf R s * ((uC fx Y Q s p).natAbs : Int) ≤ ((aOf R s).natAbs : Int) * ((qv Q ((p : Int) - 6)).natAbs : Int) * cB0 fx Y Q s) (hE : ((aOf R t).natAbs : Int) * bOf R s = ((aOf R s).natAbs : Int) * bOf R t) {i : Nat} (hi : i < (clL fx t).length) : uC fx Y Q s (nfP (clL fx t) i) * cB0 fx Y Q t = uC fx Y Q t (nfP (clL fx t) i) * cB0 fx Y Q s := by
  have hB := cB_pos hK hC hQ hs hr
  have hBt := cB_pos hK hC hQ ht hrt
  have hl := ref_len hK hC ht hrt
  have hd := hC.2.2.1
  have hw := wdD_abs fx t (by omega) i
  obtain ⟨e, he, hel⟩ : ∃ e : Int, (e = 1 ∨ e = -1) ∧ e * lvO R (clL fx t) = ((lvO R (clL fx t)).natAbs : Int) := by
    rcases Int.le_total 0 (lvO R (clL fx t)) with q | q
    · exact ⟨1, Or.inl rfl, by omega⟩
    · exact ⟨-1, Or.inr rfl, by omega⟩
  have h1 := tight hK hC hQ hs hr ht hrt hmax hE he hel i hi
  have h2 := tight hK hC hQ ht hrt ht hrt (fun p hp hb => Int.le_of_eq (u_abs hK hC hQ ht hrt hp hb)) rfl he hel i hi
  generalize (if bt fx (nfP (clL fx t) i) = 1 then 0 else dfA (nfX (clL fx t)) i (clL fx t).length (clL fx t).length * ((qv Q ((nfP (clL fx t) i : Int) - 6)).natAbs : Int)) = x at *
  have hw0 : wdD (nfX (clL fx t)) (clL fx t).length i ≠ 0 := by omega
  generalize wdD (nfX (clL fx t)) (clL fx t).length i = W at *
  generalize uC fx Y Q s (nfP (clL fx t) i) = us at *
  generalize uC fx Y Q t (nfP (clL fx t) i) = ut at *
  have h3 : (e * bOf R s * bOf R t * W) * (us * cB0 fx Y Q t) = (e * bOf R s * bOf R t * W) * (ut * cB0 fx Y Q s) := by
    have q1 : (e * bOf R s * bOf R t * W) * (us * cB0 fx Y Q t) = (e * (bOf R s * (W * us))) * (bOf R t * cB0 fx Y Q t) := by ac_rfl
    have q2 : (e * bOf R s * bOf R t * W) * (ut * cB0 fx Y Q s) = (e * (bOf R t * (W * ut))) * (bOf R s * cB0 fx Y Q s) := by ac_rfl
    have q3 : ((aOf R s).natAbs : Int) * cB0 fx Y Q s * x * (bOf R t * cB0 fx Y Q t) = (((aOf R s).natAbs : Int) * bOf R t) * (cB0 fx Y Q s * x * cB0 fx Y Q t) := by ac_rfl
    have q4 : ((aOf R t).natAbs : Int) * cB0 fx Y Q t * x * (bOf R s * cB0 fx Y Q s) = (((aOf R t).natAbs : Int) * bOf R s) * (cB0 fx Y Q s * x * cB0 fx Y Q t) := by ac_rfl
    rw [q1, q2, h1, h2, q3, q4, hE]
  refine Int.eq_of_mul_eq_mul_left ?_ h3
  exact Int.mul_ne_zero (Int.mul_ne_zero (Int.mul_ne_zero (by omega) (by omega)) (by omega)) hw0
theorem ev4_two (a b : Int) (f g : Nat → Int) (x : Int) (h : ev4 f x * b = ev4 g x * a) : ev4 (fun k => b * f k) x = ev4 (fun k => a * g k) x := by
  rw [ev4_smul, ev4_smul, Int.mul_comm b, Int.mul_comm a, h]
end
