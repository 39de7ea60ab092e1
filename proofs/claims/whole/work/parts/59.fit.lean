/-! the fit, the class's and the reference's -/
theorem bt_ones (p k : Nat) : bt (2 ^ p - 1) k = if k < p then 1 else 0 := by
  rw [bt_of, Nat.testBit_two_pow_sub_one]
  by_cases h : k < p
  · rw [if_pos h, decide_eq_true h]
    rfl
  · rw [if_neg h, decide_eq_false h]
    rfl
theorem pop_hi (fx p : Nat) : ∀ k, popN (bdiff fx (2 ^ p - 1)) k + popN fx (min p k) = popN fx k
  | 0 => by
    rw [Nat.min_zero]
    rfl
  | k + 1 => by
    have ih := pop_hi fx p k
    have h1 := bt_diff fx (2 ^ p - 1) k
    have h2 := bt_ones p k
    by_cases h : k < p
    · rw [if_pos h] at h2
      rw [show min p (k + 1) = k + 1 from by omega]
      rw [show min p k = k from by omega] at ih
      rw [popN, h1, h2]
      have := bt_lt fx k
      have h3 : popN fx (k + 1) = popN fx k + bt fx k := rfl
      omega
    · rw [if_neg h] at h2
      rw [show min p (k + 1) = p from by omega]
      rw [show min p k = p from by omega] at ih
      rw [popN, popN, h1, h2]
      omega
theorem toV_e (fx : Nat) {p : Nat} (hp : p < 13) : toV fx p = (pop fx - popN fx p) % 2 := by
  have h := pop_hi fx p 13
  rw [show min p 13 = p from by omega] at h
  unfold toV pop
  congr 1
  omega
theorem ptN_sum (X V G : Nat → Int) (n : Nat) : ∀ i, ptN X V G n i = fun k => sumN (fun i => V i * G i * onA X 1 i n k) i
  | 0 => rfl
  | i + 1 => by
    rw [ptN, ptN_sum X V G n i]
    rfl
/-- a polynomial through told values at the nodes -/
theorem WT_int {X W : Nat → Int} {n : Nat} {S : Int} (h : WT X n W S) {G : Nat → Int} {j : Nat} (hj : j < n) : pv (fun k => sumN (fun i => W i * G i * onA X 1 i n k) n) (n - 1) (X j) = S * G j := by
  rw [sum_pv n (n - 1) (X j) (fun i => W i * G i) (fun i => onA X 1 i n) n, sumN_one (j := j) hj]
  · rw [pv_on X 1 j (n - 1) (X j) n (fun _ => by omega) (fun _ => by omega), pxN_ap, Int.one_mul, ← h.1 j hj]
    ac_rfl
  · intro i hi hij
    rw [pv_on X 1 i (n - 1) (X j) n (fun _ => by omega) (fun _ => by omega), pxN_0 rfl (fun q => hij q.symm) n hj, Int.mul_zero, Int.mul_zero]
theorem upN_sum (f g : Nat → Int) (x : Int) (n : Nat) : ∀ i, upN f g x n i = sumN (fun i => g i * (sgT n i * dfA f i n n) * pxN f x i n) i
  | 0 => rfl
  | i + 1 => by rw [upN, sumN, upN_sum f g x n i]
theorem upN_at {X : Nat → Int} {n : Nat} (hn : n ≤ 5) (P : Nat → Int) {j : Nat} (hj : j < n) : upN X P (X j) n n = P j * vdA X n n := by
  rw [upN_sum, sumN_one (j := j) hj]
  · rw [pxN_ap, Int.mul_assoc, wd_all X hn hj]
  · intro i hi hij
    rw [pxN_0 rfl (fun q => hij q.symm) n hj, Int.mul_zero]
theorem alA_hi (X P : Nat → Int) (n : Nat) : ∀ i, i ≤ n → ∀ k, n ≤ k → alA X P n i k = 0
  | 0, _, _, _ => rfl
  | i + 1, hi, k, hk => by
    show alA X P n i k + onA X (P i * (sgT n i * dfA X i n n)) i n k = 0
    rw [alA_hi X P n i (by omega) k hk, (onA_hi X _ i n k).2 (by omega) hk]
    rfl
theorem ev4_smul (c : Int) (f : Nat → Int) (x : Int) : ev4 (fun k => c * f k) x = c * ev4 f x := pv_smul 3 c f x
section
variable {R : Nat → Int} {th fx d w s : Nat} {Y Q : Nat → Int}
theorem frC_eq (hK : KR R th fx d w Y Q) (hC : COK th fx d w Y Q) (hr : ∀ p, bt s p = 1 → bt th p = 1 ∧ bt fx p = 0) : ∀ i, i ≤ (clL fx s).length → frC R (clL fx s) i = frK fx (clL fx s) i
  | 0, _ => rfl
  | i + 1, hi => by
    have hn := nd_in hC hr (show i < (clL fx s).length by omega)
    have hk := hK.1 _ hn.1
    rw [frC, frK, frC_eq hK hC hr i (by omega)]
    split <;> split <;> omega
theorem frC_all (hK : KR R th fx d w Y Q) (hC : COK th fx d w Y Q) (hr : ∀ p, bt s p = 1 → bt th p = 1 ∧ bt fx p = 0) : frC R (clL fx s) (clL fx s).length = pop s :=
  (frC_eq hK hC hr _ (Nat.le_refl _)).trans (frK_pl (fun p hp => (hr p hp).2) 13)
theorem fxA_e (hK : KR R th fx d w Y Q) (hC : COK th fx d w Y Q) (p : Nat) : ∀ k, p + k + 1 ≤ 13 → fxA R p k + popN fx (p + 1) = popN fx (p + k + 1)
  | 0, _ => by
    rw [fxA, Nat.zero_add, Nat.add_zero]
  | k + 1, hk => by
    have ih := fxA_e hK hC p k (by omega)
    have h1 := hK.1 (p + k + 1) (by omega)
    have h2 := hC.2.2.2.2.1 (p + k + 1)
    have h3 := bt_lt th (p + k + 1)
    have e : popN fx (p + k + 1 + 1) = popN fx (p + k + 1) + bt fx (p + k + 1) := rfl
    rw [fxA, show p + (k + 1) + 1 = (p + k + 1) + 1 from by omega]
    split <;> omega
/-- the sign by the fixed ones above, of a free place -/
theorem tau_e (hK : KR R th fx d w Y Q) (hC : COK th fx d w Y Q) {p : Nat} (hp : p < 13) (hf : bt fx p = 0) : fxA R p (12 - p) % 2 = toV fx p ∧ fxA R p (12 - p) + popN fx p = pop fx := by
  have h := fxA_e hK hC p (12 - p) (by omega)
  rw [show p + (12 - p) + 1 = 13 from by omega, popN, hf] at h
  have h2 : fxA R p (12 - p) + popN fx p = pop fx := h
  rw [toV_e fx hp]
  exact ⟨by omega, h2⟩
theorem aOf_c (hK : KR R th fx d w Y Q) (hC : COK th fx d w Y Q) (hQ : NPL th Q) (hs : s < 8192) (hr : refP R s) : ∃ g o b : Int, 0 < g ∧ lvO R (clL fx s) = o * g ∧ lvS R (clL fx s) (clL fx s).length = b * g ∧ bOf R s = b ∧ 0 < b ∧ aOf R s = (if pop s % 2 = 1 then o else -o) := by
  have hlo := KR_l hK hC hs hr
  have h3 := lvS_pos hK hC hQ hs hr
  have hg := gcd_rng (a := lvO R (clL fx s)) h3
  have hfr := frC_all hK hC ((KR_ref hK hC hs).mp hr).1
  refine ⟨(Int.gcd (lvO R (clL fx s)) (lvS R (clL fx s) (clL fx s).length) : Int), (lvO R (clL fx s)).tdiv (Int.gcd (lvO R (clL fx s)) (lvS R (clL fx s) (clL fx s).length) : Int), (lvS R (clL fx s) (clL fx s).length).tdiv (Int.gcd (lvO R (clL fx s)) (lvS R (clL fx s) (clL fx s).length) : Int), hg.1, (Int.tdiv_mul_cancel (Int.gcd_dvd_left ..)).symm, (Int.tdiv_mul_cancel (Int.gcd_dvd_right ..)).symm, ?_, ?_, ?_⟩
  · rw [bOf, hlo]
  · have e : (lvS R (clL fx s) (clL fx s).length).tdiv (Int.gcd (lvO R (clL fx s)) (lvS R (clL fx s) (clL fx s).length) : Int) * (Int.gcd (lvO R (clL fx s)) (lvS R (clL fx s) (clL fx s).length) : Int) = lvS R (clL fx s) (clL fx s).length := Int.tdiv_mul_cancel (Int.gcd_dvd_right ..)
    generalize (lvS R (clL fx s) (clL fx s).length).tdiv (Int.gcd (lvO R (clL fx s)) (lvS R (clL fx s) (clL fx s).length) : Int) = b at *
    by_cases q : 0 < b
    · exact q
    · have := Int.mul_nonpos_of_nonpos_of_nonneg (show b ≤ 0 by omega) (Int.le_of_lt hg.1)
      omega
  · rw [aOf, hlo, lvA, hfr]
    by_cases q : pop s % 2 = 1
    · rw [if_pos q, if_pos q]
    · rw [if_neg q, if_neg q, Int.neg_tdiv]
theorem mul_sg {a b : Int} (hb : 0 < b) : (0 < a * b ↔ 0 < a) ∧ (a * b = 0 ↔ a = 0) ∧ (a * b < 0 ↔ a < 0) := by
  rcases (show a < 0 ∨ a = 0 ∨ 0 < a by omega) with h | h | h
  · have := Int.mul_neg_of_neg_of_pos h hb
    omega
  · rw [h, Int.zero_mul]
    omega
  · have := Int.mul_pos h hb
    omega
/-- the class's lean is the sign of the reference's error -/
theorem cL_e (hK : KR R th fx d w Y Q) (hC : COK th fx d w Y Q) (hQ : NPL th Q) (hs : s < 8192) (hr : refP R s) : (0 < aOf R s ∧ cL fx Y Q s = 1) ∨ (aOf R s < 0 ∧ cL fx Y Q s = 2) ∨ (aOf R s = 0 ∧ cL fx Y Q s = 0) := by
  obtain ⟨g, o, b, hg, e1, e2, e3, e4, e5⟩ := aOf_c hK hC hQ hs hr
  have h1 := lev_O hK hC hs hr
  have hX : ∀ i j, i < j → j < (clL fx s).length → nfX (clL fx s) i < nfX (clL fx s) j := fun i j h1 h2 => nfX_lt (b := bB (s ||| fx)) rfl h1 h2
  have hv := vdA_pos hX (Nat.le_refl _)
  have hl := ref_len hK hC hs hr
  have hsc := (scl_p (cl_dvd fx s) (by omega)).1
  rw [e1] at h1
  have h2 := mul_sg (a := msN (clL fx s) Y Q (clL fx s).length) hv
  rw [Int.mul_comm, h1] at h2
  have h3 := mul_sg (a := o * g) hsc
  rw [Int.mul_comm (o * g)] at h3
  have h4 := mul_sg (a := o) hg
  rw [e5, cL, mlV]
  generalize msN (clL fx s) Y Q (clL fx s).length = m at *
  by_cases q : pop s % 2 = 1
  · rw [if_pos q]
    by_cases q1 : m = 0
    · rw [if_pos q1]
      omega
    · rw [if_neg q1]
      by_cases q2 : 0 < m
      · rw [if_pos ⟨fun _ => q, fun _ => q2⟩]
        omega
      · rw [if_neg (fun z => q2 (z.mpr q))]
        omega
  · rw [if_neg q]
    by_cases q1 : m = 0
    · rw [if_pos q1]
      omega
    · rw [if_neg q1]
      by_cases q2 : 0 < m
      · rw [if_neg (fun z => q (z.mp q2))]
        omega
      · rw [if_pos ⟨fun z => absurd z q2, fun z => absurd z q⟩]
        omega
theorem gl_alg {a up q : Int} {ln : Int} {r t : Nat} (ht : t = 0 ∨ t = 1) (h : (0 < a ∧ ln = 1) ∨ (a < 0 ∧ ln = 2) ∨ (a = 0 ∧ ln = 0)) (hu : up = (a.natAbs : Int)) : (if (lnO ln r = 1 ↔ t = 0) then up * q else -up * q) = if (r + t) % 2 = 0 then a * q else -(a * q) := by
  have h1 := lnO_c ln r
  have h2 := fL_c ln
  rcases h with ⟨a1, a2⟩ | ⟨a1, a2⟩ | ⟨a1, a2⟩
  · rw [show up = a from by omega]
    by_cases q1 : (r + t) % 2 = 0
    · rw [if_pos q1, if_pos (by omega)]
    · rw [if_neg q1, if_neg (by omega), Int.neg_mul]
  · rw [show up = -a from by omega]
    by_cases q1 : (r + t) % 2 = 0
    · rw [if_pos q1, if_neg (by omega), Int.neg_neg]
    · rw [if_neg q1, if_pos (by omega), Int.neg_mul]
  · rw [show up = 0 from by omega, a1, Int.neg_zero, Int.zero_mul]
    split <;> split <;> rfl
/-- the values at the nodes are one -/
theorem gl_eq (hK : KR R th fx d w Y Q) (hC : COK th fx d w Y Q) (hQ : NPL th Q) (hs : s < 8192) (hr : refP R s) {i : Nat} (hi : i < (clL fx s).length) : glV fx (cD fx Y Q s) (cU fx Y Q s) (cL fx Y Q s) Y Q (clL fx s) i = fpV R (clL fx s) (aOf R s) (bOf R s) i := by
  have hl := lev_eq hK hC hQ hs hr
  have hr2 := ((KR_ref hK hC hs).mp hr).1
  have hn := nd_in hC hr2 hi
  have hk := hK.1 _ hn.1
  have hc := cL_e hK hC hQ hs hr
  have hfr := frC_eq hK hC hr2 i (by omega)
  rw [glV, fpV, nY_eq hK hn.1 hn.2.1, KR_qv hK, hl.2.2]
  by_cases q : bt fx (nfP (clL fx s) i) = 1
  · rw [if_pos q, if_neg (show ¬ R (nfP (clL fx s) i + 18) = 1 by omega), Int.sub_zero]
  · have ht := (tau_e hK hC hn.1 (show bt fx (nfP (clL fx s) i) = 0 by omega)).1
    rw [if_neg q, if_pos (show R (nfP (clL fx s) i + 18) = 1 by omega), gl_alg (toV_c fx _) hc hl.2.1, hfr]
    congr 1
    have e : (frK fx (clL fx s) i + fxA R (nfP (clL fx s) i) (12 - nfP (clL fx s) i)) % 2 = (frK fx (clL fx s) i + toV fx (nfP (clL fx s) i)) % 2 := by omega
    rw [e]
end
