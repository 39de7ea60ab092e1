/-! bounds of the reference's fits -/
theorem abs_of_mul {x o g : Int} (hg : 0 < g) (h : x = o * g) : (o.natAbs : Int) ≤ (x.natAbs : Int) := by
  rw [h, Int.natAbs_mul]
  have h1 : o.natAbs * 1 ≤ o.natAbs * g.natAbs := Nat.mul_le_mul_left _ (by omega)
  omega
theorem vdM_432 {n : Nat} (h : n ≤ 3) : vdM n ≤ 432 := by
  rcases (show n = 0 ∨ n = 1 ∨ n = 2 ∨ n = 3 by omega) with rfl | rfl | rfl | rfl <;> decide
def exE (i k : Nat) : Nat := if i < k then k - 1 else k
theorem px_bd {f : Nat → Int} {x : Int} {i n : Nat} (h : ∀ j, j < n → -12 ≤ x - f j ∧ x - f j ≤ 12) : ∀ k, k ≤ n → -(12 ^ exE i k : Int) ≤ pxN f x i k ∧ pxN f x i k ≤ (12 ^ exE i k : Int)
  | 0, _ => by
    have e : exE i 0 = 0 := if_neg (Nat.not_lt_zero i)
    rw [e]
    show -(12 ^ 0 : Int) ≤ 1 ∧ (1 : Int) ≤ 12 ^ 0
    decide
  | k + 1, hk => by
    have ih := px_bd h (i := i) k (by omega)
    rw [pxN]
    by_cases q : k = i
    · have e1 : exE i (k + 1) = k := if_pos (by omega)
      have e2 : exE i k = k := if_neg (by omega)
      rw [if_pos q, Int.mul_one, e1]
      rw [e2] at ih
      exact ih
    · have e : exE i (k + 1) = exE i k + 1 := by
        unfold exE
        by_cases c : i < k
        · rw [if_pos (by omega), if_pos c]
          omega
        · rw [if_neg (by omega), if_neg c]
      have hf := h k (by omega)
      rw [if_neg q, e, Int.pow_succ]
      exact mul_bd ih.1 ih.2 hf.1 hf.2
theorem pow12 {n : Nat} (h : n ≤ 3) : (12 ^ n : Int) ≤ 1728 := by
  rcases (show n = 0 ∨ n = 1 ∨ n = 2 ∨ n = 3 by omega) with rfl | rfl | rfl | rfl <;> decide
/-- a fit through n places of values no greater than B -/
theorem up_bd {X P : Nat → Int} {n : Nat} (hn : n ≤ 4) (hst : ∀ i j, i < j → j < n → X i < X j) (hb : ∀ i, i < n → -6 ≤ X i ∧ X i ≤ 6) (hP : ∀ i, i < n → -864718279920 ≤ P i ∧ P i ≤ 864718279920) {p : Nat} (hp : p < 13) : -4611686018427387904 ≤ upN X P ((p : Int) - 6) n n ∧ upN X P ((p : Int) - 6) n n ≤ 4611686018427387904 := by
  rw [upN_sum]
  have h := sum_bd (B := 645508737087160320) (n := n) (f := fun i => P i * (sgT n i * dfA X i n n) * pxN X ((p : Int) - 6) i n) (fun i hi => by
    have h1 := df_le (show n ≤ 5 by omega) hi hst hb
    have h2 := vdM_432 (show n - 1 ≤ 3 by omega)
    have h3 := sgT_a n i
    have h4 := hP i hi
    have hw : -432 ≤ sgT n i * dfA X i n n ∧ sgT n i * dfA X i n n ≤ 432 := by
      rcases h3 with ⟨q, -⟩ | ⟨q, -⟩
      · rw [q]
        omega
      · rw [q]
        omega
    have h5 := mul_bd h4.1 h4.2 hw.1 hw.2
    have h6 := px_bd (f := X) (x := (p : Int) - 6) (i := i) (n := n) (fun j hj => by have := hb j hj; omega) n (Nat.le_refl n)
    have e : exE i n = n - 1 := if_pos hi
    have h7 := pow12 (show n - 1 ≤ 3 by omega)
    rw [e] at h6
    exact mul_bd (A := 864718279920 * 432) (B := 1728) h5.1 h5.2 (by omega) (by omega))
  have h6 : ((n : Nat) : Int) * 645508737087160320 ≤ 4 * 645508737087160320 := Int.mul_le_mul_of_nonneg_right (by omega) (by decide)
  omega
section
variable {R : Nat → Int} {th fx d w s : Nat} {Y Q : Nat → Int}
theorem ab_bd (hK : KR R th fx d w Y Q) (hC : COK th fx d w Y Q) (hQ : NPL th Q) (hs : s < 8192) (hr : refP R s) : (-3351621240 ≤ aOf R s ∧ aOf R s ≤ 3351621240) ∧ 0 < bOf R s ∧ bOf R s ≤ 33854760 := by
  obtain ⟨g, o, b, hg, e1, e2, e3, e4, e5⟩ := aOf_c hK hC hQ hs hr
  have h1 := lvO_bd hK hC hs hr
  have h2 := lvS_bd hK hC hs hr
  have h3 := abs_of_mul hg e1
  have h4 := abs_of_mul hg e2
  have h5 := lvS_pos hK hC hQ hs hr
  refine ⟨?_, by omega, by omega⟩
  rw [e5]
  split <;> omega
theorem fp_bd (hK : KR R th fx d w Y Q) (hC : COK th fx d w Y Q) (hQ : NPL th Q) (hs : s < 8192) (hr : refP R s) {i : Nat} (hi : i < (clL fx s).length) : -864718279920 ≤ fpV R (clL fx s) (aOf R s) (bOf R s) i ∧ fpV R (clL fx s) (aOf R s) (bOf R s) i ≤ 864718279920 := by
  have hr2 := ((KR_ref hK hC hs).mp hr).1
  have hn := nd_in hC hr2 hi
  have h1 := ab_bd hK hC hQ hs hr
  have h2 := nY_bd hK hC hn.1
  have h3 := qv_bd hC hn.1
  have h4 := mul_bd (a := nY R (nfP (clL fx s) i)) (b := bOf R s) (A := 12771) (B := 33854760) h2.1 h2.2 (by omega) (by omega)
  have h5 := mul_bd (a := aOf R s) (b := ((qv Q ((nfP (clL fx s) i : Int) - 6)).natAbs : Int)) (A := 3351621240) (B := 129) (by omega) (by omega) (by omega) (by omega)
  unfold fpV
  rw [KR_qv hK]
  split
  · split
    · omega
    · omega
  · omega
/-- no number of a reference's level and fit is too great -/
theorem SOK_all (hK : KR R th fx d w Y Q) (hC : COK th fx d w Y Q) (hQ : NPL th Q) (hs : s < 8192) (hr : refP R s) : SOK R d s := by
  have hl := ref_len hK hC hs hr
  have hd := hC.2.2.1
  have e := KR_l hK hC hs hr
  have h1 := lvO_bd hK hC hs hr
  have h2 := lvS_bd hK hC hs hr
  have h3 := lvS_pos hK hC hQ hs hr
  have h4 := ab_bd hK hC hQ hs hr
  have hst : ∀ i j, i < j → j < d + 1 → nfX (clL fx s) i < nfX (clL fx s) j := fun i j a b => cl_srt fx s i j a (by omega)
  have hb : ∀ i, i < d + 1 → -6 ≤ nfX (clL fx s) i ∧ nfX (clL fx s) i ≤ 6 := fun i a => cl_rng fx s i (by omega)
  have h5 := vdA_pos hst (Nat.le_refl (d + 1))
  have h6 := vd_le (show d + 1 ≤ 4 by omega) hst hb
  have h7 := vdM_le (d + 1)
  have h8 := mul_bd (a := bOf R s) (b := vdA (nfX (clL fx s)) (d + 1) (d + 1)) (A := 33854760) (B := 52488) (by omega) (by omega) (by omega) (by omega)
  have h9 := Int.mul_pos h4.2.1 h5
  rw [SOK, e]
  refine ⟨⟨by omega, by omega, by omega, by omega⟩, by omega, hb, by omega, fun p hp => ?_⟩
  exact up_bd (by omega) hst hb (fun i hi => fp_bd hK hC hQ hs hr (by omega)) hp
end
