/-! bounds of the reference's sums -/
theorem sum_bd {f : Nat → Int} {B : Int} : ∀ {n : Nat}, (∀ i, i < n → -B ≤ f i ∧ f i ≤ B) → -((n : Int) * B) ≤ sumN f n ∧ sumN f n ≤ (n : Int) * B
  | 0, _ => by
    show -(((0 : Nat) : Int) * B) ≤ 0 ∧ (0 : Int) ≤ ((0 : Nat) : Int) * B
    rw [show ((0 : Nat) : Int) * B = 0 from Int.zero_mul B]
    exact ⟨by decide, by decide⟩
  | n + 1, h => by
    have h1 := sum_bd (n := n) (fun i hi => h i (by omega))
    have h2 := h n (by omega)
    rw [sumN, show ((n + 1 : Nat) : Int) * B = (n : Int) * B + B from by rw [Int.natCast_add, Int.add_mul]; exact congrArg _ (Int.one_mul B)]
    omega
section
variable {R : Nat → Int} {th fx d w s : Nat} {Y Q : Nat → Int}
theorem cl_srt (fx s : Nat) : ∀ i j, i < j → j < (clL fx s).length → nfX (clL fx s) i < nfX (clL fx s) j := fun i j h1 h2 => nfX_lt (b := bB (s ||| fx)) rfl h1 h2
theorem cl_rng (fx s : Nat) : ∀ i, i < (clL fx s).length → -6 ≤ nfX (clL fx s) i ∧ nfX (clL fx s) i ≤ 6 := nfX_b (b := bB (s ||| fx)) rfl
theorem vdM_le (n : Nat) : vdM n ≤ 52488 := by
  unfold vdM
  split
  · decide
  · split
    · decide
    · split <;> decide
theorem nY_bd (hK : KR R th fx d w Y Q) (hC : COK th fx d w Y Q) {p : Nat} (hp : p < 13) : -12771 ≤ nY R p ∧ nY R p ≤ 12771 := ROK_y (KR_ROK hK hC) hp
theorem qv_bd (hC : COK th fx d w Y Q) {p : Nat} (hp : p < 13) : -129 ≤ qv Q ((p : Int) - 6) ∧ qv Q ((p : Int) - 6) ≤ 129 := qv_le hC.2.2.2.2.2.2.2.2 (by omega) (by omega)
theorem lvO_bd (hK : KR R th fx d w Y Q) (hC : COK th fx d w Y Q) (hs : s < 8192) (hr : refP R s) : -3351621240 ≤ lvO R (clL fx s) ∧ lvO R (clL fx s) ≤ 3351621240 := by
  have hl := ref_len hK hC hs hr
  have hd := hC.2.2.1
  have hr2 := ((KR_ref hK hC hs).mp hr).1
  rw [lvO, bdN_sum]
  have h := sum_bd (B := 670324248) (n := (clL fx s).length) (f := fun i => wdD (nfX (clL fx s)) (clL fx s).length i * nfY R (clL fx s) i) (fun i hi => by
    have hn := nd_in hC hr2 hi
    have h1 := df_le (show (clL fx s).length ≤ 5 by omega) hi (cl_srt fx s) (cl_rng fx s)
    have h2 := wdD_abs fx s (by omega) i
    have h3 := vdM_le ((clL fx s).length - 1)
    have h4 := nY_bd hK hC hn.1
    have h5 := mul_bd (a := wdD (nfX (clL fx s)) (clL fx s).length i) (b := nfY R (clL fx s) i) (A := 52488) (B := 12771) (by omega) (by omega) h4.1 h4.2
    omega)
  have h6 : (((clL fx s).length : Nat) : Int) * 670324248 ≤ 5 * 670324248 := Int.mul_le_mul_of_nonneg_right (by omega) (by decide)
  omega
theorem lvS_bd (hK : KR R th fx d w Y Q) (hC : COK th fx d w Y Q) (hs : s < 8192) (hr : refP R s) : lvS R (clL fx s) (clL fx s).length ≤ 33854760 := by
  have hl := ref_len hK hC hs hr
  have hd := hC.2.2.1
  have hr2 := ((KR_ref hK hC hs).mp hr).1
  rw [lvS_sum]
  have h := sum_bd (B := 6770952) (n := (clL fx s).length) (f := fun i => if R (nfP (clL fx s) i + 18) = 1 then dfA (nfX (clL fx s)) i (clL fx s).length (clL fx s).length * ((qv (fun j => R (j + 1)) ((nfP (clL fx s) i : Int) - 6)).natAbs : Int) else 0) (fun i hi => by
    have hn := nd_in hC hr2 hi
    have h1 := df_le (show (clL fx s).length ≤ 5 by omega) hi (cl_srt fx s) (cl_rng fx s)
    have h3 := vdM_le ((clL fx s).length - 1)
    have h4 := qv_bd hC hn.1
    rw [KR_qv hK]
    have h5 := mul_bd (a := dfA (nfX (clL fx s)) i (clL fx s).length (clL fx s).length) (b := ((qv Q ((nfP (clL fx s) i : Int) - 6)).natAbs : Int)) (A := 52488) (B := 129) (by omega) (by omega) (by omega) (by omega)
    show -6770952 ≤ (if _ then _ else _) ∧ (if _ then _ else _) ≤ (6770952 : Int)
    split
    · omega
    · omega)
  have h6 : (((clL fx s).length : Nat) : Int) * 6770952 ≤ 5 * 6770952 := Int.mul_le_mul_of_nonneg_right (by omega) (by decide)
  omega
end
