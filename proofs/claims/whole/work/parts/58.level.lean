/-! the level error, the class's and the reference's -/
def PSx (x : Int) (S : Nat) : Nat → Int
  | 0 => 1
  | k + 1 => PSx x S k * (if bt S k = 1 then x - ((k : Int) - 6) else 1)
theorem PSx_or (x : Int) {S p : Nat} (h : bt S p = 0) : ∀ k, PSx x (S ||| 2 ^ p) k = PSx x S k * (if p < k then x - ((p : Int) - 6) else 1)
  | 0 => by rw [if_neg (by omega), Int.mul_one]; rfl
  | k + 1 => by
    have ih := PSx_or x h k
    have h1 := bt_lt S k
    rw [PSx, PSx, ih, bt_or, bt_pow]
    by_cases e : p = k
    · subst e
      rw [h, if_neg (Nat.lt_irrefl p), if_pos rfl, if_pos (by decide), if_pos (Nat.lt_succ_self p), if_neg (by decide), Int.mul_one]
    · rw [if_neg e, show max (bt S k) 0 = bt S k from by omega]
      by_cases q : p < k
      · rw [if_pos q, if_pos (show p < k + 1 by omega)]
        ac_rfl
      · rw [if_neg q, if_neg (show ¬ p < k + 1 by omega), Int.mul_one, Int.mul_one]
theorem PSx_dvd (x : Int) {S T : Nat} (h : ∀ p, bt S p = 1 → bt T p = 1) : ∀ k, PSx x S k ∣ PSx x T k
  | 0 => Int.dvd_refl 1
  | k + 1 => by
    have ih := PSx_dvd x h k
    rw [PSx, PSx]
    by_cases q : bt S k = 1
    · rw [if_pos q, if_pos (h k q)]
      exact Int.mul_dvd_mul ih (Int.dvd_refl _)
    · rw [if_neg q, Int.mul_one]
      exact Int.dvd_trans ih (Int.dvd_mul_right _ _)
theorem PSx_all : ∀ p : Nat, p < 13 → PSx ((p : Int) - 6) (bdiff 8191 (2 ^ p)) 13 ∣ 479001600 := by decide +kernel
def exM (X : Nat → Int) (i : Nat) : Nat → Nat
  | 0 => 0
  | j + 1 => if j = i then exM X i j else exM X i j ||| 2 ^ (X j + 6).toNat
theorem exM_b {X : Nat → Int} {i p : Nat} : ∀ {m : Nat}, bt (exM X i m) p = 1 → ∃ j, j < m ∧ j ≠ i ∧ (X j + 6).toNat = p
  | 0, h => by
    have : bt 0 p = 0 := by simp [bt]
    rw [exM] at h
    omega
  | m + 1, h => by
    rw [exM] at h
    by_cases e : m = i
    · rw [if_pos e] at h
      obtain ⟨j, a, b, c⟩ := exM_b h
      exact ⟨j, by omega, b, c⟩
    · rw [if_neg e, bt_or, bt_pow] at h
      by_cases q : (X m + 6).toNat = p
      · exact ⟨m, by omega, e, q⟩
      · rw [if_neg q] at h
        have h2 : bt (exM X i m) p = 1 := by omega
        obtain ⟨j, a, b, c⟩ := exM_b h2
        exact ⟨j, by omega, b, c⟩
theorem ap_PS {X : Nat → Int} {n i : Nat} (hb : ∀ j, j < n → -6 ≤ X j ∧ X j ≤ 6) (hd : ∀ a b, a < n → b < n → a ≠ b → X a ≠ X b) : ∀ m, m ≤ n → apN X i m = PSx (X i) (exM X i m) 13
  | 0, _ => by
    show (1 : Int) = PSx (X i) 0 13
    have : ∀ k, PSx (X i) 0 k = 1 := by
      intro k
      induction k with
      | zero => rfl
      | succ k ih => rw [PSx, ih, if_neg (by simp [bt]), Int.mul_one]
    rw [this]
  | m + 1, hm => by
    have ih := ap_PS (i := i) hb hd m (by omega)
    rw [apN, exM, ih]
    by_cases e : m = i
    · rw [if_pos e, if_pos e, Int.mul_one]
    · rw [if_neg e, if_neg e]
      have hbm := hb m (by omega)
      have h0 : bt (exM X i m) (X m + 6).toNat = 0 := by
        have h1 := bt_lt (exM X i m) (X m + 6).toNat
        by_cases q : bt (exM X i m) (X m + 6).toNat = 1
        · obtain ⟨j, a, b, c⟩ := exM_b q
          have h2 := hb j (by omega)
          have h3 := hd j m (by omega) (by omega) (by omega)
          omega
        · omega
      rw [PSx_or (X i) h0, if_pos (by omega)]
      congr 1
      omega
theorem ap_dvd {X : Nat → Int} {n : Nat} (hb : ∀ j, j < n → -6 ≤ X j ∧ X j ≤ 6) (hd : ∀ a b, a < n → b < n → a ≠ b → X a ≠ X b) : ∀ i, i < n → apN X i n ∣ 479001600 := fun i hi => by
  have hbi := hb i hi
  rw [ap_PS hb hd n (Nat.le_refl n)]
  have h1 := PSx_all (X i + 6).toNat (by omega)
  rw [show (((X i + 6).toNat : Nat) : Int) - 6 = X i from by omega] at h1
  refine Int.dvd_trans (PSx_dvd (X i) (fun p hp => ?_) 13) h1
  obtain ⟨j, a, b, c⟩ := exM_b hp
  have hbj := hb j a
  have hne := hd j i a hi b
  rw [bt_diff, bt_pow, if_neg (by omega)]
  have h8 : ∀ q, q < 13 → bt 8191 q = 1 := by decide
  rw [h8 p (by omega)]
theorem cl_dvd (fx s : Nat) : ∀ i, i < (clL fx s).length → apN (nfX (clL fx s)) i (clL fx s).length ∣ 479001600 :=
  ap_dvd (nfX_b (b := bB (s ||| fx)) rfl) (fun a b ha hb hab q => by
    by_cases h : a < b
    · have := nfX_lt (b := bB (s ||| fx)) (l := clL fx s) rfl h hb
      omega
    · have := nfX_lt (b := bB (s ||| fx)) (l := clL fx s) rfl (show b < a by omega) ha
      omega)
theorem cl_WT (fx s : Nat) : WT (nfX (clL fx s)) (clL fx s).length (wgt (nfX (clL fx s)) (clL fx s).length) (scl (nfX (clL fx s)) (clL fx s).length) :=
  WT_w (cl_dvd fx s) (fun i j h1 h2 q => by have := nfX_lt (b := bB (s ||| fx)) (l := clL fx s) rfl h1 h2; omega)
theorem cl_WD (fx s : Nat) (h : (clL fx s).length ≤ 5) : WT (nfX (clL fx s)) (clL fx s).length (wdD (nfX (clL fx s)) (clL fx s).length) (vdA (nfX (clL fx s)) (clL fx s).length (clL fx s).length) :=
  WT_D h (fun i j h1 h2 => nfX_lt (b := bB (s ||| fx)) rfl h1 h2)
theorem sgT_a (n i : Nat) : (sgT n i = 1 ∧ (n - 1 - i) % 2 = 0) ∨ (sgT n i = -1 ∧ (n - 1 - i) % 2 = 1) := by
  unfold sgT
  split
  · exact Or.inl ⟨rfl, by assumption⟩
  · exact Or.inr ⟨rfl, by omega⟩
theorem wp_ring {g v D c q y : Int} (e : g * v = D * c) : v * (g * q * y) = c * (D * (y * q)) := by
  have e2 : v * (g * q * y) = (g * v) * (q * y) := by ac_rfl
  rw [e2, e]
  ac_rfl
section
variable {R : Nat → Int} {th fx d w s : Nat} {Y Q : Nat → Int}
theorem nd_in (hC : COK th fx d w Y Q) (hr : ∀ p, bt s p = 1 → bt th p = 1 ∧ bt fx p = 0) {i : Nat} (hi : i < (clL fx s).length) : nfP (clL fx s) i < 13 ∧ bt th (nfP (clL fx s) i) = 1 ∧ bt s (nfP (clL fx s) i) + bt fx (nfP (clL fx s) i) = 1 := by
  have h := nd_place (s ||| fx) 13 i hi
  have h1 := hr (nfP (clL fx s) i)
  have h2 := hC.2.2.2.2.1 (nfP (clL fx s) i)
  have h3 := bt_lt s (nfP (clL fx s) i)
  have h4 := bt_lt th (nfP (clL fx s) i)
  have h5 : bt (s ||| fx) (nfP (clL fx s) i) = 1 := h.2.1
  rw [bt_or] at h5
  have h6 : nfP (clL fx s) i < 13 := h.1
  omega
theorem nY_eq (hK : KR R th fx d w Y Q) {p : Nat} (hp : p < 13) (ht : bt th p = 1) : nY R p = Y p * qv Q ((p : Int) - 6) := by
  rw [nY, KR_qv hK, hK.2.1 p hp ht]
theorem lev_O (hK : KR R th fx d w Y Q) (hC : COK th fx d w Y Q) (hs : s < 8192) (hr : refP R s) : vdA (nfX (clL fx s)) (clL fx s).length (clL fx s).length * msN (clL fx s) Y Q (clL fx s).length = scl (nfX (clL fx s)) (clL fx s).length * lvO R (clL fx s) := by
  have hl := ref_len hK hC hs hr
  have hr2 := ((KR_ref hK hC hs).mp hr).1
  have hd := hC.2.2.1
  have hW := cl_WT fx s
  have hD := cl_WD fx s (by omega)
  rw [lvO, bdN_sum, msN_sum, ← sumN_mul, ← sumN_mul]
  refine sumN_congr (fun i hi => ?_)
  have hn := nd_in hC hr2 hi
  rw [nfY, nY_eq hK hn.1 hn.2.1, msW]
  exact wp_ring (WT_prop hW hD hi)
theorem lev_S (hK : KR R th fx d w Y Q) (hC : COK th fx d w Y Q) (hs : s < 8192) (hr : refP R s) : vdA (nfX (clL fx s)) (clL fx s).length (clL fx s).length * mzN (clL fx s) fx Q (clL fx s).length = scl (nfX (clL fx s)) (clL fx s).length * lvS R (clL fx s) (clL fx s).length := by
  have hl := ref_len hK hC hs hr
  have hr2 := ((KR_ref hK hC hs).mp hr).1
  have hd := hC.2.2.1
  have hW := cl_WT fx s
  have hD := cl_WD fx s (by omega)
  have hX : ∀ i j, i < j → j < (clL fx s).length → nfX (clL fx s) i < nfX (clL fx s) j := fun i j h1 h2 => nfX_lt (b := bB (s ||| fx)) rfl h1 h2
  have hv := vdA_pos hX (Nat.le_refl _)
  have hsc := scl_p (cl_dvd fx s) (by omega)
  rw [lvS_sum, mzN_sum, ← sumN_mul, ← sumN_mul]
  refine sumN_congr (fun i hi => ?_)
  have hn := nd_in hC hr2 hi
  have hk := hK.1 _ hn.1
  by_cases q : bt fx (nfP (clL fx s) i) = 1
  · rw [if_pos q, if_neg (by omega), Int.mul_zero, Int.mul_zero]
  · rw [if_neg q, if_pos (by omega), KR_qv hK]
    have e := WT_prop hW hD hi
    have hdp := dfA_pos (c := i) hX (Nat.le_refl _)
    have e2 := congrArg (fun z : Int => (z.natAbs : Int)) e
    have hsg := sgT_a (clL fx s).length i
    simp only [Int.natAbs_mul, Int.natCast_mul, wdD] at e2
    rw [Int.natAbs_of_nonneg (show 0 ≤ vdA (nfX (clL fx s)) (clL fx s).length (clL fx s).length by omega), Int.natAbs_of_nonneg (show 0 ≤ scl (nfX (clL fx s)) (clL fx s).length by omega), Int.natAbs_of_nonneg (show 0 ≤ dfA (nfX (clL fx s)) i (clL fx s).length (clL fx s).length by omega), show ((sgT (clL fx s).length i).natAbs : Int) = 1 from by omega, Int.one_mul] at e2
    rw [msW, Int.natAbs_mul, Int.natCast_mul]
    have e3 := wp_ring (q := 1) (y := ((qv Q ((nfP (clL fx s) i : Int) - 6)).natAbs : Int)) e2
    rw [Int.mul_one, Int.mul_one] at e3
    exact e3
/-- POINTS are no POLES -/
def NPL (th : Nat) (Q : Nat → Int) : Prop := ∀ p, p < 13 → bt th p = 1 → qv Q ((p : Int) - 6) ≠ 0
theorem sumN_nn {f : Nat → Int} {n : Nat} (h : ∀ i, i < n → 0 ≤ f i) : 0 ≤ sumN f n := by
  have h1 := sumN_le (f := fun _ => 0) (g := f) h
  rw [sumN_zero (fun _ _ => rfl)] at h1
  exact h1
theorem lvS_pos (hK : KR R th fx d w Y Q) (hC : COK th fx d w Y Q) (hQ : NPL th Q) (hs : s < 8192) (hr : refP R s) : 0 < lvS R (clL fx s) (clL fx s).length := by
  have hr2 := (KR_ref hK hC hs).mp hr
  have hX : ∀ i j, i < j → j < (clL fx s).length → nfX (clL fx s) i < nfX (clL fx s) j := fun i j h1 h2 => nfX_lt (b := bB (s ||| fx)) rfl h1 h2
  have hpf := hC.2.2.2.2.2.1
  have hs0 : s ≠ 0 := fun q => by
    have h1 := hr2.2
    rw [q] at h1
    have : pop 0 = 0 := by decide
    omega
  have hlo := low_and s hs hs0
  generalize low s = p at hlo
  obtain ⟨i, hi, hip⟩ := pl_node (s ||| fx) 13 p hlo.2.1 (by rw [bt_or, hlo.2.2]; have := bt_lt fx p; omega)
  have hi2 : i < (clL fx s).length := hi
  have hip2 : nfP (clL fx s) i = p := hip
  have h0 := sumN_lt (f := fun _ => 0) (g := fun i => if R (nfP (clL fx s) i + 18) = 1 then dfA (nfX (clL fx s)) i (clL fx s).length (clL fx s).length * ((qv (fun j => R (j + 1)) ((nfP (clL fx s) i : Int) - 6)).natAbs : Int) else 0) (n := (clL fx s).length) (fun i hi => by
    split
    · exact Int.mul_nonneg (Int.le_of_lt (dfA_pos hX (Nat.le_refl _))) (by omega)
    · exact Int.le_refl 0) ⟨i, hi2, by
    have hpr := hr2.1 p hlo.2.2
    have hk := hK.1 p hlo.2.1
    have hq := hQ p hlo.2.1 hpr.1
    rw [hip2, if_pos (by omega), KR_qv hK]
    exact Int.mul_pos (dfA_pos hX (Nat.le_refl _)) (by omega)⟩
  rw [sumN_zero (fun _ _ => rfl)] at h0
  rw [lvS_sum]
  exact h0
theorem td_abs {a g : Int} (hg : 0 < g) : ((a.tdiv g).natAbs : Int) = (a.natAbs : Int).tdiv g := by
  rw [Int.natAbs_tdiv]
  obtain ⟨n, rfl⟩ := Int.eq_ofNat_of_zero_le (Int.le_of_lt hg)
  rfl
/-- the class's level error is the reference's -/
theorem lev_eq (hK : KR R th fx d w Y Q) (hC : COK th fx d w Y Q) (hQ : NPL th Q) (hs : s < 8192) (hr : refP R s) : 0 < mzN (clL fx s) fx Q (clL fx s).length ∧ cU fx Y Q s = ((aOf R s).natAbs : Int) ∧ cD fx Y Q s = bOf R s := by
  have h1 := lev_O hK hC hs hr
  have h2 := lev_S hK hC hs hr
  have h3 := lvS_pos hK hC hQ hs hr
  have hX : ∀ i j, i < j → j < (clL fx s).length → nfX (clL fx s) i < nfX (clL fx s) j := fun i j h1 h2 => nfX_lt (b := bB (s ||| fx)) rfl h1 h2
  have hv := vdA_pos hX (Nat.le_refl _)
  have hl := ref_len hK hC hs hr
  have hsc := (scl_p (cl_dvd fx s) (by omega)).1
  have hz : 0 < mzN (clL fx s) fx Q (clL fx s).length := by
    have h4 := Int.mul_pos hsc h3
    rw [← h2] at h4
    by_cases q : 0 < mzN (clL fx s) fx Q (clL fx s).length
    · exact q
    · have := Int.mul_nonpos_of_nonneg_of_nonpos (Int.le_of_lt hv) (show mzN (clL fx s) fx Q (clL fx s).length ≤ 0 by omega)
      omega
  have hre := red_eq hv hsc h1 h2 hz h3
  have hlo := KR_l hK hC hs hr
  refine ⟨hz, ?_, ?_⟩
  · rw [cU, mUp, hre.1, aOf, hlo, lvA]
    have hg := (gcd_rng (a := lvO R (clL fx s)) h3).1
    split
    · rw [td_abs hg]
    · rw [td_abs hg, Int.natAbs_neg]
  · rw [cD, mDn, hre.2, bOf, hlo]
end
