/-! the errors of the reference and of the class compare alike -/
theorem kx_cmp {K L x y X Y : Int} (hK : 0 < K) (hL : 0 < L) (h1 : K * x = L * X) (h2 : K * y = L * Y) : (x < y ↔ X < Y) ∧ (x = y ↔ X = Y) := by
  refine ⟨⟨fun h => ?_, fun h => ?_⟩, ⟨fun h => ?_, fun h => ?_⟩⟩
  · have := Int.mul_lt_mul_of_pos_left h hK
    rw [h1, h2] at this
    exact Int.lt_of_mul_lt_mul_left this (Int.le_of_lt hL)
  · have := Int.mul_lt_mul_of_pos_left h hL
    rw [← h1, ← h2] at this
    exact Int.lt_of_mul_lt_mul_left this (Int.le_of_lt hK)
  · rw [h] at h1
    have := h1.symm.trans h2
    exact Int.eq_of_mul_eq_mul_left (by omega) this
  · rw [h] at h1
    have := h1.trans h2.symm
    exact Int.eq_of_mul_eq_mul_left (by omega) this
theorem cmpV_cg {k1 k2 l1 l2 a b c e A B C E : Int} (hk1 : 0 < k1) (hk2 : 0 < k2) (hl1 : 0 < l1) (hl2 : 0 < l2) (h1 : k1 * a = k2 * A) (h2 : k1 * b = k2 * B) (h3 : l1 * c = l2 * C) (h4 : l1 * e = l2 * E) : cmpV a b c e = cmpV A B C E := by
  have e1 : (k1 * l1) * (a * e) = (k2 * l2) * (A * E) := by
    have : (k1 * l1) * (a * e) = (k1 * a) * (l1 * e) := by ac_rfl
    rw [this, h1, h4]
    ac_rfl
  have e2 : (k1 * l1) * (c * b) = (k2 * l2) * (C * B) := by
    have : (k1 * l1) * (c * b) = (k1 * b) * (l1 * c) := by ac_rfl
    rw [this, h2, h3]
    ac_rfl
  have h := kx_cmp (Int.mul_pos hk1 hl1) (Int.mul_pos hk2 hl2) e1 e2
  unfold cmpV
  by_cases q : a * e < c * b
  · rw [if_pos q, if_pos (h.1.mp q)]
  · rw [if_neg q, if_neg (fun z => q (h.1.mpr z))]
    by_cases q2 : a * e = c * b
    · rw [if_pos q2, if_pos (h.2.mp q2)]
    · rw [if_neg q2, if_neg (fun z => q2 (h.2.mpr z))]
theorem fdU_g {u v : Int} (hv : v ≠ 0) : ∃ g : Int, 0 < g ∧ g * fdU u v = (if v < 0 then -u else u) ∧ g * ((v.natAbs : Int).tdiv (Int.gcd u v : Int)) = (v.natAbs : Int) := by
  refine ⟨(Int.gcd u v : Int), ?_, ?_, ?_⟩
  · have := Int.gcd_ne_zero_right (a := u) hv
    omega
  · unfold fdU
    split
    · rw [Int.mul_comm]
      exact Int.tdiv_mul_cancel (Int.dvd_neg.mpr gcd_dl)
    · rw [Int.mul_comm]
      exact Int.tdiv_mul_cancel gcd_dl
  · rw [Int.mul_comm]
    exact Int.tdiv_mul_cancel (Int.dvd_natAbs.mpr gcd_dr)
section
variable {R : Nat → Int} {th fx d w s : Nat} {Y Q : Nat → Int}
/-- a reference's error, cross the class's -/
theorem e_rel (hK : KR R th fx d w Y Q) (hC : COK th fx d w Y Q) (hQ : NPL th Q) (hs : s < 8192) (hr : refP R s) {p : Nat} (hp : p < 13) (ht : bt th p = 1) : ∃ k1 k2 : Int, 0 < k1 ∧ 0 < k2 ∧ k1 * eUG R (XF R s) (PF R s) (d + 1) (bOf R s) p = k2 * (if qv Q ((p : Int) - 6) < 0 then -uC fx Y Q s p else uC fx Y Q s p) ∧ k1 * eDG R (XF R s) (PF R s) (d + 1) (bOf R s) p = k2 * (((qv Q ((p : Int) - 6)).natAbs : Int) * cB0 fx Y Q s) := by
  have hl := KR_l hK hC hs hr
  have hd := hC.2.2.1
  have hB := cB_pos hK hC hQ hs hr
  have hu := u_rel hK hC hQ hs hr hp ht
  have hX : ∀ i j, i < j → j < d + 1 → nfX (clL fx s) i < nfX (clL fx s) j := fun i j h1 h2 => nfX_lt (b := bB (s ||| fx)) rfl h1 (show j < (clL fx s).length by have := ref_len hK hC hs hr; omega)
  have hv := vdA_pos hX (Nat.le_refl (d + 1))
  have hq := hQ p hp ht
  have eX : XF R s = nfX (clL fx s) := by rw [XF, hl]
  have eP : PF R s = fpV R (clL fx s) (aOf R s) (bOf R s) := by rw [PF, hl]
  rw [eX, eP]
  have hcv : 0 < bOf R s * vdA (nfX (clL fx s)) (d + 1) (d + 1) := Int.mul_pos hB.2.1 hv
  have hw : wG R (nfX (clL fx s)) (d + 1) (bOf R s) p = qv Q ((p : Int) - 6) * (bOf R s * vdA (nfX (clL fx s)) (d + 1) (d + 1)) := by rw [wG, KR_qv hK]
  have hw0 : wG R (nfX (clL fx s)) (d + 1) (bOf R s) p ≠ 0 := by
    rw [hw]
    exact Int.mul_ne_zero hq (by omega)
  obtain ⟨g, g1, g2, g3⟩ := fdU_g (u := uG R (nfX (clL fx s)) (fpV R (clL fx s) (aOf R s) (bOf R s)) (d + 1) (bOf R s) p) hw0
  have hsgn : wG R (nfX (clL fx s)) (d + 1) (bOf R s) p < 0 ↔ qv Q ((p : Int) - 6) < 0 := by
    rw [hw]
    exact (mul_sg hcv).2.2
  refine ⟨g * scl (nfX (clL fx s)) (clL fx s).length, vdA (nfX (clL fx s)) (d + 1) (d + 1), Int.mul_pos g1 hB.1, hv, ?_, ?_⟩
  · rw [eUG, show g * scl (nfX (clL fx s)) (clL fx s).length * fdU (uG R (nfX (clL fx s)) (fpV R (clL fx s) (aOf R s) (bOf R s)) (d + 1) (bOf R s) p) (wG R (nfX (clL fx s)) (d + 1) (bOf R s) p) = scl (nfX (clL fx s)) (clL fx s).length * (g * fdU (uG R (nfX (clL fx s)) (fpV R (clL fx s) (aOf R s) (bOf R s)) (d + 1) (bOf R s) p) (wG R (nfX (clL fx s)) (d + 1) (bOf R s) p)) from by ac_rfl, g2]
    by_cases q : qv Q ((p : Int) - 6) < 0
    · rw [if_pos q, if_pos (hsgn.mpr q), Int.mul_neg, Int.mul_neg, hu]
    · rw [if_neg q, if_neg (fun z => q (hsgn.mp z)), hu]
  · rw [eDG, show g * scl (nfX (clL fx s)) (clL fx s).length * (((wG R (nfX (clL fx s)) (d + 1) (bOf R s) p).natAbs : Int).tdiv (Int.gcd (uG R (nfX (clL fx s)) (fpV R (clL fx s) (aOf R s) (bOf R s)) (d + 1) (bOf R s) p) (wG R (nfX (clL fx s)) (d + 1) (bOf R s) p) : Int)) = scl (nfX (clL fx s)) (clL fx s).length * (g * (((wG R (nfX (clL fx s)) (d + 1) (bOf R s) p).natAbs : Int).tdiv (Int.gcd (uG R (nfX (clL fx s)) (fpV R (clL fx s) (aOf R s) (bOf R s)) (d + 1) (bOf R s) p) (wG R (nfX (clL fx s)) (d + 1) (bOf R s) p) : Int))) from by ac_rfl, g3, hw, Int.natAbs_mul, Int.natCast_mul, Int.natAbs_of_nonneg (Int.le_of_lt hcv), hB.2.2.1]
    ac_rfl
theorem natAbs_k {k1 k2 a b : Int} (h1 : 0 < k1) (h2 : 0 < k2) (h : k1 * a = k2 * b) : k1 * (a.natAbs : Int) = k2 * (b.natAbs : Int) := by
  have h3 := congrArg Int.natAbs h
  rw [Int.natAbs_mul, Int.natAbs_mul] at h3
  have h4 := congrArg (fun n : Nat => (n : Int)) h3
  simp only [Int.natCast_mul] at h4
  rw [Int.natAbs_of_nonneg (Int.le_of_lt h1), Int.natAbs_of_nonneg (Int.le_of_lt h2)] at h4
  exact h4
theorem e_abs (hK : KR R th fx d w Y Q) (hC : COK th fx d w Y Q) (hQ : NPL th Q) (hs : s < 8192) (hr : refP R s) {p : Nat} (hp : p < 13) (ht : bt th p = 1) : ∃ k1 k2 : Int, 0 < k1 ∧ 0 < k2 ∧ k1 * ((eUG R (XF R s) (PF R s) (d + 1) (bOf R s) p).natAbs : Int) = k2 * ((uC fx Y Q s p).natAbs : Int) ∧ k1 * eDG R (XF R s) (PF R s) (d + 1) (bOf R s) p = k2 * (((qv Q ((p : Int) - 6)).natAbs : Int) * cB0 fx Y Q s) := by
  obtain ⟨k1, k2, h1, h2, h3, h4⟩ := e_rel hK hC hQ hs hr hp ht
  refine ⟨k1, k2, h1, h2, ?_, h4⟩
  have h5 := natAbs_k h1 h2 h3
  rw [h5]
  split
  · rw [Int.natAbs_neg]
  · rfl
theorem own_abs (hK : KR R th fx d w Y Q) (hC : COK th fx d w Y Q) (hQ : NPL th Q) (hs : s < 8192) (hr : refP R s) {p : Nat} (hp : p < 13) (hb : bt s p = 1) : ((uC fx Y Q s p).natAbs : Int) = scl (nfX (clL fx s)) (clL fx s).length * (((aOf R s).natAbs : Int) * ((qv Q ((p : Int) - 6)).natAbs : Int)) := by
  have h := cB_pos hK hC hQ hs hr
  rw [u_own hK hC hQ hs hr hp hb, Int.natAbs_mul, Int.natCast_mul, Int.natAbs_of_nonneg (Int.le_of_lt h.1)]
  congr 1
  split
  · rw [Int.natAbs_mul, Int.natCast_mul, Int.natAbs_natCast]
  · rw [Int.natAbs_neg, Int.natAbs_mul, Int.natCast_mul, Int.natAbs_natCast]
theorem cmp_ce (hB : 0 < cB0 fx Y Q s) (k j : Nat) : cmpV ((uC fx Y Q s k).natAbs : Int) (((qv Q ((k : Int) - 6)).natAbs : Int) * cB0 fx Y Q s) ((uC fx Y Q s j).natAbs : Int) (((qv Q ((j : Int) - 6)).natAbs : Int) * cB0 fx Y Q s) = ceG (cGp fx Y Q s) Q k j := by
  have h1 := uC_gap hB k
  have h2 := uC_gap hB j
  have hp := Int.mul_pos h1.1 hB
  have e1 : 1 * (((uC fx Y Q s k).natAbs : Int) * (((qv Q ((j : Int) - 6)).natAbs : Int) * cB0 fx Y Q s)) = (cG fx Y Q s * cB0 fx Y Q s) * ((cGp fx Y Q s k * qv Q ((j : Int) - 6)).natAbs : Int) := by
    rw [h1.2, Int.natAbs_mul, Int.natAbs_mul, Int.natCast_mul, Int.natCast_mul, Int.natAbs_of_nonneg (Int.le_of_lt h1.1), Int.one_mul]
    ac_rfl
  have e2 : 1 * (((uC fx Y Q s j).natAbs : Int) * (((qv Q ((k : Int) - 6)).natAbs : Int) * cB0 fx Y Q s)) = (cG fx Y Q s * cB0 fx Y Q s) * ((cGp fx Y Q s j * qv Q ((k : Int) - 6)).natAbs : Int) := by
    rw [h2.2, Int.natAbs_mul, Int.natAbs_mul, Int.natCast_mul, Int.natCast_mul, Int.natAbs_of_nonneg (Int.le_of_lt h1.1), Int.one_mul]
    ac_rfl
  have h := kx_cmp (by decide) hp e1 e2
  unfold cmpV ceG lcV
  by_cases q : ((uC fx Y Q s k).natAbs : Int) * (((qv Q ((j : Int) - 6)).natAbs : Int) * cB0 fx Y Q s) < ((uC fx Y Q s j).natAbs : Int) * (((qv Q ((k : Int) - 6)).natAbs : Int) * cB0 fx Y Q s)
  · rw [if_pos q, if_pos (h.1.mp q)]
  · rw [if_neg q, if_neg (fun z => q (h.1.mpr z))]
    by_cases q2 : ((uC fx Y Q s k).natAbs : Int) * (((qv Q ((j : Int) - 6)).natAbs : Int) * cB0 fx Y Q s) = ((uC fx Y Q s j).natAbs : Int) * (((qv Q ((k : Int) - 6)).natAbs : Int) * cB0 fx Y Q s)
    · rw [if_pos q2, if_pos (h.2.mp q2)]
    · rw [if_neg q2, if_neg (fun z => q2 (h.2.mpr z))]
/-- two told points' errors compare in the reference as in the class -/
theorem cmp_two (hK : KR R th fx d w Y Q) (hC : COK th fx d w Y Q) (hQ : NPL th Q) (hs : s < 8192) (hr : refP R s) {k j : Nat} (hk : k < 13) (hj : j < 13) (tk : bt th k = 1) (tj : bt th j = 1) : cmpV ((eUG R (XF R s) (PF R s) (d + 1) (bOf R s) k).natAbs : Int) (eDG R (XF R s) (PF R s) (d + 1) (bOf R s) k) ((eUG R (XF R s) (PF R s) (d + 1) (bOf R s) j).natAbs : Int) (eDG R (XF R s) (PF R s) (d + 1) (bOf R s) j) = ceG (cGp fx Y Q s) Q k j := by
  obtain ⟨k1, k2, h1, h2, h3, h4⟩ := e_abs hK hC hQ hs hr hk tk
  obtain ⟨l1, l2, g1, g2, g3, g4⟩ := e_abs hK hC hQ hs hr hj tj
  rw [cmpV_cg h1 h2 g1 g2 h3 h4 g3 g4]
  exact cmp_ce (cB_pos hK hC hQ hs hr).2.2.2 k j
/-- a told point's error against the level: as against any of the reference's own points -/
theorem cmp_own (hK : KR R th fx d w Y Q) (hC : COK th fx d w Y Q) (hQ : NPL th Q) (hs : s < 8192) (hr : refP R s) {k j : Nat} (hk : k < 13) (hj : j < 13) (tk : bt th k = 1) (tj : bt s j = 1) : cmpV ((eUG R (XF R s) (PF R s) (d + 1) (bOf R s) k).natAbs : Int) (eDG R (XF R s) (PF R s) (d + 1) (bOf R s) k) ((aOf R s).natAbs : Int) (bOf R s) = ceG (cGp fx Y Q s) Q k j := by
  have hB := cB_pos hK hC hQ hs hr
  have hr2 := ((KR_ref hK hC hs).mp hr).1
  have hq := hQ j hj (hr2 j tj).1
  obtain ⟨k1, k2, h1, h2, h3, h4⟩ := e_abs hK hC hQ hs hr hk tk
  have ho := own_abs hK hC hQ hs hr hj tj
  rw [cmpV_cg (l1 := scl (nfX (clL fx s)) (clL fx s).length * ((qv Q ((j : Int) - 6)).natAbs : Int)) (l2 := 1) (C := ((uC fx Y Q s j).natAbs : Int)) (E := ((qv Q ((j : Int) - 6)).natAbs : Int) * cB0 fx Y Q s) h1 h2 (Int.mul_pos hB.1 (by omega)) (by decide) h3 h4 (by rw [ho, Int.one_mul]; ac_rfl) (by rw [hB.2.2.1, Int.one_mul]; ac_rfl)]
  exact cmp_ce hB.2.2.2 k j
/-- a told point's lean -/
theorem ln_rel (hK : KR R th fx d w Y Q) (hC : COK th fx d w Y Q) (hQ : NPL th Q) (hs : s < 8192) (hr : refP R s) {p : Nat} (hp : p < 13) (ht : bt th p = 1) (hf : bt fx p = 0) : lnG R (XF R s) (PF R s) (d + 1) (bOf R s) p = sgV (uC fx Y Q s p) * (if toV fx p = 0 then 1 else -1) := by
  obtain ⟨k1, k2, h1, h2, h3, -⟩ := e_rel hK hC hQ hs hr hp ht
  have hta := (tau_e hK hC hp hf).1
  have htv := toV_c fx p
  have hq := hQ p hp ht
  have e2 : tauV R p = (if toV fx p = 0 then 1 else -1) := by
    rw [tauV, hta]
  have e1 : sgV (eUG R (XF R s) (PF R s) (d + 1) (bOf R s) p) * sgV (qv (fun j => R (j + 1)) ((p : Int) - 6)) = sgV (uC fx Y Q s p) := by
    rw [KR_qv hK]
    generalize eUG R (XF R s) (PF R s) (d + 1) (bOf R s) p = e at *
    generalize qv Q ((p : Int) - 6) = q at *
    generalize uC fx Y Q s p = u at *
    have s1 := mul_sg (a := e) h1
    have s2 := mul_sg (a := if q < 0 then -u else u) h2
    rw [Int.mul_comm e, h3, Int.mul_comm k2] at s1
    rcases sgV_spec q with ⟨z1, z2⟩ | ⟨z1, z2⟩ | ⟨z1, z2⟩
    · rw [z1]
      rw [if_pos z2] at s1 s2
      rcases sgV_spec e with ⟨y1, y2⟩ | ⟨y1, y2⟩ | ⟨y1, y2⟩ <;> rcases sgV_spec u with ⟨x1, x2⟩ | ⟨x1, x2⟩ | ⟨x1, x2⟩ <;> rw [y1, x1] <;> first | rfl | omega
    · rw [z1]
      rw [if_neg (by omega)] at s1 s2
      rcases sgV_spec e with ⟨y1, y2⟩ | ⟨y1, y2⟩ | ⟨y1, y2⟩ <;> rcases sgV_spec u with ⟨x1, x2⟩ | ⟨x1, x2⟩ | ⟨x1, x2⟩ <;> rw [y1, x1] <;> first | rfl | omega
    · exact absurd z2 hq
  rw [lnG, e1, e2]
end
