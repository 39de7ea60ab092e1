/-! one step of the exchange: the reference's is the class's, and the level grows -/
theorem lr_iff {a L : Int} {r z v : Nat} (hz : z = if a < 0 then 1 else 0) (hL : (L = 1 ∧ v = 0) ∨ (L = -1 ∧ v = 1)) : lrR (if a < 0 then -1 else 1) r = L ↔ (r + z) % 2 = v := by
  unfold lrR
  by_cases q : a < 0
  · rw [if_pos q] at hz ⊢
    by_cases q2 : r % 2 = 0
    · rw [if_pos q2]
      omega
    · rw [if_neg q2]
      omega
  · rw [if_neg q] at hz ⊢
    by_cases q2 : r % 2 = 0
    · rw [if_pos q2]
      omega
    · rw [if_neg q2]
      omega
theorem lo_iff {a c M : Int} {r z v : Nat} (hz : z = if a < 0 then 1 else 0) (hc : (0 < a ∧ c = 1) ∨ (a < 0 ∧ c = 2) ∨ (a = 0 ∧ c = 0)) (hM : (M = 1 ∧ v = 0) ∨ (M = 2 ∧ v = 1)) : lnO c r = M ↔ (r + z) % 2 = v := by
  have h1 := lnO_c c r
  have h2 := fL_c c
  by_cases q : a < 0
  · rw [if_pos q] at hz
    omega
  · rw [if_neg q] at hz
    omega
theorem own_sg {S a b : Int} {n m z : Nat} (hS : 0 < S) (hb : 0 ≤ b) (hz : z = if a < 0 then 1 else 0) (hm : m = n + z) : 0 ≤ (if m % 2 = 0 then S * (if n % 2 = 0 then a * b else -(a * b)) else -(S * (if n % 2 = 0 then a * b else -(a * b)))) := by
  have hP : (a < 0 ∧ S * (a * b) ≤ 0) ∨ (0 ≤ a ∧ 0 ≤ S * (a * b)) := by
    by_cases q : a < 0
    · refine Or.inl ⟨q, ?_⟩
      have h1 : 0 ≤ S * (-a * b) := Int.mul_nonneg (Int.le_of_lt hS) (Int.mul_nonneg (by omega) hb)
      rw [Int.neg_mul, Int.mul_neg] at h1
      omega
    · exact Or.inr ⟨by omega, Int.mul_nonneg (Int.le_of_lt hS) (Int.mul_nonneg (by omega) hb)⟩
  by_cases q2 : n % 2 = 0
  · rw [if_pos q2]
    by_cases q : a < 0
    · rw [if_pos q] at hz
      rw [if_neg (by omega)]
      omega
    · rw [if_neg q] at hz
      rw [if_pos (by omega)]
      omega
  · rw [if_neg q2, Int.mul_neg]
    by_cases q : a < 0
    · rw [if_pos q] at hz
      rw [if_pos (by omega)]
      omega
    · rw [if_neg q] at hz
      rw [if_neg (by omega)]
      omega
section
variable {R : Nat → Int} {th fx d w s lo : Nat} {Y Q : Nat → Int}
theorem own_ce (hK : KR R th fx d w Y Q) (hC : COK th fx d w Y Q) (hQ : NPL th Q) (hs : s < 8192) (hr : refP R s) {k j : Nat} (hk : k < 13) (hj : j < 13) (tk : bt s k = 1) (tj : bt s j = 1) : ceG (cGp fx Y Q s) Q k j = 0 := by
  have hr2 := ((KR_ref hK hC hs).mp hr).1
  rw [← cmp_own hK hC hQ hs hr hk hj (hr2 k tk).1 tj, cmp_own hK hC hQ hs hr hk hk (hr2 k tk).1 tk]
  have := lcV_c ((cGp fx Y Q s k * qv Q ((k : Int) - 6)).natAbs : Int) ((cGp fx Y Q s k * qv Q ((k : Int) - 6)).natAbs : Int)
  unfold ceG
  omega
theorem ref_ne (hK : KR R th fx d w Y Q) (hC : COK th fx d w Y Q) (hs : s < 8192) (hr : refP R s) : s ≠ 0 ∧ bt s (low s) = 1 ∧ low s < 13 := by
  have h1 := ((KR_ref hK hC hs).mp hr).2
  have h2 := hC.2.2.2.2.2.1
  have h3 : s ≠ 0 := fun q => by
    have := (pop_z s hs).mp q
    omega
  exact ⟨h3, (low_sp s hs h3).1, (low_sp s hs h3).2.2⟩
/-- over the level: over it in full -/
theorem over (hK : KR R th fx d w Y Q) (hC : COK th fx d w Y Q) (hQ : NPL th Q) (hs : s < 8192) (hr : refP R s) {k j : Nat} (hj : j < 13) (tj : bt s j = 1) (h : 0 < ceG (cGp fx Y Q s) Q k j) : ((aOf R s).natAbs : Int) * ((qv Q ((k : Int) - 6)).natAbs : Int) * cB0 fx Y Q s < bOf R s * ((uC fx Y Q s k).natAbs : Int) := by
  have hB := cB_pos hK hC hQ hs hr
  have hr2 := ((KR_ref hK hC hs).mp hr).1
  have hq := hQ j hj (hr2 j tj).1
  have ha := u_abs hK hC hQ hs hr hj tj
  have g1 := uC_gap hB.2.2.2 k
  have g2 := uC_gap hB.2.2.2 j
  have h1 : ((cGp fx Y Q s j * qv Q ((k : Int) - 6)).natAbs : Int) < ((cGp fx Y Q s k * qv Q ((j : Int) - 6)).natAbs : Int) := by
    have := lcV_c ((cGp fx Y Q s k * qv Q ((j : Int) - 6)).natAbs : Int) ((cGp fx Y Q s j * qv Q ((k : Int) - 6)).natAbs : Int)
    unfold ceG at h
    omega
  have h2 := Int.mul_lt_mul_of_pos_left h1 (Int.mul_pos hB.2.1 g1.1)
  have q1 : bOf R s * cG fx Y Q s * ((cGp fx Y Q s j * qv Q ((k : Int) - 6)).natAbs : Int) = ((aOf R s).natAbs : Int) * ((qv Q ((k : Int) - 6)).natAbs : Int) * cB0 fx Y Q s * ((qv Q ((j : Int) - 6)).natAbs : Int) := by
    have e : bOf R s * ((uC fx Y Q s j).natAbs : Int) = bOf R s * (cG fx Y Q s * ((cGp fx Y Q s j).natAbs : Int)) := by
      rw [g2.2, Int.natAbs_mul, Int.natCast_mul, Int.natAbs_of_nonneg (Int.le_of_lt g1.1)]
    rw [e] at ha
    have e2 : bOf R s * cG fx Y Q s * ((cGp fx Y Q s j * qv Q ((k : Int) - 6)).natAbs : Int) = bOf R s * (cG fx Y Q s * ((cGp fx Y Q s j).natAbs : Int)) * ((qv Q ((k : Int) - 6)).natAbs : Int) := by
      rw [Int.natAbs_mul, Int.natCast_mul]
      ac_rfl
    rw [e2, ha]
    ac_rfl
  have q2 : bOf R s * cG fx Y Q s * ((cGp fx Y Q s k * qv Q ((j : Int) - 6)).natAbs : Int) = bOf R s * ((uC fx Y Q s k).natAbs : Int) * ((qv Q ((j : Int) - 6)).natAbs : Int) := by
    rw [g1.2, Int.natAbs_mul, Int.natAbs_mul, Int.natCast_mul, Int.natCast_mul, Int.natAbs_of_nonneg (Int.le_of_lt g1.1)]
    ac_rfl
  rw [q1, q2] at h2
  exact Int.lt_of_mul_lt_mul_right h2 (by omega)
theorem on_ce (hK : KR R th fx d w Y Q) (hC : COK th fx d w Y Q) (hQ : NPL th Q) (hs : s < 8192) (hr : refP R s) (h0 : bdiff th fx ≠ 0) (hlo : LW (bdiff th fx) lo) : onC R d s = ceG (cGp fx Y Q s) Q (wsN (cGp fx Y Q s) Q (bdiff th fx) lo (12 - lo)) (low s) ∧ wsN (cGp fx Y Q s) Q (bdiff th fx) lo (12 - lo) < 13 ∧ bt (bdiff th fx) (wsN (cGp fx Y Q s) Q (bdiff th fx) lo (12 - lo)) = 1 := by
  have hf : bdiff th fx < 8192 := bd_lt hC.1
  have hl := low_pr hf h0 hlo
  have hne := ref_ne hK hC hs hr
  have hw := wr_eq hK hC hQ hs hr h0 hf hlo
  have hwl := wsN_lt (g := cGp fx Y Q s) (Q := Q) (fr := bdiff th fx) hl.2.1 (12 - lo) (by omega)
  have hwf := ws_free (g := cGp fx Y Q s) (Q := Q) hl.1 (12 - lo)
  refine ⟨?_, hwl, hwf⟩
  rw [onC, hw, mU_n (by omega), mD_n (by omega)]
  exact cmp_own hK hC hQ hs hr hwl hne.2.2 (fr_in hC hwf).1 hne.2.1
/-- the step -/
theorem exch_step (hK : KR R th fx d w Y Q) (hC : COK th fx d w Y Q) (hQ : NPL th Q) (hs : s < 8192) (hr : refP R s) {v : Nat} (hv : v = wrN R d s 13) (hv13 : v < 13) (hvf : bt (bdiff th fx) v = 1) (hon : 0 < ceG (cGp fx Y Q s) Q v (low s)) {ll lu : Nat} (hll : LW (s &&& (2 ^ v - 1)) ll) (hlu : LW (bdiff s (s &&& (2 ^ v - 1))) lu) :
    ∃ a : Nat, a < 13 ∧ goO R d s = (a : Int) ∧ a = lvC fx s v ll lu (cL fx Y Q s) (cGp fx Y Q s v) ∧ nxS R d s = bdiff (s ||| 2 ^ v) (2 ^ a) ∧ nxS R d s < 8192 ∧ refP R (nxS R d s) ∧ ((aOf R s).natAbs : Int) * bOf R (nxS R d s) < ((aOf R (nxS R d s)).natAbs : Int) * bOf R s := by
  have hne := ref_ne hK hC hs hr
  have hB := cB_pos hK hC hQ hs hr
  have hr2 := (KR_ref hK hC hs).mp hr
  have hvt := fr_in hC hvf
  have hsv : bt s v = 0 := by
    by_cases q : bt s v = 1
    · have := own_ce hK hC hQ hs hr hv13 hne.2.2 q hne.2.1
      omega
    · have := bt_lt s v
      omega
  have hov := over hK hC hQ hs hr hne.2.2 hne.2.1 hon
  have hgap := uC_gap hB.2.2.2 v
  have hsg := mul_sg (a := cGp fx Y Q s v) hgap.1
  rw [Int.mul_comm, ← hgap.2] at hsg
  have hu0 : uC fx Y Q s v ≠ 0 := fun q => by
    rw [q, show ((0 : Int).natAbs : Int) = 0 from rfl, Int.mul_zero] at hov
    have : 0 ≤ ((aOf R s).natAbs : Int) * ((qv Q ((v : Int) - 6)).natAbs : Int) * cB0 fx Y Q s := Int.mul_nonneg (Int.mul_nonneg (by omega) (by omega)) (by omega)
    omega
  have hla := laV_c fx (cGp fx Y Q s v) v
  have htv := toV_c fx v
  have hln := ln_rel hK hC hQ hs hr hv13 hvt.1 hvt.2
  obtain ⟨e, he, heM, heL, huw⟩ : ∃ e : Nat, e < 2 ∧ ((laV fx (cGp fx Y Q s v) v = 1 ∧ e = 0) ∨ (laV fx (cGp fx Y Q s v) v = 2 ∧ e = 1)) ∧ ((lnG R (XF R s) (PF R s) (d + 1) (bOf R s) v = 1 ∧ e = 0) ∨ (lnG R (XF R s) (PF R s) (d + 1) (bOf R s) v = -1 ∧ e = 1)) ∧ 0 ≤ (if (e + toV fx v) % 2 = 0 then uC fx Y Q s v else -uC fx Y Q s v) := by
    have hsv2 := sgV_spec (uC fx Y Q s v)
    generalize uC fx Y Q s v = u at *
    generalize cGp fx Y Q s v = g at *
    generalize laV fx g v = l at *
    rw [hln]
    generalize toV fx v = t at *
    rcases htv with t0 | t0
    · rw [t0, if_pos rfl]
      by_cases q : 0 < u
      · refine ⟨0, by omega, by omega, by omega, ?_⟩
        rw [if_pos (by omega)]
        omega
      · refine ⟨1, by omega, by omega, by omega, ?_⟩
        rw [if_neg (by omega)]
        omega
    · rw [t0, if_neg (by omega)]
      by_cases q : 0 < u
      · refine ⟨1, by omega, by omega, by omega, ?_⟩
        rw [if_pos (by omega)]
        omega
      · refine ⟨0, by omega, by omega, by omega, ?_⟩
        rw [if_neg (by omega)]
        omega
  have hcl := cL_e hK hC hQ hs hr
  have hz : (if aOf R s < 0 then 1 else 0 : Nat) = if aOf R s < 0 then 1 else 0 := rfl
  have hgc := lvC_gone (fx := fx) (ln := cL fx Y Q s) (g := cGp fx Y Q s v) hs hne.1 hv13 hll hlu
  have hgc2 := GONE_cg (fun _ => lo_iff (r := popN s v - 1) hz hcl heM) (lo_iff (r := popN s v) hz hcl heM) hgc
  obtain ⟨a, a1, a2, a3⟩ := goV_gone (f := lnG R (XF R s) (PF R s) (d + 1) (bOf R s) v) (g := frS R s) hs hne.1 hv13 (show bt s v ≠ 1 by omega)
  have ha3 := GONE_cg (fun _ => lr_iff (r := popN s v - 1) hz heL) (lr_iff (r := popN s v) hz heL) a3
  have hae := GONE_one ha3 hgc2
  have hgo : goO R d s = (a : Int) := by
    rw [goO, ← hv, wL_n (by omega), a2]
  have hav : a ≠ v := fun q => by
    have := a3.1
    rw [q] at this
    omega
  have hnx : nxS R d s = bdiff s (2 ^ a) ||| 2 ^ v := by
    rw [nxS, hgo, ← hv, Int.toNat_natCast]
  have hlt : nxS R d s < 8192 := by
    rw [hnx]
    exact or_lt (bd_lt hs) (pw_lt hv13)
  have hstp : STP s v a (nxS R d s) := fun p => by
    rw [hnx, bt_or, bt_diff, bt_pow, bt_pow]
    have hb := bt_lt s p
    by_cases q1 : p = a
    · rw [if_pos q1, if_pos q1.symm, if_neg (by omega)]
      omega
    · rw [if_neg q1, if_neg (show ¬ a = p from fun z => q1 z.symm)]
      by_cases q2 : p = v
      · rw [if_pos q2, if_pos q2.symm]
        omega
      · rw [if_neg q2, if_neg (show ¬ v = p from fun z => q2 z.symm)]
        omega
  have hin : ∀ p, bt (nxS R d s) p = 1 → p = v ∨ bt s p = 1 := fun p hp => by
    have h1 := hstp p
    rw [hp] at h1
    by_cases q1 : p = a
    · rw [if_pos q1] at h1
      omega
    · rw [if_neg q1] at h1
      by_cases q2 : p = v
      · exact Or.inl q2
      · rw [if_neg q2] at h1
        exact Or.inr h1.symm
  have hrf : refP R (nxS R d s) := by
    refine (KR_ref hK hC hlt).mpr ⟨fun p hp => ?_, ?_⟩
    · rcases hin p hp with q | q
      · rw [q]
        exact hvt
      · exact hr2.1 p q
    · rw [STP_all hv13 a1 hsv a3.1 hstp]
      exact hr2.2
  refine ⟨a, a1, hgo, hae, ?_, hlt, hrf, ?_⟩
  · refine bt_ext hlt (bd_lt (or_lt hs (pw_lt hv13))) (fun p _ => ?_)
    rw [hstp p, bt_diff, bt_or, bt_pow, bt_pow]
    have hb := bt_lt s p
    by_cases q1 : p = a
    · rw [if_pos q1, if_pos q1.symm, if_neg (by omega)]
      omega
    · rw [if_neg q1, if_neg (show ¬ a = p from fun z => q1 z.symm)]
      by_cases q2 : p = v
      · rw [if_pos q2, if_pos q2.symm]
        omega
      · rw [if_neg q2, if_neg (show ¬ v = p from fun z => q2 z.symm)]
        omega
  · obtain ⟨z2, hz2⟩ := STP_alt (u := uC fx Y Q s) (fx := fx) (z := if aOf R s < 0 then 1 else 0) hv13 hsv hstp ha3 (fun _ => Iff.rfl) Iff.rfl he (fun p hp hb => by
      rw [u_own hK hC hQ hs hr hp hb]
      exact own_sg hB.1 (by omega) rfl rfl) huw
    refine lev_lt hK hC hQ hs hr hlt hrf z2 hz2 (fun p hp hb => ?_) ⟨v, hv13, ?_, hov⟩
    · rcases hin p hb with q | q
      · rw [q]
        exact Int.le_of_lt hov
      · exact Int.le_of_eq (u_abs hK hC hQ hs hr hp q).symm
    · rw [hstp v, if_neg (fun z => hav z.symm), if_pos rfl]
end
