/-! bounds of the class's numbers -/
theorem mul3_le {a b c A B C : Nat} (h1 : a ≤ A) (h2 : b ≤ B) (h3 : c ≤ C) : a * b * c ≤ A * B * C := Nat.mul_le_mul (Nat.mul_le_mul h1 h2) h3
theorem td_le {a g : Int} (hg : 0 < g) (hd : g ∣ a) : (a.tdiv g).natAbs ≤ a.natAbs := by
  have h : a = a.tdiv g * g := (Int.tdiv_mul_cancel hd).symm
  have := abs_of_mul hg h
  omega
theorem fit_sum {l : List Nat} {G : Nat → Int} {K : Nat} {e : Nat → Nat} {o : Nat → Int} (hG : ∀ i, i < l.length → (G i).natAbs ≤ K * qbN (nfP l i)) (ho : ∀ i, i < l.length → (o i).natAbs ≤ prM e l i l.length) : (sumN (fun i => wgt (nfX l) l.length i * G i * o i) l.length).natAbs ≤ K * SnM l e := by
  refine Nat.le_trans (sm_abs _ _) ?_
  rw [SnM, ← smM_mul]
  refine smM_le (fun i hi => ?_)
  rw [Int.natAbs_mul, Int.natAbs_mul]
  refine Nat.le_trans (mul3_le (Nat.le_refl _) (hG i hi) (ho i hi)) (Nat.le_of_eq ?_)
  show WnM l i * (K * qbN (nfP l i)) * prM e l i l.length = _
  ac_rfl
theorem ev_sum {l : List Nat} {G : Nat → Int} (hn : l.length ≤ 5) (h4 : sumN (fun i => wgt (nfX l) l.length i * G i * onA (nfX l) 1 i l.length 4) l.length = 0) (x : Int) : ev4 (fun k => sumN (fun i => wgt (nfX l) l.length i * G i * onA (nfX l) 1 i l.length k) l.length) x = sumN (fun i => wgt (nfX l) l.length i * G i * pxN (nfX l) x i l.length) l.length := by
  have e1 := pv_hi (m := 4) (d := 3) (f := fun k => sumN (fun i => wgt (nfX l) l.length i * G i * onA (nfX l) 1 i l.length k) l.length) (x := x) (by decide) (fun k h1 h2 => by
    rw [show k = 4 from by omega]
    exact h4)
  rw [ev4_pv, ← e1, sum_pv l.length 4 x (fun i => wgt (nfX l) l.length i * G i) (fun i => onA (nfX l) 1 i l.length) l.length]
  refine sumN_congr (fun i hi => ?_)
  rw [pv_on (nfX l) 1 i 4 x l.length (fun _ => by omega) (fun _ => by omega), Int.one_mul]
section
variable {R : Nat → Int} {th fx d w s : Nat} {Y Q : Nat → Int}
theorem ms_qb (hC : COK th fx d w Y Q) (hr2 : ∀ p, bt s p = 1 → bt th p = 1 ∧ bt fx p = 0) {i : Nat} (hi : i < (clL fx s).length) : (msW (clL fx s) Q i).natAbs ≤ WnM (clL fx s) i * qbN (nfP (clL fx s) i) ∧ (msW (clL fx s) Q i * Y (nfP (clL fx s) i)).natAbs ≤ 99 * (WnM (clL fx s) i * qbN (nfP (clL fx s) i)) := by
  have hn := nd_in hC hr2 hi
  have h1 := qv_qb hC.2.2.2.2.2.2.2.2 hn.1
  have h2 := hC.2.2.2.2.2.2.2.1 _ hn.1
  have h3 : (msW (clL fx s) Q i).natAbs ≤ WnM (clL fx s) i * qbN (nfP (clL fx s) i) := by
    rw [msW, Int.natAbs_mul]
    exact Nat.mul_le_mul (Nat.le_refl _) h1
  refine ⟨h3, ?_⟩
  rw [Int.natAbs_mul, Nat.mul_comm 99]
  exact Nat.mul_le_mul h3 (by omega)
theorem mz_Z (hC : COK th fx d w Y Q) (hr2 : ∀ p, bt s p = 1 → bt th p = 1 ∧ bt fx p = 0) : (mzN (clL fx s) fx Q (clL fx s).length).natAbs ≤ ZnM (clL fx s) ∧ (msN (clL fx s) Y Q (clL fx s).length).natAbs ≤ 99 * ZnM (clL fx s) := by
  constructor
  · rw [mzN_sum]
    refine Nat.le_trans (sm_abs _ _) (smM_le (fun i hi => ?_))
    have := (ms_qb (Y := Y) hC hr2 hi).1
    split
    · exact Nat.zero_le _
    · omega
  · rw [msN_sum, ZnM, ← smM_mul]
    exact Nat.le_trans (sm_abs _ _) (smM_le (fun i hi => (ms_qb hC hr2 hi).2))
theorem cU_le (hK : KR R th fx d w Y Q) (hC : COK th fx d w Y Q) (hQ : NPL th Q) (hs : s < 8192) (hr : refP R s) : (cD fx Y Q s).natAbs ≤ ZnM (clL fx s) ∧ (cU fx Y Q s).natAbs ≤ 99 * ZnM (clL fx s) := by
  have hr2 := ((KR_ref hK hC hs).mp hr).1
  have h1 := mz_Z (Y := Y) hC hr2
  have h0 := (lev_eq hK hC hQ hs hr).1
  have hg := (gcd_rng (a := msN (clL fx s) Y Q (clL fx s).length) h0).1
  constructor
  · exact Nat.le_trans (td_le hg (Int.gcd_dvd_right ..)) h1.1
  · have h5 := td_le hg (a := ((msN (clL fx s) Y Q (clL fx s).length).natAbs : Int)) (Int.dvd_natAbs.mpr (Int.gcd_dvd_left ..))
    rw [cU, mUp]
    omega
theorem gl_bd (hK : KR R th fx d w Y Q) (hC : COK th fx d w Y Q) (hQ : NPL th Q) (hs : s < 8192) (hr : refP R s) {i : Nat} (hi : i < (clL fx s).length) : (glV fx (cD fx Y Q s) (cU fx Y Q s) (cL fx Y Q s) Y Q (clL fx s) i).natAbs ≤ 198 * ZnM (clL fx s) * qbN (nfP (clL fx s) i) := by
  have hr2 := ((KR_ref hK hC hs).mp hr).1
  have hn := nd_in hC hr2 hi
  have h1 := qv_qb hC.2.2.2.2.2.2.2.2 hn.1
  have h2 := hC.2.2.2.2.2.2.2.1 _ hn.1
  have h3 := cU_le hK hC hQ hs hr
  have a1 : (Y (nfP (clL fx s) i) * qv Q ((nfP (clL fx s) i : Int) - 6) * cD fx Y Q s).natAbs ≤ 99 * qbN (nfP (clL fx s) i) * ZnM (clL fx s) := by
    rw [Int.natAbs_mul, Int.natAbs_mul]
    exact mul3_le (by omega) h1 h3.1
  have a2 : (cU fx Y Q s * ((qv Q ((nfP (clL fx s) i : Int) - 6)).natAbs : Int)).natAbs ≤ 99 * ZnM (clL fx s) * qbN (nfP (clL fx s) i) := by
    rw [Int.natAbs_mul]
    exact Nat.mul_le_mul h3.2 (by omega)
  rw [show 99 * qbN (nfP (clL fx s) i) * ZnM (clL fx s) = 99 * (ZnM (clL fx s) * qbN (nfP (clL fx s) i)) from by ac_rfl] at a1
  rw [Nat.mul_assoc] at a2
  rw [glV, Int.neg_mul, Nat.mul_assoc]
  generalize ZnM (clL fx s) * qbN (nfP (clL fx s) i) = z at *
  generalize Y (nfP (clL fx s) i) * qv Q ((nfP (clL fx s) i : Int) - 6) * cD fx Y Q s = u at *
  generalize cU fx Y Q s * ((qv Q ((nfP (clL fx s) i : Int) - 6)).natAbs : Int) = v at *
  split
  · omega
  · split <;> omega
theorem set_ok (hK : KR R th fx d w Y Q) (hC : COK th fx d w Y Q) (hs : s < 8192) (hr : refP R s) : 198 * ZnM (clL fx s) * SnM (clL fx s) (fun x => 1 + dN x 6) ≤ 71000000000000000 ∧ ∀ p, p < 13 → 99 * ((scl (nfX (clL fx s)) (clL fx s).length).natAbs * ZnM (clL fx s)) * qbN p + 198 * ZnM (clL fx s) * SnM (clL fx s) (dN p) ≤ 71000000000000000 := by
  have hl := ref_len hK hC hs hr
  have hd := hC.2.2.1
  exact tst_use (cl_dvd fx s) (by omega) (set_use (S := s ||| fx) (show (clL fx s).length ≤ 5 by omega))
theorem cT_bd (hK : KR R th fx d w Y Q) (hC : COK th fx d w Y Q) (hQ : NPL th Q) (hs : s < 8192) (hr : refP R s) (k : Nat) : (cT fx Y Q s k).natAbs ≤ 71000000000000000 := by
  refine Nat.le_trans ?_ (set_ok hK hC hs hr).1
  rw [cT_sum]
  exact fit_sum (fun i hi => gl_bd hK hC hQ hs hr hi) (fun i hi => on_prM (clL fx s) i (clL fx s).length k)
theorem uC_bd (hK : KR R th fx d w Y Q) (hC : COK th fx d w Y Q) (hQ : NPL th Q) (hs : s < 8192) (hr : refP R s) {p : Nat} (hp : p < 13) : (uC fx Y Q s p).natAbs ≤ 71000000000000000 := by
  have hl := ref_len hK hC hs hr
  have hd := hC.2.2.1
  have h0 := (set_ok hK hC hs hr).2 p hp
  have h1 := qv_qb hC.2.2.2.2.2.2.2.2 hp
  have h2 := hC.2.2.2.2.2.2.2.1 p hp
  have h3 := cU_le hK hC hQ hs hr
  have a1 : (Y p * qv Q ((p : Int) - 6) * cB0 fx Y Q s).natAbs ≤ 99 * qbN p * ((scl (nfX (clL fx s)) (clL fx s).length).natAbs * ZnM (clL fx s)) := by
    rw [Int.natAbs_mul, Int.natAbs_mul, cB0, Int.natAbs_mul]
    exact mul3_le (by omega) h1 (Nat.mul_le_mul (Nat.le_refl _) h3.1)
  have a2 : (ev4 (cT fx Y Q s) ((p : Int) - 6)).natAbs ≤ 198 * ZnM (clL fx s) * SnM (clL fx s) (dN p) := by
    have h4 := cT_deg hK hC hQ hs hr 4 (by omega)
    rw [cT_sum] at h4 ⊢
    rw [ev_sum (by omega) h4]
    exact fit_sum (fun i hi => gl_bd hK hC hQ hs hr hi) (fun i hi => Nat.le_of_eq (px_prM (clL fx s) p i (clL fx s).length))
  rw [show 99 * qbN p * ((scl (nfX (clL fx s)) (clL fx s).length).natAbs * ZnM (clL fx s)) = 99 * ((scl (nfX (clL fx s)) (clL fx s).length).natAbs * ZnM (clL fx s)) * qbN p from by ac_rfl] at a1
  rw [uC]
  generalize Y p * qv Q ((p : Int) - 6) * cB0 fx Y Q s = u at *
  generalize ev4 (cT fx Y Q s) ((p : Int) - 6) = v at *
  omega
/-- no number of a reference's fit is too great for the class -/
theorem cSO_all (hK : KR R th fx d w Y Q) (hC : COK th fx d w Y Q) (hQ : NPL th Q) (hs : s < 8192) (hr : refP R s) : cSO fx Y Q s :=
  cSO_of hK hC hQ hs hr (fun k _ => by have := cT_bd hK hC hQ hs hr k; omega) (fun p hp => by have := uC_bd hK hC hQ hs hr hp; omega)
/-- nor of the fit through few points -/
theorem Z_pos {l : List Nat} (hd : ∀ i, i < l.length → apN (nfX l) i l.length ∣ 479001600) (h0 : 0 < l.length) : 1 ≤ ZnM l := by
  have h1 := wgt_b hd h0
  have h2 : smM (fun i => WnM l i * qbN (nfP l i)) 1 ≤ ZnM l := by
    have hm : ∀ n, 1 ≤ n → smM (fun i => WnM l i * qbN (nfP l i)) 1 ≤ smM (fun i => WnM l i * qbN (nfP l i)) n := by
      intro n hn
      induction n with
      | zero => omega
      | succ n ih =>
        by_cases e : n = 0
        · rw [e]
          exact Nat.le_refl _
        · exact Nat.le_trans (ih (by omega)) (Nat.le_add_right _ _)
    exact hm l.length h0
  have h3 : 1 ≤ WnM l 0 := by
    unfold WnM
    omega
  have h4 : 1 ≤ qbN (nfP l 0) := by
    unfold qbN
    omega
  have h5 := Nat.mul_le_mul h3 h4
  have h6 : smM (fun i => WnM l i * qbN (nfP l i)) 1 = 0 + WnM l 0 * qbN (nfP l 0) := rfl
  omega
theorem few_set (hC : COK th fx d w Y Q) (hm : pop th = d + 1) : 99 * SnM (gLs th) (fun x => 1 + dN x 6) ≤ 71000000000000000 ∧ ∀ p, p < 13 → 99 * (scl (nfX (gLs th)) (gLs th).length).natAbs * qbN p + 99 * SnM (gLs th) (dN p) ≤ 71000000000000000 := by
  have hl : (gLs th).length = d + 1 := (gLs_n th).trans hm
  have hd := hC.2.2.1
  have h := tst_use (gLs_dvd th) (by omega) (set_use (S := th) (show (gLs th).length ≤ 5 by omega))
  have hz := Z_pos (gLs_dvd th) (by omega)
  have e1 : ∀ e : Nat → Nat, 99 * SnM (gLs th) e ≤ 198 * ZnM (gLs th) * SnM (gLs th) e := fun e => Nat.mul_le_mul (by omega) (Nat.le_refl _)
  refine ⟨Nat.le_trans (e1 _) h.1, fun p hp => Nat.le_trans (Nat.add_le_add ?_ (e1 _)) (h.2 p hp)⟩
  refine Nat.mul_le_mul (Nat.mul_le_mul (Nat.le_refl _) ?_) (Nat.le_refl _)
  have := Nat.mul_le_mul (Nat.le_refl (scl (nfX (gLs th)) (gLs th).length).natAbs) hz
  rwa [Nat.mul_one] at this
theorem gl_few (hC : COK th fx d w Y Q) {i : Nat} (hi : i < (gLs th).length) : (glV fx 1 0 0 Y Q (gLs th) i).natAbs ≤ 99 * qbN (nfP (gLs th) i) := by
  have hn := gLs_in hi
  have h1 := qv_qb hC.2.2.2.2.2.2.2.2 hn.1
  have h2 := hC.2.2.2.2.2.2.2.1 _ hn.1
  rw [glV_few, Int.natAbs_mul]
  exact Nat.mul_le_mul (by omega) h1
theorem gSO_all (hC : COK th fx d w Y Q) (hm : pop th = d + 1) : gSO fx Y Q th := by
  have hl : (gLs th).length = d + 1 := (gLs_n th).trans hm
  have hd := hC.2.2.1
  have hB := gB_parts (fx := fx) (Y := Y) (Q := Q) hm
  have hsc := scl_p (gLs_dvd th) (by omega)
  have hf := few_set hC hm
  have hT : ∀ k, (gT fx Y Q th k).natAbs ≤ 71000000000000000 := fun k => by
    refine Nat.le_trans ?_ hf.1
    rw [gT, ptN_sum]
    exact fit_sum (fun i hi => gl_few hC hi) (fun i hi => on_prM (gLs th) i (gLs th).length k)
  have hG : ∀ p, p < 13 → (gpV (gBe fx Y Q th) (gP fx Y Q th) Y Q p).natAbs ≤ 71000000000000000 := fun p hp => by
    have h0 := hf.2 p hp
    have h1 := qv_qb hC.2.2.2.2.2.2.2.2 hp
    have h2 := hC.2.2.2.2.2.2.2.1 p hp
    have e3 : ev4 (gT fx Y Q th) ((p : Int) - 6) = shG (gB0 th) (gT fx Y Q th) 4 * ev4 (gP fx Y Q th) ((p : Int) - 6) := by
      rw [← ev4_smul]
      exact ev4_congr (fun k hk => (hB.2.2.2.2.1 k hk).symm)
    have e4 : Y p * qv Q ((p : Int) - 6) * scl (nfX (gLs th)) (gLs th).length - ev4 (gT fx Y Q th) ((p : Int) - 6) = shG (gB0 th) (gT fx Y Q th) 4 * gpV (gBe fx Y Q th) (gP fx Y Q th) Y Q p := by
      have e5 := hB.2.2.2.1
      rw [Int.mul_one] at e5
      rw [e3, ← e5, gpV, Int.mul_sub]
      congr 1
      ac_rfl
    have h3 := abs_of_mul hB.2.2.1 (e4.trans (Int.mul_comm _ _))
    have a1 : (Y p * qv Q ((p : Int) - 6) * scl (nfX (gLs th)) (gLs th).length).natAbs ≤ 99 * qbN p * (scl (nfX (gLs th)) (gLs th).length).natAbs := by
      rw [Int.natAbs_mul, Int.natAbs_mul]
      exact mul3_le (by omega) h1 (Nat.le_refl _)
    have a2 : (ev4 (gT fx Y Q th) ((p : Int) - 6)).natAbs ≤ 99 * SnM (gLs th) (dN p) := by
      have h4 := gT_deg fx Y Q th 4 (by omega)
      rw [gT, ptN_sum] at h4 ⊢
      rw [ev_sum (by omega) h4]
      exact fit_sum (fun i hi => gl_few hC hi) (fun i hi => Nat.le_of_eq (px_prM (gLs th) p i (gLs th).length))
    rw [show 99 * qbN p * (scl (nfX (gLs th)) (gLs th).length).natAbs = 99 * (scl (nfX (gLs th)) (gLs th).length).natAbs * qbN p from by ac_rfl] at a1
    generalize Y p * qv Q ((p : Int) - 6) * scl (nfX (gLs th)) (gLs th).length = u at *
    generalize ev4 (gT fx Y Q th) ((p : Int) - 6) = v at *
    omega
  refine ⟨⟨by omega, by omega⟩, gLs_dvd th, ⟨hB.2.1, ?_⟩, fun k _ => by have := hT k; omega, fun a b ha hb => ?_⟩
  · rw [gB0]
    omega
  · have h2 := hG a ha
    have h3 := qv_bd hC hb
    have h4 := mul_bd (a := gpV (gBe fx Y Q th) (gP fx Y Q th) Y Q a) (b := qv Q ((b : Int) - 6)) (A := 71000000000000000) (B := 129) (by omega) (by omega) h3.1 h3.2
    omega
end
