/-! part, value, error of both -/
section
variable {R : Nat → Int} {th fx d w s : Nat} {Y Q : Nat → Int}
theorem evT_bd (hK : KR R th fx d w Y Q) (hC : COK th fx d w Y Q) (hQ : NPL th Q) (hs : s < 8192) (hr : refP R s) {p : Nat} (hp : p < 13) : (ev4 (cT fx Y Q s) ((p : Int) - 6)).natAbs ≤ 71000000000000000 := by
  have hl := ref_len hK hC hs hr
  have hd := hC.2.2.1
  have h0 := (set_ok hK hC hs hr).2 p hp
  have a2 : (ev4 (cT fx Y Q s) ((p : Int) - 6)).natAbs ≤ 198 * ZnM (clL fx s) * SnM (clL fx s) (dN p) := by
    have h4 := cT_deg hK hC hQ hs hr 4 (by omega)
    rw [cT_sum] at h4 ⊢
    rw [ev_sum (by omega) h4]
    exact fit_sum (fun i hi => gl_bd hK hC hQ hs hr hi) (fun i hi => Nat.le_of_eq (px_prM (clL fx s) p i (clL fx s).length))
  omega
theorem cG_all (hK : KR R th fx d w Y Q) (hC : COK th fx d w Y Q) (hQ : NPL th Q) (hs : s < 8192) (hr : refP R s) : 0 < cG fx Y Q s ∧ cBe fx Y Q s * cG fx Y Q s = cB0 fx Y Q s ∧ (∀ k, k < 4 → cP fx Y Q s k * cG fx Y Q s = cT fx Y Q s k) ∧ 0 < cB0 fx Y Q s ∧ cB0 fx Y Q s ≤ 16216484249241600 := by
  have hB := cB_pos hK hC hQ hs hr
  have hab := ab_bd hK hC hQ hs hr
  have hsc := scl_p (cl_dvd fx s) (show 0 < (clL fx s).length by have := ref_len hK hC hs hr; omega)
  have h1 := shG_b (P := cT fx Y Q s) hB.2.2.2 4
  have h2 := shG_dvd (P := cT fx Y Q s) (b := cB0 fx Y Q s) 4
  refine ⟨h1.1, Int.tdiv_mul_cancel h2.1, fun k hk => Int.tdiv_mul_cancel (h2.2 k hk), hB.2.2.2, ?_⟩
  rw [hB.2.2.1]
  have h := mul_bd (a := scl (nfX (clL fx s)) (clL fx s).length) (b := bOf R s) (A := 479001600) (B := 33854760) (by omega) (by omega) (by omega) (by omega)
  omega
theorem cBe_bd (hK : KR R th fx d w Y Q) (hC : COK th fx d w Y Q) (hQ : NPL th Q) (hs : s < 8192) (hr : refP R s) : cBe fx Y Q s ≠ 0 ∧ (cBe fx Y Q s).natAbs ≤ 16216484249241600 := by
  have h := cG_all hK hC hQ hs hr
  have h1 := abs_of_mul h.1 h.2.1.symm
  refine ⟨fun q => ?_, by omega⟩
  have h2 := h.2.1
  rw [q, Int.zero_mul] at h2
  omega
theorem cP_bd (hK : KR R th fx d w Y Q) (hC : COK th fx d w Y Q) (hQ : NPL th Q) (hs : s < 8192) (hr : refP R s) {k : Nat} (hk : k < 4) : (cP fx Y Q s k).natAbs ≤ 71000000000000000 := by
  have h := cG_all hK hC hQ hs hr
  have h1 := abs_of_mul h.1 (h.2.2.1 k hk).symm
  have h2 := cT_bd hK hC hQ hs hr k
  omega
theorem evP_bd (hK : KR R th fx d w Y Q) (hC : COK th fx d w Y Q) (hQ : NPL th Q) (hs : s < 8192) (hr : refP R s) {p : Nat} (hp : p < 13) : (ev4 (cP fx Y Q s) ((p : Int) - 6)).natAbs ≤ 71000000000000000 := by
  have h := cG_all hK hC hQ hs hr
  have e : ev4 (cT fx Y Q s) ((p : Int) - 6) = ev4 (cP fx Y Q s) ((p : Int) - 6) * cG fx Y Q s := by
    rw [Int.mul_comm, ← ev4_smul]
    exact ev4_congr (fun k hk => by rw [Int.mul_comm]; exact (h.2.2.1 k hk).symm)
  have h1 := abs_of_mul h.1 e
  have h2 := evT_bd hK hC hQ hs hr hp
  omega
theorem cGp_bd (hK : KR R th fx d w Y Q) (hC : COK th fx d w Y Q) (hQ : NPL th Q) (hs : s < 8192) (hr : refP R s) {p : Nat} (hp : p < 13) : (cGp fx Y Q s p).natAbs ≤ 71000000000000000 := by
  have h1 := gap_le (cG_all hK hC hQ hs hr).2.2.2.1 p
  have h2 := uC_bd hK hC hQ hs hr hp
  omega
theorem beq_bd {b : Int} (hC : COK th fx d w Y Q) (h0 : b ≠ 0) (hb : b.natAbs ≤ 16216484249241600) {p : Nat} (hp : p < 13) (hq : qv Q ((p : Int) - 6) ≠ 0) : (-9223372036854775807 ≤ b * qv Q ((p : Int) - 6) ∧ b * qv Q ((p : Int) - 6) ≤ 9223372036854775807) ∧ b * qv Q ((p : Int) - 6) ≠ 0 := by
  have h3 := qv_bd hC hp
  have h4 := mul_bd (a := b) (b := qv Q ((p : Int) - 6)) (A := 16216484249241600) (B := 129) (by omega) (by omega) h3.1 h3.2
  exact ⟨by omega, Int.mul_ne_zero h0 hq⟩
/-- the fit through all of few points -/
theorem gF_all (hC : COK th fx d w Y Q) (hm : pop th = d + 1) : gBe fx Y Q th ≠ 0 ∧ (gBe fx Y Q th).natAbs ≤ 479001600 ∧ (∀ k, k < 4 → (gP fx Y Q th k).natAbs ≤ 71000000000000000) ∧ (∀ p : Nat, p < 13 → (ev4 (gP fx Y Q th) ((p : Int) - 6)).natAbs ≤ 71000000000000000) ∧ ∀ p : Nat, p < 13 → (gpV (gBe fx Y Q th) (gP fx Y Q th) Y Q p).natAbs ≤ 71000000000000000 := by
  have hl : (gLs th).length = d + 1 := (gLs_n th).trans hm
  have hd := hC.2.2.1
  have hB := gB_parts (fx := fx) (Y := Y) (Q := Q) hm
  have hsc := scl_p (gLs_dvd th) (by omega)
  have hf := few_set hC hm
  have hT : ∀ k, (gT fx Y Q th k).natAbs ≤ 71000000000000000 := fun k => by
    refine Nat.le_trans ?_ hf.1
    rw [gT, ptN_sum]
    exact fit_sum (fun i hi => gl_few hC hi) (fun i hi => on_prM (gLs th) i (gLs th).length k)
  have hE : ∀ p : Nat, p < 13 → (ev4 (gT fx Y Q th) ((p : Int) - 6)).natAbs ≤ 99 * SnM (gLs th) (dN p) := fun p hp => by
    have h4 := gT_deg fx Y Q th 4 (by omega)
    rw [gT, ptN_sum] at h4 ⊢
    rw [ev_sum (by omega) h4]
    exact fit_sum (fun i hi => gl_few hC hi) (fun i hi => Nat.le_of_eq (px_prM (gLs th) p i (gLs th).length))
  have e3 : ∀ x, ev4 (gT fx Y Q th) x = ev4 (gP fx Y Q th) x * shG (gB0 th) (gT fx Y Q th) 4 := fun x => by
    rw [Int.mul_comm, ← ev4_smul]
    exact ev4_congr (fun k hk => (hB.2.2.2.2.1 k hk).symm)
  have hb := hB.2.2.2.1
  rw [Int.mul_one] at hb
  have h1 := abs_of_mul hB.2.2.1 ((Int.mul_comm _ _).trans hb).symm
  refine ⟨hB.2.2.2.2.2, by omega, fun k hk => ?_, fun p hp => ?_, fun p hp => ?_⟩
  · have h2 := abs_of_mul hB.2.2.1 ((Int.mul_comm _ _).trans (hB.2.2.2.2.1 k hk)).symm
    have h3 := hT k
    omega
  · have h2 := abs_of_mul hB.2.2.1 (e3 ((p : Int) - 6))
    have h3 := hE p hp
    have h4 := hf.2 p hp
    omega
  · have h0 := hf.2 p hp
    have h5 := qv_qb hC.2.2.2.2.2.2.2.2 hp
    have h2 := hC.2.2.2.2.2.2.2.1 p hp
    have e4 : Y p * qv Q ((p : Int) - 6) * scl (nfX (gLs th)) (gLs th).length - ev4 (gT fx Y Q th) ((p : Int) - 6) = gpV (gBe fx Y Q th) (gP fx Y Q th) Y Q p * shG (gB0 th) (gT fx Y Q th) 4 := by
      rw [e3, ← hb, gpV, Int.sub_mul]
      congr 1
      ac_rfl
    have h3 := abs_of_mul hB.2.2.1 e4
    have a1 : (Y p * qv Q ((p : Int) - 6) * scl (nfX (gLs th)) (gLs th).length).natAbs ≤ 99 * qbN p * (scl (nfX (gLs th)) (gLs th).length).natAbs := by
      rw [Int.natAbs_mul, Int.natAbs_mul]
      exact mul3_le (by omega) h5 (Nat.le_refl _)
    have a2 := hE p hp
    rw [show 99 * qbN p * (scl (nfX (gLs th)) (gLs th).length).natAbs = 99 * (scl (nfX (gLs th)) (gLs th).length).natAbs * qbN p from by ac_rfl] at a1
    generalize Y p * qv Q ((p : Int) - 6) * scl (nfX (gLs th)) (gLs th).length = u at *
    generalize ev4 (gT fx Y Q th) ((p : Int) - 6) = v at *
    omega
end
/-! the cells behind a call over few points -/
section
variable {A : Nat → Nat} {g h : xH} {kt : Int} {th fx d w : Nat} {Y Q : Nat → Int} {s k : Nat} {H : Nat → sn} {kn : sn} {s2 k2 : Nat} {H2 : Nat → sn} {l : Nat} {T he la sz : Nat → Int} {it : Nat → Nat → Int}
theorem CW_few (hW : CWd h A kt (th, fx, d, w, Y, Q) s k H kn s2 k2 H2 l T he la sz it) (hm : pop th < d + 2) {st al nd sc be up dn ln : Int} {F W B P : Nat → Int} (hs : EXF th fx d Y Q st al be P)
    (hg : g = zov [((A 0), rootE A kt), ((A 1), ptE (A 2) (A 3) th fx d w), ((A 2), .inl (0, 13, .inl Y)), ((A 3), .inl (0, 3, .inl Q)), ((A 52), ehE A st al 1), ((A 58), ftE (A 59) (A 60) (A 61) (A 62) nd sc be up dn ln), ((A 59), .inl (0, 5, .inl F)), ((A 60), .inl (1, 5, .inl W)), ((A 61), .inl (1, 5, .inl B)), ((A 62), .inl (1, 4, .inl P))] h) : CWd g A kt (th, fx, d, w, Y, Q) s k H kn s2 k2 H2 l T he la sz it ∧ KF g h A := by
  have hA := hW.1
  have hD : [(A 0), (A 1), (A 2), (A 3), (A 52), (A 58), (A 59), (A 60), (A 61), (A 62)].Nodup := nd_A hA (l := [0, 1, 2, 3, 52, 58, 59, 60, 61, 62]) (by decide) (by decide)
  have ho : ∀ i, i < 81 → i ∉ [0, 1, 2, 3, 52, 58, 59, 60, 61, 62] → g (A i) = h (A i) := fun i h1 h2 => by
    rw [hg]
    exact A_out hA [0, 1, 2, 3, 52, 58, 59, 60, 61, 62] rfl (by decide) h1 h2
  have ho2 : ∀ i, (4 ≤ i ∧ i < 52) ∨ (53 ≤ i ∧ i < 58) ∨ (63 ≤ i ∧ i < 81) → g (A i) = h (A i) := fun i h1 => ho i (by omega) (by simp only [List.mem_cons, List.not_mem_nil, or_false]; omega)
  constructor
  · obtain ⟨h1, h2, h3, h4, h5, h6, h7, h8, h9, h10, h11, h12⟩ := hW
    obtain ⟨st0, al0, sv0, nd0, sc0, be0, up0, dn0, ln0, F0, W0, B0, P0, S, U, D, N_, G, e0, ⟨y0, y1, y2, y3, y4, y5, y6, y7, y8, y9⟩, e2⟩ := h9
    refine ⟨h1, zget hg hD 0 rfl, ⟨zget hg hD 1 rfl, zget hg hD 2 rfl, zget hg hD 3 rfl⟩, ⟨h4.1, PBk_cg h4.2 (fun i _ q => ho2 i (by omega))⟩, kn_cg h5 (fun i _ q => ho2 i (by omega)), ⟨h6.1, PBk_cg h6.2 (fun i _ q => ho2 i (by omega))⟩, cTp_cg h7 (fun i _ q => ho2 i (by omega)), cDr_cg h8 (fun i _ q => ho2 i (by omega)), ⟨st, al, 1, nd, sc, be, up, dn, ln, F, W, B, P, S, U, D, N_, G, zget hg hD 4 rfl, ⟨zget hg hD 5 rfl, zget hg hD 6 rfl, zget hg hD 7 rfl, zget hg hD 8 rfl, zget hg hD 9 rfl, (ho2 53 (by omega)).trans y5, (ho2 54 (by omega)).trans y6, (ho2 55 (by omega)).trans y7, (ho2 56 (by omega)).trans y8, (ho2 57 (by omega)).trans y9⟩, Or.inr ⟨rfl, Or.inl ⟨hm, hs⟩⟩⟩, cTr_cg h10 (fun i _ q => ho2 i (by omega)), cOd_cg h11 (fun i _ q => ho2 i (by omega)), cSh_cg h12 (fun i _ q => ho2 i (by omega))⟩
  · rw [hg]
    exact KF_zov [0, 1, 2, 3, 52, 58, 59, 60, 61, 62] rfl (by decide)
end
/-! answers out of what the reference has found -/
section
variable {R : Nat → Int} {th fx d w s : Nat} {Y Q X P : Nat → Int} {c : Int}
theorem rdy_few (hK : KR R th fx d w Y Q) (hC : COK th fx d w Y Q) (hm : pop th = d + 1) (h : RDY R d X P c) : XPF R d X P c := by
  have hm0 := KR_m0 hK hC 13 (Nat.le_refl _)
  have hm1 : manyN R 0 13 = pop th := hm0
  rcases h.2 with h2 | h2
  · exact ⟨h2.2.1, h2.2.2⟩
  · omega
theorem rdy_full (hK : KR R th fx d w Y Q) (hC : COK th fx d w Y Q) (hQ : NPL th Q) (hm : d + 2 ≤ pop th) (hs : s < 8192) (hr : refP R s) (hmax : ∀ p, p < 13 → bt th p = 1 → bt fx p = 0 → bOf R s * ((uC fx Y Q s p).natAbs : Int) ≤ ((aOf R s).natAbs : Int) * ((qv Q ((p : Int) - 6)).natAbs : Int) * cB0 fx Y Q s) (h : RDY R d X P c) : ∃ t, t < 8192 ∧ refP R t ∧ XPC R d t X P c ∧ cBe fx Y Q t = cBe fx Y Q s ∧ ∀ k, k < 4 → cP fx Y Q t k = cP fx Y Q s k := by
  have hm0 := KR_m0 hK hC 13 (Nat.le_refl _)
  have hm1 : manyN R 0 13 = pop th := hm0
  rcases h.2 with h2 | ⟨h2, t, hb, e1, e2⟩
  · omega
  · have hbs := best_same hK hC hQ hs hr hmax hb
    exact ⟨t, hb.1, hb.2.1, ⟨e1, e2⟩, hbs.2.2.1, hbs.2.2.2.1⟩
end
section
variable {A B : Nat → Nat} {h : xH}
theorem st_part {x y : Int} (hJ : DJ A B) (hS : ST h A B) (zx : zInI x) (zy : zInI y) : SAME k_X7_part k_X8_part [zi x, zi y] h A B := by
  have hS2 := hS
  obtain ⟨kt, ⟨th, fx, d, w, Y, Q⟩, s, k, H, kn, s2, k2, H2, l, T, he, la, sz, it, m, r, hW, hL, hR⟩ := hS
  have hD := DJ_nd hJ m r
  have hA := hW.1
  have hD4 : [(A 0), (A 1), (A 2), (A 3)].Nodup := nd_A hA (l := [0, 1, 2, 3]) (by decide) (by decide)
  have hD5 : [(A 0), (A 1), (A 2), (A 3), (A 52)].Nodup := nd_A hA (l := [0, 1, 2, 3, 52]) (by decide) (by decide)
  have hc1 : h (A 1) = zcE (ptE (A 2) (A 3) th fx d w) := hW.2.2.1.1
  have hc2 : h (A 2) = zcE (.inl (0, 13, .inl Y)) := hW.2.2.1.2.1
  have hc3 : h (A 3) = zcE (.inl (0, 3, .inl Q)) := hW.2.2.1.2.2
  have hcE : cEx h A th fx d Y Q := hW.2.2.2.2.2.2.2.2.1
  obtain ⟨st, al, sv, nd, sc, be, up, dn, ln, F, W, Bb, P, S, U, D, N_, G, hc4, hXr, hsv⟩ := hcE
  have hK : KR (r 1) th fx d w Y Q := hR.1
  have hC : COK th fx d w Y Q := hR.2.1
  have hk := KR_kOK hK
  have hP := hW.2.2.2.1
  have hu := hR.2.2.1
  obtain ⟨x0, x1, x2, x3, x4, x5, x6, x7, x8, x9⟩ := hXr
  have hD10 : [(A 0), (A 1), (A 2), (A 3), (A 52), (A 58), (A 59), (A 60), (A 61), (A 62)].Nodup := nd_A hA (l := [0, 1, 2, 3, 52, 58, 59, 60, 61, 62]) (by decide) (by decide)
  have hD15 : [(A 0), (A 1), (A 2), (A 3), (A 52), (A 58), (A 59), (A 60), (A 61), (A 62), (A 53), (A 54), (A 55), (A 56), (A 57)].Nodup := nd_A hA (l := [0, 1, 2, 3, 52, 58, 59, 60, 61, 62, 53, 54, 55, 56, 57]) (by decide) (by decide)
  obtain ⟨fY, fq, fYQ, fqb⟩ := fit_pre hC
  have hd := hC.2.2.1
  have hm0 : manyN (r 1) 0 13 = pop th := KR_m0 hK hC 13 (Nat.le_refl _)
  by_cases hx : 0 ≤ x ∧ x ≤ 3
  · by_cases hy : 0 ≤ y ∧ y ≤ 2
    · obtain ⟨j, rfl⟩ := Int.eq_ofNat_of_zero_le hx.1
      have hj : j < 4 := by omega
      have hz : y = 0 ∨ y = 1 ∨ y = 2 := by omega
      by_cases hpo : mk (poleB th Q) = 0
      · obtain ⟨r1, r2, r3, r4, r5, r6, r7⟩ := ref_pre hK hC hpo
        have hQ := no_pole hpo
        by_cases hm : pop th < d + 2
        · by_cases hm1 : pop th = d + 1
          · have hgF := gF_all hC hm1
            refine same_of (z := zj (frV (gP fx Y Q th j) (gBe fx Y Q th) y)) (n := (th, fx, d, w, Y, Q)) hJ hL (zEv_up (sp_X7_part_few1 hW.2.1 hc1 hc2 hc3 hc4 x0 x1 x2 x3 x4 hD10 hj hm1 hC.1 hC.2.1 hd fY fq fYQ fqb hpo (fun e => gSO_all hC e) (sl_few hm hsv) hy ⟨by have := hgF.2.2.1 j hj; omega, by have := hgF.2.1; omega, hgF.1⟩) (fun v g hq => by
          obtain ⟨nd2, sc2, be2, up2, dn2, ln2, al2, F2, W2, B2, P2, hv, hg, hE⟩ := hq
          exact ⟨hv, CW_few hW (by omega) hE hg⟩)) (fun h2 hL2 hD2 => zEv_up (sp_X8_part_ok hL2 hD2 hj hy r1 r2 r3 r6 r5 (ready_all hK hC (by omega))) (fun v h3 hq => ?_))
            obtain ⟨c1, c2, c3, c, q1, q2, q3, y1, y2, y3, X, P9, y4, y5, e1, e2, hv, hg, hrd⟩ := hq
            exact ⟨hv.trans (by rw [few_part hK hC hm1 (rdy_few hK hC hm1 hrd) hj hz]), _, _, hg, RL_sc hR rfl rfl rfl rfl rfl rfl rfl rfl rfl⟩
          · exact same_of (z := zj (-4)) (n := (th, fx, d, w, Y, Q)) hJ hL (zEv_up (sp_X7_part_few0 hW.2.1 hc1 hc2 hc3 hc4 x0 x1 x2 x3 x4 hD10 hj hy hC.1 hC.2.1 hd fY fq fYQ fqb hpo hm (fun e => gSO_all hC e) (sl_few hm hsv) hm1) (fun v g hq => by
          obtain ⟨nd2, sc2, be2, up2, dn2, ln2, al2, F2, W2, B2, P2, hv, hg, hE⟩ := hq
          exact ⟨hv, CW_few hW (by omega) hE hg⟩)) (fun h2 hL2 hD2 => zEv_up (sp_X8_part_none hL2 hD2 hj hy r1 r2 r3 (Or.inr (by omega))) (fun v h3 hq => ⟨hq.1, m, r, hq.2.trans (zov_self hL2), hR⟩))
        · have hm : d + 2 ≤ pop th := by omega
          obtain ⟨M, lo, lw, go, fl, fu, hX, hsq, hon, hgo, hmax, hlw, h70⟩ := full_pre hK hC hQ hm
          have hcM := hsq M (Nat.lt_succ_self M)
          have hbe := cBe_bd hK hC hQ hcM.1 hcM.2
          refine same_of (z := zj (frV (cP fx Y Q (sq (r 1) d M) j) (cBe fx Y Q (sq (r 1) d M)) y)) (n := (th, fx, d, w, Y, Q)) hJ hL (zEv_up (sp_X7_part_full hW.2.1 hc1 hc2 hc3 hc4 x0 x1 x2 x3 x4 x5 x6 x7 x8 x9 hD15 hj hC.1 hC.2.1 hd fY fq fYQ fqb hpo hX (sl_full hX hsv) hy ⟨by have := cP_bd hK hC hQ hcM.1 hcM.2 hj; omega, by have := hbe.2; omega, hbe.1⟩) (fun v g hq => by
        obtain ⟨nd2, sc2, be2, up2, dn2, ln2, F2, W2, B2, P2, S2, U2, D2, N2_, G2, hv, hg, hE⟩ := hq
        exact ⟨hv, CW_fit hW (Or.inr ⟨hm, M, lo, _, _, lw, go, fl, fu, hX, hE⟩) hg⟩)) (fun h2 hL2 hD2 => zEv_up (sp_X8_part_ok hL2 hD2 hj hy r1 r2 r3 r6 r5 (ready_all hK hC (by omega))) (fun v h3 hq => ?_))
          obtain ⟨c1, c2, c3, c, q1, q2, q3, y1, y2, y3, X, P9, y4, y5, e1, e2, hv, hg, hrd⟩ := hq
          obtain ⟨t, ht, hrt, hX2, hbt, hpt⟩ := rdy_full hK hC hQ hm hcM.1 hcM.2 hmax hrd
          exact ⟨hv.trans (by rw [ans_part hK hC hQ ht hrt hX2 hj hz, hbt, hpt j hj]), _, _, hg, RL_sc hR rfl rfl rfl rfl rfl rfl rfl rfl rfl⟩
      · exact same_id hJ hS2 (sp_X7_part_pole hW.2.1 hc1 hc2 hc3 hD4 hj hy hC.1 fq hpo) (sp_X8_part_none hL hD hj hy (KR_ROK hK hC) hK.2.2.2.2.1 hd (Or.inl (by rw [KR_pole hK hC]; exact hpo)))
    · exact same_id hJ hS2 (sp_X7_part_bad zx zy (Or.inr hy)) (sp_X8_part_bad2 hL hD zx zy hx hy)
  · exact same_id hJ hS2 (sp_X7_part_bad zx zy (Or.inl hx)) (sp_X8_part_bad1 hL hD zx zy hx)
theorem st_value {x y : Int} (hJ : DJ A B) (hS : ST h A B) (zx : zInI x) (zy : zInI y) : SAME k_X7_value k_X8_value [zi x, zi y] h A B := by
  have hS2 := hS
  obtain ⟨kt, ⟨th, fx, d, w, Y, Q⟩, s, k, H, kn, s2, k2, H2, l, T, he, la, sz, it, m, r, hW, hL, hR⟩ := hS
  have hD := DJ_nd hJ m r
  have hA := hW.1
  have hD4 : [(A 0), (A 1), (A 2), (A 3)].Nodup := nd_A hA (l := [0, 1, 2, 3]) (by decide) (by decide)
  have hD5 : [(A 0), (A 1), (A 2), (A 3), (A 52)].Nodup := nd_A hA (l := [0, 1, 2, 3, 52]) (by decide) (by decide)
  have hc1 : h (A 1) = zcE (ptE (A 2) (A 3) th fx d w) := hW.2.2.1.1
  have hc2 : h (A 2) = zcE (.inl (0, 13, .inl Y)) := hW.2.2.1.2.1
  have hc3 : h (A 3) = zcE (.inl (0, 3, .inl Q)) := hW.2.2.1.2.2
  have hcE : cEx h A th fx d Y Q := hW.2.2.2.2.2.2.2.2.1
  obtain ⟨st, al, sv, nd, sc, be, up, dn, ln, F, W, Bb, P, S, U, D, N_, G, hc4, hXr, hsv⟩ := hcE
  have hK : KR (r 1) th fx d w Y Q := hR.1
  have hC : COK th fx d w Y Q := hR.2.1
  have hk := KR_kOK hK
  have hP := hW.2.2.2.1
  have hu := hR.2.2.1
  obtain ⟨x0, x1, x2, x3, x4, x5, x6, x7, x8, x9⟩ := hXr
  have hD10 : [(A 0), (A 1), (A 2), (A 3), (A 52), (A 58), (A 59), (A 60), (A 61), (A 62)].Nodup := nd_A hA (l := [0, 1, 2, 3, 52, 58, 59, 60, 61, 62]) (by decide) (by decide)
  have hD15 : [(A 0), (A 1), (A 2), (A 3), (A 52), (A 58), (A 59), (A 60), (A 61), (A 62), (A 53), (A 54), (A 55), (A 56), (A 57)].Nodup := nd_A hA (l := [0, 1, 2, 3, 52, 58, 59, 60, 61, 62, 53, 54, 55, 56, 57]) (by decide) (by decide)
  obtain ⟨fY, fq, fYQ, fqb⟩ := fit_pre hC
  have hd := hC.2.2.1
  have hm0 : manyN (r 1) 0 13 = pop th := KR_m0 hK hC 13 (Nat.le_refl _)
  by_cases hx : -6 ≤ x ∧ x ≤ 6
  · by_cases hy : 0 ≤ y ∧ y ≤ 2
    · obtain ⟨p, hp, rfl⟩ : ∃ p : Nat, p < 13 ∧ x = (p : Int) - 6 := ⟨(x + 6).toNat, by omega, by omega⟩
      have hz : y = 0 ∨ y = 1 ∨ y = 2 := by omega
      have hqr := fqb p hp
      by_cases hq0 : qv Q ((p : Int) - 6) = 0
      · exact same_id hJ hS2 (sp_X7_value_zero hW.2.1 hc1 hc2 hc3 hD4 hx hy hq0) (sp_X8_value_none1 (d := d) hL hD rfl hp hy (KR_ROK hK hC) (by rw [KR_qv hK]; exact hq0))
      · by_cases hpo : mk (poleB th Q) = 0
        · obtain ⟨r1, r2, r3, r4, r5, r6, r7⟩ := ref_pre hK hC hpo
          have hQ := no_pole hpo
          have hq1 : qv (fun j => r 1 (j + 1)) ((p : Int) - 6) ≠ 0 := by rw [KR_qv hK]; exact hq0
          by_cases hm : pop th < d + 2
          · by_cases hm1 : pop th = d + 1
            · have hgF := gF_all hC hm1
              refine same_of (z := zj (frV (ev4 (gP fx Y Q th) ((p : Int) - 6)) (gBe fx Y Q th * qv Q ((p : Int) - 6)) y)) (n := (th, fx, d, w, Y, Q)) hJ hL (zEv_up (sp_X7_value_few1 hW.2.1 hc1 hc2 hc3 hc4 x0 x1 x2 x3 x4 hD10 hx hq0 hqr hm1 hC.1 hC.2.1 hd fY fq fYQ fqb hpo (fun e => gSO_all hC e) (sl_few hm hsv) hy ⟨by have := hgF.2.2.2.1 p hp; omega, beq_bd hC hgF.1 (by have := hgF.2.1; omega) hp hq0⟩) (fun v g hq => by
          obtain ⟨nd2, sc2, be2, up2, dn2, ln2, al2, F2, W2, B2, P2, hv, hg, hE⟩ := hq
          exact ⟨hv, CW_few hW (by omega) hE hg⟩)) (fun h2 hL2 hD2 => zEv_up (sp_X8_value_ok hL2 hD2 rfl hp hy hq1 r1 r2 r3 r6 r5 (ready_all hK hC (by omega))) (fun v h3 hq => ?_))
              obtain ⟨c1, c2, c3, c, q1, q2, q3, y1, y2, y3, X, P9, e1, e2, hv, hg, hrd⟩ := hq
              exact ⟨hv.trans (by rw [few_value hK hC hm1 (rdy_few hK hC hm1 hrd) hq0 hz]), _, _, hg, RL_sc hR rfl rfl rfl rfl rfl rfl rfl rfl rfl⟩
            · exact same_of (z := zj (-4)) (n := (th, fx, d, w, Y, Q)) hJ hL (zEv_up (sp_X7_value_few0 hW.2.1 hc1 hc2 hc3 hc4 x0 x1 x2 x3 x4 hD10 hx hy hq0 hqr hC.1 hC.2.1 hd fY fq fYQ fqb hpo hm (fun e => gSO_all hC e) (sl_few hm hsv) hm1) (fun v g hq => by
          obtain ⟨nd2, sc2, be2, up2, dn2, ln2, al2, F2, W2, B2, P2, hv, hg, hE⟩ := hq
          exact ⟨hv, CW_few hW (by omega) hE hg⟩)) (fun h2 hL2 hD2 => zEv_up (sp_X8_value_none2 hL2 hD2 rfl hp hy r1 r2 r3 hq1 (Or.inr (by omega))) (fun v h3 hq => ⟨hq.1, m, r, hq.2.trans (zov_self hL2), hR⟩))
          · have hm : d + 2 ≤ pop th := by omega
            obtain ⟨M, lo, lw, go, fl, fu, hX, hsq, hon, hgo, hmax, hlw, h70⟩ := full_pre hK hC hQ hm
            have hcM := hsq M (Nat.lt_succ_self M)
            have hbe := cBe_bd hK hC hQ hcM.1 hcM.2
            refine same_of (z := zj (frV (ev4 (cP fx Y Q (sq (r 1) d M)) ((p : Int) - 6)) (cBe fx Y Q (sq (r 1) d M) * qv Q ((p : Int) - 6)) y)) (n := (th, fx, d, w, Y, Q)) hJ hL (zEv_up (sp_X7_value_full hW.2.1 hc1 hc2 hc3 hc4 x0 x1 x2 x3 x4 x5 x6 x7 x8 x9 hD15 hx hq0 hqr hC.1 hC.2.1 hd fY fq fYQ fqb hpo hX (sl_full hX hsv) hy ⟨by have := evP_bd hK hC hQ hcM.1 hcM.2 hp; omega, beq_bd hC hbe.1 hbe.2 hp hq0⟩) (fun v g hq => by
        obtain ⟨nd2, sc2, be2, up2, dn2, ln2, F2, W2, B2, P2, S2, U2, D2, N2_, G2, hv, hg, hE⟩ := hq
        exact ⟨hv, CW_fit hW (Or.inr ⟨hm, M, lo, _, _, lw, go, fl, fu, hX, hE⟩) hg⟩)) (fun h2 hL2 hD2 => zEv_up (sp_X8_value_ok hL2 hD2 rfl hp hy hq1 r1 r2 r3 r6 r5 (ready_all hK hC (by omega))) (fun v h3 hq => ?_))
            obtain ⟨c1, c2, c3, c, q1, q2, q3, y1, y2, y3, X, P9, e1, e2, hv, hg, hrd⟩ := hq
            obtain ⟨t, ht, hrt, hX2, hbt, hpt⟩ := rdy_full hK hC hQ hm hcM.1 hcM.2 hmax hrd
            exact ⟨hv.trans (by rw [ans_value hK hC hQ ht hrt hX2 hq0 hz, hbt, ev4_congr hpt]), _, _, hg, RL_sc hR rfl rfl rfl rfl rfl rfl rfl rfl rfl⟩
        · exact same_id hJ hS2 (sp_X7_value_pole hW.2.1 hc1 hc2 hc3 hD4 hx hy hq0 hqr hC.1 fq hpo) (sp_X8_value_none2 hL hD rfl hp hy (KR_ROK hK hC) hK.2.2.2.2.1 hd (by rw [KR_qv hK]; exact hq0) (Or.inl (by rw [KR_pole hK hC]; exact hpo)))
    · exact same_id hJ hS2 (sp_X7_value_bad zx zy (Or.inr hy)) (sp_X8_value_bad2 hL hD zx zy hx hy)
  · exact same_id hJ hS2 (sp_X7_value_bad zx zy (Or.inl hx)) (sp_X8_value_bad1 hL hD zx zy hx)
theorem st_error {x y : Int} (hJ : DJ A B) (hS : ST h A B) (zx : zInI x) (zy : zInI y) : SAME k_X7_error k_X8_error [zi x, zi y] h A B := by
  have hS2 := hS
  obtain ⟨kt, ⟨th, fx, d, w, Y, Q⟩, s, k, H, kn, s2, k2, H2, l, T, he, la, sz, it, m, r, hW, hL, hR⟩ := hS
  have hD := DJ_nd hJ m r
  have hA := hW.1
  have hD4 : [(A 0), (A 1), (A 2), (A 3)].Nodup := nd_A hA (l := [0, 1, 2, 3]) (by decide) (by decide)
  have hD5 : [(A 0), (A 1), (A 2), (A 3), (A 52)].Nodup := nd_A hA (l := [0, 1, 2, 3, 52]) (by decide) (by decide)
  have hc1 : h (A 1) = zcE (ptE (A 2) (A 3) th fx d w) := hW.2.2.1.1
  have hc2 : h (A 2) = zcE (.inl (0, 13, .inl Y)) := hW.2.2.1.2.1
  have hc3 : h (A 3) = zcE (.inl (0, 3, .inl Q)) := hW.2.2.1.2.2
  have hcE : cEx h A th fx d Y Q := hW.2.2.2.2.2.2.2.2.1
  obtain ⟨st, al, sv, nd, sc, be, up, dn, ln, F, W, Bb, P, S, U, D, N_, G, hc4, hXr, hsv⟩ := hcE
  have hK : KR (r 1) th fx d w Y Q := hR.1
  have hC : COK th fx d w Y Q := hR.2.1
  have hk := KR_kOK hK
  have hP := hW.2.2.2.1
  have hu := hR.2.2.1
  obtain ⟨x0, x1, x2, x3, x4, x5, x6, x7, x8, x9⟩ := hXr
  have hD10 : [(A 0), (A 1), (A 2), (A 3), (A 52), (A 58), (A 59), (A 60), (A 61), (A 62)].Nodup := nd_A hA (l := [0, 1, 2, 3, 52, 58, 59, 60, 61, 62]) (by decide) (by decide)
  have hD15 : [(A 0), (A 1), (A 2), (A 3), (A 52), (A 58), (A 59), (A 60), (A 61), (A 62), (A 53), (A 54), (A 55), (A 56), (A 57)].Nodup := nd_A hA (l := [0, 1, 2, 3, 52, 58, 59, 60, 61, 62, 53, 54, 55, 56, 57]) (by decide) (by decide)
  obtain ⟨fY, fq, fYQ, fqb⟩ := fit_pre hC
  have hd := hC.2.2.1
  have hm0 : manyN (r 1) 0 13 = pop th := KR_m0 hK hC 13 (Nat.le_refl _)
  by_cases hx : -6 ≤ x ∧ x ≤ 6
  · by_cases hy : 0 ≤ y ∧ y ≤ 2
    · obtain ⟨p, hp, rfl⟩ : ∃ p : Nat, p < 13 ∧ x = (p : Int) - 6 := ⟨(x + 6).toNat, by omega, by omega⟩
      have hz : y = 0 ∨ y = 1 ∨ y = 2 := by omega
      have hkp := hK.1 p hp
      have hfp := hC.2.2.2.2.1 p
      have b1 := bt_lt th p
      by_cases ht1 : bt th p = 1
      · by_cases hpo : mk (poleB th Q) = 0
        · obtain ⟨r1, r2, r3, r4, r5, r6, r7⟩ := ref_pre hK hC hpo
          have hQ := no_pole hpo
          have hq0 := hQ p hp ht1
          have hnz : r 1 (p + 18) ≠ 0 := by omega
          by_cases hm : pop th < d + 2
          · by_cases hm1 : pop th = d + 1
            · have hgF := gF_all hC hm1
              refine same_of (z := zj (frV (gpV (gBe fx Y Q th) (gP fx Y Q th) Y Q p) (gBe fx Y Q th * qv Q ((p : Int) - 6)) y)) (n := (th, fx, d, w, Y, Q)) hJ hL (zEv_up (sp_X7_error_few1 hW.2.1 hc1 hc2 hc3 hc4 x0 x1 x2 x3 x4 hD10 rfl hp ht1 hm1 hC.1 hC.2.1 hd fY fq fYQ fqb hpo (fun e => gSO_all hC e) (sl_few hm hsv) hy ⟨by have := hgF.2.2.2.2 p hp; omega, beq_bd hC hgF.1 (by have := hgF.2.1; omega) hp hq0⟩) (fun v g hq => by
          obtain ⟨nd2, sc2, be2, up2, dn2, ln2, al2, F2, W2, B2, P2, hv, hg, hE⟩ := hq
          exact ⟨hv, CW_few hW (by omega) hE hg⟩)) (fun h2 hL2 hD2 => zEv_up (sp_X8_error_ok hL2 hD2 rfl hp hy hnz r4 r1 r2 r3 r6 r5 (ready_all hK hC (by omega))) (fun v h3 hq => ?_))
              obtain ⟨c1, c2, c3, c, q1, q2, q3, y1, y2, y3, X, P9, e1, e2, hv, hg, hrd⟩ := hq
              exact ⟨hv.trans (by rw [few_error hK hC hQ hm1 (rdy_few hK hC hm1 hrd) hp ht1 hz]), _, _, hg, RL_sc hR rfl rfl rfl rfl rfl rfl rfl rfl rfl⟩
            · exact same_of (z := zj (-4)) (n := (th, fx, d, w, Y, Q)) hJ hL (zEv_up (sp_X7_error_few0 hW.2.1 hc1 hc2 hc3 hc4 x0 x1 x2 x3 x4 hD10 rfl hp hy ht1 hC.1 hC.2.1 hd fY fq fYQ fqb hpo hm (fun e => gSO_all hC e) (sl_few hm hsv) hm1) (fun v g hq => by
          obtain ⟨nd2, sc2, be2, up2, dn2, ln2, al2, F2, W2, B2, P2, hv, hg, hE⟩ := hq
          exact ⟨hv, CW_few hW (by omega) hE hg⟩)) (fun h2 hL2 hD2 => zEv_up (sp_X8_error_none2 hL2 hD2 rfl hp hy r1 r2 r3 hnz (Or.inr (by omega))) (fun v h3 hq => ⟨hq.1, m, r, hq.2.trans (zov_self hL2), hR⟩))
          · have hm : d + 2 ≤ pop th := by omega
            obtain ⟨M, lo, lw, go, fl, fu, hX, hsq, hon, hgo, hmax, hlw, h70⟩ := full_pre hK hC hQ hm
            have hcM := hsq M (Nat.lt_succ_self M)
            have hbe := cBe_bd hK hC hQ hcM.1 hcM.2
            refine same_of (z := zj (frV (gpV (cBe fx Y Q (sq (r 1) d M)) (cP fx Y Q (sq (r 1) d M)) Y Q p) (cBe fx Y Q (sq (r 1) d M) * qv Q ((p : Int) - 6)) y)) (n := (th, fx, d, w, Y, Q)) hJ hL (zEv_up (sp_X7_error_full hW.2.1 hc1 hc2 hc3 hc4 x0 x1 x2 x3 x4 x5 x6 x7 x8 x9 hD15 rfl hp ht1 hC.1 hC.2.1 hd fY fq fYQ fqb hpo hX (sl_full hX hsv) hy ⟨by have : (cGp fx Y Q (sq (r 1) d M) p).natAbs ≤ 71000000000000000 := cGp_bd hK hC hQ hcM.1 hcM.2 hp; rw [cGp] at this; omega, beq_bd hC hbe.1 hbe.2 hp hq0⟩) (fun v g hq => by
        obtain ⟨nd2, sc2, be2, up2, dn2, ln2, F2, W2, B2, P2, S2, U2, D2, N2_, G2, hv, hg, hE⟩ := hq
        exact ⟨hv, CW_fit hW (Or.inr ⟨hm, M, lo, _, _, lw, go, fl, fu, hX, hE⟩) hg⟩)) (fun h2 hL2 hD2 => zEv_up (sp_X8_error_ok hL2 hD2 rfl hp hy hnz r4 r1 r2 r3 r6 r5 (ready_all hK hC (by omega))) (fun v h3 hq => ?_))
            obtain ⟨c1, c2, c3, c, q1, q2, q3, y1, y2, y3, X, P9, e1, e2, hv, hg, hrd⟩ := hq
            obtain ⟨t, ht, hrt, hX2, hbt, hpt⟩ := rdy_full hK hC hQ hm hcM.1 hcM.2 hmax hrd
            exact ⟨hv.trans (by rw [ans_error hK hC hQ ht hrt hX2 hp ht1 hz, cGp, hbt, gpV_congr hpt]), _, _, hg, RL_sc hR rfl rfl rfl rfl rfl rfl rfl rfl rfl⟩
        · exact same_id hJ hS2 (sp_X7_error_pole hW.2.1 hc1 hc2 hc3 hD4 rfl hp hy ht1 hC.1 fq hpo) (sp_X8_error_none2 hL hD rfl hp hy (KR_ROK hK hC) hK.2.2.2.2.1 hd (by omega) (Or.inl (by rw [KR_pole hK hC]; exact hpo)))
      · exact same_id hJ hS2 (sp_X7_error_zero hW.2.1 hc1 hc2 hc3 hD4 rfl hp hy hC.1 (by omega)) (sp_X8_error_none1 (d := d) hL hD rfl hp hy (KR_ROK hK hC) (by omega))
    · exact same_id hJ hS2 (sp_X7_error_bad zx zy (Or.inr hy)) (sp_X8_error_bad2 hL hD zx zy hx hy)
  · exact same_id hJ hS2 (sp_X7_error_bad zx zy (Or.inl hx)) (sp_X8_error_bad1 hL hD zx zy hx)
end
