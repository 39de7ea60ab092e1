/-! step, level of both -/
section
variable {A : Nat → Nat} {g h : xH} {kt : Int} {th fx d w : Nat} {Y Q : Nat → Int} {s k : Nat} {H : Nat → sn} {kn : sn} {s2 k2 : Nat} {H2 : Nat → sn} {l : Nat} {T he la sz : Nat → Int} {it : Nat → Nat → Int}
/-- the trial fit is new -/
theorem CW_trial (hW : CWd h A kt (th, fx, d, w, Y, Q) s k H kn s2 k2 H2 l T he la sz it) {nd sc be up dn ln : Int} {B0 P0 F W : Nat → Int} (b1 : g (A 66) = zcE (.inl (1, 5, .inl B0))) (b2 : g (A 67) = zcE (.inl (1, 4, .inl P0))) (h1 : g (A 63) = zcE (ftE (A 64) (A 65) (A 66) (A 67) nd sc be up dn ln)) (h2 : g (A 64) = zcE (.inl (0, 5, .inl F))) (h3 : g (A 65) = zcE (.inl (1, 5, .inl W))) (e : ∀ i, i < 81 → (i < 63 ∨ 68 ≤ i) → g (A i) = h (A i)) : CWd g A kt (th, fx, d, w, Y, Q) s k H kn s2 k2 H2 l T he la sz it := by
  obtain ⟨g1, g2, g3, g4, g5, g6, g7, g8, g9, g10, g11, g12⟩ := hW
  exact ⟨g1, (e 0 (by decide) (by omega)).trans g2, cN_cg g3 (fun i _ q => e i (by omega) (by omega)), ⟨g4.1, PBk_cg g4.2 (fun i _ q => e i (by omega) (by omega))⟩, kn_cg g5 (fun i _ q => e i (by omega) (by omega)), ⟨g6.1, PBk_cg g6.2 (fun i _ q => e i (by omega) (by omega))⟩, cTp_cg g7 (fun i _ q => e i (by omega) (by omega)), cDr_cg g8 (fun i _ q => e i (by omega) (by omega)), cEx_cg g9 (fun i _ q => e i (by omega) (by omega)), ⟨nd, sc, be, up, dn, ln, F, W, B0, P0, h1, h2, h3, b1, b2⟩, cOd_cg g11 (fun i _ q => e i (by omega) (by omega)), cSh_cg g12 (fun i _ q => e i (by omega) (by omega))⟩
end
section
variable {A B : Nat → Nat} {h : xH}
theorem st_step {x y : Int} (hJ : DJ A B) (hS : ST h A B) (zx : zInI x) (zy : zInI y) : SAME k_X7_step k_X8_step [zi x, zi y] h A B := by
  have hS2 := hS
  obtain ⟨kt, ⟨th, fx, d, w, Y, Q⟩, s, k, H, kn, s2, k2, H2, l, T, he, la, sz, it, m, r, hW, hL, hR⟩ := hS
  have hD := DJ_nd hJ m r
  have hA := hW.1
  have hD4 : [(A 0), (A 1), (A 2), (A 3)].Nodup := nd_A hA (l := [0, 1, 2, 3]) (by decide) (by decide)
  have hD5 : [(A 0), (A 1), (A 2), (A 3), (A 52)].Nodup := nd_A hA (l := [0, 1, 2, 3, 52]) (by decide) (by decide)
  have hc1 : h (A 1) = zcE (ptE (A 2) (A 3) th fx d w) := hW.2.2.1.1
  have hc2 : h (A 2) = zcE (.inl (0, 13, .inl Y)) := hW.2.2.1.2.1
  have hc3 : h (A 3) = zcE (.inl (0, 3, .inl Q)) := hW.2.2.1.2.2
  have hcE : cEx h A th fx d Y Q := hW.2.2.2.2.2.2.2.2.1
  obtain ⟨st, al, sv, nd, sc, be, up, dn, ln, F, W, Bb, P, S, U, D, N_, G, hc4, hXr, hsv⟩ := hcE
  have hK : KR (r 1) th fx d w Y Q := hR.1
  have hC : COK th fx d w Y Q := hR.2.1
  have hk := KR_kOK hK
  have hP := hW.2.2.2.1
  have hu := hR.2.2.1
  obtain ⟨x0, x1, x2, x3, x4, x5, x6, x7, x8, x9⟩ := hXr
  have hD10 : [(A 0), (A 1), (A 2), (A 3), (A 52), (A 58), (A 59), (A 60), (A 61), (A 62)].Nodup := nd_A hA (l := [0, 1, 2, 3, 52, 58, 59, 60, 61, 62]) (by decide) (by decide)
  have hD15 : [(A 0), (A 1), (A 2), (A 3), (A 52), (A 58), (A 59), (A 60), (A 61), (A 62), (A 53), (A 54), (A 55), (A 56), (A 57)].Nodup := nd_A hA (l := [0, 1, 2, 3, 52, 58, 59, 60, 61, 62, 53, 54, 55, 56, 57]) (by decide) (by decide)
  obtain ⟨fY, fq, fYQ, fqb⟩ := fit_pre hC
  have hd := hC.2.2.1
  have hm0 : manyN (r 1) 0 13 = pop th := KR_m0 hK hC 13 (Nat.le_refl _)
  by_cases hx : x < 0
  · exact same_id hJ hS2 (sp_X7_step_bad zx zy (Or.inl hx)) (sp_X8_step_bad1 hL hD zx zy hx)
  · by_cases hy : 0 ≤ y ∧ y ≤ 4
    · obtain ⟨b, rfl⟩ := Int.eq_ofNat_of_zero_le (show 0 ≤ x by omega)
      have hb : b ≤ 2147483647 := by
        have := zx.2
        omega
      by_cases hpo : mk (poleB th Q) = 0
      · obtain ⟨r1, r2, r3, r4, r5, r6, r7⟩ := ref_pre hK hC hpo
        have hQ := no_pole hpo
        by_cases hm : pop th < d + 2
        · exact same_of (z := zj (-4)) (n := (th, fx, d, w, Y, Q)) hJ hL (zEv_up (sp_X7_step_few hW.2.1 hc1 hc2 hc3 hc4 x0 x1 x2 x3 x4 hD10 hb hy hC.1 hC.2.1 hd fY fq fYQ fqb hpo hm (fun e => gSO_all hC e) (sl_few hm hsv)) (fun v g hq => by
          obtain ⟨nd2, sc2, be2, up2, dn2, ln2, al2, F2, W2, B2, P2, hv, hg, hE⟩ := hq
          exact ⟨hv, CW_few hW (by omega) hE hg⟩)) (fun h2 hL2 hD2 => zEv_up (sp_X8_step_none2 hL2 hD2 hb hy r1 r2 r3 r6 (by omega)) (fun v h3 hq => ⟨hq.1, m, r, hq.2.trans (zov_self hL2), hR⟩))
        · have hm : d + 2 ≤ pop th := by omega
          obtain ⟨M, lo, lw, go, fl, fu, hX, hsq, hon, hgo, hmax, hlw, h70⟩ := full_pre hK hC hQ hm
          obtain ⟨hex, hfr⟩ := ref_ex hK hC hm
          have hgo2 : ∀ i, i + 1 < M + 1 → 0 ≤ goO (r 1) d (sq (r 1) d i) ∧ goO (r 1) d (sq (r 1) d i) < 13 := fun i hi => by
            have := hgo i hi
            omega
          have hsl := sl_full hX hsv
          by_cases hk2 : M + 1 ≤ b
          · refine same_of (z := zj (-4)) (n := (th, fx, d, w, Y, Q)) hJ hL (zEv_up (sp_X7_step_miss hW.2.1 hc1 hc2 hc3 hc4 x0 x1 x2 x3 x4 x5 x6 x7 x8 x9 hD15 hb hy hk2 hC.1 hC.2.1 hd fY fq fYQ fqb hpo hX hsl) (fun v g hq => by
        obtain ⟨nd2, sc2, be2, up2, dn2, ln2, F2, W2, B2, P2, S2, U2, D2, N2_, G2, hv, hg, hE⟩ := hq
        exact ⟨hv, CW_fit hW (Or.inr ⟨hm, M, lo, _, _, lw, go, fl, fu, hX, hE⟩) hg⟩)) (fun h2 hL2 hD2 => zEv_up (sp_X8_step_miss (N := M + 1) hL2 hD2 hb hy r1 r2 r3 r4 r5 hsq hon hfr hgo2 (by omega) r6 (by omega) (by omega) hk2) (fun v h3 hq => ?_))
            obtain ⟨c1, c2, c3, c4, c5, c6, c7, y1, y2, y3, y4, y5, c9, c10, c11, c12, hv, hg⟩ := hq
            exact ⟨hv, _, _, hg, RL_sc hR rfl rfl rfl rfl rfl rfl rfl rfl rfl⟩
          · have hcb := hsq b (by omega)
            have hst := ans_step hK hC hQ hcb.1 hcb.2
            rcases (show y = 0 ∨ y = 1 ∨ y = 2 ∨ y = 3 ∨ y = 4 by omega) with rfl | rfl | rfl | rfl | rfl
            · refine same_of (z := zj ((sq (r 1) d b : Int))) (n := (th, fx, d, w, Y, Q)) hJ hL (zEv_up (sp_X7_step_h0 hW.2.1 hc1 hc2 hc3 hc4 x0 x1 x2 x3 x4 x5 x6 x7 x8 x9 hD15 (by omega) hC.1 hC.2.1 hd fY fq fYQ fqb hpo hX hsl) (fun v g hq => by
        obtain ⟨nd2, sc2, be2, up2, dn2, ln2, F2, W2, B2, P2, S2, U2, D2, N2_, G2, hv, hg, hE⟩ := hq
        exact ⟨hv, CW_fit hW (Or.inr ⟨hm, M, lo, _, _, lw, go, fl, fu, hX, hE⟩) hg⟩)) (fun h2 hL2 hD2 => zEv_up (sp_X8_step_h0 (N := M + 1) hL2 hD2 hb r1 r2 r3 r4 r5 hsq hon hfr hgo2 (by omega) r6 (by omega) (by omega)) (fun v h3 hq => ?_))
              obtain ⟨c1, c2, c3, c4, c5, c6, c7, y1, y2, y3, y4, y5, hv, hg⟩ := hq
              exact ⟨hv.trans (rfl), _, _, hg, RL_sc hR rfl rfl rfl rfl rfl rfl rfl rfl rfl⟩
            · refine same_of (z := zj (cU fx Y Q (sq (r 1) d b))) (n := (th, fx, d, w, Y, Q)) hJ hL (zEv_up (sp_X7_step_h1 hW.2.1 hc1 hc2 hc3 hc4 x0 x1 x2 x3 x4 x5 x6 x7 x8 x9 hD15 (by omega) hC.1 hC.2.1 hd fY fq fYQ fqb hpo hX hsl) (fun v g hq => by
        obtain ⟨nd2, sc2, be2, up2, dn2, ln2, F2, W2, B2, P2, S2, U2, D2, N2_, G2, hv, hg, hE⟩ := hq
        exact ⟨hv, CW_fit hW (Or.inr ⟨hm, M, lo, _, _, lw, go, fl, fu, hX, hE⟩) hg⟩)) (fun h2 hL2 hD2 => zEv_up (sp_X8_step_h1 (N := M + 1) hL2 hD2 hb r1 r2 r3 r4 r5 hsq hon hfr hgo2 (by omega) r6 (by omega) (by omega)) (fun v h3 hq => ?_))
              obtain ⟨c1, c2, c3, c4, c5, c6, c7, y1, y2, y3, y4, y5, hv, hg⟩ := hq
              exact ⟨hv.trans (by rw [hst.1]), _, _, hg, RL_sc hR rfl rfl rfl rfl rfl rfl rfl rfl rfl⟩
            · refine same_of (z := zj (cD fx Y Q (sq (r 1) d b))) (n := (th, fx, d, w, Y, Q)) hJ hL (zEv_up (sp_X7_step_h2 hW.2.1 hc1 hc2 hc3 hc4 x0 x1 x2 x3 x4 x5 x6 x7 x8 x9 hD15 (by omega) hC.1 hC.2.1 hd fY fq fYQ fqb hpo hX hsl) (fun v g hq => by
        obtain ⟨nd2, sc2, be2, up2, dn2, ln2, F2, W2, B2, P2, S2, U2, D2, N2_, G2, hv, hg, hE⟩ := hq
        exact ⟨hv, CW_fit hW (Or.inr ⟨hm, M, lo, _, _, lw, go, fl, fu, hX, hE⟩) hg⟩)) (fun h2 hL2 hD2 => zEv_up (sp_X8_step_h2 (N := M + 1) hL2 hD2 hb r1 r2 r3 r4 r5 hsq hon hfr hgo2 (by omega) r6 (by omega) (by omega)) (fun v h3 hq => ?_))
              obtain ⟨c1, c2, c3, c4, c5, c6, c7, y1, y2, y3, y4, y5, hv, hg⟩ := hq
              exact ⟨hv.trans (by rw [hst.2]), _, _, hg, RL_sc hR rfl rfl rfl rfl rfl rfl rfl rfl rfl⟩
            · refine same_of (z := zj ((if b + 1 < M + 1 then (wrN (r 1) d (sq (r 1) d b) 13 : Int) else -4))) (n := (th, fx, d, w, Y, Q)) hJ hL (zEv_up (sp_X7_step_h3 hW.2.1 hc1 hc2 hc3 hc4 x0 x1 x2 x3 x4 x5 x6 x7 x8 x9 hD15 (by omega) hC.1 hC.2.1 hd fY fq fYQ fqb hpo hX hsl) (fun v g hq => by
        obtain ⟨nd2, sc2, be2, up2, dn2, ln2, F2, W2, B2, P2, S2, U2, D2, N2_, G2, hv, hg, hE⟩ := hq
        exact ⟨hv, CW_fit hW (Or.inr ⟨hm, M, lo, _, _, lw, go, fl, fu, hX, hE⟩) hg⟩)) (fun h2 hL2 hD2 => zEv_up (sp_X8_step_h3 (N := M + 1) hL2 hD2 hb r1 r2 r3 r4 r5 hsq hon hfr hgo2 (by omega) r6 (by omega) (by omega)) (fun v h3 hq => ?_))
              obtain ⟨c1, c2, c3, c4, c5, c6, c7, y1, y2, y3, y4, y5, hv, hg⟩ := hq
              exact ⟨hv.trans (rfl), _, _, hg, RL_sc hR rfl rfl rfl rfl rfl rfl rfl rfl rfl⟩
            · have hsO : stO (r 1) d b (M + 1) = if b + 1 < M + 1 then (go b : Int) else -4 := by
                unfold stO
                by_cases e : b + 1 < M + 1
                · rw [if_pos e, if_pos e, (hgo b e).1]
                · rw [if_neg e, if_neg e]
              refine same_of (z := zj ((if b + 1 < M + 1 then (go b : Int) else -4))) (n := (th, fx, d, w, Y, Q)) hJ hL (zEv_up (sp_X7_step_h4 hW.2.1 hc1 hc2 hc3 hc4 x0 x1 x2 x3 x4 x5 x6 x7 x8 x9 hD15 (by omega) hC.1 hC.2.1 hd fY fq fYQ fqb hpo hX hsl) (fun v g hq => by
        obtain ⟨nd2, sc2, be2, up2, dn2, ln2, F2, W2, B2, P2, S2, U2, D2, N2_, G2, hv, hg, hE⟩ := hq
        exact ⟨hv, CW_fit hW (Or.inr ⟨hm, M, lo, _, _, lw, go, fl, fu, hX, hE⟩) hg⟩)) (fun h2 hL2 hD2 => zEv_up (sp_X8_step_h4 (N := M + 1) hL2 hD2 hb r1 r2 r3 r4 r5 hsq hon hfr hgo2 (by omega) r6 (by omega) (by omega)) (fun v h3 hq => ?_))
              obtain ⟨c1, c2, c3, c4, c5, c6, c7, y1, y2, y3, y4, y5, hv, hg⟩ := hq
              exact ⟨hv.trans (by rw [hsO]), _, _, hg, RL_sc hR rfl rfl rfl rfl rfl rfl rfl rfl rfl⟩
      · exact same_id hJ hS2 (sp_X7_step_pole hW.2.1 hc1 hc2 hc3 hD4 hb hy hC.1 fq hpo) (sp_X8_step_none1 hL hD hb hy (KR_ROK hK hC) (by rw [KR_pole hK hC]; exact hpo))
    · exact same_id hJ hS2 (sp_X7_step_bad zx zy (Or.inr hy)) (sp_X8_step_bad2 hL hD zx zy (by omega) hy)
theorem bd_zero {s f : Nat} (hs : s < 8192) : bdiff s f = 0 ↔ ∀ p, p < 13 → bt s p = 1 → bt f p = 1 := by
  have hz : ∀ p, bt 0 p = 0 := fun p => by
    unfold bt
    rw [Nat.zero_div]
  constructor
  · intro h p hp hb
    have h1 := bt_diff s f p
    rw [h, hz] at h1
    have := bt_lt f p
    omega
  · intro h
    refine bt_ext (bd_lt hs) (by decide) (fun p hp => ?_)
    rw [bt_diff, hz]
    have h1 := h p hp
    have h2 := bt_lt s p
    omega
theorem st_level {x y : Int} (hJ : DJ A B) (hS : ST h A B) (zx : zInI x) (zy : zInI y) : SAME k_X7_level k_X8_level [zi x, zi y] h A B := by
  have hS2 := hS
  obtain ⟨kt, ⟨th, fx, d, w, Y, Q⟩, s, k, H, kn, s2, k2, H2, l, T, he, la, sz, it, m, r, hW, hL, hR⟩ := hS
  have hD := DJ_nd hJ m r
  have hA := hW.1
  have hD4 : [(A 0), (A 1), (A 2), (A 3)].Nodup := nd_A hA (l := [0, 1, 2, 3]) (by decide) (by decide)
  have hD5 : [(A 0), (A 1), (A 2), (A 3), (A 52)].Nodup := nd_A hA (l := [0, 1, 2, 3, 52]) (by decide) (by decide)
  have hc1 : h (A 1) = zcE (ptE (A 2) (A 3) th fx d w) := hW.2.2.1.1
  have hc2 : h (A 2) = zcE (.inl (0, 13, .inl Y)) := hW.2.2.1.2.1
  have hc3 : h (A 3) = zcE (.inl (0, 3, .inl Q)) := hW.2.2.1.2.2
  have hcE : cEx h A th fx d Y Q := hW.2.2.2.2.2.2.2.2.1
  obtain ⟨st, al, sv, nd, sc, be, up, dn, ln, F, W, Bb, P, S, U, D, N_, G, hc4, hXr, hsv⟩ := hcE
  have hK : KR (r 1) th fx d w Y Q := hR.1
  have hC : COK th fx d w Y Q := hR.2.1
  have hk := KR_kOK hK
  have hP := hW.2.2.2.1
  have hu := hR.2.2.1
  obtain ⟨x0, x1, x2, x3, x4, x5, x6, x7, x8, x9⟩ := hXr
  have hD10 : [(A 0), (A 1), (A 2), (A 3), (A 52), (A 58), (A 59), (A 60), (A 61), (A 62)].Nodup := nd_A hA (l := [0, 1, 2, 3, 52, 58, 59, 60, 61, 62]) (by decide) (by decide)
  have hD15 : [(A 0), (A 1), (A 2), (A 3), (A 52), (A 58), (A 59), (A 60), (A 61), (A 62), (A 53), (A 54), (A 55), (A 56), (A 57)].Nodup := nd_A hA (l := [0, 1, 2, 3, 52, 58, 59, 60, 61, 62, 53, 54, 55, 56, 57]) (by decide) (by decide)
  obtain ⟨fY, fq, fYQ, fqb⟩ := fit_pre hC
  have hd := hC.2.2.1
  have hm0 : manyN (r 1) 0 13 = pop th := KR_m0 hK hC 13 (Nat.le_refl _)
  by_cases hx : 0 ≤ x ∧ x ≤ 8191
  · by_cases hy : 0 ≤ y ∧ y ≤ 2
    · obtain ⟨b, rfl⟩ := Int.eq_ofNat_of_zero_le hx.1
      have hb : b < 8192 := by omega
      by_cases hpo : mk (poleB th Q) = 0
      · obtain ⟨r1, r2, r3, r4, r5, r6, r7⟩ := ref_pre hK hC hpo
        have hQ := no_pole hpo
        have hrf := KR_ref hK hC hb
        by_cases hr : refP (r 1) b
        · have hr2 := hrf.mp hr
          have hbz : bdiff b (bdiff th fx) = 0 := (bd_zero hb).mpr (fun p hp hbp => by
            have h1 := hr2.1 p hbp
            rw [bt_diff]
            omega)
          obtain ⟨nt, sct, bet, upt, dnt, lnt, Ft, Wt, Bt, Pt, t1, t2, t3, t4, t5⟩ := hW.2.2.2.2.2.2.2.2.2.1
          have hDl : [(A 0), (A 1), (A 2), (A 3), (A 63), (A 64), (A 65)].Nodup := nd_A hA (l := [0, 1, 2, 3, 63, 64, 65]) (by decide) (by decide)
          refine same_of (z := zj (lvX y (cU fx Y Q b) (cD fx Y Q b) (cL fx Y Q b))) (kt := kt) (n := (th, fx, d, w, Y, Q)) (s := s) (k := k) (H := H) (kn := kn) (s2 := s2) (k2 := k2) (H2 := H2) (l := l) (T := T) (he := he) (la := la) (sz := sz) (it := it) hJ hL (zEv_up (sp_X7_level_ok hW.2.1 hc1 hc2 hc3 t1 t2 t3 hDl hb hy hC.1 hC.2.1 hd fY fq hpo ⟨hbz, hr2.2⟩ (cSO_all hK hC hQ hb hr)) (fun v g hq => ?_)) (fun h2 hL2 hD2 => zEv_up (sp_X8_level_ok hL2 hD2 hb hy r1 r2 r3 r6 hr r5) (fun v h3 hq => ?_))
          · obtain ⟨hv, hg⟩ := hq
            have ho : ∀ i, i < 81 → i ∉ [0, 1, 2, 3, 63, 64, 65] → g (A i) = h (A i) := fun i h1 h2 => by
              rw [hg]
              exact A_out hA [0, 1, 2, 3, 63, 64, 65] rfl (by decide) h1 h2
            refine ⟨hv, CW_trial hW ((ho 66 (by decide) (by decide)).trans t4) ((ho 67 (by decide) (by decide)).trans t5) (zget hg hDl 4 rfl) (zget hg hDl 5 rfl) (zget hg hDl 6 rfl) (fun i h1 h2 => ?_), ?_⟩
            · by_cases c : i ∈ [0, 1, 2, 3, 63, 64, 65]
              · simp only [List.mem_cons, List.not_mem_nil, or_false] at c
                rcases (show i = 0 ∨ i = 1 ∨ i = 2 ∨ i = 3 by omega) with rfl | rfl | rfl | rfl
                · exact (zget hg hDl 0 rfl).trans hW.2.1.symm
                · exact (zget hg hDl 1 rfl).trans hc1.symm
                · exact (zget hg hDl 2 rfl).trans hc2.symm
                · exact (zget hg hDl 3 rfl).trans hc3.symm
              · exact ho i h1 c
            · rw [hg]
              exact KF_zov [0, 1, 2, 3, 63, 64, 65] rfl (by decide)
          · obtain ⟨y1, y2, y3, c1, hv, hg⟩ := hq
            exact ⟨hv.trans (by rw [ans_level hK hC hQ hb hr (by omega)]), _, _, hg, RL_sc hR rfl rfl rfl rfl rfl rfl rfl rfl rfl⟩
        · refine same_id hJ hS2 (sp_X7_level_not hW.2.1 hc1 hc2 hc3 hD4 hb hy hC.1 hC.2.1 hd fq hpo ?_) (sp_X8_level_not hL hD hb hy r1 r6 hr)
          by_cases e : bdiff b (bdiff th fx) = 0
          · refine Or.inr (fun e2 => hr (hrf.mpr ⟨fun p hbp => ?_, e2⟩))
            have hp : p < 13 := by
              by_cases c : p < 13
              · exact c
              · have := bt_big (k := 13) (p := p) hb (by omega)
                omega
            have h1 := (bd_zero hb).mp e p hp hbp
            rw [bt_diff] at h1
            have := bt_lt th p
            omega
          · exact Or.inl e
      · exact same_id hJ hS2 (sp_X7_level_pole hW.2.1 hc1 hc2 hc3 hD4 hb hy hC.1 fq hpo) (sp_X8_level_none hL hD hb hy (KR_ROK hK hC) (by rw [KR_pole hK hC]; exact hpo))
    · exact same_id hJ hS2 (sp_X7_level_bad zx zy (Or.inr hy)) (sp_X8_level_bad2 hL hD zx zy hx hy)
  · exact same_id hJ hS2 (sp_X7_level_bad zx zy (Or.inl hx)) (sp_X8_level_bad1 hL hD zx zy hx)
end
