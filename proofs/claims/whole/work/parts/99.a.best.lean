/-! best of both -/
theorem free_ne {th fx d w : Nat} {Y Q : Nat → Int} (hC : COK th fx d w Y Q) (hm : d + 2 ≤ pop th) : bdiff th fx ≠ 0 := fun q => by
  have h1 : pop th ≤ pop fx := popN_mono (fun p _ => by
    have h2 := bt_diff th fx p
    rw [q] at h2
    have h3 : bt 0 p = 0 := by
      unfold bt
      rw [Nat.zero_div]
    omega)
  have := hC.2.2.2.2.2.1
  omega
/-- all that a call with enough points rests on -/
theorem full_pre {R : Nat → Int} {th fx d w : Nat} {Y Q : Nat → Int} (hK : KR R th fx d w Y Q) (hC : COK th fx d w Y Q) (hQ : NPL th Q) (hm : d + 2 ≤ pop th) : ∃ M lo, ∃ lw go fl fu : Nat → Nat, XHY th fx d Y Q M lo (sq R d) (fun i => wrN R d (sq R d i) 13) lw go fl fu ∧ (∀ i, i < M + 1 → sq R d i < 8192 ∧ refP R (sq R d i)) ∧ (∀ i, i < M + 1 → (0 < onC R d (sq R d i) ↔ i + 1 < M + 1)) ∧ (∀ i, i + 1 < M + 1 → goO R d (sq R d i) = (go i : Int) ∧ go i < 13) ∧ (∀ p, p < 13 → bt th p = 1 → bt fx p = 0 → bOf R (sq R d M) * ((uC fx Y Q (sq R d M) p).natAbs : Int) ≤ ((aOf R (sq R d M)).natAbs : Int) * ((qv Q ((p : Int) - 6)).natAbs : Int) * cB0 fx Y Q (sq R d M)) ∧ lw M = low (sq R d M) ∧ M + 1 ≤ 70 := by
  obtain ⟨M, go, h1, h2, h3, h4, h5⟩ := exch_all hK hC hQ (free_ne hC hm) hm (fun s hs hr => cSO_all hK hC hQ hs hr)
  exact ⟨M, _, _, go, _, _, h1, h2, h3, h4, h5, rfl, h1.2.2.2.2.2.1⟩
/-- what the reference's calls want -/
theorem ref_pre {R : Nat → Int} {th fx d w : Nat} {Y Q : Nat → Int} (hK : KR R th fx d w Y Q) (hC : COK th fx d w Y Q) (hpo : mk (poleB th Q) = 0) : ROK R ∧ R 0 = (d : Int) ∧ d ≤ 3 ∧ (∀ p : Nat, p < 13 → 0 < R (p + 18) → qv (fun j => R (j + 1)) ((p : Int) - 6) ≠ 0) ∧ (∀ t, t < 8192 → refP R t → SOK R d t) ∧ mk (mpoleB R) = 0 ∧ manyN R 0 13 = pop th := by
  have hQ := no_pole hpo
  refine ⟨KR_ROK hK hC, hK.2.2.2.2.1, hC.2.2.1, fun p hp h => ?_, fun t ht hr => SOK_all hK hC hQ ht hr, (KR_pole hK hC).trans hpo, KR_m0 hK hC 13 (Nat.le_refl _)⟩
  rw [KR_qv hK]
  have h1 := hK.1 p hp
  have h2 := hC.2.2.2.2.1 p
  have h3 := bt_lt th p
  exact hQ p hp (by omega)
theorem ref_ex {R : Nat → Int} {th fx d w : Nat} {Y Q : Nat → Int} (hK : KR R th fx d w Y Q) (hC : COK th fx d w Y Q) (hm : d + 2 ≤ pop th) : (∃ t, t < 8192 ∧ refP R t) ∧ ∃ p, p < 13 ∧ R (p + 18) = 1 := by
  have h1 := first_ref hK hC hm
  refine ⟨⟨_, h1.2.1, h1.2.2⟩, ?_⟩
  have h2 := low_and (bdiff th fx) (bd_lt hC.1) (free_ne hC hm)
  refine ⟨low (bdiff th fx), h2.2.1, ?_⟩
  have h3 := h2.2.2
  rw [bt_diff] at h3
  have h4 := hK.1 _ h2.2.1
  have h5 := bt_lt th (low (bdiff th fx))
  have h6 := bt_lt fx (low (bdiff th fx))
  omega
section
variable {A B : Nat → Nat} {h : xH}
theorem st_best {x : Int} (hJ : DJ A B) (hS : ST h A B) (zx : zInI x) : SAME k_X7_best k_X8_best [zi x] h A B := by
  have hS2 := hS
  obtain ⟨kt, ⟨th, fx, d, w, Y, Q⟩, s, k, H, kn, s2, k2, H2, l, T, he, la, sz, it, m, r, hW, hL, hR⟩ := hS
  have hD := DJ_nd hJ m r
  have hA := hW.1
  have hD4 : [(A 0), (A 1), (A 2), (A 3)].Nodup := nd_A hA (l := [0, 1, 2, 3]) (by decide) (by decide)
  have hD5 : [(A 0), (A 1), (A 2), (A 3), (A 52)].Nodup := nd_A hA (l := [0, 1, 2, 3, 52]) (by decide) (by decide)
  have hc1 : h (A 1) = zcE (ptE (A 2) (A 3) th fx d w) := hW.2.2.1.1
  have hc2 : h (A 2) = zcE (.inl (0, 13, .inl Y)) := hW.2.2.1.2.1
  have hc3 : h (A 3) = zcE (.inl (0, 3, .inl Q)) := hW.2.2.1.2.2
  have hcE : cEx h A th fx d Y Q := hW.2.2.2.2.2.2.2.2.1
  obtain ⟨st, al, sv, nd, sc, be, up, dn, ln, F, W, Bb, P, S, U, D, N_, G, hc4, hXr, hsv⟩ := hcE
  have hK : KR (r 1) th fx d w Y Q := hR.1
  have hC : COK th fx d w Y Q := hR.2.1
  have hk := KR_kOK hK
  have hP := hW.2.2.2.1
  have hu := hR.2.2.1
  obtain ⟨x0, x1, x2, x3, x4, x5, x6, x7, x8, x9⟩ := hXr
  have hD15 : [(A 0), (A 1), (A 2), (A 3), (A 52), (A 58), (A 59), (A 60), (A 61), (A 62), (A 53), (A 54), (A 55), (A 56), (A 57)].Nodup := nd_A hA (l := [0, 1, 2, 3, 52, 58, 59, 60, 61, 62, 53, 54, 55, 56, 57]) (by decide) (by decide)
  obtain ⟨fY, fq, fYQ, fqb⟩ := fit_pre hC
  have hd := hC.2.2.1
  have hm0 : manyN (r 1) 0 13 = pop th := KR_m0 hK hC 13 (Nat.le_refl _)
  by_cases hx : 0 ≤ x ∧ x ≤ 7
  · by_cases hpo : mk (poleB th Q) = 0
    · obtain ⟨r1, r2, r3, r4, r5, r6, r7⟩ := ref_pre hK hC hpo
      have hQ := no_pole hpo
      by_cases hm : pop th < d + 2
      · have hal : ∀ st al be (P : Nat → Int), EXF th fx d Y Q st al be P → fewX x al = fewV x (manyN (r 1) 0 13) d := fun st al be P hE => by
          rw [hm0]
          unfold fewX fewV
          by_cases a : x = 1
          · rw [if_pos a, if_pos (Or.inl a)]
          · rw [if_neg a]
            by_cases b : x = 5
            · rw [if_pos b]
              by_cases c : pop th = d + 1
              · rw [(hE.2.1 c).1, if_pos (Or.inr ⟨b, c⟩)]
              · rw [hE.2.2 c, if_neg (show ¬ (x = 1 ∨ (x = 5 ∧ pop th = d + 1)) by omega)]
            · rw [if_neg b, if_neg (show ¬ (x = 1 ∨ (x = 5 ∧ pop th = d + 1)) by omega)]
        refine same_of (z := zj (fewV x (manyN (r 1) 0 13) d)) (n := (th, fx, d, w, Y, Q)) hJ hL (zEv_up (sp_X7_best_few hW.2.1 hc1 hc2 hc3 hc4 x0 x1 x2 x3 x4 x5 x6 x7 x8 x9 hD15 hx hC.1 hC.2.1 hd fY fq fYQ fqb hpo hm (fun e => gSO_all hC e) (sl_few hm hsv)) (fun v g hq => by
          obtain ⟨nd2, sc2, be2, up2, dn2, ln2, al2, F2, W2, B2, P2, hv, hg, hE⟩ := hq
          rw [hal _ _ _ _ hE] at hv
          exact ⟨hv, CW_fit hW (Or.inl ⟨hm, hE⟩) hg⟩)) (fun h2 hL2 hD2 => zEv_up (sp_X8_best_few hL2 hD2 hx r1 r2 r3 r6 (by omega)) (fun v h3 hq => ⟨hq.1, m, r, hq.2.trans (zov_self hL2), hR⟩))
      · have hm : d + 2 ≤ pop th := by omega
        obtain ⟨M, lo, lw, go, fl, fu, hX, hsq, hon, hgo, hmax, hlw, h70⟩ := full_pre hK hC hQ hm
        obtain ⟨hex, hfr⟩ := ref_ex hK hC hm
        have hcM := hsq M (Nat.lt_succ_self M)
        have hst := ans_step hK hC hQ hcM.1 hcM.2
        have hsl := sl_full hX hsv
        rcases (show x = 0 ∨ x = 1 ∨ x = 2 ∨ x = 3 ∨ x = 4 ∨ x = 5 ∨ x = 6 ∨ x = 7 by omega) with rfl | rfl | rfl | rfl | rfl | rfl | rfl | rfl
        · refine same_of (z := zj (cU fx Y Q (sq (r 1) d M))) (n := (th, fx, d, w, Y, Q)) hJ hL (zEv_up (sp_X7_best_w0 hW.2.1 hc1 hc2 hc3 hc4 x0 x1 x2 x3 x4 x5 x6 x7 x8 x9 hD15 hC.1 hC.2.1 hd fY fq fYQ fqb hpo hX hsl) (fun v g hq => by
        obtain ⟨nd2, sc2, be2, up2, dn2, ln2, F2, W2, B2, P2, S2, U2, D2, N2_, G2, hv, hg, hE⟩ := hq
        exact ⟨hv, CW_fit hW (Or.inr ⟨hm, M, lo, _, _, lw, go, fl, fu, hX, hE⟩) hg⟩)) (fun h2 hL2 hD2 => zEv_up (sp_X8_best_w0 hL2 hD2 r1 r2 r3 r4 r5 r6 (by omega) hex) (fun v h3 hq => ?_))
          obtain ⟨bs, y1, y2, y3, y4, y5, hv, hg, hb⟩ := hq
          exact ⟨hv.trans (by rw [(best_same hK hC hQ hcM.1 hcM.2 hmax hb).1, hst.1]), _, _, hg, RL_sc hR rfl rfl rfl rfl rfl rfl rfl rfl rfl⟩
        · refine same_of (z := zj (cD fx Y Q (sq (r 1) d M))) (n := (th, fx, d, w, Y, Q)) hJ hL (zEv_up (sp_X7_best_w1 hW.2.1 hc1 hc2 hc3 hc4 x0 x1 x2 x3 x4 x5 x6 x7 x8 x9 hD15 hC.1 hC.2.1 hd fY fq fYQ fqb hpo hX hsl) (fun v g hq => by
        obtain ⟨nd2, sc2, be2, up2, dn2, ln2, F2, W2, B2, P2, S2, U2, D2, N2_, G2, hv, hg, hE⟩ := hq
        exact ⟨hv, CW_fit hW (Or.inr ⟨hm, M, lo, _, _, lw, go, fl, fu, hX, hE⟩) hg⟩)) (fun h2 hL2 hD2 => zEv_up (sp_X8_best_w1 hL2 hD2 r1 r2 r3 r4 r5 r6 (by omega) hex) (fun v h3 hq => ?_))
          obtain ⟨bs, y1, y2, y3, y4, y5, hv, hg, hb⟩ := hq
          exact ⟨hv.trans (by rw [(best_same hK hC hQ hcM.1 hcM.2 hmax hb).2.1, hst.2]), _, _, hg, RL_sc hR rfl rfl rfl rfl rfl rfl rfl rfl rfl⟩
        · refine same_of (z := zj (mk (rcB (cGp fx Y Q (sq (r 1) d M)) Q (bdiff th fx) (lw M)) : Int)) (n := (th, fx, d, w, Y, Q)) hJ hL (zEv_up (sp_X7_best_w2 hW.2.1 hc1 hc2 hc3 hc4 x0 x1 x2 x3 x4 x5 x6 x7 x8 x9 hD15 hC.1 hC.2.1 hd fY fq fYQ fqb hpo hX hsl) (fun v g hq => by
        obtain ⟨nd2, sc2, be2, up2, dn2, ln2, F2, W2, B2, P2, S2, U2, D2, N2_, G2, hv, hg, hE⟩ := hq
        exact ⟨hv, CW_fit hW (Or.inr ⟨hm, M, lo, _, _, lw, go, fl, fu, hX, hE⟩) hg⟩)) (fun h2 hL2 hD2 => zEv_up (sp_X8_best_w2 hL2 hD2 r1 r2 r3 r4 r5 r6 (by omega) hex) (fun v h3 hq => ?_))
          obtain ⟨bs, y1, y2, y3, y4, y5, e1, e2, hv, hg, hb⟩ := hq
          exact ⟨hv.trans (by rw [hlw, ans_reached hK hC hQ hcM.1 hcM.2 hmax hb]), _, _, hg, RL_sc hR rfl rfl rfl rfl rfl rfl rfl rfl rfl⟩
        · refine same_of (z := zj (mk (raB (cGp fx Y Q (sq (r 1) d M)) Q (mk (rcB (cGp fx Y Q (sq (r 1) d M)) Q (bdiff th fx) (lw M)))) : Int)) (n := (th, fx, d, w, Y, Q)) hJ hL (zEv_up (sp_X7_best_w3 hW.2.1 hc1 hc2 hc3 hc4 x0 x1 x2 x3 x4 x5 x6 x7 x8 x9 hD15 hC.1 hC.2.1 hd fY fq fYQ fqb hpo hX hsl) (fun v g hq => by
        obtain ⟨nd2, sc2, be2, up2, dn2, ln2, F2, W2, B2, P2, S2, U2, D2, N2_, G2, hv, hg, hE⟩ := hq
        exact ⟨hv, CW_fit hW (Or.inr ⟨hm, M, lo, _, _, lw, go, fl, fu, hX, hE⟩) hg⟩)) (fun h2 hL2 hD2 => zEv_up (sp_X8_best_w3 hL2 hD2 r1 r2 r3 r4 r5 r6 (by omega) hex) (fun v h3 hq => ?_))
          obtain ⟨bs, y1, y2, y3, y4, y5, e1, e2, hv, hg, hb⟩ := hq
          exact ⟨hv.trans (by rw [hlw, ans_above hK hC hQ hcM.1 hcM.2 hmax hb]), _, _, hg, RL_sc hR rfl rfl rfl rfl rfl rfl rfl rfl rfl⟩
        · refine same_of (z := zj ((tuN fx (cGp fx Y Q (sq (r 1) d M)) (mk (rcB (cGp fx Y Q (sq (r 1) d M)) Q (bdiff th fx) (lw M))) 13).1 : Int)) (n := (th, fx, d, w, Y, Q)) hJ hL (zEv_up (sp_X7_best_w4 hW.2.1 hc1 hc2 hc3 hc4 x0 x1 x2 x3 x4 x5 x6 x7 x8 x9 hD15 hC.1 hC.2.1 hd fY fq fYQ fqb hpo hX hsl) (fun v g hq => by
        obtain ⟨nd2, sc2, be2, up2, dn2, ln2, F2, W2, B2, P2, S2, U2, D2, N2_, G2, hv, hg, hE⟩ := hq
        exact ⟨hv, CW_fit hW (Or.inr ⟨hm, M, lo, _, _, lw, go, fl, fu, hX, hE⟩) hg⟩)) (fun h2 hL2 hD2 => zEv_up (sp_X8_best_w4 hL2 hD2 r1 r2 r3 r4 r5 r6 (by omega) hex) (fun v h3 hq => ?_))
          obtain ⟨bs, y1, y2, y3, y4, y5, e1, e2, hv, hg, hb⟩ := hq
          exact ⟨hv.trans (by rw [hlw, ans_turns hK hC hQ hcM.1 hcM.2 hmax hb]), _, _, hg, RL_sc hR rfl rfl rfl rfl rfl rfl rfl rfl rfl⟩
        · refine same_of (z := zj 1) (n := (th, fx, d, w, Y, Q)) hJ hL (zEv_up (sp_X7_best_w5 hW.2.1 hc1 hc2 hc3 hc4 x0 x1 x2 x3 x4 x5 x6 x7 x8 x9 hD15 hC.1 hC.2.1 hd fY fq fYQ fqb hpo hX hsl) (fun v g hq => by
        obtain ⟨nd2, sc2, be2, up2, dn2, ln2, F2, W2, B2, P2, S2, U2, D2, N2_, G2, hv, hg, hE⟩ := hq
        exact ⟨hv, CW_fit hW (Or.inr ⟨hm, M, lo, _, _, lw, go, fl, fu, hX, hE⟩) hg⟩)) (fun h2 hL2 hD2 => zEv_up (sp_X8_best_w5 hL2 hD2 r1 r2 r3 r4 r5 r6 (by omega) hex) (fun v h3 hq => ?_))
          obtain ⟨bs, y1, y2, y3, y4, y5, hv, hg, hb⟩ := hq
          exact ⟨hv.trans (rfl), _, _, hg, RL_sc hR rfl rfl rfl rfl rfl rfl rfl rfl rfl⟩
        · refine same_of (z := zj ((M + 1 : Nat) : Int)) (n := (th, fx, d, w, Y, Q)) hJ hL (zEv_up (sp_X7_best_w6 hW.2.1 hc1 hc2 hc3 hc4 x0 x1 x2 x3 x4 x5 x6 x7 x8 x9 hD15 hC.1 hC.2.1 hd fY fq fYQ fqb hpo hX hsl) (fun v g hq => by
        obtain ⟨nd2, sc2, be2, up2, dn2, ln2, F2, W2, B2, P2, S2, U2, D2, N2_, G2, hv, hg, hE⟩ := hq
        exact ⟨hv, CW_fit hW (Or.inr ⟨hm, M, lo, _, _, lw, go, fl, fu, hX, hE⟩) hg⟩)) (fun h2 hL2 hD2 => zEv_up (sp_X8_best_w6 (N := M + 1) hL2 hD2 r1 r2 r3 r4 r5 hsq hon hfr (fun i hi => by have := hgo i hi; omega) (by omega) r6 (by omega) (by omega)) (fun v h3 hq => ?_))
          obtain ⟨c1, c2, c3, c4, c5, c6, c7, y1, y2, y3, y4, y5, c9, c10, c11, c12, hv, hg⟩ := hq
          exact ⟨hv.trans (rfl), _, _, hg, RL_sc hR rfl rfl rfl rfl rfl rfl rfl rfl rfl⟩
        · refine same_of (z := zj (sq (r 1) d M : Int)) (n := (th, fx, d, w, Y, Q)) hJ hL (zEv_up (sp_X7_best_w7 hW.2.1 hc1 hc2 hc3 hc4 x0 x1 x2 x3 x4 x5 x6 x7 x8 x9 hD15 hC.1 hC.2.1 hd fY fq fYQ fqb hpo hX hsl) (fun v g hq => by
        obtain ⟨nd2, sc2, be2, up2, dn2, ln2, F2, W2, B2, P2, S2, U2, D2, N2_, G2, hv, hg, hE⟩ := hq
        exact ⟨hv, CW_fit hW (Or.inr ⟨hm, M, lo, _, _, lw, go, fl, fu, hX, hE⟩) hg⟩)) (fun h2 hL2 hD2 => zEv_up (sp_X8_best_w7 (N := M + 1) hL2 hD2 r1 r2 r3 r4 r5 hsq hon hfr (fun i hi => by have := hgo i hi; omega) (by omega) r6 (by omega) (by omega)) (fun v h3 hq => ?_))
          obtain ⟨c1, c2, c3, c4, c5, c6, c7, y1, y2, y3, y4, y5, c9, c10, c11, c12, hv, hg⟩ := hq
          exact ⟨hv.trans (rfl), _, _, hg, RL_sc hR rfl rfl rfl rfl rfl rfl rfl rfl rfl⟩
    · exact same_id hJ hS2 (sp_X7_best_none hW.2.1 hc1 hc2 hc3 hD4 hx hC.1 fq hpo) (sp_X8_best_none hL hD hx (KR_ROK hK hC) (by rw [KR_pole hK hC]; exact hpo))
  · exact same_id hJ hS2 (sp_X7_best_bad zx hx) (sp_X8_best_bad hL hD zx hx)
end
