/-! degree, under, told, count of both -/
theorem pop_lo (th p : Nat) : ∀ k, popN (th &&& (2 ^ p - 1)) k = popN th (min p k)
  | 0 => by
    rw [Nat.min_zero]
    rfl
  | k + 1 => by
    have ih := pop_lo th p k
    have h1 := bt_and th (2 ^ p - 1) k
    have h2 := bt_ones p k
    have h4 := bt_lt th k
    by_cases c : k < p
    · rw [if_pos c] at h2
      rw [show min p (k + 1) = k + 1 from by omega, popN, popN, ih, show min p k = k from by omega]
      omega
    · rw [if_neg c] at h2
      rw [show min p (k + 1) = p from by omega, popN, ih, show min p k = p from by omega]
      omega
theorem KR_kind0 {R : Nat → Int} {th fx d w : Nat} {Y Q : Nat → Int} (hK : KR R th fx d w Y Q) (hC : COK th fx d w Y Q) : mk (kindB R 0) = th := by
  refine (mk_congr (fun p hp => ?_)).trans (mk_bt hC.1)
  have h1 := hK.1 p hp
  have h2 := hC.2.2.2.2.1 p
  have h3 := bt_lt th p
  refine decide_eq_decide.mpr ⟨fun q => by omega, fun q => ⟨by omega, Or.inl rfl⟩⟩
theorem KR_kind2 {R : Nat → Int} {th fx d w : Nat} {Y Q : Nat → Int} (hK : KR R th fx d w Y Q) (hC : COK th fx d w Y Q) : mk (kindB R 2) = fx := by
  refine (mk_congr (fun p hp => ?_)).trans (mk_bt hC.2.1)
  have h1 := hK.1 p hp
  have h2 := hC.2.2.2.2.1 p
  have h3 := bt_lt th p
  refine decide_eq_decide.mpr ⟨fun q => by omega, fun q => ⟨by omega, Or.inr (by omega)⟩⟩
theorem KR_pole {R : Nat → Int} {th fx d w : Nat} {Y Q : Nat → Int} (hK : KR R th fx d w Y Q) (hC : COK th fx d w Y Q) : mk (mpoleB R) = mk (poleB th Q) := by
  refine mk_congr (fun p hp => ?_)
  have h1 := hK.1 p hp
  have h2 := hC.2.2.2.2.1 p
  have h3 := bt_lt th p
  unfold mpoleB poleB
  rw [KR_qv hK]
  refine decide_eq_decide.mpr ⟨fun q => ⟨by omega, q.2⟩, fun q => ⟨by omega, q.2⟩⟩
theorem COK_q {th fx d w : Nat} {Y Q : Nat → Int} (hC : COK th fx d w Y Q) (p : Nat) (hp : p < 13) : zInI (qv Q ((p : Int) - 6)) ∧ -1000 ≤ qv Q ((p : Int) - 6) ∧ qv Q ((p : Int) - 6) ≤ 1000 := by
  have := qv_le hC.2.2.2.2.2.2.2.2 (x := (p : Int) - 6) (by omega) (by omega)
  exact ⟨⟨by omega, by omega⟩, by omega, by omega⟩
section
variable {A B : Nat → Nat} {h : xH}
theorem st_degree {x : Int} (hJ : DJ A B) (hS : ST h A B) (zx : zInI x) : SAME k_X7_degree k_X8_degree [zi x] h A B := by
  have hS2 := hS
  obtain ⟨kt, ⟨th, fx, d, w, Y, Q⟩, s, k, H, kn, s2, k2, H2, l, T, he, la, sz, it, m, r, hW, hL, hR⟩ := hS
  have hD := DJ_nd hJ m r
  have hA := hW.1
  have hD4 : [(A 0), (A 1), (A 2), (A 3)].Nodup := nd_A hA (l := [0, 1, 2, 3]) (by decide) (by decide)
  have hD5 : [(A 0), (A 1), (A 2), (A 3), (A 52)].Nodup := nd_A hA (l := [0, 1, 2, 3, 52]) (by decide) (by decide)
  have hc1 : h (A 1) = zcE (ptE (A 2) (A 3) th fx d w) := hW.2.2.1.1
  have hc2 : h (A 2) = zcE (.inl (0, 13, .inl Y)) := hW.2.2.1.2.1
  have hc3 : h (A 3) = zcE (.inl (0, 3, .inl Q)) := hW.2.2.1.2.2
  have hcE : cEx h A th fx d Y Q := hW.2.2.2.2.2.2.2.2.1
  obtain ⟨st, al, sv, nd, sc, be, up, dn, ln, F, W, Bb, P, S, U, D, N_, G, hc4, hXr, hsv⟩ := hcE
  have hK : KR (r 1) th fx d w Y Q := hR.1
  have hC : COK th fx d w Y Q := hR.2.1
  have hk := KR_kOK hK
  have hP := hW.2.2.2.1
  have hu := hR.2.2.1
  have hm2 : manyN (r 1) 2 13 = pop fx := KR_m2 hK hC 13 (Nat.le_refl _)
  have hd1 := hK.2.2.2.2.1
  have hd := hC.2.2.1
  have hpf := hC.2.2.2.2.2.1
  by_cases hx : 0 ≤ x ∧ x ≤ 3
  · obtain ⟨b, rfl⟩ := Int.eq_ofNat_of_zero_le hx.1
    by_cases e : b = d
    · exact same_id hJ hS2 (sp_X7_degree_not hW.2.1 hc1 hc2 hc3 hD4 (by omega) hC.2.1 hd (Or.inl e)) (sp_X8_degree_not1 hL hD hx (by omega) (by omega))
    · by_cases f : b < pop fx
      · exact same_id hJ hS2 (sp_X7_degree_not hW.2.1 hc1 hc2 hc3 hD4 (by omega) hC.2.1 hd (Or.inr f)) (sp_X8_degree_not2 hL hD hx hk (by omega) (by omega) (by omega))
      · have hK3 : KR (va_up (ntR (r 1) k) 0 (b : Int)) th fx b w Y Q := by
          obtain ⟨h1, h2, h3, ⟨h4, h5, h6⟩, h7, h8⟩ := hK
          exact ⟨fun q hq => by rw [vu_ne _ _ (by omega), ntR_lo (by omega)]; exact h1 q hq, fun q hq hb => by rw [vu_ne _ _ (by omega), ntR_lo (by omega)]; exact h2 q hq hb, fun q hq => by rw [vu_ne _ _ (by omega), ntR_lo (by omega)]; exact h3 q hq, ⟨by rw [vu_ne _ _ (by omega), ntR_lo (by omega)]; exact h4, by rw [vu_ne _ _ (by omega), ntR_lo (by omega)]; exact h5, by rw [vu_ne _ _ (by omega), ntR_lo (by omega)]; exact h6⟩, vu_same _ _ _, by rw [vu_ne _ _ (by omega), ntR_lo (by omega)]; exact h8⟩
        have hC3 : COK th fx b w Y Q := ⟨hC.1, hC.2.1, by omega, hC.2.2.2.1, hC.2.2.2.2.1, by omega, hC.2.2.2.2.2.2⟩
        exact same_of (z := zi (d : Int)) hJ hL (CW_post hW (nw_lt k hP.1) (sp_X7_degree_ok hW.2.1 hc1 hc2 hc3 hc4 hD5 hA hP.1 hu.2.1 hP.2 (by omega) hC.2.1 hd ⟨e, by omega⟩)) (fun h2 hL2 hD2 => zEv_up (sp_X8_degree_ok hL2 hD2 hx hk (by omega) hu.1 hu.2.1 (by omega) (by omega)) (fun v h3 hq => ⟨hq.1.trans (by rw [hd1]), _, _, hq.2, RL_now hR rfl rfl (fun j h1 h2 => by rw [vu_ne _ _ (by omega)]) hK3 hC3⟩))
  · exact same_id hJ hS2 (sp_X7_degree_bad zx hx) (sp_X8_degree_bad hL hD zx hx)
theorem st_under {x y : Int} (hJ : DJ A B) (hS : ST h A B) (zx : zInI x) (zy : zInI y) : SAME k_X7_under k_X8_under [zi x, zi y] h A B := by
  have hS2 := hS
  obtain ⟨kt, ⟨th, fx, d, w, Y, Q⟩, s, k, H, kn, s2, k2, H2, l, T, he, la, sz, it, m, r, hW, hL, hR⟩ := hS
  have hD := DJ_nd hJ m r
  have hA := hW.1
  have hD4 : [(A 0), (A 1), (A 2), (A 3)].Nodup := nd_A hA (l := [0, 1, 2, 3]) (by decide) (by decide)
  have hD5 : [(A 0), (A 1), (A 2), (A 3), (A 52)].Nodup := nd_A hA (l := [0, 1, 2, 3, 52]) (by decide) (by decide)
  have hc1 : h (A 1) = zcE (ptE (A 2) (A 3) th fx d w) := hW.2.2.1.1
  have hc2 : h (A 2) = zcE (.inl (0, 13, .inl Y)) := hW.2.2.1.2.1
  have hc3 : h (A 3) = zcE (.inl (0, 3, .inl Q)) := hW.2.2.1.2.2
  have hcE : cEx h A th fx d Y Q := hW.2.2.2.2.2.2.2.2.1
  obtain ⟨st, al, sv, nd, sc, be, up, dn, ln, F, W, Bb, P, S, U, D, N_, G, hc4, hXr, hsv⟩ := hcE
  have hK : KR (r 1) th fx d w Y Q := hR.1
  have hC : COK th fx d w Y Q := hR.2.1
  have hk := KR_kOK hK
  have hP := hW.2.2.2.1
  have hu := hR.2.2.1
  have hqo := hC.2.2.2.2.2.2.2.2
  by_cases hx : 0 ≤ x ∧ x ≤ 2
  · by_cases hy : -3 ≤ y ∧ y ≤ 3
    · obtain ⟨j, rfl⟩ := Int.eq_ofNat_of_zero_le hx.1
      have hj : j < 3 := by omega
      have hrq : r 1 (j + 1) = Q j := by
        have h4 := hK.2.2.2.1
        rcases (show j = 0 ∨ j = 1 ∨ j = 2 by omega) with rfl | rfl | rfl
        · exact h4.1
        · exact h4.2.1
        · exact h4.2.2
      have hqj : -3 ≤ Q j ∧ Q j ≤ 3 := by
        rcases (show j = 0 ∨ j = 1 ∨ j = 2 by omega) with rfl | rfl | rfl
        · exact hqo.1
        · exact hqo.2.1
        · exact hqo.2.2
      by_cases e : Q j = y
      · exact same_id hJ hS2 (sp_X7_under_not hW.2.1 hc1 hc2 hc3 hD4 hj hy hqj e) (sp_X8_under_not hL hD rfl hj hy (by omega) (by omega))
      · have hK3 : KR (va_up (ntR (r 1) k) (j + 1) y) th fx d w Y (va_up Q j y) := by
          obtain ⟨h1, h2, h3, ⟨h4, h5, h6⟩, h7, h8⟩ := hK
          refine ⟨fun q hq => by rw [vu_ne _ _ (by omega), ntR_lo (by omega)]; exact h1 q hq, fun q hq hb => by rw [vu_ne _ _ (by omega), ntR_lo (by omega)]; exact h2 q hq hb, fun q hq => by rw [vu_ne _ _ (by omega), ntR_lo (by omega)]; exact h3 q hq, ?_, by rw [vu_ne _ _ (by omega), ntR_lo (by omega)]; exact h7, by rw [vu_ne _ _ (by omega), ntR_lo (by omega)]; exact h8⟩
          have hg : ∀ i, i < 3 → r 1 (i + 1) = Q i → va_up (ntR (r 1) k) (j + 1) y (i + 1) = va_up Q j y i := fun i hi hq => by
            by_cases c : i = j
            · rw [c, vu_same, vu_same]
            · rw [vu_ne _ _ (by omega), vu_ne _ _ c, ntR_lo (by omega)]; exact hq
          exact ⟨hg 0 (by decide) h4, hg 1 (by decide) h5, hg 2 (by decide) h6⟩
        have hC3 : COK th fx d w Y (va_up Q j y) := by
          have hg : ∀ i, -3 ≤ Q i ∧ Q i ≤ 3 → -3 ≤ va_up Q j y i ∧ va_up Q j y i ≤ 3 := fun i hi => by
            by_cases c : i = j
            · rw [c, vu_same]; exact hy
            · rw [vu_ne _ _ c]; exact hi
          exact ⟨hC.1, hC.2.1, hC.2.2.1, hC.2.2.2.1, hC.2.2.2.2.1, hC.2.2.2.2.2.1, hC.2.2.2.2.2.2.1, hC.2.2.2.2.2.2.2.1, hg 0 hqo.1, hg 1 hqo.2.1, hg 2 hqo.2.2⟩
        exact same_of (z := zi (Q j + 3)) hJ hL (CW_post hW (nw_lt k hP.1) (sp_X7_under_ok hW.2.1 hc1 hc2 hc3 hc4 hD5 hA hP.1 hu.2.1 hP.2 hj hy hqj e)) (fun h2 hL2 hD2 => zEv_up (sp_X8_under_ok hL2 hD2 rfl hj hy (by omega) hu.1 hu.2.1 (by omega)) (fun v h3 hq => ⟨hq.1.trans (by rw [hrq]), _, _, hq.2, RL_now hR rfl rfl (fun i h1 h2 => by rw [vu_ne _ _ (by omega)]) hK3 hC3⟩))
    · exact same_id hJ hS2 (sp_X7_under_bad zx zy (Or.inr hy)) (sp_X8_under_bad2 hL hD zx zy hx hy)
  · exact same_id hJ hS2 (sp_X7_under_bad zx zy (Or.inl hx)) (sp_X8_under_bad1 hL hD zx zy hx)
theorem st_told {x y : Int} (hJ : DJ A B) (hS : ST h A B) (zx : zInI x) (zy : zInI y) : SAME k_X7_told k_X8_told [zi x, zi y] h A B := by
  have hS2 := hS
  obtain ⟨kt, ⟨th, fx, d, w, Y, Q⟩, s, k, H, kn, s2, k2, H2, l, T, he, la, sz, it, m, r, hW, hL, hR⟩ := hS
  have hD := DJ_nd hJ m r
  have hA := hW.1
  have hD4 : [(A 0), (A 1), (A 2), (A 3)].Nodup := nd_A hA (l := [0, 1, 2, 3]) (by decide) (by decide)
  have hD5 : [(A 0), (A 1), (A 2), (A 3), (A 52)].Nodup := nd_A hA (l := [0, 1, 2, 3, 52]) (by decide) (by decide)
  have hc1 : h (A 1) = zcE (ptE (A 2) (A 3) th fx d w) := hW.2.2.1.1
  have hc2 : h (A 2) = zcE (.inl (0, 13, .inl Y)) := hW.2.2.1.2.1
  have hc3 : h (A 3) = zcE (.inl (0, 3, .inl Q)) := hW.2.2.1.2.2
  have hcE : cEx h A th fx d Y Q := hW.2.2.2.2.2.2.2.2.1
  obtain ⟨st, al, sv, nd, sc, be, up, dn, ln, F, W, Bb, P, S, U, D, N_, G, hc4, hXr, hsv⟩ := hcE
  have hK : KR (r 1) th fx d w Y Q := hR.1
  have hC : COK th fx d w Y Q := hR.2.1
  have hk := KR_kOK hK
  have hP := hW.2.2.2.1
  have hu := hR.2.2.1
  by_cases hx : -6 ≤ x ∧ x ≤ 6
  · obtain ⟨p, hp, hxp⟩ : ∃ p : Nat, p < 13 ∧ x = (p : Int) - 6 := ⟨(x + 6).toNat, by omega, by omega⟩
    have hkp := hK.1 p hp
    have hfp := hC.2.2.2.2.1 p
    have b1 := bt_lt th p
    have b2 := bt_lt fx p
    have hm0 : manyN (r 1) 0 13 = pop th := KR_m0 hK hC 13 (Nat.le_refl _)
    have hm2 : manyN (r 1) 2 13 = pop fx := KR_m2 hK hC 13 (Nat.le_refl _)
    by_cases hy : 0 ≤ y ∧ y ≤ 3
    · by_cases t : bt th p = 1
      · have hYp := hK.2.1 p hp t
        have hYb := hC.2.2.2.2.2.2.2.1 p hp
        have hqb := COK_q hC p hp
        rcases (show y = 0 ∨ y = 1 ∨ y = 2 ∨ y = 3 by omega) with rfl | rfl | rfl | rfl
        · refine same_id hJ hS2 (sp_X7_told_w0 hW.2.1 hc1 hc2 hc3 hD4 hxp hp hC.1 t) ?_
          rw [← hYp]
          exact sp_X8_told_w0 hL hD hxp hp hk (by omega) (by omega)
        · refine same_id hJ hS2 (sp_X7_told_w1 hW.2.1 hc1 hc2 hc3 hD4 hxp hp hC.1 t hC.2.1) ?_
          rw [show (bt fx p : Int) = r 1 (p + 18) - 1 from by omega]
          exact sp_X8_told_w1 hL hD hxp hp hk (by omega)
        · refine same_id hJ hS2 (sp_X7_told_w2 hW.2.1 hc1 hc2 hc3 hD4 hxp hp hC.1 t) ?_
          rw [show pop (th &&& (2 ^ p - 1)) = manyN (r 1) 0 p from by
            rw [KR_m0 hK hC p (by omega), pop, pop_lo, show min p 13 = p from by omega]]
          exact sp_X8_told_w2 hL hD hxp hp hk (by omega)
        · refine same_id hJ hS2 (sp_X7_told_w3 hW.2.1 hc1 hc2 hc3 hD4 hxp hp hC.1 t (by rw [hxp]; exact hqb.2)) ?_
          rw [← KR_qv hK]
          exact sp_X8_told_w3 hL hD hxp hp hk (by omega) (by rw [KR_qv hK, hxp]; exact hqb.1)
      · exact same_id hJ hS2 (sp_X7_told_none hW.2.1 hc1 hc2 hc3 hD4 hxp hp hy hC.1 (by omega)) (sp_X8_told_none hL hD hxp hp hy hk (by omega))
    · exact same_id hJ hS2 (sp_X7_told_bad zx zy (Or.inr hy)) (sp_X8_told_bad2 hL hD zx zy hx hy)
  · exact same_id hJ hS2 (sp_X7_told_bad zx zy (Or.inl hx)) (sp_X8_told_bad1 hL hD zx zy hx)
theorem st_count {x : Int} (hJ : DJ A B) (hS : ST h A B) (zx : zInI x) : SAME k_X7_count k_X8_count [zi x] h A B := by
  have hS2 := hS
  obtain ⟨kt, ⟨th, fx, d, w, Y, Q⟩, s, k, H, kn, s2, k2, H2, l, T, he, la, sz, it, m, r, hW, hL, hR⟩ := hS
  have hD := DJ_nd hJ m r
  have hA := hW.1
  have hD4 : [(A 0), (A 1), (A 2), (A 3)].Nodup := nd_A hA (l := [0, 1, 2, 3]) (by decide) (by decide)
  have hD5 : [(A 0), (A 1), (A 2), (A 3), (A 52)].Nodup := nd_A hA (l := [0, 1, 2, 3, 52]) (by decide) (by decide)
  have hc1 : h (A 1) = zcE (ptE (A 2) (A 3) th fx d w) := hW.2.2.1.1
  have hc2 : h (A 2) = zcE (.inl (0, 13, .inl Y)) := hW.2.2.1.2.1
  have hc3 : h (A 3) = zcE (.inl (0, 3, .inl Q)) := hW.2.2.1.2.2
  have hcE : cEx h A th fx d Y Q := hW.2.2.2.2.2.2.2.2.1
  obtain ⟨st, al, sv, nd, sc, be, up, dn, ln, F, W, Bb, P, S, U, D, N_, G, hc4, hXr, hsv⟩ := hcE
  have hK : KR (r 1) th fx d w Y Q := hR.1
  have hC : COK th fx d w Y Q := hR.2.1
  have hk := KR_kOK hK
  have hP := hW.2.2.2.1
  have hu := hR.2.2.1
  have hm0 : manyN (r 1) 0 13 = pop th := KR_m0 hK hC 13 (Nat.le_refl _)
  have hm2 : manyN (r 1) 2 13 = pop fx := KR_m2 hK hC 13 (Nat.le_refl _)
  have hd1 := hK.2.2.2.2.1
  have hd := hC.2.2.1
  have hq : ∀ p : Nat, p < 13 → zInI (qv Q ((p : Int) - 6)) := fun p hp => (COK_q hC p hp).1
  have hq2 : ∀ p : Nat, p < 13 → zInI (qv (fun j => r 1 (j + 1)) ((p : Int) - 6)) := fun p hp => by rw [KR_qv hK]; exact hq p hp
  have hd3 : 0 ≤ r 1 0 ∧ r 1 0 ≤ 3 := by omega
  by_cases hx : x < 0 ∨ 6 < x
  · exact same_id hJ hS2 (sp_X7_count_bad zx hx) (sp_X8_count_bad hL hD zx hx)
  · rcases (show x = 0 ∨ x = 1 ∨ x = 2 ∨ x = 3 ∨ x = 4 ∨ x = 5 ∨ x = 6 by omega) with rfl | rfl | rfl | rfl | rfl | rfl | rfl
    · refine same_id hJ hS2 (sp_X7_count_w0 hW.2.1 hc1 hc2 hc3 hD4) ?_
      rw [← hd1]
      exact sp_X8_count_w0 hL hD
    · refine same_id hJ hS2 (sp_X7_count_w1 hW.2.1 hc1 hc2 hc3 hD4) ?_
      rw [← KR_kind0 hK hC]
      exact sp_X8_count_w1 hL hD hk
    · refine same_id hJ hS2 (sp_X7_count_w2 hW.2.1 hc1 hc2 hc3 hD4) ?_
      rw [← KR_kind2 hK hC]
      exact sp_X8_count_w2 hL hD hk
    · refine same_id hJ hS2 (sp_X7_count_w3 hW.2.1 hc1 hc2 hc3 hD4 hC.1 hq) ?_
      rw [← KR_pole hK hC]
      exact sp_X8_count_w3 hL hD hk hq2
    · refine same_id hJ hS2 (sp_X7_count_w4 hW.2.1 hc1 hc2 hc3 hD4 hC.2.1) ?_
      rw [← hd1, ← hm2]
      exact sp_X8_count_w4 hL hD hk hd3
    · refine same_id hJ hS2 (sp_X7_count_w5 hW.2.1 hc1 hc2 hc3 hD4 hC.1 hq hd) ?_
      rw [← hd1, ← hm0, ← KR_pole hK hC]
      exact sp_X8_count_w5 hL hD hk hd3 hq2
    · refine same_id hJ hS2 (sp_X7_count_w6 hW.2.1 hP.2.1 (nd_A hA (l := [0, 4]) (by decide) (by decide))) ?_
      rw [← hu.1]
      exact sp_X8_count_w6 hL hD
end
