/-! read of both -/
theorem cq_01 (T : Nat → Int) (L d : Nat) : ∀ (n a th fx : Nat) (Y : Nat → Int), (cqR T L d n a th fx Y).1 = 0 ∨ (cqR T L d n a th fx Y).1 = 1
  | 0, a, th, fx, Y => by
    rw [cqR]
    by_cases c : cur T L (sk T L a) = 0
    · rw [if_pos c]
      exact Or.inr rfl
    · rw [if_neg c]
      exact Or.inl rfl
  | n + 1, a, th, fx, Y => by
    rw [cqR]
    by_cases c : cur T L (sk T L a) = 0
    · rw [if_pos c]
      exact Or.inr rfl
    · rw [if_neg c]
      by_cases e : cpV T L (sk T L a) th fx d = 0
      · rw [if_pos e]
        exact Or.inl rfl
      · rw [if_neg e]
        exact cq_01 T L d n _ _ _ _
theorem txC_01 (T : Nat → Int) (L : Nat) (Q Y : Nat → Int) : txC T L Q Y = 0 ∨ txC T L Q Y = 1 := by
  unfold txC
  by_cases a : ¬ (48 ≤ cur T L (sk T L 0) ∧ cur T L (sk T L 0) ≤ 51)
  · rw [if_pos a]
    exact Or.inl rfl
  · rw [if_neg a]
    by_cases b : tkV T L (sk T L 0 + 1) 59 = 0
    · rw [if_pos b]
      exact Or.inl rfl
    · rw [if_neg b]
      by_cases c : (bnR T zF L 3 (tkA T L (sk T L 0 + 1) 59) (clrF Q 3) 0).1 = 0
      · rw [if_pos c]
        exact Or.inl rfl
      · rw [if_neg c]
        exact cq_01 T L _ 8 _ _ _ _
theorem tx_same {T DQ DY Q7 Y8 K9 : Nat → Int} {L : Nat} (hT : ∀ j, j < L → 32 ≤ T j ∧ T j ≤ 126) (hY : ∀ p, p < 13 → -99 ≤ DY p ∧ DY p ≤ 99) (h7 : ∀ i, i < 3 → Q7 i = 0) (h8 : ∀ i, i < 13 → Y8 i = 0) (h9 : ∀ i, i < 13 → K9 i = 0) : txC T L DQ DY = txV T L Q7 Y8 K9 ∧ (txC T L DQ DY = 0 → txL T L DQ DY = txA T L Q7 Y8 K9) ∧ (txC T L DQ DY = 1 → (48 ≤ cur T L (sk T L 0) ∧ cur T L (sk T L 0) ≤ 51) ∧ (∀ i, i < 3 → (bnR T zF L 3 (tkA T L (sk T L 0 + 1) 59) (clrF DQ 3) 0).2.2 i = (bnR T K9 L 3 (tkA T L (sk T L 0 + 1) 59) Q7 0).2.2 i ∧ -3 ≤ (bnR T zF L 3 (tkA T L (sk T L 0 + 1) 59) (clrF DQ 3) 0).2.2 i ∧ (bnR T zF L 3 (tkA T L (sk T L 0 + 1) 59) (clrF DQ 3) 0).2.2 i ≤ 3) ∧
    TPI (cur T L (sk T L 0) - 48).toNat (cqR T L (cur T L (sk T L 0) - 48).toNat 8 (bnR T zF L 3 (tkA T L (sk T L 0 + 1) 59) (clrF DQ 3) 0).2.1 0 0 DY).2.1 (cqR T L (cur T L (sk T L 0) - 48).toNat 8 (bnR T zF L 3 (tkA T L (sk T L 0 + 1) 59) (clrF DQ 3) 0).2.1 0 0 DY).2.2.1 (cqR T L (cur T L (sk T L 0) - 48).toNat 8 (bnR T zF L 3 (tkA T L (sk T L 0 + 1) 59) (clrF DQ 3) 0).2.1 0 0 DY).2.2.2.1 (ptR T L (cur T L (sk T L 0) - 48).toNat 8 (bnR T K9 L 3 (tkA T L (sk T L 0 + 1) 59) Q7 0).2.1 Y8 K9 0).2.2.1 (ptR T L (cur T L (sk T L 0) - 48).toNat 8 (bnR T K9 L 3 (tkA T L (sk T L 0 + 1) 59) Q7 0).2.1 Y8 K9 0).2.2.2.1 0) := by
  have hs := sk_r (T := T) (L := L) (a := 0) (Nat.zero_le L)
  unfold txC txV txL txA bbV bbA
  by_cases a : ¬ (48 ≤ cur T L (sk T L 0) ∧ cur T L (sk T L 0) ≤ 51)
  · rw [if_pos a, if_pos a, if_pos a, if_pos a]
    exact ⟨rfl, fun _ => rfl, fun q => absurd q (by decide)⟩
  · rw [if_neg a, if_neg a, if_neg a, if_neg a]
    have a2 : 48 ≤ cur T L (sk T L 0) ∧ cur T L (sk T L 0) ≤ 51 := by
      by_cases z : 48 ≤ cur T L (sk T L 0) ∧ cur T L (sk T L 0) ≤ 51
      · exact z
      · exact absurd z a
    have hcl : sk T L 0 + 1 ≤ L := by
      have h1 := cur_b hT (sk T L 0)
      omega
    have htk := tk_le (T := T) (L := L) (a := sk T L 0 + 1) (c := 59) hT hcl (by decide)
    by_cases b : tkV T L (sk T L 0 + 1) 59 = 0
    · rw [if_pos b, if_pos b, if_pos b, if_pos b]
      exact ⟨rfl, fun _ => rfl, fun q => absurd q (by decide)⟩
    · rw [if_neg b, if_neg b, if_neg b, if_neg b]
      have hbn := bn_same (K := zF) (K2 := K9) hT 3 (tkA T L (sk T L 0 + 1) 59) (clrF DQ 3) Q7 0 htk.2 (fun i hi => by
        have e : clrF DQ 3 i = 0 := if_pos hi
        rw [e, h7 i hi]
        exact ⟨rfl, by decide, by decide⟩)
      obtain ⟨e1, e2, e3, e4⟩ := hbn
      rw [← e1, ← e2]
      have hz : ∀ p, bt 0 p = 0 := fun p => by
        unfold bt
        rw [Nat.zero_div]
      have hp0 : pop 0 = 0 := by decide
      have hI : TPI (cur T L (sk T L 0) - 48).toNat 0 0 DY Y8 K9 8 := ⟨⟨by decide, by decide, fun j => Nat.le_refl _, by omega⟩, fun p hp => by
          rw [h9 p hp, tk2, hz]
          rfl, fun p hp hb => by rw [hz] at hb; omega, hY, fun p hp => by rw [h8 p hp]; exact ⟨by decide, by decide⟩, by omega⟩
      have htp := tp_same hT 8 (bnR T zF L 3 (tkA T L (sk T L 0 + 1) 59) (clrF DQ 3) 0).2.1 0 0 DY Y8 K9 e3 hI
      rw [hp0] at htp
      generalize bnR T zF L 3 (tkA T L (sk T L 0 + 1) 59) (clrF DQ 3) 0 = bn at *
      by_cases c : bn.1 = 0
      · rw [if_pos c, if_pos c, if_pos c, if_pos c]
        exact ⟨rfl, fun _ => rfl, fun q => absurd q (by decide)⟩
      · rw [if_neg c, if_neg c, if_neg c, if_neg c]
        exact ⟨htp.1, htp.2.1, fun q => ⟨a2, e4, htp.2.2 q⟩⟩
section
variable {A B : Nat → Nat} {h : xH}
theorem st_read (hJ : DJ A B) (hS : ST h A B) : SAME k_X7_read k_X8_read [] h A B := by
  have hS2 := hS
  obtain ⟨kt, ⟨th, fx, d, w, Y, Q⟩, s, k, H, kn, s2, k2, H2, l, T, he, la, sz, it, m, r, hW, hL, hR⟩ := hS
  have hD := DJ_nd hJ m r
  have hA := hW.1
  have hD4 : [(A 0), (A 1), (A 2), (A 3)].Nodup := nd_A hA (l := [0, 1, 2, 3]) (by decide) (by decide)
  have hD5 : [(A 0), (A 1), (A 2), (A 3), (A 52)].Nodup := nd_A hA (l := [0, 1, 2, 3, 52]) (by decide) (by decide)
  have hc1 : h (A 1) = zcE (ptE (A 2) (A 3) th fx d w) := hW.2.2.1.1
  have hc2 : h (A 2) = zcE (.inl (0, 13, .inl Y)) := hW.2.2.1.2.1
  have hc3 : h (A 3) = zcE (.inl (0, 3, .inl Q)) := hW.2.2.1.2.2
  have hcE : cEx h A th fx d Y Q := hW.2.2.2.2.2.2.2.2.1
  obtain ⟨st, al, sv, nd, sc, be, up, dn, ln, F, W, Bb, P, S, U, D, N_, G, hc4, hXr, hsv⟩ := hcE
  have hK : KR (r 1) th fx d w Y Q := hR.1
  have hC : COK th fx d w Y Q := hR.2.1
  have hk := KR_kOK hK
  have hP := hW.2.2.2.1
  have hu := hR.2.2.1
  obtain ⟨fl, at_, nu, na_, ht1, ht2⟩ := hW.2.2.2.2.2.2.1
  obtain ⟨dth, dfx, dd, dw, DY, DQ, hd1, hd2, hd3, hdY⟩ := hW.2.2.2.2.2.2.2.1
  obtain ⟨g1, g2, g3, g4⟩ := hR.2.2.2.2.1
  have hz3 : ∀ i, i < 3 → cpF zF (r 7) 3 i = 0 := fun i hi => if_pos hi
  have hz8 : ∀ i, i < 13 → cpF zF (r 8) 13 i = 0 := fun i hi => if_pos hi
  have hz9 : ∀ i, i < 13 → cpF zF (r 9) 13 i = 0 := fun i hi => if_pos hi
  have hsm := tx_same (T := T) (L := l) (DQ := DQ) g4 hdY hz3 hz8 hz9
  have hT3 : ∀ j, j < l → 32 ≤ r 3 j ∧ r 3 j ≤ 126 := fun j hj => by
    rw [g3]
    exact g4 j hj
  rcases txC_01 T l DQ DY with hv | hv
  · have hDf : [(A 0), (A 47), (A 48), (A 49), (A 50), (A 51)].Nodup := nd_A hA (l := [0, 47, 48, 49, 50, 51]) (by decide) (by decide)
    have hvr : txV (r 3) l (cpF zF (r 7) 3) (cpF zF (r 8) 13) (cpF zF (r 9) 13) = 0 := by
      rw [g3, ← hsm.1]
      exact hv
    refine same_of (z := zi (-20 - (txL T l DQ DY : Int))) (kt := kt) (n := (th, fx, d, w, Y, Q)) (s := s) (k := k) (H := H) (kn := kn) (s2 := s2) (k2 := k2) (H2 := H2) (l := 0) (T := T) (he := he) (la := la) (sz := sz) (it := it) hJ hL (zEv_up (sp_X7_read_fault hW.2.1 ht1 ht2 hd1 hd2 hd3 hDf g2 g4 hv) (fun v g hq => ?_)) (fun h2 hL2 hD2 => zEv_up (sp_X8_read_fail hL2 hD2 g1 g2 hT3 hvr) (fun v h3 hq => ?_))
    · obtain ⟨at2, nu2, na2, fl2, th2, fx2, d2, Y2, Q2, hv2, hg, hb2⟩ := hq
      have ho : ∀ i, i < 81 → i ∉ [0, 47, 48, 49, 50, 51] → g (A i) = h (A i) := fun i h1 h2 => by
        rw [hg]
        exact A_out hA [0, 47, 48, 49, 50, 51] rfl (by decide) h1 h2
      have ho2 : ∀ i, i ≠ 0 → (i < 47 ∨ 52 ≤ i) → i < 81 → g (A i) = h (A i) := fun i h1 h2 h3 => ho i h3 (by simp only [List.mem_cons, List.not_mem_nil, or_false]; omega)
      refine ⟨hv2, ?_, ?_⟩
      · obtain ⟨h1, h2, h3, h4, h5, h6, h7, h8, h9, h10, h11, h12⟩ := hW
        exact ⟨h1, zget hg hDf 0 rfl, cN_cg h3 (fun i _ q => ho2 i (by omega) (by omega) (by omega)), ⟨h4.1, PBk_cg h4.2 (fun i _ q => ho2 i (by omega) (by omega) (by omega))⟩, kn_cg h5 (fun i _ q => ho2 i (by omega) (by omega) (by omega)), ⟨h6.1, PBk_cg h6.2 (fun i _ q => ho2 i (by omega) (by omega) (by omega))⟩, ⟨fl2, at2, nu2, na2, zget hg hDf 1 rfl, zget hg hDf 2 rfl⟩, ⟨th2, fx2, d2, dw, Y2, Q2, zget hg hDf 3 rfl, zget hg hDf 4 rfl, zget hg hDf 5 rfl, hb2 hdY⟩, cEx_cg h9 (fun i _ q => ho2 i (by omega) (by omega) (by omega)), cTr_cg h10 (fun i _ q => ho2 i (by omega) (by omega) (by omega)), cOd_cg h11 (fun i _ q => ho2 i (by omega) (by omega) (by omega)), cSh_cg h12 (fun i _ q => ho2 i (by omega) (by omega) (by omega))⟩
      · rw [hg]
        exact KF_zov [0, 47, 48, 49, 50, 51] rfl (by decide)
    · obtain ⟨c1, e1, x7, x8, x9, x10, hv2, hg⟩ := hq
      exact ⟨hv2.trans (by rw [g3, hsm.2.1 hv]), _, _, hg, hR.1, hR.2.1, hR.2.2.1, hR.2.2.2.1, ⟨rfl, by omega, g3, fun j hj => absurd hj (Nat.not_lt_zero j)⟩, hR.2.2.2.2.2⟩
  · have hvr : txV (r 3) l (cpF zF (r 7) 3) (cpF zF (r 8) 13) (cpF zF (r 9) 13) = 1 := by
      rw [g3, ← hsm.1]
      exact hv
    have hDr : [(A 0), (A 1), (A 2), (A 3), (A 52), (A 47), (A 48), (A 49), (A 50), (A 51)].Nodup := nd_A hA (l := [0, 1, 2, 3, 52, 47, 48, 49, 50, 51]) (by decide) (by decide)
    obtain ⟨s1, s2', s3⟩ := hsm.2.2 hv
    have hct : ∀ t2 : Nat, t2 = (cqR T l (cur T l (sk T l 0) - 48).toNat 8 (bnR T zF l 3 (tkA T l ((sk T l 0) + 1) 59) (clrF DQ 3) 0).2.1 0 0 DY).2.1 → t2 < 8192 := fun t2 e => by
      rw [e]
      exact s3.1.1
    have hcls := sp_X7_read_ok hW.2.1 hc1 hc2 hc3 hc4 ht1 ht2 hd1 hd2 hd3 hDr hA hP.1 hu.2.1 hP.2 g2 g4 hv hct
    have hrf : ∀ h2 : xH, (∀ q ∈ LM B m r, h2 q.1 = zcE q.2) → zND (LM B m r) → _ := fun h2 hL2 hD2 => sp_X8_read_ok (h := h2) (A := B) hL2 hD2 g1 g2 hT3 hvr hu.1 hu.2.1
    rw [g3] at hrf
    generalize cur T l (sk T l 0) = cc at *
    generalize bnR T zF l 3 (tkA T l ((sk T l 0) + 1) 59) (clrF DQ 3) 0 = bn at *
    generalize bnR T (cpF zF (r 9) 13) l 3 (tkA T l ((sk T l 0) + 1) 59) (cpF zF (r 7) 3) 0 = bm at *
    generalize cqR T l (cc - 48).toNat 8 bn.2.1 0 0 DY = cq at *
    generalize ptR T l (cc - 48).toNat 8 bm.2.1 (cpF zF (r 8) 13) (cpF zF (r 9) 13) 0 = pt at *
    obtain ⟨cqv, th2, fx2, Y2, cqp⟩ := cq
    obtain ⟨bnv, bnp, Q2⟩ := bn
    obtain ⟨t1, t2, t3, t4, t5, t6⟩ := s3
    have hY2 : ∀ j, j < 13 → va_cpy Y2 Y 0 0 13 j = Y2 j := fun j hj => cpy_lt hj
    have hQ2 : ∀ j, j < 3 → va_cpy Q2 Q 0 0 3 j = Q2 j := fun j hj => cpy_lt hj
    have hq3 : ∀ i, i < 3 → Q2 i = bm.2.2 i ∧ -3 ≤ Q2 i ∧ Q2 i ≤ 3 := s2'
    have hK3 : KR (rowT pt.2.2.1 pt.2.2.2.1 (rowQ bm.2.2 (va_up (ntR (r 1) k) 0 (((cc - 48).toNat : Nat) : Int)) 3) 13) th2 fx2 (cc - 48).toNat w (va_cpy Y2 Y 0 0 13) (va_cpy Q2 Q 0 0 3) := by
      refine ⟨fun p hp => ?_, fun p hp hb => ?_, fun p hp => ?_, ⟨?_, ?_, ?_⟩, ?_, ?_⟩
      · unfold rowT
        rw [if_neg (show ¬ (5 ≤ p + 18 ∧ p + 18 < 5 + 13) by omega), if_pos (show 18 ≤ p + 18 ∧ p + 18 < 18 + 13 by omega), show p + 18 - 18 = p from by omega, t2 p hp]
        rfl
      · unfold rowT
        rw [if_pos (show 5 ≤ p + 5 ∧ p + 5 < 5 + 13 by omega), show p + 5 - 5 = p from by omega, hY2 p hp]
        exact t3 p hp hb
      · unfold rowT
        rw [if_pos (show 5 ≤ p + 5 ∧ p + 5 < 5 + 13 by omega), show p + 5 - 5 = p from by omega]
        exact t5 p hp
      · rw [hQ2 0 (by decide), (hq3 0 (by decide)).1]
        rfl
      · rw [hQ2 1 (by decide), (hq3 1 (by decide)).1]
        rfl
      · rw [hQ2 2 (by decide), (hq3 2 (by decide)).1]
        rfl
      · rfl
      · show ntR (r 1) k 4 = (w : Int)
        rw [ntR_lo (by decide)]
        exact hK.2.2.2.2.2
    have hC3 : COK th2 fx2 (cc - 48).toNat w (va_cpy Y2 Y 0 0 13) (va_cpy Q2 Q 0 0 3) := ⟨t1.1, t1.2.1, by omega, hC.2.2.2.1, t1.2.2.1, t1.2.2.2, t6, fun p hp => by rw [hY2 p hp]; exact t4 p hp, by rw [hQ2 0 (by decide)]; exact (hq3 0 (by decide)).2, by rw [hQ2 1 (by decide)]; exact (hq3 1 (by decide)).2, by rw [hQ2 2 (by decide)]; exact (hq3 2 (by decide)).2⟩
    refine same_of (z := zi (pop th2 : Int)) (kt := kt) (n := (th2, fx2, (cc - 48).toNat, w, va_cpy Y2 Y 0 0 13, va_cpy Q2 Q 0 0 3)) (s := nwS k s) (k := kpN k) (H := nwH k H (th, fx, d, w, Y, Q)) (kn := kn) (s2 := s2) (k2 := k2) (H2 := H2) (l := 0) (T := T) (he := he) (la := la) (sz := sz) (it := it) hJ hL (zEv_up hcls (fun v g hq => ?_)) (fun h2 hL2 hD2 => zEv_up (hrf h2 hL2 hD2) (fun v h3 hq => ?_))
    · obtain ⟨hb, at2, nu2, na2, fl2, th3, fx3, d3, Y3, Q3, hv2, hg, hPB, hfr, ⟨q1, q2, q3, q4, q5⟩, hb2⟩ := hq
      subst q1 q2 q3 q4 q5
      have ho : ∀ i, i < 81 → i ∉ [0, 1, 2, 3, 52, 47, 48, 49, 50, 51] → g (A i) = hb (A i) := fun i h1 h2 => by
        rw [hg]
        exact A_out hA [0, 1, 2, 3, 52, 47, 48, 49, 50, 51] rfl (by decide) h1 h2
      have ho2 : ∀ i, ((24 ≤ i ∧ i < 47) ∨ 53 ≤ i) → i < 81 → g (A i) = h (A i) := fun i h1 h2 => (ho i h2 (by simp only [List.mem_cons, List.not_mem_nil, or_false]; omega)).trans (hfr _ (fun j hj q => by have := hA i j h2 (by omega) q; omega) (fun j h3 h4 q => by have := hA i j h2 (by omega) q; omega))
      refine ⟨hv2, ?_, fun a ha => ?_⟩
      · obtain ⟨h1, h2, h3, h4, h5, h6, h7, h8, h9, h10, h11, h12⟩ := hW
        exact ⟨h1, zget hg hDr 0 rfl, ⟨zget hg hDr 1 rfl, zget hg hDr 2 rfl, zget hg hDr 3 rfl⟩, ⟨nw_lt k h4.1, PBk_cg hPB (fun i q1 q2 => ho i (by omega) (by simp only [List.mem_cons, List.not_mem_nil, or_false]; omega))⟩, kn_cg h5 (fun i _ q => ho2 i (by omega) (by omega)), ⟨h6.1, PBk_cg h6.2 (fun i _ q => ho2 i (by omega) (by omega))⟩, ⟨fl2, at2, nu2, na2, zget hg hDr 5 rfl, zget hg hDr 6 rfl⟩, ⟨_, _, _, _, _, _, zget hg hDr 7 rfl, zget hg hDr 8 rfl, zget hg hDr 9 rfl, hb2 hdY⟩, cEx_un (st := st) (al := al) h9 (zget hg hDr 4 rfl) (fun i _ q => ho2 i (by omega) (by omega)), cTr_cg h10 (fun i _ q => ho2 i (by omega) (by omega)), cOd_cg h11 (fun i _ q => ho2 i (by omega) (by omega)), cSh_cg h12 (fun i _ q => ho2 i (by omega) (by omega))⟩
      · rw [hg]
        exact (KF_zov [0, 1, 2, 3, 52, 47, 48, 49, 50, 51] rfl (by decide) a ha).trans (hfr a (fun i hi => ha i (by omega)) (fun i h1 h2 => ha i (by omega)))
    · obtain ⟨c1, e1, x7, x8, x9, x10, hv2, hg, q1, q2, q3, q4⟩ := hq
      subst q1 q2 q3 q4
      refine ⟨hv2.trans ?_, _, _, hg, hK3, hC3, ⟨?_, kp_le k hu.2.1, PRs_cg (PRs_nt hu.2.2 hu.2.1 hR.1 hR.2.1) (kp_le k hu.2.1) (fun j h1 h2 => ?_)⟩, hR.2.2.2.1, ⟨rfl, by omega, g3, fun j hj => absurd hj (Nat.not_lt_zero j)⟩, hR.2.2.2.2.2⟩
      · rw [KR_m0 hK3 hC3 13 (Nat.le_refl _)]
        rfl
      · rw [kp_nt]
        rfl
      · show rowT pt.2.2.1 pt.2.2.2.1 (rowQ bm.2.2 (va_up (ntR (r 1) k) 0 (((cc - 48).toNat : Nat) : Int)) 3) 13 j = ntR (r 1) k j
        unfold rowT rowQ
        rw [if_neg (by omega), if_neg (by omega), if_neg (by omega), vu_ne _ _ (by omega)]
end
