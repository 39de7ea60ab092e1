/-! seed, type, undo of both -/
theorem KF_zov {A : Nat → Nat} {h : xH} {M : zM} (ms : List Nat) (hM : M.map Prod.fst = ms.map A) (hms : ∀ j ∈ ms, j < 81) : KF (zov M h) h A := fun a ha =>
  zov_out (fun q => by
    rw [hM] at q
    obtain ⟨j, hj, e⟩ := List.mem_map.mp q
    exact ha j (hms j hj) e.symm)
section
variable {A B : Nat → Nat} {h : xH}
theorem st_seed {x : Int} (hJ : DJ A B) (hS : ST h A B) (zx : zInI x) : SAME k_X7_seed k_X8_seed [zi x] h A B := by
  have hS2 := hS
  obtain ⟨kt, ⟨th, fx, d, w, Y, Q⟩, s, k, H, kn, s2, k2, H2, l, T, he, la, sz, it, m, r, hW, hL, hR⟩ := hS
  have hD := DJ_nd hJ m r
  have hA := hW.1
  have hD4 : [(A 0), (A 1), (A 2), (A 3)].Nodup := nd_A hA (l := [0, 1, 2, 3]) (by decide) (by decide)
  have hD5 : [(A 0), (A 1), (A 2), (A 3), (A 52)].Nodup := nd_A hA (l := [0, 1, 2, 3, 52]) (by decide) (by decide)
  have hc1 : h (A 1) = zcE (ptE (A 2) (A 3) th fx d w) := hW.2.2.1.1
  have hc2 : h (A 2) = zcE (.inl (0, 13, .inl Y)) := hW.2.2.1.2.1
  have hc3 : h (A 3) = zcE (.inl (0, 3, .inl Q)) := hW.2.2.1.2.2
  have hcE : cEx h A th fx d Y Q := hW.2.2.2.2.2.2.2.2.1
  obtain ⟨st, al, sv, nd, sc, be, up, dn, ln, F, W, Bb, P, S, U, D, N_, G, hc4, hXr, hsv⟩ := hcE
  have hK : KR (r 1) th fx d w Y Q := hR.1
  have hC : COK th fx d w Y Q := hR.2.1
  have hk := KR_kOK hK
  have hP := hW.2.2.2.1
  have hu := hR.2.2.1
  by_cases hx : x < 0
  · exact same_id hJ hS2 (sp_X7_seed_bad zx hx) (sp_X8_seed_bad hL hD zx hx)
  · obtain ⟨b, rfl⟩ := Int.eq_ofNat_of_zero_le (show 0 ≤ x by omega)
    have hb : b < 2147483648 := by
      have := zx.2
      omega
    have hK3 : KR (va_up (r 1) 4 (b : Int)) th fx d b Y Q := by
      obtain ⟨h1, h2, h3, ⟨h4, h5, h6⟩, h7, h8⟩ := hK
      exact ⟨fun q hq => by rw [vu_ne _ _ (by omega)]; exact h1 q hq, fun q hq hb => by rw [vu_ne _ _ (by omega)]; exact h2 q hq hb, fun q hq => by rw [vu_ne _ _ (by omega)]; exact h3 q hq, ⟨by rw [vu_ne _ _ (by omega)]; exact h4, by rw [vu_ne _ _ (by omega)]; exact h5, by rw [vu_ne _ _ (by omega)]; exact h6⟩, by rw [vu_ne _ _ (by omega)]; exact h7, vu_same _ _ _⟩
    have hC3 : COK th fx d b Y Q := ⟨hC.1, hC.2.1, hC.2.2.1, hb, hC.2.2.2.2⟩
    refine same_of (z := zi (w : Int)) (n := (th, fx, d, b, Y, Q)) (s := s) (s2 := s2) hJ hL (zEv_up (sp_X7_seed_ok hW.2.1 hc1 hc2 hc3 hD4 hb) (fun v g hq => ⟨hq.1, ?_, ?_⟩)) (fun h2 hL2 hD2 => zEv_up (sp_X8_seed_ok hL2 hD2 zx (by omega)) (fun v h3 hq => ⟨hq.1.trans (by rw [hK.2.2.2.2.2]), m, _, hq.2, hK3, hC3, ⟨hu.1, hu.2.1, PRs_cg hu.2.2 hu.2.1 (fun j h1 h2 => vu_ne _ _ (by omega))⟩, hR.2.2.2⟩))
    · have hg := hq.2
      have ho : ∀ i, i < 81 → i ∉ [0, 1, 2, 3] → g (A i) = h (A i) := fun i h1 h2 => by
        rw [hg]
        exact A_out hA [0, 1, 2, 3] rfl (by decide) h1 h2
      have ho2 : ∀ i, 4 ≤ i → i < 81 → g (A i) = h (A i) := fun i h1 h2 => ho i h2 (by simp only [List.mem_cons, List.not_mem_nil, or_false]; omega)
      obtain ⟨h1, h2, h3, h4, h5, h6, h7, h8, h9, h10, h11, h12⟩ := hW
      refine ⟨h1, ?_, ⟨?_, ?_, ?_⟩, ⟨h4.1, PBk_cg h4.2 (fun i _ q => ho2 i (by omega) (by omega))⟩, kn_cg h5 (fun i _ q => ho2 i (by omega) (by omega)), ⟨h6.1, PBk_cg h6.2 (fun i _ q => ho2 i (by omega) (by omega))⟩, cTp_cg h7 (fun i _ q => ho2 i (by omega) (by omega)), cDr_cg h8 (fun i _ q => ho2 i (by omega) (by omega)), cEx_cg h9 (fun i _ q => ho2 i (by omega) (by omega)), cTr_cg h10 (fun i _ q => ho2 i (by omega) (by omega)), cOd_cg h11 (fun i _ q => ho2 i (by omega) (by omega)), cSh_cg h12 (fun i _ q => ho2 i (by omega) (by omega))⟩
      · exact zget hg hD4 0 rfl
      · exact zget hg hD4 1 rfl
      · exact zget hg hD4 2 rfl
      · exact zget hg hD4 3 rfl
    · rw [hq.2]
      exact KF_zov [0, 1, 2, 3] rfl (by decide)
theorem st_type {x : Int} (hJ : DJ A B) (hS : ST h A B) (zx : zInI x) : SAME k_X7_type k_X8_type [zi x] h A B := by
  have hS2 := hS
  obtain ⟨kt, ⟨th, fx, d, w, Y, Q⟩, s, k, H, kn, s2, k2, H2, l, T, he, la, sz, it, m, r, hW, hL, hR⟩ := hS
  have hD := DJ_nd hJ m r
  have hA := hW.1
  have hD4 : [(A 0), (A 1), (A 2), (A 3)].Nodup := nd_A hA (l := [0, 1, 2, 3]) (by decide) (by decide)
  have hD5 : [(A 0), (A 1), (A 2), (A 3), (A 52)].Nodup := nd_A hA (l := [0, 1, 2, 3, 52]) (by decide) (by decide)
  have hc1 : h (A 1) = zcE (ptE (A 2) (A 3) th fx d w) := hW.2.2.1.1
  have hc2 : h (A 2) = zcE (.inl (0, 13, .inl Y)) := hW.2.2.1.2.1
  have hc3 : h (A 3) = zcE (.inl (0, 3, .inl Q)) := hW.2.2.1.2.2
  have hcE : cEx h A th fx d Y Q := hW.2.2.2.2.2.2.2.2.1
  obtain ⟨st, al, sv, nd, sc, be, up, dn, ln, F, W, Bb, P, S, U, D, N_, G, hc4, hXr, hsv⟩ := hcE
  have hK : KR (r 1) th fx d w Y Q := hR.1
  have hC : COK th fx d w Y Q := hR.2.1
  have hk := KR_kOK hK
  have hP := hW.2.2.2.1
  have hu := hR.2.2.1
  obtain ⟨fl, at_, nu, na_, ht1, ht2⟩ := hW.2.2.2.2.2.2.1
  obtain ⟨g1, g2, g3, g4⟩ := hR.2.2.2.2.1
  have hDt : [(A 0), (A 47), (A 48)].Nodup := nd_A hA (l := [0, 47, 48]) (by decide) (by decide)
  by_cases hx : 32 ≤ x ∧ x ≤ 126
  · by_cases e : l = 90
    · subst e
      exact same_id hJ hS2 (sp_X7_type_full hW.2.1 ht1 (nd_A hA (l := [0, 47]) (by decide) (by decide)) hx) (sp_X8_type_full hL hD hx g1)
    · have hl : l < 90 := by omega
      refine same_of (z := zi ((l : Int) + 1)) (n := (th, fx, d, w, Y, Q)) (s := s) (s2 := s2) (l := l + 1) (T := va_up T l x) hJ hL (zEv_up (sp_X7_type_ok hW.2.1 ht1 ht2 hDt hx hl) (fun v g hq => ⟨hq.1, ?_, ?_⟩)) (fun h2 hL2 hD2 => zEv_up (sp_X8_type_ok hL2 hD2 hx g1 hl) (fun v h3 hq => ⟨hq.1, _, _, hq.2, hR.1, hR.2.1, hR.2.2.1, hR.2.2.2.1, ⟨by rw [vu_same]; omega, by omega, by show va_up (r 3) l x = va_up T l x; rw [g3], fun j hj => ?_⟩, hR.2.2.2.2.2⟩))
      · have hg := hq.2
        have ho : ∀ i, i < 81 → i ∉ [0, 47, 48] → g (A i) = h (A i) := fun i h1 h2 => by
          rw [hg]
          exact A_out hA [0, 47, 48] rfl (by decide) h1 h2
        have ho2 : ∀ i, i ≠ 0 → i ≠ 47 → i ≠ 48 → i < 81 → g (A i) = h (A i) := fun i h1 h2 h3 h4 => ho i h4 (by simp only [List.mem_cons, List.not_mem_nil, or_false]; omega)
        obtain ⟨h1, h2, h3, h4, h5, h6, h7, h8, h9, h10, h11, h12⟩ := hW
        refine ⟨h1, ?_, cN_cg h3 (fun i _ q => ho2 i (by omega) (by omega) (by omega) (by omega)), ⟨h4.1, PBk_cg h4.2 (fun i _ q => ho2 i (by omega) (by omega) (by omega) (by omega))⟩, kn_cg h5 (fun i _ q => ho2 i (by omega) (by omega) (by omega) (by omega)), ⟨h6.1, PBk_cg h6.2 (fun i _ q => ho2 i (by omega) (by omega) (by omega) (by omega))⟩, ⟨fl, at_, nu, na_, ?_, ?_⟩, cDr_cg h8 (fun i _ q => ho2 i (by omega) (by omega) (by omega) (by omega)), cEx_cg h9 (fun i _ q => ho2 i (by omega) (by omega) (by omega) (by omega)), cTr_cg h10 (fun i _ q => ho2 i (by omega) (by omega) (by omega) (by omega)), cOd_cg h11 (fun i _ q => ho2 i (by omega) (by omega) (by omega) (by omega)), cSh_cg h12 (fun i _ q => ho2 i (by omega) (by omega) (by omega) (by omega))⟩
        · exact zget hg hDt 0 rfl
        · exact zget hg hDt 1 rfl
        · exact zget hg hDt 2 rfl
      · rw [hq.2]
        exact KF_zov [0, 47, 48] rfl (by decide)
      · show 32 ≤ va_up T l x j ∧ va_up T l x j ≤ 126
        by_cases c : j = l
        · rw [c, vu_same]
          exact hx
        · rw [vu_ne _ _ c]
          exact g4 j (by omega)
  · exact same_id hJ hS2 (sp_X7_type_bad zx hx) (sp_X8_type_bad hL hD zx hx)
theorem ri_lt (s i : Nat) : 6 ≤ ri 4 s i ∧ ri 4 s i < 22 := by
  unfold ri
  omega
theorem ri_nd (s k : Nat) : ∀ e, e = ri 4 s k → [0, 1, 2, 3, 52, 4, 5, e, e + 1, e + 2].Nodup := fun e he => by
  have := ri_lt s k
  simp only [List.nodup_cons, List.mem_cons, List.not_mem_nil, or_false, not_false_eq_true, List.nodup_nil, and_true]
  omega
theorem KRs_pic {R : Nat → Int} {th fx d w : Nat} {Y Q : Nat → Int} {n : sn} (h : KRs R n) (e1 : n.1 = th ∧ n.2.1 = fx ∧ n.2.2.1 = d ∧ n.2.2.2.1 = w) (e2 : ∀ j, j < 13 → Y j = n.2.2.2.2.1 j) (e3 : ∀ j, j < 3 → Q j = n.2.2.2.2.2 j) : KRs R (th, fx, d, w, Y, Q) := by
  obtain ⟨h1, h2, h3, ⟨h4, h5, h6⟩, h7, h8⟩ := h
  obtain ⟨rfl, rfl, rfl, rfl⟩ := e1
  exact ⟨h1, fun p hp hb => (h2 p hp hb).trans (e2 p hp).symm, h3, ⟨h4.trans (e3 0 (by decide)).symm, h5.trans (e3 1 (by decide)).symm, h6.trans (e3 2 (by decide)).symm⟩, h7, h8⟩
theorem COKs_pic {th fx d w : Nat} {Y Q : Nat → Int} {n : sn} (h : COKs n) (e1 : n.1 = th ∧ n.2.1 = fx ∧ n.2.2.1 = d ∧ n.2.2.2.1 = w) (e2 : ∀ j, j < 13 → Y j = n.2.2.2.2.1 j) (e3 : ∀ j, j < 3 → Q j = n.2.2.2.2.2 j) : COKs (th, fx, d, w, Y, Q) := by
  obtain ⟨h1, h2, h3, h4, h5, h6, h7, h8, h9, h10, h11⟩ := h
  obtain ⟨rfl, rfl, rfl, rfl⟩ := e1
  exact ⟨h1, h2, h3, h4, h5, h6, h7, fun p hp => by show -99 ≤ Y p ∧ Y p ≤ 99; rw [e2 p hp]; exact h8 p hp, by show -3 ≤ Q 0 ∧ Q 0 ≤ 3; rw [e3 0 (by decide)]; exact h9, by show -3 ≤ Q 1 ∧ Q 1 ≤ 3; rw [e3 1 (by decide)]; exact h10, by show -3 ≤ Q 2 ∧ Q 2 ≤ 3; rw [e3 2 (by decide)]; exact h11⟩
theorem st_undo (hJ : DJ A B) (hS : ST h A B) : SAME k_X7_undo k_X8_undo [] h A B := by
  have hS2 := hS
  obtain ⟨kt, ⟨th, fx, d, w, Y, Q⟩, s, k, H, kn, s2, k2, H2, l, T, he, la, sz, it, m, r, hW, hL, hR⟩ := hS
  have hD := DJ_nd hJ m r
  have hA := hW.1
  have hD4 : [(A 0), (A 1), (A 2), (A 3)].Nodup := nd_A hA (l := [0, 1, 2, 3]) (by decide) (by decide)
  have hD5 : [(A 0), (A 1), (A 2), (A 3), (A 52)].Nodup := nd_A hA (l := [0, 1, 2, 3, 52]) (by decide) (by decide)
  have hc1 : h (A 1) = zcE (ptE (A 2) (A 3) th fx d w) := hW.2.2.1.1
  have hc2 : h (A 2) = zcE (.inl (0, 13, .inl Y)) := hW.2.2.1.2.1
  have hc3 : h (A 3) = zcE (.inl (0, 3, .inl Q)) := hW.2.2.1.2.2
  have hcE : cEx h A th fx d Y Q := hW.2.2.2.2.2.2.2.2.1
  obtain ⟨st, al, sv, nd, sc, be, up, dn, ln, F, W, Bb, P, S, U, D, N_, G, hc4, hXr, hsv⟩ := hcE
  have hK : KR (r 1) th fx d w Y Q := hR.1
  have hC : COK th fx d w Y Q := hR.2.1
  have hk := KR_kOK hK
  have hP := hW.2.2.2.1
  have hu := hR.2.2.1
  by_cases e : k = 0
  · subst e
    exact same_id hJ hS2 (sp_X7_undo_none hW.2.1 hP.2.1 (nd_A hA (l := [0, 4]) (by decide) (by decide))) (sp_X8_undo_none hL hD hu.1)
  · obtain ⟨u, rfl⟩ : ∃ u, k = u + 1 := ⟨k - 1, by omega⟩
    have hu6 : u < 6 := by omega
    obtain ⟨p1, ⟨f, p2, p3⟩, p4⟩ := hP.2
    obtain ⟨Y1, Q1, q1, q2, q3, q4, q5⟩ := p4 u hu6
    have hri := ri_lt s u
    have hDu : [(A 0), (A 1), (A 2), (A 3), (A 52), (A 4), (A 5), A (ri 4 s u), A (ri 4 s u + 1), A (ri 4 s u + 2)].Nodup := nd_A hA (l := [0, 1, 2, 3, 52, 4, 5, ri 4 s u, ri 4 s u + 1, ri 4 s u + 2]) (by simp only [List.mem_cons, List.not_mem_nil, or_false]; omega) (ri_nd s u _ rfl)
    have hpu := hu.2.2 u (Nat.lt_succ_self u)
    have eY : ∀ j, j < 13 → va_cpy Y1 Y 0 0 13 j = (H u).2.2.2.2.1 j := fun j hj => (cpy_lt hj).trans (q4 j hj)
    have eQ : ∀ j, j < 3 → va_cpy Q1 Q 0 0 3 j = (H u).2.2.2.2.2 j := fun j hj => (cpy_lt hj).trans (q5 j hj)
    refine same_of (z := zi (u : Int)) (n := ((H u).1, (H u).2.1, (H u).2.2.1, (H u).2.2.2.1, va_cpy Y1 Y 0 0 13, va_cpy Q1 Q 0 0 3)) (k := u) (s := s) (H := H) (s2 := s2) hJ hL (zEv_up (sp_X7_undo_ok (k := u) hW.2.1 hc1 hc2 hc3 hc4 p1 p2 q1 q2 q3 hDu hu6 (p3 u hu6)) (fun v g hq => ⟨hq.1, ?_, ?_⟩)) (fun h2 hL2 hD2 => zEv_up (sp_X8_undo_ok hL2 hD2 hu.1 hu6) (fun v h3 hq => ⟨hq.1, _, _, hq.2, KRs_pic (KRs_cg hpu.1 (fun j hj => ?_)) ⟨rfl, rfl, rfl, rfl⟩ eY eQ, COKs_pic hpu.2 ⟨rfl, rfl, rfl, rfl⟩ eY eQ, ⟨rfl, by omega, PRs_cg (fun i hi => hu.2.2 i (by omega)) (by omega) (fun j h1 h2 => ?_)⟩, hR.2.2.2⟩))
    · have hg := hq.2
      have ho : ∀ i, i < 81 → i ∉ [0, 1, 2, 3, 52, 4, 5, ri 4 s u, ri 4 s u + 1, ri 4 s u + 2] → g (A i) = h (A i) := fun i h1 h2 => by
        rw [hg]
        exact A_out hA [0, 1, 2, 3, 52, 4, 5, ri 4 s u, ri 4 s u + 1, ri 4 s u + 2] rfl (by simp only [List.mem_cons, List.not_mem_nil, or_false]; omega) h1 h2
      refine CW_now hW (st := st) (al := al) (n3 := ((H u).1, (H u).2.1, (H u).2.2.1, (H u).2.2.2.1, va_cpy Y1 Y 0 0 13, va_cpy Q1 Q 0 0 3)) ?_ ⟨?_, ?_, ?_⟩ ⟨hP.1, ?_⟩ ?_ (fun i h1 h2 h3 => ho i h3 (by simp only [List.mem_cons, List.not_mem_nil, or_false]; omega))
      · exact zget hg hDu 0 rfl
      · exact zget hg hDu 1 rfl
      · exact zget hg hDu 2 rfl
      · exact zget hg hDu 3 rfl
      · have hge : ∀ i, 6 ≤ i → i < 24 → g (A i) = h (A i) := fun i h1 h2 => by
          by_cases c : i ∈ [0, 1, 2, 3, 52, 4, 5, ri 4 s u, ri 4 s u + 1, ri 4 s u + 2]
          · simp only [List.mem_cons, List.not_mem_nil, or_false] at c
            rcases (show i = ri 4 s u ∨ i = ri 4 s u + 1 ∨ i = ri 4 s u + 2 by omega) with rfl | rfl | rfl
            · rw [q1]; exact zget hg hDu 7 rfl
            · rw [q2]; exact zget hg hDu 8 rfl
            · rw [q3]; exact zget hg hDu 9 rfl
          · exact ho i (by omega) c
        refine ⟨zget hg hDu 5 rfl, ⟨f, zget hg hDu 6 rfl, p3⟩, fun i hi => ?_⟩
        have hri2 : 6 ≤ ri 4 s i ∧ ri 4 s i < 22 := ri_lt s i
        exact PT_congr (p4 i hi) (hge _ (by omega) (by omega)) (hge _ (by omega) (by omega)) (hge _ (by omega) (by omega))
      · exact zget hg hDu 4 rfl
    · rw [hq.2]
      exact KF_zov [0, 1, 2, 3, 52, 4, 5, ri 4 s u, ri 4 s u + 1, ri 4 s u + 2] rfl (by simp only [List.mem_cons, List.not_mem_nil, or_false]; omega)
    · show unR (r 1) u 31 j = r 1 (31 + 31 * u + j)
      unfold unR
      rw [if_pos hj]
    · show unR (r 1) u 31 j = r 1 j
      unfold unR
      rw [if_neg (by omega)]
end
