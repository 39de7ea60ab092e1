/-! image, restore of both -/
theorem PRs_H {R : Nat → Int} {k : Nat} {H H3 : Nat → sn} (h : PRs R k H) (hk : k ≤ 6) : PRs R k (fun j => if j < 6 then H j else H3 j) := fun i hi => by
  have e : (fun j => if j < 6 then H j else H3 j) i = H i := if_pos (by omega)
  rw [e]
  exact h i hi
section
variable {A B : Nat → Nat} {h : xH}
theorem st_image (hJ : DJ A B) (hS : ST h A B) : SAME k_X7_image k_X8_image [] h A B := by
  have hS2 := hS
  obtain ⟨kt, ⟨th, fx, d, w, Y, Q⟩, s, k, H, kn, s2, k2, H2, l, T, he, la, sz, it, m, r, hW, hL, hR⟩ := hS
  have hD := DJ_nd hJ m r
  have hA := hW.1
  have hD4 : [(A 0), (A 1), (A 2), (A 3)].Nodup := nd_A hA (l := [0, 1, 2, 3]) (by decide) (by decide)
  have hD5 : [(A 0), (A 1), (A 2), (A 3), (A 52)].Nodup := nd_A hA (l := [0, 1, 2, 3, 52]) (by decide) (by decide)
  have hc1 : h (A 1) = zcE (ptE (A 2) (A 3) th fx d w) := hW.2.2.1.1
  have hc2 : h (A 2) = zcE (.inl (0, 13, .inl Y)) := hW.2.2.1.2.1
  have hc3 : h (A 3) = zcE (.inl (0, 3, .inl Q)) := hW.2.2.1.2.2
  have hcE : cEx h A th fx d Y Q := hW.2.2.2.2.2.2.2.2.1
  obtain ⟨st, al, sv, nd, sc, be, up, dn, ln, F, W, Bb, P, S, U, D, N_, G, hc4, hXr, hsv⟩ := hcE
  have hK : KR (r 1) th fx d w Y Q := hR.1
  have hC : COK th fx d w Y Q := hR.2.1
  have hk := KR_kOK hK
  have hP := hW.2.2.2.1
  have hu := hR.2.2.1
  obtain ⟨KY, KQ, p1, p2, p3, p4, p5⟩ := hW.2.2.2.2.1
  have hPk := hW.2.2.2.2.2.1
  have hDi : [(A 0), (A 1), (A 2), (A 3), (A 24), (A 25), (A 26), (A 27)].Nodup := nd_A hA (l := [0, 1, 2, 3, 24, 25, 26, 27]) (by decide) (by decide)
  have eY : ∀ j, j < 13 → va_cpy Y KY 0 0 13 j = Y j := fun j hj => cpy_lt hj
  have eQ : ∀ j, j < 3 → va_cpy Q KQ 0 0 3 j = Q j := fun j hj => cpy_lt hj
  refine same_of (z := zi 1) (kt := 1) (n := (th, fx, d, w, Y, Q)) (kn := (th, fx, d, w, va_cpy Y KY 0 0 13, va_cpy Q KQ 0 0 3)) (k2 := k) (s := s) (s2 := s2) (H2 := fun j => if j < 6 then H j else H2 j) hJ hL (zEv_up (sp_X7_image_ok hW.2.1 hc1 hc2 hc3 p1 p2 p3 hPk.2.1 hDi hA hP.1 hPk.1 hP.2 hPk.2) (fun v g hq => ?_)) (fun h2 hL2 hD2 => zEv_up (sp_X8_image_ok hL2 hD2) (fun v h3 hq => ⟨hq.1, _, _, hq.2, hR.1, hR.2.1, hR.2.2.1, Or.inr ⟨rfl, hu.1, hu.2.1, KRs_pic (KRs_cg hR.1 (fun j hj => if_pos (by omega))) ⟨rfl, rfl, rfl, rfl⟩ eY eQ, COKs_pic hR.2.1 ⟨rfl, rfl, rfl, rfl⟩ eY eQ, PRs_H (PRs_cg hu.2.2 hu.2.1 (fun j h1 h2 => if_pos h2)) hu.2.1⟩, hR.2.2.2.2⟩))
  obtain ⟨hb, hv, hg, hP1, hP2, hf⟩ := hq
  have ho : ∀ i, i < 81 → i ∉ [0, 1, 2, 3, 24, 25, 26, 27] → g (A i) = hb (A i) := fun i h1 h2 => by
    rw [hg]
    exact A_out hA [0, 1, 2, 3, 24, 25, 26, 27] rfl (by decide) h1 h2
  have hi : ∀ i, 47 ≤ i → i < 81 → g (A i) = h (A i) := fun i h1 h2 => (ho i h2 (by simp only [List.mem_cons, List.not_mem_nil, or_false]; omega)).trans (hf _ (fun j hj _ q => by have := hA i j h2 (by omega) q; omega))
  refine ⟨hv, ?_, fun a ha => ?_⟩
  · obtain ⟨h1, h2, h3, h4, h5, h6, h7, h8, h9, h10, h11, h12⟩ := hW
    refine ⟨h1, ?_, ⟨?_, ?_, ?_⟩, ⟨h4.1, PBk_cg hP2 (fun i _ q => ho i (by omega) (by simp only [List.mem_cons, List.not_mem_nil, or_false]; omega))⟩, ⟨va_cpy Y KY 0 0 13, va_cpy Q KQ 0 0 3, ?_, ?_, ?_, fun j _ => rfl, fun j _ => rfl⟩, ⟨h6.1, PBk_cg hP1 (fun i q1 q2 => ?_)⟩, cTp_cg h7 (fun i _ q => hi i (by omega) (by omega)), cDr_cg h8 (fun i _ q => hi i (by omega) (by omega)), cEx_cg h9 (fun i _ q => hi i (by omega) (by omega)), cTr_cg h10 (fun i _ q => hi i (by omega) (by omega)), cOd_cg h11 (fun i _ q => hi i (by omega) (by omega)), cSh_cg h12 (fun i _ q => hi i (by omega) (by omega))⟩
    · exact zget hg hDi 0 rfl
    · exact zget hg hDi 1 rfl
    · exact zget hg hDi 2 rfl
    · exact zget hg hDi 3 rfl
    · exact zget hg hDi 4 rfl
    · exact zget hg hDi 5 rfl
    · exact zget hg hDi 6 rfl
    · by_cases c : i = 27
      · rw [c, hP1.1]; exact zget hg hDi 7 rfl
      · exact ho i (by omega) (by simp only [List.mem_cons, List.not_mem_nil, or_false]; omega)
  · rw [hg]
    exact (KF_zov [0, 1, 2, 3, 24, 25, 26, 27] rfl (by decide) a ha).trans (hf a (fun i h1 _ => ha i (by omega)))
theorem st_restore (hJ : DJ A B) (hS : ST h A B) : SAME k_X7_restore k_X8_restore [] h A B := by
  have hS2 := hS
  obtain ⟨kt, ⟨th, fx, d, w, Y, Q⟩, s, k, H, kn, s2, k2, H2, l, T, he, la, sz, it, m, r, hW, hL, hR⟩ := hS
  have hD := DJ_nd hJ m r
  have hA := hW.1
  have hD4 : [(A 0), (A 1), (A 2), (A 3)].Nodup := nd_A hA (l := [0, 1, 2, 3]) (by decide) (by decide)
  have hD5 : [(A 0), (A 1), (A 2), (A 3), (A 52)].Nodup := nd_A hA (l := [0, 1, 2, 3, 52]) (by decide) (by decide)
  have hc1 : h (A 1) = zcE (ptE (A 2) (A 3) th fx d w) := hW.2.2.1.1
  have hc2 : h (A 2) = zcE (.inl (0, 13, .inl Y)) := hW.2.2.1.2.1
  have hc3 : h (A 3) = zcE (.inl (0, 3, .inl Q)) := hW.2.2.1.2.2
  have hcE : cEx h A th fx d Y Q := hW.2.2.2.2.2.2.2.2.1
  obtain ⟨st, al, sv, nd, sc, be, up, dn, ln, F, W, Bb, P, S, U, D, N_, G, hc4, hXr, hsv⟩ := hcE
  have hK : KR (r 1) th fx d w Y Q := hR.1
  have hC : COK th fx d w Y Q := hR.2.1
  have hk := KR_kOK hK
  have hP := hW.2.2.2.1
  have hu := hR.2.2.1
  rcases hR.2.2.2.1 with ⟨rfl, hz⟩ | ⟨rfl, hz, hk2, hKk, hCk, hPR⟩
  · exact same_id hJ hS2 (sp_X7_restore_none hW.2.1) (sp_X8_restore_none hL hD hz)
  · obtain ⟨kth, kfx, kd, kw, kY, kQ⟩ := kn
    obtain ⟨KY, KQ, p1, p2, p3, p4, p5⟩ := hW.2.2.2.2.1
    have hPk := hW.2.2.2.2.2.1
    have hDi : [(A 0), (A 1), (A 2), (A 3), (A 24), (A 25), (A 26), (A 52), (A 4)].Nodup := nd_A hA (l := [0, 1, 2, 3, 24, 25, 26, 52, 4]) (by decide) (by decide)
    have eY : ∀ j, j < 13 → va_cpy KY Y 0 0 13 j = kY j := fun j hj => (cpy_lt hj).trans (p4 j hj)
    have eQ : ∀ j, j < 3 → va_cpy KQ Q 0 0 3 j = kQ j := fun j hj => (cpy_lt hj).trans (p5 j hj)
    refine same_of (z := zi 1) (kt := 1) (n := (kth, kfx, kd, kw, va_cpy KY Y 0 0 13, va_cpy KQ Q 0 0 3)) (k := k2) (s := s) (H := fun j => if j < 6 then H2 j else H j) (kn := (kth, kfx, kd, kw, kY, kQ)) (k2 := k2) (s2 := s2) (H2 := H2) hJ hL (zEv_up (sp_X7_restore_ok hW.2.1 hc1 hc2 hc3 p1 p2 p3 hc4 hP.2.1 hDi hA hP.1 hPk.1 hP.2 hPk.2) (fun v g hq => ?_)) (fun h2 hL2 hD2 => zEv_up (sp_X8_restore_ok hL2 hD2 (by omega)) (fun v h3 hq => ⟨hq.1, _, _, hq.2, KRs_pic (KRs_cg hKk (fun j hj => if_pos (by omega))) ⟨rfl, rfl, rfl, rfl⟩ eY eQ, COKs_pic hCk ⟨rfl, rfl, rfl, rfl⟩ eY eQ, ⟨hz, hk2, PRs_H (PRs_cg hPR hk2 (fun j h1 h2 => if_pos h2)) hk2⟩, Or.inr ⟨rfl, hz, hk2, hKk, hCk, hPR⟩, hR.2.2.2.2⟩))
    obtain ⟨hb, hv, hg, hP1, hP2, hf⟩ := hq
    have ho : ∀ i, i < 81 → i ∉ [0, 1, 2, 3, 24, 25, 26, 52, 4] → g (A i) = hb (A i) := fun i h1 h2 => by
      rw [hg]
      exact A_out hA [0, 1, 2, 3, 24, 25, 26, 52, 4] rfl (by decide) h1 h2
    have hi : ∀ i, 47 ≤ i → i ≠ 52 → i < 81 → g (A i) = h (A i) := fun i h1 h3 h2 => (ho i h2 (by simp only [List.mem_cons, List.not_mem_nil, or_false]; omega)).trans (hf _ (fun j hj _ q => by have := hA i j h2 (by omega) q; omega))
    refine ⟨hv, ?_, fun a ha => ?_⟩
    · obtain ⟨h1, h2, h3, h4, h5, h6, h7, h8, h9, h10, h11, h12⟩ := hW
      refine ⟨h1, ?_, ⟨?_, ?_, ?_⟩, ⟨h4.1, PBk_cg hP1 (fun i q1 q2 => ?_)⟩, ⟨KY, KQ, ?_, ?_, ?_, p4, p5⟩, ⟨h6.1, PBk_cg hP2 (fun i q1 q2 => ho i (by omega) (by simp only [List.mem_cons, List.not_mem_nil, or_false]; omega))⟩, cTp_cg h7 (fun i _ q => hi i (by omega) (by omega) (by omega)), cDr_cg h8 (fun i _ q => hi i (by omega) (by omega) (by omega)), cEx_un (st := st) (al := al) h9 ?_ (fun i _ q => hi i (by omega) (by omega) (by omega)), cTr_cg h10 (fun i _ q => hi i (by omega) (by omega) (by omega)), cOd_cg h11 (fun i _ q => hi i (by omega) (by omega) (by omega)), cSh_cg h12 (fun i _ q => hi i (by omega) (by omega) (by omega))⟩
      · exact zget hg hDi 0 rfl
      · exact zget hg hDi 1 rfl
      · exact zget hg hDi 2 rfl
      · exact zget hg hDi 3 rfl
      · by_cases c : i = 4
        · rw [c, hP1.1]; exact zget hg hDi 8 rfl
        · exact ho i (by omega) (by simp only [List.mem_cons, List.not_mem_nil, or_false]; omega)
      · exact zget hg hDi 4 rfl
      · exact zget hg hDi 5 rfl
      · exact zget hg hDi 6 rfl
      · exact zget hg hDi 7 rfl
    · rw [hg]
      exact (KF_zov [0, 1, 2, 3, 24, 25, 26, 52, 4] rfl (by decide) a ha).trans (hf a (fun i h1 _ => ha i (by omega)))
end
