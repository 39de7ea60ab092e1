/-! film, sheet, drop, item, copy of both: the calls -/
section
variable {A B : Nat → Nat} {h : xH}
theorem adr_ne {A : Nat → Nat} (hA : AI A) {i j : Nat} (hi : i < 81) (hj : j < 81) (h : i ≠ j) : A i ≠ A j := fun q => h (hA i j hi hj q)
theorem st_sheet {x y z : Int} (hJ : DJ A B) (hS : ST h A B) (zx : zInI x) (zy : zInI y) (zz : zInI z) : SAME k_X7_sheet k_X8_sheet [zi x, zi y, zi z] h A B := by
  have hS2 := hS
  obtain ⟨kt, ⟨th, fx, d, w, Y, Q⟩, s, k, H, kn, s2, k2, H2, l, T, he, la, sz, it, m, r, hW, hL, hR⟩ := hS
  have hD := DJ_nd hJ m r
  have hA := hW.1
  have hD4 : [(A 0), (A 1), (A 2), (A 3)].Nodup := nd_A hA (l := [0, 1, 2, 3]) (by decide) (by decide)
  have hD5 : [(A 0), (A 1), (A 2), (A 3), (A 52)].Nodup := nd_A hA (l := [0, 1, 2, 3, 52]) (by decide) (by decide)
  have hc1 : h (A 1) = zcE (ptE (A 2) (A 3) th fx d w) := hW.2.2.1.1
  have hc2 : h (A 2) = zcE (.inl (0, 13, .inl Y)) := hW.2.2.1.2.1
  have hc3 : h (A 3) = zcE (.inl (0, 3, .inl Q)) := hW.2.2.1.2.2
  have hcE : cEx h A th fx d Y Q := hW.2.2.2.2.2.2.2.2.1
  obtain ⟨st, al, sv, nd, sc, be, up, dn, ln, F, W, Bb, P, S, U, D, N_, G, hc4, hXr, hsv⟩ := hcE
  have hK : KR (r 1) th fx d w Y Q := hR.1
  have hC : COK th fx d w Y Q := hR.2.1
  have hk := KR_kOK hK
  have hP := hW.2.2.2.1
  have hu := hR.2.2.1
  obtain ⟨⟨f, f1, f2⟩, f3⟩ := hW.2.2.2.2.2.2.2.2.2.2.2
  have hSH := hR.2.2.2.2.2.1
  have hZL := hR.2.2.2.2.2.2
  by_cases hx : 0 ≤ x ∧ x ≤ 3
  · by_cases hy : 0 ≤ y ∧ y ≤ 3
    · by_cases hz : 24 < z
      · exact same_id hJ hS2 (sp_X7_sheet_bad zx zy zz (Or.inr (Or.inr hz))) (sp_X8_sheet_bad hL hD zx zy zz (Or.inr (Or.inr hz)))
      · by_cases hz2 : z < 0
        · exact same_id hJ hS2 (sp_X7_sheet_size hx hy zz hz2) (sp_X8_sheet_size hL hD hx hy zz hz2)
        · obtain ⟨x, rfl⟩ := Int.eq_ofNat_of_zero_le hx.1
          have hx4 : x < 4 := by omega
          have hs := hSH x hx4
          have hDs : [(A 0), (A 72), A (73 + 2 * x), A (74 + 2 * x)].Nodup := nd_A hA (l := [0, 72, 73 + 2 * x, 74 + 2 * x]) (by simp only [List.mem_cons, List.not_mem_nil, or_false]; omega) (by simp only [List.nodup_cons, List.mem_cons, List.not_mem_nil, or_false, not_false_eq_true, List.nodup_nil, and_true]; omega)
          refine same_of (z := zi z) (n := (th, fx, d, w, Y, Q)) hJ hL (zEv_up (sp_X7_sheet_ok hW.2.1 f1 (f3 x hx4).1 (f3 x hx4).2 hDs hx4 (f2 x hx4) hy (by omega)) (fun v g hq => ⟨hq.1, CW_sheet hW hx4 (he3 := 1) (la3 := y) (sz3 := z) (it3 := cpF zF (it x) 24) ?_ ?_ (fun i h1 h2 h3 => ?_), ?_⟩)) (fun h2 hL2 hD2 => zEv_up (sp_X8_sheet_ok hL2 hD2 hx4 hy (by omega)) (fun v h3 hq => ⟨hq.1, _, _, hq.2, hR.1, hR.2.1, hR.2.2.1, hR.2.2.2.1, hR.2.2.2.2.1, SHs_up hSH hx4 hy (by omega) (Or.inr ⟨rfl, vu_same _ _ _⟩) (vu_same _ _ _) (fun b h1 h2 => ⟨vu_ne _ _ h2, vu_ne _ _ h2⟩) (fun b h1 i hi => ?_), ZLs_up hZL (fun i hi => ?_)⟩))
          · exact zget hq.2 hDs 2 rfl
          · exact zget hq.2 hDs 3 rfl
          · rw [hq.2]
            refine zov_eq hDs (List.forall_mem_cons.mpr ⟨fun e => e ▸ hW.2.1, List.forall_mem_cons.mpr ⟨fun e => e ▸ f1, List.forall_mem_cons.mpr ⟨fun e => absurd e.symm (adr_ne hA h1 (by omega) h2), List.forall_mem_cons.mpr ⟨fun e => absurd e.symm (adr_ne hA h1 (by omega) h3), fun _ q => absurd q List.not_mem_nil⟩⟩⟩⟩)
          · rw [hq.2]
            exact KF_zov [0, 72, 73 + 2 * x, 74 + 2 * x] rfl (by simp only [List.mem_cons, List.not_mem_nil, or_false]; omega)
          · show zrF (r 6) (24 * x) 24 (24 * b + i) = if b = x then cpF zF (it x) 24 i else r 6 (24 * b + i)
            unfold zrF cpF
            by_cases e : b = x
            · rw [if_pos e, if_pos hi, if_pos (by omega)]
              rfl
            · rw [if_neg e, if_neg (by omega)]
          · show zInL (cpF zF (it x) 24 i)
            unfold cpF
            rw [if_pos hi]
            exact ⟨show (-9223372036854775808 : Int) ≤ 0 by decide, show (0 : Int) ≤ 9223372036854775807 by decide⟩
    · exact same_id hJ hS2 (sp_X7_sheet_bad zx zy zz (Or.inr (Or.inl hy))) (sp_X8_sheet_bad hL hD zx zy zz (Or.inr (Or.inl hy)))
  · exact same_id hJ hS2 (sp_X7_sheet_bad zx zy zz (Or.inl hx)) (sp_X8_sheet_bad hL hD zx zy zz (Or.inl hx))
theorem st_drop {x : Int} (hJ : DJ A B) (hS : ST h A B) (zx : zInI x) : SAME k_X7_drop k_X8_drop [zi x] h A B := by
  have hS2 := hS
  obtain ⟨kt, ⟨th, fx, d, w, Y, Q⟩, s, k, H, kn, s2, k2, H2, l, T, he, la, sz, it, m, r, hW, hL, hR⟩ := hS
  have hD := DJ_nd hJ m r
  have hA := hW.1
  have hD4 : [(A 0), (A 1), (A 2), (A 3)].Nodup := nd_A hA (l := [0, 1, 2, 3]) (by decide) (by decide)
  have hD5 : [(A 0), (A 1), (A 2), (A 3), (A 52)].Nodup := nd_A hA (l := [0, 1, 2, 3, 52]) (by decide) (by decide)
  have hc1 : h (A 1) = zcE (ptE (A 2) (A 3) th fx d w) := hW.2.2.1.1
  have hc2 : h (A 2) = zcE (.inl (0, 13, .inl Y)) := hW.2.2.1.2.1
  have hc3 : h (A 3) = zcE (.inl (0, 3, .inl Q)) := hW.2.2.1.2.2
  have hcE : cEx h A th fx d Y Q := hW.2.2.2.2.2.2.2.2.1
  obtain ⟨st, al, sv, nd, sc, be, up, dn, ln, F, W, Bb, P, S, U, D, N_, G, hc4, hXr, hsv⟩ := hcE
  have hK : KR (r 1) th fx d w Y Q := hR.1
  have hC : COK th fx d w Y Q := hR.2.1
  have hk := KR_kOK hK
  have hP := hW.2.2.2.1
  have hu := hR.2.2.1
  obtain ⟨⟨f, f1, f2⟩, f3⟩ := hW.2.2.2.2.2.2.2.2.2.2.2
  have hSH := hR.2.2.2.2.2.1
  have hZL := hR.2.2.2.2.2.2
  by_cases hx : 0 ≤ x ∧ x ≤ 3
  · obtain ⟨x, rfl⟩ := Int.eq_ofNat_of_zero_le hx.1
    have hx4 : x < 4 := by omega
    have hs := hSH x hx4
    have hDs : [(A 0), (A 72), A (73 + 2 * x)].Nodup := nd_A hA (l := [0, 72, 73 + 2 * x]) (by simp only [List.mem_cons, List.not_mem_nil, or_false]; omega) (by simp only [List.nodup_cons, List.mem_cons, List.not_mem_nil, or_false, not_false_eq_true, List.nodup_nil, and_true]; omega)
    have hc := (f3 x hx4).1
    rcases hs.2.2.1 with h0 | h0
    · rw [h0.1] at hc
      exact same_id hJ hS2 (sp_X7_drop_null hW.2.1 f1 hc hDs hx4 (f2 x hx4)) (sp_X8_drop_null hL hD hx4 (by omega) (by omega))
    · rw [h0.1] at hc
      refine same_of (z := zi (sz x)) (n := (th, fx, d, w, Y, Q)) hJ hL (zEv_up (sp_X7_drop_ok hW.2.1 f1 hc hDs hx4 (f2 x hx4)) (fun v g hq => ⟨hq.1, CW_sheet hW hx4 (he3 := 0) (la3 := la x) (sz3 := sz x) (it3 := it x) ?_ ?_ (fun i h1 h2 h3 => ?_), ?_⟩)) (fun h2 hL2 hD2 => zEv_up (sp_X8_drop_ok hL2 hD2 hx4 (by omega) (by omega)) (fun v h3 hq => ⟨hq.1.trans (by rw [hs.2.2.2.1]), _, _, hq.2, hR.1, hR.2.1, hR.2.2.1, hR.2.2.2.1, hR.2.2.2.2.1, SHs_up hSH hx4 hs.1 hs.2.1 (Or.inl ⟨rfl, by show -4 ≤ va_up (r 4) x (-4) x; rw [vu_same]; omega, by show va_up (r 4) x (-4) x < 0; rw [vu_same]; omega⟩) hs.2.2.2.1 (fun b h1 h2 => ⟨vu_ne _ _ h2, rfl⟩) (fun b h1 i hi => ?_), ZLs_up hZL (hZL x hx4)⟩))
      · exact zget hq.2 hDs 2 rfl
      · rw [hq.2, zov_out (fun q => ?_)]
        · exact (f3 x hx4).2
        · have q2 : A (74 + 2 * x) ∈ [A 0, A 72, A (73 + 2 * x)] := q
          simp only [List.mem_cons, List.not_mem_nil, or_false] at q2
          rcases q2 with q2 | q2 | q2
          · exact adr_ne hA (by omega) (by omega) (by omega) q2
          · exact adr_ne hA (by omega) (by omega) (by omega) q2
          · exact adr_ne hA (by omega) (by omega) (by omega) q2
      · rw [hq.2]
        refine zov_eq hDs (List.forall_mem_cons.mpr ⟨fun e => e ▸ hW.2.1, List.forall_mem_cons.mpr ⟨fun e => e ▸ f1, List.forall_mem_cons.mpr ⟨fun e => absurd e.symm (adr_ne hA h1 (by omega) h2), fun _ q => absurd q List.not_mem_nil⟩⟩⟩)
      · rw [hq.2]
        exact KF_zov [0, 72, 73 + 2 * x] rfl (by simp only [List.mem_cons, List.not_mem_nil, or_false]; omega)
      · by_cases e : b = x
        · rw [if_pos e, e]
          exact hs.2.2.2.2 i hi
        · rw [if_neg e]
          rfl
  · exact same_id hJ hS2 (sp_X7_drop_bad zx hx) (sp_X8_drop_bad hL hD zx hx)
theorem st_item {x y i z : Int} (hJ : DJ A B) (hS : ST h A B) (zx : zInI x) (zy : zInI y) (zi_ : zInI i) (zz : zInL z) : SAME k_X7_item k_X8_item [zi x, zi y, zi i, zj z] h A B := by
  have hS2 := hS
  obtain ⟨kt, ⟨th, fx, d, w, Y, Q⟩, s, k, H, kn, s2, k2, H2, l, T, he, la, sz, it, m, r, hW, hL, hR⟩ := hS
  have hD := DJ_nd hJ m r
  have hA := hW.1
  have hD4 : [(A 0), (A 1), (A 2), (A 3)].Nodup := nd_A hA (l := [0, 1, 2, 3]) (by decide) (by decide)
  have hD5 : [(A 0), (A 1), (A 2), (A 3), (A 52)].Nodup := nd_A hA (l := [0, 1, 2, 3, 52]) (by decide) (by decide)
  have hc1 : h (A 1) = zcE (ptE (A 2) (A 3) th fx d w) := hW.2.2.1.1
  have hc2 : h (A 2) = zcE (.inl (0, 13, .inl Y)) := hW.2.2.1.2.1
  have hc3 : h (A 3) = zcE (.inl (0, 3, .inl Q)) := hW.2.2.1.2.2
  have hcE : cEx h A th fx d Y Q := hW.2.2.2.2.2.2.2.2.1
  obtain ⟨st, al, sv, nd, sc, be, up, dn, ln, F, W, Bb, P, S, U, D, N_, G, hc4, hXr, hsv⟩ := hcE
  have hK : KR (r 1) th fx d w Y Q := hR.1
  have hC : COK th fx d w Y Q := hR.2.1
  have hk := KR_kOK hK
  have hP := hW.2.2.2.1
  have hu := hR.2.2.1
  obtain ⟨⟨f, f1, f2⟩, f3⟩ := hW.2.2.2.2.2.2.2.2.2.2.2
  have hSH := hR.2.2.2.2.2.1
  have hZL := hR.2.2.2.2.2.2
  by_cases hx : 0 ≤ x ∧ x ≤ 3
  · by_cases hy : 0 ≤ y ∧ y ≤ 3
    · obtain ⟨x, rfl⟩ := Int.eq_ofNat_of_zero_le hx.1
      have hx4 : x < 4 := by omega
      have hs := hSH x hx4
      have hDs : [(A 0), (A 72), A (73 + 2 * x)].Nodup := nd_A hA (l := [0, 72, 73 + 2 * x]) (by simp only [List.mem_cons, List.not_mem_nil, or_false]; omega) (by simp only [List.nodup_cons, List.mem_cons, List.not_mem_nil, or_false, not_false_eq_true, List.nodup_nil, and_true]; omega)
      have hDt : [(A 0), (A 72), A (73 + 2 * x), A (74 + 2 * x)].Nodup := nd_A hA (l := [0, 72, 73 + 2 * x, 74 + 2 * x]) (by simp only [List.mem_cons, List.not_mem_nil, or_false]; omega) (by simp only [List.nodup_cons, List.mem_cons, List.not_mem_nil, or_false, not_false_eq_true, List.nodup_nil, and_true]; omega)
      have hhe : he x = 0 ∨ he x = 1 := by omega
      have hm := mach_rf (f := r 4 x) (g := r 5 x) (he := he x) (la := la x) (sz := sz x) (l := y) (i := i) (n := 1) hs.2.1.1 hs.2.2.1 hs.1.1 hs.2.2.2.1
      by_cases e : rfV (he x) (la x) (sz x) y i 1 = 0
      · have e2 := rfV_c (he x) (la x) (sz x) y i 1
        have e3 := rcV_c (sz x) i 1
        have hb : he x ≠ 0 ∧ la x = y ∧ i < sz x ∧ 0 ≤ i := by omega
        obtain ⟨i, rfl⟩ := Int.eq_ofNat_of_zero_le hb.2.2.2
        refine same_of (z := zi 1) (n := (th, fx, d, w, Y, Q)) hJ hL (zEv_up (sp_X7_item_ok hW.2.1 f1 (f3 x hx4).1 (f3 x hx4).2 hDt hx4 (f2 x hx4) hhe hs.1 hs.2.1 hy ⟨hb.1, hb.2.1, hb.2.2.1⟩) (fun v g hq => ⟨hq.1, CW_sheet hW hx4 (he3 := he x) (la3 := la x) (sz3 := sz x) (it3 := va_up (it x) i (castV (la x) z)) ?_ ?_ (fun i h1 h2 h3 => ?_), ?_⟩)) (fun h2 hL2 hD2 => zEv_up (sp_X8_item_ok hL2 hD2 hx4 hy (by omega) (by omega) (hm.trans e) (by omega)) (fun v h3 hq => ⟨hq.1, _, _, hq.2, hR.1, hR.2.1, hR.2.2.1, hR.2.2.2.1, hR.2.2.2.2.1, SHs_up hSH hx4 hs.1 hs.2.1 hs.2.2.1 hs.2.2.2.1 (fun b h1 h2 => ⟨rfl, rfl⟩) (fun b h1 j hj => ?_), ZLs_up hZL (fun j hj => ?_)⟩))
        · exact zget hq.2 hDt 2 rfl
        · exact zget hq.2 hDt 3 rfl
        · rw [hq.2]
          refine zov_eq hDt (List.forall_mem_cons.mpr ⟨fun e => e ▸ hW.2.1, List.forall_mem_cons.mpr ⟨fun e => e ▸ f1, List.forall_mem_cons.mpr ⟨fun e => absurd e.symm (adr_ne hA h1 (by omega) h2), List.forall_mem_cons.mpr ⟨fun e => absurd e.symm (adr_ne hA h1 (by omega) h3), fun _ q => absurd q List.not_mem_nil⟩⟩⟩⟩)
        · rw [hq.2]
          exact KF_zov [0, 72, 73 + 2 * x, 74 + 2 * x] rfl (by simp only [List.mem_cons, List.not_mem_nil, or_false]; omega)
        · rw [hb.2.1]
          refine va_24 (f := r 6) (g := it x) (by omega) hj ?_
          by_cases e : b = x
          · rw [if_pos e, e]
            exact hs.2.2.2.2 j hj
          · rw [if_neg e]
        · by_cases e : j = i
          · rw [e, vu_same]
            exact cast_L zz
          · rw [vu_ne _ _ e]
            exact hZL x hx4 j hj
      · have e2 := rfV_c (he x) (la x) (sz x) y i 1
        refine same_id hJ hS2 (sp_X7_item_ref hW.2.1 f1 (f3 x hx4).1 hDs hx4 (f2 x hx4) hhe hs.1 hs.2.1 hy zi_ e) ?_
        rw [← hm]
        exact sp_X8_item_not hL hD hx4 hy zi_ (by omega) (by omega) (by rw [hm]; omega)
    · exact same_id hJ hS2 (sp_X7_item_bad zx zy (Or.inr hy)) (sp_X8_item_bad hL hD zx zy (Or.inr hy))
  · exact same_id hJ hS2 (sp_X7_item_bad zx zy (Or.inl hx)) (sp_X8_item_bad hL hD zx zy (Or.inl hx))
theorem st_film {x y i : Int} (hJ : DJ A B) (hS : ST h A B) (zx : zInI x) (zy : zInI y) (zi_ : zInI i) : SAME k_X7_film k_X8_film [zi x, zi y, zi i] h A B := by
  have hS2 := hS
  obtain ⟨kt, ⟨th, fx, d, w, Y, Q⟩, s, k, H, kn, s2, k2, H2, l, T, he, la, sz, it, m, r, hW, hL, hR⟩ := hS
  have hD := DJ_nd hJ m r
  have hA := hW.1
  have hD4 : [(A 0), (A 1), (A 2), (A 3)].Nodup := nd_A hA (l := [0, 1, 2, 3]) (by decide) (by decide)
  have hD5 : [(A 0), (A 1), (A 2), (A 3), (A 52)].Nodup := nd_A hA (l := [0, 1, 2, 3, 52]) (by decide) (by decide)
  have hc1 : h (A 1) = zcE (ptE (A 2) (A 3) th fx d w) := hW.2.2.1.1
  have hc2 : h (A 2) = zcE (.inl (0, 13, .inl Y)) := hW.2.2.1.2.1
  have hc3 : h (A 3) = zcE (.inl (0, 3, .inl Q)) := hW.2.2.1.2.2
  have hcE : cEx h A th fx d Y Q := hW.2.2.2.2.2.2.2.2.1
  obtain ⟨st, al, sv, nd, sc, be, up, dn, ln, F, W, Bb, P, S, U, D, N_, G, hc4, hXr, hsv⟩ := hcE
  have hK : KR (r 1) th fx d w Y Q := hR.1
  have hC : COK th fx d w Y Q := hR.2.1
  have hk := KR_kOK hK
  have hP := hW.2.2.2.1
  have hu := hR.2.2.1
  obtain ⟨⟨f, f1, f2⟩, f3⟩ := hW.2.2.2.2.2.2.2.2.2.2.2
  have hSH := hR.2.2.2.2.2.1
  have hZL := hR.2.2.2.2.2.2
  have hm0 : manyN (r 1) 0 13 = pop th := KR_m0 hK hC 13 (Nat.le_refl _)
  by_cases hx : 0 ≤ x ∧ x ≤ 3
  · by_cases hy : 0 ≤ y ∧ y ≤ 3
    · obtain ⟨x, rfl⟩ := Int.eq_ofNat_of_zero_le hx.1
      have hx4 : x < 4 := by omega
      have hs := hSH x hx4
      have hDs : [(A 0), (A 1), (A 72), A (73 + 2 * x)].Nodup := nd_A hA (l := [0, 1, 72, 73 + 2 * x]) (by simp only [List.mem_cons, List.not_mem_nil, or_false]; omega) (by simp only [List.nodup_cons, List.mem_cons, List.not_mem_nil, or_false, not_false_eq_true, List.nodup_nil, and_true]; omega)
      have hDt : [(A 0), (A 1), (A 2), (A 72), A (73 + 2 * x), A (74 + 2 * x)].Nodup := nd_A hA (l := [0, 1, 2, 72, 73 + 2 * x, 74 + 2 * x]) (by simp only [List.mem_cons, List.not_mem_nil, or_false]; omega) (by simp only [List.nodup_cons, List.mem_cons, List.not_mem_nil, or_false, not_false_eq_true, List.nodup_nil, and_true]; omega)
      have hhe : he x = 0 ∨ he x = 1 := by omega
      have hm := mach_rf (f := r 4 x) (g := r 5 x) (he := he x) (la := la x) (sz := sz x) (l := y) (i := i) (n := 2 * (pop th : Int)) hs.2.1.1 hs.2.2.1 hs.1.1 hs.2.2.2.1
      by_cases e : rfV (he x) (la x) (sz x) y i (2 * (pop th : Int)) = 0
      · have e2 := rfV_c (he x) (la x) (sz x) y i (2 * (pop th : Int))
        have e3 := rcV_c (sz x) i (2 * (pop th : Int))
        have hb : he x ≠ 0 ∧ la x = y ∧ i + 2 * (pop th : Int) ≤ sz x ∧ 0 ≤ i := by omega
        obtain ⟨i, rfl⟩ := Int.eq_ofNat_of_zero_le hb.2.2.2
        refine same_of (z := zi (2 * (pop th : Int))) (n := (th, fx, d, w, Y, Q)) hJ hL (zEv_up (sp_X7_film_ok hW.2.1 hc1 hc2 f1 (f3 x hx4).1 (f3 x hx4).2 hDt hx4 (f2 x hx4) hhe hs.1 hs.2.1 hy hC.1 ⟨hb.1, hb.2.1, hb.2.2.1⟩ (fun p hp => by have := hC.2.2.2.2.2.2.2.1 p hp; exact ⟨by omega, by omega⟩)) (fun v g hq => ⟨hq.1, CW_sheet hW hx4 (he3 := he x) (la3 := la x) (sz3 := sz x) (it3 := fmC (la x) th Y (it x) i 13) ?_ ?_ (fun i h1 h2 h3 => ?_), ?_⟩)) (fun h2 hL2 hD2 => zEv_up (sp_X8_film_ok hL2 hD2 hx4 hy (by omega) (by omega) hk (by rw [hm0]; exact hm.trans e) (by rw [hm0]; omega) (fun p hp hpp => by have := hK.2.2.1 p hp; exact ⟨by omega, by omega⟩)) (fun v h3 hq => ⟨hq.1.trans (by rw [hm0]), _, _, hq.2, hR.1, hR.2.1, hR.2.2.1, hR.2.2.2.1, hR.2.2.2.2.1, SHs_up hSH hx4 hs.1 hs.2.1 hs.2.2.1 hs.2.2.2.1 (fun b h1 h2 => ⟨rfl, rfl⟩) (fun b h1 j hj => film_eq hK hC hs.2.2.2.2 (by omega) hj 13 (Nat.le_refl _)), ZLs_up hZL (film_L hC.2.2.2.2.2.2.2.1 (hZL x hx4) 13 (Nat.le_refl _))⟩))
        · exact zget hq.2 hDt 4 rfl
        · exact zget hq.2 hDt 5 rfl
        · rw [hq.2]
          refine zov_eq hDt (List.forall_mem_cons.mpr ⟨fun e => e ▸ hW.2.1, List.forall_mem_cons.mpr ⟨fun e => e ▸ hc1, List.forall_mem_cons.mpr ⟨fun e => e ▸ hc2, List.forall_mem_cons.mpr ⟨fun e => e ▸ f1, List.forall_mem_cons.mpr ⟨fun e => absurd e.symm (adr_ne hA h1 (by omega) h2), List.forall_mem_cons.mpr ⟨fun e => absurd e.symm (adr_ne hA h1 (by omega) h3), fun _ q => absurd q List.not_mem_nil⟩⟩⟩⟩⟩⟩)
        · rw [hq.2]
          exact KF_zov [0, 1, 2, 72, 73 + 2 * x, 74 + 2 * x] rfl (by simp only [List.mem_cons, List.not_mem_nil, or_false]; omega)
      · have e2 := rfV_c (he x) (la x) (sz x) y i (2 * (pop th : Int))
        refine same_id hJ hS2 (sp_X7_film_ref hW.2.1 hc1 f1 (f3 x hx4).1 hDs hx4 (f2 x hx4) hhe hs.1 hs.2.1 hy zi_ hC.1 e) ?_
        rw [← hm, ← hm0]
        exact sp_X8_film_not hL hD hx4 hy zi_ (by omega) (by omega) hk (by rw [hm0, hm]; omega)
    · exact same_id hJ hS2 (sp_X7_film_bad zx zy (Or.inr hy)) (sp_X8_film_bad hL hD zx zy (Or.inr hy))
  · exact same_id hJ hS2 (sp_X7_film_bad zx zy (Or.inl hx)) (sp_X8_film_bad hL hD zx zy (Or.inl hx))
theorem cpy_24 {f u : Nat → Int} {s t i j n b c : Nat} (hi : i + n ≤ 24) (hj : j + n ≤ 24) (hc : c < 24) {it it2 : Nat → Int} (h1 : ∀ c, c < 24 → f (24 * s + c) = it c) (h2 : ∀ c, c < 24 → f (24 * t + c) = it2 c) : va_cpy (va_cpy f u (24 * s + i) 0 n) f 0 (24 * t + j) n (24 * b + c) = if b = t then va_cpy it it2 i j n c else f (24 * b + c) := by
  unfold va_cpy
  by_cases e : b = t
  · subst e
    rw [if_pos rfl]
    by_cases q : j ≤ c ∧ c < j + n
    · rw [if_pos (show 24 * b + j ≤ 24 * b + c ∧ 24 * b + c < 24 * b + j + n by omega), if_pos q, if_pos (show 0 ≤ 0 + (24 * b + c - (24 * b + j)) ∧ 0 + (24 * b + c - (24 * b + j)) < 0 + n by omega)]
      rw [← h1 (i + (c - j)) (by omega)]
      congr 1
      omega
    · rw [if_neg (show ¬ (24 * b + j ≤ 24 * b + c ∧ 24 * b + c < 24 * b + j + n) by omega), if_neg q]
      exact h2 c hc
  · rw [if_neg e, if_neg (by omega)]
theorem st_copy {x i y j n_ : Int} (hJ : DJ A B) (hS : ST h A B) (zx : zInI x) (zi_ : zInI i) (zy : zInI y) (zj_ : zInI j) (zn : zInI n_) : SAME k_X7_copy k_X8_copy [zi x, zi i, zi y, zi j, zi n_] h A B := by
  have hS2 := hS
  obtain ⟨kt, ⟨th, fx, d, w, Y, Q⟩, s, k, H, kn, s2, k2, H2, l, T, he, la, sz, it, m, r, hW, hL, hR⟩ := hS
  have hD := DJ_nd hJ m r
  have hA := hW.1
  have hD4 : [(A 0), (A 1), (A 2), (A 3)].Nodup := nd_A hA (l := [0, 1, 2, 3]) (by decide) (by decide)
  have hD5 : [(A 0), (A 1), (A 2), (A 3), (A 52)].Nodup := nd_A hA (l := [0, 1, 2, 3, 52]) (by decide) (by decide)
  have hc1 : h (A 1) = zcE (ptE (A 2) (A 3) th fx d w) := hW.2.2.1.1
  have hc2 : h (A 2) = zcE (.inl (0, 13, .inl Y)) := hW.2.2.1.2.1
  have hc3 : h (A 3) = zcE (.inl (0, 3, .inl Q)) := hW.2.2.1.2.2
  have hcE : cEx h A th fx d Y Q := hW.2.2.2.2.2.2.2.2.1
  obtain ⟨st, al, sv, nd, sc, be, up, dn, ln, F, W, Bb, P, S, U, D, N_, G, hc4, hXr, hsv⟩ := hcE
  have hK : KR (r 1) th fx d w Y Q := hR.1
  have hC : COK th fx d w Y Q := hR.2.1
  have hk := KR_kOK hK
  have hP := hW.2.2.2.1
  have hu := hR.2.2.1
  obtain ⟨⟨f, f1, f2⟩, f3⟩ := hW.2.2.2.2.2.2.2.2.2.2.2
  have hSH := hR.2.2.2.2.2.1
  have hZL := hR.2.2.2.2.2.2
  by_cases hx : 0 ≤ x ∧ x ≤ 3
  · by_cases hy : 0 ≤ y ∧ y ≤ 3
    · obtain ⟨x, rfl⟩ := Int.eq_ofNat_of_zero_le hx.1
      obtain ⟨y, rfl⟩ := Int.eq_ofNat_of_zero_le hy.1
      have hx4 : x < 4 := by omega
      have hy4 : y < 4 := by omega
      have hs := hSH x hx4
      have ht := hSH y hy4
      have hhe : he x = 0 ∨ he x = 1 := by omega
      have hhf : he y = 0 ∨ he y = 1 := by omega
      have hm1 := mach_rf (f := r 4 x) (g := r 5 x) (he := he x) (la := la x) (sz := sz x) (l := r 4 x) (i := i) (n := n_) hs.2.1.1 hs.2.2.1 hs.1.1 hs.2.2.2.1
      have hm2 := mach_rf (f := r 4 y) (g := r 5 y) (he := he y) (la := la y) (sz := sz y) (l := r 4 y) (i := j) (n := n_) ht.2.1.1 ht.2.2.1 ht.1.1 ht.2.2.2.1
      have e2 := rfV_c (he x) (la x) (sz x) (r 4 x) i n_
      have e3 := rfV_c (he y) (la y) (sz y) (r 4 y) j n_
      have e4 := rcV_c (sz x) i n_
      have e5 := rcV_c (sz y) j n_
      have hs3 := hs.2.2.1
      have ht3 := ht.2.2.1
      by_cases e : x = y
      · subst e
        have hDs : [(A 0), (A 72), A (73 + 2 * x)].Nodup := nd_A hA (l := [0, 72, 73 + 2 * x]) (by simp only [List.mem_cons, List.not_mem_nil, or_false]; omega) (by simp only [List.nodup_cons, List.mem_cons, List.not_mem_nil, or_false, not_false_eq_true, List.nodup_nil, and_true]; omega)
        have hDt : [(A 0), (A 72), A (73 + 2 * x), A (74 + 2 * x)].Nodup := nd_A hA (l := [0, 72, 73 + 2 * x, 74 + 2 * x]) (by simp only [List.mem_cons, List.not_mem_nil, or_false]; omega) (by simp only [List.nodup_cons, List.mem_cons, List.not_mem_nil, or_false, not_false_eq_true, List.nodup_nil, and_true]; omega)
        by_cases q0 : he x = 0
        · exact same_id hJ hS2 (sp_X7_copy_null1 hW.2.1 f1 (f3 x hx4).1 hDs hx4 (f2 x hx4) hhe hs.1 hs.2.1 q0) (sp_X8_copy_null hL hD hx4 hx4 (by omega) (by omega) (by omega))
        · by_cases q1 : rcV (sz x) i n_ ≠ 1 ∨ rcV (sz x) j n_ ≠ 1
          · exact same_id hJ hS2 (sp_X7_copy_index1 hW.2.1 f1 (f3 x hx4).1 hDs hx4 (f2 x hx4) hhe hs.1 hs.2.1 zi_ zj_ zn ⟨q0, q1⟩) (sp_X8_copy_index hL hD hx4 hx4 (by omega) (by omega) zi_ zj_ zn (by omega) (by omega) (by omega) rfl (by omega))
          · obtain ⟨i, rfl⟩ := Int.eq_ofNat_of_zero_le (show 0 ≤ i by omega)
            obtain ⟨j, rfl⟩ := Int.eq_ofNat_of_zero_le (show 0 ≤ j by omega)
            obtain ⟨n0, rfl⟩ := Int.eq_ofNat_of_zero_le (show 0 ≤ n_ by omega)
            refine same_of (z := zi (n0 : Int)) (n := (th, fx, d, w, Y, Q)) hJ hL (zEv_up (sp_X7_copy_ok1 hW.2.1 f1 (f3 x hx4).1 (f3 x hx4).2 hDt hx4 (f2 x hx4) hhe hs.1 hs.2.1 ⟨q0, by omega, by omega⟩) (fun v g hq => ⟨hq.1, CW_sheet hW hx4 (he3 := he x) (la3 := la x) (sz3 := sz x) (it3 := va_cpy (it x) (it x) i j n0) ?_ ?_ (fun i h1 h2 h3 => ?_), ?_⟩)) (fun h2 hL2 hD2 => zEv_up (sp_X8_copy_ok hL2 hD2 hx4 hx4 (by omega) (by omega) (by omega) (by omega) (by omega) rfl ⟨by omega, by omega⟩ (by omega) (by omega)) (fun v h3 hq => ⟨hq.1, _, _, hq.2, hR.1, hR.2.1, hR.2.2.1, hR.2.2.2.1, hR.2.2.2.2.1, SHs_up hSH hx4 hs.1 hs.2.1 hs.2.2.1 hs.2.2.2.1 (fun b h1 h2 => ⟨rfl, rfl⟩) (fun b h1 c hc => cpy_24 (by omega) (by omega) hc hs.2.2.2.2 hs.2.2.2.2), ZLs_up hZL (cpy_L (by omega) (hZL x hx4) (hZL x hx4))⟩))
            · exact zget hq.2 hDt 2 rfl
            · exact zget hq.2 hDt 3 rfl
            · rw [hq.2]
              refine zov_eq hDt (List.forall_mem_cons.mpr ⟨fun e => e ▸ hW.2.1, List.forall_mem_cons.mpr ⟨fun e => e ▸ f1, List.forall_mem_cons.mpr ⟨fun e => absurd e.symm (adr_ne hA h1 (by omega) h2), List.forall_mem_cons.mpr ⟨fun e => absurd e.symm (adr_ne hA h1 (by omega) h3), fun _ q => absurd q List.not_mem_nil⟩⟩⟩⟩)
            · rw [hq.2]
              exact KF_zov [0, 72, 73 + 2 * x, 74 + 2 * x] rfl (by simp only [List.mem_cons, List.not_mem_nil, or_false]; omega)
      · have hDs : [(A 0), (A 72), A (73 + 2 * x), A (73 + 2 * y)].Nodup := nd_A hA (l := [0, 72, 73 + 2 * x, 73 + 2 * y]) (by simp only [List.mem_cons, List.not_mem_nil, or_false]; omega) (by simp only [List.nodup_cons, List.mem_cons, List.not_mem_nil, or_false, not_false_eq_true, List.nodup_nil, and_true]; omega)
        have hDt : [(A 0), (A 72), A (73 + 2 * x), A (74 + 2 * x), A (73 + 2 * y), A (74 + 2 * y)].Nodup := nd_A hA (l := [0, 72, 73 + 2 * x, 74 + 2 * x, 73 + 2 * y, 74 + 2 * y]) (by simp only [List.mem_cons, List.not_mem_nil, or_false]; omega) (by simp only [List.nodup_cons, List.mem_cons, List.not_mem_nil, or_false, not_false_eq_true, List.nodup_nil, and_true]; omega)
        by_cases q0 : he x = 0 ∨ he y = 0
        · exact same_id hJ hS2 (sp_X7_copy_null hW.2.1 f1 (f3 x hx4).1 (f3 y hy4).1 hDs hx4 hy4 (f2 x hx4) (f2 y hy4) hhe hs.1 hs.2.1 hhf ht.1 ht.2.1 q0) (sp_X8_copy_null hL hD hx4 hy4 (by omega) (by omega) (by omega))
        · by_cases q2 : la x = la y
          · by_cases q1 : rcV (sz x) i n_ ≠ 1 ∨ rcV (sz y) j n_ ≠ 1
            · exact same_id hJ hS2 (sp_X7_copy_index hW.2.1 f1 (f3 x hx4).1 (f3 y hy4).1 hDs hx4 hy4 (f2 x hx4) (f2 y hy4) hhe hs.1 hs.2.1 hhf ht.1 ht.2.1 zi_ zj_ zn ⟨by omega, by omega, q2, q1⟩) (sp_X8_copy_index hL hD hx4 hy4 (by omega) (by omega) zi_ zj_ zn (by omega) (by omega) (by omega) (by omega) (by omega))
            · obtain ⟨i, rfl⟩ := Int.eq_ofNat_of_zero_le (show 0 ≤ i by omega)
              obtain ⟨j, rfl⟩ := Int.eq_ofNat_of_zero_le (show 0 ≤ j by omega)
              obtain ⟨n0, rfl⟩ := Int.eq_ofNat_of_zero_le (show 0 ≤ n_ by omega)
              refine same_of (z := zi (n0 : Int)) (n := (th, fx, d, w, Y, Q)) hJ hL (zEv_up (sp_X7_copy_ok hW.2.1 f1 (f3 x hx4).1 (f3 x hx4).2 (f3 y hy4).1 (f3 y hy4).2 hDt hx4 hy4 (f2 x hx4) (f2 y hy4) hhe hs.1 hs.2.1 hhf ht.1 ht.2.1 ⟨by omega, by omega, q2, by omega, by omega⟩) (fun v g hq => ⟨hq.1, CW_sheet hW hy4 (he3 := he y) (la3 := la y) (sz3 := sz y) (it3 := va_cpy (it x) (it y) i j n0) ?_ ?_ (fun i h1 h2 h3 => ?_), ?_⟩)) (fun h2 hL2 hD2 => zEv_up (sp_X8_copy_ok hL2 hD2 hx4 hy4 (by omega) (by omega) (by omega) (by omega) (by omega) (by omega) ⟨by omega, by omega⟩ (by omega) (by omega)) (fun v h3 hq => ⟨hq.1, _, _, hq.2, hR.1, hR.2.1, hR.2.2.1, hR.2.2.2.1, hR.2.2.2.2.1, SHs_up hSH hy4 ht.1 ht.2.1 ht.2.2.1 ht.2.2.2.1 (fun b h1 h2 => ⟨rfl, rfl⟩) (fun b h1 c hc => cpy_24 (by omega) (by omega) hc hs.2.2.2.2 ht.2.2.2.2), ZLs_up hZL (cpy_L (by omega) (hZL x hx4) (hZL y hy4))⟩))
              · exact zget hq.2 hDt 4 rfl
              · exact zget hq.2 hDt 5 rfl
              · rw [hq.2]
                refine zov_eq hDt (List.forall_mem_cons.mpr ⟨fun e => e ▸ hW.2.1, List.forall_mem_cons.mpr ⟨fun e => e ▸ f1, List.forall_mem_cons.mpr ⟨fun e => e ▸ (f3 x hx4).1, List.forall_mem_cons.mpr ⟨fun e => e ▸ (f3 x hx4).2, List.forall_mem_cons.mpr ⟨fun e => absurd e.symm (adr_ne hA h1 (by omega) h2), List.forall_mem_cons.mpr ⟨fun e => absurd e.symm (adr_ne hA h1 (by omega) h3), fun _ q => absurd q List.not_mem_nil⟩⟩⟩⟩⟩⟩)
              · rw [hq.2]
                exact KF_zov [0, 72, 73 + 2 * x, 74 + 2 * x, 73 + 2 * y, 74 + 2 * y] rfl (by simp only [List.mem_cons, List.not_mem_nil, or_false]; omega)
          · exact same_id hJ hS2 (sp_X7_copy_cast hW.2.1 f1 (f3 x hx4).1 (f3 y hy4).1 hDs hx4 hy4 (f2 x hx4) (f2 y hy4) hhe hs.1 hs.2.1 hhf ht.1 ht.2.1 ⟨by omega, by omega, q2⟩) (sp_X8_copy_cast hL hD hx4 hy4 (by omega) (by omega) (by omega) (by omega))
    · exact same_id hJ hS2 (sp_X7_copy_bad zx zy (Or.inr hy)) (sp_X8_copy_bad hL hD zx zy (Or.inr hy))
  · exact same_id hJ hS2 (sp_X7_copy_bad zx zy (Or.inl hx)) (sp_X8_copy_bad hL hD zx zy (Or.inl hx))
end
