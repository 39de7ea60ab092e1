/-! degrees of both -/
theorem sh_win (it : Nat → Int) (i f : Nat) : shf2 it (i + 2 * f) = fun j => shf2 it i (f + j) := by
  funext j
  show it (i + 2 * f + 2 * j) = it (i + 2 * (f + j))
  congr 1
  omega
theorem sh_win1 (it : Nat → Int) (i f : Nat) : shf2 it (i + 2 * f + 1) = fun j => shf2 it (i + 1) (f + j) := by
  funext j
  show it (i + 2 * f + 1 + 2 * j) = it (i + 1 + 2 * (f + j))
  congr 1
  omega
theorem win_dv {X : Nat → Int} {n d f : Nat} (hb : ∀ j, j < n → -6 ≤ X j ∧ X j ≤ 6) (hd : ∀ i j, i < j → j < n → X i ≠ X j) (hf : f + d + 2 ≤ n) : (∀ i, i < d + 2 → apN (fun j => X (f + j)) i (d + 2) ∣ 479001600) ∧ ∀ i j, i < j → j < d + 2 → X (f + i) ≠ X (f + j) := by
  have h2 : ∀ i j, i < j → j < d + 2 → X (f + i) ≠ X (f + j) := fun i j h1 h2 => hd _ _ (by omega) (by omega)
  refine ⟨ap_dvd (fun j hj => hb _ (by omega)) (fun a b ha hb2 hab => ?_), h2⟩
  rcases Nat.lt_or_gt_of_ne hab with c | c
  · exact h2 a b c hb2
  · exact fun e => h2 b a c ha e.symm
theorem idP_pol {it : Nat → Int} {i n d : Nat} (hb : ∀ j, j < n → -6 ≤ shf2 it i j ∧ shf2 it i j ≤ 6) (hd : ∀ a b, a < b → b < n → shf2 it i a ≠ shf2 it i b) : idP it i n d ↔ POL d (shf2 it i) (shf2 it (i + 1)) n := by
  constructor
  · intro h
    refine win_pol n hb hd (fun f hf => ?_)
    have hv := win_dv hb hd hf
    have h1 := h f hf
    rw [sh_win, sh_win1, st_sum] at h1
    have hs := scl_p hv.1 (by omega)
    exact ⟨_, _, WT_w hv.1 hv.2, by omega, h1⟩
  · intro h f hf
    have hv := win_dv hb hd hf
    rw [sh_win, sh_win1, st_sum]
    exact pol_win h hf (WT_w hv.1 hv.2)
theorem dIs_pol {X Y : Nat → Int} {n d : Nat} (hd4 : d < 4) (hb : ∀ j, j < n → -6 ≤ X j ∧ X j ≤ 6) (hd : ∀ a b, a < b → b < n → X a ≠ X b) : dIs (dgX X n 13) (dgY X Y n 13) d (n - (d + 1)) ≠ 0 ↔ POL d X Y n := by
  have hl := dg_n hb
  have hup := dg_up X n (fun p _ => xe_one hd) 13 (Nat.le_refl _)
  have hfr := dg_from X Y n 13
  have hto : ∀ k, k < n → ∃ j, j < (dgX X n 13).length ∧ ltF (dgX X n 13) j = X k ∧ ltF (dgY X Y n 13) j = Y k := fun k hk => by
    have := hb k hk
    exact dg_to X Y n hk 13 ⟨(X k + 6).toNat, by omega, by omega⟩
  rw [hl] at hup hfr hto
  generalize dgX X n 13 = lx at *
  generalize dgY X Y n 13 = ly at *
  have hW : ∀ f, f + d + 2 ≤ n → WT (fun j => ltF lx (f + j)) (d + 2) (wdD (fun j => ltF lx (f + j)) (d + 2)) (vdA (fun j => ltF lx (f + j)) (d + 2) (d + 2)) ∧ vdA (fun j => ltF lx (f + j)) (d + 2) (d + 2) ≠ 0 := fun f hf => by
    have hi : ∀ i j, i < j → j < d + 2 → ltF lx (f + i) < ltF lx (f + j) := fun i j h1 h2 => hup _ _ (by omega) (by omega)
    have hv := vdA_pos (X := fun j => ltF lx (f + j)) (n := d + 2) hi (Nat.le_refl _)
    exact ⟨WT_D (by omega) hi, by omega⟩
  rw [dIs_all]
  constructor
  · intro h
    have h1 : POL d (ltF lx) (ltF ly) n := win_pol n (fun j hj => by
      obtain ⟨k, hk, -, e, -⟩ := hfr j hj
      rw [e]
      exact hb k hk) (fun i j h1 h2 q => by have := hup i j h1 h2; omega) (fun f hf => ⟨_, _, (hW f hf).1, (hW f hf).2, io_zero.mp (h f (by omega))⟩)
    refine POL_sub h1 (fun k hk => ?_)
    obtain ⟨j, hj, e1, e2⟩ := hto k hk
    exact ⟨j, hj, e1.symm, e2.symm⟩
  · intro h f hf
    have h1 : POL d (ltF lx) (ltF ly) n := POL_sub h (fun j hj => by
      obtain ⟨k, hk, -, e1, e2⟩ := hfr j hj
      exact ⟨k, hk, e1, e2⟩)
    exact io_zero.mpr (pol_win h1 (by omega) (hW f (by omega)).1)
theorem st_bd {X Y : Nat → Int} {n : Nat} (hn : n ≤ 5) (hdv : ∀ i, i < n → apN X i n ∣ 479001600) (hY : ∀ j, j < n → -99 ≤ Y j ∧ Y j ≤ 99) : -9223372036854775807 ≤ stN X Y n n ∧ stN X Y n n ≤ 9223372036854775807 := by
  rw [st_sum]
  have h := sum_bd (B := 47421158400) (n := n) (f := fun i => wgt X n i * Y i) (fun i hi => by
    have h1 := wgt_b hdv hi
    have h2 := hY i hi
    exact mul_bd (A := 479001600) (B := 99) h1.1 h1.2.1 h2.1 h2.2)
  have h6 : ((n : Nat) : Int) * 47421158400 ≤ 5 * 47421158400 := Int.mul_le_mul_of_nonneg_right (by omega) (by decide)
  omega
theorem io_bd {X Y : Nat → Int} {n : Nat} (hn : n ≤ 5) (hX : ∀ i j, i < j → j < n → X i < X j) (hb : ∀ i, i < n → -6 ≤ X i ∧ X i ≤ 6) (hY : ∀ j, j < n → -99 ≤ Y j ∧ Y j ≤ 99) : -4611686018427387904 ≤ ioN X Y n n ∧ ioN X Y n n ≤ 4611686018427387904 := by
  rw [io_sum X Y n n (Nat.le_refl n)]
  have h := sum_bd (B := 5196312) (n := n) (f := fun i => wdD X n i * Y i) (fun i hi => by
    have h1 := df_le (c := i) hn hi hX hb
    have h3 := vdM_le (n - 1)
    have h2 := hY i hi
    have h4 := mul_bd (a := dfA X i n n) (b := Y i) (A := 52488) (B := 99) (by omega) (by omega) h2.1 h2.2
    show _ ≤ wdD X n i * Y i ∧ wdD X n i * Y i ≤ _
    rw [wdD]
    rcases sgT_a n i with ⟨a1, a2⟩ | ⟨a1, a2⟩
    · rw [a1, Int.one_mul]
      omega
    · rw [a1, Int.neg_mul, Int.one_mul, Int.neg_mul]
      omega)
  have h6 : ((n : Nat) : Int) * 5196312 ≤ 5 * 5196312 := Int.mul_le_mul_of_nonneg_right (by omega) (by decide)
  rcases sgT_a n 0 with ⟨a1, a2⟩ | ⟨a1, a2⟩
  · rw [a1, Int.one_mul]
    omega
  · rw [a1, Int.neg_mul, Int.one_mul]
    omega
section
variable {A B : Nat → Nat} {h : xH}
theorem st_degrees {x y i n_ : Int} (hJ : DJ A B) (hS : ST h A B) (zx : zInI x) (zy : zInI y) (zi_ : zInI i) (zn : zInI n_) : SAME k_X7_degrees k_X8_degrees [zi x, zi y, zi i, zi n_] h A B := by
  have hS2 := hS
  obtain ⟨kt, ⟨th, fx, d, w, Y, Q⟩, s, k, H, kn, s2, k2, H2, l, T, he, la, sz, it, m, r, hW, hL, hR⟩ := hS
  have hD := DJ_nd hJ m r
  have hA := hW.1
  have hD4 : [(A 0), (A 1), (A 2), (A 3)].Nodup := nd_A hA (l := [0, 1, 2, 3]) (by decide) (by decide)
  have hD5 : [(A 0), (A 1), (A 2), (A 3), (A 52)].Nodup := nd_A hA (l := [0, 1, 2, 3, 52]) (by decide) (by decide)
  have hc1 : h (A 1) = zcE (ptE (A 2) (A 3) th fx d w) := hW.2.2.1.1
  have hc2 : h (A 2) = zcE (.inl (0, 13, .inl Y)) := hW.2.2.1.2.1
  have hc3 : h (A 3) = zcE (.inl (0, 3, .inl Q)) := hW.2.2.1.2.2
  have hcE : cEx h A th fx d Y Q := hW.2.2.2.2.2.2.2.2.1
  obtain ⟨st, al, sv, nd, sc, be, up, dn, ln, F, W, Bb, P, S, U, D, N_, G, hc4, hXr, hsv⟩ := hcE
  have hK : KR (r 1) th fx d w Y Q := hR.1
  have hC : COK th fx d w Y Q := hR.2.1
  have hk := KR_kOK hK
  have hP := hW.2.2.2.1
  have hu := hR.2.2.1
  obtain ⟨⟨f, f1, f2⟩, f3⟩ := hW.2.2.2.2.2.2.2.2.2.2.2
  have hSH := hR.2.2.2.2.2.1
  have hZL := hR.2.2.2.2.2.2
  by_cases hx : 0 ≤ x ∧ x ≤ 3
  · by_cases hy : 0 ≤ y ∧ y ≤ 3
    · by_cases hn : 1 ≤ n_ ∧ n_ ≤ 8
      · obtain ⟨x, rfl⟩ := Int.eq_ofNat_of_zero_le hx.1
        obtain ⟨n0, rfl⟩ := Int.eq_ofNat_of_zero_le (show 0 ≤ n_ by omega)
        have hx4 : x < 4 := by omega
        have hs := hSH x hx4
        have hz4 := hZL x hx4
        have hDs : [(A 0), (A 72), A (73 + 2 * x)].Nodup := nd_A hA (l := [0, 72, 73 + 2 * x]) (by simp only [List.mem_cons, List.not_mem_nil, or_false]; omega) (by simp only [List.nodup_cons, List.mem_cons, List.not_mem_nil, or_false, not_false_eq_true, List.nodup_nil, and_true]; omega)
        have hDt : [(A 0), (A 72), A (73 + 2 * x), A (74 + 2 * x)].Nodup := nd_A hA (l := [0, 72, 73 + 2 * x, 74 + 2 * x]) (by simp only [List.mem_cons, List.not_mem_nil, or_false]; omega) (by simp only [List.nodup_cons, List.mem_cons, List.not_mem_nil, or_false, not_false_eq_true, List.nodup_nil, and_true]; omega)
        have hDu : [(A 0), (A 72), (A 63), (A 64), (A 65), A (73 + 2 * x), A (74 + 2 * x)].Nodup := nd_A hA (l := [0, 72, 63, 64, 65, 73 + 2 * x, 74 + 2 * x]) (by simp only [List.mem_cons, List.not_mem_nil, or_false]; omega) (by simp only [List.nodup_cons, List.mem_cons, List.not_mem_nil, or_false, not_false_eq_true, List.nodup_nil, and_true]; omega)
        have hhe : he x = 0 ∨ he x = 1 := by omega
        have hm := mach_rf (f := r 4 x) (g := r 5 x) (he := he x) (la := la x) (sz := sz x) (l := y) (i := i) (n := 2 * (n0 : Int)) hs.2.1.1 hs.2.2.1 hs.1.1 hs.2.2.2.1
        by_cases e : rfV (he x) (la x) (sz x) y i (2 * (n0 : Int)) = 0
        · have e2 := rfV_c (he x) (la x) (sz x) y i (2 * (n0 : Int))
          have e3 := rcV_c (sz x) i (2 * (n0 : Int))
          have hb : he x ≠ 0 ∧ la x = y ∧ i + 2 * (n0 : Int) ≤ sz x ∧ 0 ≤ i := by omega
          obtain ⟨i, rfl⟩ := Int.eq_ofNat_of_zero_le hb.2.2.2
          have hin : i + 2 * n0 ≤ 24 := by omega
          have hmz : machV (r 4 x) (r 5 x) y (i : Int) (2 * (n0 : Int)) = 0 := hm.trans e
          have eX : ∀ j, j < n0 → shf2 (r 6) (24 * x + i) j = shf2 (it x) i j := fun j hj => by
            have := hs.2.2.2.2 (i + 2 * j) (by omega)
            show r 6 (24 * x + i + 2 * j) = it x (i + 2 * j)
            rw [← this]
            congr 1
            omega
          have eY : ∀ j, j < n0 → shf2 (r 6) (24 * x + i + 1) j = shf2 (it x) (i + 1) j := fun j hj => by
            have := hs.2.2.2.2 (i + 1 + 2 * j) (by omega)
            show r 6 (24 * x + i + 1 + 2 * j) = it x (i + 1 + 2 * j)
            rw [← this]
            congr 1
            omega
          have hz : ∀ j, j < n0 → zInL (shf2 (it x) i j) ∧ zInL (shf2 (it x) (i + 1) j) := fun j hj => ⟨hz4 (i + 2 * j) (by omega), hz4 (i + 1 + 2 * j) (by omega)⟩
          have hz2 : ∀ j, j < n0 → zInL (shf2 (r 6) (24 * x + i) j) ∧ zInL (shf2 (r 6) (24 * x + i + 1) j) := fun j hj => by
            rw [eX j hj, eY j hj]
            exact hz j hj
          by_cases hg : ∀ j, j < n0 → -6 ≤ shf2 (it x) i j ∧ shf2 (it x) i j ≤ 6 ∧ -99 ≤ shf2 (it x) (i + 1) j ∧ shf2 (it x) (i + 1) j ≤ 99
          · have hg2 : ∀ j, j < n0 → -6 ≤ shf2 (r 6) (24 * x + i) j ∧ shf2 (r 6) (24 * x + i) j ≤ 6 ∧ -99 ≤ shf2 (r 6) (24 * x + i + 1) j ∧ shf2 (r 6) (24 * x + i + 1) j ≤ 99 := fun j hj => by
              rw [eX j hj, eY j hj]
              exact hg j hj
            have hbX : ∀ j, j < n0 → -6 ≤ shf2 (it x) i j ∧ shf2 (it x) i j ≤ 6 := fun j hj => ⟨(hg j hj).1, (hg j hj).2.1⟩
            have hbX2 : ∀ j, j < n0 → -6 ≤ shf2 (r 6) (24 * x + i) j ∧ shf2 (r 6) (24 * x + i) j ≤ 6 := fun j hj => ⟨(hg2 j hj).1, (hg2 j hj).2.1⟩
            have hlen : ∀ p, p < 13 → ∀ k, k < n0 → xeB (shf2 (r 6) (24 * x + i)) p k = true → (dgX (shf2 (r 6) (24 * x + i)) n0 p).length + (plB (xeB (shf2 (r 6) (24 * x + i)) p) k).length < 8 := fun p hp k hk hxe => by
              have h1 := dg_n hbX2
              have h2 := dg_mono (shf2 (r 6) (24 * x + i)) n0 (show p + 1 ≤ 13 by omega)
              rw [dgX_s, List.length_append, List.length_map] at h2
              have h3 := pln_t hxe
              have h4 := pln_mono (xeB (shf2 (r 6) (24 * x + i)) p) (show k + 1 ≤ n0 by omega)
              omega
            by_cases hdis : ∀ a b, a < b → b < n0 → shf2 (it x) i a ≠ shf2 (it x) i b
            · have hdis2 : ∀ a b, a < b → b < n0 → shf2 (r 6) (24 * x + i) a ≠ shf2 (r 6) (24 * x + i) b := fun a b h1 h2 => by
                rw [eX a (by omega), eX b h2]
                exact hdis a b h1 h2
              have hg3 : ∀ j, j < n0 → -6 ≤ shf2 (it x) i j ∧ shf2 (it x) i j ≤ 6 ∧ -99 ≤ shf2 (it x) (i + 1) j ∧ shf2 (it x) (i + 1) j ≤ 99 ∧ bt (smN (shf2 (it x) i) j) (shf2 (it x) i j + 6).toNat = 0 := fun j hj => by
                have h1 := hg j hj
                refine ⟨h1.1, h1.2.1, h1.2.2.1, h1.2.2.2, ?_⟩
                have h2 := bt_smN (X := shf2 (it x) i) (p := (shf2 (it x) i j + 6).toNat) (by omega) j (fun c hc => hbX c (by omega))
                have h3 := bt_lt (smN (shf2 (it x) i) j) (shf2 (it x) i j + 6).toNat
                by_cases c : bt (smN (shf2 (it x) i) j) (shf2 (it x) i j + 6).toNat = 1
                · obtain ⟨a, h4, h5⟩ := h2.mp c
                  exact absurd (show shf2 (it x) i a = shf2 (it x) i j by omega) (hdis a j h4 hj)
                · omega
              have hgd : ∀ d, d < 4 → ∀ f, f + d + 2 ≤ n0 → (∀ j, j < d + 2 → -6 ≤ (shf2 (it x) (i + 2 * f)) j ∧ (shf2 (it x) (i + 2 * f)) j ≤ 6) ∧ (∀ j, j < d + 2 → apN (shf2 (it x) (i + 2 * f)) j (d + 2) ∣ 479001600) ∧ -9223372036854775807 ≤ stN (shf2 (it x) (i + 2 * f)) (shf2 (it x) (i + 2 * f + 1)) (d + 2) (d + 2) ∧ stN (shf2 (it x) (i + 2 * f)) (shf2 (it x) (i + 2 * f + 1)) (d + 2) (d + 2) ≤ 9223372036854775807 := fun d hd4 f hf => by
                rw [sh_win, sh_win1]
                have hv := win_dv hbX hdis hf
                exact ⟨fun j hj => hbX (f + j) (by omega), hv.1, st_bd (by omega) hv.1 (fun j hj => by have := hg (f + j) (by omega); exact ⟨this.2.2.1, this.2.2.2⟩)⟩
              have hln := dg_n hbX2
              have hfrm := dg_from (shf2 (r 6) (24 * x + i)) (shf2 (r 6) (24 * x + i + 1)) n0 13
              have hup := dg_up (shf2 (r 6) (24 * x + i)) n0 (fun p _ => xe_one hdis2) 13 (Nat.le_refl _)
              rw [hln] at hfrm hup
              have hdb : ∀ j, j < n0 → -6 ≤ ltF (dgX (shf2 (r 6) (24 * x + i)) n0 13) j ∧ ltF (dgX (shf2 (r 6) (24 * x + i)) n0 13) j ≤ 6 := fun j hj => by
                obtain ⟨k, hk, -, e1, -⟩ := hfrm j hj
                rw [e1]
                exact hbX2 k hk
              have hdy : ∀ j, j < n0 → -99 ≤ ltF (dgY (shf2 (r 6) (24 * x + i)) (shf2 (r 6) (24 * x + i + 1)) n0 13) j ∧ ltF (dgY (shf2 (r 6) (24 * x + i)) (shf2 (r 6) (24 * x + i + 1)) n0 13) j ≤ 99 := fun j hj => by
                obtain ⟨k, hk, -, -, e1⟩ := hfrm j hj
                rw [e1]
                have := hg2 k hk
                exact ⟨this.2.2.1, this.2.2.2⟩
              have hmk : mkN (dgsB (dgX (shf2 (r 6) (24 * x + i)) n0 13) (dgY (shf2 (r 6) (24 * x + i)) (shf2 (r 6) (24 * x + i + 1)) n0 13) n0) 4 = mkN (dgC (it x) i n0) 4 := mkN_congr (fun d hd4 => by
                have h1 := dIs_pol (X := shf2 (r 6) (24 * x + i)) (Y := shf2 (r 6) (24 * x + i + 1)) hd4 hbX2 hdis2
                have h2 := idP_pol (d := d) hbX hdis
                have h3 : POL d (shf2 (r 6) (24 * x + i)) (shf2 (r 6) (24 * x + i + 1)) n0 ↔ POL d (shf2 (it x) i) (shf2 (it x) (i + 1)) n0 := ⟨fun q => POL_sub q (fun j hj => ⟨j, hj, (eX j hj).symm, (eY j hj).symm⟩), fun q => POL_sub q (fun j hj => ⟨j, hj, eX j hj, eY j hj⟩)⟩
                have h4 : idV (it x) i n0 d = 1 ↔ idP (it x) i n0 d := by
                  unfold idV
                  by_cases c : idP (it x) i n0 d
                  · rw [if_pos c]
                    exact ⟨fun _ => c, fun _ => rfl⟩
                  · rw [if_neg c]
                    exact ⟨fun q => absurd q (by decide), fun q => absurd q c⟩
                unfold dgsB dgC
                have h5 := h1.trans (h3.trans (h2.symm.trans h4.symm))
                exact decide_eq_decide.mpr h5)
              obtain ⟨nt, sct, bet, upt, dnt, lnt, Ft, Wt, Bt, Pt, t1, t2, t3, t4, t5⟩ := hW.2.2.2.2.2.2.2.2.2.1
              refine same_of (z := zi (mkN (dgC (it x) i n0) 4 : Int)) (kt := kt) (n := (th, fx, d, w, Y, Q)) (s := s) (k := k) (H := H) (kn := kn) (s2 := s2) (k2 := k2) (H2 := H2) (l := l) (T := T) (he := he) (la := la) (sz := sz) (it := it) hJ hL (zEv_up (sp_X7_degrees_ok hW.2.1 f1 t1 t2 t3 (f3 x hx4).1 (f3 x hx4).2 hDu hx4 (f2 x hx4) hhe hs.1 hs.2.1 hy (by omega) ⟨hb.1, hb.2.1, hb.2.2.1⟩ hz hg3 hgd) (fun v g hq => ?_)) (fun h2 hL2 hD2 => zEv_up (sp_X8_degrees_ok hL2 hD2 hx4 hy (by omega) (by omega) (by omega) hmz hin hz2 hg2 hlen (fun p _ => xe_one hdis2) hln ((dg_len0 _ _ n0 13).trans hln) hdb hdy (fun f d hd4 hf => io_bd (by omega) (fun a b h1 h2 => hup _ _ (by omega) (by omega)) (fun a ha => hdb _ (by omega)) (fun a ha => hdy _ (by omega)))) (fun v h3 hq => ?_))
              · obtain ⟨nd2, sc2, F2, W2, hv, hg⟩ := hq
                have ho : ∀ i, i < 81 → i ∉ [0, 72, 63, 64, 65, 73 + 2 * x, 74 + 2 * x] → g (A i) = h (A i) := fun i h1 h2 => by
                  rw [hg]
                  exact A_out hA [0, 72, 63, 64, 65, 73 + 2 * x, 74 + 2 * x] rfl (by simp only [List.mem_cons, List.not_mem_nil, or_false]; omega) h1 h2
                refine ⟨hv, CW_trial hW ((ho 66 (by decide) (by simp only [List.mem_cons, List.not_mem_nil, or_false]; omega)).trans t4) ((ho 67 (by decide) (by simp only [List.mem_cons, List.not_mem_nil, or_false]; omega)).trans t5) (zget hg hDu 2 rfl) (zget hg hDu 3 rfl) (zget hg hDu 4 rfl) (fun i h1 h2 => ?_), ?_⟩
                · by_cases c : i ∈ [0, 72, 63, 64, 65, 73 + 2 * x, 74 + 2 * x]
                  · simp only [List.mem_cons, List.not_mem_nil, or_false] at c
                    rcases (show i = 0 ∨ i = 72 ∨ i = 73 + 2 * x ∨ i = 74 + 2 * x by omega) with rfl | rfl | rfl | rfl
                    · exact (zget hg hDu 0 rfl).trans hW.2.1.symm
                    · exact (zget hg hDu 1 rfl).trans f1.symm
                    · exact (zget hg hDu 5 rfl).trans (f3 x hx4).1.symm
                    · exact (zget hg hDu 6 rfl).trans (f3 x hx4).2.symm
                  · exact ho i h1 c
                · rw [hg]
                  exact KF_zov [0, 72, 63, 64, 65, 73 + 2 * x, 74 + 2 * x] rfl (by simp only [List.mem_cons, List.not_mem_nil, or_false]; omega)
              · obtain ⟨c1, y1, y2, y3, hv, hg⟩ := hq
                exact ⟨hv.trans (by rw [hmk]), _, _, hg, RL_sc hR rfl rfl rfl rfl rfl rfl rfl rfl rfl⟩
            · have hdup : ∃ a b, a < b ∧ b < n0 ∧ shf2 (it x) i a = shf2 (it x) i b := by
                by_cases q : ∃ a b, a < b ∧ b < n0 ∧ shf2 (it x) i a = shf2 (it x) i b
                · exact q
                · exact absurd (fun a b h1 h2 h3 => q ⟨a, b, h1, h2, h3⟩) hdis
              obtain ⟨a, b, h1, h2, h3⟩ := hdup
              have hbb := hbX b h2
              have hbad : ∃ j, j < n0 ∧ ¬ (-6 ≤ shf2 (it x) i j ∧ shf2 (it x) i j ≤ 6 ∧ -99 ≤ shf2 (it x) (i + 1) j ∧ shf2 (it x) (i + 1) j ≤ 99 ∧ bt (smN (shf2 (it x) i) j) (shf2 (it x) i j + 6).toNat = 0) := by
                refine ⟨b, h2, fun q => ?_⟩
                have h4 := (bt_smN (X := shf2 (it x) i) (p := (shf2 (it x) i b + 6).toNat) (by omega) b (fun c hc => hbX c (by omega))).mpr ⟨a, h1, by omega⟩
                have := q.2.2.2.2
                omega
              refine same_of (z := zi (-2)) (kt := kt) (n := (th, fx, d, w, Y, Q)) (s := s) (k := k) (H := H) (kn := kn) (s2 := s2) (k2 := k2) (H2 := H2) (l := l) (T := T) (he := he) (la := la) (sz := sz) (it := it) hJ hL (zEv_up (sp_X7_degrees_not hW.2.1 f1 (f3 x hx4).1 (f3 x hx4).2 hDt hx4 (f2 x hx4) hhe hs.1 hs.2.1 hy (by omega) ⟨hb.1, hb.2.1, hb.2.2.1⟩ hz hbad) (fun v g hq => ?_)) (fun h2' hL2 hD2 => zEv_up (sp_X8_degrees_not2 hL2 hD2 hx4 hy (by omega) (by omega) (by omega) hmz hin hz2 hg2 hlen ⟨(shf2 (it x) i b + 6).toNat, by omega, xe_two (X := shf2 (r 6) (24 * x + i)) h1 h2 (by rw [eX a (by omega)]; omega) (by rw [eX b h2]; omega)⟩) (fun v h3 hq => ?_))
              · obtain ⟨hv, rfl⟩ := hq
                exact ⟨hv, hW, KF_id _ A⟩
              · obtain ⟨c1, y1, y2, y3, hv, hg⟩ := hq
                exact ⟨hv, _, _, hg, RL_sc hR rfl rfl rfl rfl rfl rfl rfl rfl rfl⟩
          · have hbad : ∃ j, j < n0 ∧ ¬ (-6 ≤ shf2 (it x) i j ∧ shf2 (it x) i j ≤ 6 ∧ -99 ≤ shf2 (it x) (i + 1) j ∧ shf2 (it x) (i + 1) j ≤ 99) := by
              by_cases q : ∃ j, j < n0 ∧ ¬ (-6 ≤ shf2 (it x) i j ∧ shf2 (it x) i j ≤ 6 ∧ -99 ≤ shf2 (it x) (i + 1) j ∧ shf2 (it x) (i + 1) j ≤ 99)
              · exact q
              · refine absurd (fun j hj => ?_) hg
                by_cases q2 : -6 ≤ shf2 (it x) i j ∧ shf2 (it x) i j ≤ 6 ∧ -99 ≤ shf2 (it x) (i + 1) j ∧ shf2 (it x) (i + 1) j ≤ 99
                · exact q2
                · exact absurd ⟨j, hj, q2⟩ q
            obtain ⟨j, hj, hjb⟩ := hbad
            exact same_id hJ hS2 (sp_X7_degrees_not hW.2.1 f1 (f3 x hx4).1 (f3 x hx4).2 hDt hx4 (f2 x hx4) hhe hs.1 hs.2.1 hy (by omega) ⟨hb.1, hb.2.1, hb.2.2.1⟩ hz ⟨j, hj, fun q => hjb ⟨q.1, q.2.1, q.2.2.1, q.2.2.2.1⟩⟩) (sp_X8_degrees_not1 hL hD hx4 hy (by omega) (by omega) (by omega) hmz hin hz2 ⟨j, hj, by rw [eX j hj, eY j hj]; exact hjb⟩)
        · have e2 := rfV_c (he x) (la x) (sz x) y i (2 * (n0 : Int))
          refine same_id hJ hS2 (sp_X7_degrees_ref hW.2.1 f1 (f3 x hx4).1 hDs hx4 (f2 x hx4) hhe hs.1 hs.2.1 hy zi_ hn e) ?_
          rw [← hm]
          exact sp_X8_degrees_not hL hD hx4 hy (by omega) (by omega) zi_ (by omega) (by rw [hm]; omega)
      · exact same_id hJ hS2 (sp_X7_degrees_bad zx zy zn (Or.inr (Or.inr hn))) (sp_X8_degrees_bad hL hD zx zy zi_ zn (Or.inr (Or.inr hn)))
    · exact same_id hJ hS2 (sp_X7_degrees_bad zx zy zn (Or.inr (Or.inl hy))) (sp_X8_degrees_bad hL hD zx zy zi_ zn (Or.inr (Or.inl hy)))
  · exact same_id hJ hS2 (sp_X7_degrees_bad zx zy zn (Or.inl hx)) (sp_X8_degrees_bad hL hD zx zy zi_ zn (Or.inl hx))
end
