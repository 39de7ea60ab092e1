/-! drift of both -/
theorem KR_w {R : Nat → Int} {th fx d w wn : Nat} {Y Q : Nat → Int} (hK : KR R th fx d w Y Q) {R2 : Nat → Int} (e : ∀ j, j < 31 → j ≠ 4 → R2 j = R j) (e4 : R2 4 = (wn : Int)) : KR R2 th fx d wn Y Q := by
  obtain ⟨h1, h2, h3, ⟨h4, h5, h6⟩, h7, h8⟩ := hK
  exact ⟨fun p hp => by rw [e (p + 18) (by omega) (by omega)]; exact h1 p hp, fun p hp => by rw [e (p + 5) (by omega) (by omega)]; exact h2 p hp, fun p hp => by rw [e (p + 5) (by omega) (by omega)]; exact h3 p hp, ⟨by rw [e 1 (by decide) (by decide)]; exact h4, by rw [e 2 (by decide) (by decide)]; exact h5, by rw [e 3 (by decide) (by decide)]; exact h6⟩, by rw [e 0 (by decide) (by decide)]; exact h7, e4⟩
/-- a POINT that is told anew -/
theorem told_new {R : Nat → Int} {th fx d w p : Nat} {Y Q : Nat → Int} {y : Int} (hK : KR R th fx d w Y Q) (hC : COK th fx d w Y Q) (hp : p < 13) (hy : -99 ≤ y ∧ y ≤ 99) (hc : bt th p = 1 ∨ pop th < 8) {R2 : Nat → Int} (e : ∀ j, j < 31 → j ≠ p + 5 → j ≠ p + 18 → R2 j = R j) (e1 : R2 (p + 5) = y) (e2 : R2 (p + 18) = if R (p + 18) = 0 then 1 else R (p + 18)) : KR R2 (th ||| 2 ^ p) fx d w (va_up Y p y) Q ∧ COK (th ||| 2 ^ p) fx d w (va_up Y p y) Q := by
  have hkp := hK.1 p hp
  have hfp := hC.2.2.2.2.1 p
  have b1 := bt_lt th p
  have b2 := bt_lt fx p
  have hbt : ∀ q, q ≠ p → bt (th ||| 2 ^ p) q = bt th q := fun q hq => by
    rw [bt_or, bt_pow, if_neg (fun c => hq c.symm)]
    omega
  have hbp : bt (th ||| 2 ^ p) p = 1 := by
    rw [bt_or, bt_pow, if_pos rfl]
    omega
  have hpo : pop (th ||| 2 ^ p) ≤ 8 := by
    by_cases t : bt th p = 1
    · rw [or_in hC.1 hp t]
      exact hC.2.2.2.2.2.2.1
    · have := pop_in (th := th) hp (by omega)
      omega
  refine ⟨KR_set hK (p := p) e hbt (fun _ _ => rfl) (fun q hq => vu_ne _ _ hq) ?_ (fun _ => by rw [vu_same]; exact e1) (by rw [e1]; exact hy) hp, or_lt hC.1 (pw_lt hp), hC.2.1, hC.2.2.1, hC.2.2.2.1, fun q => ?_, hC.2.2.2.2.2.1, hpo, fun q hq => ?_, hC.2.2.2.2.2.2.2.2⟩
  · rw [e2, hbp]
    by_cases z : R (p + 18) = 0
    · rw [if_pos z]
      omega
    · rw [if_neg z]
      omega
  · by_cases c : q = p
    · rw [c, hbp]
      omega
    · rw [hbt q c]
      exact hC.2.2.2.2.1 q
  · by_cases c : q = p
    · rw [c, vu_same]
      exact hy
    · rw [vu_ne _ _ c]
      exact hC.2.2.2.2.2.2.2.1 q hq
theorem dr_one {R : Nat → Int} {th fx d w k : Nat} {Y Q : Nat → Int} {H : Nat → sn} (hK : KR R th fx d w Y Q) (hC : COK th fx d w Y Q) (hP : PRs R k H) (hk : k ≤ 6) : KR (dr1 R k w) (turnT th w) fx d (turnW w) (turnY th w Y) Q ∧ COK (turnT th w) fx d (turnW w) (turnY th w Y) Q ∧ PRs (dr1 R k w) (kpN k) (nwH k H (th, fx, d, w, Y, Q)) := by
  have hw := turnW_lt w
  have hPn := PRs_nt hP hk (n := (th, fx, d, w, Y, Q)) hK hC
  unfold dr1 turnT turnY
  generalize turnW w = wn at *
  dsimp only
  have hp : wn / 65536 % 13 < 13 := Nat.mod_lt _ (by decide)
  have hy : (((wn / 65536 / 16 % 199 : Nat) : Int) - 99) ≥ -99 ∧ (((wn / 65536 / 16 % 199 : Nat) : Int) - 99) ≤ 99 := by
    have : wn / 65536 / 16 % 199 < 199 := Nat.mod_lt _ (by decide)
    omega
  generalize wn / 65536 % 13 = p at *
  generalize (((wn / 65536 / 16 % 199 : Nat) : Int) - 99) = y at *
  have hS : KR (va_up (ntR R k) 4 (wn : Int)) th fx d wn Y Q := KR_w hK (fun j hj hj4 => by rw [vu_ne _ _ hj4, ntR_lo hj]) (vu_same _ _ _)
  have hCS : COK th fx d wn Y Q := ⟨hC.1, hC.2.1, hC.2.2.1, hw, hC.2.2.2.2⟩
  have hm := KR_m0 hS hCS 13 (Nat.le_refl _)
  have hkp := hS.1 p hp
  have hfp := hC.2.2.2.2.1 p
  have b1 := bt_lt th p
  have hSe : ∀ j, 31 ≤ j → va_up (ntR R k) 4 (wn : Int) j = ntR R k j := fun j hj => vu_ne _ _ (by omega)
  generalize va_up (ntR R k) 4 (wn : Int) = S at *
  have hm2 : manyN S 0 13 = pop th := hm
  by_cases c : bt th p = 1 ∨ pop th < 8
  · rw [if_pos (show 0 < S (p + 18) ∨ manyN S 0 13 < 8 by omega), if_pos c, if_pos c]
    have h := told_new hS hCS hp ⟨hy.1, hy.2⟩ c (R2 := va_up (va_up S (p + 5) y) (p + 18) (if S (p + 18) = 0 then 1 else S (p + 18))) (fun j hj a1 a2 => by rw [vu_ne _ _ a2, vu_ne _ _ a1]) (by rw [vu_ne _ _ (by omega), vu_same]) (vu_same _ _ _)
    exact ⟨h.1, h.2, PRs_cg hPn (kp_le k hk) (fun j h1 h2 => by rw [vu_ne _ _ (by omega), vu_ne _ _ (by omega)]; exact hSe j h1)⟩
  · rw [if_neg (show ¬ (0 < S (p + 18) ∨ manyN S 0 13 < 8) by omega), if_neg c, if_neg c]
    exact ⟨hS, hCS, PRs_cg hPn (kp_le k hk) (fun j h1 h2 => hSe j h1)⟩
theorem dr_all {R : Nat → Int} {th fx d w k s : Nat} {Y Q : Nat → Int} {H : Nat → sn} (hK : KR R th fx d w Y Q) (hC : COK th fx d w Y Q) (hP : PRs R k H) (hk : k ≤ 6) : ∀ n, (dvS fx d Q (th, w, Y, k, s, H) n).2.1 = drW w n ∧ (dvS fx d Q (th, w, Y, k, s, H) n).2.2.2.1 = drU k n ∧ (dvS fx d Q (th, w, Y, k, s, H) n).2.2.2.1 ≤ 6 ∧ KR (drR R k w n) (dvS fx d Q (th, w, Y, k, s, H) n).1 fx d (dvS fx d Q (th, w, Y, k, s, H) n).2.1 (dvS fx d Q (th, w, Y, k, s, H) n).2.2.1 Q ∧ COK (dvS fx d Q (th, w, Y, k, s, H) n).1 fx d (dvS fx d Q (th, w, Y, k, s, H) n).2.1 (dvS fx d Q (th, w, Y, k, s, H) n).2.2.1 Q ∧ PRs (drR R k w n) (dvS fx d Q (th, w, Y, k, s, H) n).2.2.2.1 (dvS fx d Q (th, w, Y, k, s, H) n).2.2.2.2.2
  | 0 => ⟨rfl, rfl, hk, hK, hC, hP⟩
  | n + 1 => by
    obtain ⟨h1, h2, h3, h4, h5, h6⟩ := dr_all (s := s) hK hC hP hk n
    have h7 := dr_one h4 h5 h6 h3
    rw [dvS_1, dvS_w, dvS_y, dvS_k, drW, drU, drR, ← h1, ← h2, show (dvS fx d Q (th, w, Y, k, s, H) (n + 1)).2.2.2.2.2 = nwH (dvS fx d Q (th, w, Y, k, s, H) n).2.2.2.1 (dvS fx d Q (th, w, Y, k, s, H) n).2.2.2.2.2 ((dvS fx d Q (th, w, Y, k, s, H) n).1, fx, d, (dvS fx d Q (th, w, Y, k, s, H) n).2.1, (dvS fx d Q (th, w, Y, k, s, H) n).2.2.1, Q) from by rw [dvS]]
    exact ⟨rfl, kp_nt _, kp_le _ h3, h7.1, h7.2.1, h7.2.2⟩
section
variable {A B : Nat → Nat} {h : xH}
theorem st_drift {x : Int} (hJ : DJ A B) (hS : ST h A B) (zx : zInI x) : SAME k_X7_drift k_X8_drift [zi x] h A B := by
  have hS2 := hS
  obtain ⟨kt, ⟨th, fx, d, w, Y, Q⟩, s, k, H, kn, s2, k2, H2, l, T, he, la, sz, it, m, r, hW, hL, hR⟩ := hS
  have hD := DJ_nd hJ m r
  have hA := hW.1
  have hD4 : [(A 0), (A 1), (A 2), (A 3)].Nodup := nd_A hA (l := [0, 1, 2, 3]) (by decide) (by decide)
  have hD5 : [(A 0), (A 1), (A 2), (A 3), (A 52)].Nodup := nd_A hA (l := [0, 1, 2, 3, 52]) (by decide) (by decide)
  have hc1 : h (A 1) = zcE (ptE (A 2) (A 3) th fx d w) := hW.2.2.1.1
  have hc2 : h (A 2) = zcE (.inl (0, 13, .inl Y)) := hW.2.2.1.2.1
  have hc3 : h (A 3) = zcE (.inl (0, 3, .inl Q)) := hW.2.2.1.2.2
  have hcE : cEx h A th fx d Y Q := hW.2.2.2.2.2.2.2.2.1
  obtain ⟨st, al, sv, nd, sc, be, up, dn, ln, F, W, Bb, P, S, U, D, N_, G, hc4, hXr, hsv⟩ := hcE
  have hK : KR (r 1) th fx d w Y Q := hR.1
  have hC : COK th fx d w Y Q := hR.2.1
  have hk := KR_kOK hK
  have hP := hW.2.2.2.1
  have hu := hR.2.2.1
  by_cases hx : 1 ≤ x ∧ x ≤ 40
  · obtain ⟨n0, rfl⟩ := Int.eq_ofNat_of_zero_le (show 0 ≤ x by omega)
    have hd := dr_all (s := s) hK hC hu.2.2 hu.2.1 n0
    have hb := dvS_b (fx := fx) (d := d) (Q := Q) (w := w) (Y := Y) (H := H) hC.1 hu.2.1 hP.1 n0
    have hw4 := hK.2.2.2.2.2
    refine same_of (z := zi (pop (dvS fx d Q (th, w, Y, k, s, H) n0).1 : Int)) hJ hL (CW_post hW hb.2.2 (sp_X7_drift_ok (g := h) hW.2.1 hc1 hc2 hc3 hc4 hD5 hA hP.1 hu.2.1 hP.2 hC.1 (by omega) (fun _ _ _ => rfl))) (fun h2 hL2 hD2 => zEv_up (sp_X8_drift_ok hL2 hD2 (by omega) hk hu.1 hu.2.1 hw4 hC.2.2.2.1) (fun v h3 hq => ⟨hq.1.trans ?_, _, _, hq.2, hd.2.2.2.1, hd.2.2.2.2.1, ⟨?_, hd.2.2.1, hd.2.2.2.2.2⟩, hR.2.2.2⟩))
    · rw [KR_m0 hd.2.2.2.1 hd.2.2.2.2.1 13 (Nat.le_refl _)]
      rfl
    · rw [hd.2.1]
      rfl
  · exact same_id hJ hS2 (sp_X7_drift_bad zx hx) (sp_X8_drift_bad hL hD zx hx)
end
