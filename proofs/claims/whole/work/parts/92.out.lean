/-! out, fix of both -/
theorem bt_xp {fx p q : Nat} : bt (fx ^^^ 2 ^ p) q = if q = p then 1 - bt fx q else bt fx q := by
  rw [bt_xor, bt_pow]
  have := bt_lt fx q
  by_cases c : p = q
  · rw [if_pos c, if_pos c.symm]
    by_cases e : bt fx q = 1
    · rw [if_pos e]
      omega
    · rw [if_neg e]
      omega
  · rw [if_neg c, if_neg (show ¬ q = p from fun e => c e.symm)]
    by_cases e : bt fx q = 0
    · rw [if_pos e]
      omega
    · rw [if_neg e]
      omega
theorem pop_off {fx p : Nat} (h : bt fx p = 1) : pop (fx ^^^ 2 ^ p) ≤ pop fx :=
  popN_mono (fun q _ => by
    rw [bt_xp]
    have := bt_lt fx q
    split
    · rename_i c
      rw [c]
      omega
    · exact Nat.le_refl _)
theorem pop_on {fx p : Nat} (hfx : fx < 8192) (hp : p < 13) (h : bt fx p = 0) : pop (fx ^^^ 2 ^ p) = pop fx + 1 := by
  have e : fx ^^^ 2 ^ p = fx ||| 2 ^ p := bt_ext (xor_lt hfx (pw_lt hp)) (or_lt hfx (pw_lt hp)) (fun q _ => by
    rw [bt_xp, bt_or, bt_pow]
    by_cases c : q = p
    · rw [if_pos c, if_pos c.symm, c, h]
      rfl
    · rw [if_neg c, if_neg (fun e => c e.symm)]
      omega)
  rw [e]
  exact pop_in hp h
section
variable {A B : Nat → Nat} {h : xH}
theorem st_out {x : Int} (hJ : DJ A B) (hS : ST h A B) (zx : zInI x) : SAME k_X7_out k_X8_out [zi x] h A B := by
  have hS2 := hS
  obtain ⟨kt, ⟨th, fx, d, w, Y, Q⟩, s, k, H, kn, s2, k2, H2, l, T, he, la, sz, it, m, r, hW, hL, hR⟩ := hS
  have hD := DJ_nd hJ m r
  have hA := hW.1
  have hD4 : [(A 0), (A 1), (A 2), (A 3)].Nodup := nd_A hA (l := [0, 1, 2, 3]) (by decide) (by decide)
  have hD5 : [(A 0), (A 1), (A 2), (A 3), (A 52)].Nodup := nd_A hA (l := [0, 1, 2, 3, 52]) (by decide) (by decide)
  have hc1 : h (A 1) = zcE (ptE (A 2) (A 3) th fx d w) := hW.2.2.1.1
  have hc2 : h (A 2) = zcE (.inl (0, 13, .inl Y)) := hW.2.2.1.2.1
  have hc3 : h (A 3) = zcE (.inl (0, 3, .inl Q)) := hW.2.2.1.2.2
  have hcE : cEx h A th fx d Y Q := hW.2.2.2.2.2.2.2.2.1
  obtain ⟨st, al, sv, nd, sc, be, up, dn, ln, F, W, Bb, P, S, U, D, N_, G, hc4, hXr, hsv⟩ := hcE
  have hK : KR (r 1) th fx d w Y Q := hR.1
  have hC : COK th fx d w Y Q := hR.2.1
  have hk := KR_kOK hK
  have hP := hW.2.2.2.1
  have hu := hR.2.2.1
  by_cases hx : -6 ≤ x ∧ x ≤ 6
  · obtain ⟨p, hp, hxp⟩ : ∃ p : Nat, p < 13 ∧ x = (p : Int) - 6 := ⟨(x + 6).toNat, by omega, by omega⟩
    have hkp := hK.1 p hp
    have hfp := hC.2.2.2.2.1 p
    have b1 := bt_lt th p
    have b2 := bt_lt fx p
    have hm0 : manyN (r 1) 0 13 = pop th := KR_m0 hK hC 13 (Nat.le_refl _)
    have hm2 : manyN (r 1) 2 13 = pop fx := KR_m2 hK hC 13 (Nat.le_refl _)
    by_cases t : bt th p = 1
    · have hbt : ∀ q, q ≠ p → bt (bdiff th (2 ^ p)) q = bt th q := fun q hq => by
        rw [bt_diff, bt_pow, if_neg (fun c => hq c.symm)]
        rfl
      have hbf : ∀ q, q ≠ p → bt (bdiff fx (2 ^ p)) q = bt fx q := fun q hq => by
        rw [bt_diff, bt_pow, if_neg (fun c => hq c.symm)]
        rfl
      have hbp : bt (bdiff th (2 ^ p)) p = 0 := by
        rw [bt_diff, bt_pow, if_pos rfl]
        omega
      have hbq : bt (bdiff fx (2 ^ p)) p = 0 := by
        rw [bt_diff, bt_pow, if_pos rfl]
        omega
      have hK3 : KR (va_up (va_up (ntR (r 1) k) (p + 5) 0) (p + 18) 0) (bdiff th (2 ^ p)) (bdiff fx (2 ^ p)) d w Y Q := KR_set hK (p := p) (fun j hj a1 a2 => by rw [vu_ne _ _ a2, vu_ne _ _ a1, ntR_lo hj]) hbt hbf (fun q hq => rfl) (by rw [vu_same, hbp, hbq]; rfl) (fun q => by omega) (by rw [vu_ne _ _ (by omega), vu_same]; omega) hp
      have hC3 : COK (bdiff th (2 ^ p)) (bdiff fx (2 ^ p)) d w Y Q := ⟨bd_lt hC.1, bd_lt hC.2.1, hC.2.2.1, hC.2.2.2.1, fun q => by
          by_cases c : q = p
          · rw [c, hbp, hbq]; exact Nat.le_refl _
          · rw [hbt q c, hbf q c]; exact hC.2.2.2.2.1 q, Nat.le_trans (popN_mono (fun q _ => by rw [bt_diff]; omega)) hC.2.2.2.2.2.1, Nat.le_trans (popN_mono (fun q _ => by rw [bt_diff]; omega)) hC.2.2.2.2.2.2.1, hC.2.2.2.2.2.2.2.1, hC.2.2.2.2.2.2.2.2⟩
      refine same_of (z := zi (pop (bdiff th (2 ^ p)) : Int)) hJ hL (CW_post hW (nw_lt k hP.1) (sp_X7_out_ok hW.2.1 hc1 hc2 hc3 hc4 hD5 hA hP.1 hu.2.1 hP.2 hxp hp hC.1 hC.2.1 t)) (fun h2 hL2 hD2 => zEv_up (sp_X8_out_ok hL2 hD2 hxp hp hk hu.1 hu.2.1 (by omega)) (fun v h3 hq => ⟨hq.1.trans ?_, _, _, hq.2, RL_now hR rfl rfl (fun j h1 h2 => by rw [vu_ne _ _ (by omega), vu_ne _ _ (by omega)]) hK3 hC3⟩))
      rw [KR_m0 hK3 hC3 13 (Nat.le_refl _)]
      rfl
    · exact same_id hJ hS2 (sp_X7_out_none hW.2.1 hc1 hc2 hc3 hD4 hxp hp hC.1 (by omega)) (sp_X8_out_none hL hD hxp hp hk (by omega))
  · exact same_id hJ hS2 (sp_X7_out_bad zx hx) (sp_X8_out_bad hL hD zx hx)
theorem st_fix {x : Int} (hJ : DJ A B) (hS : ST h A B) (zx : zInI x) : SAME k_X7_fix k_X8_fix [zi x] h A B := by
  have hS2 := hS
  obtain ⟨kt, ⟨th, fx, d, w, Y, Q⟩, s, k, H, kn, s2, k2, H2, l, T, he, la, sz, it, m, r, hW, hL, hR⟩ := hS
  have hD := DJ_nd hJ m r
  have hA := hW.1
  have hD4 : [(A 0), (A 1), (A 2), (A 3)].Nodup := nd_A hA (l := [0, 1, 2, 3]) (by decide) (by decide)
  have hD5 : [(A 0), (A 1), (A 2), (A 3), (A 52)].Nodup := nd_A hA (l := [0, 1, 2, 3, 52]) (by decide) (by decide)
  have hc1 : h (A 1) = zcE (ptE (A 2) (A 3) th fx d w) := hW.2.2.1.1
  have hc2 : h (A 2) = zcE (.inl (0, 13, .inl Y)) := hW.2.2.1.2.1
  have hc3 : h (A 3) = zcE (.inl (0, 3, .inl Q)) := hW.2.2.1.2.2
  have hcE : cEx h A th fx d Y Q := hW.2.2.2.2.2.2.2.2.1
  obtain ⟨st, al, sv, nd, sc, be, up, dn, ln, F, W, Bb, P, S, U, D, N_, G, hc4, hXr, hsv⟩ := hcE
  have hK : KR (r 1) th fx d w Y Q := hR.1
  have hC : COK th fx d w Y Q := hR.2.1
  have hk := KR_kOK hK
  have hP := hW.2.2.2.1
  have hu := hR.2.2.1
  by_cases hx : -6 ≤ x ∧ x ≤ 6
  · obtain ⟨p, hp, hxp⟩ : ∃ p : Nat, p < 13 ∧ x = (p : Int) - 6 := ⟨(x + 6).toNat, by omega, by omega⟩
    have hkp := hK.1 p hp
    have hfp := hC.2.2.2.2.1 p
    have b1 := bt_lt th p
    have b2 := bt_lt fx p
    have hm0 : manyN (r 1) 0 13 = pop th := KR_m0 hK hC 13 (Nat.le_refl _)
    have hm2 : manyN (r 1) 2 13 = pop fx := KR_m2 hK hC 13 (Nat.le_refl _)
    have hd1 := hK.2.2.2.2.1
    have hd := hC.2.2.1
    have hpf := hC.2.2.2.2.2.1
    by_cases t : bt th p = 1
    · have hbf : ∀ q, q ≠ p → bt (fx ^^^ 2 ^ p) q = bt fx q := fun q hq => by rw [bt_xp, if_neg hq]
      have hbq : bt (fx ^^^ 2 ^ p) p = 1 - bt fx p := by rw [bt_xp, if_pos rfl]
      have hY2 := hK.2.1 p hp t
      have hY3 := hK.2.2.1 p hp
      by_cases f : bt fx p = 1
      · have hK3 : KR (va_up (va_up (ntR (r 1) k) (p + 5) (r 1 (p + 5))) (p + 18) 1) th (fx ^^^ 2 ^ p) d w Y Q := KR_set hK (p := p) (fun j hj a1 a2 => by rw [vu_ne _ _ a2, vu_ne _ _ a1, ntR_lo hj]) (fun _ _ => rfl) hbf (fun q hq => rfl) (by rw [vu_same, hbq]; omega) (fun q => by rw [vu_ne _ _ (by omega), vu_same]; exact hY2) (by rw [vu_ne _ _ (by omega), vu_same]; exact hY3) hp
        have hC3 : COK th (fx ^^^ 2 ^ p) d w Y Q := ⟨hC.1, xor_lt hC.2.1 (pw_lt hp), hC.2.2.1, hC.2.2.2.1, fun q => by
          by_cases c : q = p
          · rw [c, hbq]; omega
          · rw [hbf q c]; exact hC.2.2.2.2.1 q, Nat.le_trans (pop_off f) hpf, hC.2.2.2.2.2.2.1, hC.2.2.2.2.2.2.2.1, hC.2.2.2.2.2.2.2.2⟩
        exact same_of (z := zi 0) hJ hL (CW_post hW (nw_lt k hP.1) (sp_X7_fix_off hW.2.1 hc1 hc2 hc3 hc4 hD5 hA hP.1 hu.2.1 hP.2 hxp hp hC.1 hC.2.1 (by omega) t f)) (fun h2 hL2 hD2 => zEv_up (sp_X8_fix_off hL2 hD2 hxp hp hk hu.1 hu.2.1 (by omega)) (fun v h3 hq => ⟨hq.1, _, _, hq.2, RL_now hR rfl rfl (fun j h1 h2 => by rw [vu_ne _ _ (by omega), vu_ne _ _ (by omega)]) hK3 hC3⟩))
      · have f0 : bt fx p = 0 := by omega
        by_cases e : d ≤ pop fx
        · exact same_id hJ hS2 (sp_X7_fix_not hW.2.1 hc1 hc2 hc3 hD4 hxp hp hC.1 hC.2.1 (by omega) t f0 e) (sp_X8_fix_not hL hD hxp hp hk (by omega) (by omega) (by omega))
        · have hpo := pop_on hC.2.1 hp f0
          have hK3 : KR (va_up (va_up (ntR (r 1) k) (p + 5) (r 1 (p + 5))) (p + 18) 2) th (fx ^^^ 2 ^ p) d w Y Q := KR_set hK (p := p) (fun j hj a1 a2 => by rw [vu_ne _ _ a2, vu_ne _ _ a1, ntR_lo hj]) (fun _ _ => rfl) hbf (fun q hq => rfl) (by rw [vu_same, hbq]; omega) (fun q => by rw [vu_ne _ _ (by omega), vu_same]; exact hY2) (by rw [vu_ne _ _ (by omega), vu_same]; exact hY3) hp
          have hC3 : COK th (fx ^^^ 2 ^ p) d w Y Q := ⟨hC.1, xor_lt hC.2.1 (pw_lt hp), hC.2.2.1, hC.2.2.2.1, fun q => by
            by_cases c : q = p
            · rw [c, hbq]; omega
            · rw [hbf q c]; exact hC.2.2.2.2.1 q, by omega, hC.2.2.2.2.2.2.1, hC.2.2.2.2.2.2.2.1, hC.2.2.2.2.2.2.2.2⟩
          exact same_of (z := zi 1) hJ hL (CW_post hW (nw_lt k hP.1) (sp_X7_fix_on hW.2.1 hc1 hc2 hc3 hc4 hD5 hA hP.1 hu.2.1 hP.2 hxp hp hC.1 hC.2.1 (by omega) t f0 (by omega))) (fun h2 hL2 hD2 => zEv_up (sp_X8_fix_on hL2 hD2 hxp hp hk (by omega) hu.1 hu.2.1 (by omega) (by omega)) (fun v h3 hq => ⟨hq.1, _, _, hq.2, RL_now hR rfl rfl (fun j h1 h2 => by rw [vu_ne _ _ (by omega), vu_ne _ _ (by omega)]) hK3 hC3⟩))
    · exact same_id hJ hS2 (sp_X7_fix_none hW.2.1 hc1 hc2 hc3 hD4 hxp hp hC.1 (by omega)) (sp_X8_fix_none hL hD hxp hp hk (by omega))
  · exact same_id hJ hS2 (sp_X7_fix_bad zx hx) (sp_X8_fix_bad hL hD zx hx)
end
