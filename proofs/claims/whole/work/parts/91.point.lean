/-! point, out, fix of both -/
theorem zEv_up {j : Nat} {av : List zV} {h : xH} {P P2 : Option zV → xH → Prop} (k : zEv j av h P) (hq : ∀ v h2, P v h2 → P2 v h2) : zEv j av h P2 :=
  Ev.mono k (fun _ h2 ⟨v, e, hP⟩ => ⟨v, e, hq v h2 hP⟩)
theorem CW_post {A : Nat → Nat} {h : xH} {kt : Int} {n : sn} {s k : Nat} {H : Nat → sn} {kn : sn} {s2 k2 : Nat} {H2 : Nat → sn} {l : Nat} {T he la sz : Nat → Int} {it : Nat → Nat → Int} {j7 : Nat} {av : List zV} {z : zV} {s3 k3 : Nat} {H3 : Nat → sn} {th fx d w : Nat} {Y Q : Nat → Int} {st al : Int} (hW : CWd h A kt n s k H kn s2 k2 H2 l T he la sz it) (hs3 : s3 < 6)
    (hE : zEv j7 av h (fun v h2 => ∃ hb : xH, v = some z ∧ h2 = zov [((A 0), rootE A kt), ((A 1), ptE (A 2) (A 3) th fx d w), ((A 2), .inl (0, 13, .inl Y)), ((A 3), .inl (0, 3, .inl Q)), ((A 52), ehE A st al 0)] hb ∧ PBk hb A 4 s3 k3 H3 ∧ ∀ a, (∀ i, i < 24 → a ≠ A i) → a ≠ A 52 → hb a = h a)) :
    zEv j7 av h (fun v h2 => v = some z ∧ CWd h2 A kt (th, fx, d, w, Y, Q) s3 k3 H3 kn s2 k2 H2 l T he la sz it ∧ KF h2 h A) := by
  refine zEv_up hE (fun v h2 hq => ?_)
  obtain ⟨hb, hv, hg, hP, hf⟩ := hq
  refine ⟨hv, CW_st hW hs3 hg hP hf, fun a ha => ?_⟩
  rw [hg, zov_out (fun q => ?_)]
  · exact hf a (fun i hi => ha i (by omega)) (ha 52 (by decide))
  · have e : a ∈ ([0, 1, 2, 3, 52] : List Nat).map A := q
    obtain ⟨j, hj, e2⟩ := List.mem_map.mp e
    have hj2 : j < 81 := (show ∀ j ∈ ([0, 1, 2, 3, 52] : List Nat), j < 81 by decide) j hj
    exact ha j hj2 e2.symm
theorem KR_set {R R2 : Nat → Int} {th fx th2 fx2 d w : Nat} {Y Y2 Q : Nat → Int} (hK : KR R th fx d w Y Q) {p : Nat} (e : ∀ j, j < 31 → j ≠ p + 5 → j ≠ p + 18 → R2 j = R j) (ht : ∀ q, q ≠ p → bt th2 q = bt th q) (hf : ∀ q, q ≠ p → bt fx2 q = bt fx q) (hy : ∀ q, q ≠ p → Y2 q = Y q) (e1 : R2 (p + 18) = (bt th2 p : Int) + (bt fx2 p : Int)) (e2 : bt th2 p = 1 → R2 (p + 5) = Y2 p) (e3 : -99 ≤ R2 (p + 5) ∧ R2 (p + 5) ≤ 99) (hp : p < 13) : KR R2 th2 fx2 d w Y2 Q := by
  obtain ⟨h1, h2, h3, ⟨h4, h5, h6⟩, h7, h8⟩ := hK
  refine ⟨fun q hq => ?_, fun q hq hb => ?_, fun q hq => ?_, ⟨?_, ?_, ?_⟩, ?_, ?_⟩
  · by_cases c : q = p
    · rw [c]; exact e1
    · rw [e (q + 18) (by omega) (by omega) (by omega), ht q c, hf q c]; exact h1 q hq
  · by_cases c : q = p
    · rw [c] at hb ⊢; exact e2 hb
    · rw [ht q c] at hb
      rw [e (q + 5) (by omega) (by omega) (by omega), hy q c]; exact h2 q hq hb
  · by_cases c : q = p
    · rw [c]; exact e3
    · rw [e (q + 5) (by omega) (by omega) (by omega)]; exact h3 q hq
  · rw [e 1 (by omega) (by omega) (by omega)]; exact h4
  · rw [e 2 (by omega) (by omega) (by omega)]; exact h5
  · rw [e 3 (by omega) (by omega) (by omega)]; exact h6
  · rw [e 0 (by omega) (by omega) (by omega)]; exact h7
  · rw [e 4 (by omega) (by omega) (by omega)]; exact h8
theorem pop_pw : ∀ p, p < 13 → popN (2 ^ p) 13 = 1 := by decide +kernel
theorem pop_in {th p : Nat} (hp : p < 13) (h : bt th p = 0) : pop (th ||| 2 ^ p) = pop th + 1 := by
  have h1 := pop_or (a := th) (b := 2 ^ p) (fun q hq => by
    rw [bt_pow]
    by_cases c : p = q
    · rw [c, hq] at h
      omega
    · rw [if_neg c]) 13
  have h2 := pop_pw p hp
  unfold pop
  omega
theorem or_in {th p : Nat} (hth : th < 8192) (hp : p < 13) (h : bt th p = 1) : th ||| 2 ^ p = th :=
  bt_ext (or_lt hth (pw_lt hp)) hth (fun q _ => by
    rw [bt_or, bt_pow]
    have := bt_lt th q
    by_cases c : p = q
    · rw [if_pos c, ← c, h]
      rfl
    · rw [if_neg c]
      omega)
theorem KR_kOK {R : Nat → Int} {th fx d w : Nat} {Y Q : Nat → Int} (hK : KR R th fx d w Y Q) : kOK R := fun p hp => by
  have h1 := hK.1 p hp
  have h2 := bt_lt th p
  have h3 := bt_lt fx p
  omega
theorem vu_same {α : Type} (f : Nat → α) (k : Nat) (v : α) : va_up f k v k = v := if_pos rfl
theorem vu_ne {α : Type} (f : Nat → α) {k j : Nat} (v : α) (h : j ≠ k) : va_up f k v j = f j := if_neg h
section
variable {A B : Nat → Nat} {h : xH}
theorem st_point {x y : Int} (hJ : DJ A B) (hS : ST h A B) (zx : zInI x) (zy : zInI y) : SAME k_X7_point k_X8_point [zi x, zi y] h A B := by
  have hS2 := hS
  obtain ⟨kt, ⟨th, fx, d, w, Y, Q⟩, s, k, H, kn, s2, k2, H2, l, T, he, la, sz, it, m, r, hW, hL, hR⟩ := hS
  have hD := DJ_nd hJ m r
  have hA := hW.1
  have hD4 : [(A 0), (A 1), (A 2), (A 3)].Nodup := nd_A hA (l := [0, 1, 2, 3]) (by decide) (by decide)
  have hD5 : [(A 0), (A 1), (A 2), (A 3), (A 52)].Nodup := nd_A hA (l := [0, 1, 2, 3, 52]) (by decide) (by decide)
  have hc1 : h (A 1) = zcE (ptE (A 2) (A 3) th fx d w) := hW.2.2.1.1
  have hc2 : h (A 2) = zcE (.inl (0, 13, .inl Y)) := hW.2.2.1.2.1
  have hc3 : h (A 3) = zcE (.inl (0, 3, .inl Q)) := hW.2.2.1.2.2
  have hcE : cEx h A th fx d Y Q := hW.2.2.2.2.2.2.2.2.1
  obtain ⟨st, al, sv, nd, sc, be, up, dn, ln, F, W, Bb, P, S, U, D, N_, G, hc4, hXr, hsv⟩ := hcE
  have hK : KR (r 1) th fx d w Y Q := hR.1
  have hC : COK th fx d w Y Q := hR.2.1
  have hk := KR_kOK hK
  have hP := hW.2.2.2.1
  have hu := hR.2.2.1
  by_cases hx : -6 ≤ x ∧ x ≤ 6
  · by_cases hy : -99 ≤ y ∧ y ≤ 99
    · obtain ⟨p, hp, hxp⟩ : ∃ p : Nat, p < 13 ∧ x = (p : Int) - 6 := ⟨(x + 6).toNat, by omega, by omega⟩
      have hkp := hK.1 p hp
      have hfp := hC.2.2.2.2.1 p
      have b1 := bt_lt th p
      have b2 := bt_lt fx p
      have hm0 : manyN (r 1) 0 13 = pop th := KR_m0 hK hC 13 (Nat.le_refl _)
      by_cases t : bt th p = 1
      · have hYp := hK.2.1 p hp t
        have hYb := hC.2.2.2.2.2.2.2.1 p hp
        by_cases e : Y p = y
        · exact same_id hJ hS2 (sp_X7_point_not hW.2.1 hc1 hc2 hc3 hD4 hxp hp hy hC.1 t e) (sp_X8_point_not hL hD hxp hp hy hk (by omega) (by omega))
        · have hth : th ||| 2 ^ p = th := or_in hC.1 hp t
          have hK3 : KR (va_up (va_up (ntR (r 1) k) (p + 5) y) (p + 18) (r 1 (p + 18))) (th ||| 2 ^ p) fx d w (va_up Y p y) Q := KR_set hK (p := p) (fun j hj a1 a2 => by rw [vu_ne _ _ a2, vu_ne _ _ a1, ntR_lo hj]) (fun q _ => by rw [hth]) (fun _ _ => rfl) (fun q hq => vu_ne _ _ hq) (by rw [vu_same, hth]; exact hkp) (fun _ => by rw [vu_ne _ _ (by omega), vu_same, vu_same]) (by rw [vu_ne _ _ (by omega), vu_same]; exact hy) hp
          have hC3 : COK (th ||| 2 ^ p) fx d w (va_up Y p y) Q := by
            rw [hth]
            exact ⟨hC.1, hC.2.1, hC.2.2.1, hC.2.2.2.1, hC.2.2.2.2.1, hC.2.2.2.2.2.1, hC.2.2.2.2.2.2.1, fun q hq => by
              by_cases c : q = p
              · rw [c, vu_same]; exact hy
              · rw [vu_ne _ _ c]; exact hC.2.2.2.2.2.2.2.1 q hq, hC.2.2.2.2.2.2.2.2⟩
          refine same_of (z := zi (pop (th ||| 2 ^ p) : Int)) hJ hL (CW_post hW (nw_lt k hP.1) (sp_X7_point_ok hW.2.1 hc1 hc2 hc3 hc4 hD5 hA hP.1 hu.2.1 hP.2 hxp hp hy hC.1 (Or.inl ⟨t, e, hYb⟩))) (fun h2 hL2 hD2 => zEv_up (sp_X8_point_chg hL2 hD2 hxp hp hy hk hu.1 hu.2.1 (by omega) (by omega) (by omega)) (fun v h3 hq => ⟨hq.1.trans ?_, _, _, hq.2, RL_now hR rfl rfl (fun j h1 h2 => by rw [vu_ne _ _ (by omega), vu_ne _ _ (by omega)]) hK3 hC3⟩))
          rw [KR_m0 hK3 hC3 13 (Nat.le_refl _)]
          rfl
      · have t0 : bt th p = 0 := by omega
        by_cases e : 8 ≤ pop th
        · have h8 := hC.2.2.2.2.2.2.1
          exact same_id hJ hS2 (sp_X7_point_full hW.2.1 hc1 hc2 hc3 hD4 hxp hp hy hC.1 t0 e) (sp_X8_point_full hL hD hxp hp hy hk (by omega) (by omega))
        · have hbt : ∀ q, q ≠ p → bt (th ||| 2 ^ p) q = bt th q := fun q hq => by
            rw [bt_or, bt_pow, if_neg (fun c => hq c.symm)]
            omega
          have hbp : bt (th ||| 2 ^ p) p = 1 := by
            rw [bt_or, bt_pow, if_pos rfl]
            omega
          have hK3 : KR (va_up (va_up (ntR (r 1) k) (p + 5) y) (p + 18) 1) (th ||| 2 ^ p) fx d w (va_up Y p y) Q := KR_set hK (p := p) (fun j hj a1 a2 => by rw [vu_ne _ _ a2, vu_ne _ _ a1, ntR_lo hj]) hbt (fun _ _ => rfl) (fun q hq => vu_ne _ _ hq) (by rw [vu_same, hbp]; omega) (fun _ => by rw [vu_ne _ _ (by omega), vu_same, vu_same]) (by rw [vu_ne _ _ (by omega), vu_same]; exact hy) hp
          have hpi := pop_in hp t0
          have hC3 : COK (th ||| 2 ^ p) fx d w (va_up Y p y) Q := ⟨or_lt hC.1 (pw_lt hp), hC.2.1, hC.2.2.1, hC.2.2.2.1, fun q => by
              by_cases c : q = p
              · rw [c, hbp]; omega
              · rw [hbt q c]; exact hC.2.2.2.2.1 q, hC.2.2.2.2.2.1, by omega, fun q hq => by
              by_cases c : q = p
              · rw [c, vu_same]; exact hy
              · rw [vu_ne _ _ c]; exact hC.2.2.2.2.2.2.2.1 q hq, hC.2.2.2.2.2.2.2.2⟩
          refine same_of (z := zi (pop (th ||| 2 ^ p) : Int)) hJ hL (CW_post hW (nw_lt k hP.1) (sp_X7_point_ok hW.2.1 hc1 hc2 hc3 hc4 hD5 hA hP.1 hu.2.1 hP.2 hxp hp hy hC.1 (Or.inr ⟨t0, by omega⟩))) (fun h2 hL2 hD2 => zEv_up (sp_X8_point_new hL2 hD2 hxp hp hy hk hu.1 hu.2.1 (by omega) (by omega)) (fun v h3 hq => ⟨hq.1.trans ?_, _, _, hq.2, RL_now hR rfl rfl (fun j h1 h2 => by rw [vu_ne _ _ (by omega), vu_ne _ _ (by omega)]) hK3 hC3⟩))
          rw [KR_m0 hK3 hC3 13 (Nat.le_refl _)]
          rfl
    · exact same_id hJ hS2 (sp_X7_point_bad zx zy (Or.inr hy)) (sp_X8_point_bad2 hL hD zx zy hx hy)
  · exact same_id hJ hS2 (sp_X7_point_bad zx zy (Or.inl hx)) (sp_X8_point_bad1 hL hD zx zy hx)
end
