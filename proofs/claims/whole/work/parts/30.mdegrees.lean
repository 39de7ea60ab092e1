/-! the reference's read, isOn, degrees -/
theorem pt_K {T : Nat → Int} {L dg : Nat} : ∀ {n a : Nat} {Y K : Nat → Int} {f : Nat}, (∀ p, p < 13 → 0 ≤ K p ∧ K p ≤ 2) → ∀ p, p < 13 → 0 ≤ (ptR T L dg n a Y K f).2.2.2.1 p ∧ (ptR T L dg n a Y K f).2.2.2.1 p ≤ 2
  | 0, _, _, _, _, h => h
  | n + 1, a, Y, K, f, h => by
    rw [ptR]
    split
    · split
      · exact h
      · exact pt_K (rpK_b2 h)
    · exact h
def rowQ (Q S : Nat → Int) (k : Nat) : Nat → Int := fun j => if 1 ≤ j ∧ j < 1 + k then Q (j - 1) else S j
theorem rowQ_0 (Q S : Nat → Int) : rowQ Q S 0 = S := by
  funext j
  unfold rowQ
  rw [if_neg (by omega)]
theorem rowQ_s {Q S : Nat → Int} {k : Nat} (h : k < 3) : va_up (rowQ Q S k) (1 + k) (Q k) = rowQ Q S (k + 1) := by
  funext j
  simp only [va_up, rowQ]
  by_cases e : j = 1 + k
  · subst e
    rw [if_pos rfl, if_pos (by omega), show 1 + k - 1 = k from by omega]
  · rw [if_neg e]
    by_cases h2 : 1 ≤ j ∧ j < 1 + k
    · rw [if_pos h2, if_pos (by omega)]
    · rw [if_neg h2, if_neg (by omega)]
def rowT (Y K S : Nat → Int) (k : Nat) : Nat → Int := fun j => if 5 ≤ j ∧ j < 5 + k then Y (j - 5) else if 18 ≤ j ∧ j < 18 + k then K (j - 18) else S j
theorem rowT_0 (Y K S : Nat → Int) : rowT Y K S 0 = S := by
  funext j
  unfold rowT
  rw [if_neg (by omega), if_neg (by omega)]
theorem rowT_s {Y K S : Nat → Int} {k : Nat} (h : k < 13) : va_up (va_up (rowT Y K S k) (5 + k) (Y k)) (18 + k) (K k) = rowT Y K S (k + 1) := by
  funext j
  simp only [va_up, rowT]
  by_cases e : j = 18 + k
  · subst e
    rw [if_pos rfl, if_neg (by omega), if_pos (by omega), show 18 + k - 18 = k from by omega]
  · rw [if_neg e]
    by_cases e2 : j = 5 + k
    · subst e2
      rw [if_pos rfl, if_pos (by omega), show 5 + k - 5 = k from by omega]
    · rw [if_neg e2]
      by_cases h2 : 5 ≤ j ∧ j < 5 + k
      · rw [if_pos h2, if_pos (by omega)]
      · rw [if_neg h2, if_neg (show ¬ (5 ≤ j ∧ j < 5 + (k + 1)) by omega)]
        by_cases h3 : 18 ≤ j ∧ j < 18 + k
        · rw [if_pos h3, if_pos (by omega)]
        · rw [if_neg h3, if_neg (by omega)]
theorem rowT_ok {Y K S : Nat → Int} (h : ∀ p, p < 13 → 0 ≤ K p ∧ K p ≤ 2) : kOK (rowT Y K S 13) := fun p hp => by
  have e : rowT Y K S 13 (p + 18) = K p := by
    unfold rowT
    rw [if_neg (by omega), if_pos (by omega), show p + 18 - 18 = p from by omega]
  rw [e]
  exact h p hp
def shf (f : Nat → Int) (s : Nat) : Nat → Int := fun j => f (s + j)
def shf2 (f : Nat → Int) (s : Nat) : Nat → Int := fun j => f (s + 2 * j)
def ioN (f g : Nat → Int) (n : Nat) : Nat → Int
  | 0 => 0
  | i + 1 => ioN f g n i + (if i % 2 = 0 then g i * dfA f i n n else -(g i * dfA f i n n))
def ioV (z : Int) : Int := if z = 0 then 1 else 0
theorem sp_X8_read_fail {h : xH} {A : Nat → Nat} {m : Nat → Int} {r : Nat → Nat → Int} {L : Nat} (hL : ∀ q ∈ LM A m r, h q.1 = zcE q.2) (hD : zND (LM A m r)) (hm5 : m 5 = (L : Int)) (hL9 : L ≤ 90) (hT : ∀ j, j < L → 32 ≤ r 3 j ∧ r 3 j ≤ 126) (hv : txV (r 3) L (cpF zF (r 7) 3) (cpF zF (r 8) 13) (cpF zF (r 9) 13) = 0) : zEv k_X8_read [za (A 0)] h (fun v h2 => ∃ c1 : Int, ∃ e1 : Int, ∃ x7 : Nat → Int, ∃ x8 : Nat → Int, ∃ x9 : Nat → Int, ∃ x10 : Nat → Int, v = some (zi (-20 - (txA (r 3) L (cpF zF (r 7) 3) (cpF zF (r 8) 13) (cpF zF (r 9) 13) : Int))) ∧ h2 = zov (LM A (va_up (va_up (va_up (va_up m 5 0) 9 (txA (r 3) L (cpF zF (r 7) 3) (cpF zF (r 8) 13) (cpF zF (r 9) 13) : Int)) 10 c1) 14 e1) (va_up (va_up (va_up (va_up r 7 x7) 8 x8) 9 x9) 10 x10)) h) := by
  have hh : h = zov (LM A m r) h := zov_self hL
  refine zEv.body (I := (8, xI_X8_read, 4, 5, 117, 0, 0, false)) (rt := (some .int)) [some (za (A 0)), none, none, none] rfl rfl rfl rfl ?_
  refine Zn.eq rfl rfl rfl hh ?_
  have hD : zND (LM A m r) := hD
  refine Zn.seg (pc2 := 1) (ls2 := [some (za (A 0)), none, none, none]) (st2 := [za (A 0)]) [(0, .aload_n 0)] (by decide +kernel) rfl ?_
  refine Zn.call (ins := .invokevirtual 175) [za (A 0)] [] (by decide +kernel) rfl rfl rfl ⟨rfl, rfl⟩ ⟨rfl, rfl, rfl⟩ rfl (zrecvV hD (p := 0) rfl rfl rfl) (sp_X8_readsAll_A (A := A) (m := m) (r := r) (L := L) (zov_all hD) hD (hm5) (hL9) (hT)) (fun v h2 hp => ?_)
  obtain ⟨c1, e1, x7, x8, x9, x10, rfl, hq_1, hfx⟩ := hp
  refine Zn.eq (pc2 := 4) (ls2 := [some (za (A 0)), none, none, none]) (st2 := [zi (txV (r 3) L (cpF zF (r 7) 3) (cpF zF (r 8) 13) (cpF zF (r 9) 13))]) (h2 := zov (LM A (va_up (va_up (va_up m 9 (txA (r 3) L (cpF zF (r 7) 3) (cpF zF (r 8) 13) (cpF zF (r 9) 13) : Int)) 10 c1) 14 e1) (va_up (va_up (va_up (va_up r 7 x7) 8 x8) 9 x9) 10 x10)) h) rfl rfl rfl (hq_1.trans (LM_over _ _ _ _ _ _)) ?_
  have hD : zND (LM A (va_up (va_up (va_up m 9 (txA (r 3) L (cpF zF (r 7) 3) (cpF zF (r 8) 13) (cpF zF (r 9) 13) : Int)) 10 c1) 14 e1) (va_up (va_up (va_up (va_up r 7 x7) 8 x8) 9 x9) 10 x10)) := hD
  refine Zn.seg (pc2 := 6) (ls2 := [some (za (A 0)), some (zi (txV (r 3) L (cpF zF (r 7) 3) (cpF zF (r 8) 13) (cpF zF (r 9) 13))), none, none]) (st2 := [zi (txV (r 3) L (cpF zF (r 7) 3) (cpF zF (r 8) 13) (cpF zF (r 9) 13))]) [(4, .istore_n 1), (5, .iload_n 1)] (by decide +kernel) rfl ?_
  refine Zn.ifc (c := .eq) (off := 7) 13 (by decide +kernel) rfl ⟨by omega, by omega⟩ (fun c_2 => ?_) (fun c_2 => absurd (show txV (r 3) L (cpF zF (r 7) 3) (cpF zF (r 8) 13) (cpF zF (r 9) 13) = 0 from by omega) c_2)
  have c_2 : txV (r 3) L (cpF zF (r 7) 3) (cpF zF (r 8) 13) (cpF zF (r 9) 13) = 0 := c_2
  refine Zn.seg (pc2 := 14) (ls2 := [some (za (A 0)), some (zi (txV (r 3) L (cpF zF (r 7) 3) (cpF zF (r 8) 13) (cpF zF (r 9) 13))), none, none]) (st2 := [za (A 0)]) [(13, .aload_n 0)] (by decide +kernel) rfl ?_
  refine Zn.get (ix := 142) hD 0 (by decide +kernel) rfl rfl rfl ?_
  refine Zn.eq (st2 := [zi (txA (r 3) L (cpF zF (r 7) 3) (cpF zF (r 8) 13) (cpF zF (r 9) 13) : Int)]) rfl rfl rfl rfl ?_
  refine Zn.seg (pc2 := 20) (ls2 := [some (za (A 0)), some (zi (txV (r 3) L (cpF zF (r 7) 3) (cpF zF (r 8) 13) (cpF zF (r 9) 13))), some (zi (txA (r 3) L (cpF zF (r 7) 3) (cpF zF (r 8) 13) (cpF zF (r 9) 13) : Int)), none]) (st2 := [zi 0, za (A 0)]) [(17, .istore_n 2), (18, .aload_n 0), (19, .iconst 0)] (by decide +kernel) rfl ?_
  refine Zn.put (ix := 139) hD 0 (by decide +kernel) rfl rfl rfl rfl rfl ?_
  refine Zn.eq (h2 := zov (LM A (va_up (va_up (va_up (va_up m 5 0) 9 (txA (r 3) L (cpF zF (r 7) 3) (cpF zF (r 8) 13) (cpF zF (r 9) 13) : Int)) 10 c1) 14 e1) (va_up (va_up (va_up (va_up r 7 x7) 8 x8) 9 x9) 10 x10)) h) rfl rfl rfl rfl ?_
  have hD : zND (LM A (va_up (va_up (va_up (va_up m 5 0) 9 (txA (r 3) L (cpF zF (r 7) 3) (cpF zF (r 8) 13) (cpF zF (r 9) 13) : Int)) 10 c1) 14 e1) (va_up (va_up (va_up (va_up r 7 x7) 8 x8) 9 x9) 10 x10)) := hD
  refine Zn.seg (pc2 := 24) (ls2 := [some (za (A 0)), some (zi (txV (r 3) L (cpF zF (r 7) 3) (cpF zF (r 8) 13) (cpF zF (r 9) 13))), some (zi (txA (r 3) L (cpF zF (r 7) 3) (cpF zF (r 8) 13) (cpF zF (r 9) 13) : Int)), none]) (st2 := [zi (txV (r 3) L (cpF zF (r 7) 3) (cpF zF (r 8) 13) (cpF zF (r 9) 13))]) [(23, .iload_n 1)] (by decide +kernel) rfl ?_
  refine Zn.ifc (c := .ne) (off := 8) 32 (by decide +kernel) rfl ⟨by omega, by omega⟩ (fun c_3 => absurd (show txV (r 3) L (cpF zF (r 7) 3) (cpF zF (r 8) 13) (cpF zF (r 9) 13) ≠ 0 from c_3) (by omega)) (fun c_3 => ?_)
  have c_3 : ¬ (txV (r 3) L (cpF zF (r 7) 3) (cpF zF (r 8) 13) (cpF zF (r 9) 13) ≠ 0) := c_3
  refine Zn.seg (pc2 := 31) (ls2 := [some (za (A 0)), some (zi (txV (r 3) L (cpF zF (r 7) 3) (cpF zF (r 8) 13) (cpF zF (r 9) 13))), some (zi (txA (r 3) L (cpF zF (r 7) 3) (cpF zF (r 8) 13) (cpF zF (r 9) 13) : Int)), none]) (st2 := [zi ((-20) - (txA (r 3) L (cpF zF (r 7) 3) (cpF zF (r 8) 13) (cpF zF (r 9) 13) : Int))]) [(27, .bipush (-20)), (29, .iload_n 2), (30, .isub)] (by decide +kernel) rfl ?_
  exact Zn.iret (by decide +kernel) rfl (⟨c1, e1, x7, x8, x9, x10, rfl, rfl⟩)
set_option maxHeartbeats 1000000 in
theorem sp_X8_read_ok {h : xH} {A : Nat → Nat} {m : Nat → Int} {r : Nat → Nat → Int} {L u : Nat} (hL : ∀ q ∈ LM A m r, h q.1 = zcE q.2) (hD : zND (LM A m r)) (hm5 : m 5 = (L : Int)) (hL9 : L ≤ 90) (hT : ∀ j, j < L → 32 ≤ r 3 j ∧ r 3 j ≤ 126) (hv : txV (r 3) L (cpF zF (r 7) 3) (cpF zF (r 8) 13) (cpF zF (r 9) 13) = 1) (hu : m 1 = (u : Int)) (hu6 : u ≤ 6) : zEv k_X8_read [za (A 0)] h (fun v h2 => ∃ c1 : Int, ∃ e1 : Int, ∃ x7 : Nat → Int, ∃ x8 : Nat → Int, ∃ x9 : Nat → Int, ∃ x10 : Nat → Int, v = some (zi (manyN (rowT x8 x9 (rowQ x7 (va_up (ntR (r 1) u) 0 c1) 3) 13) 0 13 : Int)) ∧ h2 = zov (LM A (va_up (va_up (va_up (va_up (va_up m 1 (ntU u : Int)) 5 0) 9 (txA (r 3) L (cpF zF (r 7) 3) (cpF zF (r 8) 13) (cpF zF (r 9) 13) : Int)) 10 c1) 14 e1) (va_up (va_up (va_up (va_up (va_up r 1 (rowT x8 x9 (rowQ x7 (va_up (ntR (r 1) u) 0 c1) 3) 13)) 7 x7) 8 x8) 9 x9) 10 x10)) h ∧ c1 = (((cur (r 3) L (sk (r 3) L 0) - 48)).toNat : Int) ∧ x7 = (bnR (r 3) (cpF zF (r 9) 13) L 3 (tkA (r 3) L ((sk (r 3) L 0) + 1) 59) (cpF zF (r 7) 3) 0).2.2 ∧ x8 = (ptR (r 3) L (cur (r 3) L (sk (r 3) L 0) - 48).toNat 8 (bnR (r 3) (cpF zF (r 9) 13) L 3 (tkA (r 3) L ((sk (r 3) L 0) + 1) 59) (cpF zF (r 7) 3) 0).2.1 (cpF zF (r 8) 13) (cpF zF (r 9) 13) 0).2.2.1 ∧ x9 = (ptR (r 3) L (cur (r 3) L (sk (r 3) L 0) - 48).toNat 8 (bnR (r 3) (cpF zF (r 9) 13) L 3 (tkA (r 3) L ((sk (r 3) L 0) + 1) 59) (cpF zF (r 7) 3) 0).2.1 (cpF zF (r 8) 13) (cpF zF (r 9) 13) 0).2.2.2.1) := by
  have hh : h = zov (LM A m r) h := zov_self hL
  refine zEv.body (I := (8, xI_X8_read, 4, 5, 117, 0, 0, false)) (rt := (some .int)) [some (za (A 0)), none, none, none] rfl rfl rfl rfl ?_
  refine Zn.eq rfl rfl rfl hh ?_
  have hD : zND (LM A m r) := hD
  refine Zn.seg (pc2 := 1) (ls2 := [some (za (A 0)), none, none, none]) (st2 := [za (A 0)]) [(0, .aload_n 0)] (by decide +kernel) rfl ?_
  refine Zn.call (ins := .invokevirtual 175) [za (A 0)] [] (by decide +kernel) rfl rfl rfl ⟨rfl, rfl⟩ ⟨rfl, rfl, rfl⟩ rfl (zrecvV hD (p := 0) rfl rfl rfl) (sp_X8_readsAll_A (A := A) (m := m) (r := r) (L := L) (zov_all hD) hD (hm5) (hL9) (hT)) (fun v h2 hp => ?_)
  obtain ⟨c1, e1, x7, x8, x9, x10, rfl, hq_1, hfx⟩ := hp
  refine Zn.eq (pc2 := 4) (ls2 := [some (za (A 0)), none, none, none]) (st2 := [zi (txV (r 3) L (cpF zF (r 7) 3) (cpF zF (r 8) 13) (cpF zF (r 9) 13))]) (h2 := zov (LM A (va_up (va_up (va_up m 9 (txA (r 3) L (cpF zF (r 7) 3) (cpF zF (r 8) 13) (cpF zF (r 9) 13) : Int)) 10 c1) 14 e1) (va_up (va_up (va_up (va_up r 7 x7) 8 x8) 9 x9) 10 x10)) h) rfl rfl rfl (hq_1.trans (LM_over _ _ _ _ _ _)) ?_
  have hD : zND (LM A (va_up (va_up (va_up m 9 (txA (r 3) L (cpF zF (r 7) 3) (cpF zF (r 8) 13) (cpF zF (r 9) 13) : Int)) 10 c1) 14 e1) (va_up (va_up (va_up (va_up r 7 x7) 8 x8) 9 x9) 10 x10)) := hD
  have hf2 := hfx hv
  have hx9 := (by rw [(hfx hv).2.2.2]; exact pt_K (kz_b _) : ∀ p, p < 13 → 0 ≤ x9 p ∧ x9 p ≤ 2)
  refine Zn.seg (pc2 := 6) (ls2 := [some (za (A 0)), some (zi (txV (r 3) L (cpF zF (r 7) 3) (cpF zF (r 8) 13) (cpF zF (r 9) 13))), none, none]) (st2 := [zi (txV (r 3) L (cpF zF (r 7) 3) (cpF zF (r 8) 13) (cpF zF (r 9) 13))]) [(4, .istore_n 1), (5, .iload_n 1)] (by decide +kernel) rfl ?_
  refine Zn.ifc (c := .eq) (off := 7) 13 (by decide +kernel) rfl ⟨by omega, by omega⟩ (fun c_2 => absurd (show txV (r 3) L (cpF zF (r 7) 3) (cpF zF (r 8) 13) (cpF zF (r 9) 13) = 0 from c_2) (by omega)) (fun c_2 => ?_)
  have c_2 : ¬ (txV (r 3) L (cpF zF (r 7) 3) (cpF zF (r 8) 13) (cpF zF (r 9) 13) = 0) := c_2
  refine Zn.seg (pc2 := 20) (ls2 := [some (za (A 0)), some (zi (txV (r 3) L (cpF zF (r 7) 3) (cpF zF (r 8) 13) (cpF zF (r 9) 13))), some (zi 0), none]) (st2 := [zi 0, za (A 0)]) [(9, .iconst 0), (10, .goto 7), (17, .istore_n 2), (18, .aload_n 0), (19, .iconst 0)] (by decide +kernel) rfl ?_
  refine Zn.put (ix := 139) hD 0 (by decide +kernel) rfl rfl rfl rfl rfl ?_
  refine Zn.eq (h2 := zov (LM A (va_up (va_up (va_up (va_up m 5 0) 9 (txA (r 3) L (cpF zF (r 7) 3) (cpF zF (r 8) 13) (cpF zF (r 9) 13) : Int)) 10 c1) 14 e1) (va_up (va_up (va_up (va_up r 7 x7) 8 x8) 9 x9) 10 x10)) h) rfl rfl rfl rfl ?_
  have hD : zND (LM A (va_up (va_up (va_up (va_up m 5 0) 9 (txA (r 3) L (cpF zF (r 7) 3) (cpF zF (r 8) 13) (cpF zF (r 9) 13) : Int)) 10 c1) 14 e1) (va_up (va_up (va_up (va_up r 7 x7) 8 x8) 9 x9) 10 x10)) := hD
  refine Zn.seg (pc2 := 24) (ls2 := [some (za (A 0)), some (zi (txV (r 3) L (cpF zF (r 7) 3) (cpF zF (r 8) 13) (cpF zF (r 9) 13))), some (zi 0), none]) (st2 := [zi (txV (r 3) L (cpF zF (r 7) 3) (cpF zF (r 8) 13) (cpF zF (r 9) 13))]) [(23, .iload_n 1)] (by decide +kernel) rfl ?_
  refine Zn.ifc (c := .ne) (off := 8) 32 (by decide +kernel) rfl ⟨by omega, by omega⟩ (fun c_3 => ?_) (fun c_3 => absurd (show txV (r 3) L (cpF zF (r 7) 3) (cpF zF (r 8) 13) (cpF zF (r 9) 13) ≠ 0 from by omega) c_3)
  have c_3 : txV (r 3) L (cpF zF (r 7) 3) (cpF zF (r 8) 13) (cpF zF (r 9) 13) ≠ 0 := c_3
  refine Zn.seg (pc2 := 33) (ls2 := [some (za (A 0)), some (zi (txV (r 3) L (cpF zF (r 7) 3) (cpF zF (r 8) 13) (cpF zF (r 9) 13))), some (zi 0), none]) (st2 := [za (A 0)]) [(32, .aload_n 0)] (by decide +kernel) rfl ?_
  refine Zn.call (ins := .invokevirtual 105) [za (A 0)] [] (by decide +kernel) rfl rfl rfl ⟨rfl, rfl⟩ ⟨rfl, rfl, rfl⟩ rfl (zrecvV hD (p := 0) rfl rfl rfl) (sp_X8_notes (A := A) (m := va_up (va_up (va_up (va_up m 5 0) 9 (txA (r 3) L (cpF zF (r 7) 3) (cpF zF (r 8) 13) (cpF zF (r 9) 13) : Int)) 10 c1) 14 e1) (r := va_up (va_up (va_up (va_up r 7 x7) 8 x8) 9 x9) 10 x10) (u := u) (zov_all hD) hD (hu) (hu6)) (fun v h2 hp => ?_)
  obtain ⟨rfl, hq_4⟩ := hp
  refine Zn.eq (pc2 := 36) (ls2 := [some (za (A 0)), some (zi (txV (r 3) L (cpF zF (r 7) 3) (cpF zF (r 8) 13) (cpF zF (r 9) 13))), some (zi 0), none]) (st2 := []) (h2 := zov (LM A (va_up (va_up (va_up (va_up (va_up m 1 (ntU u : Int)) 5 0) 9 (txA (r 3) L (cpF zF (r 7) 3) (cpF zF (r 8) 13) (cpF zF (r 9) 13) : Int)) 10 c1) 14 e1) (va_up (va_up (va_up (va_up (va_up r 1 (ntR ((r 1)) u)) 7 x7) 8 x8) 9 x9) 10 x10)) h) rfl rfl rfl (hq_4.trans ((LM_over _ _ _ _ _ _).trans rfl)) ?_
  have hD : zND (LM A (va_up (va_up (va_up (va_up (va_up m 1 (ntU u : Int)) 5 0) 9 (txA (r 3) L (cpF zF (r 7) 3) (cpF zF (r 8) 13) (cpF zF (r 9) 13) : Int)) 10 c1) 14 e1) (va_up (va_up (va_up (va_up (va_up r 1 (ntR ((r 1)) u)) 7 x7) 8 x8) 9 x9) 10 x10)) := hD
  refine Zn.seg (pc2 := 37) (ls2 := [some (za (A 0)), some (zi (txV (r 3) L (cpF zF (r 7) 3) (cpF zF (r 8) 13) (cpF zF (r 9) 13))), some (zi 0), none]) (st2 := [za (A 0)]) [(36, .aload_n 0)] (by decide +kernel) rfl ?_
  refine Zn.get (ix := 7) hD 0 (by decide +kernel) rfl rfl rfl ?_
  refine Zn.seg (pc2 := 42) (ls2 := [some (za (A 0)), some (zi (txV (r 3) L (cpF zF (r 7) 3) (cpF zF (r 8) 13) (cpF zF (r 9) 13))), some (zi 0), none]) (st2 := [za (A 0), zi 0, za (A 1)]) [(40, .iconst 0), (41, .aload_n 0)] (by decide +kernel) rfl ?_
  refine Zn.get (ix := 166) hD 0 (by decide +kernel) rfl rfl rfl ?_
  refine Zn.eq (st2 := [zi c1, zi 0, za (A 1)]) rfl rfl rfl rfl ?_
  refine Zn.iast hD 1 (0) (by decide +kernel) rfl (rfl) (by decide) rfl ?_
  refine Zn.eq (h2 := zov (LM A (va_up (va_up (va_up (va_up (va_up m 1 (ntU u : Int)) 5 0) 9 (txA (r 3) L (cpF zF (r 7) 3) (cpF zF (r 8) 13) (cpF zF (r 9) 13) : Int)) 10 c1) 14 e1) (va_up (va_up (va_up (va_up (va_up r 1 (va_up (ntR ((r 1)) u) 0 c1)) 7 x7) 8 x8) 9 x9) 10 x10)) h) rfl rfl rfl (rfl) ?_
  have hD : zND (LM A (va_up (va_up (va_up (va_up (va_up m 1 (ntU u : Int)) 5 0) 9 (txA (r 3) L (cpF zF (r 7) 3) (cpF zF (r 8) 13) (cpF zF (r 9) 13) : Int)) 10 c1) 14 e1) (va_up (va_up (va_up (va_up (va_up r 1 (va_up (ntR ((r 1)) u) 0 c1)) 7 x7) 8 x8) 9 x9) 10 x10)) := hD
  refine Zn.seg (pc2 := 48) (ls2 := [some (za (A 0)), some (zi (txV (r 3) L (cpF zF (r 7) 3) (cpF zF (r 8) 13) (cpF zF (r 9) 13))), some (zi 0), some (zi 0)]) (st2 := []) [(46, .iconst 0), (47, .istore_n 3)] (by decide +kernel) rfl ?_
  refine Zn.eq (pc2 := 48) (ls2 := [some (za (A 0)), some (zi (txV (r 3) L (cpF zF (r 7) 3) (cpF zF (r 8) 13) (cpF zF (r 9) 13))), some (zi 0), some (zi (0 : Int))]) (st2 := []) (h2 := zov (LM A (va_up (va_up (va_up (va_up (va_up m 1 (ntU u : Int)) 5 0) 9 (txA (r 3) L (cpF zF (r 7) 3) (cpF zF (r 8) 13) (cpF zF (r 9) 13) : Int)) 10 c1) 14 e1) (va_up (va_up (va_up (va_up (va_up r 1 (rowQ x7 (va_up (ntR (r 1) u) 0 c1) 0)) 7 x7) 8 x8) 9 x9) 10 x10)) h) rfl rfl rfl (by rw [rowQ_0]) ?_
  have hD : zND (LM A (va_up (va_up (va_up (va_up (va_up m 1 (ntU u : Int)) 5 0) 9 (txA (r 3) L (cpF zF (r 7) 3) (cpF zF (r 8) 13) (cpF zF (r 9) 13) : Int)) 10 c1) 14 e1) (va_up (va_up (va_up (va_up (va_up r 1 (rowQ x7 (va_up (ntR (r 1) u) 0 c1) 0)) 7 x7) 8 x8) 9 x9) 10 x10)) := hD
  refine xloop (P := fun i_5 => Zn (8, xI_X8_read, 4, 5, 117, 0, 0, false) (some .int) 48 [some (za (A 0)), some (zi (txV (r 3) L (cpF zF (r 7) 3) (cpF zF (r 8) 13) (cpF zF (r 9) 13))), some (zi 0), some (zi (i_5 : Int))] [] (zov (LM A (va_up (va_up (va_up (va_up (va_up m 1 (ntU u : Int)) 5 0) 9 (txA (r 3) L (cpF zF (r 7) 3) (cpF zF (r 8) 13) (cpF zF (r 9) 13) : Int)) 10 c1) 14 e1) (va_up (va_up (va_up (va_up (va_up r 1 (rowQ x7 (va_up (ntR (r 1) u) 0 c1) i_5)) 7 x7) 8 x8) 9 x9) 10 x10)) h) _) (3) (fun i_5 hi_6 ih_7 => ?_) ?_
  · have hi_ : i_5 < 3 := hi_6
    refine Zn.seg (pc2 := 50) (ls2 := [some (za (A 0)), some (zi (txV (r 3) L (cpF zF (r 7) 3) (cpF zF (r 8) 13) (cpF zF (r 9) 13))), some (zi 0), some (zi (i_5 : Int))]) (st2 := [zi 3, zi (i_5 : Int)]) [(48, .iload_n 3), (49, .iconst 3)] (by decide +kernel) rfl ?_
    refine Zn.icmp (c := .ge) (off := 23) 73 (by decide +kernel) rfl ⟨by omega, by omega⟩ ⟨by decide, by decide⟩ (fun c_8 => absurd (show 3 ≤ (i_5 : Int) from c_8) (by omega)) (fun c_8 => ?_)
    have c_8 : ¬ (3 ≤ (i_5 : Int)) := c_8
    refine Zn.seg (pc2 := 54) (ls2 := [some (za (A 0)), some (zi (txV (r 3) L (cpF zF (r 7) 3) (cpF zF (r 8) 13) (cpF zF (r 9) 13))), some (zi 0), some (zi (i_5 : Int))]) (st2 := [za (A 0)]) [(53, .aload_n 0)] (by decide +kernel) rfl ?_
    refine Zn.get (ix := 7) hD 0 (by decide +kernel) rfl rfl rfl ?_
    refine Zn.seg (pc2 := 61) (ls2 := [some (za (A 0)), some (zi (txV (r 3) L (cpF zF (r 7) 3) (cpF zF (r 8) 13) (cpF zF (r 9) 13))), some (zi 0), some (zi (i_5 : Int))]) (st2 := [za (A 0), zi (1 + (i_5 : Int)), za (A 1)]) [(57, .iconst 1), (58, .iload_n 3), (59, .iadd), (60, .aload_n 0)] (by decide +kernel) rfl ?_
    refine Zn.get (ix := 33) hD 0 (by decide +kernel) rfl rfl rfl ?_
    refine Zn.seg (pc2 := 65) (ls2 := [some (za (A 0)), some (zi (txV (r 3) L (cpF zF (r 7) 3) (cpF zF (r 8) 13) (cpF zF (r 9) 13))), some (zi 0), some (zi (i_5 : Int))]) (st2 := [zi (i_5 : Int), za (A 7), zi (1 + (i_5 : Int)), za (A 1)]) [(64, .iload_n 3)] (by decide +kernel) rfl ?_
    refine Zn.iald hD 7 (i_5) (by decide +kernel) rfl (by omega) (by omega) rfl ?_
    refine Zn.eq (st2 := [zi (x7 i_5), zi (1 + (i_5 : Int)), za (A 1)]) rfl rfl rfl rfl ?_
    refine Zn.iast hD 1 (1 + i_5) (by decide +kernel) rfl (by omega) (by omega) rfl ?_
    refine Zn.eq (h2 := zov (LM A (va_up (va_up (va_up (va_up (va_up m 1 (ntU u : Int)) 5 0) 9 (txA (r 3) L (cpF zF (r 7) 3) (cpF zF (r 8) 13) (cpF zF (r 9) 13) : Int)) 10 c1) 14 e1) (va_up (va_up (va_up (va_up (va_up r 1 (va_up (rowQ x7 (va_up (ntR (r 1) u) 0 c1) i_5) (1 + i_5) (x7 i_5))) 7 x7) 8 x8) 9 x9) 10 x10)) h) rfl rfl rfl (rfl) ?_
    have hD : zND (LM A (va_up (va_up (va_up (va_up (va_up m 1 (ntU u : Int)) 5 0) 9 (txA (r 3) L (cpF zF (r 7) 3) (cpF zF (r 8) 13) (cpF zF (r 9) 13) : Int)) 10 c1) 14 e1) (va_up (va_up (va_up (va_up (va_up r 1 (va_up (rowQ x7 (va_up (ntR (r 1) u) 0 c1) i_5) (1 + i_5) (x7 i_5))) 7 x7) 8 x8) 9 x9) 10 x10)) := hD
    refine Zn.seg (pc2 := 48) (ls2 := [some (za (A 0)), some (zi (txV (r 3) L (cpF zF (r 7) 3) (cpF zF (r 8) 13) (cpF zF (r 9) 13))), some (zi 0), some (zi ((i_5 : Int) + 1))]) (st2 := []) [(67, .iinc 3 1), (70, .goto (-22))] (by decide +kernel) rfl ?_
    exact Zn.eq rfl (zcons rfl (zcons rfl (zcons rfl (zcons (congrArg (fun z => some (zi z)) (by omega)) rfl)))) rfl (by rw [rowQ_s (by omega)]) (ih_7)
  · skip
    refine Zn.seg (pc2 := 50) (ls2 := [some (za (A 0)), some (zi (txV (r 3) L (cpF zF (r 7) 3) (cpF zF (r 8) 13) (cpF zF (r 9) 13))), some (zi 0), some (zi (3 : Int))]) (st2 := [zi 3, zi (3 : Int)]) [(48, .iload_n 3), (49, .iconst 3)] (by decide +kernel) rfl ?_
    refine Zn.icmp (c := .ge) (off := 23) 73 (by decide +kernel) rfl ⟨by omega, by omega⟩ ⟨by decide, by decide⟩ (fun c_9 => ?_) (fun c_9 => absurd (show 3 ≤ (3 : Int) from by decide) c_9)
    have c_9 : 3 ≤ (3 : Int) := c_9
    refine Zn.seg (pc2 := 75) (ls2 := [some (za (A 0)), some (zi (txV (r 3) L (cpF zF (r 7) 3) (cpF zF (r 8) 13) (cpF zF (r 9) 13))), some (zi 0), some (zi 0)]) (st2 := []) [(73, .iconst 0), (74, .istore_n 3)] (by decide +kernel) rfl ?_
    refine Zn.eq (pc2 := 75) (ls2 := [some (za (A 0)), some (zi (txV (r 3) L (cpF zF (r 7) 3) (cpF zF (r 8) 13) (cpF zF (r 9) 13))), some (zi 0), some (zi (0 : Int))]) (st2 := []) (h2 := zov (LM A (va_up (va_up (va_up (va_up (va_up m 1 (ntU u : Int)) 5 0) 9 (txA (r 3) L (cpF zF (r 7) 3) (cpF zF (r 8) 13) (cpF zF (r 9) 13) : Int)) 10 c1) 14 e1) (va_up (va_up (va_up (va_up (va_up r 1 (rowT x8 x9 (rowQ x7 (va_up (ntR (r 1) u) 0 c1) 3) 0)) 7 x7) 8 x8) 9 x9) 10 x10)) h) rfl rfl rfl (by rw [rowT_0]) ?_
    have hD : zND (LM A (va_up (va_up (va_up (va_up (va_up m 1 (ntU u : Int)) 5 0) 9 (txA (r 3) L (cpF zF (r 7) 3) (cpF zF (r 8) 13) (cpF zF (r 9) 13) : Int)) 10 c1) 14 e1) (va_up (va_up (va_up (va_up (va_up r 1 (rowT x8 x9 (rowQ x7 (va_up (ntR (r 1) u) 0 c1) 3) 0)) 7 x7) 8 x8) 9 x9) 10 x10)) := hD
    refine xloop (P := fun i_10 => Zn (8, xI_X8_read, 4, 5, 117, 0, 0, false) (some .int) 75 [some (za (A 0)), some (zi (txV (r 3) L (cpF zF (r 7) 3) (cpF zF (r 8) 13) (cpF zF (r 9) 13))), some (zi 0), some (zi (i_10 : Int))] [] (zov (LM A (va_up (va_up (va_up (va_up (va_up m 1 (ntU u : Int)) 5 0) 9 (txA (r 3) L (cpF zF (r 7) 3) (cpF zF (r 8) 13) (cpF zF (r 9) 13) : Int)) 10 c1) 14 e1) (va_up (va_up (va_up (va_up (va_up r 1 (rowT x8 x9 (rowQ x7 (va_up (ntR (r 1) u) 0 c1) 3) i_10)) 7 x7) 8 x8) 9 x9) 10 x10)) h) _) (13) (fun i_10 hi_11 ih_12 => ?_) ?_
    · have hi_ : i_10 < 13 := hi_11
      refine Zn.seg (pc2 := 78) (ls2 := [some (za (A 0)), some (zi (txV (r 3) L (cpF zF (r 7) 3) (cpF zF (r 8) 13) (cpF zF (r 9) 13))), some (zi 0), some (zi (i_10 : Int))]) (st2 := [zi 13, zi (i_10 : Int)]) [(75, .iload_n 3), (76, .bipush 13)] (by decide +kernel) rfl ?_
      refine Zn.icmp (c := .ge) (off := 38) 116 (by decide +kernel) rfl ⟨by omega, by omega⟩ ⟨by decide, by decide⟩ (fun c_13 => absurd (show 13 ≤ (i_10 : Int) from c_13) (by omega)) (fun c_13 => ?_)
      have c_13 : ¬ (13 ≤ (i_10 : Int)) := c_13
      refine Zn.seg (pc2 := 82) (ls2 := [some (za (A 0)), some (zi (txV (r 3) L (cpF zF (r 7) 3) (cpF zF (r 8) 13) (cpF zF (r 9) 13))), some (zi 0), some (zi (i_10 : Int))]) (st2 := [za (A 0)]) [(81, .aload_n 0)] (by decide +kernel) rfl ?_
      refine Zn.get (ix := 7) hD 0 (by decide +kernel) rfl rfl rfl ?_
      refine Zn.seg (pc2 := 89) (ls2 := [some (za (A 0)), some (zi (txV (r 3) L (cpF zF (r 7) 3) (cpF zF (r 8) 13) (cpF zF (r 9) 13))), some (zi 0), some (zi (i_10 : Int))]) (st2 := [za (A 0), zi (5 + (i_10 : Int)), za (A 1)]) [(85, .iconst 5), (86, .iload_n 3), (87, .iadd), (88, .aload_n 0)] (by decide +kernel) rfl ?_
      refine Zn.get (ix := 36) hD 0 (by decide +kernel) rfl rfl rfl ?_
      refine Zn.seg (pc2 := 93) (ls2 := [some (za (A 0)), some (zi (txV (r 3) L (cpF zF (r 7) 3) (cpF zF (r 8) 13) (cpF zF (r 9) 13))), some (zi 0), some (zi (i_10 : Int))]) (st2 := [zi (i_10 : Int), za (A 8), zi (5 + (i_10 : Int)), za (A 1)]) [(92, .iload_n 3)] (by decide +kernel) rfl ?_
      refine Zn.iald hD 8 (i_10) (by decide +kernel) rfl (by omega) (by omega) rfl ?_
      refine Zn.eq (st2 := [zi (x8 i_10), zi (5 + (i_10 : Int)), za (A 1)]) rfl rfl rfl rfl ?_
      refine Zn.iast hD 1 (5 + i_10) (by decide +kernel) rfl (by omega) (by omega) rfl ?_
      refine Zn.eq (h2 := zov (LM A (va_up (va_up (va_up (va_up (va_up m 1 (ntU u : Int)) 5 0) 9 (txA (r 3) L (cpF zF (r 7) 3) (cpF zF (r 8) 13) (cpF zF (r 9) 13) : Int)) 10 c1) 14 e1) (va_up (va_up (va_up (va_up (va_up r 1 (va_up (rowT x8 x9 (rowQ x7 (va_up (ntR (r 1) u) 0 c1) 3) i_10) (5 + i_10) (x8 i_10))) 7 x7) 8 x8) 9 x9) 10 x10)) h) rfl rfl rfl (rfl) ?_
      have hD : zND (LM A (va_up (va_up (va_up (va_up (va_up m 1 (ntU u : Int)) 5 0) 9 (txA (r 3) L (cpF zF (r 7) 3) (cpF zF (r 8) 13) (cpF zF (r 9) 13) : Int)) 10 c1) 14 e1) (va_up (va_up (va_up (va_up (va_up r 1 (va_up (rowT x8 x9 (rowQ x7 (va_up (ntR (r 1) u) 0 c1) 3) i_10) (5 + i_10) (x8 i_10))) 7 x7) 8 x8) 9 x9) 10 x10)) := hD
      refine Zn.seg (pc2 := 96) (ls2 := [some (za (A 0)), some (zi (txV (r 3) L (cpF zF (r 7) 3) (cpF zF (r 8) 13) (cpF zF (r 9) 13))), some (zi 0), some (zi (i_10 : Int))]) (st2 := [za (A 0)]) [(95, .aload_n 0)] (by decide +kernel) rfl ?_
      refine Zn.get (ix := 7) hD 0 (by decide +kernel) rfl rfl rfl ?_
      refine Zn.seg (pc2 := 104) (ls2 := [some (za (A 0)), some (zi (txV (r 3) L (cpF zF (r 7) 3) (cpF zF (r 8) 13) (cpF zF (r 9) 13))), some (zi 0), some (zi (i_10 : Int))]) (st2 := [za (A 0), zi (18 + (i_10 : Int)), za (A 1)]) [(99, .bipush 18), (101, .iload_n 3), (102, .iadd), (103, .aload_n 0)] (by decide +kernel) rfl ?_
      refine Zn.get (ix := 39) hD 0 (by decide +kernel) rfl rfl rfl ?_
      refine Zn.seg (pc2 := 108) (ls2 := [some (za (A 0)), some (zi (txV (r 3) L (cpF zF (r 7) 3) (cpF zF (r 8) 13) (cpF zF (r 9) 13))), some (zi 0), some (zi (i_10 : Int))]) (st2 := [zi (i_10 : Int), za (A 9), zi (18 + (i_10 : Int)), za (A 1)]) [(107, .iload_n 3)] (by decide +kernel) rfl ?_
      refine Zn.iald hD 9 (i_10) (by decide +kernel) rfl (by omega) (by omega) rfl ?_
      refine Zn.eq (st2 := [zi (x9 i_10), zi (18 + (i_10 : Int)), za (A 1)]) rfl rfl rfl rfl ?_
      refine Zn.iast hD 1 (18 + i_10) (by decide +kernel) rfl (by omega) (by omega) rfl ?_
      refine Zn.eq (h2 := zov (LM A (va_up (va_up (va_up (va_up (va_up m 1 (ntU u : Int)) 5 0) 9 (txA (r 3) L (cpF zF (r 7) 3) (cpF zF (r 8) 13) (cpF zF (r 9) 13) : Int)) 10 c1) 14 e1) (va_up (va_up (va_up (va_up (va_up r 1 (va_up (va_up (rowT x8 x9 (rowQ x7 (va_up (ntR (r 1) u) 0 c1) 3) i_10) (5 + i_10) (x8 i_10)) (18 + i_10) (x9 i_10))) 7 x7) 8 x8) 9 x9) 10 x10)) h) rfl rfl rfl (rfl) ?_
      have hD : zND (LM A (va_up (va_up (va_up (va_up (va_up m 1 (ntU u : Int)) 5 0) 9 (txA (r 3) L (cpF zF (r 7) 3) (cpF zF (r 8) 13) (cpF zF (r 9) 13) : Int)) 10 c1) 14 e1) (va_up (va_up (va_up (va_up (va_up r 1 (va_up (va_up (rowT x8 x9 (rowQ x7 (va_up (ntR (r 1) u) 0 c1) 3) i_10) (5 + i_10) (x8 i_10)) (18 + i_10) (x9 i_10))) 7 x7) 8 x8) 9 x9) 10 x10)) := hD
      refine Zn.seg (pc2 := 75) (ls2 := [some (za (A 0)), some (zi (txV (r 3) L (cpF zF (r 7) 3) (cpF zF (r 8) 13) (cpF zF (r 9) 13))), some (zi 0), some (zi ((i_10 : Int) + 1))]) (st2 := []) [(110, .iinc 3 1), (113, .goto (-38))] (by decide +kernel) rfl ?_
      exact Zn.eq rfl (zcons rfl (zcons rfl (zcons rfl (zcons (congrArg (fun z => some (zi z)) (by omega)) rfl)))) rfl (by rw [rowT_s (by omega)]) (ih_12)
    · skip
      refine Zn.seg (pc2 := 78) (ls2 := [some (za (A 0)), some (zi (txV (r 3) L (cpF zF (r 7) 3) (cpF zF (r 8) 13) (cpF zF (r 9) 13))), some (zi 0), some (zi (13 : Int))]) (st2 := [zi 13, zi (13 : Int)]) [(75, .iload_n 3), (76, .bipush 13)] (by decide +kernel) rfl ?_
      refine Zn.icmp (c := .ge) (off := 38) 116 (by decide +kernel) rfl ⟨by omega, by omega⟩ ⟨by decide, by decide⟩ (fun c_14 => ?_) (fun c_14 => absurd (show 13 ≤ (13 : Int) from by decide) c_14)
      have c_14 : 13 ≤ (13 : Int) := c_14
      refine Zn.seg (pc2 := 118) (ls2 := [some (za (A 0)), some (zi (txV (r 3) L (cpF zF (r 7) 3) (cpF zF (r 8) 13) (cpF zF (r 9) 13))), some (zi 0), some (zi (13 : Int))]) (st2 := [zi 0, za (A 0)]) [(116, .aload_n 0), (117, .iconst 0)] (by decide +kernel) rfl ?_
      refine Zn.call (ins := .invokevirtual 88) [za (A 0), zi 0] [] (by decide +kernel) rfl rfl rfl ⟨rfl, rfl⟩ ⟨rfl, rfl, rfl⟩ rfl (zrecvV hD (p := 0) rfl rfl rfl) (sp_X8_many (A := A) (m := va_up (va_up (va_up (va_up (va_up m 1 (ntU u : Int)) 5 0) 9 (txA (r 3) L (cpF zF (r 7) 3) (cpF zF (r 8) 13) (cpF zF (r 9) 13) : Int)) 10 c1) 14 e1) (r := va_up (va_up (va_up (va_up (va_up r 1 (rowT x8 x9 (rowQ x7 (va_up (ntR (r 1) u) 0 c1) 3) 13)) 7 x7) 8 x8) 9 x9) 10 x10) (k := 0) (zov_all hD) hD (rowT_ok (Y := x8) hx9) (⟨by decide, by decide⟩)) (fun v h2 hp => ?_)
      obtain ⟨rfl, hq_15⟩ := hp
      refine Zn.eq (pc2 := 121) (ls2 := [some (za (A 0)), some (zi (txV (r 3) L (cpF zF (r 7) 3) (cpF zF (r 8) 13) (cpF zF (r 9) 13))), some (zi 0), some (zi (13 : Int))]) (st2 := [zi (manyN ((rowT x8 x9 (rowQ x7 (va_up (ntR (r 1) u) 0 c1) 3) 13)) 0 13 : Int)]) (h2 := zov (LM A (va_up (va_up (va_up (va_up (va_up m 1 (ntU u : Int)) 5 0) 9 (txA (r 3) L (cpF zF (r 7) 3) (cpF zF (r 8) 13) (cpF zF (r 9) 13) : Int)) 10 c1) 14 e1) (va_up (va_up (va_up (va_up (va_up r 1 (rowT x8 x9 (rowQ x7 (va_up (ntR (r 1) u) 0 c1) 3) 13)) 7 x7) 8 x8) 9 x9) 10 x10)) h) rfl rfl rfl hq_15 ?_
      have hD : zND (LM A (va_up (va_up (va_up (va_up (va_up m 1 (ntU u : Int)) 5 0) 9 (txA (r 3) L (cpF zF (r 7) 3) (cpF zF (r 8) 13) (cpF zF (r 9) 13) : Int)) 10 c1) 14 e1) (va_up (va_up (va_up (va_up (va_up r 1 (rowT x8 x9 (rowQ x7 (va_up (ntR (r 1) u) 0 c1) 3) 13)) 7 x7) 8 x8) 9 x9) 10 x10)) := hD
      have q_16 := manyN_le ((rowT x8 x9 (rowQ x7 (va_up (ntR (r 1) u) 0 c1) 3) 13)) 0 13
      exact Zn.iret (by decide +kernel) rfl (⟨c1, e1, x7, x8, x9, x10, rfl, rfl, hf2⟩)
set_option maxHeartbeats 1000001 in
set_option maxRecDepth 20000 in
theorem sp_X8_isOn {h : xH} {A : Nat → Nat} {m : Nat → Int} {r : Nat → Nat → Int} {s n : Nat} (hL : ∀ q ∈ LM A m r, h q.1 = zcE q.2) (hD : zND (LM A m r)) (hsn : s + n ≤ 8) (hf : ∀ j, j < s + n → -6 ≤ r 11 j ∧ r 11 j ≤ 6) (hg : ∀ j, j < s + n → zInI (r 12 j)) (hb : -4611686018427387904 ≤ ioN (shf (r 11) s) (shf (r 12) s) n n ∧ ioN (shf (r 11) s) (shf (r 12) s) n n ≤ 4611686018427387904) : zEv k_X8_isOn [za (A 0), zi (s : Int), zi (n : Int)] h (fun v h2 => v = some (zi (ioV (ioN (shf (r 11) s) (shf (r 12) s) n n))) ∧ h2 = h) := by
  have hh : h = zov (LM A m r) h := zov_self hL
  refine zEv.body (I := (8, xI_X8_isOn, 10, 0, 0, 0, 0, false)) (rt := (some .boolean)) [some (za (A 0)), some (zi (s : Int)), some (zi (n : Int)), none, none, none, none, none, none, none] rfl rfl rfl rfl ?_
  refine Zn.eq rfl rfl rfl hh ?_
  have hD : zND (LM A m r) := hD
  refine Zn.seg (pc2 := 5) (ls2 := [some (za (A 0)), some (zi (s : Int)), some (zi (n : Int)), some (zj 0), none, some (zi (s : Int)), none, none, none, none]) (st2 := []) [(0, .lconst 0), (1, .lstore_n 3), (2, .iload_n 1), (3, .istore 5)] (by decide +kernel) rfl ?_
  refine Zn.eq (pc2 := 5) (ls2 := [some (za (A 0)), some (zi (s : Int)), some (zi (n : Int)), some (zj (ioN (shf (r 11) s) (shf (r 12) s) n 0)), none, some (zi ((s : Int) + (0 : Int))), none, none, none, none]) (st2 := []) (h2 := zov (LM A m r) h) rfl (zcons rfl (zcons rfl (zcons rfl (zcons rfl (zcons rfl (zcons (congrArg (fun z => some (zi z)) (by omega)) rfl)))))) rfl (rfl) ?_
  have hD : zND (LM A m r) := hD
  refine xloop (P := fun i_1 => ∀ j_3 j_4 j_5 j_6 : Option zV, Zn (8, xI_X8_isOn, 10, 0, 0, 0, 0, false) (some .boolean) 5 [some (za (A 0)), some (zi (s : Int)), some (zi (n : Int)), some (zj (ioN (shf (r 11) s) (shf (r 12) s) n i_1)), none, some (zi ((s : Int) + (i_1 : Int))), j_3, j_4, j_5, j_6] [] (zov (LM A m r) h) _) (n) (fun i_1 hi_7 ih_8 j_3 j_4 j_5 j_6 => ?_) (fun j_3 j_4 j_5 j_6 => ?_) none none none none
  · have hi_ : i_1 < n := hi_7
    refine Zn.seg (pc2 := 10) (ls2 := [some (za (A 0)), some (zi (s : Int)), some (zi (n : Int)), some (zj (ioN (shf (r 11) s) (shf (r 12) s) n i_1)), none, some (zi ((s : Int) + (i_1 : Int))), j_3, j_4, j_5, j_6]) (st2 := [zi ((s : Int) + (n : Int)), zi ((s : Int) + (i_1 : Int))]) [(5, .iload 5), (7, .iload_n 1), (8, .iload_n 2), (9, .iadd)] (by decide +kernel) rfl ?_
    refine Zn.icmp (c := .ge) (off := 115) 125 (by decide +kernel) rfl ⟨by omega, by omega⟩ ⟨by omega, by omega⟩ (fun c_9 => absurd (show (s : Int) + (n : Int) ≤ (s : Int) + (i_1 : Int) from c_9) (by omega)) (fun c_9 => ?_)
    have c_9 : ¬ ((s : Int) + (n : Int) ≤ (s : Int) + (i_1 : Int)) := c_9
    refine Zn.seg (pc2 := 14) (ls2 := [some (za (A 0)), some (zi (s : Int)), some (zi (n : Int)), some (zj (ioN (shf (r 11) s) (shf (r 12) s) n i_1)), none, some (zi ((s : Int) + (i_1 : Int))), j_3, j_4, j_5, j_6]) (st2 := [za (A 0)]) [(13, .aload_n 0)] (by decide +kernel) rfl ?_
    refine Zn.get (ix := 48) hD 0 (by decide +kernel) rfl rfl rfl ?_
    refine Zn.seg (pc2 := 19) (ls2 := [some (za (A 0)), some (zi (s : Int)), some (zi (n : Int)), some (zj (ioN (shf (r 11) s) (shf (r 12) s) n i_1)), none, some (zi ((s : Int) + (i_1 : Int))), j_3, j_4, j_5, j_6]) (st2 := [zi ((s : Int) + (i_1 : Int)), za (A 12)]) [(17, .iload 5)] (by decide +kernel) rfl ?_
    refine Zn.iald hD 12 (s + i_1) (by decide +kernel) rfl (by omega) (by omega) rfl ?_
    refine Zn.i2l (by decide +kernel) (hg _ (by omega)) ?_
    refine Zn.seg (pc2 := 26) (ls2 := [some (za (A 0)), some (zi (s : Int)), some (zi (n : Int)), some (zj (ioN (shf (r 11) s) (shf (r 12) s) n i_1)), none, some (zi ((s : Int) + (i_1 : Int))), some (zj ((r 12) (s + i_1))), none, some (zi (s : Int)), j_6]) (st2 := []) [(21, .lstore 6), (23, .iload_n 1), (24, .istore 8)] (by decide +kernel) rfl ?_
    refine Zn.eq (pc2 := 26) (ls2 := [some (za (A 0)), some (zi (s : Int)), some (zi (n : Int)), some (zj (ioN (shf (r 11) s) (shf (r 12) s) n i_1)), none, some (zi ((s : Int) + (i_1 : Int))), some (zj ((shf (r 12) s) i_1 * dfA (shf (r 11) s) i_1 n 0)), none, some (zi ((s : Int) + (0 : Int))), j_6]) (st2 := []) (h2 := zov (LM A m r) h) rfl (zcons rfl (zcons rfl (zcons rfl (zcons rfl (zcons rfl (zcons rfl (zcons (congrArg (fun z => some (zj z)) (by rw [dfA, Int.mul_one]; rfl)) (zcons rfl (zcons (congrArg (fun z => some (zi z)) (by omega)) rfl))))))))) rfl (rfl) ?_
    have hD : zND (LM A m r) := hD
    refine xloop (P := fun i_10 => ∀ j_13 : Option zV, Zn (8, xI_X8_isOn, 10, 0, 0, 0, 0, false) (some .boolean) 26 [some (za (A 0)), some (zi (s : Int)), some (zi (n : Int)), some (zj (ioN (shf (r 11) s) (shf (r 12) s) n i_1)), none, some (zi ((s : Int) + (i_1 : Int))), some (zj ((shf (r 12) s) i_1 * dfA (shf (r 11) s) i_1 n i_10)), none, some (zi ((s : Int) + (i_10 : Int))), j_13] [] (zov (LM A m r) h) _) (n) (fun i_10 hi_14 ih_15 j_13 => ?_) (fun j_13 => ?_) j_6
    · have hi_ : i_10 < n := hi_14
      have hfa := hf (s + i_10) (by omega)
      refine Zn.seg (pc2 := 31) (ls2 := [some (za (A 0)), some (zi (s : Int)), some (zi (n : Int)), some (zj (ioN (shf (r 11) s) (shf (r 12) s) n i_1)), none, some (zi ((s : Int) + (i_1 : Int))), some (zj ((shf (r 12) s) i_1 * dfA (shf (r 11) s) i_1 n i_10)), none, some (zi ((s : Int) + (i_10 : Int))), j_13]) (st2 := [zi ((s : Int) + (n : Int)), zi ((s : Int) + (i_10 : Int))]) [(26, .iload 8), (28, .iload_n 1), (29, .iload_n 2), (30, .iadd)] (by decide +kernel) rfl ?_
      refine Zn.icmp (c := .ge) (off := 68) 99 (by decide +kernel) rfl ⟨by omega, by omega⟩ ⟨by omega, by omega⟩ (fun c_16 => absurd (show (s : Int) + (n : Int) ≤ (s : Int) + (i_10 : Int) from c_16) (by omega)) (fun c_16 => ?_)
      have c_16 : ¬ ((s : Int) + (n : Int) ≤ (s : Int) + (i_10 : Int)) := c_16
      refine Zn.seg (pc2 := 40) (ls2 := [some (za (A 0)), some (zi (s : Int)), some (zi (n : Int)), some (zj (ioN (shf (r 11) s) (shf (r 12) s) n i_1)), none, some (zi ((s : Int) + (i_1 : Int))), some (zj ((shf (r 12) s) i_1 * dfA (shf (r 11) s) i_1 n i_10)), none, some (zi ((s : Int) + (i_10 : Int))), some (zi ((s : Int) + (i_10 : Int) + 1))]) (st2 := []) [(34, .iload 8), (36, .iconst 1), (37, .iadd), (38, .istore 9)] (by decide +kernel) rfl ?_
      refine Zn.eq (pc2 := 40) (ls2 := [some (za (A 0)), some (zi (s : Int)), some (zi (n : Int)), some (zj (ioN (shf (r 11) s) (shf (r 12) s) n i_1)), none, some (zi ((s : Int) + (i_1 : Int))), some (zj ((shf (r 12) s) i_1 * dfA (shf (r 11) s) i_1 n i_10 * dfB (shf (r 11) s) i_1 i_10 0)), none, some (zi ((s : Int) + (i_10 : Int))), some (zi ((s : Int) + (i_10 : Int) + 1 + (0 : Int)))]) (st2 := []) (h2 := zov (LM A m r) h) rfl (zcons rfl (zcons rfl (zcons rfl (zcons rfl (zcons rfl (zcons rfl (zcons (congrArg (fun z => some (zj z)) (by rw [dfB, Int.mul_one])) (zcons rfl (zcons rfl (zcons (congrArg (fun z => some (zi z)) (by omega)) rfl)))))))))) rfl (rfl) ?_
      have hD : zND (LM A m r) := hD
      refine xloop (P := fun i_17 => Zn (8, xI_X8_isOn, 10, 0, 0, 0, 0, false) (some .boolean) 40 [some (za (A 0)), some (zi (s : Int)), some (zi (n : Int)), some (zj (ioN (shf (r 11) s) (shf (r 12) s) n i_1)), none, some (zi ((s : Int) + (i_1 : Int))), some (zj ((shf (r 12) s) i_1 * dfA (shf (r 11) s) i_1 n i_10 * dfB (shf (r 11) s) i_1 i_10 i_17)), none, some (zi ((s : Int) + (i_10 : Int))), some (zi ((s : Int) + (i_10 : Int) + 1 + (i_17 : Int)))] [] (zov (LM A m r) h) _) ((n - (i_10 + 1))) (fun i_17 hi_20 ih_21 => ?_) ?_
      · have hi_ : i_17 < (n - (i_10 + 1)) := hi_20
        have hfb := hf (s + (i_10 + i_17 + 1)) (by omega)
        have hfc : shf (r 11) s (i_10 + i_17 + 1) = r 11 (s + (i_10 + i_17 + 1)) := rfl
        have hfd : shf (r 11) s i_10 = r 11 (s + i_10) := rfl
        refine Zn.seg (pc2 := 45) (ls2 := [some (za (A 0)), some (zi (s : Int)), some (zi (n : Int)), some (zj (ioN (shf (r 11) s) (shf (r 12) s) n i_1)), none, some (zi ((s : Int) + (i_1 : Int))), some (zj ((shf (r 12) s) i_1 * dfA (shf (r 11) s) i_1 n i_10 * dfB (shf (r 11) s) i_1 i_10 i_17)), none, some (zi ((s : Int) + (i_10 : Int))), some (zi ((s : Int) + (i_10 : Int) + 1 + (i_17 : Int)))]) (st2 := [zi ((s : Int) + (n : Int)), zi ((s : Int) + (i_10 : Int) + 1 + (i_17 : Int))]) [(40, .iload 9), (42, .iload_n 1), (43, .iload_n 2), (44, .iadd)] (by decide +kernel) rfl ?_
        refine Zn.icmp (c := .ge) (off := 48) 93 (by decide +kernel) rfl ⟨by omega, by omega⟩ ⟨by omega, by omega⟩ (fun c_22 => absurd (show (s : Int) + (n : Int) ≤ (s : Int) + (i_10 : Int) + 1 + (i_17 : Int) from c_22) (by omega)) (fun c_22 => ?_)
        have c_22 : ¬ ((s : Int) + (n : Int) ≤ (s : Int) + (i_10 : Int) + 1 + (i_17 : Int)) := c_22
        refine Zn.seg (pc2 := 54) (ls2 := [some (za (A 0)), some (zi (s : Int)), some (zi (n : Int)), some (zj (ioN (shf (r 11) s) (shf (r 12) s) n i_1)), none, some (zi ((s : Int) + (i_1 : Int))), some (zj ((shf (r 12) s) i_1 * dfA (shf (r 11) s) i_1 n i_10 * dfB (shf (r 11) s) i_1 i_10 i_17)), none, some (zi ((s : Int) + (i_10 : Int))), some (zi ((s : Int) + (i_10 : Int) + 1 + (i_17 : Int)))]) (st2 := [zi ((s : Int) + (i_1 : Int)), zi ((s : Int) + (i_10 : Int)), zj ((shf (r 12) s) i_1 * dfA (shf (r 11) s) i_1 n i_10 * dfB (shf (r 11) s) i_1 i_10 i_17)]) [(48, .lload 6), (50, .iload 8), (52, .iload 5)] (by decide +kernel) rfl ?_
        refine Zn.icmp (c := .eq) (off := 10) 64 (by decide +kernel) rfl ⟨by omega, by omega⟩ ⟨by omega, by omega⟩ (fun c_23 => ?_) (fun c_23 => ?_)
        · have c_23 : (s : Int) + (i_10 : Int) = (s : Int) + (i_1 : Int) := c_23
          refine Zn.seg (pc2 := 40) (ls2 := [some (za (A 0)), some (zi (s : Int)), some (zi (n : Int)), some (zj (ioN (shf (r 11) s) (shf (r 12) s) n i_1)), none, some (zi ((s : Int) + (i_1 : Int))), some (zj (((shf (r 12) s) i_1 * dfA (shf (r 11) s) i_1 n i_10 * dfB (shf (r 11) s) i_1 i_10 i_17) * 1)), none, some (zi ((s : Int) + (i_10 : Int))), some (zi ((s : Int) + (i_10 : Int) + 1 + (i_17 : Int) + 1))]) (st2 := []) [(64, .lconst 1), (65, .goto 19), (84, .lmul), (85, .lstore 6), (87, .iinc 9 1), (90, .goto (-50))] (by decide +kernel) rfl ?_
          exact Zn.eq rfl (zcons rfl (zcons rfl (zcons rfl (zcons rfl (zcons rfl (zcons rfl (zcons (congrArg (fun z => some (zj z)) (by rw [dfB]; first | (rw [if_pos (by omega), Int.mul_assoc]; done) | (rw [if_neg (by omega), Int.mul_assoc]; done))) (zcons rfl (zcons rfl (zcons (congrArg (fun z => some (zi z)) (by omega)) rfl)))))))))) rfl (rfl) (ih_21)
        · have c_23 : ¬ ((s : Int) + (i_10 : Int) = (s : Int) + (i_1 : Int)) := c_23
          refine Zn.seg (pc2 := 61) (ls2 := [some (za (A 0)), some (zi (s : Int)), some (zi (n : Int)), some (zj (ioN (shf (r 11) s) (shf (r 12) s) n i_1)), none, some (zi ((s : Int) + (i_1 : Int))), some (zj ((shf (r 12) s) i_1 * dfA (shf (r 11) s) i_1 n i_10 * dfB (shf (r 11) s) i_1 i_10 i_17)), none, some (zi ((s : Int) + (i_10 : Int))), some (zi ((s : Int) + (i_10 : Int) + 1 + (i_17 : Int)))]) (st2 := [zi ((s : Int) + (i_1 : Int)), zi ((s : Int) + (i_10 : Int) + 1 + (i_17 : Int)), zj ((shf (r 12) s) i_1 * dfA (shf (r 11) s) i_1 n i_10 * dfB (shf (r 11) s) i_1 i_10 i_17)]) [(57, .iload 9), (59, .iload 5)] (by decide +kernel) rfl ?_
          refine Zn.icmp (c := .ne) (off := 7) 68 (by decide +kernel) rfl ⟨by omega, by omega⟩ ⟨by omega, by omega⟩ (fun c_24 => ?_) (fun c_24 => ?_)
          · have c_24 : (s : Int) + (i_10 : Int) + 1 + (i_17 : Int) ≠ (s : Int) + (i_1 : Int) := c_24
            refine Zn.seg (pc2 := 69) (ls2 := [some (za (A 0)), some (zi (s : Int)), some (zi (n : Int)), some (zj (ioN (shf (r 11) s) (shf (r 12) s) n i_1)), none, some (zi ((s : Int) + (i_1 : Int))), some (zj ((shf (r 12) s) i_1 * dfA (shf (r 11) s) i_1 n i_10 * dfB (shf (r 11) s) i_1 i_10 i_17)), none, some (zi ((s : Int) + (i_10 : Int))), some (zi ((s : Int) + (i_10 : Int) + 1 + (i_17 : Int)))]) (st2 := [za (A 0), zj ((shf (r 12) s) i_1 * dfA (shf (r 11) s) i_1 n i_10 * dfB (shf (r 11) s) i_1 i_10 i_17)]) [(68, .aload_n 0)] (by decide +kernel) rfl ?_
            refine Zn.get (ix := 45) hD 0 (by decide +kernel) rfl rfl rfl ?_
            refine Zn.seg (pc2 := 74) (ls2 := [some (za (A 0)), some (zi (s : Int)), some (zi (n : Int)), some (zj (ioN (shf (r 11) s) (shf (r 12) s) n i_1)), none, some (zi ((s : Int) + (i_1 : Int))), some (zj ((shf (r 12) s) i_1 * dfA (shf (r 11) s) i_1 n i_10 * dfB (shf (r 11) s) i_1 i_10 i_17)), none, some (zi ((s : Int) + (i_10 : Int))), some (zi ((s : Int) + (i_10 : Int) + 1 + (i_17 : Int)))]) (st2 := [zi ((s : Int) + (i_10 : Int) + 1 + (i_17 : Int)), za (A 11), zj ((shf (r 12) s) i_1 * dfA (shf (r 11) s) i_1 n i_10 * dfB (shf (r 11) s) i_1 i_10 i_17)]) [(72, .iload 9)] (by decide +kernel) rfl ?_
            refine Zn.iald hD 11 (s + (i_10 + i_17 + 1)) (by decide +kernel) rfl (by omega) (by omega) rfl ?_
            refine Zn.topi (y := shf (r 11) s (i_10 + i_17 + 1)) (by show r 11 _ = r 11 _; congr 1) ?_
            refine Zn.seg (pc2 := 76) (ls2 := [some (za (A 0)), some (zi (s : Int)), some (zi (n : Int)), some (zj (ioN (shf (r 11) s) (shf (r 12) s) n i_1)), none, some (zi ((s : Int) + (i_1 : Int))), some (zj ((shf (r 12) s) i_1 * dfA (shf (r 11) s) i_1 n i_10 * dfB (shf (r 11) s) i_1 i_10 i_17)), none, some (zi ((s : Int) + (i_10 : Int))), some (zi ((s : Int) + (i_10 : Int) + 1 + (i_17 : Int)))]) (st2 := [za (A 0), zi (shf (r 11) s (i_10 + i_17 + 1)), zj ((shf (r 12) s) i_1 * dfA (shf (r 11) s) i_1 n i_10 * dfB (shf (r 11) s) i_1 i_10 i_17)]) [(75, .aload_n 0)] (by decide +kernel) rfl ?_
            refine Zn.get (ix := 45) hD 0 (by decide +kernel) rfl rfl rfl ?_
            refine Zn.seg (pc2 := 81) (ls2 := [some (za (A 0)), some (zi (s : Int)), some (zi (n : Int)), some (zj (ioN (shf (r 11) s) (shf (r 12) s) n i_1)), none, some (zi ((s : Int) + (i_1 : Int))), some (zj ((shf (r 12) s) i_1 * dfA (shf (r 11) s) i_1 n i_10 * dfB (shf (r 11) s) i_1 i_10 i_17)), none, some (zi ((s : Int) + (i_10 : Int))), some (zi ((s : Int) + (i_10 : Int) + 1 + (i_17 : Int)))]) (st2 := [zi ((s : Int) + (i_10 : Int)), za (A 11), zi (shf (r 11) s (i_10 + i_17 + 1)), zj ((shf (r 12) s) i_1 * dfA (shf (r 11) s) i_1 n i_10 * dfB (shf (r 11) s) i_1 i_10 i_17)]) [(79, .iload 8)] (by decide +kernel) rfl ?_
            refine Zn.iald hD 11 (s + i_10) (by decide +kernel) rfl (by omega) (by omega) rfl ?_
            refine Zn.topi (y := shf (r 11) s i_10) (rfl) ?_
            refine Zn.seg (pc2 := 83) (ls2 := [some (za (A 0)), some (zi (s : Int)), some (zi (n : Int)), some (zj (ioN (shf (r 11) s) (shf (r 12) s) n i_1)), none, some (zi ((s : Int) + (i_1 : Int))), some (zj ((shf (r 12) s) i_1 * dfA (shf (r 11) s) i_1 n i_10 * dfB (shf (r 11) s) i_1 i_10 i_17)), none, some (zi ((s : Int) + (i_10 : Int))), some (zi ((s : Int) + (i_10 : Int) + 1 + (i_17 : Int)))]) (st2 := [zi (shf (r 11) s (i_10 + i_17 + 1) - (shf (r 11) s i_10)), zj ((shf (r 12) s) i_1 * dfA (shf (r 11) s) i_1 n i_10 * dfB (shf (r 11) s) i_1 i_10 i_17)]) [(82, .isub)] (by decide +kernel) rfl ?_
            refine Zn.i2l (by decide +kernel) ⟨by omega, by omega⟩ ?_
            refine Zn.seg (pc2 := 40) (ls2 := [some (za (A 0)), some (zi (s : Int)), some (zi (n : Int)), some (zj (ioN (shf (r 11) s) (shf (r 12) s) n i_1)), none, some (zi ((s : Int) + (i_1 : Int))), some (zj (((shf (r 12) s) i_1 * dfA (shf (r 11) s) i_1 n i_10 * dfB (shf (r 11) s) i_1 i_10 i_17) * (shf (r 11) s (i_10 + i_17 + 1) - (shf (r 11) s i_10)))), none, some (zi ((s : Int) + (i_10 : Int))), some (zi ((s : Int) + (i_10 : Int) + 1 + (i_17 : Int) + 1))]) (st2 := []) [(84, .lmul), (85, .lstore 6), (87, .iinc 9 1), (90, .goto (-50))] (by decide +kernel) rfl ?_
            exact Zn.eq rfl (zcons rfl (zcons rfl (zcons rfl (zcons rfl (zcons rfl (zcons rfl (zcons (congrArg (fun z => some (zj z)) (by rw [dfB]; first | (rw [if_pos (by omega), Int.mul_assoc]; done) | (rw [if_neg (by omega), Int.mul_assoc]; done))) (zcons rfl (zcons rfl (zcons (congrArg (fun z => some (zi z)) (by omega)) rfl)))))))))) rfl (rfl) (ih_21)
          · have c_24 : ¬ ((s : Int) + (i_10 : Int) + 1 + (i_17 : Int) ≠ (s : Int) + (i_1 : Int)) := c_24
            refine Zn.seg (pc2 := 40) (ls2 := [some (za (A 0)), some (zi (s : Int)), some (zi (n : Int)), some (zj (ioN (shf (r 11) s) (shf (r 12) s) n i_1)), none, some (zi ((s : Int) + (i_1 : Int))), some (zj (((shf (r 12) s) i_1 * dfA (shf (r 11) s) i_1 n i_10 * dfB (shf (r 11) s) i_1 i_10 i_17) * 1)), none, some (zi ((s : Int) + (i_10 : Int))), some (zi ((s : Int) + (i_10 : Int) + 1 + (i_17 : Int) + 1))]) (st2 := []) [(64, .lconst 1), (65, .goto 19), (84, .lmul), (85, .lstore 6), (87, .iinc 9 1), (90, .goto (-50))] (by decide +kernel) rfl ?_
            exact Zn.eq rfl (zcons rfl (zcons rfl (zcons rfl (zcons rfl (zcons rfl (zcons rfl (zcons (congrArg (fun z => some (zj z)) (by rw [dfB]; first | (rw [if_pos (by omega), Int.mul_assoc]; done) | (rw [if_neg (by omega), Int.mul_assoc]; done))) (zcons rfl (zcons rfl (zcons (congrArg (fun z => some (zi z)) (by omega)) rfl)))))))))) rfl (rfl) (ih_21)
      · skip
        refine Zn.seg (pc2 := 45) (ls2 := [some (za (A 0)), some (zi (s : Int)), some (zi (n : Int)), some (zj (ioN (shf (r 11) s) (shf (r 12) s) n i_1)), none, some (zi ((s : Int) + (i_1 : Int))), some (zj ((shf (r 12) s) i_1 * dfA (shf (r 11) s) i_1 n i_10 * dfB (shf (r 11) s) i_1 i_10 (n - (i_10 + 1)))), none, some (zi ((s : Int) + (i_10 : Int))), some (zi ((s : Int) + (i_10 : Int) + 1 + ((n - (i_10 + 1) : Nat) : Int)))]) (st2 := [zi ((s : Int) + (n : Int)), zi ((s : Int) + (i_10 : Int) + 1 + ((n - (i_10 + 1) : Nat) : Int))]) [(40, .iload 9), (42, .iload_n 1), (43, .iload_n 2), (44, .iadd)] (by decide +kernel) rfl ?_
        refine Zn.icmp (c := .ge) (off := 48) 93 (by decide +kernel) rfl ⟨by omega, by omega⟩ ⟨by omega, by omega⟩ (fun c_25 => ?_) (fun c_25 => absurd (show (s : Int) + (n : Int) ≤ (s : Int) + (i_10 : Int) + 1 + ((n - (i_10 + 1) : Nat) : Int) from by omega) c_25)
        have c_25 : (s : Int) + (n : Int) ≤ (s : Int) + (i_10 : Int) + 1 + ((n - (i_10 + 1) : Nat) : Int) := c_25
        refine Zn.seg (pc2 := 26) (ls2 := [some (za (A 0)), some (zi (s : Int)), some (zi (n : Int)), some (zj (ioN (shf (r 11) s) (shf (r 12) s) n i_1)), none, some (zi ((s : Int) + (i_1 : Int))), some (zj ((shf (r 12) s) i_1 * dfA (shf (r 11) s) i_1 n i_10 * dfB (shf (r 11) s) i_1 i_10 (n - (i_10 + 1)))), none, some (zi ((s : Int) + (i_10 : Int) + 1)), some (zi ((s : Int) + (i_10 : Int) + 1 + ((n - (i_10 + 1) : Nat) : Int)))]) (st2 := []) [(93, .iinc 8 1), (96, .goto (-70))] (by decide +kernel) rfl ?_
        exact Zn.eq rfl (zcons rfl (zcons rfl (zcons rfl (zcons rfl (zcons rfl (zcons rfl (zcons (congrArg (fun z => some (zj z)) (by rw [dfA, Int.mul_assoc])) (zcons rfl (zcons (congrArg (fun z => some (zi z)) (by omega)) rfl))))))))) rfl (rfl) (ih_15 (some (zi ((s : Int) + (i_10 : Int) + 1 + ((n - (i_10 + 1) : Nat) : Int)))))
    · skip
      refine Zn.seg (pc2 := 31) (ls2 := [some (za (A 0)), some (zi (s : Int)), some (zi (n : Int)), some (zj (ioN (shf (r 11) s) (shf (r 12) s) n i_1)), none, some (zi ((s : Int) + (i_1 : Int))), some (zj ((shf (r 12) s) i_1 * dfA (shf (r 11) s) i_1 n n)), none, some (zi ((s : Int) + (n : Int))), j_13]) (st2 := [zi ((s : Int) + (n : Int)), zi ((s : Int) + (n : Int))]) [(26, .iload 8), (28, .iload_n 1), (29, .iload_n 2), (30, .iadd)] (by decide +kernel) rfl ?_
      refine Zn.icmp (c := .ge) (off := 68) 99 (by decide +kernel) rfl ⟨by omega, by omega⟩ ⟨by omega, by omega⟩ (fun c_26 => ?_) (fun c_26 => absurd (show (s : Int) + (n : Int) ≤ (s : Int) + (n : Int) from by omega) c_26)
      have c_26 : (s : Int) + (n : Int) ≤ (s : Int) + (n : Int) := c_26
      refine Zn.seg (pc2 := 105) (ls2 := [some (za (A 0)), some (zi (s : Int)), some (zi (n : Int)), some (zj (ioN (shf (r 11) s) (shf (r 12) s) n i_1)), none, some (zi ((s : Int) + (i_1 : Int))), some (zj ((shf (r 12) s) i_1 * dfA (shf (r 11) s) i_1 n n)), none, some (zi ((s : Int) + (n : Int))), j_13]) (st2 := [zi 2, zi ((s : Int) + (i_1 : Int) - (s : Int)), zj (ioN (shf (r 11) s) (shf (r 12) s) n i_1)]) [(99, .lload_n 3), (100, .iload 5), (102, .iload_n 1), (103, .isub), (104, .iconst 2)] (by decide +kernel) rfl ?_
      refine Zn.irem (by decide +kernel) ⟨by omega, by omega⟩ ⟨by decide, by decide⟩ (by omega) ?_
      refine Zn.topi (y := ((i_1 % 2 : Nat) : Int)) (by rw [show (s : Int) + (i_1 : Int) - (s : Int) = (i_1 : Int) from by omega]; exact ntm 2 rfl) ?_
      refine Zn.ifc (c := .ne) (off := 8) 114 (by decide +kernel) rfl ⟨by omega, by omega⟩ (fun c_27 => ?_) (fun c_27 => ?_)
      · have c_27 : ((i_1 % 2 : Nat) : Int) ≠ 0 := c_27
        refine Zn.seg (pc2 := 5) (ls2 := [some (za (A 0)), some (zi (s : Int)), some (zi (n : Int)), some (zj (ioN (shf (r 11) s) (shf (r 12) s) n i_1 + (-((shf (r 12) s) i_1 * dfA (shf (r 11) s) i_1 n n)))), none, some (zi ((s : Int) + (i_1 : Int) + 1)), some (zj ((shf (r 12) s) i_1 * dfA (shf (r 11) s) i_1 n n)), none, some (zi ((s : Int) + (n : Int))), j_13]) (st2 := []) [(114, .lload 6), (116, .lneg), (117, .ladd), (118, .lstore_n 3), (119, .iinc 5 1), (122, .goto (-117))] (by decide +kernel) rfl ?_
        exact Zn.eq rfl (zcons rfl (zcons rfl (zcons rfl (zcons (congrArg (fun z => some (zj z)) (by rw [ioN]; first | (rw [if_pos (by omega)]; done) | rw [if_neg (by omega)])) (zcons rfl (zcons (congrArg (fun z => some (zi z)) (by omega)) rfl)))))) rfl (rfl) (ih_8 (some (zj ((shf (r 12) s) i_1 * dfA (shf (r 11) s) i_1 n n))) none (some (zi ((s : Int) + (n : Int)))) j_13)
      · have c_27 : ¬ (((i_1 % 2 : Nat) : Int) ≠ 0) := c_27
        refine Zn.seg (pc2 := 5) (ls2 := [some (za (A 0)), some (zi (s : Int)), some (zi (n : Int)), some (zj (ioN (shf (r 11) s) (shf (r 12) s) n i_1 + ((shf (r 12) s) i_1 * dfA (shf (r 11) s) i_1 n n))), none, some (zi ((s : Int) + (i_1 : Int) + 1)), some (zj ((shf (r 12) s) i_1 * dfA (shf (r 11) s) i_1 n n)), none, some (zi ((s : Int) + (n : Int))), j_13]) (st2 := []) [(109, .lload 6), (111, .goto 6), (117, .ladd), (118, .lstore_n 3), (119, .iinc 5 1), (122, .goto (-117))] (by decide +kernel) rfl ?_
        exact Zn.eq rfl (zcons rfl (zcons rfl (zcons rfl (zcons (congrArg (fun z => some (zj z)) (by rw [ioN]; first | (rw [if_pos (by omega)]; done) | rw [if_neg (by omega)])) (zcons rfl (zcons (congrArg (fun z => some (zi z)) (by omega)) rfl)))))) rfl (rfl) (ih_8 (some (zj ((shf (r 12) s) i_1 * dfA (shf (r 11) s) i_1 n n))) none (some (zi ((s : Int) + (n : Int)))) j_13)
  · skip
    refine Zn.seg (pc2 := 10) (ls2 := [some (za (A 0)), some (zi (s : Int)), some (zi (n : Int)), some (zj (ioN (shf (r 11) s) (shf (r 12) s) n n)), none, some (zi ((s : Int) + (n : Int))), j_3, j_4, j_5, j_6]) (st2 := [zi ((s : Int) + (n : Int)), zi ((s : Int) + (n : Int))]) [(5, .iload 5), (7, .iload_n 1), (8, .iload_n 2), (9, .iadd)] (by decide +kernel) rfl ?_
    refine Zn.icmp (c := .ge) (off := 115) 125 (by decide +kernel) rfl ⟨by omega, by omega⟩ ⟨by omega, by omega⟩ (fun c_28 => ?_) (fun c_28 => absurd (show (s : Int) + (n : Int) ≤ (s : Int) + (n : Int) from by omega) c_28)
    have c_28 : (s : Int) + (n : Int) ≤ (s : Int) + (n : Int) := c_28
    refine Zn.seg (pc2 := 127) (ls2 := [some (za (A 0)), some (zi (s : Int)), some (zi (n : Int)), some (zj (ioN (shf (r 11) s) (shf (r 12) s) n n)), none, some (zi ((s : Int) + (n : Int))), j_3, j_4, j_5, j_6]) (st2 := [zj 0, zj (ioN (shf (r 11) s) (shf (r 12) s) n n)]) [(125, .lload_n 3), (126, .lconst 0)] (by decide +kernel) rfl ?_
    refine Zn.lcmpif (c := .ne) (off := (7)) 135 (by decide +kernel) (by decide +kernel) rfl ⟨by omega, by omega⟩ ⟨by decide, by decide⟩ (fun c_29 => ?_) (fun c_29 => ?_)
    · have c_29 : ioN (shf (r 11) s) (shf (r 12) s) n n ≠ 0 := c_29
      refine Zn.seg (pc2 := 136) (ls2 := [some (za (A 0)), some (zi (s : Int)), some (zi (n : Int)), some (zj (ioN (shf (r 11) s) (shf (r 12) s) n n)), none, some (zi ((s : Int) + (n : Int))), j_3, j_4, j_5, j_6]) (st2 := [zi 0]) [(135, .iconst 0)] (by decide +kernel) rfl ?_
      exact Zn.bret (by decide +kernel) rfl (by first | decide | omega) (⟨by refine congrArg some (congrArg zi ?_); rw [ioV]; first | (rw [if_pos (by omega)]; done) | rw [if_neg (by omega)], hh.symm⟩)
    · have c_29 : ¬ (ioN (shf (r 11) s) (shf (r 12) s) n n ≠ 0) := c_29
      refine Zn.seg (pc2 := 136) (ls2 := [some (za (A 0)), some (zi (s : Int)), some (zi (n : Int)), some (zj (ioN (shf (r 11) s) (shf (r 12) s) n n)), none, some (zi ((s : Int) + (n : Int))), j_3, j_4, j_5, j_6]) (st2 := [zi 1]) [(131, .iconst 1), (132, .goto 4)] (by decide +kernel) rfl ?_
      exact Zn.bret (by decide +kernel) rfl (by first | decide | omega) (⟨by refine congrArg some (congrArg zi ?_); rw [ioV]; first | (rw [if_pos (by omega)]; done) | rw [if_neg (by omega)], hh.symm⟩)
theorem sp_X8_degrees_bad {h : xH} {A : Nat → Nat} {m : Nat → Int} {r : Nat → Nat → Int} {s l i n : Int} (hL : ∀ q ∈ LM A m r, h q.1 = zcE q.2) (hD : zND (LM A m r)) (zs : zInI s) (zl : zInI l) (zi_ : zInI i) (zn : zInI n) (hb : ¬ (0 ≤ s ∧ s ≤ 3) ∨ ¬ (0 ≤ l ∧ l ≤ 3) ∨ ¬ (1 ≤ n ∧ n ≤ 8)) : zEv k_X8_degrees [za (A 0), zi s, zi l, zi i, zi n] h (fun v h2 => v = some (zi (-1)) ∧ h2 = h) := by
  have hh : h = zov (LM A m r) h := zov_self hL
  have zs1 := zs.1
  have zs2 := zs.2
  have zl1 := zl.1
  have zl2 := zl.2
  have zi1 := zi_.1
  have zi2 := zi_.2
  have zn1 := zn.1
  have zn2 := zn.2
  refine zEv.body (I := (8, xI_X8_degrees, 10, 2, 46, 0, 0, false)) (rt := (some .int)) [some (za (A 0)), some (zi s), some (zi l), some (zi i), some (zi n), none, none, none, none, none] rfl rfl rfl rfl ?_
  refine Zn.eq rfl rfl rfl hh ?_
  have hD : zND (LM A m r) := hD
  refine Zn.seg (pc2 := 1) (ls2 := [some (za (A 0)), some (zi s), some (zi l), some (zi i), some (zi n), none, none, none, none, none]) (st2 := [zi s]) [(0, .iload_n 1)] (by decide +kernel) rfl ?_
  refine Zn.call (ins := .invokestatic 337) [zi s] [] (by decide +kernel) rfl rfl rfl ⟨rfl, rfl⟩ ⟨rfl, rfl, rfl⟩ rfl (zrecvS (by decide)) (sp_X8_isSheet (x := s) (by first | assumption | exact ⟨by omega, by omega⟩)) (fun v h2 hp => ?_)
  obtain ⟨rfl, hq_1⟩ := hp
  refine Zn.eq (pc2 := 4) (ls2 := [some (za (A 0)), some (zi s), some (zi l), some (zi i), some (zi n), none, none, none, none, none]) (st2 := [zi (inB 0 3 s)]) (h2 := zov (LM A m r) h) rfl rfl rfl hq_1 ?_
  have hD : zND (LM A m r) := hD
  have q_2 := inB_spec 0 3 s
  refine Zn.ifc (c := .eq) (off := 23) 27 (by decide +kernel) rfl ⟨by omega, by omega⟩ (fun c_3 => ?_) (fun c_3 => ?_)
  · have c_3 : inB 0 3 s = 0 := c_3
    refine Zn.seg (pc2 := 28) (ls2 := [some (za (A 0)), some (zi s), some (zi l), some (zi i), some (zi n), none, none, none, none, none]) (st2 := [zi (-1)]) [(27, .iconst (-1))] (by decide +kernel) rfl ?_
    exact Zn.iret (by decide +kernel) rfl (⟨by first | rfl | (refine congrArg some (congrArg zi ?_); first | omega | (simp_all; done) | (simp_all; omega)), hh.symm⟩)
  · have c_3 : ¬ (inB 0 3 s = 0) := c_3
    refine Zn.seg (pc2 := 8) (ls2 := [some (za (A 0)), some (zi s), some (zi l), some (zi i), some (zi n), none, none, none, none, none]) (st2 := [zi l]) [(7, .iload_n 2)] (by decide +kernel) rfl ?_
    refine Zn.call (ins := .invokestatic 337) [zi l] [] (by decide +kernel) rfl rfl rfl ⟨rfl, rfl⟩ ⟨rfl, rfl, rfl⟩ rfl (zrecvS (by decide)) (sp_X8_isSheet (x := l) (by first | assumption | exact ⟨by omega, by omega⟩)) (fun v h2 hp => ?_)
    obtain ⟨rfl, hq_4⟩ := hp
    refine Zn.eq (pc2 := 11) (ls2 := [some (za (A 0)), some (zi s), some (zi l), some (zi i), some (zi n), none, none, none, none, none]) (st2 := [zi (inB 0 3 l)]) (h2 := zov (LM A m r) h) rfl rfl rfl hq_4 ?_
    have hD : zND (LM A m r) := hD
    have q_5 := inB_spec 0 3 l
    refine Zn.ifc (c := .eq) (off := 16) 27 (by decide +kernel) rfl ⟨by omega, by omega⟩ (fun c_6 => ?_) (fun c_6 => ?_)
    · have c_6 : inB 0 3 l = 0 := c_6
      refine Zn.seg (pc2 := 28) (ls2 := [some (za (A 0)), some (zi s), some (zi l), some (zi i), some (zi n), none, none, none, none, none]) (st2 := [zi (-1)]) [(27, .iconst (-1))] (by decide +kernel) rfl ?_
      exact Zn.iret (by decide +kernel) rfl (⟨by first | rfl | (refine congrArg some (congrArg zi ?_); first | omega | (simp_all; done) | (simp_all; omega)), hh.symm⟩)
    · have c_6 : ¬ (inB 0 3 l = 0) := c_6
      refine Zn.seg (pc2 := 16) (ls2 := [some (za (A 0)), some (zi s), some (zi l), some (zi i), some (zi n), none, none, none, none, none]) (st2 := [zi n]) [(14, .iload 4)] (by decide +kernel) rfl ?_
      refine Zn.i2l (by decide +kernel) ⟨by omega, by omega⟩ ?_
      refine Zn.seg (pc2 := 21) (ls2 := [some (za (A 0)), some (zi s), some (zi l), some (zi i), some (zi n), none, none, none, none, none]) (st2 := [zj 8, zj 1, zj n]) [(17, .lconst 1), (18, .ldc2_w 340)] (by decide +kernel) rfl ?_
      refine Zn.call (ins := .invokestatic 77) [zj n, zj 1, zj 8] [] (by decide +kernel) rfl rfl rfl ⟨rfl, rfl⟩ ⟨rfl, rfl, rfl⟩ rfl (zrecvS (by decide)) (sp_X8_in (x := n) (lo := 1) (hi := 8) (⟨by omega, by omega⟩) (⟨by decide, by decide⟩) (⟨by decide, by decide⟩)) (fun v h2 hp => ?_)
      obtain ⟨rfl, hq_7⟩ := hp
      refine Zn.eq (pc2 := 24) (ls2 := [some (za (A 0)), some (zi s), some (zi l), some (zi i), some (zi n), none, none, none, none, none]) (st2 := [zi (inB 1 8 n)]) (h2 := zov (LM A m r) h) rfl rfl rfl hq_7 ?_
      have hD : zND (LM A m r) := hD
      have q_8 := inB_spec 1 8 n
      refine Zn.ifc (c := .ne) (off := 5) 29 (by decide +kernel) rfl ⟨by omega, by omega⟩ (fun c_9 => absurd (show inB 1 8 n ≠ 0 from c_9) (by omega)) (fun c_9 => ?_)
      have c_9 : ¬ (inB 1 8 n ≠ 0) := c_9
      refine Zn.seg (pc2 := 28) (ls2 := [some (za (A 0)), some (zi s), some (zi l), some (zi i), some (zi n), none, none, none, none, none]) (st2 := [zi (-1)]) [(27, .iconst (-1))] (by decide +kernel) rfl ?_
      exact Zn.iret (by decide +kernel) rfl (⟨by first | rfl | (refine congrArg some (congrArg zi ?_); first | omega | (simp_all; done) | (simp_all; omega)), hh.symm⟩)
theorem sp_X8_degrees_not {h : xH} {A : Nat → Nat} {m : Nat → Int} {r : Nat → Nat → Int} {s n : Nat} {l i : Int} (hL : ∀ q ∈ LM A m r, h q.1 = zcE q.2) (hD : zND (LM A m r)) (hs : s < 4) (hl : 0 ≤ l ∧ l ≤ 3) (hla : -4 ≤ r 4 s ∧ r 4 s ≤ 3) (hsz : 0 ≤ r 5 s ∧ r 5 s ≤ 24) (zi_ : zInI i) (hn : 1 ≤ n ∧ n ≤ 8) (hb : machV (r 4 s) (r 5 s) l i (2 * (n : Int)) < 0) : zEv k_X8_degrees [za (A 0), zi (s : Int), zi l, zi i, zi (n : Int)] h (fun v h2 => v = some (zi (machV (r 4 s) (r 5 s) l i (2 * (n : Int)))) ∧ h2 = h) := by
  have hh : h = zov (LM A m r) h := zov_self hL
  have zi1 := zi_.1
  have zi2 := zi_.2
  refine zEv.body (I := (8, xI_X8_degrees, 10, 2, 46, 0, 0, false)) (rt := (some .int)) [some (za (A 0)), some (zi (s : Int)), some (zi l), some (zi i), some (zi (n : Int)), none, none, none, none, none] rfl rfl rfl rfl ?_
  refine Zn.eq rfl rfl rfl hh ?_
  have hD : zND (LM A m r) := hD
  refine Zn.seg (pc2 := 1) (ls2 := [some (za (A 0)), some (zi (s : Int)), some (zi l), some (zi i), some (zi (n : Int)), none, none, none, none, none]) (st2 := [zi (s : Int)]) [(0, .iload_n 1)] (by decide +kernel) rfl ?_
  refine Zn.call (ins := .invokestatic 337) [zi (s : Int)] [] (by decide +kernel) rfl rfl rfl ⟨rfl, rfl⟩ ⟨rfl, rfl, rfl⟩ rfl (zrecvS (by decide)) (sp_X8_isSheet (x := (s : Int)) (by first | assumption | exact ⟨by omega, by omega⟩)) (fun v h2 hp => ?_)
  obtain ⟨rfl, hq_1⟩ := hp
  refine Zn.eq (pc2 := 4) (ls2 := [some (za (A 0)), some (zi (s : Int)), some (zi l), some (zi i), some (zi (n : Int)), none, none, none, none, none]) (st2 := [zi (inB 0 3 (s : Int))]) (h2 := zov (LM A m r) h) rfl rfl rfl hq_1 ?_
  have hD : zND (LM A m r) := hD
  have q_2 := inB_spec 0 3 (s : Int)
  refine Zn.ifc (c := .eq) (off := 23) 27 (by decide +kernel) rfl ⟨by omega, by omega⟩ (fun c_3 => absurd (show inB 0 3 (s : Int) = 0 from c_3) (by omega)) (fun c_3 => ?_)
  have c_3 : ¬ (inB 0 3 (s : Int) = 0) := c_3
  refine Zn.seg (pc2 := 8) (ls2 := [some (za (A 0)), some (zi (s : Int)), some (zi l), some (zi i), some (zi (n : Int)), none, none, none, none, none]) (st2 := [zi l]) [(7, .iload_n 2)] (by decide +kernel) rfl ?_
  refine Zn.call (ins := .invokestatic 337) [zi l] [] (by decide +kernel) rfl rfl rfl ⟨rfl, rfl⟩ ⟨rfl, rfl, rfl⟩ rfl (zrecvS (by decide)) (sp_X8_isSheet (x := l) (by first | assumption | exact ⟨by omega, by omega⟩)) (fun v h2 hp => ?_)
  obtain ⟨rfl, hq_4⟩ := hp
  refine Zn.eq (pc2 := 11) (ls2 := [some (za (A 0)), some (zi (s : Int)), some (zi l), some (zi i), some (zi (n : Int)), none, none, none, none, none]) (st2 := [zi (inB 0 3 l)]) (h2 := zov (LM A m r) h) rfl rfl rfl hq_4 ?_
  have hD : zND (LM A m r) := hD
  have q_5 := inB_spec 0 3 l
  refine Zn.ifc (c := .eq) (off := 16) 27 (by decide +kernel) rfl ⟨by omega, by omega⟩ (fun c_6 => absurd (show inB 0 3 l = 0 from c_6) (by omega)) (fun c_6 => ?_)
  have c_6 : ¬ (inB 0 3 l = 0) := c_6
  refine Zn.seg (pc2 := 16) (ls2 := [some (za (A 0)), some (zi (s : Int)), some (zi l), some (zi i), some (zi (n : Int)), none, none, none, none, none]) (st2 := [zi (n : Int)]) [(14, .iload 4)] (by decide +kernel) rfl ?_
  refine Zn.i2l (by decide +kernel) ⟨by omega, by omega⟩ ?_
  refine Zn.seg (pc2 := 21) (ls2 := [some (za (A 0)), some (zi (s : Int)), some (zi l), some (zi i), some (zi (n : Int)), none, none, none, none, none]) (st2 := [zj 8, zj 1, zj (n : Int)]) [(17, .lconst 1), (18, .ldc2_w 340)] (by decide +kernel) rfl ?_
  refine Zn.call (ins := .invokestatic 77) [zj (n : Int), zj 1, zj 8] [] (by decide +kernel) rfl rfl rfl ⟨rfl, rfl⟩ ⟨rfl, rfl, rfl⟩ rfl (zrecvS (by decide)) (sp_X8_in (x := (n : Int)) (lo := 1) (hi := 8) (⟨by omega, by omega⟩) (⟨by decide, by decide⟩) (⟨by decide, by decide⟩)) (fun v h2 hp => ?_)
  obtain ⟨rfl, hq_7⟩ := hp
  refine Zn.eq (pc2 := 24) (ls2 := [some (za (A 0)), some (zi (s : Int)), some (zi l), some (zi i), some (zi (n : Int)), none, none, none, none, none]) (st2 := [zi (inB 1 8 (n : Int))]) (h2 := zov (LM A m r) h) rfl rfl rfl hq_7 ?_
  have hD : zND (LM A m r) := hD
  have q_8 := inB_spec 1 8 (n : Int)
  refine Zn.ifc (c := .ne) (off := 5) 29 (by decide +kernel) rfl ⟨by omega, by omega⟩ (fun c_9 => ?_) (fun c_9 => absurd (show inB 1 8 (n : Int) ≠ 0 from by omega) c_9)
  have c_9 : inB 1 8 (n : Int) ≠ 0 := c_9
  refine Zn.seg (pc2 := 38) (ls2 := [some (za (A 0)), some (zi (s : Int)), some (zi l), some (zi i), some (zi (n : Int)), none, none, none, none, none]) (st2 := [zi (n : Int), zj 2, zi i, zi l, zi (s : Int), za (A 0)]) [(29, .aload_n 0), (30, .iload_n 1), (31, .iload_n 2), (32, .iload_n 3), (33, .ldc2_w 114), (36, .iload 4)] (by decide +kernel) rfl ?_
  refine Zn.i2l (by decide +kernel) ⟨by omega, by omega⟩ ?_
  refine Zn.seg (pc2 := 40) (ls2 := [some (za (A 0)), some (zi (s : Int)), some (zi l), some (zi i), some (zi (n : Int)), none, none, none, none, none]) (st2 := [zj (2 * (n : Int)), zi i, zi l, zi (s : Int), za (A 0)]) [(39, .lmul)] (by decide +kernel) rfl ?_
  refine Zn.call (ins := .invokevirtual 342) [za (A 0), zi (s : Int), zi l, zi i, zj (2 * (n : Int))] [] (by decide +kernel) rfl rfl rfl ⟨rfl, rfl⟩ ⟨rfl, rfl, rfl⟩ rfl (zrecvV hD (p := 0) rfl rfl rfl) (sp_X8_machine (A := A) (m := m) (r := r) (s := s) (l := l) (i := i) (n := 2 * (n : Int)) (zov_all hD) hD (hs) (hla) (hsz) (⟨by omega, by omega⟩) (⟨by omega, by omega⟩) (⟨by omega, by omega⟩)) (fun v h2 hp => ?_)
  obtain ⟨rfl, hq_10⟩ := hp
  refine Zn.eq (pc2 := 43) (ls2 := [some (za (A 0)), some (zi (s : Int)), some (zi l), some (zi i), some (zi (n : Int)), none, none, none, none, none]) (st2 := [zi (machV (r 4 s) (r 5 s) l i (2 * (n : Int)))]) (h2 := zov (LM A m r) h) rfl rfl rfl hq_10 ?_
  have hD : zND (LM A m r) := hD
  have q_11 := machV_spec (r 4 s) (r 5 s) l i (2 * (n : Int))
  refine Zn.seg (pc2 := 47) (ls2 := [some (za (A 0)), some (zi (s : Int)), some (zi l), some (zi i), some (zi (n : Int)), some (zi (machV (r 4 s) (r 5 s) l i (2 * (n : Int)))), none, none, none, none]) (st2 := [zi (machV (r 4 s) (r 5 s) l i (2 * (n : Int)))]) [(43, .istore 5), (45, .iload 5)] (by decide +kernel) rfl ?_
  refine Zn.ifc (c := .ge) (off := 6) 53 (by decide +kernel) rfl ⟨by omega, by omega⟩ (fun c_12 => absurd (show 0 ≤ machV (r 4 s) (r 5 s) l i (2 * (n : Int)) from c_12) (by omega)) (fun c_12 => ?_)
  have c_12 : ¬ (0 ≤ machV (r 4 s) (r 5 s) l i (2 * (n : Int))) := c_12
  refine Zn.seg (pc2 := 52) (ls2 := [some (za (A 0)), some (zi (s : Int)), some (zi l), some (zi i), some (zi (n : Int)), some (zi (machV (r 4 s) (r 5 s) l i (2 * (n : Int)))), none, none, none, none]) (st2 := [zi (machV (r 4 s) (r 5 s) l i (2 * (n : Int)))]) [(50, .iload 5)] (by decide +kernel) rfl ?_
  exact Zn.iret (by decide +kernel) rfl (⟨by first | rfl | (refine congrArg some (congrArg zi ?_); first | omega | (simp_all; done) | (simp_all; omega)), hh.symm⟩)
set_option maxHeartbeats 1000000 in
theorem sp_X8_degrees_not1 {h : xH} {A : Nat → Nat} {m : Nat → Int} {r : Nat → Nat → Int} {s i n : Nat} {l : Int} (hL : ∀ q ∈ LM A m r, h q.1 = zcE q.2) (hD : zND (LM A m r)) (hs : s < 4) (hl : 0 ≤ l ∧ l ≤ 3) (hla : -4 ≤ r 4 s ∧ r 4 s ≤ 3) (hsz : 0 ≤ r 5 s ∧ r 5 s ≤ 24) (hn : 1 ≤ n ∧ n ≤ 8) (hb : machV (r 4 s) (r 5 s) l (i : Int) (2 * (n : Int)) = 0) (hin : i + 2 * n ≤ 24) (hzl : ∀ j, j < n → zInL ((shf2 (r 6) (24 * s + i)) j) ∧ zInL ((shf2 (r 6) (24 * s + i + 1)) j)) (hbad : ∃ j, j < n ∧ ¬ (-6 ≤ (shf2 (r 6) (24 * s + i)) j ∧ (shf2 (r 6) (24 * s + i)) j ≤ 6 ∧ -99 ≤ (shf2 (r 6) (24 * s + i + 1)) j ∧ (shf2 (r 6) (24 * s + i + 1)) j ≤ 99)) : zEv k_X8_degrees [za (A 0), zi (s : Int), zi l, zi (i : Int), zi (n : Int)] h (fun v h2 => v = some (zi (-2)) ∧ h2 = h) := by
  have hh : h = zov (LM A m r) h := zov_self hL
  refine zEv.body (I := (8, xI_X8_degrees, 10, 2, 46, 0, 0, false)) (rt := (some .int)) [some (za (A 0)), some (zi (s : Int)), some (zi l), some (zi (i : Int)), some (zi (n : Int)), none, none, none, none, none] rfl rfl rfl rfl ?_
  refine Zn.eq rfl rfl rfl hh ?_
  have hD : zND (LM A m r) := hD
  refine Zn.seg (pc2 := 1) (ls2 := [some (za (A 0)), some (zi (s : Int)), some (zi l), some (zi (i : Int)), some (zi (n : Int)), none, none, none, none, none]) (st2 := [zi (s : Int)]) [(0, .iload_n 1)] (by decide +kernel) rfl ?_
  refine Zn.call (ins := .invokestatic 337) [zi (s : Int)] [] (by decide +kernel) rfl rfl rfl ⟨rfl, rfl⟩ ⟨rfl, rfl, rfl⟩ rfl (zrecvS (by decide)) (sp_X8_isSheet (x := (s : Int)) (by first | assumption | exact ⟨by omega, by omega⟩)) (fun v h2 hp => ?_)
  obtain ⟨rfl, hq_1⟩ := hp
  refine Zn.eq (pc2 := 4) (ls2 := [some (za (A 0)), some (zi (s : Int)), some (zi l), some (zi (i : Int)), some (zi (n : Int)), none, none, none, none, none]) (st2 := [zi (inB 0 3 (s : Int))]) (h2 := zov (LM A m r) h) rfl rfl rfl hq_1 ?_
  have hD : zND (LM A m r) := hD
  have q_2 := inB_spec 0 3 (s : Int)
  refine Zn.ifc (c := .eq) (off := 23) 27 (by decide +kernel) rfl ⟨by omega, by omega⟩ (fun c_3 => absurd (show inB 0 3 (s : Int) = 0 from c_3) (by omega)) (fun c_3 => ?_)
  have c_3 : ¬ (inB 0 3 (s : Int) = 0) := c_3
  refine Zn.seg (pc2 := 8) (ls2 := [some (za (A 0)), some (zi (s : Int)), some (zi l), some (zi (i : Int)), some (zi (n : Int)), none, none, none, none, none]) (st2 := [zi l]) [(7, .iload_n 2)] (by decide +kernel) rfl ?_
  refine Zn.call (ins := .invokestatic 337) [zi l] [] (by decide +kernel) rfl rfl rfl ⟨rfl, rfl⟩ ⟨rfl, rfl, rfl⟩ rfl (zrecvS (by decide)) (sp_X8_isSheet (x := l) (by first | assumption | exact ⟨by omega, by omega⟩)) (fun v h2 hp => ?_)
  obtain ⟨rfl, hq_4⟩ := hp
  refine Zn.eq (pc2 := 11) (ls2 := [some (za (A 0)), some (zi (s : Int)), some (zi l), some (zi (i : Int)), some (zi (n : Int)), none, none, none, none, none]) (st2 := [zi (inB 0 3 l)]) (h2 := zov (LM A m r) h) rfl rfl rfl hq_4 ?_
  have hD : zND (LM A m r) := hD
  have q_5 := inB_spec 0 3 l
  refine Zn.ifc (c := .eq) (off := 16) 27 (by decide +kernel) rfl ⟨by omega, by omega⟩ (fun c_6 => absurd (show inB 0 3 l = 0 from c_6) (by omega)) (fun c_6 => ?_)
  have c_6 : ¬ (inB 0 3 l = 0) := c_6
  refine Zn.seg (pc2 := 16) (ls2 := [some (za (A 0)), some (zi (s : Int)), some (zi l), some (zi (i : Int)), some (zi (n : Int)), none, none, none, none, none]) (st2 := [zi (n : Int)]) [(14, .iload 4)] (by decide +kernel) rfl ?_
  refine Zn.i2l (by decide +kernel) ⟨by omega, by omega⟩ ?_
  refine Zn.seg (pc2 := 21) (ls2 := [some (za (A 0)), some (zi (s : Int)), some (zi l), some (zi (i : Int)), some (zi (n : Int)), none, none, none, none, none]) (st2 := [zj 8, zj 1, zj (n : Int)]) [(17, .lconst 1), (18, .ldc2_w 340)] (by decide +kernel) rfl ?_
  refine Zn.call (ins := .invokestatic 77) [zj (n : Int), zj 1, zj 8] [] (by decide +kernel) rfl rfl rfl ⟨rfl, rfl⟩ ⟨rfl, rfl, rfl⟩ rfl (zrecvS (by decide)) (sp_X8_in (x := (n : Int)) (lo := 1) (hi := 8) (⟨by omega, by omega⟩) (⟨by decide, by decide⟩) (⟨by decide, by decide⟩)) (fun v h2 hp => ?_)
  obtain ⟨rfl, hq_7⟩ := hp
  refine Zn.eq (pc2 := 24) (ls2 := [some (za (A 0)), some (zi (s : Int)), some (zi l), some (zi (i : Int)), some (zi (n : Int)), none, none, none, none, none]) (st2 := [zi (inB 1 8 (n : Int))]) (h2 := zov (LM A m r) h) rfl rfl rfl hq_7 ?_
  have hD : zND (LM A m r) := hD
  have q_8 := inB_spec 1 8 (n : Int)
  refine Zn.ifc (c := .ne) (off := 5) 29 (by decide +kernel) rfl ⟨by omega, by omega⟩ (fun c_9 => ?_) (fun c_9 => absurd (show inB 1 8 (n : Int) ≠ 0 from by omega) c_9)
  have c_9 : inB 1 8 (n : Int) ≠ 0 := c_9
  refine Zn.seg (pc2 := 38) (ls2 := [some (za (A 0)), some (zi (s : Int)), some (zi l), some (zi (i : Int)), some (zi (n : Int)), none, none, none, none, none]) (st2 := [zi (n : Int), zj 2, zi (i : Int), zi l, zi (s : Int), za (A 0)]) [(29, .aload_n 0), (30, .iload_n 1), (31, .iload_n 2), (32, .iload_n 3), (33, .ldc2_w 114), (36, .iload 4)] (by decide +kernel) rfl ?_
  refine Zn.i2l (by decide +kernel) ⟨by omega, by omega⟩ ?_
  refine Zn.seg (pc2 := 40) (ls2 := [some (za (A 0)), some (zi (s : Int)), some (zi l), some (zi (i : Int)), some (zi (n : Int)), none, none, none, none, none]) (st2 := [zj (2 * (n : Int)), zi (i : Int), zi l, zi (s : Int), za (A 0)]) [(39, .lmul)] (by decide +kernel) rfl ?_
  refine Zn.call (ins := .invokevirtual 342) [za (A 0), zi (s : Int), zi l, zi (i : Int), zj (2 * (n : Int))] [] (by decide +kernel) rfl rfl rfl ⟨rfl, rfl⟩ ⟨rfl, rfl, rfl⟩ rfl (zrecvV hD (p := 0) rfl rfl rfl) (sp_X8_machine (A := A) (m := m) (r := r) (s := s) (l := l) (i := (i : Int)) (n := 2 * (n : Int)) (zov_all hD) hD (hs) (hla) (hsz) (⟨by omega, by omega⟩) (⟨by omega, by omega⟩) (⟨by omega, by omega⟩)) (fun v h2 hp => ?_)
  obtain ⟨rfl, hq_10⟩ := hp
  refine Zn.eq (pc2 := 43) (ls2 := [some (za (A 0)), some (zi (s : Int)), some (zi l), some (zi (i : Int)), some (zi (n : Int)), none, none, none, none, none]) (st2 := [zi (machV (r 4 s) (r 5 s) l (i : Int) (2 * (n : Int)))]) (h2 := zov (LM A m r) h) rfl rfl rfl hq_10 ?_
  have hD : zND (LM A m r) := hD
  have q_11 := machV_spec (r 4 s) (r 5 s) l (i : Int) (2 * (n : Int))
  refine Zn.seg (pc2 := 47) (ls2 := [some (za (A 0)), some (zi (s : Int)), some (zi l), some (zi (i : Int)), some (zi (n : Int)), some (zi (machV (r 4 s) (r 5 s) l (i : Int) (2 * (n : Int)))), none, none, none, none]) (st2 := [zi (machV (r 4 s) (r 5 s) l (i : Int) (2 * (n : Int)))]) [(43, .istore 5), (45, .iload 5)] (by decide +kernel) rfl ?_
  refine Zn.ifc (c := .ge) (off := 6) 53 (by decide +kernel) rfl ⟨by omega, by omega⟩ (fun c_12 => ?_) (fun c_12 => absurd (show 0 ≤ machV (r 4 s) (r 5 s) l (i : Int) (2 * (n : Int)) from by omega) c_12)
  have c_12 : 0 ≤ machV (r 4 s) (r 5 s) l (i : Int) (2 * (n : Int)) := c_12
  refine Zn.seg (pc2 := 56) (ls2 := [some (za (A 0)), some (zi (s : Int)), some (zi l), some (zi (i : Int)), some (zi (n : Int)), some (zi (machV (r 4 s) (r 5 s) l (i : Int) (2 * (n : Int)))), some (zi 0), none, none, none]) (st2 := []) [(53, .iconst 0), (54, .istore 6)] (by decide +kernel) rfl ?_
  refine Zn.eq (pc2 := 56) (ls2 := [some (za (A 0)), some (zi (s : Int)), some (zi l), some (zi (i : Int)), some (zi (n : Int)), some (zi (machV (r 4 s) (r 5 s) l (i : Int) (2 * (n : Int)))), some (zi (0 : Int)), none, none, none]) (st2 := []) (h2 := zov (LM A m r) h) rfl rfl rfl (rfl) ?_
  have hD : zND (LM A m r) := hD
  refine xloop (P := fun i_13 => ∀ j_14 j_15 j_16 : Option zV, (∀ j, j < i_13 → -6 ≤ (shf2 (r 6) (24 * s + i)) j ∧ (shf2 (r 6) (24 * s + i)) j ≤ 6 ∧ -99 ≤ (shf2 (r 6) (24 * s + i + 1)) j ∧ (shf2 (r 6) (24 * s + i + 1)) j ≤ 99) → Zn (8, xI_X8_degrees, 10, 2, 46, 0, 0, false) (some .int) 56 [some (za (A 0)), some (zi (s : Int)), some (zi l), some (zi (i : Int)), some (zi (n : Int)), some (zi (machV (r 4 s) (r 5 s) l (i : Int) (2 * (n : Int)))), some (zi (i_13 : Int)), j_14, j_15, j_16] [] (zov (LM A m r) h) _) (n) (fun i_13 hi_17 ih_18 j_14 j_15 j_16 fa_19 => ?_) (fun j_14 j_15 j_16 fa_19 => ?_) none none none (fun j hj => absurd hj (Nat.not_lt_zero j))
  · have hi_ : i_13 < n := hi_17
    have hzj := hzl i_13 hi_
    refine Zn.seg (pc2 := 60) (ls2 := [some (za (A 0)), some (zi (s : Int)), some (zi l), some (zi (i : Int)), some (zi (n : Int)), some (zi (machV (r 4 s) (r 5 s) l (i : Int) (2 * (n : Int)))), some (zi (i_13 : Int)), j_14, j_15, j_16]) (st2 := [zi (n : Int), zi (i_13 : Int)]) [(56, .iload 6), (58, .iload 4)] (by decide +kernel) rfl ?_
    refine Zn.icmp (c := .ge) (off := 64) 124 (by decide +kernel) rfl ⟨by omega, by omega⟩ ⟨by omega, by omega⟩ (fun c_20 => absurd (show (n : Int) ≤ (i_13 : Int) from c_20) (by omega)) (fun c_20 => ?_)
    have c_20 : ¬ ((n : Int) ≤ (i_13 : Int)) := c_20
    refine Zn.seg (pc2 := 64) (ls2 := [some (za (A 0)), some (zi (s : Int)), some (zi l), some (zi (i : Int)), some (zi (n : Int)), some (zi (machV (r 4 s) (r 5 s) l (i : Int) (2 * (n : Int)))), some (zi (i_13 : Int)), j_14, j_15, j_16]) (st2 := [za (A 0)]) [(63, .aload_n 0)] (by decide +kernel) rfl ?_
    refine Zn.get (ix := 29) hD 0 (by decide +kernel) rfl rfl rfl ?_
    refine Zn.seg (pc2 := 78) (ls2 := [some (za (A 0)), some (zi (s : Int)), some (zi l), some (zi (i : Int)), some (zi (n : Int)), some (zi (machV (r 4 s) (r 5 s) l (i : Int) (2 * (n : Int)))), some (zi (i_13 : Int)), j_14, j_15, j_16]) (st2 := [zi (24 * (s : Int) + (i : Int) + (2 * (i_13 : Int))), za (A 6)]) [(67, .bipush 24), (69, .iload_n 1), (70, .imul), (71, .iload_n 3), (72, .iadd), (73, .iconst 2), (74, .iload 6), (76, .imul), (77, .iadd)] (by decide +kernel) rfl ?_
    refine Zn.lald hD 6 (24 * s + i + 2 * i_13) (by decide +kernel) rfl (by omega) (by omega) rfl ?_
    refine Zn.topj (y := (shf2 (r 6) (24 * s + i)) i_13) (congrArg zJ (by show r 6 _ = r 6 _; congr 1)) ?_
    refine Zn.call (ins := .invokestatic 94) [zj ((shf2 (r 6) (24 * s + i)) i_13)] [] (by decide +kernel) rfl rfl rfl ⟨rfl, rfl⟩ ⟨rfl, rfl, rfl⟩ rfl (zrecvS (by decide)) (sp_X8_isX (x := (shf2 (r 6) (24 * s + i)) i_13) (hzj.1)) (fun v h2 hp => ?_)
    obtain ⟨rfl, hq_21⟩ := hp
    refine Zn.eq (pc2 := 82) (ls2 := [some (za (A 0)), some (zi (s : Int)), some (zi l), some (zi (i : Int)), some (zi (n : Int)), some (zi (machV (r 4 s) (r 5 s) l (i : Int) (2 * (n : Int)))), some (zi (i_13 : Int)), j_14, j_15, j_16]) (st2 := [zi (inB (-6) 6 ((shf2 (r 6) (24 * s + i)) i_13))]) (h2 := zov (LM A m r) h) rfl rfl rfl hq_21 ?_
    have hD : zND (LM A m r) := hD
    have q_22 := inB_spec (-6) 6 ((shf2 (r 6) (24 * s + i)) i_13)
    refine Zn.ifc (c := .eq) (off := 33) 115 (by decide +kernel) rfl ⟨by omega, by omega⟩ (fun c_23 => ?_) (fun c_23 => ?_)
    · have c_23 : inB (-6) 6 ((shf2 (r 6) (24 * s + i)) i_13) = 0 := c_23
      refine Zn.seg (pc2 := 117) (ls2 := [some (za (A 0)), some (zi (s : Int)), some (zi l), some (zi (i : Int)), some (zi (n : Int)), some (zi (machV (r 4 s) (r 5 s) l (i : Int) (2 * (n : Int)))), some (zi (i_13 : Int)), j_14, j_15, j_16]) (st2 := [zi (-2)]) [(115, .bipush (-2))] (by decide +kernel) rfl ?_
      exact Zn.iret (by decide +kernel) rfl (⟨by first | rfl | (refine congrArg some (congrArg zi ?_); first | omega | (simp_all; done) | (simp_all; omega)), hh.symm⟩)
    · have c_23 : ¬ (inB (-6) 6 ((shf2 (r 6) (24 * s + i)) i_13) = 0) := c_23
      refine Zn.seg (pc2 := 86) (ls2 := [some (za (A 0)), some (zi (s : Int)), some (zi l), some (zi (i : Int)), some (zi (n : Int)), some (zi (machV (r 4 s) (r 5 s) l (i : Int) (2 * (n : Int)))), some (zi (i_13 : Int)), j_14, j_15, j_16]) (st2 := [za (A 0)]) [(85, .aload_n 0)] (by decide +kernel) rfl ?_
      refine Zn.get (ix := 29) hD 0 (by decide +kernel) rfl rfl rfl ?_
      refine Zn.seg (pc2 := 102) (ls2 := [some (za (A 0)), some (zi (s : Int)), some (zi l), some (zi (i : Int)), some (zi (n : Int)), some (zi (machV (r 4 s) (r 5 s) l (i : Int) (2 * (n : Int)))), some (zi (i_13 : Int)), j_14, j_15, j_16]) (st2 := [zi (24 * (s : Int) + (i : Int) + (2 * (i_13 : Int)) + 1), za (A 6)]) [(89, .bipush 24), (91, .iload_n 1), (92, .imul), (93, .iload_n 3), (94, .iadd), (95, .iconst 2), (96, .iload 6), (98, .imul), (99, .iadd), (100, .iconst 1), (101, .iadd)] (by decide +kernel) rfl ?_
      refine Zn.lald hD 6 (24 * s + i + 2 * i_13 + 1) (by decide +kernel) rfl (by omega) (by omega) rfl ?_
      refine Zn.topj (y := (shf2 (r 6) (24 * s + i + 1)) i_13) (congrArg zJ (by show r 6 _ = r 6 _; congr 1; omega)) ?_
      refine Zn.seg (pc2 := 109) (ls2 := [some (za (A 0)), some (zi (s : Int)), some (zi l), some (zi (i : Int)), some (zi (n : Int)), some (zi (machV (r 4 s) (r 5 s) l (i : Int) (2 * (n : Int)))), some (zi (i_13 : Int)), j_14, j_15, j_16]) (st2 := [zj 99, zj (-99), zj ((shf2 (r 6) (24 * s + i + 1)) i_13)]) [(103, .ldc2_w 98), (106, .ldc2_w 100)] (by decide +kernel) rfl ?_
      refine Zn.call (ins := .invokestatic 77) [zj ((shf2 (r 6) (24 * s + i + 1)) i_13), zj (-99), zj 99] [] (by decide +kernel) rfl rfl rfl ⟨rfl, rfl⟩ ⟨rfl, rfl, rfl⟩ rfl (zrecvS (by decide)) (sp_X8_in (x := (shf2 (r 6) (24 * s + i + 1)) i_13) (lo := (-99)) (hi := 99) (hzj.2) (⟨by decide, by decide⟩) (⟨by decide, by decide⟩)) (fun v h2 hp => ?_)
      obtain ⟨rfl, hq_24⟩ := hp
      refine Zn.eq (pc2 := 112) (ls2 := [some (za (A 0)), some (zi (s : Int)), some (zi l), some (zi (i : Int)), some (zi (n : Int)), some (zi (machV (r 4 s) (r 5 s) l (i : Int) (2 * (n : Int)))), some (zi (i_13 : Int)), j_14, j_15, j_16]) (st2 := [zi (inB (-99) 99 ((shf2 (r 6) (24 * s + i + 1)) i_13))]) (h2 := zov (LM A m r) h) rfl rfl rfl hq_24 ?_
      have hD : zND (LM A m r) := hD
      have q_25 := inB_spec (-99) 99 ((shf2 (r 6) (24 * s + i + 1)) i_13)
      refine Zn.ifc (c := .ne) (off := 6) 118 (by decide +kernel) rfl ⟨by omega, by omega⟩ (fun c_26 => ?_) (fun c_26 => ?_)
      · have c_26 : inB (-99) 99 ((shf2 (r 6) (24 * s + i + 1)) i_13) ≠ 0 := c_26
        refine Zn.seg (pc2 := 56) (ls2 := [some (za (A 0)), some (zi (s : Int)), some (zi l), some (zi (i : Int)), some (zi (n : Int)), some (zi (machV (r 4 s) (r 5 s) l (i : Int) (2 * (n : Int)))), some (zi ((i_13 : Int) + 1)), j_14, j_15, j_16]) (st2 := []) [(118, .iinc 6 1), (121, .goto (-65))] (by decide +kernel) rfl ?_
        exact Zn.eq rfl (zcons rfl (zcons rfl (zcons rfl (zcons rfl (zcons rfl (zcons rfl (zcons (congrArg (fun z => some (zi z)) (by omega)) rfl))))))) rfl (rfl) (ih_18 j_14 j_15 j_16 (ball_s fa_19 (by omega)))
      · have c_26 : ¬ (inB (-99) 99 ((shf2 (r 6) (24 * s + i + 1)) i_13) ≠ 0) := c_26
        refine Zn.seg (pc2 := 117) (ls2 := [some (za (A 0)), some (zi (s : Int)), some (zi l), some (zi (i : Int)), some (zi (n : Int)), some (zi (machV (r 4 s) (r 5 s) l (i : Int) (2 * (n : Int)))), some (zi (i_13 : Int)), j_14, j_15, j_16]) (st2 := [zi (-2)]) [(115, .bipush (-2))] (by decide +kernel) rfl ?_
        exact Zn.iret (by decide +kernel) rfl (⟨by first | rfl | (refine congrArg some (congrArg zi ?_); first | omega | (simp_all; done) | (simp_all; omega)), hh.symm⟩)
  · skip
    obtain ⟨j_, hj1, hj2⟩ := hbad
    exact absurd (fa_19 j_ hj1) hj2
