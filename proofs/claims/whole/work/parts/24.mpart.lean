/-! the reference's part, best, step -/
def zF : Nat → Int := fun _ => 0
/-- numbers of the polynomial that is 0 at each node but one -/
def onA (X : Nat → Int) (c : Int) (i : Nat) : Nat → Nat → Int
  | 0 => fun k => if k = 0 then c else 0
  | a + 1 => if a = i then onA X c i a else fun k => (if 0 < k then onA X c i a (k - 1) else 0) - onA X c i a k * X a
def alA (X P : Nat → Int) (n : Nat) : Nat → Nat → Int
  | 0 => zF
  | i + 1 => fun k => alA X P n i k + onA X (P i * (sgT n i * dfA X i n n)) i n k
theorem onA_z0 {X : Nat → Int} {c : Int} {i k : Nat} (h : k = 0) : c = onA X c i 0 k := by
  show c = if k = 0 then c else 0
  rw [if_pos h]
theorem onA_z1 {X : Nat → Int} {c : Int} {i k : Nat} (h : ¬ k = 0) : 0 = onA X c i 0 k := by
  show 0 = if k = 0 then c else 0
  rw [if_neg h]
theorem onA_e {X : Nat → Int} {c : Int} {i a : Nat} (h : a = i) : onA X c i (a + 1) = onA X c i a := by
  rw [onA, if_pos h]
theorem onA_n {X : Nat → Int} {c : Int} {i a : Nat} (h : ¬ a = i) (k : Nat) : onA X c i (a + 1) k = (if 0 < k then onA X c i a (k - 1) else 0) - onA X c i a k * X a := by
  rw [onA, if_neg h]
theorem onA_s1 {X : Nat → Int} {c : Int} {i a k : Nat} (h : ¬ a = i) (hk : k < 3) : onA X c i a (2 - k) - onA X c i a (3 - k) * X a = onA X c i (a + 1) (3 - k) := by
  rw [onA_n h, if_pos (by omega), show 3 - k - 1 = 2 - k from by omega]
theorem onA_s0 {X : Nat → Int} {c : Int} {i a k : Nat} (h : ¬ a = i) (hk : k = 3) : 0 - onA X c i a (3 - k) * X a = onA X c i (a + 1) (3 - k) := by
  rw [onA_n h, if_neg (by omega)]
/-- from 3 down: n places told anew -/
def dscF (f g : Nat → Int) (n : Nat) : Nat → Int := fun k => if 4 ≤ k + n ∧ k < 4 then f k else g k
theorem dsc_0 (f g : Nat → Int) : dscF f g 0 = g := by
  funext k
  unfold dscF
  rw [if_neg (by omega)]
theorem dsc_st {f g : Nat → Int} {n : Nat} {v : Int} (hn : n < 4) (h : v = f (3 - n)) : va_up (dscF f g n) (3 - n) v = dscF f g (n + 1) := by
  funext k
  simp only [va_up, dscF]
  by_cases e : k = 3 - n
  · subst e
    rw [if_pos rfl, if_pos (by omega), h]
  · rw [if_neg e]
    by_cases h2 : 4 ≤ k + n ∧ k < 4
    · rw [if_pos h2, if_pos (by omega)]
    · rw [if_neg h2, if_neg (by omega)]
theorem dsc_lo {f g : Nat → Int} {n k : Nat} (h : k + n < 4) : dscF f g n k = g k := by
  unfold dscF
  rw [if_neg (by omega)]
theorem dsc_4 {f g n : Nat → Int} : dscF f (cpF g n 4) 4 = cpF f n 4 := by
  funext k
  unfold dscF cpF
  by_cases h : k < 4
  · rw [if_pos (by omega), if_pos h]
  · rw [if_neg (by omega), if_neg h, if_neg h]
theorem dsc_e {X : Nat → Int} {c : Int} {i a j : Nat} {n : Nat → Int} (h : a = i) (hj : j = 0) : dscF (onA X c i (a + 1)) (cpF (onA X c i a) n 4) j = cpF (onA X c i (a + 1)) n 4 := by
  rw [hj, dsc_0, onA_e h]
theorem cpF_cc {f g h : Nat → Int} : cpF f (cpF g h 4) 4 = cpF f h 4 := by
  funext k
  unfold cpF
  split <;> rfl
theorem cpF_ge {f g : Nat → Int} {k j : Nat} (h : ¬ j < k) : cpF f g k j = g j := if_neg h
theorem onA_hi (X : Nat → Int) (c : Int) (i : Nat) : ∀ a k, (a ≤ i → a < k → onA X c i a k = 0) ∧ (i < a → a ≤ k → onA X c i a k = 0)
  | 0, k => ⟨fun _ h => show (if k = 0 then c else 0) = 0 from if_neg (by omega), fun h => absurd h (Nat.not_lt_zero i)⟩
  | a + 1, k => by
    by_cases e : a = i
    · rw [onA_e e]
      exact ⟨fun h => absurd h (by omega), fun _ h => (onA_hi X c i a k).1 (by omega) (by omega)⟩
    · rw [onA_n e]
      have h1 := onA_hi X c i a k
      have h2 := onA_hi X c i a (k - 1)
      refine ⟨fun q1 q2 => ?_, fun q1 q2 => ?_⟩
      · rw [if_pos (by omega), h2.1 (by omega) (by omega), h1.1 (by omega) (by omega), Int.zero_mul]
        rfl
      · rw [if_pos (by omega), h2.2 (by omega) (by omega), h1.2 (by omega) (by omega), Int.zero_mul]
        rfl
/-- a polynomial of four numbers, at x -/
def ev4 (f : Nat → Int) (x : Int) : Int := f 0 + x * (f 1 + x * (f 2 + x * f 3))
theorem ev_ring (a b c z x : Int) : 0 - a * z + x * (a - b * z + x * (b - c * z + x * (c - 0 * z))) = (a + x * (b + x * (c + x * 0))) * (x - z) := by grind
theorem ev_on (X : Nat → Int) (c : Int) (i : Nat) (x : Int) : ∀ a, (a ≤ i → a ≤ 3) → (i < a → a ≤ 4) → ev4 (onA X c i a) x = c * pxN X x i a
  | 0, _, _ => by
    simp only [ev4, onA, pxN]
    simp
  | a + 1, h1, h2 => by
    have ih := ev_on X c i x a (fun h => by omega) (fun h => by omega)
    by_cases e : a = i
    · rw [onA_e e, ih, pxN, if_pos e, Int.mul_one]
    · have h3 : onA X c i a 3 = 0 := by
        by_cases q : a < i
        · exact (onA_hi X c i a 3).1 (by omega) (by omega)
        · exact (onA_hi X c i a 3).2 (by omega) (by omega)
      rw [pxN, if_neg e, ← Int.mul_assoc, ← ih]
      simp only [ev4, onA_n e, h3]
      exact ev_ring _ _ _ _ _
theorem ev_add (f g : Nat → Int) (x : Int) : ev4 (fun k => f k + g k) x = ev4 f x + ev4 g x := by
  simp only [ev4]
  grind
theorem ev_up {X P : Nat → Int} {n : Nat} (hn : n ≤ 4) (x : Int) : ∀ i, i ≤ n → upN X P x n i = ev4 (alA X P n i) x
  | 0, _ => by simp [upN, alA, ev4, zF]
  | i + 1, h => by
    have e : ev4 (alA X P n (i + 1)) x = ev4 (alA X P n i) x + ev4 (onA X (P i * (sgT n i * dfA X i n n)) i n) x := ev_add _ _ _
    rw [e, upN, ev_up hn x i (by omega), ev_on X _ i x n (fun q => by omega) (fun q => hn)]
theorem al_bd {X P : Nat → Int} {k : Nat} {c : Int} (h : GOK X P k c) (hk : k ≤ 4) : ∀ j, j < 4 → -4611686018427387904 ≤ alA X P k k j ∧ alA X P k k j ≤ 4611686018427387904 := fun j hj => by
  have u0 := h.2.2.2 6 (by decide)
  have u1 := h.2.2.2 9 (by decide)
  have u2 := h.2.2.2 3 (by decide)
  have u3 := h.2.2.2 12 (by decide)
  have u4 := h.2.2.2 0 (by decide)
  rw [ev_up hk _ k (Nat.le_refl k)] at u0 u1 u2 u3 u4
  unfold ev4 at u0 u1 u2 u3 u4
  rcases (show j = 0 ∨ j = 1 ∨ j = 2 ∨ j = 3 by omega) with rfl | rfl | rfl | rfl <;> omega
theorem sp_X8_part_bad1 {h : xH} {A : Nat → Nat} {m : Nat → Int} {r : Nat → Nat → Int} {x w_ : Int} (hL : ∀ q ∈ LM A m r, h q.1 = zcE q.2) (hD : zND (LM A m r)) (zx : zInI x) (zw : zInI w_) (hb : ¬ (0 ≤ x ∧ x ≤ 3)) : zEv k_X8_part [za (A 0), zi x, zi w_] h (fun v h2 => v = some (zj (-1)) ∧ h2 = h) := by
  have hh : h = zov (LM A m r) h := zov_self hL
  have zx1 := zx.1
  have zx2 := zx.2
  have zw1 := zw.1
  have zw2 := zw.2
  refine zEv.body (I := (8, xI_X8_part, 6, 6, 145, 0, 0, false)) (rt := (some .long)) [some (za (A 0)), some (zi x), some (zi w_), none, none, none] rfl rfl rfl rfl ?_
  refine Zn.eq rfl rfl rfl hh ?_
  have hD : zND (LM A m r) := hD
  refine Zn.seg (pc2 := 1) (ls2 := [some (za (A 0)), some (zi x), some (zi w_), none, none, none]) (st2 := [zi x]) [(0, .iload_n 1)] (by decide +kernel) rfl ?_
  refine Zn.i2l (by decide +kernel) ⟨by omega, by omega⟩ ?_
  refine Zn.seg (pc2 := 6) (ls2 := [some (za (A 0)), some (zi x), some (zi w_), none, none, none]) (st2 := [zj 3, zj 0, zj x]) [(2, .lconst 0), (3, .ldc2_w 112)] (by decide +kernel) rfl ?_
  refine Zn.call (ins := .invokestatic 77) [zj x, zj 0, zj 3] [] (by decide +kernel) rfl rfl rfl ⟨rfl, rfl⟩ ⟨rfl, rfl, rfl⟩ rfl (zrecvS (by decide)) (sp_X8_in (x := x) (lo := 0) (hi := 3) (⟨by omega, by omega⟩) (⟨by decide, by decide⟩) (⟨by decide, by decide⟩)) (fun v h2 hp => ?_)
  obtain ⟨rfl, hq_1⟩ := hp
  refine Zn.eq (pc2 := 9) (ls2 := [some (za (A 0)), some (zi x), some (zi w_), none, none, none]) (st2 := [zi (inB 0 3 x)]) (h2 := zov (LM A m r) h) rfl rfl rfl hq_1 ?_
  have hD : zND (LM A m r) := hD
  have q_2 := inB_spec 0 3 x
  refine Zn.ifc (c := .eq) (off := 15) 24 (by decide +kernel) rfl ⟨by omega, by omega⟩ (fun c_3 => ?_) (fun c_3 => absurd (show inB 0 3 x = 0 from by omega) c_3)
  have c_3 : inB 0 3 x = 0 := c_3
  refine Zn.seg (pc2 := 27) (ls2 := [some (za (A 0)), some (zi x), some (zi w_), none, none, none]) (st2 := [zj (-1)]) [(24, .ldc2_w 223)] (by decide +kernel) rfl ?_
  exact Zn.lret (by decide +kernel) rfl (⟨by first | rfl | (refine congrArg some (congrArg zj ?_); first | omega | (simp_all; done) | (simp_all; omega)), hh.symm⟩)
theorem sp_X8_part_bad2 {h : xH} {A : Nat → Nat} {m : Nat → Int} {r : Nat → Nat → Int} {x w_ : Int} (hL : ∀ q ∈ LM A m r, h q.1 = zcE q.2) (hD : zND (LM A m r)) (zx : zInI x) (zw : zInI w_) (hi : 0 ≤ x ∧ x ≤ 3) (hb : ¬ (0 ≤ w_ ∧ w_ ≤ 2)) : zEv k_X8_part [za (A 0), zi x, zi w_] h (fun v h2 => v = some (zj (-1)) ∧ h2 = h) := by
  have hh : h = zov (LM A m r) h := zov_self hL
  have zx1 := zx.1
  have zx2 := zx.2
  have zw1 := zw.1
  have zw2 := zw.2
  refine zEv.body (I := (8, xI_X8_part, 6, 6, 145, 0, 0, false)) (rt := (some .long)) [some (za (A 0)), some (zi x), some (zi w_), none, none, none] rfl rfl rfl rfl ?_
  refine Zn.eq rfl rfl rfl hh ?_
  have hD : zND (LM A m r) := hD
  refine Zn.seg (pc2 := 1) (ls2 := [some (za (A 0)), some (zi x), some (zi w_), none, none, none]) (st2 := [zi x]) [(0, .iload_n 1)] (by decide +kernel) rfl ?_
  refine Zn.i2l (by decide +kernel) ⟨by omega, by omega⟩ ?_
  refine Zn.seg (pc2 := 6) (ls2 := [some (za (A 0)), some (zi x), some (zi w_), none, none, none]) (st2 := [zj 3, zj 0, zj x]) [(2, .lconst 0), (3, .ldc2_w 112)] (by decide +kernel) rfl ?_
  refine Zn.call (ins := .invokestatic 77) [zj x, zj 0, zj 3] [] (by decide +kernel) rfl rfl rfl ⟨rfl, rfl⟩ ⟨rfl, rfl, rfl⟩ rfl (zrecvS (by decide)) (sp_X8_in (x := x) (lo := 0) (hi := 3) (⟨by omega, by omega⟩) (⟨by decide, by decide⟩) (⟨by decide, by decide⟩)) (fun v h2 hp => ?_)
  obtain ⟨rfl, hq_1⟩ := hp
  refine Zn.eq (pc2 := 9) (ls2 := [some (za (A 0)), some (zi x), some (zi w_), none, none, none]) (st2 := [zi (inB 0 3 x)]) (h2 := zov (LM A m r) h) rfl rfl rfl hq_1 ?_
  have hD : zND (LM A m r) := hD
  have q_2 := inB_spec 0 3 x
  refine Zn.ifc (c := .eq) (off := 15) 24 (by decide +kernel) rfl ⟨by omega, by omega⟩ (fun c_3 => absurd (show inB 0 3 x = 0 from c_3) (by omega)) (fun c_3 => ?_)
  have c_3 : ¬ (inB 0 3 x = 0) := c_3
  refine Zn.seg (pc2 := 13) (ls2 := [some (za (A 0)), some (zi x), some (zi w_), none, none, none]) (st2 := [zi w_]) [(12, .iload_n 2)] (by decide +kernel) rfl ?_
  refine Zn.i2l (by decide +kernel) ⟨by omega, by omega⟩ ?_
  refine Zn.seg (pc2 := 18) (ls2 := [some (za (A 0)), some (zi x), some (zi w_), none, none, none]) (st2 := [zj 2, zj 0, zj w_]) [(14, .lconst 0), (15, .ldc2_w 114)] (by decide +kernel) rfl ?_
  refine Zn.call (ins := .invokestatic 77) [zj w_, zj 0, zj 2] [] (by decide +kernel) rfl rfl rfl ⟨rfl, rfl⟩ ⟨rfl, rfl, rfl⟩ rfl (zrecvS (by decide)) (sp_X8_in (x := w_) (lo := 0) (hi := 2) (⟨by omega, by omega⟩) (⟨by decide, by decide⟩) (⟨by decide, by decide⟩)) (fun v h2 hp => ?_)
  obtain ⟨rfl, hq_4⟩ := hp
  refine Zn.eq (pc2 := 21) (ls2 := [some (za (A 0)), some (zi x), some (zi w_), none, none, none]) (st2 := [zi (inB 0 2 w_)]) (h2 := zov (LM A m r) h) rfl rfl rfl hq_4 ?_
  have hD : zND (LM A m r) := hD
  have q_5 := inB_spec 0 2 w_
  refine Zn.ifc (c := .ne) (off := 7) 28 (by decide +kernel) rfl ⟨by omega, by omega⟩ (fun c_6 => absurd (show inB 0 2 w_ ≠ 0 from c_6) (by omega)) (fun c_6 => ?_)
  have c_6 : ¬ (inB 0 2 w_ ≠ 0) := c_6
  refine Zn.seg (pc2 := 27) (ls2 := [some (za (A 0)), some (zi x), some (zi w_), none, none, none]) (st2 := [zj (-1)]) [(24, .ldc2_w 223)] (by decide +kernel) rfl ?_
  exact Zn.lret (by decide +kernel) rfl (⟨by first | rfl | (refine congrArg some (congrArg zj ?_); first | omega | (simp_all; done) | (simp_all; omega)), hh.symm⟩)
theorem sp_X8_part_none {h : xH} {A : Nat → Nat} {m : Nat → Int} {r : Nat → Nat → Int} {j d : Nat} {w_ : Int} (hL : ∀ q ∈ LM A m r, h q.1 = zcE q.2) (hD : zND (LM A m r)) (hj : j < 4) (hw : 0 ≤ w_ ∧ w_ ≤ 2) (hR : ROK (r 1)) (hd : r 1 0 = (d : Int)) (hd3 : d ≤ 3) (hno : mk (mpoleB (r 1)) ≠ 0 ∨ manyN (r 1) 0 13 ≤ d) : zEv k_X8_part [za (A 0), zi (j : Int), zi w_] h (fun v h2 => v = some (zj (-4)) ∧ h2 = h) := by
  have hh : h = zov (LM A m r) h := zov_self hL
  refine zEv.body (I := (8, xI_X8_part, 6, 6, 145, 0, 0, false)) (rt := (some .long)) [some (za (A 0)), some (zi (j : Int)), some (zi w_), none, none, none] rfl rfl rfl rfl ?_
  refine Zn.eq rfl rfl rfl hh ?_
  have hD : zND (LM A m r) := hD
  refine Zn.seg (pc2 := 1) (ls2 := [some (za (A 0)), some (zi (j : Int)), some (zi w_), none, none, none]) (st2 := [zi (j : Int)]) [(0, .iload_n 1)] (by decide +kernel) rfl ?_
  refine Zn.i2l (by decide +kernel) ⟨by omega, by omega⟩ ?_
  refine Zn.seg (pc2 := 6) (ls2 := [some (za (A 0)), some (zi (j : Int)), some (zi w_), none, none, none]) (st2 := [zj 3, zj 0, zj (j : Int)]) [(2, .lconst 0), (3, .ldc2_w 112)] (by decide +kernel) rfl ?_
  refine Zn.call (ins := .invokestatic 77) [zj (j : Int), zj 0, zj 3] [] (by decide +kernel) rfl rfl rfl ⟨rfl, rfl⟩ ⟨rfl, rfl, rfl⟩ rfl (zrecvS (by decide)) (sp_X8_in (x := (j : Int)) (lo := 0) (hi := 3) (⟨by omega, by omega⟩) (⟨by decide, by decide⟩) (⟨by decide, by decide⟩)) (fun v h2 hp => ?_)
  obtain ⟨rfl, hq_1⟩ := hp
  refine Zn.eq (pc2 := 9) (ls2 := [some (za (A 0)), some (zi (j : Int)), some (zi w_), none, none, none]) (st2 := [zi (inB 0 3 (j : Int))]) (h2 := zov (LM A m r) h) rfl rfl rfl hq_1 ?_
  have hD : zND (LM A m r) := hD
  have q_2 := inB_spec 0 3 (j : Int)
  refine Zn.ifc (c := .eq) (off := 15) 24 (by decide +kernel) rfl ⟨by omega, by omega⟩ (fun c_3 => absurd (show inB 0 3 (j : Int) = 0 from c_3) (by omega)) (fun c_3 => ?_)
  have c_3 : ¬ (inB 0 3 (j : Int) = 0) := c_3
  refine Zn.seg (pc2 := 13) (ls2 := [some (za (A 0)), some (zi (j : Int)), some (zi w_), none, none, none]) (st2 := [zi w_]) [(12, .iload_n 2)] (by decide +kernel) rfl ?_
  refine Zn.i2l (by decide +kernel) ⟨by omega, by omega⟩ ?_
  refine Zn.seg (pc2 := 18) (ls2 := [some (za (A 0)), some (zi (j : Int)), some (zi w_), none, none, none]) (st2 := [zj 2, zj 0, zj w_]) [(14, .lconst 0), (15, .ldc2_w 114)] (by decide +kernel) rfl ?_
  refine Zn.call (ins := .invokestatic 77) [zj w_, zj 0, zj 2] [] (by decide +kernel) rfl rfl rfl ⟨rfl, rfl⟩ ⟨rfl, rfl, rfl⟩ rfl (zrecvS (by decide)) (sp_X8_in (x := w_) (lo := 0) (hi := 2) (⟨by omega, by omega⟩) (⟨by decide, by decide⟩) (⟨by decide, by decide⟩)) (fun v h2 hp => ?_)
  obtain ⟨rfl, hq_4⟩ := hp
  refine Zn.eq (pc2 := 21) (ls2 := [some (za (A 0)), some (zi (j : Int)), some (zi w_), none, none, none]) (st2 := [zi (inB 0 2 w_)]) (h2 := zov (LM A m r) h) rfl rfl rfl hq_4 ?_
  have hD : zND (LM A m r) := hD
  have q_5 := inB_spec 0 2 w_
  refine Zn.ifc (c := .ne) (off := 7) 28 (by decide +kernel) rfl ⟨by omega, by omega⟩ (fun c_6 => ?_) (fun c_6 => absurd (show inB 0 2 w_ ≠ 0 from by omega) c_6)
  have c_6 : inB 0 2 w_ ≠ 0 := c_6
  refine Zn.seg (pc2 := 29) (ls2 := [some (za (A 0)), some (zi (j : Int)), some (zi w_), none, none, none]) (st2 := [za (A 0)]) [(28, .aload_n 0)] (by decide +kernel) rfl ?_
  refine Zn.call (ins := .invokevirtual 318) [za (A 0)] [] (by decide +kernel) rfl rfl rfl ⟨rfl, rfl⟩ ⟨rfl, rfl, rfl⟩ rfl (zrecvV hD (p := 0) rfl rfl rfl) (sp_X8_isReady_no (A := A) (m := m) (r := r) (d := d) (zov_all hD) hD (by first | assumption | omega) (by first | assumption | omega) (by first | assumption | omega) (by first | assumption | omega)) (fun v h2 hp => ?_)
  obtain ⟨rfl, hq_7⟩ := hp
  refine Zn.eq (pc2 := 32) (ls2 := [some (za (A 0)), some (zi (j : Int)), some (zi w_), none, none, none]) (st2 := [zi 0]) (h2 := zov (LM A m r) h) rfl rfl rfl hq_7 ?_
  have hD : zND (LM A m r) := hD
  refine Zn.ifc (c := .ne) (off := 7) 39 (by decide +kernel) rfl ⟨by decide, by decide⟩ (fun c_8 => absurd (show (0 : Int) ≠ 0 from c_8) (by decide)) (fun c_8 => ?_)
  have c_8 : ¬ ((0 : Int) ≠ 0) := c_8
  refine Zn.seg (pc2 := 38) (ls2 := [some (za (A 0)), some (zi (j : Int)), some (zi w_), none, none, none]) (st2 := [zj (-4)]) [(35, .ldc2_w 311)] (by decide +kernel) rfl ?_
  exact Zn.lret (by decide +kernel) rfl (⟨by first | rfl | (refine congrArg some (congrArg zj ?_); first | omega | (simp_all; done) | (simp_all; omega)), hh.symm⟩)
set_option maxHeartbeats 4000000 in
set_option maxRecDepth 20000 in
theorem sp_X8_part_ok {h : xH} {A : Nat → Nat} {m : Nat → Int} {r : Nat → Nat → Int} {j d : Nat} {w_ : Int} (hL : ∀ q ∈ LM A m r, h q.1 = zcE q.2) (hD : zND (LM A m r)) (hj : j < 4) (hw : 0 ≤ w_ ∧ w_ ≤ 2) (hR : ROK (r 1)) (hd : r 1 0 = (d : Int)) (hd3 : d ≤ 3) (hpo : mk (mpoleB (r 1)) = 0) (hS : ∀ t, t < 8192 → refP (r 1) t → SOK (r 1) d t) (hrd : RDH (r 1) d) : zEv k_X8_part [za (A 0), zi (j : Int), zi w_] h (fun v h2 => ∃ c1 : Int, ∃ c2 : Int, ∃ c3 : Int, ∃ c : Int, ∃ q1 : Int, ∃ q2 : Int, ∃ q3 : Int, ∃ x1 : Nat → Int, ∃ x2 : Nat → Int, ∃ x3 : Nat → Int, ∃ X : Nat → Int, ∃ P : Nat → Int, ∃ x4 : Nat → Int, ∃ x5 : Nat → Int, ∃ e1 : Int, ∃ e2 : Int, v = some (zj (tlV w_ (fdU (alA X P (d + 1) (d + 1) j) (c * vdA X (d + 1) (d + 1))) (((c * vdA X (d + 1) (d + 1)).natAbs : Int).tdiv (Int.gcd (alA X P (d + 1) (d + 1) j) (c * vdA X (d + 1) (d + 1)) : Int)))) ∧ h2 = zov (LM A (va_up (va_up (va_up (va_up (va_up (va_up (va_up (va_up (va_up (va_up m 19 c1) 20 c2) 21 c3) 24 c) 25 ((d : Int) + 1)) 26 e1) 27 e2) 28 q1) 29 q2) 30 q3) (va_up (va_up (va_up (va_up (va_up (va_up (va_up r 11 x1) 12 x2) 13 x3) 14 X) 15 P) 16 x4) 17 x5)) h ∧ RDY (r 1) d X P c) := by
  have hh : h = zov (LM A m r) h := zov_self hL
  refine zEv.body (I := (8, xI_X8_part, 6, 6, 145, 0, 0, false)) (rt := (some .long)) [some (za (A 0)), some (zi (j : Int)), some (zi w_), none, none, none] rfl rfl rfl rfl ?_
  refine Zn.eq rfl rfl rfl hh ?_
  have hD : zND (LM A m r) := hD
  refine Zn.seg (pc2 := 1) (ls2 := [some (za (A 0)), some (zi (j : Int)), some (zi w_), none, none, none]) (st2 := [zi (j : Int)]) [(0, .iload_n 1)] (by decide +kernel) rfl ?_
  refine Zn.i2l (by decide +kernel) ⟨by omega, by omega⟩ ?_
  refine Zn.seg (pc2 := 6) (ls2 := [some (za (A 0)), some (zi (j : Int)), some (zi w_), none, none, none]) (st2 := [zj 3, zj 0, zj (j : Int)]) [(2, .lconst 0), (3, .ldc2_w 112)] (by decide +kernel) rfl ?_
  refine Zn.call (ins := .invokestatic 77) [zj (j : Int), zj 0, zj 3] [] (by decide +kernel) rfl rfl rfl ⟨rfl, rfl⟩ ⟨rfl, rfl, rfl⟩ rfl (zrecvS (by decide)) (sp_X8_in (x := (j : Int)) (lo := 0) (hi := 3) (⟨by omega, by omega⟩) (⟨by decide, by decide⟩) (⟨by decide, by decide⟩)) (fun v h2 hp => ?_)
  obtain ⟨rfl, hq_1⟩ := hp
  refine Zn.eq (pc2 := 9) (ls2 := [some (za (A 0)), some (zi (j : Int)), some (zi w_), none, none, none]) (st2 := [zi (inB 0 3 (j : Int))]) (h2 := zov (LM A m r) h) rfl rfl rfl hq_1 ?_
  have hD : zND (LM A m r) := hD
  have q_2 := inB_spec 0 3 (j : Int)
  refine Zn.ifc (c := .eq) (off := 15) 24 (by decide +kernel) rfl ⟨by omega, by omega⟩ (fun c_3 => absurd (show inB 0 3 (j : Int) = 0 from c_3) (by omega)) (fun c_3 => ?_)
  have c_3 : ¬ (inB 0 3 (j : Int) = 0) := c_3
  refine Zn.seg (pc2 := 13) (ls2 := [some (za (A 0)), some (zi (j : Int)), some (zi w_), none, none, none]) (st2 := [zi w_]) [(12, .iload_n 2)] (by decide +kernel) rfl ?_
  refine Zn.i2l (by decide +kernel) ⟨by omega, by omega⟩ ?_
  refine Zn.seg (pc2 := 18) (ls2 := [some (za (A 0)), some (zi (j : Int)), some (zi w_), none, none, none]) (st2 := [zj 2, zj 0, zj w_]) [(14, .lconst 0), (15, .ldc2_w 114)] (by decide +kernel) rfl ?_
  refine Zn.call (ins := .invokestatic 77) [zj w_, zj 0, zj 2] [] (by decide +kernel) rfl rfl rfl ⟨rfl, rfl⟩ ⟨rfl, rfl, rfl⟩ rfl (zrecvS (by decide)) (sp_X8_in (x := w_) (lo := 0) (hi := 2) (⟨by omega, by omega⟩) (⟨by decide, by decide⟩) (⟨by decide, by decide⟩)) (fun v h2 hp => ?_)
  obtain ⟨rfl, hq_4⟩ := hp
  refine Zn.eq (pc2 := 21) (ls2 := [some (za (A 0)), some (zi (j : Int)), some (zi w_), none, none, none]) (st2 := [zi (inB 0 2 w_)]) (h2 := zov (LM A m r) h) rfl rfl rfl hq_4 ?_
  have hD : zND (LM A m r) := hD
  have q_5 := inB_spec 0 2 w_
  refine Zn.ifc (c := .ne) (off := 7) 28 (by decide +kernel) rfl ⟨by omega, by omega⟩ (fun c_6 => ?_) (fun c_6 => absurd (show inB 0 2 w_ ≠ 0 from by omega) c_6)
  have c_6 : inB 0 2 w_ ≠ 0 := c_6
  refine Zn.seg (pc2 := 29) (ls2 := [some (za (A 0)), some (zi (j : Int)), some (zi w_), none, none, none]) (st2 := [za (A 0)]) [(28, .aload_n 0)] (by decide +kernel) rfl ?_
  refine Zn.call (ins := .invokevirtual 318) [za (A 0)] [] (by decide +kernel) rfl rfl rfl ⟨rfl, rfl⟩ ⟨rfl, rfl, rfl⟩ rfl (zrecvV hD (p := 0) rfl rfl rfl) (sp_X8_isReady_yes (A := A) (m := m) (r := r) (d := d) (zov_all hD) hD (by first | assumption | omega) (by first | assumption | omega) (by first | assumption | omega) (by first | assumption | omega) (by first | assumption | omega) (by first | assumption | omega)) (fun v h2 hp => ?_)
  obtain ⟨c1, c2, c3, c, q1, q2, q3, x1, x2, x3, X, P, rfl, hq_7, hry⟩ := hp
  refine Zn.eq (pc2 := 32) (ls2 := [some (za (A 0)), some (zi (j : Int)), some (zi w_), none, none, none]) (st2 := [zi 1]) (h2 := zov (LM A (va_up (va_up (va_up (va_up (va_up (va_up (va_up (va_up m 19 c1) 20 c2) 21 c3) 24 c) 25 ((d : Int) + 1)) 28 q1) 29 q2) 30 q3) (va_up (va_up (va_up (va_up (va_up r 11 x1) 12 x2) 13 x3) 14 X) 15 P)) h) rfl rfl rfl (hq_7.trans (LM_over _ _ _ _ _ _)) ?_
  have hD : zND (LM A (va_up (va_up (va_up (va_up (va_up (va_up (va_up (va_up m 19 c1) 20 c2) 21 c3) 24 c) 25 ((d : Int) + 1)) 28 q1) 29 q2) 30 q3) (va_up (va_up (va_up (va_up (va_up r 11 x1) 12 x2) 13 x3) 14 X) 15 P)) := hD
  have hgk := hry.1
  refine Zn.ifc (c := .ne) (off := 7) 39 (by decide +kernel) rfl ⟨by decide, by decide⟩ (fun c_8 => ?_) (fun c_8 => absurd (show (1 : Int) ≠ 0 from by decide) c_8)
  have c_8 : (1 : Int) ≠ 0 := c_8
  refine Zn.seg (pc2 := 41) (ls2 := [some (za (A 0)), some (zi (j : Int)), some (zi w_), some (zi 0), none, none]) (st2 := []) [(39, .iconst 0), (40, .istore_n 3)] (by decide +kernel) rfl ?_
  refine Zn.eq (pc2 := 41) (ls2 := [some (za (A 0)), some (zi (j : Int)), some (zi w_), some (zi (0 : Int)), none, none]) (st2 := []) (h2 := zov (LM A (va_up (va_up (va_up (va_up (va_up (va_up (va_up (va_up m 19 c1) 20 c2) 21 c3) 24 c) 25 ((d : Int) + 1)) 28 q1) 29 q2) 30 q3) (va_up (va_up (va_up (va_up (va_up (va_up r 11 x1) 12 x2) 13 x3) 14 X) 15 P) 17 (cpF zF (r 17) 0))) h) rfl rfl rfl (by rw [cpF_zero, va_eta (v := r 17) _ 17 (by rfl)]) ?_
  have hD : zND (LM A (va_up (va_up (va_up (va_up (va_up (va_up (va_up (va_up m 19 c1) 20 c2) 21 c3) 24 c) 25 ((d : Int) + 1)) 28 q1) 29 q2) 30 q3) (va_up (va_up (va_up (va_up (va_up (va_up r 11 x1) 12 x2) 13 x3) 14 X) 15 P) 17 (cpF zF (r 17) 0))) := hD
  refine xloop (P := fun i_9 => ∀ j_10 j_11 : Option zV, Zn (8, xI_X8_part, 6, 6, 145, 0, 0, false) (some .long) 41 [some (za (A 0)), some (zi (j : Int)), some (zi w_), some (zi (i_9 : Int)), j_10, j_11] [] (zov (LM A (va_up (va_up (va_up (va_up (va_up (va_up (va_up (va_up m 19 c1) 20 c2) 21 c3) 24 c) 25 ((d : Int) + 1)) 28 q1) 29 q2) 30 q3) (va_up (va_up (va_up (va_up (va_up (va_up r 11 x1) 12 x2) 13 x3) 14 X) 15 P) 17 (cpF zF (r 17) i_9))) h) _) (4) (fun i_9 hi_12 ih_13 j_10 j_11 => ?_) (fun j_10 j_11 => ?_) none none
  · have hi_ : i_9 < 4 := hi_12
    refine Zn.seg (pc2 := 43) (ls2 := [some (za (A 0)), some (zi (j : Int)), some (zi w_), some (zi (i_9 : Int)), j_10, j_11]) (st2 := [zi 4, zi (i_9 : Int)]) [(41, .iload_n 3), (42, .iconst 4)] (by decide +kernel) rfl ?_
    refine Zn.icmp (c := .ge) (off := 16) 59 (by decide +kernel) rfl ⟨by omega, by omega⟩ ⟨by decide, by decide⟩ (fun c_14 => absurd (show 4 ≤ (i_9 : Int) from c_14) (by omega)) (fun c_14 => ?_)
    have c_14 : ¬ (4 ≤ (i_9 : Int)) := c_14
    refine Zn.seg (pc2 := 47) (ls2 := [some (za (A 0)), some (zi (j : Int)), some (zi w_), some (zi (i_9 : Int)), j_10, j_11]) (st2 := [za (A 0)]) [(46, .aload_n 0)] (by decide +kernel) rfl ?_
    refine Zn.get (ix := 64) hD 0 (by decide +kernel) rfl rfl rfl ?_
    refine Zn.seg (pc2 := 52) (ls2 := [some (za (A 0)), some (zi (j : Int)), some (zi w_), some (zi (i_9 : Int)), j_10, j_11]) (st2 := [zj 0, zi (i_9 : Int), za (A 17)]) [(50, .iload_n 3), (51, .lconst 0)] (by decide +kernel) rfl ?_
    refine Zn.last hD 17 (i_9) (by decide +kernel) rfl (by omega) (by omega) rfl ?_
    refine Zn.eq (h2 := zov (LM A (va_up (va_up (va_up (va_up (va_up (va_up (va_up (va_up m 19 c1) 20 c2) 21 c3) 24 c) 25 ((d : Int) + 1)) 28 q1) 29 q2) 30 q3) (va_up (va_up (va_up (va_up (va_up (va_up r 11 x1) 12 x2) 13 x3) 14 X) 15 P) 17 (va_up (cpF zF (r 17) i_9) i_9 0))) h) rfl rfl rfl (rfl) ?_
    have hD : zND (LM A (va_up (va_up (va_up (va_up (va_up (va_up (va_up (va_up m 19 c1) 20 c2) 21 c3) 24 c) 25 ((d : Int) + 1)) 28 q1) 29 q2) 30 q3) (va_up (va_up (va_up (va_up (va_up (va_up r 11 x1) 12 x2) 13 x3) 14 X) 15 P) 17 (va_up (cpF zF (r 17) i_9) i_9 0))) := hD
    refine Zn.seg (pc2 := 41) (ls2 := [some (za (A 0)), some (zi (j : Int)), some (zi w_), some (zi ((i_9 : Int) + 1)), j_10, j_11]) (st2 := []) [(53, .iinc 3 1), (56, .goto (-15))] (by decide +kernel) rfl ?_
    exact Zn.eq rfl (zcons rfl (zcons rfl (zcons rfl (zcons (congrArg (fun z => some (zi z)) (by omega)) rfl)))) rfl (by rw [cpF_st (f := zF) (by rfl)]) (ih_13 j_10 j_11)
  · skip
    refine Zn.seg (pc2 := 43) (ls2 := [some (za (A 0)), some (zi (j : Int)), some (zi w_), some (zi (4 : Int)), j_10, j_11]) (st2 := [zi 4, zi (4 : Int)]) [(41, .iload_n 3), (42, .iconst 4)] (by decide +kernel) rfl ?_
    refine Zn.icmp (c := .ge) (off := 16) 59 (by decide +kernel) rfl ⟨by omega, by omega⟩ ⟨by decide, by decide⟩ (fun c_15 => ?_) (fun c_15 => absurd (show 4 ≤ (4 : Int) from by decide) c_15)
    have c_15 : 4 ≤ (4 : Int) := c_15
    refine Zn.seg (pc2 := 61) (ls2 := [some (za (A 0)), some (zi (j : Int)), some (zi w_), some (zi 0), j_10, j_11]) (st2 := []) [(59, .iconst 0), (60, .istore_n 3)] (by decide +kernel) rfl ?_
    refine Zn.eq (pc2 := 61) (ls2 := [some (za (A 0)), some (zi (j : Int)), some (zi w_), some (zi (0 : Int)), j_10, j_11]) (st2 := []) (h2 := zov (LM A (va_up (va_up (va_up (va_up (va_up (va_up (va_up (va_up m 19 c1) 20 c2) 21 c3) 24 c) 25 ((d : Int) + 1)) 28 q1) 29 q2) 30 q3) (va_up (va_up (va_up (va_up (va_up (va_up (va_up r 11 x1) 12 x2) 13 x3) 14 X) 15 P) 16 (r 16)) 17 (cpF (alA X P (d + 1) 0) (r 17) 4))) h) rfl rfl rfl (by rw [show alA X P (d + 1) 0 = zF from rfl]; congr 2; funext k_; simp only [va_up]; (repeat' split) <;> first | rfl | (exfalso; omega) | (subst_vars; rfl)) ?_
    have hD : zND (LM A (va_up (va_up (va_up (va_up (va_up (va_up (va_up (va_up m 19 c1) 20 c2) 21 c3) 24 c) 25 ((d : Int) + 1)) 28 q1) 29 q2) 30 q3) (va_up (va_up (va_up (va_up (va_up (va_up (va_up r 11 x1) 12 x2) 13 x3) 14 X) 15 P) 16 (r 16)) 17 (cpF (alA X P (d + 1) 0) (r 17) 4))) := hD
    refine xloop (P := fun i_16 => ∀ (n16 : Nat → Int), ∀ j_17 j_18 : Option zV, Zn (8, xI_X8_part, 6, 6, 145, 0, 0, false) (some .long) 61 [some (za (A 0)), some (zi (j : Int)), some (zi w_), some (zi (i_16 : Int)), j_17, j_18] [] (zov (LM A (va_up (va_up (va_up (va_up (va_up (va_up (va_up (va_up m 19 c1) 20 c2) 21 c3) 24 c) 25 ((d : Int) + 1)) 28 q1) 29 q2) 30 q3) (va_up (va_up (va_up (va_up (va_up (va_up (va_up r 11 x1) 12 x2) 13 x3) 14 X) 15 P) 16 n16) 17 (cpF (alA X P (d + 1) i_16) (r 17) 4))) h) _) ((d + 1)) (fun i_16 hi_19 ih_20 n16 j_17 j_18 => ?_) (fun n16 j_17 j_18 => ?_) (r 16) j_10 j_11
    · have hi_ : i_16 < (d + 1) := hi_19
      have hfx := hgk.2.1 i_16 hi_
      refine Zn.seg (pc2 := 63) (ls2 := [some (za (A 0)), some (zi (j : Int)), some (zi w_), some (zi (i_16 : Int)), j_17, j_18]) (st2 := [za (A 0), zi (i_16 : Int)]) [(61, .iload_n 3), (62, .aload_n 0)] (by decide +kernel) rfl ?_
      refine Zn.get (ix := 217) hD 0 (by decide +kernel) rfl rfl rfl ?_
      refine Zn.eq (st2 := [zi ((d : Int) + 1), zi (i_16 : Int)]) rfl rfl rfl rfl ?_
      refine Zn.icmp (c := .ge) (off := 164) 230 (by decide +kernel) rfl ⟨by omega, by omega⟩ ⟨by omega, by omega⟩ (fun c_21 => absurd (show (d : Int) + 1 ≤ (i_16 : Int) from c_21) (by omega)) (fun c_21 => ?_)
      have c_21 : ¬ ((d : Int) + 1 ≤ (i_16 : Int)) := c_21
      refine Zn.seg (pc2 := 72) (ls2 := [some (za (A 0)), some (zi (j : Int)), some (zi w_), some (zi (i_16 : Int)), some (zi 0), j_18]) (st2 := []) [(69, .iconst 0), (70, .istore 4)] (by decide +kernel) rfl ?_
      refine Zn.eq (pc2 := 72) (ls2 := [some (za (A 0)), some (zi (j : Int)), some (zi w_), some (zi (i_16 : Int)), some (zi (0 : Int)), j_18]) (st2 := []) (h2 := zov (LM A (va_up (va_up (va_up (va_up (va_up (va_up (va_up (va_up m 19 c1) 20 c2) 21 c3) 24 c) 25 ((d : Int) + 1)) 28 q1) 29 q2) 30 q3) (va_up (va_up (va_up (va_up (va_up (va_up (va_up r 11 x1) 12 x2) 13 x3) 14 X) 15 P) 16 (cpF (onA X (P i_16 * (sgT (d + 1) i_16 * dfA X i_16 (d + 1) (d + 1))) i_16 0) n16 0)) 17 (cpF (alA X P (d + 1) i_16) (r 17) 4))) h) rfl rfl rfl (by rw [cpF_zero]) ?_
      have hD : zND (LM A (va_up (va_up (va_up (va_up (va_up (va_up (va_up (va_up m 19 c1) 20 c2) 21 c3) 24 c) 25 ((d : Int) + 1)) 28 q1) 29 q2) 30 q3) (va_up (va_up (va_up (va_up (va_up (va_up (va_up r 11 x1) 12 x2) 13 x3) 14 X) 15 P) 16 (cpF (onA X (P i_16 * (sgT (d + 1) i_16 * dfA X i_16 (d + 1) (d + 1))) i_16 0) n16 0)) 17 (cpF (alA X P (d + 1) i_16) (r 17) 4))) := hD
      refine xloop (P := fun i_22 => ∀ j_23 : Option zV, Zn (8, xI_X8_part, 6, 6, 145, 0, 0, false) (some .long) 72 [some (za (A 0)), some (zi (j : Int)), some (zi w_), some (zi (i_16 : Int)), some (zi (i_22 : Int)), j_23] [] (zov (LM A (va_up (va_up (va_up (va_up (va_up (va_up (va_up (va_up m 19 c1) 20 c2) 21 c3) 24 c) 25 ((d : Int) + 1)) 28 q1) 29 q2) 30 q3) (va_up (va_up (va_up (va_up (va_up (va_up (va_up r 11 x1) 12 x2) 13 x3) 14 X) 15 P) 16 (cpF (onA X (P i_16 * (sgT (d + 1) i_16 * dfA X i_16 (d + 1) (d + 1))) i_16 0) n16 i_22)) 17 (cpF (alA X P (d + 1) i_16) (r 17) 4))) h) _) (4) (fun i_22 hi_24 ih_25 j_23 => ?_) (fun j_23 => ?_) j_18
      · have hi_ : i_22 < 4 := hi_24
        refine Zn.seg (pc2 := 75) (ls2 := [some (za (A 0)), some (zi (j : Int)), some (zi w_), some (zi (i_16 : Int)), some (zi (i_22 : Int)), j_23]) (st2 := [zi 4, zi (i_22 : Int)]) [(72, .iload 4), (74, .iconst 4)] (by decide +kernel) rfl ?_
        refine Zn.icmp (c := .ge) (off := 37) 112 (by decide +kernel) rfl ⟨by omega, by omega⟩ ⟨by decide, by decide⟩ (fun c_26 => absurd (show 4 ≤ (i_22 : Int) from c_26) (by omega)) (fun c_26 => ?_)
        have c_26 : ¬ (4 ≤ (i_22 : Int)) := c_26
        refine Zn.seg (pc2 := 79) (ls2 := [some (za (A 0)), some (zi (j : Int)), some (zi w_), some (zi (i_16 : Int)), some (zi (i_22 : Int)), j_23]) (st2 := [za (A 0)]) [(78, .aload_n 0)] (by decide +kernel) rfl ?_
        refine Zn.get (ix := 61) hD 0 (by decide +kernel) rfl rfl rfl ?_
        refine Zn.seg (pc2 := 86) (ls2 := [some (za (A 0)), some (zi (j : Int)), some (zi w_), some (zi (i_16 : Int)), some (zi (i_22 : Int)), j_23]) (st2 := [zi (i_22 : Int), zi (i_22 : Int), za (A 16)]) [(82, .iload 4), (84, .iload 4)] (by decide +kernel) rfl ?_
        refine Zn.ifc (c := .ne) (off := 18) 104 (by decide +kernel) rfl ⟨by omega, by omega⟩ (fun c_27 => ?_) (fun c_27 => ?_)
        · have c_27 : (i_22 : Int) ≠ 0 := c_27
          refine Zn.seg (pc2 := 105) (ls2 := [some (za (A 0)), some (zi (j : Int)), some (zi w_), some (zi (i_16 : Int)), some (zi (i_22 : Int)), j_23]) (st2 := [zj 0, zi (i_22 : Int), za (A 16)]) [(104, .lconst 0)] (by decide +kernel) rfl ?_
          refine Zn.last hD 16 (i_22) (by decide +kernel) rfl (by omega) (by omega) rfl ?_
          refine Zn.eq (h2 := zov (LM A (va_up (va_up (va_up (va_up (va_up (va_up (va_up (va_up m 19 c1) 20 c2) 21 c3) 24 c) 25 ((d : Int) + 1)) 28 q1) 29 q2) 30 q3) (va_up (va_up (va_up (va_up (va_up (va_up (va_up r 11 x1) 12 x2) 13 x3) 14 X) 15 P) 16 (va_up (cpF (onA X (P i_16 * (sgT (d + 1) i_16 * dfA X i_16 (d + 1) (d + 1))) i_16 0) n16 i_22) i_22 0)) 17 (cpF (alA X P (d + 1) i_16) (r 17) 4))) h) rfl rfl rfl (rfl) ?_
          have hD : zND (LM A (va_up (va_up (va_up (va_up (va_up (va_up (va_up (va_up m 19 c1) 20 c2) 21 c3) 24 c) 25 ((d : Int) + 1)) 28 q1) 29 q2) 30 q3) (va_up (va_up (va_up (va_up (va_up (va_up (va_up r 11 x1) 12 x2) 13 x3) 14 X) 15 P) 16 (va_up (cpF (onA X (P i_16 * (sgT (d + 1) i_16 * dfA X i_16 (d + 1) (d + 1))) i_16 0) n16 i_22) i_22 0)) 17 (cpF (alA X P (d + 1) i_16) (r 17) 4))) := hD
          refine Zn.seg (pc2 := 72) (ls2 := [some (za (A 0)), some (zi (j : Int)), some (zi w_), some (zi (i_16 : Int)), some (zi ((i_22 : Int) + 1)), j_23]) (st2 := []) [(106, .iinc 4 1), (109, .goto (-37))] (by decide +kernel) rfl ?_
          exact Zn.eq rfl (zcons rfl (zcons rfl (zcons rfl (zcons rfl (zcons (congrArg (fun z => some (zi z)) (by omega)) rfl))))) rfl (by first | rw [cpF_st (f := (onA X (P i_16 * (sgT (d + 1) i_16 * dfA X i_16 (d + 1) (d + 1))) i_16 0)) (onA_z0 (by omega))] | rw [cpF_st (f := (onA X (P i_16 * (sgT (d + 1) i_16 * dfA X i_16 (d + 1) (d + 1))) i_16 0)) (onA_z1 (by omega))]) (ih_25 j_23)
        · have c_27 : ¬ ((i_22 : Int) ≠ 0) := c_27
          refine Zn.seg (pc2 := 90) (ls2 := [some (za (A 0)), some (zi (j : Int)), some (zi w_), some (zi (i_16 : Int)), some (zi (i_22 : Int)), j_23]) (st2 := [za (A 0), zi (i_22 : Int), za (A 16)]) [(89, .aload_n 0)] (by decide +kernel) rfl ?_
          refine Zn.get (ix := 58) hD 0 (by decide +kernel) rfl rfl rfl ?_
          refine Zn.seg (pc2 := 94) (ls2 := [some (za (A 0)), some (zi (j : Int)), some (zi w_), some (zi (i_16 : Int)), some (zi (i_22 : Int)), j_23]) (st2 := [zi (i_16 : Int), za (A 15), zi (i_22 : Int), za (A 16)]) [(93, .iload_n 3)] (by decide +kernel) rfl ?_
          refine Zn.lald hD 15 (i_16) (by decide +kernel) rfl (by omega) (by omega) rfl ?_
          refine Zn.eq (st2 := [zj (P i_16), zi (i_22 : Int), za (A 16)]) rfl rfl rfl rfl ?_
          refine Zn.seg (pc2 := 97) (ls2 := [some (za (A 0)), some (zi (j : Int)), some (zi w_), some (zi (i_16 : Int)), some (zi (i_22 : Int)), j_23]) (st2 := [zi (i_16 : Int), za (A 0), zj (P i_16), zi (i_22 : Int), za (A 16)]) [(95, .aload_n 0), (96, .iload_n 3)] (by decide +kernel) rfl ?_
          refine Zn.call (ins := .invokevirtual 225) [za (A 0), zi (i_16 : Int)] [zj (P i_16), zi (i_22 : Int), za (A 16)] (by decide +kernel) rfl rfl rfl ⟨rfl, rfl⟩ ⟨rfl, rfl, rfl⟩ rfl (zrecvV hD (p := 0) rfl rfl rfl) (sp_X8_partOf (A := A) (m := va_up (va_up (va_up (va_up (va_up (va_up (va_up (va_up m 19 c1) 20 c2) 21 c3) 24 c) 25 ((d : Int) + 1)) 28 q1) 29 q2) 30 q3) (r := va_up (va_up (va_up (va_up (va_up (va_up (va_up r 11 x1) 12 x2) 13 x3) 14 X) 15 P) 16 (cpF (onA X (P i_16 * (sgT (d + 1) i_16 * dfA X i_16 (d + 1) (d + 1))) i_16 0) n16 i_22)) 17 (cpF (alA X P (d + 1) i_16) (r 17) 4)) (k := (d + 1)) (c := i_16) (zov_all hD) hD (by rfl) (hgk.1) (hgk.2.1) (by omega)) (fun v h2 hp => ?_)
          obtain ⟨rfl, hq_28⟩ := hp
          refine Zn.eq (pc2 := 100) (ls2 := [some (za (A 0)), some (zi (j : Int)), some (zi w_), some (zi (i_16 : Int)), some (zi (i_22 : Int)), j_23]) (st2 := [zj (sgT (d + 1) i_16 * dfA (X) i_16 (d + 1) (d + 1)), zj (P i_16), zi (i_22 : Int), za (A 16)]) (h2 := zov (LM A (va_up (va_up (va_up (va_up (va_up (va_up (va_up (va_up m 19 c1) 20 c2) 21 c3) 24 c) 25 ((d : Int) + 1)) 28 q1) 29 q2) 30 q3) (va_up (va_up (va_up (va_up (va_up (va_up (va_up r 11 x1) 12 x2) 13 x3) 14 X) 15 P) 16 (cpF (onA X (P i_16 * (sgT (d + 1) i_16 * dfA X i_16 (d + 1) (d + 1))) i_16 0) n16 i_22)) 17 (cpF (alA X P (d + 1) i_16) (r 17) 4))) h) rfl rfl rfl hq_28 ?_
          have hD : zND (LM A (va_up (va_up (va_up (va_up (va_up (va_up (va_up (va_up m 19 c1) 20 c2) 21 c3) 24 c) 25 ((d : Int) + 1)) 28 q1) 29 q2) 30 q3) (va_up (va_up (va_up (va_up (va_up (va_up (va_up r 11 x1) 12 x2) 13 x3) 14 X) 15 P) 16 (cpF (onA X (P i_16 * (sgT (d + 1) i_16 * dfA X i_16 (d + 1) (d + 1))) i_16 0) n16 i_22)) 17 (cpF (alA X P (d + 1) i_16) (r 17) 4))) := hD
          refine Zn.seg (pc2 := 105) (ls2 := [some (za (A 0)), some (zi (j : Int)), some (zi w_), some (zi (i_16 : Int)), some (zi (i_22 : Int)), j_23]) (st2 := [zj ((P i_16) * (sgT (d + 1) i_16 * dfA (X) i_16 (d + 1) (d + 1))), zi (i_22 : Int), za (A 16)]) [(100, .lmul), (101, .goto 4)] (by decide +kernel) rfl ?_
          refine Zn.last hD 16 (i_22) (by decide +kernel) rfl (by omega) (by omega) rfl ?_
          refine Zn.eq (h2 := zov (LM A (va_up (va_up (va_up (va_up (va_up (va_up (va_up (va_up m 19 c1) 20 c2) 21 c3) 24 c) 25 ((d : Int) + 1)) 28 q1) 29 q2) 30 q3) (va_up (va_up (va_up (va_up (va_up (va_up (va_up r 11 x1) 12 x2) 13 x3) 14 X) 15 P) 16 (va_up (cpF (onA X (P i_16 * (sgT (d + 1) i_16 * dfA X i_16 (d + 1) (d + 1))) i_16 0) n16 i_22) i_22 ((P i_16) * (sgT (d + 1) i_16 * dfA (X) i_16 (d + 1) (d + 1))))) 17 (cpF (alA X P (d + 1) i_16) (r 17) 4))) h) rfl rfl rfl (rfl) ?_
          have hD : zND (LM A (va_up (va_up (va_up (va_up (va_up (va_up (va_up (va_up m 19 c1) 20 c2) 21 c3) 24 c) 25 ((d : Int) + 1)) 28 q1) 29 q2) 30 q3) (va_up (va_up (va_up (va_up (va_up (va_up (va_up r 11 x1) 12 x2) 13 x3) 14 X) 15 P) 16 (va_up (cpF (onA X (P i_16 * (sgT (d + 1) i_16 * dfA X i_16 (d + 1) (d + 1))) i_16 0) n16 i_22) i_22 ((P i_16) * (sgT (d + 1) i_16 * dfA (X) i_16 (d + 1) (d + 1))))) 17 (cpF (alA X P (d + 1) i_16) (r 17) 4))) := hD
          refine Zn.seg (pc2 := 72) (ls2 := [some (za (A 0)), some (zi (j : Int)), some (zi w_), some (zi (i_16 : Int)), some (zi ((i_22 : Int) + 1)), j_23]) (st2 := []) [(106, .iinc 4 1), (109, .goto (-37))] (by decide +kernel) rfl ?_
          exact Zn.eq rfl (zcons rfl (zcons rfl (zcons rfl (zcons rfl (zcons (congrArg (fun z => some (zi z)) (by omega)) rfl))))) rfl (by first | rw [cpF_st (f := (onA X (P i_16 * (sgT (d + 1) i_16 * dfA X i_16 (d + 1) (d + 1))) i_16 0)) (onA_z0 (by omega))] | rw [cpF_st (f := (onA X (P i_16 * (sgT (d + 1) i_16 * dfA X i_16 (d + 1) (d + 1))) i_16 0)) (onA_z1 (by omega))]) (ih_25 j_23)
      · skip
        refine Zn.seg (pc2 := 75) (ls2 := [some (za (A 0)), some (zi (j : Int)), some (zi w_), some (zi (i_16 : Int)), some (zi (4 : Int)), j_23]) (st2 := [zi 4, zi (4 : Int)]) [(72, .iload 4), (74, .iconst 4)] (by decide +kernel) rfl ?_
        refine Zn.icmp (c := .ge) (off := 37) 112 (by decide +kernel) rfl ⟨by omega, by omega⟩ ⟨by decide, by decide⟩ (fun c_29 => ?_) (fun c_29 => absurd (show 4 ≤ (4 : Int) from by decide) c_29)
        have c_29 : 4 ≤ (4 : Int) := c_29
        refine Zn.seg (pc2 := 115) (ls2 := [some (za (A 0)), some (zi (j : Int)), some (zi w_), some (zi (i_16 : Int)), some (zi 0), j_23]) (st2 := []) [(112, .iconst 0), (113, .istore 4)] (by decide +kernel) rfl ?_
        refine Zn.eq (pc2 := 115) (ls2 := [some (za (A 0)), some (zi (j : Int)), some (zi w_), some (zi (i_16 : Int)), some (zi (0 : Int)), j_23]) (st2 := []) (h2 := zov (LM A (va_up (va_up (va_up (va_up (va_up (va_up (va_up (va_up m 19 c1) 20 c2) 21 c3) 24 c) 25 ((d : Int) + 1)) 28 q1) 29 q2) 30 q3) (va_up (va_up (va_up (va_up (va_up (va_up (va_up r 11 x1) 12 x2) 13 x3) 14 X) 15 P) 16 (cpF (onA X (P i_16 * (sgT (d + 1) i_16 * dfA X i_16 (d + 1) (d + 1))) i_16 0) n16 4)) 17 (cpF (alA X P (d + 1) i_16) (r 17) 4))) h) rfl rfl rfl (rfl) ?_
        have hD : zND (LM A (va_up (va_up (va_up (va_up (va_up (va_up (va_up (va_up m 19 c1) 20 c2) 21 c3) 24 c) 25 ((d : Int) + 1)) 28 q1) 29 q2) 30 q3) (va_up (va_up (va_up (va_up (va_up (va_up (va_up r 11 x1) 12 x2) 13 x3) 14 X) 15 P) 16 (cpF (onA X (P i_16 * (sgT (d + 1) i_16 * dfA X i_16 (d + 1) (d + 1))) i_16 0) n16 4)) 17 (cpF (alA X P (d + 1) i_16) (r 17) 4))) := hD
        refine xloop (P := fun i_30 => ∀ j_31 : Option zV, Zn (8, xI_X8_part, 6, 6, 145, 0, 0, false) (some .long) 115 [some (za (A 0)), some (zi (j : Int)), some (zi w_), some (zi (i_16 : Int)), some (zi (i_30 : Int)), j_31] [] (zov (LM A (va_up (va_up (va_up (va_up (va_up (va_up (va_up (va_up m 19 c1) 20 c2) 21 c3) 24 c) 25 ((d : Int) + 1)) 28 q1) 29 q2) 30 q3) (va_up (va_up (va_up (va_up (va_up (va_up (va_up r 11 x1) 12 x2) 13 x3) 14 X) 15 P) 16 (cpF (onA X (P i_16 * (sgT (d + 1) i_16 * dfA X i_16 (d + 1) (d + 1))) i_16 i_30) n16 4)) 17 (cpF (alA X P (d + 1) i_16) (r 17) 4))) h) _) ((d + 1)) (fun i_30 hi_32 ih_33 j_31 => ?_) (fun j_31 => ?_) j_23
        · have hi_ : i_30 < (d + 1) := hi_32
          have hfa := hgk.2.1 i_30 hi_
          refine Zn.seg (pc2 := 118) (ls2 := [some (za (A 0)), some (zi (j : Int)), some (zi w_), some (zi (i_16 : Int)), some (zi (i_30 : Int)), j_31]) (st2 := [za (A 0), zi (i_30 : Int)]) [(115, .iload 4), (117, .aload_n 0)] (by decide +kernel) rfl ?_
          refine Zn.get (ix := 217) hD 0 (by decide +kernel) rfl rfl rfl ?_
          refine Zn.eq (st2 := [zi ((d : Int) + 1), zi (i_30 : Int)]) rfl rfl rfl rfl ?_
          refine Zn.icmp (c := .ge) (off := 71) 192 (by decide +kernel) rfl ⟨by omega, by omega⟩ ⟨by omega, by omega⟩ (fun c_34 => absurd (show (d : Int) + 1 ≤ (i_30 : Int) from c_34) (by omega)) (fun c_34 => ?_)
          have c_34 : ¬ ((d : Int) + 1 ≤ (i_30 : Int)) := c_34
          refine Zn.seg (pc2 := 127) (ls2 := [some (za (A 0)), some (zi (j : Int)), some (zi w_), some (zi (i_16 : Int)), some (zi (i_30 : Int)), some (zi 3)]) (st2 := []) [(124, .iconst 3), (125, .istore 5)] (by decide +kernel) rfl ?_
          refine Zn.eq (pc2 := 127) (ls2 := [some (za (A 0)), some (zi (j : Int)), some (zi w_), some (zi (i_16 : Int)), some (zi (i_30 : Int)), some (zi (3 - (0 : Int)))]) (st2 := []) (h2 := zov (LM A (va_up (va_up (va_up (va_up (va_up (va_up (va_up (va_up m 19 c1) 20 c2) 21 c3) 24 c) 25 ((d : Int) + 1)) 28 q1) 29 q2) 30 q3) (va_up (va_up (va_up (va_up (va_up (va_up (va_up r 11 x1) 12 x2) 13 x3) 14 X) 15 P) 16 (dscF (onA X (P i_16 * (sgT (d + 1) i_16 * dfA X i_16 (d + 1) (d + 1))) i_16 (i_30 + 1)) (cpF (onA X (P i_16 * (sgT (d + 1) i_16 * dfA X i_16 (d + 1) (d + 1))) i_16 i_30) n16 4) 0)) 17 (cpF (alA X P (d + 1) i_16) (r 17) 4))) h) rfl rfl rfl (by rw [dsc_0]) ?_
          have hD : zND (LM A (va_up (va_up (va_up (va_up (va_up (va_up (va_up (va_up m 19 c1) 20 c2) 21 c3) 24 c) 25 ((d : Int) + 1)) 28 q1) 29 q2) 30 q3) (va_up (va_up (va_up (va_up (va_up (va_up (va_up r 11 x1) 12 x2) 13 x3) 14 X) 15 P) 16 (dscF (onA X (P i_16 * (sgT (d + 1) i_16 * dfA X i_16 (d + 1) (d + 1))) i_16 (i_30 + 1)) (cpF (onA X (P i_16 * (sgT (d + 1) i_16 * dfA X i_16 (d + 1) (d + 1))) i_16 i_30) n16 4) 0)) 17 (cpF (alA X P (d + 1) i_16) (r 17) 4))) := hD
          refine xloop (P := fun i_35 => (i_30 ≠ i_16 ∨ i_35 = 0) → Zn (8, xI_X8_part, 6, 6, 145, 0, 0, false) (some .long) 127 [some (za (A 0)), some (zi (j : Int)), some (zi w_), some (zi (i_16 : Int)), some (zi (i_30 : Int)), some (zi (3 - (i_35 : Int)))] [] (zov (LM A (va_up (va_up (va_up (va_up (va_up (va_up (va_up (va_up m 19 c1) 20 c2) 21 c3) 24 c) 25 ((d : Int) + 1)) 28 q1) 29 q2) 30 q3) (va_up (va_up (va_up (va_up (va_up (va_up (va_up r 11 x1) 12 x2) 13 x3) 14 X) 15 P) 16 (dscF (onA X (P i_16 * (sgT (d + 1) i_16 * dfA X i_16 (d + 1) (d + 1))) i_16 (i_30 + 1)) (cpF (onA X (P i_16 * (sgT (d + 1) i_16 * dfA X i_16 (d + 1) (d + 1))) i_16 i_30) n16 4) i_35)) 17 (cpF (alA X P (d + 1) i_16) (r 17) 4))) h) _) (4) (fun i_35 hi_36 ih_37 fa_38 => ?_) (fun fa_38 => ?_) (Or.inr rfl)
          · have hi_ : i_35 < 4 := hi_36
            refine Zn.seg (pc2 := 129) (ls2 := [some (za (A 0)), some (zi (j : Int)), some (zi w_), some (zi (i_16 : Int)), some (zi (i_30 : Int)), some (zi (3 - (i_35 : Int)))]) (st2 := [zi (3 - (i_35 : Int))]) [(127, .iload 5)] (by decide +kernel) rfl ?_
            refine Zn.ifc (c := .lt) (off := 57) 186 (by decide +kernel) rfl ⟨by omega, by omega⟩ (fun c_39 => absurd (show 3 - (i_35 : Int) < 0 from c_39) (by omega)) (fun c_39 => ?_)
            have c_39 : ¬ (3 - (i_35 : Int) < 0) := c_39
            refine Zn.seg (pc2 := 135) (ls2 := [some (za (A 0)), some (zi (j : Int)), some (zi w_), some (zi (i_16 : Int)), some (zi (i_30 : Int)), some (zi (3 - (i_35 : Int)))]) (st2 := [zi (i_16 : Int), zi (i_30 : Int)]) [(132, .iload 4), (134, .iload_n 3)] (by decide +kernel) rfl ?_
            refine Zn.icmp (c := .eq) (off := 51) 186 (by decide +kernel) rfl ⟨by omega, by omega⟩ ⟨by omega, by omega⟩ (fun c_40 => ?_) (fun c_40 => ?_)
            · have c_40 : (i_30 : Int) = (i_16 : Int) := c_40
              refine Zn.seg (pc2 := 115) (ls2 := [some (za (A 0)), some (zi (j : Int)), some (zi w_), some (zi (i_16 : Int)), some (zi ((i_30 : Int) + 1)), some (zi (3 - (i_35 : Int)))]) (st2 := []) [(186, .iinc 4 1), (189, .goto (-74))] (by decide +kernel) rfl ?_
              exact Zn.eq rfl (zcons rfl (zcons rfl (zcons rfl (zcons rfl (zcons (congrArg (fun z => some (zi z)) (by omega)) rfl))))) rfl (by first | rw [dsc_4] | rw [dsc_e (by omega) (by omega)]) (ih_33 (some (zi (3 - (i_35 : Int)))))
            · have c_40 : ¬ ((i_30 : Int) = (i_16 : Int)) := c_40
              refine Zn.seg (pc2 := 139) (ls2 := [some (za (A 0)), some (zi (j : Int)), some (zi w_), some (zi (i_16 : Int)), some (zi (i_30 : Int)), some (zi (3 - (i_35 : Int)))]) (st2 := [za (A 0)]) [(138, .aload_n 0)] (by decide +kernel) rfl ?_
              refine Zn.get (ix := 61) hD 0 (by decide +kernel) rfl rfl rfl ?_
              refine Zn.seg (pc2 := 146) (ls2 := [some (za (A 0)), some (zi (j : Int)), some (zi w_), some (zi (i_16 : Int)), some (zi (i_30 : Int)), some (zi (3 - (i_35 : Int)))]) (st2 := [zi (3 - (i_35 : Int)), zi (3 - (i_35 : Int)), za (A 16)]) [(142, .iload 5), (144, .iload 5)] (by decide +kernel) rfl ?_
              refine Zn.ifc (c := .le) (off := 15) 161 (by decide +kernel) rfl ⟨by omega, by omega⟩ (fun c_41 => ?_) (fun c_41 => ?_)
              · have c_41 : 3 - (i_35 : Int) ≤ 0 := c_41
                refine Zn.seg (pc2 := 163) (ls2 := [some (za (A 0)), some (zi (j : Int)), some (zi w_), some (zi (i_16 : Int)), some (zi (i_30 : Int)), some (zi (3 - (i_35 : Int)))]) (st2 := [za (A 0), zj 0, zi (3 - (i_35 : Int)), za (A 16)]) [(161, .lconst 0), (162, .aload_n 0)] (by decide +kernel) rfl ?_
                refine Zn.get (ix := 61) hD 0 (by decide +kernel) rfl rfl rfl ?_
                refine Zn.seg (pc2 := 168) (ls2 := [some (za (A 0)), some (zi (j : Int)), some (zi w_), some (zi (i_16 : Int)), some (zi (i_30 : Int)), some (zi (3 - (i_35 : Int)))]) (st2 := [zi (3 - (i_35 : Int)), za (A 16), zj 0, zi (3 - (i_35 : Int)), za (A 16)]) [(166, .iload 5)] (by decide +kernel) rfl ?_
                refine Zn.lald hD 16 (3 - i_35) (by decide +kernel) rfl (by omega) (by omega) rfl ?_
                refine Zn.eq (st2 := [zj ((dscF (onA X (P i_16 * (sgT (d + 1) i_16 * dfA X i_16 (d + 1) (d + 1))) i_16 (i_30 + 1)) (cpF (onA X (P i_16 * (sgT (d + 1) i_16 * dfA X i_16 (d + 1) (d + 1))) i_16 i_30) n16 4) i_35) (3 - i_35)), zj 0, zi (3 - (i_35 : Int)), za (A 16)]) rfl rfl rfl rfl ?_
                refine Zn.topj (y := (onA X (P i_16 * (sgT (d + 1) i_16 * dfA X i_16 (d + 1) (d + 1))) i_16 i_30) (3 - i_35)) (congrArg zJ ((dsc_lo (by omega)).trans (cpF_lt (by omega)))) ?_
                refine Zn.seg (pc2 := 170) (ls2 := [some (za (A 0)), some (zi (j : Int)), some (zi w_), some (zi (i_16 : Int)), some (zi (i_30 : Int)), some (zi (3 - (i_35 : Int)))]) (st2 := [za (A 0), zj ((onA X (P i_16 * (sgT (d + 1) i_16 * dfA X i_16 (d + 1) (d + 1))) i_16 i_30) (3 - i_35)), zj 0, zi (3 - (i_35 : Int)), za (A 16)]) [(169, .aload_n 0)] (by decide +kernel) rfl ?_
                refine Zn.get (ix := 55) hD 0 (by decide +kernel) rfl rfl rfl ?_
                refine Zn.seg (pc2 := 175) (ls2 := [some (za (A 0)), some (zi (j : Int)), some (zi w_), some (zi (i_16 : Int)), some (zi (i_30 : Int)), some (zi (3 - (i_35 : Int)))]) (st2 := [zi (i_30 : Int), za (A 14), zj ((onA X (P i_16 * (sgT (d + 1) i_16 * dfA X i_16 (d + 1) (d + 1))) i_16 i_30) (3 - i_35)), zj 0, zi (3 - (i_35 : Int)), za (A 16)]) [(173, .iload 4)] (by decide +kernel) rfl ?_
                refine Zn.iald hD 14 (i_30) (by decide +kernel) rfl (by omega) (by omega) rfl ?_
                refine Zn.eq (st2 := [zi (X i_30), zj ((onA X (P i_16 * (sgT (d + 1) i_16 * dfA X i_16 (d + 1) (d + 1))) i_16 i_30) (3 - i_35)), zj 0, zi (3 - (i_35 : Int)), za (A 16)]) rfl rfl rfl rfl ?_
                refine Zn.i2l (by decide +kernel) ⟨by omega, by omega⟩ ?_
                refine Zn.seg (pc2 := 179) (ls2 := [some (za (A 0)), some (zi (j : Int)), some (zi w_), some (zi (i_16 : Int)), some (zi (i_30 : Int)), some (zi (3 - (i_35 : Int)))]) (st2 := [zj (0 - (((onA X (P i_16 * (sgT (d + 1) i_16 * dfA X i_16 (d + 1) (d + 1))) i_16 i_30) (3 - i_35)) * (X i_30))), zi (3 - (i_35 : Int)), za (A 16)]) [(177, .lmul), (178, .lsub)] (by decide +kernel) rfl ?_
                refine Zn.last hD 16 (3 - i_35) (by decide +kernel) rfl (by omega) (by omega) rfl ?_
                refine Zn.eq (h2 := zov (LM A (va_up (va_up (va_up (va_up (va_up (va_up (va_up (va_up m 19 c1) 20 c2) 21 c3) 24 c) 25 ((d : Int) + 1)) 28 q1) 29 q2) 30 q3) (va_up (va_up (va_up (va_up (va_up (va_up (va_up r 11 x1) 12 x2) 13 x3) 14 X) 15 P) 16 (va_up (dscF (onA X (P i_16 * (sgT (d + 1) i_16 * dfA X i_16 (d + 1) (d + 1))) i_16 (i_30 + 1)) (cpF (onA X (P i_16 * (sgT (d + 1) i_16 * dfA X i_16 (d + 1) (d + 1))) i_16 i_30) n16 4) i_35) (3 - i_35) (0 - (((onA X (P i_16 * (sgT (d + 1) i_16 * dfA X i_16 (d + 1) (d + 1))) i_16 i_30) (3 - i_35)) * (X i_30))))) 17 (cpF (alA X P (d + 1) i_16) (r 17) 4))) h) rfl rfl rfl (rfl) ?_
                have hD : zND (LM A (va_up (va_up (va_up (va_up (va_up (va_up (va_up (va_up m 19 c1) 20 c2) 21 c3) 24 c) 25 ((d : Int) + 1)) 28 q1) 29 q2) 30 q3) (va_up (va_up (va_up (va_up (va_up (va_up (va_up r 11 x1) 12 x2) 13 x3) 14 X) 15 P) 16 (va_up (dscF (onA X (P i_16 * (sgT (d + 1) i_16 * dfA X i_16 (d + 1) (d + 1))) i_16 (i_30 + 1)) (cpF (onA X (P i_16 * (sgT (d + 1) i_16 * dfA X i_16 (d + 1) (d + 1))) i_16 i_30) n16 4) i_35) (3 - i_35) (0 - (((onA X (P i_16 * (sgT (d + 1) i_16 * dfA X i_16 (d + 1) (d + 1))) i_16 i_30) (3 - i_35)) * (X i_30))))) 17 (cpF (alA X P (d + 1) i_16) (r 17) 4))) := hD
                refine Zn.seg (pc2 := 127) (ls2 := [some (za (A 0)), some (zi (j : Int)), some (zi w_), some (zi (i_16 : Int)), some (zi (i_30 : Int)), some (zi (3 - (i_35 : Int) + (-1)))]) (st2 := []) [(180, .iinc 5 (-1)), (183, .goto (-56))] (by decide +kernel) rfl ?_
                exact Zn.eq rfl (zcons rfl (zcons rfl (zcons rfl (zcons rfl (zcons rfl (zcons (congrArg (fun z => some (zi z)) (by omega)) rfl)))))) rfl (by first | rw [dsc_st (by omega) (onA_s1 (by omega) (by omega))] | rw [dsc_st (by omega) (onA_s0 (by omega) (by omega))]) (ih_37 (Or.inl (by omega)))
              · have c_41 : ¬ (3 - (i_35 : Int) ≤ 0) := c_41
                refine Zn.seg (pc2 := 150) (ls2 := [some (za (A 0)), some (zi (j : Int)), some (zi w_), some (zi (i_16 : Int)), some (zi (i_30 : Int)), some (zi (3 - (i_35 : Int)))]) (st2 := [za (A 0), zi (3 - (i_35 : Int)), za (A 16)]) [(149, .aload_n 0)] (by decide +kernel) rfl ?_
                refine Zn.get (ix := 61) hD 0 (by decide +kernel) rfl rfl rfl ?_
                refine Zn.seg (pc2 := 157) (ls2 := [some (za (A 0)), some (zi (j : Int)), some (zi w_), some (zi (i_16 : Int)), some (zi (i_30 : Int)), some (zi (3 - (i_35 : Int)))]) (st2 := [zi (3 - (i_35 : Int) - 1), za (A 16), zi (3 - (i_35 : Int)), za (A 16)]) [(153, .iload 5), (155, .iconst 1), (156, .isub)] (by decide +kernel) rfl ?_
                refine Zn.lald hD 16 (2 - i_35) (by decide +kernel) rfl (by omega) (by omega) rfl ?_
                refine Zn.eq (st2 := [zj ((dscF (onA X (P i_16 * (sgT (d + 1) i_16 * dfA X i_16 (d + 1) (d + 1))) i_16 (i_30 + 1)) (cpF (onA X (P i_16 * (sgT (d + 1) i_16 * dfA X i_16 (d + 1) (d + 1))) i_16 i_30) n16 4) i_35) (2 - i_35)), zi (3 - (i_35 : Int)), za (A 16)]) rfl rfl rfl rfl ?_
                refine Zn.topj (y := (onA X (P i_16 * (sgT (d + 1) i_16 * dfA X i_16 (d + 1) (d + 1))) i_16 i_30) (2 - i_35)) (congrArg zJ ((dsc_lo (by omega)).trans (cpF_lt (by omega)))) ?_
                refine Zn.seg (pc2 := 163) (ls2 := [some (za (A 0)), some (zi (j : Int)), some (zi w_), some (zi (i_16 : Int)), some (zi (i_30 : Int)), some (zi (3 - (i_35 : Int)))]) (st2 := [za (A 0), zj ((onA X (P i_16 * (sgT (d + 1) i_16 * dfA X i_16 (d + 1) (d + 1))) i_16 i_30) (2 - i_35)), zi (3 - (i_35 : Int)), za (A 16)]) [(158, .goto 4), (162, .aload_n 0)] (by decide +kernel) rfl ?_
                refine Zn.get (ix := 61) hD 0 (by decide +kernel) rfl rfl rfl ?_
                refine Zn.seg (pc2 := 168) (ls2 := [some (za (A 0)), some (zi (j : Int)), some (zi w_), some (zi (i_16 : Int)), some (zi (i_30 : Int)), some (zi (3 - (i_35 : Int)))]) (st2 := [zi (3 - (i_35 : Int)), za (A 16), zj ((onA X (P i_16 * (sgT (d + 1) i_16 * dfA X i_16 (d + 1) (d + 1))) i_16 i_30) (2 - i_35)), zi (3 - (i_35 : Int)), za (A 16)]) [(166, .iload 5)] (by decide +kernel) rfl ?_
                refine Zn.lald hD 16 (3 - i_35) (by decide +kernel) rfl (by omega) (by omega) rfl ?_
                refine Zn.eq (st2 := [zj ((dscF (onA X (P i_16 * (sgT (d + 1) i_16 * dfA X i_16 (d + 1) (d + 1))) i_16 (i_30 + 1)) (cpF (onA X (P i_16 * (sgT (d + 1) i_16 * dfA X i_16 (d + 1) (d + 1))) i_16 i_30) n16 4) i_35) (3 - i_35)), zj ((onA X (P i_16 * (sgT (d + 1) i_16 * dfA X i_16 (d + 1) (d + 1))) i_16 i_30) (2 - i_35)), zi (3 - (i_35 : Int)), za (A 16)]) rfl rfl rfl rfl ?_
                refine Zn.topj (y := (onA X (P i_16 * (sgT (d + 1) i_16 * dfA X i_16 (d + 1) (d + 1))) i_16 i_30) (3 - i_35)) (congrArg zJ ((dsc_lo (by omega)).trans (cpF_lt (by omega)))) ?_
                refine Zn.seg (pc2 := 170) (ls2 := [some (za (A 0)), some (zi (j : Int)), some (zi w_), some (zi (i_16 : Int)), some (zi (i_30 : Int)), some (zi (3 - (i_35 : Int)))]) (st2 := [za (A 0), zj ((onA X (P i_16 * (sgT (d + 1) i_16 * dfA X i_16 (d + 1) (d + 1))) i_16 i_30) (3 - i_35)), zj ((onA X (P i_16 * (sgT (d + 1) i_16 * dfA X i_16 (d + 1) (d + 1))) i_16 i_30) (2 - i_35)), zi (3 - (i_35 : Int)), za (A 16)]) [(169, .aload_n 0)] (by decide +kernel) rfl ?_
                refine Zn.get (ix := 55) hD 0 (by decide +kernel) rfl rfl rfl ?_
                refine Zn.seg (pc2 := 175) (ls2 := [some (za (A 0)), some (zi (j : Int)), some (zi w_), some (zi (i_16 : Int)), some (zi (i_30 : Int)), some (zi (3 - (i_35 : Int)))]) (st2 := [zi (i_30 : Int), za (A 14), zj ((onA X (P i_16 * (sgT (d + 1) i_16 * dfA X i_16 (d + 1) (d + 1))) i_16 i_30) (3 - i_35)), zj ((onA X (P i_16 * (sgT (d + 1) i_16 * dfA X i_16 (d + 1) (d + 1))) i_16 i_30) (2 - i_35)), zi (3 - (i_35 : Int)), za (A 16)]) [(173, .iload 4)] (by decide +kernel) rfl ?_
                refine Zn.iald hD 14 (i_30) (by decide +kernel) rfl (by omega) (by omega) rfl ?_
                refine Zn.eq (st2 := [zi (X i_30), zj ((onA X (P i_16 * (sgT (d + 1) i_16 * dfA X i_16 (d + 1) (d + 1))) i_16 i_30) (3 - i_35)), zj ((onA X (P i_16 * (sgT (d + 1) i_16 * dfA X i_16 (d + 1) (d + 1))) i_16 i_30) (2 - i_35)), zi (3 - (i_35 : Int)), za (A 16)]) rfl rfl rfl rfl ?_
                refine Zn.i2l (by decide +kernel) ⟨by omega, by omega⟩ ?_
                refine Zn.seg (pc2 := 179) (ls2 := [some (za (A 0)), some (zi (j : Int)), some (zi w_), some (zi (i_16 : Int)), some (zi (i_30 : Int)), some (zi (3 - (i_35 : Int)))]) (st2 := [zj ((onA X (P i_16 * (sgT (d + 1) i_16 * dfA X i_16 (d + 1) (d + 1))) i_16 i_30) (2 - i_35) - (((onA X (P i_16 * (sgT (d + 1) i_16 * dfA X i_16 (d + 1) (d + 1))) i_16 i_30) (3 - i_35)) * (X i_30))), zi (3 - (i_35 : Int)), za (A 16)]) [(177, .lmul), (178, .lsub)] (by decide +kernel) rfl ?_
                refine Zn.last hD 16 (3 - i_35) (by decide +kernel) rfl (by omega) (by omega) rfl ?_
                refine Zn.eq (h2 := zov (LM A (va_up (va_up (va_up (va_up (va_up (va_up (va_up (va_up m 19 c1) 20 c2) 21 c3) 24 c) 25 ((d : Int) + 1)) 28 q1) 29 q2) 30 q3) (va_up (va_up (va_up (va_up (va_up (va_up (va_up r 11 x1) 12 x2) 13 x3) 14 X) 15 P) 16 (va_up (dscF (onA X (P i_16 * (sgT (d + 1) i_16 * dfA X i_16 (d + 1) (d + 1))) i_16 (i_30 + 1)) (cpF (onA X (P i_16 * (sgT (d + 1) i_16 * dfA X i_16 (d + 1) (d + 1))) i_16 i_30) n16 4) i_35) (3 - i_35) ((onA X (P i_16 * (sgT (d + 1) i_16 * dfA X i_16 (d + 1) (d + 1))) i_16 i_30) (2 - i_35) - (((onA X (P i_16 * (sgT (d + 1) i_16 * dfA X i_16 (d + 1) (d + 1))) i_16 i_30) (3 - i_35)) * (X i_30))))) 17 (cpF (alA X P (d + 1) i_16) (r 17) 4))) h) rfl rfl rfl (rfl) ?_
                have hD : zND (LM A (va_up (va_up (va_up (va_up (va_up (va_up (va_up (va_up m 19 c1) 20 c2) 21 c3) 24 c) 25 ((d : Int) + 1)) 28 q1) 29 q2) 30 q3) (va_up (va_up (va_up (va_up (va_up (va_up (va_up r 11 x1) 12 x2) 13 x3) 14 X) 15 P) 16 (va_up (dscF (onA X (P i_16 * (sgT (d + 1) i_16 * dfA X i_16 (d + 1) (d + 1))) i_16 (i_30 + 1)) (cpF (onA X (P i_16 * (sgT (d + 1) i_16 * dfA X i_16 (d + 1) (d + 1))) i_16 i_30) n16 4) i_35) (3 - i_35) ((onA X (P i_16 * (sgT (d + 1) i_16 * dfA X i_16 (d + 1) (d + 1))) i_16 i_30) (2 - i_35) - (((onA X (P i_16 * (sgT (d + 1) i_16 * dfA X i_16 (d + 1) (d + 1))) i_16 i_30) (3 - i_35)) * (X i_30))))) 17 (cpF (alA X P (d + 1) i_16) (r 17) 4))) := hD
                refine Zn.seg (pc2 := 127) (ls2 := [some (za (A 0)), some (zi (j : Int)), some (zi w_), some (zi (i_16 : Int)), some (zi (i_30 : Int)), some (zi (3 - (i_35 : Int) + (-1)))]) (st2 := []) [(180, .iinc 5 (-1)), (183, .goto (-56))] (by decide +kernel) rfl ?_
                exact Zn.eq rfl (zcons rfl (zcons rfl (zcons rfl (zcons rfl (zcons rfl (zcons (congrArg (fun z => some (zi z)) (by omega)) rfl)))))) rfl (by first | rw [dsc_st (by omega) (onA_s1 (by omega) (by omega))] | rw [dsc_st (by omega) (onA_s0 (by omega) (by omega))]) (ih_37 (Or.inl (by omega)))
          · skip
            refine Zn.seg (pc2 := 129) (ls2 := [some (za (A 0)), some (zi (j : Int)), some (zi w_), some (zi (i_16 : Int)), some (zi (i_30 : Int)), some (zi (3 - (4 : Int)))]) (st2 := [zi (3 - (4 : Int))]) [(127, .iload 5)] (by decide +kernel) rfl ?_
            refine Zn.ifc (c := .lt) (off := 57) 186 (by decide +kernel) rfl ⟨by omega, by omega⟩ (fun c_42 => ?_) (fun c_42 => absurd (show 3 - (4 : Int) < 0 from by decide) c_42)
            have c_42 : 3 - (4 : Int) < 0 := c_42
            refine Zn.seg (pc2 := 115) (ls2 := [some (za (A 0)), some (zi (j : Int)), some (zi w_), some (zi (i_16 : Int)), some (zi ((i_30 : Int) + 1)), some (zi (3 - (4 : Int)))]) (st2 := []) [(186, .iinc 4 1), (189, .goto (-74))] (by decide +kernel) rfl ?_
            exact Zn.eq rfl (zcons rfl (zcons rfl (zcons rfl (zcons rfl (zcons (congrArg (fun z => some (zi z)) (by omega)) rfl))))) rfl (by first | rw [dsc_4] | rw [dsc_e (by omega) (by omega)]) (ih_33 (some (zi (3 - (4 : Int)))))
        · skip
          refine Zn.seg (pc2 := 118) (ls2 := [some (za (A 0)), some (zi (j : Int)), some (zi w_), some (zi (i_16 : Int)), some (zi ((d + 1) : Int)), j_31]) (st2 := [za (A 0), zi ((d + 1) : Int)]) [(115, .iload 4), (117, .aload_n 0)] (by decide +kernel) rfl ?_
          refine Zn.get (ix := 217) hD 0 (by decide +kernel) rfl rfl rfl ?_
          refine Zn.eq (st2 := [zi ((d : Int) + 1), zi ((d + 1) : Int)]) rfl rfl rfl rfl ?_
          refine Zn.icmp (c := .ge) (off := 71) 192 (by decide +kernel) rfl ⟨by omega, by omega⟩ ⟨by omega, by omega⟩ (fun c_43 => ?_) (fun c_43 => absurd (show (d : Int) + 1 ≤ ((d + 1) : Int) from by omega) c_43)
          have c_43 : (d : Int) + 1 ≤ ((d + 1) : Int) := c_43
          refine Zn.seg (pc2 := 195) (ls2 := [some (za (A 0)), some (zi (j : Int)), some (zi w_), some (zi (i_16 : Int)), some (zi 0), j_31]) (st2 := []) [(192, .iconst 0), (193, .istore 4)] (by decide +kernel) rfl ?_
          refine Zn.eq (pc2 := 195) (ls2 := [some (za (A 0)), some (zi (j : Int)), some (zi w_), some (zi (i_16 : Int)), some (zi (0 : Int)), j_31]) (st2 := []) (h2 := zov (LM A (va_up (va_up (va_up (va_up (va_up (va_up (va_up (va_up m 19 c1) 20 c2) 21 c3) 24 c) 25 ((d : Int) + 1)) 28 q1) 29 q2) 30 q3) (va_up (va_up (va_up (va_up (va_up (va_up (va_up r 11 x1) 12 x2) 13 x3) 14 X) 15 P) 16 (cpF (onA X (P i_16 * (sgT (d + 1) i_16 * dfA X i_16 (d + 1) (d + 1))) i_16 (d + 1)) n16 4)) 17 (cpF (alA X P (d + 1) (i_16 + 1)) (cpF (alA X P (d + 1) i_16) (r 17) 4) 0))) h) rfl rfl rfl (by rw [cpF_zero]) ?_
          have hD : zND (LM A (va_up (va_up (va_up (va_up (va_up (va_up (va_up (va_up m 19 c1) 20 c2) 21 c3) 24 c) 25 ((d : Int) + 1)) 28 q1) 29 q2) 30 q3) (va_up (va_up (va_up (va_up (va_up (va_up (va_up r 11 x1) 12 x2) 13 x3) 14 X) 15 P) 16 (cpF (onA X (P i_16 * (sgT (d + 1) i_16 * dfA X i_16 (d + 1) (d + 1))) i_16 (d + 1)) n16 4)) 17 (cpF (alA X P (d + 1) (i_16 + 1)) (cpF (alA X P (d + 1) i_16) (r 17) 4) 0))) := hD
          refine xloop (P := fun i_44 => ∀ j_45 : Option zV, Zn (8, xI_X8_part, 6, 6, 145, 0, 0, false) (some .long) 195 [some (za (A 0)), some (zi (j : Int)), some (zi w_), some (zi (i_16 : Int)), some (zi (i_44 : Int)), j_45] [] (zov (LM A (va_up (va_up (va_up (va_up (va_up (va_up (va_up (va_up m 19 c1) 20 c2) 21 c3) 24 c) 25 ((d : Int) + 1)) 28 q1) 29 q2) 30 q3) (va_up (va_up (va_up (va_up (va_up (va_up (va_up r 11 x1) 12 x2) 13 x3) 14 X) 15 P) 16 (cpF (onA X (P i_16 * (sgT (d + 1) i_16 * dfA X i_16 (d + 1) (d + 1))) i_16 (d + 1)) n16 4)) 17 (cpF (alA X P (d + 1) (i_16 + 1)) (cpF (alA X P (d + 1) i_16) (r 17) 4) i_44))) h) _) (4) (fun i_44 hi_46 ih_47 j_45 => ?_) (fun j_45 => ?_) j_31
          · have hi_ : i_44 < 4 := hi_46
            refine Zn.seg (pc2 := 198) (ls2 := [some (za (A 0)), some (zi (j : Int)), some (zi w_), some (zi (i_16 : Int)), some (zi (i_44 : Int)), j_45]) (st2 := [zi 4, zi (i_44 : Int)]) [(195, .iload 4), (197, .iconst 4)] (by decide +kernel) rfl ?_
            refine Zn.icmp (c := .ge) (off := 26) 224 (by decide +kernel) rfl ⟨by omega, by omega⟩ ⟨by decide, by decide⟩ (fun c_48 => absurd (show 4 ≤ (i_44 : Int) from c_48) (by omega)) (fun c_48 => ?_)
            have c_48 : ¬ (4 ≤ (i_44 : Int)) := c_48
            refine Zn.seg (pc2 := 202) (ls2 := [some (za (A 0)), some (zi (j : Int)), some (zi w_), some (zi (i_16 : Int)), some (zi (i_44 : Int)), j_45]) (st2 := [za (A 0)]) [(201, .aload_n 0)] (by decide +kernel) rfl ?_
            refine Zn.get (ix := 64) hD 0 (by decide +kernel) rfl rfl rfl ?_
            refine Zn.seg (pc2 := 208) (ls2 := [some (za (A 0)), some (zi (j : Int)), some (zi w_), some (zi (i_16 : Int)), some (zi (i_44 : Int)), j_45]) (st2 := [zi (i_44 : Int), za (A 17), zi (i_44 : Int), za (A 17)]) [(205, .iload 4), (207, .dup2)] (by decide +kernel) rfl ?_
            refine Zn.lald hD 17 (i_44) (by decide +kernel) rfl (by omega) (by omega) rfl ?_
            refine Zn.eq (st2 := [zj ((cpF (alA X P (d + 1) (i_16 + 1)) (cpF (alA X P (d + 1) i_16) (r 17) 4) i_44) i_44), zi (i_44 : Int), za (A 17)]) rfl rfl rfl rfl ?_
            refine Zn.topj (y := (alA X P (d + 1) i_16) i_44) (congrArg zJ ((cpF_ge (Nat.lt_irrefl _)).trans (cpF_lt (by omega)))) ?_
            refine Zn.seg (pc2 := 210) (ls2 := [some (za (A 0)), some (zi (j : Int)), some (zi w_), some (zi (i_16 : Int)), some (zi (i_44 : Int)), j_45]) (st2 := [za (A 0), zj ((alA X P (d + 1) i_16) i_44), zi (i_44 : Int), za (A 17)]) [(209, .aload_n 0)] (by decide +kernel) rfl ?_
            refine Zn.get (ix := 61) hD 0 (by decide +kernel) rfl rfl rfl ?_
            refine Zn.seg (pc2 := 215) (ls2 := [some (za (A 0)), some (zi (j : Int)), some (zi w_), some (zi (i_16 : Int)), some (zi (i_44 : Int)), j_45]) (st2 := [zi (i_44 : Int), za (A 16), zj ((alA X P (d + 1) i_16) i_44), zi (i_44 : Int), za (A 17)]) [(213, .iload 4)] (by decide +kernel) rfl ?_
            refine Zn.lald hD 16 (i_44) (by decide +kernel) rfl (by omega) (by omega) rfl ?_
            refine Zn.eq (st2 := [zj ((cpF (onA X (P i_16 * (sgT (d + 1) i_16 * dfA X i_16 (d + 1) (d + 1))) i_16 (d + 1)) n16 4) i_44), zj ((alA X P (d + 1) i_16) i_44), zi (i_44 : Int), za (A 17)]) rfl rfl rfl rfl ?_
            refine Zn.topj (y := (onA X (P i_16 * (sgT (d + 1) i_16 * dfA X i_16 (d + 1) (d + 1))) i_16 (d + 1)) i_44) (congrArg zJ (cpF_lt (by omega))) ?_
            refine Zn.seg (pc2 := 217) (ls2 := [some (za (A 0)), some (zi (j : Int)), some (zi w_), some (zi (i_16 : Int)), some (zi (i_44 : Int)), j_45]) (st2 := [zj ((alA X P (d + 1) i_16) i_44 + ((onA X (P i_16 * (sgT (d + 1) i_16 * dfA X i_16 (d + 1) (d + 1))) i_16 (d + 1)) i_44)), zi (i_44 : Int), za (A 17)]) [(216, .ladd)] (by decide +kernel) rfl ?_
            refine Zn.last hD 17 (i_44) (by decide +kernel) rfl (by omega) (by omega) rfl ?_
            refine Zn.eq (h2 := zov (LM A (va_up (va_up (va_up (va_up (va_up (va_up (va_up (va_up m 19 c1) 20 c2) 21 c3) 24 c) 25 ((d : Int) + 1)) 28 q1) 29 q2) 30 q3) (va_up (va_up (va_up (va_up (va_up (va_up (va_up r 11 x1) 12 x2) 13 x3) 14 X) 15 P) 16 (cpF (onA X (P i_16 * (sgT (d + 1) i_16 * dfA X i_16 (d + 1) (d + 1))) i_16 (d + 1)) n16 4)) 17 (va_up (cpF (alA X P (d + 1) (i_16 + 1)) (cpF (alA X P (d + 1) i_16) (r 17) 4) i_44) i_44 ((alA X P (d + 1) i_16) i_44 + ((onA X (P i_16 * (sgT (d + 1) i_16 * dfA X i_16 (d + 1) (d + 1))) i_16 (d + 1)) i_44))))) h) rfl rfl rfl (rfl) ?_
            have hD : zND (LM A (va_up (va_up (va_up (va_up (va_up (va_up (va_up (va_up m 19 c1) 20 c2) 21 c3) 24 c) 25 ((d : Int) + 1)) 28 q1) 29 q2) 30 q3) (va_up (va_up (va_up (va_up (va_up (va_up (va_up r 11 x1) 12 x2) 13 x3) 14 X) 15 P) 16 (cpF (onA X (P i_16 * (sgT (d + 1) i_16 * dfA X i_16 (d + 1) (d + 1))) i_16 (d + 1)) n16 4)) 17 (va_up (cpF (alA X P (d + 1) (i_16 + 1)) (cpF (alA X P (d + 1) i_16) (r 17) 4) i_44) i_44 ((alA X P (d + 1) i_16) i_44 + ((onA X (P i_16 * (sgT (d + 1) i_16 * dfA X i_16 (d + 1) (d + 1))) i_16 (d + 1)) i_44))))) := hD
            refine Zn.seg (pc2 := 195) (ls2 := [some (za (A 0)), some (zi (j : Int)), some (zi w_), some (zi (i_16 : Int)), some (zi ((i_44 : Int) + 1)), j_45]) (st2 := []) [(218, .iinc 4 1), (221, .goto (-26))] (by decide +kernel) rfl ?_
            exact Zn.eq rfl (zcons rfl (zcons rfl (zcons rfl (zcons rfl (zcons (congrArg (fun z => some (zi z)) (by omega)) rfl))))) rfl (by rw [cpF_st (f := (alA X P (d + 1) (i_16 + 1))) (by rfl)]) (ih_47 j_45)
          · skip
            refine Zn.seg (pc2 := 198) (ls2 := [some (za (A 0)), some (zi (j : Int)), some (zi w_), some (zi (i_16 : Int)), some (zi (4 : Int)), j_45]) (st2 := [zi 4, zi (4 : Int)]) [(195, .iload 4), (197, .iconst 4)] (by decide +kernel) rfl ?_
            refine Zn.icmp (c := .ge) (off := 26) 224 (by decide +kernel) rfl ⟨by omega, by omega⟩ ⟨by decide, by decide⟩ (fun c_49 => ?_) (fun c_49 => absurd (show 4 ≤ (4 : Int) from by decide) c_49)
            have c_49 : 4 ≤ (4 : Int) := c_49
            refine Zn.seg (pc2 := 61) (ls2 := [some (za (A 0)), some (zi (j : Int)), some (zi w_), some (zi ((i_16 : Int) + 1)), some (zi (4 : Int)), j_45]) (st2 := []) [(224, .iinc 3 1), (227, .goto (-166))] (by decide +kernel) rfl ?_
            exact Zn.eq rfl (zcons rfl (zcons rfl (zcons rfl (zcons (congrArg (fun z => some (zi z)) (by omega)) rfl)))) rfl (by rw [cpF_cc]) (ih_20 (cpF (onA X (P i_16 * (sgT (d + 1) i_16 * dfA X i_16 (d + 1) (d + 1))) i_16 (d + 1)) n16 4) (some (zi (4 : Int))) j_45)
    · skip
      refine Zn.seg (pc2 := 63) (ls2 := [some (za (A 0)), some (zi (j : Int)), some (zi w_), some (zi ((d + 1) : Int)), j_17, j_18]) (st2 := [za (A 0), zi ((d + 1) : Int)]) [(61, .iload_n 3), (62, .aload_n 0)] (by decide +kernel) rfl ?_
      refine Zn.get (ix := 217) hD 0 (by decide +kernel) rfl rfl rfl ?_
      refine Zn.eq (st2 := [zi ((d : Int) + 1), zi ((d + 1) : Int)]) rfl rfl rfl rfl ?_
      refine Zn.icmp (c := .ge) (off := 164) 230 (by decide +kernel) rfl ⟨by omega, by omega⟩ ⟨by omega, by omega⟩ (fun c_50 => ?_) (fun c_50 => absurd (show (d : Int) + 1 ≤ ((d + 1) : Int) from by omega) c_50)
      have c_50 : (d : Int) + 1 ≤ ((d + 1) : Int) := c_50
      refine Zn.seg (pc2 := 232) (ls2 := [some (za (A 0)), some (zi (j : Int)), some (zi w_), some (zi ((d + 1) : Int)), j_17, j_18]) (st2 := [za (A 0), za (A 0)]) [(230, .aload_n 0), (231, .aload_n 0)] (by decide +kernel) rfl ?_
      refine Zn.get (ix := 64) hD 0 (by decide +kernel) rfl rfl rfl ?_
      refine Zn.seg (pc2 := 236) (ls2 := [some (za (A 0)), some (zi (j : Int)), some (zi w_), some (zi ((d + 1) : Int)), j_17, j_18]) (st2 := [zi (j : Int), za (A 17), za (A 0)]) [(235, .iload_n 1)] (by decide +kernel) rfl ?_
      refine Zn.lald hD 17 (j) (by decide +kernel) rfl (by omega) (by omega) rfl ?_
      refine Zn.eq (st2 := [zj ((cpF (alA X P (d + 1) (d + 1)) (r 17) 4) j), za (A 0)]) rfl rfl rfl rfl ?_
      refine Zn.topj (y := (alA X P (d + 1) (d + 1) j)) (congrArg zJ (cpF_lt hj)) ?_
      refine Zn.seg (pc2 := 238) (ls2 := [some (za (A 0)), some (zi (j : Int)), some (zi w_), some (zi ((d + 1) : Int)), j_17, j_18]) (st2 := [za (A 0), zj (alA X P (d + 1) (d + 1) j), za (A 0)]) [(237, .aload_n 0)] (by decide +kernel) rfl ?_
      refine Zn.call (ins := .invokevirtual 235) [za (A 0)] [zj (alA X P (d + 1) (d + 1) j), za (A 0)] (by decide +kernel) rfl rfl rfl ⟨rfl, rfl⟩ ⟨rfl, rfl, rfl⟩ rfl (zrecvV hD (p := 0) rfl rfl rfl) (sp_X8_lower (A := A) (m := va_up (va_up (va_up (va_up (va_up (va_up (va_up (va_up m 19 c1) 20 c2) 21 c3) 24 c) 25 ((d : Int) + 1)) 28 q1) 29 q2) 30 q3) (r := va_up (va_up (va_up (va_up (va_up (va_up (va_up r 11 x1) 12 x2) 13 x3) 14 X) 15 P) 16 n16) 17 (cpF (alA X P (d + 1) (d + 1)) (r 17) 4)) (k := (d + 1)) (zov_all hD) hD (by rfl) (hgk.1) (hgk.2.1)) (fun v h2 hp => ?_)
      obtain ⟨rfl, hq_51⟩ := hp
      refine Zn.eq (pc2 := 241) (ls2 := [some (za (A 0)), some (zi (j : Int)), some (zi w_), some (zi ((d + 1) : Int)), j_17, j_18]) (st2 := [zj (c * vdA (X) (d + 1) (d + 1)), zj (alA X P (d + 1) (d + 1) j), za (A 0)]) (h2 := zov (LM A (va_up (va_up (va_up (va_up (va_up (va_up (va_up (va_up m 19 c1) 20 c2) 21 c3) 24 c) 25 ((d : Int) + 1)) 28 q1) 29 q2) 30 q3) (va_up (va_up (va_up (va_up (va_up (va_up (va_up r 11 x1) 12 x2) 13 x3) 14 X) 15 P) 16 n16) 17 (cpF (alA X P (d + 1) (d + 1)) (r 17) 4))) h) rfl rfl rfl hq_51 ?_
      have hD : zND (LM A (va_up (va_up (va_up (va_up (va_up (va_up (va_up (va_up m 19 c1) 20 c2) 21 c3) 24 c) 25 ((d : Int) + 1)) 28 q1) 29 q2) 30 q3) (va_up (va_up (va_up (va_up (va_up (va_up (va_up r 11 x1) 12 x2) 13 x3) 14 X) 15 P) 16 n16) 17 (cpF (alA X P (d + 1) (d + 1)) (r 17) 4))) := hD
      have hub := al_bd hgk hgk.1 j hj
      have hwb := hgk.2.2.1
      have hwn := (show c * vdA X (d + 1) (d + 1) ≠ 0 by have := hgk.2.2.1; omega)
      have hub2 := fdU_b hub hwn
      refine Zn.call (ins := .invokevirtual 241) [za (A 0), zj (alA X P (d + 1) (d + 1) j), zj (c * vdA (X) (d + 1) (d + 1))] [] (by decide +kernel) rfl rfl rfl ⟨rfl, rfl⟩ ⟨rfl, rfl, rfl⟩ rfl (zrecvV hD (p := 0) rfl rfl rfl) (sp_X8_finds (A := A) (m := va_up (va_up (va_up (va_up (va_up (va_up (va_up (va_up m 19 c1) 20 c2) 21 c3) 24 c) 25 ((d : Int) + 1)) 28 q1) 29 q2) 30 q3) (r := va_up (va_up (va_up (va_up (va_up (va_up (va_up r 11 x1) 12 x2) 13 x3) 14 X) 15 P) 16 n16) 17 (cpF (alA X P (d + 1) (d + 1)) (r 17) 4)) (u := (alA X P (d + 1) (d + 1) j)) (w := c * vdA (X) (d + 1) (d + 1)) (zov_all hD) hD (by omega) (by omega) (hwn)) (fun v h2 hp => ?_)
      obtain ⟨rfl, hq_52⟩ := hp
      refine Zn.eq (pc2 := 244) (ls2 := [some (za (A 0)), some (zi (j : Int)), some (zi w_), some (zi ((d + 1) : Int)), j_17, j_18]) (st2 := []) (h2 := zov (LM A (va_up (va_up (va_up (va_up (va_up (va_up (va_up (va_up (va_up (va_up m 19 c1) 20 c2) 21 c3) 24 c) 25 ((d : Int) + 1)) 26 (fdU (alA X P (d + 1) (d + 1) j) (c * vdA (X) (d + 1) (d + 1)))) 27 (((c * vdA (X) (d + 1) (d + 1)).natAbs : Int).tdiv (Int.gcd (alA X P (d + 1) (d + 1) j) (c * vdA (X) (d + 1) (d + 1)) : Int))) 28 q1) 29 q2) 30 q3) (va_up (va_up (va_up (va_up (va_up (va_up (va_up r 11 x1) 12 x2) 13 x3) 14 X) 15 P) 16 n16) 17 (cpF (alA X P (d + 1) (d + 1)) (r 17) 4))) h) rfl rfl rfl (hq_52.trans ((LM_over _ _ _ _ _ _).trans rfl)) ?_
      have hD : zND (LM A (va_up (va_up (va_up (va_up (va_up (va_up (va_up (va_up (va_up (va_up m 19 c1) 20 c2) 21 c3) 24 c) 25 ((d : Int) + 1)) 26 (fdU (alA X P (d + 1) (d + 1) j) (c * vdA (X) (d + 1) (d + 1)))) 27 (((c * vdA (X) (d + 1) (d + 1)).natAbs : Int).tdiv (Int.gcd (alA X P (d + 1) (d + 1) j) (c * vdA (X) (d + 1) (d + 1)) : Int))) 28 q1) 29 q2) 30 q3) (va_up (va_up (va_up (va_up (va_up (va_up (va_up r 11 x1) 12 x2) 13 x3) 14 X) 15 P) 16 n16) 17 (cpF (alA X P (d + 1) (d + 1)) (r 17) 4))) := hD
      refine Zn.seg (pc2 := 246) (ls2 := [some (za (A 0)), some (zi (j : Int)), some (zi w_), some (zi ((d + 1) : Int)), j_17, j_18]) (st2 := [zi w_, za (A 0)]) [(244, .aload_n 0), (245, .iload_n 2)] (by decide +kernel) rfl ?_
      refine Zn.call (ins := .invokevirtual 321) [za (A 0), zi w_] [] (by decide +kernel) rfl rfl rfl ⟨rfl, rfl⟩ ⟨rfl, rfl, rfl⟩ rfl (zrecvV hD (p := 0) rfl rfl rfl) (sp_X8_tells (A := A) (m := va_up (va_up (va_up (va_up (va_up (va_up (va_up (va_up (va_up (va_up m 19 c1) 20 c2) 21 c3) 24 c) 25 ((d : Int) + 1)) 26 (fdU (alA X P (d + 1) (d + 1) j) (c * vdA (X) (d + 1) (d + 1)))) 27 (((c * vdA (X) (d + 1) (d + 1)).natAbs : Int).tdiv (Int.gcd (alA X P (d + 1) (d + 1) j) (c * vdA (X) (d + 1) (d + 1)) : Int))) 28 q1) 29 q2) 30 q3) (r := va_up (va_up (va_up (va_up (va_up (va_up (va_up r 11 x1) 12 x2) 13 x3) 14 X) 15 P) 16 n16) 17 (cpF (alA X P (d + 1) (d + 1)) (r 17) 4)) (w_ := w_) (zov_all hD) hD (hw) (hub2)) (fun v h2 hp => ?_)
      obtain ⟨rfl, hq_53⟩ := hp
      refine Zn.eq (pc2 := 249) (ls2 := [some (za (A 0)), some (zi (j : Int)), some (zi w_), some (zi ((d + 1) : Int)), j_17, j_18]) (st2 := [zj (tlV w_ ((fdU (alA X P (d + 1) (d + 1) j) (c * vdA (X) (d + 1) (d + 1)))) ((((c * vdA (X) (d + 1) (d + 1)).natAbs : Int).tdiv (Int.gcd (alA X P (d + 1) (d + 1) j) (c * vdA (X) (d + 1) (d + 1)) : Int))))]) (h2 := zov (LM A (va_up (va_up (va_up (va_up (va_up (va_up (va_up (va_up (va_up (va_up m 19 c1) 20 c2) 21 c3) 24 c) 25 ((d : Int) + 1)) 26 (fdU (alA X P (d + 1) (d + 1) j) (c * vdA (X) (d + 1) (d + 1)))) 27 (((c * vdA (X) (d + 1) (d + 1)).natAbs : Int).tdiv (Int.gcd (alA X P (d + 1) (d + 1) j) (c * vdA (X) (d + 1) (d + 1)) : Int))) 28 q1) 29 q2) 30 q3) (va_up (va_up (va_up (va_up (va_up (va_up (va_up r 11 x1) 12 x2) 13 x3) 14 X) 15 P) 16 n16) 17 (cpF (alA X P (d + 1) (d + 1)) (r 17) 4))) h) rfl rfl rfl hq_53 ?_
      have hD : zND (LM A (va_up (va_up (va_up (va_up (va_up (va_up (va_up (va_up (va_up (va_up m 19 c1) 20 c2) 21 c3) 24 c) 25 ((d : Int) + 1)) 26 (fdU (alA X P (d + 1) (d + 1) j) (c * vdA (X) (d + 1) (d + 1)))) 27 (((c * vdA (X) (d + 1) (d + 1)).natAbs : Int).tdiv (Int.gcd (alA X P (d + 1) (d + 1) j) (c * vdA (X) (d + 1) (d + 1)) : Int))) 28 q1) 29 q2) 30 q3) (va_up (va_up (va_up (va_up (va_up (va_up (va_up r 11 x1) 12 x2) 13 x3) 14 X) 15 P) 16 n16) 17 (cpF (alA X P (d + 1) (d + 1)) (r 17) 4))) := hD
      exact Zn.lret (by decide +kernel) rfl (⟨c1, c2, c3, c, q1, q2, q3, x1, x2, x3, X, P, _, _, _, _, rfl, rfl, hry⟩)
