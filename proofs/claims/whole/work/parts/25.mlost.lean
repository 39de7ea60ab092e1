/-! the reference's best, step, lost -/
def tnV (R X P : Nat → Int) (k : Nat) (c bu bd : Int) : Int := if bu = 0 then 0 else ((trN R X P k c (mk (rchB R X P k c bu bd 0)) 13).1 : Int)
theorem tnV_b (R X P : Nat → Int) (k : Nat) (c bu bd : Int) : 0 ≤ tnV R X P k c bu bd ∧ tnV R X P k c bu bd ≤ 13 := by
  have := (trN_l R X P k c (mk (rchB R X P k c bu bd 0)) 13).1
  unfold tnV
  split <;> omega
def fewV (x : Int) (n d : Nat) : Int := if x = 1 ∨ (x = 5 ∧ n = d + 1) then 1 else 0
theorem stI_b (R : Nat → Int) (d z N : Nat) : -4 ≤ stI R d z N ∧ stI R d z N ≤ 13 := by
  have := wrN_r (R := R) (d := d) (s := sq R d z) 13 (Nat.le_refl 13)
  unfold stI
  split <;> omega
theorem goV_b (s p : Nat) {f g : Int} (hg : -1 ≤ g ∧ g ≤ 1) : -4 ≤ goV s p f g ∧ goV s p f g ≤ 26 := by
  have := goS_r (s := s) (p := p) (f := f) hg 13
  unfold goV
  split
  · omega
  · split
    · omega
    · split <;> omega
theorem stO_b (R : Nat → Int) (d z N : Nat) : -4 ≤ stO R d z N ∧ stO R d z N ≤ 26 := by
  have h1 : -1 ≤ frS R (sq R d z) ∧ frS R (sq R d z) ≤ 1 := by
    unfold frS
    split <;> omega
  have h2 := goV_b (sq R d z) (wrN R d (sq R d z) 13) (f := wL R d (sq R d z) (wrN R d (sq R d z) 13)) h1
  unfold stO goO
  split <;> omega
abbrev zN (t : Nat) : Int := (t : Int)
/-- a reference that is as great as the best -/
noncomputable def tpB (R : Nat → Int) (b : Nat) : Nat → Bool := fun t => @decide (refP R t ∧ cmpV ((aOf R t).natAbs : Int) (bOf R t) ((aOf R b).natAbs : Int) (bOf R b) = 0) (Classical.propDecidable _)
theorem tpB_t {R : Nat → Int} {b t : Nat} (h1 : refP R t) (h2 : cmpV ((aOf R t).natAbs : Int) (bOf R t) ((aOf R b).natAbs : Int) (bOf R b) = 0) : tpB R b t = true := @decide_eq_true _ (Classical.propDecidable _) ⟨h1, h2⟩
theorem tpB_f {R : Nat → Int} {b t : Nat} (h : ¬ (refP R t ∧ cmpV ((aOf R t).natAbs : Int) (bOf R t) ((aOf R b).natAbs : Int) (bOf R b) = 0)) : tpB R b t = false := @decide_eq_false _ (Classical.propDecidable _) h
theorem tpB_i {R : Nat → Int} {b t : Nat} (h : tpB R b t = true) : refP R t ∧ cmpV ((aOf R t).natAbs : Int) (bOf R t) ((aOf R b).natAbs : Int) (bOf R b) = 0 := @of_decide_eq_true _ (Classical.propDecidable _) h
theorem pln_ltK {b : Nat → Bool} {k K : Nat} (h : k < K) (hb : b k = true) : (plB b k).length < (plB b K).length := by
  have h1 := pln_t hb
  have h2 := pln_mono b (show k + 1 ≤ K by omega)
  omega
theorem tpl_lt {R : Nat → Int} {b j : Nat} (h : j < (plB (tpB R b) 8192).length) : nfP (plB (tpB R b) 8192) j < 8192 := (plB_mem.mp (nfP_in h)).1
def anV (l : List Nat) (t : Nat) : Nat → Int
  | 0 => 0
  | j + 1 => if anV l t j ≠ 0 ∨ t &&& nfP l j = nfP l j then 1 else 0
theorem anV_b (l : List Nat) (t : Nat) : ∀ j, 0 ≤ anV l t j ∧ anV l t j ≤ 1
  | 0 => ⟨Int.le_refl 0, show (0 : Int) ≤ 1 by decide⟩
  | j + 1 => by
    rw [anV]
    split <;> omega
def prN (c : Int) (f t : Nat) : Nat → Int
  | 0 => 1
  | k + 1 => prN c f t k * (if bt f k = 0 then 1 else if bt t k = 1 then 10 - c else c)
noncomputable def loU (R : Nat → Int) (b : Nat) (c : Int) : Nat → Int
  | 0 => 0
  | t + 1 => loU R b c t + (if anV (plB (tpB R b) 8192) t (plB (tpB R b) 8192).length ≠ 0 ∧ bdiff t (mk (kindB R 1)) = 0 then prN c (mk (kindB R 1)) t 13 else 0)
def pw10 : Nat → Int
  | 0 => 1
  | n + 1 => pw10 n * 10
noncomputable def lsV (R : Nat → Int) (b : Nat) (c w : Int) : Int := if aOf R b = 0 then 1 else if w = 0 then fdU (loU R b c 8192) (pw10 (manyN R 1 13)) else ((pw10 (manyN R 1 13)).natAbs : Int).tdiv (Int.gcd (loU R b c 8192) (pw10 (manyN R 1 13)) : Int)
theorem prN_b {c : Int} (hc : 0 ≤ c ∧ c ≤ 10) (f t : Nat) : ∀ k, 0 ≤ prN c f t k ∧ prN c f t k ≤ pw10 k
  | 0 => ⟨show (0 : Int) ≤ 1 by decide, Int.le_refl 1⟩
  | k + 1 => by
    have ⟨h1, h2⟩ := prN_b hc f t k
    have key : ∀ z : Int, 0 ≤ z → z ≤ 10 → 0 ≤ prN c f t k * z ∧ prN c f t k * z ≤ pw10 k * 10 := fun z z1 z2 =>
      ⟨Int.mul_nonneg h1 z1, Int.le_trans (Int.mul_le_mul_of_nonneg_left z2 h1) (Int.mul_le_mul_of_nonneg_right h2 (by decide))⟩
    rw [prN, pw10]
    split
    · exact key 1 (by decide) (by decide)
    · split
      · exact key _ (by omega) (by omega)
      · exact key _ hc.1 hc.2
theorem loU_c {R : Nat → Int} {b : Nat} {c : Int} (hc : 0 ≤ c ∧ c ≤ 10) : ∀ t, 0 ≤ loU R b c t ∧ loU R b c t ≤ (t : Int) * 10000000000000
  | 0 => ⟨Int.le_refl 0, show (0 : Int) ≤ ((0 : Nat) : Int) * 10000000000000 by decide⟩
  | t + 1 => by
    have ⟨h1, h2⟩ := loU_c (R := R) (b := b) hc t
    have ⟨h3, h4⟩ := prN_b hc (mk (kindB R 1)) t 13
    have h5 : pw10 13 = 10000000000000 := by decide
    rw [loU]
    have h6 : ((t + 1 : Nat) : Int) * 10000000000000 = (t : Int) * 10000000000000 + 10000000000000 := by omega
    split <;> omega
theorem loU_b {R : Nat → Int} {b : Nat} {c : Int} (hc : 0 ≤ c ∧ c ≤ 10) (t : Nat) (ht : t ≤ 8192) : -9223372036854775807 ≤ loU R b c t ∧ loU R b c t ≤ 9223372036854775807 := by
  have ⟨h1, h2⟩ := loU_c (R := R) (b := b) hc t
  omega
theorem pw10_b {n : Nat} (h : n ≤ 13) : pw10 n ≠ 0 ∧ -9223372036854775807 ≤ pw10 n ∧ pw10 n ≤ 9223372036854775807 := by
  rcases (show n = 0 ∨ n = 1 ∨ n = 2 ∨ n = 3 ∨ n = 4 ∨ n = 5 ∨ n = 6 ∨ n = 7 ∨ n = 8 ∨ n = 9 ∨ n = 10 ∨ n = 11 ∨ n = 12 ∨ n = 13 by omega) with e | e | e | e | e | e | e | e | e | e | e | e | e | e <;> subst e <;> exact ⟨by decide, by decide, by decide⟩
theorem sp_X8_turns_b {h : xH} {A : Nat → Nat} {m : Nat → Int} {r : Nat → Nat → Int} {k : Nat} {c : Int} {bu bd : Int} {X P : Nat → Int} (hL : ∀ q ∈ LM A m r, h q.1 = zcE q.2) (hD : zND (LM A m r)) (hR : ROK (r 1)) (hnp : ∀ p : Nat, p < 13 → 0 < r 1 (p + 18) → qv (fun j => r 1 (j + 1)) ((p : Int) - 6) ≠ 0) (hm24 : m 24 = c) (hm : m 25 = (k : Int)) (hX : ∀ j, j < k → r 14 j = X j) (hP : ∀ j, j < k → r 15 j = P j) (hG : GOK X P k c) (hbu : m 29 = bu) (hbd : m 30 = bd) (hbr : (0 ≤ bu ∧ bu ≤ 9223372036854775807) ∧ (0 < bd ∧ bd ≤ 9223372036854775807)) : zEv k_X8_turns [za (A 0)] h (fun v h2 => ∃ e1 : Int, ∃ e2 : Int, v = some (zi (tnV (r 1) X P k c bu bd)) ∧ h2 = zov (LM A (va_up (va_up m 26 e1) 27 e2) r) h) := by
  by_cases h0 : bu = 0
  · refine zEv.mono (sp_X8_turns_zero hL hD hR hnp hm24 hm hX hP hG hbu hbd hbr h0) (fun v h2 hp => ?_)
    rw [tnV, if_pos h0]
    exact hp
  · refine zEv.mono (sp_X8_turns_pos hL hD hR hnp hm24 hm hX hP hG hbu hbd hbr (by omega)) (fun v h2 hp => ?_)
    rw [tnV, if_neg h0]
    exact hp
theorem sp_X8_best_bad {h : xH} {A : Nat → Nat} {m : Nat → Int} {r : Nat → Nat → Int} {x : Int} (hL : ∀ q ∈ LM A m r, h q.1 = zcE q.2) (hD : zND (LM A m r)) (zx : zInI x) (hb : ¬ (0 ≤ x ∧ x ≤ 7)) : zEv k_X8_best [za (A 0), zi x] h (fun v h2 => v = some (zj (-1)) ∧ h2 = h) := by
  have hh : h = zov (LM A m r) h := zov_self hL
  have zx1 := zx.1
  have zx2 := zx.2
  refine zEv.body (I := (8, xI_X8_best, 2, 5, 135, 0, 0, false)) (rt := (some .long)) [some (za (A 0)), some (zi x)] rfl rfl rfl rfl ?_
  refine Zn.eq rfl rfl rfl hh ?_
  have hD : zND (LM A m r) := hD
  refine Zn.seg (pc2 := 1) (ls2 := [some (za (A 0)), some (zi x)]) (st2 := [zi x]) [(0, .iload_n 1)] (by decide +kernel) rfl ?_
  refine Zn.i2l (by decide +kernel) ⟨by omega, by omega⟩ ?_
  refine Zn.seg (pc2 := 6) (ls2 := [some (za (A 0)), some (zi x)]) (st2 := [zj 7, zj 0, zj x]) [(2, .lconst 0), (3, .ldc2_w 309)] (by decide +kernel) rfl ?_
  refine Zn.call (ins := .invokestatic 77) [zj x, zj 0, zj 7] [] (by decide +kernel) rfl rfl rfl ⟨rfl, rfl⟩ ⟨rfl, rfl, rfl⟩ rfl (zrecvS (by decide)) (sp_X8_in (x := x) (lo := 0) (hi := 7) (⟨by omega, by omega⟩) (⟨by decide, by decide⟩) (⟨by decide, by decide⟩)) (fun v h2 hp => ?_)
  obtain ⟨rfl, hq_1⟩ := hp
  refine Zn.eq (pc2 := 9) (ls2 := [some (za (A 0)), some (zi x)]) (st2 := [zi (inB 0 7 x)]) (h2 := zov (LM A m r) h) rfl rfl rfl hq_1 ?_
  have hD : zND (LM A m r) := hD
  have q_2 := inB_spec 0 7 x
  refine Zn.ifc (c := .ne) (off := 7) 16 (by decide +kernel) rfl ⟨by omega, by omega⟩ (fun c_3 => absurd (show inB 0 7 x ≠ 0 from c_3) (by omega)) (fun c_3 => ?_)
  have c_3 : ¬ (inB 0 7 x ≠ 0) := c_3
  refine Zn.seg (pc2 := 15) (ls2 := [some (za (A 0)), some (zi x)]) (st2 := [zj (-1)]) [(12, .ldc2_w 223)] (by decide +kernel) rfl ?_
  exact Zn.lret (by decide +kernel) rfl (⟨by first | rfl | (refine congrArg some (congrArg zj ?_); first | omega | (simp_all; done) | (simp_all; omega)), hh.symm⟩)
theorem sp_X8_best_none {h : xH} {A : Nat → Nat} {m : Nat → Int} {r : Nat → Nat → Int} {x : Int} (hL : ∀ q ∈ LM A m r, h q.1 = zcE q.2) (hD : zND (LM A m r)) (hx : 0 ≤ x ∧ x ≤ 7) (hR : ROK (r 1)) (hpo : mk (mpoleB (r 1)) ≠ 0) : zEv k_X8_best [za (A 0), zi x] h (fun v h2 => v = some (zj (-4)) ∧ h2 = h) := by
  have hh : h = zov (LM A m r) h := zov_self hL
  refine zEv.body (I := (8, xI_X8_best, 2, 5, 135, 0, 0, false)) (rt := (some .long)) [some (za (A 0)), some (zi x)] rfl rfl rfl rfl ?_
  refine Zn.eq rfl rfl rfl hh ?_
  have hD : zND (LM A m r) := hD
  refine Zn.seg (pc2 := 1) (ls2 := [some (za (A 0)), some (zi x)]) (st2 := [zi x]) [(0, .iload_n 1)] (by decide +kernel) rfl ?_
  refine Zn.i2l (by decide +kernel) ⟨by omega, by omega⟩ ?_
  refine Zn.seg (pc2 := 6) (ls2 := [some (za (A 0)), some (zi x)]) (st2 := [zj 7, zj 0, zj x]) [(2, .lconst 0), (3, .ldc2_w 309)] (by decide +kernel) rfl ?_
  refine Zn.call (ins := .invokestatic 77) [zj x, zj 0, zj 7] [] (by decide +kernel) rfl rfl rfl ⟨rfl, rfl⟩ ⟨rfl, rfl, rfl⟩ rfl (zrecvS (by decide)) (sp_X8_in (x := x) (lo := 0) (hi := 7) (⟨by omega, by omega⟩) (⟨by decide, by decide⟩) (⟨by decide, by decide⟩)) (fun v h2 hp => ?_)
  obtain ⟨rfl, hq_1⟩ := hp
  refine Zn.eq (pc2 := 9) (ls2 := [some (za (A 0)), some (zi x)]) (st2 := [zi (inB 0 7 x)]) (h2 := zov (LM A m r) h) rfl rfl rfl hq_1 ?_
  have hD : zND (LM A m r) := hD
  have q_2 := inB_spec 0 7 x
  refine Zn.ifc (c := .ne) (off := 7) 16 (by decide +kernel) rfl ⟨by omega, by omega⟩ (fun c_3 => ?_) (fun c_3 => absurd (show inB 0 7 x ≠ 0 from by omega) c_3)
  have c_3 : inB 0 7 x ≠ 0 := c_3
  refine Zn.seg (pc2 := 17) (ls2 := [some (za (A 0)), some (zi x)]) (st2 := [za (A 0)]) [(16, .aload_n 0)] (by decide +kernel) rfl ?_
  refine Zn.call (ins := .invokevirtual 118) [za (A 0)] [] (by decide +kernel) rfl rfl rfl ⟨rfl, rfl⟩ ⟨rfl, rfl, rfl⟩ rfl (zrecvV hD (p := 0) rfl rfl rfl) (sp_X8_poles (A := A) (m := m) (r := r) (zov_all hD) hD (hR.1) (ROK_qz hR)) (fun v h2 hp => ?_)
  obtain ⟨rfl, hq_4⟩ := hp
  refine Zn.eq (pc2 := 20) (ls2 := [some (za (A 0)), some (zi x)]) (st2 := [zi (mk (mpoleB (r 1)) : Int)]) (h2 := zov (LM A m r) h) rfl rfl rfl hq_4 ?_
  have hD : zND (LM A m r) := hD
  have hmk_ := mk_lt (mpoleB (r 1))
  refine Zn.ifc (c := .eq) (off := 7) 27 (by decide +kernel) rfl ⟨by omega, by omega⟩ (fun c_5 => absurd (show (mk (mpoleB (r 1)) : Int) = 0 from c_5) (by omega)) (fun c_5 => ?_)
  have c_5 : ¬ ((mk (mpoleB (r 1)) : Int) = 0) := c_5
  refine Zn.seg (pc2 := 26) (ls2 := [some (za (A 0)), some (zi x)]) (st2 := [zj (-4)]) [(23, .ldc2_w 311)] (by decide +kernel) rfl ?_
  exact Zn.lret (by decide +kernel) rfl (⟨by first | rfl | (refine congrArg some (congrArg zj ?_); first | omega | (simp_all; done) | (simp_all; omega)), hh.symm⟩)
theorem sp_X8_best_few {h : xH} {A : Nat → Nat} {m : Nat → Int} {r : Nat → Nat → Int} {x : Int} {d : Nat} (hL : ∀ q ∈ LM A m r, h q.1 = zcE q.2) (hD : zND (LM A m r)) (hx : 0 ≤ x ∧ x ≤ 7) (hR : ROK (r 1)) (hd : r 1 0 = (d : Int)) (hd3 : d ≤ 3) (hpo : mk (mpoleB (r 1)) = 0) (hmn : manyN (r 1) 0 13 < d + 2) : zEv k_X8_best [za (A 0), zi x] h (fun v h2 => v = some (zj (fewV x (manyN (r 1) 0 13) d)) ∧ h2 = h) := by
  have hh : h = zov (LM A m r) h := zov_self hL
  refine zEv.body (I := (8, xI_X8_best, 2, 5, 135, 0, 0, false)) (rt := (some .long)) [some (za (A 0)), some (zi x)] rfl rfl rfl rfl ?_
  refine Zn.eq rfl rfl rfl hh ?_
  have hD : zND (LM A m r) := hD
  refine Zn.seg (pc2 := 1) (ls2 := [some (za (A 0)), some (zi x)]) (st2 := [zi x]) [(0, .iload_n 1)] (by decide +kernel) rfl ?_
  refine Zn.i2l (by decide +kernel) ⟨by omega, by omega⟩ ?_
  refine Zn.seg (pc2 := 6) (ls2 := [some (za (A 0)), some (zi x)]) (st2 := [zj 7, zj 0, zj x]) [(2, .lconst 0), (3, .ldc2_w 309)] (by decide +kernel) rfl ?_
  refine Zn.call (ins := .invokestatic 77) [zj x, zj 0, zj 7] [] (by decide +kernel) rfl rfl rfl ⟨rfl, rfl⟩ ⟨rfl, rfl, rfl⟩ rfl (zrecvS (by decide)) (sp_X8_in (x := x) (lo := 0) (hi := 7) (⟨by omega, by omega⟩) (⟨by decide, by decide⟩) (⟨by decide, by decide⟩)) (fun v h2 hp => ?_)
  obtain ⟨rfl, hq_1⟩ := hp
  refine Zn.eq (pc2 := 9) (ls2 := [some (za (A 0)), some (zi x)]) (st2 := [zi (inB 0 7 x)]) (h2 := zov (LM A m r) h) rfl rfl rfl hq_1 ?_
  have hD : zND (LM A m r) := hD
  have q_2 := inB_spec 0 7 x
  refine Zn.ifc (c := .ne) (off := 7) 16 (by decide +kernel) rfl ⟨by omega, by omega⟩ (fun c_3 => ?_) (fun c_3 => absurd (show inB 0 7 x ≠ 0 from by omega) c_3)
  have c_3 : inB 0 7 x ≠ 0 := c_3
  refine Zn.seg (pc2 := 17) (ls2 := [some (za (A 0)), some (zi x)]) (st2 := [za (A 0)]) [(16, .aload_n 0)] (by decide +kernel) rfl ?_
  refine Zn.call (ins := .invokevirtual 118) [za (A 0)] [] (by decide +kernel) rfl rfl rfl ⟨rfl, rfl⟩ ⟨rfl, rfl, rfl⟩ rfl (zrecvV hD (p := 0) rfl rfl rfl) (sp_X8_poles (A := A) (m := m) (r := r) (zov_all hD) hD (hR.1) (ROK_qz hR)) (fun v h2 hp => ?_)
  obtain ⟨rfl, hq_4⟩ := hp
  refine Zn.eq (pc2 := 20) (ls2 := [some (za (A 0)), some (zi x)]) (st2 := [zi (mk (mpoleB (r 1)) : Int)]) (h2 := zov (LM A m r) h) rfl rfl rfl hq_4 ?_
  have hD : zND (LM A m r) := hD
  have hmk_ := mk_lt (mpoleB (r 1))
  refine Zn.ifc (c := .eq) (off := 7) 27 (by decide +kernel) rfl ⟨by omega, by omega⟩ (fun c_5 => ?_) (fun c_5 => absurd (show (mk (mpoleB (r 1)) : Int) = 0 from by omega) c_5)
  have c_5 : (mk (mpoleB (r 1)) : Int) = 0 := c_5
  refine Zn.seg (pc2 := 28) (ls2 := [some (za (A 0)), some (zi x)]) (st2 := [za (A 0)]) [(27, .aload_n 0)] (by decide +kernel) rfl ?_
  refine Zn.call (ins := .invokevirtual 122) [za (A 0)] [] (by decide +kernel) rfl rfl rfl ⟨rfl, rfl⟩ ⟨rfl, rfl, rfl⟩ rfl (zrecvV hD (p := 0) rfl rfl rfl) (sp_X8_isFew (A := A) (m := m) (r := r) (zov_all hD) hD (hR.1) (hR.2.1)) (fun v h2 hp => ?_)
  obtain ⟨rfl, hq_6⟩ := hp
  refine Zn.eq (pc2 := 31) (ls2 := [some (za (A 0)), some (zi x)]) (st2 := [zi (ltB (manyN (r 1) 0 13 : Int) (r 1 0 + 2))]) (h2 := zov (LM A m r) h) rfl rfl rfl hq_6 ?_
  have hD : zND (LM A m r) := hD
  have q_7 := ltB_spec (manyN (r 1) 0 13 : Int) (r 1 0 + 2)
  refine Zn.ifc (c := .eq) (off := 35) 66 (by decide +kernel) rfl ⟨by omega, by omega⟩ (fun c_8 => absurd (show ltB (manyN (r 1) 0 13 : Int) (r 1 0 + 2) = 0 from c_8) (by omega)) (fun c_8 => ?_)
  have c_8 : ¬ (ltB (manyN (r 1) 0 13 : Int) (r 1 0 + 2) = 0) := c_8
  refine Zn.seg (pc2 := 36) (ls2 := [some (za (A 0)), some (zi x)]) (st2 := [zi 1, zi x]) [(34, .iload_n 1), (35, .iconst 1)] (by decide +kernel) rfl ?_
  refine Zn.icmp (c := .eq) (off := 24) 60 (by decide +kernel) rfl ⟨by omega, by omega⟩ ⟨by decide, by decide⟩ (fun c_9 => ?_) (fun c_9 => ?_)
  · have c_9 : x = 1 := c_9
    refine Zn.seg (pc2 := 65) (ls2 := [some (za (A 0)), some (zi x)]) (st2 := [zj 1]) [(60, .lconst 1), (61, .goto 4)] (by decide +kernel) rfl ?_
    exact Zn.lret (by decide +kernel) rfl (⟨by refine congrArg some (congrArg zj ?_); rw [fewV]; first | rw [if_pos (by omega)] | rw [if_neg (by omega)], hh.symm⟩)
  · have c_9 : ¬ (x = 1) := c_9
    refine Zn.seg (pc2 := 41) (ls2 := [some (za (A 0)), some (zi x)]) (st2 := [zi 5, zi x]) [(39, .iload_n 1), (40, .iconst 5)] (by decide +kernel) rfl ?_
    refine Zn.icmp (c := .ne) (off := 23) 64 (by decide +kernel) rfl ⟨by omega, by omega⟩ ⟨by decide, by decide⟩ (fun c_10 => ?_) (fun c_10 => ?_)
    · have c_10 : x ≠ 5 := c_10
      refine Zn.seg (pc2 := 65) (ls2 := [some (za (A 0)), some (zi x)]) (st2 := [zj 0]) [(64, .lconst 0)] (by decide +kernel) rfl ?_
      exact Zn.lret (by decide +kernel) rfl (⟨by refine congrArg some (congrArg zj ?_); rw [fewV]; first | rw [if_pos (by omega)] | rw [if_neg (by omega)], hh.symm⟩)
    · have c_10 : ¬ (x ≠ 5) := c_10
      refine Zn.seg (pc2 := 46) (ls2 := [some (za (A 0)), some (zi x)]) (st2 := [zi 0, za (A 0)]) [(44, .aload_n 0), (45, .iconst 0)] (by decide +kernel) rfl ?_
      refine Zn.call (ins := .invokevirtual 88) [za (A 0), zi 0] [] (by decide +kernel) rfl rfl rfl ⟨rfl, rfl⟩ ⟨rfl, rfl, rfl⟩ rfl (zrecvV hD (p := 0) rfl rfl rfl) (sp_X8_many (A := A) (m := m) (r := r) (k := 0) (zov_all hD) hD (hR.1) (⟨by decide, by decide⟩)) (fun v h2 hp => ?_)
      obtain ⟨rfl, hq_11⟩ := hp
      refine Zn.eq (pc2 := 49) (ls2 := [some (za (A 0)), some (zi x)]) (st2 := [zi (manyN (r 1) 0 13 : Int)]) (h2 := zov (LM A m r) h) rfl rfl rfl hq_11 ?_
      have hD : zND (LM A m r) := hD
      have q_12 := manyN_le (r 1) 0 13
      refine Zn.seg (pc2 := 50) (ls2 := [some (za (A 0)), some (zi x)]) (st2 := [za (A 0), zi (manyN (r 1) 0 13 : Int)]) [(49, .aload_n 0)] (by decide +kernel) rfl ?_
      refine Zn.get (ix := 7) hD 0 (by decide +kernel) rfl rfl rfl ?_
      refine Zn.seg (pc2 := 54) (ls2 := [some (za (A 0)), some (zi x)]) (st2 := [zi 0, za (A 1), zi (manyN (r 1) 0 13 : Int)]) [(53, .iconst 0)] (by decide +kernel) rfl ?_
      refine Zn.iald hD 1 (0) (by decide +kernel) rfl (rfl) (by decide) rfl ?_
      refine Zn.topi (y := (d : Int)) (hd) ?_
      refine Zn.seg (pc2 := 57) (ls2 := [some (za (A 0)), some (zi x)]) (st2 := [zi ((d : Int) + 1), zi (manyN (r 1) 0 13 : Int)]) [(55, .iconst 1), (56, .iadd)] (by decide +kernel) rfl ?_
      refine Zn.icmp (c := .ne) (off := 7) 64 (by decide +kernel) rfl ⟨by omega, by omega⟩ ⟨by omega, by omega⟩ (fun c_13 => ?_) (fun c_13 => ?_)
      · have c_13 : (manyN (r 1) 0 13 : Int) ≠ (d : Int) + 1 := c_13
        refine Zn.seg (pc2 := 65) (ls2 := [some (za (A 0)), some (zi x)]) (st2 := [zj 0]) [(64, .lconst 0)] (by decide +kernel) rfl ?_
        exact Zn.lret (by decide +kernel) rfl (⟨by refine congrArg some (congrArg zj ?_); rw [fewV]; first | rw [if_pos (by omega)] | rw [if_neg (by omega)], hh.symm⟩)
      · have c_13 : ¬ ((manyN (r 1) 0 13 : Int) ≠ (d : Int) + 1) := c_13
        refine Zn.seg (pc2 := 65) (ls2 := [some (za (A 0)), some (zi x)]) (st2 := [zj 1]) [(60, .lconst 1), (61, .goto 4)] (by decide +kernel) rfl ?_
        exact Zn.lret (by decide +kernel) rfl (⟨by refine congrArg some (congrArg zj ?_); rw [fewV]; first | rw [if_pos (by omega)] | rw [if_neg (by omega)], hh.symm⟩)
theorem sp_X8_best_w6 {h : xH} {A : Nat → Nat} {m : Nat → Int} {r : Nat → Nat → Int} {d N : Nat} (hL : ∀ q ∈ LM A m r, h q.1 = zcE q.2) (hD : zND (LM A m r)) (hR : ROK (r 1)) (hd : r 1 0 = (d : Int)) (hd3 : d ≤ 3) (hnp : ∀ p : Nat, p < 13 → 0 < r 1 (p + 18) → qv (fun j => r 1 (j + 1)) ((p : Int) - 6) ≠ 0) (hS : ∀ t, t < 8192 → refP (r 1) t → SOK (r 1) d t) (hsq : ∀ i, i < N → sq (r 1) d i < 8192 ∧ refP (r 1) (sq (r 1) d i)) (hon : ∀ i, i < N → (0 < onC (r 1) d (sq (r 1) d i) ↔ i + 1 < N)) (hfr : ∃ p, p < 13 ∧ r 1 (p + 18) = 1) (hgo : ∀ i, i + 1 < N → 0 ≤ goO (r 1) d (sq (r 1) d i) ∧ goO (r 1) d (sq (r 1) d i) < 13) (hN : N ≤ 100) (hpo : mk (mpoleB (r 1)) = 0) (hmn : d + 2 ≤ manyN (r 1) 0 13) (hN0 : 0 < N) : zEv k_X8_best [za (A 0), zi 6] h (fun v h2 => ∃ c1 : Int, ∃ c2 : Int, ∃ c3 : Int, ∃ c4 : Int, ∃ c5 : Int, ∃ c6 : Int, ∃ c7 : Int, ∃ x1 : Nat → Int, ∃ x2 : Nat → Int, ∃ x3 : Nat → Int, ∃ x4 : Nat → Int, ∃ x5 : Nat → Int, ∃ c9 : Int, ∃ c10 : Int, ∃ c11 : Int, ∃ c12 : Int, v = some (zj (N : Int)) ∧ h2 = zov (LM A (va_up (va_up (va_up (va_up (va_up (va_up (va_up (va_up (va_up (va_up (va_up (va_up (va_up m 19 c1) 20 c2) 21 c3) 24 c4) 25 c5) 26 c6) 27 c7) 31 (sq (r 1) d (N - 1) : Int)) 32 c9) 33 c10) 34 c11) 35 c12) 36 (N : Int)) (va_up (va_up (va_up (va_up (va_up r 11 x1) 12 x2) 13 x3) 14 x4) 15 x5)) h) := by
  have hh : h = zov (LM A m r) h := zov_self hL
  have hsl := hsq (N - 1) (by omega)
  refine zEv.body (I := (8, xI_X8_best, 2, 5, 135, 0, 0, false)) (rt := (some .long)) [some (za (A 0)), some (zi 6)] rfl rfl rfl rfl ?_
  refine Zn.eq rfl rfl rfl hh ?_
  have hD : zND (LM A m r) := hD
  refine Zn.seg (pc2 := 1) (ls2 := [some (za (A 0)), some (zi 6)]) (st2 := [zi 6]) [(0, .iload_n 1)] (by decide +kernel) rfl ?_
  refine Zn.i2l (by decide +kernel) ⟨by decide, by decide⟩ ?_
  refine Zn.seg (pc2 := 6) (ls2 := [some (za (A 0)), some (zi 6)]) (st2 := [zj 7, zj 0, zj 6]) [(2, .lconst 0), (3, .ldc2_w 309)] (by decide +kernel) rfl ?_
  refine Zn.call (ins := .invokestatic 77) [zj 6, zj 0, zj 7] [] (by decide +kernel) rfl rfl rfl ⟨rfl, rfl⟩ ⟨rfl, rfl, rfl⟩ rfl (zrecvS (by decide)) (sp_X8_in (x := 6) (lo := 0) (hi := 7) (⟨by omega, by omega⟩) (⟨by decide, by decide⟩) (⟨by decide, by decide⟩)) (fun v h2 hp => ?_)
  obtain ⟨rfl, hq_1⟩ := hp
  refine Zn.eq (pc2 := 9) (ls2 := [some (za (A 0)), some (zi 6)]) (st2 := [zi (inB 0 7 6)]) (h2 := zov (LM A m r) h) rfl rfl rfl hq_1 ?_
  have hD : zND (LM A m r) := hD
  have q_2 := inB_spec 0 7 6
  refine Zn.ifc (c := .ne) (off := 7) 16 (by decide +kernel) rfl ⟨by omega, by omega⟩ (fun c_3 => ?_) (fun c_3 => absurd (show inB 0 7 6 ≠ 0 from by omega) c_3)
  have c_3 : inB 0 7 6 ≠ 0 := c_3
  refine Zn.seg (pc2 := 17) (ls2 := [some (za (A 0)), some (zi 6)]) (st2 := [za (A 0)]) [(16, .aload_n 0)] (by decide +kernel) rfl ?_
  refine Zn.call (ins := .invokevirtual 118) [za (A 0)] [] (by decide +kernel) rfl rfl rfl ⟨rfl, rfl⟩ ⟨rfl, rfl, rfl⟩ rfl (zrecvV hD (p := 0) rfl rfl rfl) (sp_X8_poles (A := A) (m := m) (r := r) (zov_all hD) hD (hR.1) (ROK_qz hR)) (fun v h2 hp => ?_)
  obtain ⟨rfl, hq_4⟩ := hp
  refine Zn.eq (pc2 := 20) (ls2 := [some (za (A 0)), some (zi 6)]) (st2 := [zi (mk (mpoleB (r 1)) : Int)]) (h2 := zov (LM A m r) h) rfl rfl rfl hq_4 ?_
  have hD : zND (LM A m r) := hD
  have hmk_ := mk_lt (mpoleB (r 1))
  refine Zn.ifc (c := .eq) (off := 7) 27 (by decide +kernel) rfl ⟨by omega, by omega⟩ (fun c_5 => ?_) (fun c_5 => absurd (show (mk (mpoleB (r 1)) : Int) = 0 from by omega) c_5)
  have c_5 : (mk (mpoleB (r 1)) : Int) = 0 := c_5
  refine Zn.seg (pc2 := 28) (ls2 := [some (za (A 0)), some (zi 6)]) (st2 := [za (A 0)]) [(27, .aload_n 0)] (by decide +kernel) rfl ?_
  refine Zn.call (ins := .invokevirtual 122) [za (A 0)] [] (by decide +kernel) rfl rfl rfl ⟨rfl, rfl⟩ ⟨rfl, rfl, rfl⟩ rfl (zrecvV hD (p := 0) rfl rfl rfl) (sp_X8_isFew (A := A) (m := m) (r := r) (zov_all hD) hD (hR.1) (hR.2.1)) (fun v h2 hp => ?_)
  obtain ⟨rfl, hq_6⟩ := hp
  refine Zn.eq (pc2 := 31) (ls2 := [some (za (A 0)), some (zi 6)]) (st2 := [zi (ltB (manyN (r 1) 0 13 : Int) (r 1 0 + 2))]) (h2 := zov (LM A m r) h) rfl rfl rfl hq_6 ?_
  have hD : zND (LM A m r) := hD
  have q_7 := ltB_spec (manyN (r 1) 0 13 : Int) (r 1 0 + 2)
  refine Zn.ifc (c := .eq) (off := 35) 66 (by decide +kernel) rfl ⟨by omega, by omega⟩ (fun c_8 => ?_) (fun c_8 => absurd (show ltB (manyN (r 1) 0 13 : Int) (r 1 0 + 2) = 0 from by omega) c_8)
  have c_8 : ltB (manyN (r 1) 0 13 : Int) (r 1 0 + 2) = 0 := c_8
  refine Zn.seg (pc2 := 68) (ls2 := [some (za (A 0)), some (zi 6)]) (st2 := [zi 5, zi 6]) [(66, .iload_n 1), (67, .iconst 5)] (by decide +kernel) rfl ?_
  refine Zn.icmp (c := .le) (off := 31) 99 (by decide +kernel) rfl ⟨by decide, by decide⟩ ⟨by decide, by decide⟩ (fun c_9 => absurd (show (6 : Int) ≤ 5 from c_9) (by decide)) (fun c_9 => ?_)
  have c_9 : ¬ ((6 : Int) ≤ 5) := c_9
  refine Zn.seg (pc2 := 75) (ls2 := [some (za (A 0)), some (zi 6)]) (st2 := [zi 8192, za (A 0)]) [(71, .aload_n 0), (72, .sipush 8192)] (by decide +kernel) rfl ?_
  refine Zn.call (ins := .invokevirtual 313) [za (A 0), zi 8192] [] (by decide +kernel) rfl rfl rfl ⟨rfl, rfl⟩ ⟨rfl, rfl, rfl⟩ rfl (zrecvV hD (p := 0) rfl rfl rfl) (sp_X8_steps_miss (A := A) (m := m) (r := r) (d := d) (N := N) (z := 8192) (zov_all hD) hD (hR) (hd) (hd3) (hnp) (hS) (hsq) (hon) (hfr) (hgo) (hN) (⟨by omega, by decide⟩) (hN0)) (fun v h2 hp => ?_)
  obtain ⟨c1, c2, c3, c4, c5, c6, c7, x1, x2, x3, x4, x5, c9, c10, c11, c12, rfl, hq_10⟩ := hp
  refine Zn.eq (pc2 := 78) (ls2 := [some (za (A 0)), some (zi 6)]) (st2 := [zi 0]) (h2 := zov (LM A (va_up (va_up (va_up (va_up (va_up (va_up (va_up (va_up (va_up (va_up (va_up (va_up (va_up m 19 c1) 20 c2) 21 c3) 24 c4) 25 c5) 26 c6) 27 c7) 31 (sq (r 1) d (N - 1) : Int)) 32 c9) 33 c10) 34 c11) 35 c12) 36 (N : Int)) (va_up (va_up (va_up (va_up (va_up r 11 x1) 12 x2) 13 x3) 14 x4) 15 x5)) h) rfl rfl rfl (hq_10.trans (LM_over _ _ _ _ _ _)) ?_
  have hD : zND (LM A (va_up (va_up (va_up (va_up (va_up (va_up (va_up (va_up (va_up (va_up (va_up (va_up (va_up m 19 c1) 20 c2) 21 c3) 24 c4) 25 c5) 26 c6) 27 c7) 31 (sq (r 1) d (N - 1) : Int)) 32 c9) 33 c10) 34 c11) 35 c12) 36 (N : Int)) (va_up (va_up (va_up (va_up (va_up r 11 x1) 12 x2) 13 x3) 14 x4) 15 x5)) := hD
  refine Zn.seg (pc2 := 82) (ls2 := [some (za (A 0)), some (zi 6)]) (st2 := [zi 6, zi 6]) [(78, .pop), (79, .iload_n 1), (80, .bipush 6)] (by decide +kernel) rfl ?_
  refine Zn.icmp (c := .ne) (off := 11) 93 (by decide +kernel) rfl ⟨by decide, by decide⟩ ⟨by decide, by decide⟩ (fun c_11 => absurd (show (6 : Int) ≠ 6 from c_11) (by decide)) (fun c_11 => ?_)
  have c_11 : ¬ ((6 : Int) ≠ 6) := c_11
  refine Zn.seg (pc2 := 86) (ls2 := [some (za (A 0)), some (zi 6)]) (st2 := [za (A 0)]) [(85, .aload_n 0)] (by decide +kernel) rfl ?_
  refine Zn.get (ix := 277) hD 0 (by decide +kernel) rfl rfl rfl ?_
  refine Zn.eq (st2 := [zi (N : Int)]) rfl rfl rfl rfl ?_
  refine Zn.i2l (by decide +kernel) ⟨by omega, by omega⟩ ?_
  refine Zn.seg (pc2 := 98) (ls2 := [some (za (A 0)), some (zi 6)]) (st2 := [zj (N : Int)]) [(90, .goto 8)] (by decide +kernel) rfl ?_
  exact Zn.lret (by decide +kernel) rfl (⟨c1, c2, c3, c4, c5, c6, c7, x1, x2, x3, x4, x5, c9, c10, c11, c12, rfl, rfl⟩)
theorem sp_X8_best_w7 {h : xH} {A : Nat → Nat} {m : Nat → Int} {r : Nat → Nat → Int} {d N : Nat} (hL : ∀ q ∈ LM A m r, h q.1 = zcE q.2) (hD : zND (LM A m r)) (hR : ROK (r 1)) (hd : r 1 0 = (d : Int)) (hd3 : d ≤ 3) (hnp : ∀ p : Nat, p < 13 → 0 < r 1 (p + 18) → qv (fun j => r 1 (j + 1)) ((p : Int) - 6) ≠ 0) (hS : ∀ t, t < 8192 → refP (r 1) t → SOK (r 1) d t) (hsq : ∀ i, i < N → sq (r 1) d i < 8192 ∧ refP (r 1) (sq (r 1) d i)) (hon : ∀ i, i < N → (0 < onC (r 1) d (sq (r 1) d i) ↔ i + 1 < N)) (hfr : ∃ p, p < 13 ∧ r 1 (p + 18) = 1) (hgo : ∀ i, i + 1 < N → 0 ≤ goO (r 1) d (sq (r 1) d i) ∧ goO (r 1) d (sq (r 1) d i) < 13) (hN : N ≤ 100) (hpo : mk (mpoleB (r 1)) = 0) (hmn : d + 2 ≤ manyN (r 1) 0 13) (hN0 : 0 < N) : zEv k_X8_best [za (A 0), zi 7] h (fun v h2 => ∃ c1 : Int, ∃ c2 : Int, ∃ c3 : Int, ∃ c4 : Int, ∃ c5 : Int, ∃ c6 : Int, ∃ c7 : Int, ∃ x1 : Nat → Int, ∃ x2 : Nat → Int, ∃ x3 : Nat → Int, ∃ x4 : Nat → Int, ∃ x5 : Nat → Int, ∃ c9 : Int, ∃ c10 : Int, ∃ c11 : Int, ∃ c12 : Int, v = some (zj (sq (r 1) d (N - 1) : Int)) ∧ h2 = zov (LM A (va_up (va_up (va_up (va_up (va_up (va_up (va_up (va_up (va_up (va_up (va_up (va_up (va_up m 19 c1) 20 c2) 21 c3) 24 c4) 25 c5) 26 c6) 27 c7) 31 (sq (r 1) d (N - 1) : Int)) 32 c9) 33 c10) 34 c11) 35 c12) 36 (N : Int)) (va_up (va_up (va_up (va_up (va_up r 11 x1) 12 x2) 13 x3) 14 x4) 15 x5)) h) := by
  have hh : h = zov (LM A m r) h := zov_self hL
  have hsl := hsq (N - 1) (by omega)
  refine zEv.body (I := (8, xI_X8_best, 2, 5, 135, 0, 0, false)) (rt := (some .long)) [some (za (A 0)), some (zi 7)] rfl rfl rfl rfl ?_
  refine Zn.eq rfl rfl rfl hh ?_
  have hD : zND (LM A m r) := hD
  refine Zn.seg (pc2 := 1) (ls2 := [some (za (A 0)), some (zi 7)]) (st2 := [zi 7]) [(0, .iload_n 1)] (by decide +kernel) rfl ?_
  refine Zn.i2l (by decide +kernel) ⟨by decide, by decide⟩ ?_
  refine Zn.seg (pc2 := 6) (ls2 := [some (za (A 0)), some (zi 7)]) (st2 := [zj 7, zj 0, zj 7]) [(2, .lconst 0), (3, .ldc2_w 309)] (by decide +kernel) rfl ?_
  refine Zn.call (ins := .invokestatic 77) [zj 7, zj 0, zj 7] [] (by decide +kernel) rfl rfl rfl ⟨rfl, rfl⟩ ⟨rfl, rfl, rfl⟩ rfl (zrecvS (by decide)) (sp_X8_in (x := 7) (lo := 0) (hi := 7) (⟨by omega, by omega⟩) (⟨by decide, by decide⟩) (⟨by decide, by decide⟩)) (fun v h2 hp => ?_)
  obtain ⟨rfl, hq_1⟩ := hp
  refine Zn.eq (pc2 := 9) (ls2 := [some (za (A 0)), some (zi 7)]) (st2 := [zi (inB 0 7 7)]) (h2 := zov (LM A m r) h) rfl rfl rfl hq_1 ?_
  have hD : zND (LM A m r) := hD
  have q_2 := inB_spec 0 7 7
  refine Zn.ifc (c := .ne) (off := 7) 16 (by decide +kernel) rfl ⟨by omega, by omega⟩ (fun c_3 => ?_) (fun c_3 => absurd (show inB 0 7 7 ≠ 0 from by omega) c_3)
  have c_3 : inB 0 7 7 ≠ 0 := c_3
  refine Zn.seg (pc2 := 17) (ls2 := [some (za (A 0)), some (zi 7)]) (st2 := [za (A 0)]) [(16, .aload_n 0)] (by decide +kernel) rfl ?_
  refine Zn.call (ins := .invokevirtual 118) [za (A 0)] [] (by decide +kernel) rfl rfl rfl ⟨rfl, rfl⟩ ⟨rfl, rfl, rfl⟩ rfl (zrecvV hD (p := 0) rfl rfl rfl) (sp_X8_poles (A := A) (m := m) (r := r) (zov_all hD) hD (hR.1) (ROK_qz hR)) (fun v h2 hp => ?_)
  obtain ⟨rfl, hq_4⟩ := hp
  refine Zn.eq (pc2 := 20) (ls2 := [some (za (A 0)), some (zi 7)]) (st2 := [zi (mk (mpoleB (r 1)) : Int)]) (h2 := zov (LM A m r) h) rfl rfl rfl hq_4 ?_
  have hD : zND (LM A m r) := hD
  have hmk_ := mk_lt (mpoleB (r 1))
  refine Zn.ifc (c := .eq) (off := 7) 27 (by decide +kernel) rfl ⟨by omega, by omega⟩ (fun c_5 => ?_) (fun c_5 => absurd (show (mk (mpoleB (r 1)) : Int) = 0 from by omega) c_5)
  have c_5 : (mk (mpoleB (r 1)) : Int) = 0 := c_5
  refine Zn.seg (pc2 := 28) (ls2 := [some (za (A 0)), some (zi 7)]) (st2 := [za (A 0)]) [(27, .aload_n 0)] (by decide +kernel) rfl ?_
  refine Zn.call (ins := .invokevirtual 122) [za (A 0)] [] (by decide +kernel) rfl rfl rfl ⟨rfl, rfl⟩ ⟨rfl, rfl, rfl⟩ rfl (zrecvV hD (p := 0) rfl rfl rfl) (sp_X8_isFew (A := A) (m := m) (r := r) (zov_all hD) hD (hR.1) (hR.2.1)) (fun v h2 hp => ?_)
  obtain ⟨rfl, hq_6⟩ := hp
  refine Zn.eq (pc2 := 31) (ls2 := [some (za (A 0)), some (zi 7)]) (st2 := [zi (ltB (manyN (r 1) 0 13 : Int) (r 1 0 + 2))]) (h2 := zov (LM A m r) h) rfl rfl rfl hq_6 ?_
  have hD : zND (LM A m r) := hD
  have q_7 := ltB_spec (manyN (r 1) 0 13 : Int) (r 1 0 + 2)
  refine Zn.ifc (c := .eq) (off := 35) 66 (by decide +kernel) rfl ⟨by omega, by omega⟩ (fun c_8 => ?_) (fun c_8 => absurd (show ltB (manyN (r 1) 0 13 : Int) (r 1 0 + 2) = 0 from by omega) c_8)
  have c_8 : ltB (manyN (r 1) 0 13 : Int) (r 1 0 + 2) = 0 := c_8
  refine Zn.seg (pc2 := 68) (ls2 := [some (za (A 0)), some (zi 7)]) (st2 := [zi 5, zi 7]) [(66, .iload_n 1), (67, .iconst 5)] (by decide +kernel) rfl ?_
  refine Zn.icmp (c := .le) (off := 31) 99 (by decide +kernel) rfl ⟨by decide, by decide⟩ ⟨by decide, by decide⟩ (fun c_9 => absurd (show (7 : Int) ≤ 5 from c_9) (by decide)) (fun c_9 => ?_)
  have c_9 : ¬ ((7 : Int) ≤ 5) := c_9
  refine Zn.seg (pc2 := 75) (ls2 := [some (za (A 0)), some (zi 7)]) (st2 := [zi 8192, za (A 0)]) [(71, .aload_n 0), (72, .sipush 8192)] (by decide +kernel) rfl ?_
  refine Zn.call (ins := .invokevirtual 313) [za (A 0), zi 8192] [] (by decide +kernel) rfl rfl rfl ⟨rfl, rfl⟩ ⟨rfl, rfl, rfl⟩ rfl (zrecvV hD (p := 0) rfl rfl rfl) (sp_X8_steps_miss (A := A) (m := m) (r := r) (d := d) (N := N) (z := 8192) (zov_all hD) hD (hR) (hd) (hd3) (hnp) (hS) (hsq) (hon) (hfr) (hgo) (hN) (⟨by omega, by decide⟩) (hN0)) (fun v h2 hp => ?_)
  obtain ⟨c1, c2, c3, c4, c5, c6, c7, x1, x2, x3, x4, x5, c9, c10, c11, c12, rfl, hq_10⟩ := hp
  refine Zn.eq (pc2 := 78) (ls2 := [some (za (A 0)), some (zi 7)]) (st2 := [zi 0]) (h2 := zov (LM A (va_up (va_up (va_up (va_up (va_up (va_up (va_up (va_up (va_up (va_up (va_up (va_up (va_up m 19 c1) 20 c2) 21 c3) 24 c4) 25 c5) 26 c6) 27 c7) 31 (sq (r 1) d (N - 1) : Int)) 32 c9) 33 c10) 34 c11) 35 c12) 36 (N : Int)) (va_up (va_up (va_up (va_up (va_up r 11 x1) 12 x2) 13 x3) 14 x4) 15 x5)) h) rfl rfl rfl (hq_10.trans (LM_over _ _ _ _ _ _)) ?_
  have hD : zND (LM A (va_up (va_up (va_up (va_up (va_up (va_up (va_up (va_up (va_up (va_up (va_up (va_up (va_up m 19 c1) 20 c2) 21 c3) 24 c4) 25 c5) 26 c6) 27 c7) 31 (sq (r 1) d (N - 1) : Int)) 32 c9) 33 c10) 34 c11) 35 c12) 36 (N : Int)) (va_up (va_up (va_up (va_up (va_up r 11 x1) 12 x2) 13 x3) 14 x4) 15 x5)) := hD
  refine Zn.seg (pc2 := 82) (ls2 := [some (za (A 0)), some (zi 7)]) (st2 := [zi 6, zi 7]) [(78, .pop), (79, .iload_n 1), (80, .bipush 6)] (by decide +kernel) rfl ?_
  refine Zn.icmp (c := .ne) (off := 11) 93 (by decide +kernel) rfl ⟨by decide, by decide⟩ ⟨by decide, by decide⟩ (fun c_11 => ?_) (fun c_11 => absurd (show (7 : Int) ≠ 6 from by decide) c_11)
  have c_11 : (7 : Int) ≠ 6 := c_11
  refine Zn.seg (pc2 := 94) (ls2 := [some (za (A 0)), some (zi 7)]) (st2 := [za (A 0)]) [(93, .aload_n 0)] (by decide +kernel) rfl ?_
  refine Zn.get (ix := 280) hD 0 (by decide +kernel) rfl rfl rfl ?_
  refine Zn.eq (st2 := [zi (sq (r 1) d (N - 1) : Int)]) rfl rfl rfl rfl ?_
  refine Zn.i2l (by decide +kernel) ⟨by omega, by omega⟩ ?_
  exact Zn.lret (by decide +kernel) rfl (⟨c1, c2, c3, c4, c5, c6, c7, x1, x2, x3, x4, x5, c9, c10, c11, c12, rfl, rfl⟩)
set_option maxHeartbeats 1000000 in
theorem sp_X8_best_w0 {h : xH} {A : Nat → Nat} {m : Nat → Int} {r : Nat → Nat → Int} {d : Nat} (hL : ∀ q ∈ LM A m r, h q.1 = zcE q.2) (hD : zND (LM A m r)) (hR : ROK (r 1)) (hd : r 1 0 = (d : Int)) (hd3 : d ≤ 3) (hnp : ∀ p : Nat, p < 13 → 0 < r 1 (p + 18) → qv (fun j => r 1 (j + 1)) ((p : Int) - 6) ≠ 0) (hS : ∀ t, t < 8192 → refP (r 1) t → SOK (r 1) d t) (hpo : mk (mpoleB (r 1)) = 0) (hmn : d + 2 ≤ manyN (r 1) 0 13) (hex : ∃ t, t < 8192 ∧ refP (r 1) t) : zEv k_X8_best [za (A 0), zi 0] h (fun v h2 => ∃ bs : Nat, ∃ x1 : Nat → Int, ∃ x2 : Nat → Int, ∃ x3 : Nat → Int, ∃ x4 : Nat → Int, ∃ x5 : Nat → Int, v = some (zj ((aOf (r 1) bs).natAbs : Int)) ∧ h2 = zov (LM A (va_up (va_up (va_up (va_up (va_up (va_up (va_up (va_up m 19 ((lOf (r 1) bs).length : Int)) 20 (aOf (r 1) bs)) 21 (bOf (r 1) bs)) 24 (bOf (r 1) bs)) 25 ((d : Int) + 1)) 28 (bs : Int)) 29 ((aOf (r 1) bs).natAbs : Int)) 30 (bOf (r 1) bs)) (va_up (va_up (va_up (va_up (va_up r 11 x1) 12 x2) 13 x3) 14 (cpF (nfX (lOf (r 1) bs)) x4 (d + 1))) 15 (cpF (fpV (r 1) (lOf (r 1) bs) (aOf (r 1) bs) (bOf (r 1) bs)) x5 (d + 1)))) h ∧ FBE (r 1) bs) := by
  have hh : h = zov (LM A m r) h := zov_self hL
  refine zEv.body (I := (8, xI_X8_best, 2, 5, 135, 0, 0, false)) (rt := (some .long)) [some (za (A 0)), some (zi 0)] rfl rfl rfl rfl ?_
  refine Zn.eq rfl rfl rfl hh ?_
  have hD : zND (LM A m r) := hD
  refine Zn.seg (pc2 := 1) (ls2 := [some (za (A 0)), some (zi 0)]) (st2 := [zi 0]) [(0, .iload_n 1)] (by decide +kernel) rfl ?_
  refine Zn.i2l (by decide +kernel) ⟨by decide, by decide⟩ ?_
  refine Zn.seg (pc2 := 6) (ls2 := [some (za (A 0)), some (zi 0)]) (st2 := [zj 7, zj 0, zj 0]) [(2, .lconst 0), (3, .ldc2_w 309)] (by decide +kernel) rfl ?_
  refine Zn.call (ins := .invokestatic 77) [zj 0, zj 0, zj 7] [] (by decide +kernel) rfl rfl rfl ⟨rfl, rfl⟩ ⟨rfl, rfl, rfl⟩ rfl (zrecvS (by decide)) (sp_X8_in (x := 0) (lo := 0) (hi := 7) (⟨by omega, by omega⟩) (⟨by decide, by decide⟩) (⟨by decide, by decide⟩)) (fun v h2 hp => ?_)
  obtain ⟨rfl, hq_1⟩ := hp
  refine Zn.eq (pc2 := 9) (ls2 := [some (za (A 0)), some (zi 0)]) (st2 := [zi (inB 0 7 0)]) (h2 := zov (LM A m r) h) rfl rfl rfl hq_1 ?_
  have hD : zND (LM A m r) := hD
  have q_2 := inB_spec 0 7 0
  refine Zn.ifc (c := .ne) (off := 7) 16 (by decide +kernel) rfl ⟨by omega, by omega⟩ (fun c_3 => ?_) (fun c_3 => absurd (show inB 0 7 0 ≠ 0 from by omega) c_3)
  have c_3 : inB 0 7 0 ≠ 0 := c_3
  refine Zn.seg (pc2 := 17) (ls2 := [some (za (A 0)), some (zi 0)]) (st2 := [za (A 0)]) [(16, .aload_n 0)] (by decide +kernel) rfl ?_
  refine Zn.call (ins := .invokevirtual 118) [za (A 0)] [] (by decide +kernel) rfl rfl rfl ⟨rfl, rfl⟩ ⟨rfl, rfl, rfl⟩ rfl (zrecvV hD (p := 0) rfl rfl rfl) (sp_X8_poles (A := A) (m := m) (r := r) (zov_all hD) hD (hR.1) (ROK_qz hR)) (fun v h2 hp => ?_)
  obtain ⟨rfl, hq_4⟩ := hp
  refine Zn.eq (pc2 := 20) (ls2 := [some (za (A 0)), some (zi 0)]) (st2 := [zi (mk (mpoleB (r 1)) : Int)]) (h2 := zov (LM A m r) h) rfl rfl rfl hq_4 ?_
  have hD : zND (LM A m r) := hD
  have hmk_ := mk_lt (mpoleB (r 1))
  refine Zn.ifc (c := .eq) (off := 7) 27 (by decide +kernel) rfl ⟨by omega, by omega⟩ (fun c_5 => ?_) (fun c_5 => absurd (show (mk (mpoleB (r 1)) : Int) = 0 from by omega) c_5)
  have c_5 : (mk (mpoleB (r 1)) : Int) = 0 := c_5
  refine Zn.seg (pc2 := 28) (ls2 := [some (za (A 0)), some (zi 0)]) (st2 := [za (A 0)]) [(27, .aload_n 0)] (by decide +kernel) rfl ?_
  refine Zn.call (ins := .invokevirtual 122) [za (A 0)] [] (by decide +kernel) rfl rfl rfl ⟨rfl, rfl⟩ ⟨rfl, rfl, rfl⟩ rfl (zrecvV hD (p := 0) rfl rfl rfl) (sp_X8_isFew (A := A) (m := m) (r := r) (zov_all hD) hD (hR.1) (hR.2.1)) (fun v h2 hp => ?_)
  obtain ⟨rfl, hq_6⟩ := hp
  refine Zn.eq (pc2 := 31) (ls2 := [some (za (A 0)), some (zi 0)]) (st2 := [zi (ltB (manyN (r 1) 0 13 : Int) (r 1 0 + 2))]) (h2 := zov (LM A m r) h) rfl rfl rfl hq_6 ?_
  have hD : zND (LM A m r) := hD
  have q_7 := ltB_spec (manyN (r 1) 0 13 : Int) (r 1 0 + 2)
  refine Zn.ifc (c := .eq) (off := 35) 66 (by decide +kernel) rfl ⟨by omega, by omega⟩ (fun c_8 => ?_) (fun c_8 => absurd (show ltB (manyN (r 1) 0 13 : Int) (r 1 0 + 2) = 0 from by omega) c_8)
  have c_8 : ltB (manyN (r 1) 0 13 : Int) (r 1 0 + 2) = 0 := c_8
  refine Zn.seg (pc2 := 68) (ls2 := [some (za (A 0)), some (zi 0)]) (st2 := [zi 5, zi 0]) [(66, .iload_n 1), (67, .iconst 5)] (by decide +kernel) rfl ?_
  refine Zn.icmp (c := .le) (off := 31) 99 (by decide +kernel) rfl ⟨by decide, by decide⟩ ⟨by decide, by decide⟩ (fun c_9 => ?_) (fun c_9 => absurd (show (0 : Int) ≤ 5 from by decide) c_9)
  have c_9 : (0 : Int) ≤ 5 := c_9
  refine Zn.seg (pc2 := 100) (ls2 := [some (za (A 0)), some (zi 0)]) (st2 := [za (A 0)]) [(99, .aload_n 0)] (by decide +kernel) rfl ?_
  refine Zn.call (ins := .invokevirtual 267) [za (A 0)] [] (by decide +kernel) rfl rfl rfl ⟨rfl, rfl⟩ ⟨rfl, rfl, rfl⟩ rfl (zrecvV hD (p := 0) rfl rfl rfl) (sp_X8_findsBest (A := A) (m := m) (r := r) (d := d) (zov_all hD) hD (hR) (hd) (hd3) (hS) (hex)) (fun v h2 hp => ?_)
  obtain ⟨bs, x1, x2, x3, x4, x5, rfl, hq_10, hfbe⟩ := hp
  refine Zn.eq (pc2 := 103) (ls2 := [some (za (A 0)), some (zi 0)]) (st2 := []) (h2 := zov (LM A (va_up (va_up (va_up (va_up (va_up (va_up (va_up (va_up m 19 ((lOf (r 1) bs).length : Int)) 20 (aOf (r 1) bs)) 21 (bOf (r 1) bs)) 24 (bOf (r 1) bs)) 25 ((d : Int) + 1)) 28 (bs : Int)) 29 ((aOf (r 1) bs).natAbs : Int)) 30 (bOf (r 1) bs)) (va_up (va_up (va_up (va_up (va_up r 11 x1) 12 x2) 13 x3) 14 (cpF (nfX (lOf (r 1) bs)) x4 (d + 1))) 15 (cpF (fpV (r 1) (lOf (r 1) bs) (aOf (r 1) bs) (bOf (r 1) bs)) x5 (d + 1)))) h) rfl rfl rfl (hq_10.trans (LM_over _ _ _ _ _ _)) ?_
  have hD : zND (LM A (va_up (va_up (va_up (va_up (va_up (va_up (va_up (va_up m 19 ((lOf (r 1) bs).length : Int)) 20 (aOf (r 1) bs)) 21 (bOf (r 1) bs)) 24 (bOf (r 1) bs)) 25 ((d : Int) + 1)) 28 (bs : Int)) 29 ((aOf (r 1) bs).natAbs : Int)) 30 (bOf (r 1) bs)) (va_up (va_up (va_up (va_up (va_up r 11 x1) 12 x2) 13 x3) 14 (cpF (nfX (lOf (r 1) bs)) x4 (d + 1))) 15 (cpF (fpV (r 1) (lOf (r 1) bs) (aOf (r 1) bs) (bOf (r 1) bs)) x5 (d + 1)))) := hD
  refine Zn.seg (pc2 := 104) (ls2 := [some (za (A 0)), some (zi 0)]) (st2 := [zi 0]) [(103, .iload_n 1)] (by decide +kernel) rfl ?_
  refine Zn.tswIn (d := 66) (lo := 0) (hh := 4) (offs := #[36, 41, 46, 53, 60]) 140 0 (by decide +kernel) ⟨by decide, by decide⟩ (by decide) (by decide) rfl rfl ?_
  refine Zn.seg (pc2 := 141) (ls2 := [some (za (A 0)), some (zi 0)]) (st2 := [za (A 0)]) [(140, .aload_n 0)] (by decide +kernel) rfl ?_
  refine Zn.get (ix := 248) hD 0 (by decide +kernel) rfl rfl rfl ?_
  refine Zn.eq (st2 := [zj ((aOf (r 1) bs).natAbs : Int)]) rfl rfl rfl rfl ?_
  exact Zn.lret (by decide +kernel) rfl (⟨bs, x1, x2, x3, x4, x5, rfl, rfl, hfbe⟩)
set_option maxHeartbeats 1000000 in
theorem sp_X8_best_w1 {h : xH} {A : Nat → Nat} {m : Nat → Int} {r : Nat → Nat → Int} {d : Nat} (hL : ∀ q ∈ LM A m r, h q.1 = zcE q.2) (hD : zND (LM A m r)) (hR : ROK (r 1)) (hd : r 1 0 = (d : Int)) (hd3 : d ≤ 3) (hnp : ∀ p : Nat, p < 13 → 0 < r 1 (p + 18) → qv (fun j => r 1 (j + 1)) ((p : Int) - 6) ≠ 0) (hS : ∀ t, t < 8192 → refP (r 1) t → SOK (r 1) d t) (hpo : mk (mpoleB (r 1)) = 0) (hmn : d + 2 ≤ manyN (r 1) 0 13) (hex : ∃ t, t < 8192 ∧ refP (r 1) t) : zEv k_X8_best [za (A 0), zi 1] h (fun v h2 => ∃ bs : Nat, ∃ x1 : Nat → Int, ∃ x2 : Nat → Int, ∃ x3 : Nat → Int, ∃ x4 : Nat → Int, ∃ x5 : Nat → Int, v = some (zj (bOf (r 1) bs)) ∧ h2 = zov (LM A (va_up (va_up (va_up (va_up (va_up (va_up (va_up (va_up m 19 ((lOf (r 1) bs).length : Int)) 20 (aOf (r 1) bs)) 21 (bOf (r 1) bs)) 24 (bOf (r 1) bs)) 25 ((d : Int) + 1)) 28 (bs : Int)) 29 ((aOf (r 1) bs).natAbs : Int)) 30 (bOf (r 1) bs)) (va_up (va_up (va_up (va_up (va_up r 11 x1) 12 x2) 13 x3) 14 (cpF (nfX (lOf (r 1) bs)) x4 (d + 1))) 15 (cpF (fpV (r 1) (lOf (r 1) bs) (aOf (r 1) bs) (bOf (r 1) bs)) x5 (d + 1)))) h ∧ FBE (r 1) bs) := by
  have hh : h = zov (LM A m r) h := zov_self hL
  refine zEv.body (I := (8, xI_X8_best, 2, 5, 135, 0, 0, false)) (rt := (some .long)) [some (za (A 0)), some (zi 1)] rfl rfl rfl rfl ?_
  refine Zn.eq rfl rfl rfl hh ?_
  have hD : zND (LM A m r) := hD
  refine Zn.seg (pc2 := 1) (ls2 := [some (za (A 0)), some (zi 1)]) (st2 := [zi 1]) [(0, .iload_n 1)] (by decide +kernel) rfl ?_
  refine Zn.i2l (by decide +kernel) ⟨by decide, by decide⟩ ?_
  refine Zn.seg (pc2 := 6) (ls2 := [some (za (A 0)), some (zi 1)]) (st2 := [zj 7, zj 0, zj 1]) [(2, .lconst 0), (3, .ldc2_w 309)] (by decide +kernel) rfl ?_
  refine Zn.call (ins := .invokestatic 77) [zj 1, zj 0, zj 7] [] (by decide +kernel) rfl rfl rfl ⟨rfl, rfl⟩ ⟨rfl, rfl, rfl⟩ rfl (zrecvS (by decide)) (sp_X8_in (x := 1) (lo := 0) (hi := 7) (⟨by omega, by omega⟩) (⟨by decide, by decide⟩) (⟨by decide, by decide⟩)) (fun v h2 hp => ?_)
  obtain ⟨rfl, hq_1⟩ := hp
  refine Zn.eq (pc2 := 9) (ls2 := [some (za (A 0)), some (zi 1)]) (st2 := [zi (inB 0 7 1)]) (h2 := zov (LM A m r) h) rfl rfl rfl hq_1 ?_
  have hD : zND (LM A m r) := hD
  have q_2 := inB_spec 0 7 1
  refine Zn.ifc (c := .ne) (off := 7) 16 (by decide +kernel) rfl ⟨by omega, by omega⟩ (fun c_3 => ?_) (fun c_3 => absurd (show inB 0 7 1 ≠ 0 from by omega) c_3)
  have c_3 : inB 0 7 1 ≠ 0 := c_3
  refine Zn.seg (pc2 := 17) (ls2 := [some (za (A 0)), some (zi 1)]) (st2 := [za (A 0)]) [(16, .aload_n 0)] (by decide +kernel) rfl ?_
  refine Zn.call (ins := .invokevirtual 118) [za (A 0)] [] (by decide +kernel) rfl rfl rfl ⟨rfl, rfl⟩ ⟨rfl, rfl, rfl⟩ rfl (zrecvV hD (p := 0) rfl rfl rfl) (sp_X8_poles (A := A) (m := m) (r := r) (zov_all hD) hD (hR.1) (ROK_qz hR)) (fun v h2 hp => ?_)
  obtain ⟨rfl, hq_4⟩ := hp
  refine Zn.eq (pc2 := 20) (ls2 := [some (za (A 0)), some (zi 1)]) (st2 := [zi (mk (mpoleB (r 1)) : Int)]) (h2 := zov (LM A m r) h) rfl rfl rfl hq_4 ?_
  have hD : zND (LM A m r) := hD
  have hmk_ := mk_lt (mpoleB (r 1))
  refine Zn.ifc (c := .eq) (off := 7) 27 (by decide +kernel) rfl ⟨by omega, by omega⟩ (fun c_5 => ?_) (fun c_5 => absurd (show (mk (mpoleB (r 1)) : Int) = 0 from by omega) c_5)
  have c_5 : (mk (mpoleB (r 1)) : Int) = 0 := c_5
  refine Zn.seg (pc2 := 28) (ls2 := [some (za (A 0)), some (zi 1)]) (st2 := [za (A 0)]) [(27, .aload_n 0)] (by decide +kernel) rfl ?_
  refine Zn.call (ins := .invokevirtual 122) [za (A 0)] [] (by decide +kernel) rfl rfl rfl ⟨rfl, rfl⟩ ⟨rfl, rfl, rfl⟩ rfl (zrecvV hD (p := 0) rfl rfl rfl) (sp_X8_isFew (A := A) (m := m) (r := r) (zov_all hD) hD (hR.1) (hR.2.1)) (fun v h2 hp => ?_)
  obtain ⟨rfl, hq_6⟩ := hp
  refine Zn.eq (pc2 := 31) (ls2 := [some (za (A 0)), some (zi 1)]) (st2 := [zi (ltB (manyN (r 1) 0 13 : Int) (r 1 0 + 2))]) (h2 := zov (LM A m r) h) rfl rfl rfl hq_6 ?_
  have hD : zND (LM A m r) := hD
  have q_7 := ltB_spec (manyN (r 1) 0 13 : Int) (r 1 0 + 2)
  refine Zn.ifc (c := .eq) (off := 35) 66 (by decide +kernel) rfl ⟨by omega, by omega⟩ (fun c_8 => ?_) (fun c_8 => absurd (show ltB (manyN (r 1) 0 13 : Int) (r 1 0 + 2) = 0 from by omega) c_8)
  have c_8 : ltB (manyN (r 1) 0 13 : Int) (r 1 0 + 2) = 0 := c_8
  refine Zn.seg (pc2 := 68) (ls2 := [some (za (A 0)), some (zi 1)]) (st2 := [zi 5, zi 1]) [(66, .iload_n 1), (67, .iconst 5)] (by decide +kernel) rfl ?_
  refine Zn.icmp (c := .le) (off := 31) 99 (by decide +kernel) rfl ⟨by decide, by decide⟩ ⟨by decide, by decide⟩ (fun c_9 => ?_) (fun c_9 => absurd (show (1 : Int) ≤ 5 from by decide) c_9)
  have c_9 : (1 : Int) ≤ 5 := c_9
  refine Zn.seg (pc2 := 100) (ls2 := [some (za (A 0)), some (zi 1)]) (st2 := [za (A 0)]) [(99, .aload_n 0)] (by decide +kernel) rfl ?_
  refine Zn.call (ins := .invokevirtual 267) [za (A 0)] [] (by decide +kernel) rfl rfl rfl ⟨rfl, rfl⟩ ⟨rfl, rfl, rfl⟩ rfl (zrecvV hD (p := 0) rfl rfl rfl) (sp_X8_findsBest (A := A) (m := m) (r := r) (d := d) (zov_all hD) hD (hR) (hd) (hd3) (hS) (hex)) (fun v h2 hp => ?_)
  obtain ⟨bs, x1, x2, x3, x4, x5, rfl, hq_10, hfbe⟩ := hp
  refine Zn.eq (pc2 := 103) (ls2 := [some (za (A 0)), some (zi 1)]) (st2 := []) (h2 := zov (LM A (va_up (va_up (va_up (va_up (va_up (va_up (va_up (va_up m 19 ((lOf (r 1) bs).length : Int)) 20 (aOf (r 1) bs)) 21 (bOf (r 1) bs)) 24 (bOf (r 1) bs)) 25 ((d : Int) + 1)) 28 (bs : Int)) 29 ((aOf (r 1) bs).natAbs : Int)) 30 (bOf (r 1) bs)) (va_up (va_up (va_up (va_up (va_up r 11 x1) 12 x2) 13 x3) 14 (cpF (nfX (lOf (r 1) bs)) x4 (d + 1))) 15 (cpF (fpV (r 1) (lOf (r 1) bs) (aOf (r 1) bs) (bOf (r 1) bs)) x5 (d + 1)))) h) rfl rfl rfl (hq_10.trans (LM_over _ _ _ _ _ _)) ?_
  have hD : zND (LM A (va_up (va_up (va_up (va_up (va_up (va_up (va_up (va_up m 19 ((lOf (r 1) bs).length : Int)) 20 (aOf (r 1) bs)) 21 (bOf (r 1) bs)) 24 (bOf (r 1) bs)) 25 ((d : Int) + 1)) 28 (bs : Int)) 29 ((aOf (r 1) bs).natAbs : Int)) 30 (bOf (r 1) bs)) (va_up (va_up (va_up (va_up (va_up r 11 x1) 12 x2) 13 x3) 14 (cpF (nfX (lOf (r 1) bs)) x4 (d + 1))) 15 (cpF (fpV (r 1) (lOf (r 1) bs) (aOf (r 1) bs) (bOf (r 1) bs)) x5 (d + 1)))) := hD
  refine Zn.seg (pc2 := 104) (ls2 := [some (za (A 0)), some (zi 1)]) (st2 := [zi 1]) [(103, .iload_n 1)] (by decide +kernel) rfl ?_
  refine Zn.tswIn (d := 66) (lo := 0) (hh := 4) (offs := #[36, 41, 46, 53, 60]) 145 1 (by decide +kernel) ⟨by decide, by decide⟩ (by decide) (by decide) rfl rfl ?_
  refine Zn.seg (pc2 := 146) (ls2 := [some (za (A 0)), some (zi 1)]) (st2 := [za (A 0)]) [(145, .aload_n 0)] (by decide +kernel) rfl ?_
  refine Zn.get (ix := 251) hD 0 (by decide +kernel) rfl rfl rfl ?_
  refine Zn.eq (st2 := [zj (bOf (r 1) bs)]) rfl rfl rfl rfl ?_
  exact Zn.lret (by decide +kernel) rfl (⟨bs, x1, x2, x3, x4, x5, rfl, rfl, hfbe⟩)
set_option maxHeartbeats 1000000 in
theorem sp_X8_best_w2 {h : xH} {A : Nat → Nat} {m : Nat → Int} {r : Nat → Nat → Int} {d : Nat} (hL : ∀ q ∈ LM A m r, h q.1 = zcE q.2) (hD : zND (LM A m r)) (hR : ROK (r 1)) (hd : r 1 0 = (d : Int)) (hd3 : d ≤ 3) (hnp : ∀ p : Nat, p < 13 → 0 < r 1 (p + 18) → qv (fun j => r 1 (j + 1)) ((p : Int) - 6) ≠ 0) (hS : ∀ t, t < 8192 → refP (r 1) t → SOK (r 1) d t) (hpo : mk (mpoleB (r 1)) = 0) (hmn : d + 2 ≤ manyN (r 1) 0 13) (hex : ∃ t, t < 8192 ∧ refP (r 1) t) : zEv k_X8_best [za (A 0), zi 2] h (fun v h2 => ∃ bs : Nat, ∃ x1 : Nat → Int, ∃ x2 : Nat → Int, ∃ x3 : Nat → Int, ∃ x4 : Nat → Int, ∃ x5 : Nat → Int, ∃ e1 : Int, ∃ e2 : Int, v = some (zj (mk (rchB (r 1) (XF (r 1) bs) (PF (r 1) bs) (d + 1) (bOf (r 1) bs) ((aOf (r 1) bs).natAbs : Int) (bOf (r 1) bs) 0) : Int)) ∧ h2 = zov (LM A (va_up (va_up (va_up (va_up (va_up (va_up (va_up (va_up (va_up (va_up m 19 ((lOf (r 1) bs).length : Int)) 20 (aOf (r 1) bs)) 21 (bOf (r 1) bs)) 24 (bOf (r 1) bs)) 25 ((d : Int) + 1)) 26 e1) 27 e2) 28 (bs : Int)) 29 ((aOf (r 1) bs).natAbs : Int)) 30 (bOf (r 1) bs)) (va_up (va_up (va_up (va_up (va_up r 11 x1) 12 x2) 13 x3) 14 (cpF (nfX (lOf (r 1) bs)) x4 (d + 1))) 15 (cpF (fpV (r 1) (lOf (r 1) bs) (aOf (r 1) bs) (bOf (r 1) bs)) x5 (d + 1)))) h ∧ FBE (r 1) bs) := by
  have hh : h = zov (LM A m r) h := zov_self hL
  refine zEv.body (I := (8, xI_X8_best, 2, 5, 135, 0, 0, false)) (rt := (some .long)) [some (za (A 0)), some (zi 2)] rfl rfl rfl rfl ?_
  refine Zn.eq rfl rfl rfl hh ?_
  have hD : zND (LM A m r) := hD
  refine Zn.seg (pc2 := 1) (ls2 := [some (za (A 0)), some (zi 2)]) (st2 := [zi 2]) [(0, .iload_n 1)] (by decide +kernel) rfl ?_
  refine Zn.i2l (by decide +kernel) ⟨by decide, by decide⟩ ?_
  refine Zn.seg (pc2 := 6) (ls2 := [some (za (A 0)), some (zi 2)]) (st2 := [zj 7, zj 0, zj 2]) [(2, .lconst 0), (3, .ldc2_w 309)] (by decide +kernel) rfl ?_
  refine Zn.call (ins := .invokestatic 77) [zj 2, zj 0, zj 7] [] (by decide +kernel) rfl rfl rfl ⟨rfl, rfl⟩ ⟨rfl, rfl, rfl⟩ rfl (zrecvS (by decide)) (sp_X8_in (x := 2) (lo := 0) (hi := 7) (⟨by omega, by omega⟩) (⟨by decide, by decide⟩) (⟨by decide, by decide⟩)) (fun v h2 hp => ?_)
  obtain ⟨rfl, hq_1⟩ := hp
  refine Zn.eq (pc2 := 9) (ls2 := [some (za (A 0)), some (zi 2)]) (st2 := [zi (inB 0 7 2)]) (h2 := zov (LM A m r) h) rfl rfl rfl hq_1 ?_
  have hD : zND (LM A m r) := hD
  have q_2 := inB_spec 0 7 2
  refine Zn.ifc (c := .ne) (off := 7) 16 (by decide +kernel) rfl ⟨by omega, by omega⟩ (fun c_3 => ?_) (fun c_3 => absurd (show inB 0 7 2 ≠ 0 from by omega) c_3)
  have c_3 : inB 0 7 2 ≠ 0 := c_3
  refine Zn.seg (pc2 := 17) (ls2 := [some (za (A 0)), some (zi 2)]) (st2 := [za (A 0)]) [(16, .aload_n 0)] (by decide +kernel) rfl ?_
  refine Zn.call (ins := .invokevirtual 118) [za (A 0)] [] (by decide +kernel) rfl rfl rfl ⟨rfl, rfl⟩ ⟨rfl, rfl, rfl⟩ rfl (zrecvV hD (p := 0) rfl rfl rfl) (sp_X8_poles (A := A) (m := m) (r := r) (zov_all hD) hD (hR.1) (ROK_qz hR)) (fun v h2 hp => ?_)
  obtain ⟨rfl, hq_4⟩ := hp
  refine Zn.eq (pc2 := 20) (ls2 := [some (za (A 0)), some (zi 2)]) (st2 := [zi (mk (mpoleB (r 1)) : Int)]) (h2 := zov (LM A m r) h) rfl rfl rfl hq_4 ?_
  have hD : zND (LM A m r) := hD
  have hmk_ := mk_lt (mpoleB (r 1))
  refine Zn.ifc (c := .eq) (off := 7) 27 (by decide +kernel) rfl ⟨by omega, by omega⟩ (fun c_5 => ?_) (fun c_5 => absurd (show (mk (mpoleB (r 1)) : Int) = 0 from by omega) c_5)
  have c_5 : (mk (mpoleB (r 1)) : Int) = 0 := c_5
  refine Zn.seg (pc2 := 28) (ls2 := [some (za (A 0)), some (zi 2)]) (st2 := [za (A 0)]) [(27, .aload_n 0)] (by decide +kernel) rfl ?_
  refine Zn.call (ins := .invokevirtual 122) [za (A 0)] [] (by decide +kernel) rfl rfl rfl ⟨rfl, rfl⟩ ⟨rfl, rfl, rfl⟩ rfl (zrecvV hD (p := 0) rfl rfl rfl) (sp_X8_isFew (A := A) (m := m) (r := r) (zov_all hD) hD (hR.1) (hR.2.1)) (fun v h2 hp => ?_)
  obtain ⟨rfl, hq_6⟩ := hp
  refine Zn.eq (pc2 := 31) (ls2 := [some (za (A 0)), some (zi 2)]) (st2 := [zi (ltB (manyN (r 1) 0 13 : Int) (r 1 0 + 2))]) (h2 := zov (LM A m r) h) rfl rfl rfl hq_6 ?_
  have hD : zND (LM A m r) := hD
  have q_7 := ltB_spec (manyN (r 1) 0 13 : Int) (r 1 0 + 2)
  refine Zn.ifc (c := .eq) (off := 35) 66 (by decide +kernel) rfl ⟨by omega, by omega⟩ (fun c_8 => ?_) (fun c_8 => absurd (show ltB (manyN (r 1) 0 13 : Int) (r 1 0 + 2) = 0 from by omega) c_8)
  have c_8 : ltB (manyN (r 1) 0 13 : Int) (r 1 0 + 2) = 0 := c_8
  refine Zn.seg (pc2 := 68) (ls2 := [some (za (A 0)), some (zi 2)]) (st2 := [zi 5, zi 2]) [(66, .iload_n 1), (67, .iconst 5)] (by decide +kernel) rfl ?_
  refine Zn.icmp (c := .le) (off := 31) 99 (by decide +kernel) rfl ⟨by decide, by decide⟩ ⟨by decide, by decide⟩ (fun c_9 => ?_) (fun c_9 => absurd (show (2 : Int) ≤ 5 from by decide) c_9)
  have c_9 : (2 : Int) ≤ 5 := c_9
  refine Zn.seg (pc2 := 100) (ls2 := [some (za (A 0)), some (zi 2)]) (st2 := [za (A 0)]) [(99, .aload_n 0)] (by decide +kernel) rfl ?_
  refine Zn.call (ins := .invokevirtual 267) [za (A 0)] [] (by decide +kernel) rfl rfl rfl ⟨rfl, rfl⟩ ⟨rfl, rfl, rfl⟩ rfl (zrecvV hD (p := 0) rfl rfl rfl) (sp_X8_findsBest (A := A) (m := m) (r := r) (d := d) (zov_all hD) hD (hR) (hd) (hd3) (hS) (hex)) (fun v h2 hp => ?_)
  obtain ⟨bs, x1, x2, x3, x4, x5, rfl, hq_10, hfbe⟩ := hp
  refine Zn.eq (pc2 := 103) (ls2 := [some (za (A 0)), some (zi 2)]) (st2 := []) (h2 := zov (LM A (va_up (va_up (va_up (va_up (va_up (va_up (va_up (va_up m 19 ((lOf (r 1) bs).length : Int)) 20 (aOf (r 1) bs)) 21 (bOf (r 1) bs)) 24 (bOf (r 1) bs)) 25 ((d : Int) + 1)) 28 (bs : Int)) 29 ((aOf (r 1) bs).natAbs : Int)) 30 (bOf (r 1) bs)) (va_up (va_up (va_up (va_up (va_up r 11 x1) 12 x2) 13 x3) 14 (cpF (nfX (lOf (r 1) bs)) x4 (d + 1))) 15 (cpF (fpV (r 1) (lOf (r 1) bs) (aOf (r 1) bs) (bOf (r 1) bs)) x5 (d + 1)))) h) rfl rfl rfl (hq_10.trans (LM_over _ _ _ _ _ _)) ?_
  have hD : zND (LM A (va_up (va_up (va_up (va_up (va_up (va_up (va_up (va_up m 19 ((lOf (r 1) bs).length : Int)) 20 (aOf (r 1) bs)) 21 (bOf (r 1) bs)) 24 (bOf (r 1) bs)) 25 ((d : Int) + 1)) 28 (bs : Int)) 29 ((aOf (r 1) bs).natAbs : Int)) 30 (bOf (r 1) bs)) (va_up (va_up (va_up (va_up (va_up r 11 x1) 12 x2) 13 x3) 14 (cpF (nfX (lOf (r 1) bs)) x4 (d + 1))) 15 (cpF (fpV (r 1) (lOf (r 1) bs) (aOf (r 1) bs) (bOf (r 1) bs)) x5 (d + 1)))) := hD
  refine Zn.seg (pc2 := 104) (ls2 := [some (za (A 0)), some (zi 2)]) (st2 := [zi 2]) [(103, .iload_n 1)] (by decide +kernel) rfl ?_
  refine Zn.tswIn (d := 66) (lo := 0) (hh := 4) (offs := #[36, 41, 46, 53, 60]) 150 2 (by decide +kernel) ⟨by decide, by decide⟩ (by decide) (by decide) rfl rfl ?_
  refine Zn.seg (pc2 := 152) (ls2 := [some (za (A 0)), some (zi 2)]) (st2 := [zi 0, za (A 0)]) [(150, .aload_n 0), (151, .iconst 0)] (by decide +kernel) rfl ?_
  refine Zn.call (ins := .invokevirtual 305) [za (A 0), zi 0] [] (by decide +kernel) rfl rfl rfl ⟨rfl, rfl⟩ ⟨rfl, rfl, rfl⟩ rfl (zrecvV hD (p := 0) rfl rfl rfl) (sp_X8_reached (A := A) (m := va_up (va_up (va_up (va_up (va_up (va_up (va_up (va_up m 19 ((lOf (r 1) bs).length : Int)) 20 (aOf (r 1) bs)) 21 (bOf (r 1) bs)) 24 (bOf (r 1) bs)) 25 ((d : Int) + 1)) 28 (bs : Int)) 29 ((aOf (r 1) bs).natAbs : Int)) 30 (bOf (r 1) bs)) (r := va_up (va_up (va_up (va_up (va_up r 11 x1) 12 x2) 13 x3) 14 (cpF (nfX (lOf (r 1) bs)) x4 (d + 1))) 15 (cpF (fpV (r 1) (lOf (r 1) bs) (aOf (r 1) bs) (bOf (r 1) bs)) x5 (d + 1))) (k := (d + 1)) (c := (bOf (r 1) bs)) (bu := ((aOf (r 1) bs).natAbs : Int)) (bd := (bOf (r 1) bs)) (o := 0) (X := (XF (r 1) bs)) (P := (PF (r 1) bs)) (zov_all hD) hD (hR) (hnp) (rfl) (by rfl) (fun j hj => cpF_lt hj) (fun j hj => cpF_lt hj) ((hS bs hfbe.1 hfbe.2.1).2) (rfl) (rfl) (⟨⟨by omega, by have := ab_rng (hS bs hfbe.1 hfbe.2.1); omega⟩, (ab_rng (hS bs hfbe.1 hfbe.2.1)).2⟩) (by decide)) (fun v h2 hp => ?_)
  obtain ⟨e1, e2, rfl, hq_12⟩ := hp
  refine Zn.eq (pc2 := 155) (ls2 := [some (za (A 0)), some (zi 2)]) (st2 := [zi (mk (rchB ((r 1)) (XF (r 1) bs) (PF (r 1) bs) (d + 1) (bOf (r 1) bs) ((aOf (r 1) bs).natAbs : Int) (bOf (r 1) bs) 0) : Int)]) (h2 := zov (LM A (va_up (va_up (va_up (va_up (va_up (va_up (va_up (va_up (va_up (va_up m 19 ((lOf (r 1) bs).length : Int)) 20 (aOf (r 1) bs)) 21 (bOf (r 1) bs)) 24 (bOf (r 1) bs)) 25 ((d : Int) + 1)) 26 e1) 27 e2) 28 (bs : Int)) 29 ((aOf (r 1) bs).natAbs : Int)) 30 (bOf (r 1) bs)) (va_up (va_up (va_up (va_up (va_up r 11 x1) 12 x2) 13 x3) 14 (cpF (nfX (lOf (r 1) bs)) x4 (d + 1))) 15 (cpF (fpV (r 1) (lOf (r 1) bs) (aOf (r 1) bs) (bOf (r 1) bs)) x5 (d + 1)))) h) rfl rfl rfl (hq_12.trans ((LM_over _ _ _ _ _ _).trans rfl)) ?_
  have hD : zND (LM A (va_up (va_up (va_up (va_up (va_up (va_up (va_up (va_up (va_up (va_up m 19 ((lOf (r 1) bs).length : Int)) 20 (aOf (r 1) bs)) 21 (bOf (r 1) bs)) 24 (bOf (r 1) bs)) 25 ((d : Int) + 1)) 26 e1) 27 e2) 28 (bs : Int)) 29 ((aOf (r 1) bs).natAbs : Int)) 30 (bOf (r 1) bs)) (va_up (va_up (va_up (va_up (va_up r 11 x1) 12 x2) 13 x3) 14 (cpF (nfX (lOf (r 1) bs)) x4 (d + 1))) 15 (cpF (fpV (r 1) (lOf (r 1) bs) (aOf (r 1) bs) (bOf (r 1) bs)) x5 (d + 1)))) := hD
  have hmk2 := mk_lt (rchB (r 1) (XF (r 1) bs) (PF (r 1) bs) (d + 1) (bOf (r 1) bs) ((aOf (r 1) bs).natAbs : Int) (bOf (r 1) bs) 0)
  refine Zn.i2l (by decide +kernel) ⟨by omega, by omega⟩ ?_
  exact Zn.lret (by decide +kernel) rfl (⟨bs, x1, x2, x3, x4, x5, e1, e2, rfl, rfl, hfbe⟩)
set_option maxHeartbeats 1000000 in
theorem sp_X8_best_w3 {h : xH} {A : Nat → Nat} {m : Nat → Int} {r : Nat → Nat → Int} {d : Nat} (hL : ∀ q ∈ LM A m r, h q.1 = zcE q.2) (hD : zND (LM A m r)) (hR : ROK (r 1)) (hd : r 1 0 = (d : Int)) (hd3 : d ≤ 3) (hnp : ∀ p : Nat, p < 13 → 0 < r 1 (p + 18) → qv (fun j => r 1 (j + 1)) ((p : Int) - 6) ≠ 0) (hS : ∀ t, t < 8192 → refP (r 1) t → SOK (r 1) d t) (hpo : mk (mpoleB (r 1)) = 0) (hmn : d + 2 ≤ manyN (r 1) 0 13) (hex : ∃ t, t < 8192 ∧ refP (r 1) t) : zEv k_X8_best [za (A 0), zi 3] h (fun v h2 => ∃ bs : Nat, ∃ x1 : Nat → Int, ∃ x2 : Nat → Int, ∃ x3 : Nat → Int, ∃ x4 : Nat → Int, ∃ x5 : Nat → Int, ∃ e1 : Int, ∃ e2 : Int, v = some (zj (mk (rchB (r 1) (XF (r 1) bs) (PF (r 1) bs) (d + 1) (bOf (r 1) bs) ((aOf (r 1) bs).natAbs : Int) (bOf (r 1) bs) 1) : Int)) ∧ h2 = zov (LM A (va_up (va_up (va_up (va_up (va_up (va_up (va_up (va_up (va_up (va_up m 19 ((lOf (r 1) bs).length : Int)) 20 (aOf (r 1) bs)) 21 (bOf (r 1) bs)) 24 (bOf (r 1) bs)) 25 ((d : Int) + 1)) 26 e1) 27 e2) 28 (bs : Int)) 29 ((aOf (r 1) bs).natAbs : Int)) 30 (bOf (r 1) bs)) (va_up (va_up (va_up (va_up (va_up r 11 x1) 12 x2) 13 x3) 14 (cpF (nfX (lOf (r 1) bs)) x4 (d + 1))) 15 (cpF (fpV (r 1) (lOf (r 1) bs) (aOf (r 1) bs) (bOf (r 1) bs)) x5 (d + 1)))) h ∧ FBE (r 1) bs) := by
  have hh : h = zov (LM A m r) h := zov_self hL
  refine zEv.body (I := (8, xI_X8_best, 2, 5, 135, 0, 0, false)) (rt := (some .long)) [some (za (A 0)), some (zi 3)] rfl rfl rfl rfl ?_
  refine Zn.eq rfl rfl rfl hh ?_
  have hD : zND (LM A m r) := hD
  refine Zn.seg (pc2 := 1) (ls2 := [some (za (A 0)), some (zi 3)]) (st2 := [zi 3]) [(0, .iload_n 1)] (by decide +kernel) rfl ?_
  refine Zn.i2l (by decide +kernel) ⟨by decide, by decide⟩ ?_
  refine Zn.seg (pc2 := 6) (ls2 := [some (za (A 0)), some (zi 3)]) (st2 := [zj 7, zj 0, zj 3]) [(2, .lconst 0), (3, .ldc2_w 309)] (by decide +kernel) rfl ?_
  refine Zn.call (ins := .invokestatic 77) [zj 3, zj 0, zj 7] [] (by decide +kernel) rfl rfl rfl ⟨rfl, rfl⟩ ⟨rfl, rfl, rfl⟩ rfl (zrecvS (by decide)) (sp_X8_in (x := 3) (lo := 0) (hi := 7) (⟨by omega, by omega⟩) (⟨by decide, by decide⟩) (⟨by decide, by decide⟩)) (fun v h2 hp => ?_)
  obtain ⟨rfl, hq_1⟩ := hp
  refine Zn.eq (pc2 := 9) (ls2 := [some (za (A 0)), some (zi 3)]) (st2 := [zi (inB 0 7 3)]) (h2 := zov (LM A m r) h) rfl rfl rfl hq_1 ?_
  have hD : zND (LM A m r) := hD
  have q_2 := inB_spec 0 7 3
  refine Zn.ifc (c := .ne) (off := 7) 16 (by decide +kernel) rfl ⟨by omega, by omega⟩ (fun c_3 => ?_) (fun c_3 => absurd (show inB 0 7 3 ≠ 0 from by omega) c_3)
  have c_3 : inB 0 7 3 ≠ 0 := c_3
  refine Zn.seg (pc2 := 17) (ls2 := [some (za (A 0)), some (zi 3)]) (st2 := [za (A 0)]) [(16, .aload_n 0)] (by decide +kernel) rfl ?_
  refine Zn.call (ins := .invokevirtual 118) [za (A 0)] [] (by decide +kernel) rfl rfl rfl ⟨rfl, rfl⟩ ⟨rfl, rfl, rfl⟩ rfl (zrecvV hD (p := 0) rfl rfl rfl) (sp_X8_poles (A := A) (m := m) (r := r) (zov_all hD) hD (hR.1) (ROK_qz hR)) (fun v h2 hp => ?_)
  obtain ⟨rfl, hq_4⟩ := hp
  refine Zn.eq (pc2 := 20) (ls2 := [some (za (A 0)), some (zi 3)]) (st2 := [zi (mk (mpoleB (r 1)) : Int)]) (h2 := zov (LM A m r) h) rfl rfl rfl hq_4 ?_
  have hD : zND (LM A m r) := hD
  have hmk_ := mk_lt (mpoleB (r 1))
  refine Zn.ifc (c := .eq) (off := 7) 27 (by decide +kernel) rfl ⟨by omega, by omega⟩ (fun c_5 => ?_) (fun c_5 => absurd (show (mk (mpoleB (r 1)) : Int) = 0 from by omega) c_5)
  have c_5 : (mk (mpoleB (r 1)) : Int) = 0 := c_5
  refine Zn.seg (pc2 := 28) (ls2 := [some (za (A 0)), some (zi 3)]) (st2 := [za (A 0)]) [(27, .aload_n 0)] (by decide +kernel) rfl ?_
  refine Zn.call (ins := .invokevirtual 122) [za (A 0)] [] (by decide +kernel) rfl rfl rfl ⟨rfl, rfl⟩ ⟨rfl, rfl, rfl⟩ rfl (zrecvV hD (p := 0) rfl rfl rfl) (sp_X8_isFew (A := A) (m := m) (r := r) (zov_all hD) hD (hR.1) (hR.2.1)) (fun v h2 hp => ?_)
  obtain ⟨rfl, hq_6⟩ := hp
  refine Zn.eq (pc2 := 31) (ls2 := [some (za (A 0)), some (zi 3)]) (st2 := [zi (ltB (manyN (r 1) 0 13 : Int) (r 1 0 + 2))]) (h2 := zov (LM A m r) h) rfl rfl rfl hq_6 ?_
  have hD : zND (LM A m r) := hD
  have q_7 := ltB_spec (manyN (r 1) 0 13 : Int) (r 1 0 + 2)
  refine Zn.ifc (c := .eq) (off := 35) 66 (by decide +kernel) rfl ⟨by omega, by omega⟩ (fun c_8 => ?_) (fun c_8 => absurd (show ltB (manyN (r 1) 0 13 : Int) (r 1 0 + 2) = 0 from by omega) c_8)
  have c_8 : ltB (manyN (r 1) 0 13 : Int) (r 1 0 + 2) = 0 := c_8
  refine Zn.seg (pc2 := 68) (ls2 := [some (za (A 0)), some (zi 3)]) (st2 := [zi 5, zi 3]) [(66, .iload_n 1), (67, .iconst 5)] (by decide +kernel) rfl ?_
  refine Zn.icmp (c := .le) (off := 31) 99 (by decide +kernel) rfl ⟨by decide, by decide⟩ ⟨by decide, by decide⟩ (fun c_9 => ?_) (fun c_9 => absurd (show (3 : Int) ≤ 5 from by decide) c_9)
  have c_9 : (3 : Int) ≤ 5 := c_9
  refine Zn.seg (pc2 := 100) (ls2 := [some (za (A 0)), some (zi 3)]) (st2 := [za (A 0)]) [(99, .aload_n 0)] (by decide +kernel) rfl ?_
  refine Zn.call (ins := .invokevirtual 267) [za (A 0)] [] (by decide +kernel) rfl rfl rfl ⟨rfl, rfl⟩ ⟨rfl, rfl, rfl⟩ rfl (zrecvV hD (p := 0) rfl rfl rfl) (sp_X8_findsBest (A := A) (m := m) (r := r) (d := d) (zov_all hD) hD (hR) (hd) (hd3) (hS) (hex)) (fun v h2 hp => ?_)
  obtain ⟨bs, x1, x2, x3, x4, x5, rfl, hq_10, hfbe⟩ := hp
  refine Zn.eq (pc2 := 103) (ls2 := [some (za (A 0)), some (zi 3)]) (st2 := []) (h2 := zov (LM A (va_up (va_up (va_up (va_up (va_up (va_up (va_up (va_up m 19 ((lOf (r 1) bs).length : Int)) 20 (aOf (r 1) bs)) 21 (bOf (r 1) bs)) 24 (bOf (r 1) bs)) 25 ((d : Int) + 1)) 28 (bs : Int)) 29 ((aOf (r 1) bs).natAbs : Int)) 30 (bOf (r 1) bs)) (va_up (va_up (va_up (va_up (va_up r 11 x1) 12 x2) 13 x3) 14 (cpF (nfX (lOf (r 1) bs)) x4 (d + 1))) 15 (cpF (fpV (r 1) (lOf (r 1) bs) (aOf (r 1) bs) (bOf (r 1) bs)) x5 (d + 1)))) h) rfl rfl rfl (hq_10.trans (LM_over _ _ _ _ _ _)) ?_
  have hD : zND (LM A (va_up (va_up (va_up (va_up (va_up (va_up (va_up (va_up m 19 ((lOf (r 1) bs).length : Int)) 20 (aOf (r 1) bs)) 21 (bOf (r 1) bs)) 24 (bOf (r 1) bs)) 25 ((d : Int) + 1)) 28 (bs : Int)) 29 ((aOf (r 1) bs).natAbs : Int)) 30 (bOf (r 1) bs)) (va_up (va_up (va_up (va_up (va_up r 11 x1) 12 x2) 13 x3) 14 (cpF (nfX (lOf (r 1) bs)) x4 (d + 1))) 15 (cpF (fpV (r 1) (lOf (r 1) bs) (aOf (r 1) bs) (bOf (r 1) bs)) x5 (d + 1)))) := hD
  refine Zn.seg (pc2 := 104) (ls2 := [some (za (A 0)), some (zi 3)]) (st2 := [zi 3]) [(103, .iload_n 1)] (by decide +kernel) rfl ?_
  refine Zn.tswIn (d := 66) (lo := 0) (hh := 4) (offs := #[36, 41, 46, 53, 60]) 157 3 (by decide +kernel) ⟨by decide, by decide⟩ (by decide) (by decide) rfl rfl ?_
  refine Zn.seg (pc2 := 159) (ls2 := [some (za (A 0)), some (zi 3)]) (st2 := [zi 1, za (A 0)]) [(157, .aload_n 0), (158, .iconst 1)] (by decide +kernel) rfl ?_
  refine Zn.call (ins := .invokevirtual 305) [za (A 0), zi 1] [] (by decide +kernel) rfl rfl rfl ⟨rfl, rfl⟩ ⟨rfl, rfl, rfl⟩ rfl (zrecvV hD (p := 0) rfl rfl rfl) (sp_X8_reached (A := A) (m := va_up (va_up (va_up (va_up (va_up (va_up (va_up (va_up m 19 ((lOf (r 1) bs).length : Int)) 20 (aOf (r 1) bs)) 21 (bOf (r 1) bs)) 24 (bOf (r 1) bs)) 25 ((d : Int) + 1)) 28 (bs : Int)) 29 ((aOf (r 1) bs).natAbs : Int)) 30 (bOf (r 1) bs)) (r := va_up (va_up (va_up (va_up (va_up r 11 x1) 12 x2) 13 x3) 14 (cpF (nfX (lOf (r 1) bs)) x4 (d + 1))) 15 (cpF (fpV (r 1) (lOf (r 1) bs) (aOf (r 1) bs) (bOf (r 1) bs)) x5 (d + 1))) (k := (d + 1)) (c := (bOf (r 1) bs)) (bu := ((aOf (r 1) bs).natAbs : Int)) (bd := (bOf (r 1) bs)) (o := 1) (X := (XF (r 1) bs)) (P := (PF (r 1) bs)) (zov_all hD) hD (hR) (hnp) (rfl) (by rfl) (fun j hj => cpF_lt hj) (fun j hj => cpF_lt hj) ((hS bs hfbe.1 hfbe.2.1).2) (rfl) (rfl) (⟨⟨by omega, by have := ab_rng (hS bs hfbe.1 hfbe.2.1); omega⟩, (ab_rng (hS bs hfbe.1 hfbe.2.1)).2⟩) (by decide)) (fun v h2 hp => ?_)
  obtain ⟨e1, e2, rfl, hq_12⟩ := hp
  refine Zn.eq (pc2 := 162) (ls2 := [some (za (A 0)), some (zi 3)]) (st2 := [zi (mk (rchB ((r 1)) (XF (r 1) bs) (PF (r 1) bs) (d + 1) (bOf (r 1) bs) ((aOf (r 1) bs).natAbs : Int) (bOf (r 1) bs) 1) : Int)]) (h2 := zov (LM A (va_up (va_up (va_up (va_up (va_up (va_up (va_up (va_up (va_up (va_up m 19 ((lOf (r 1) bs).length : Int)) 20 (aOf (r 1) bs)) 21 (bOf (r 1) bs)) 24 (bOf (r 1) bs)) 25 ((d : Int) + 1)) 26 e1) 27 e2) 28 (bs : Int)) 29 ((aOf (r 1) bs).natAbs : Int)) 30 (bOf (r 1) bs)) (va_up (va_up (va_up (va_up (va_up r 11 x1) 12 x2) 13 x3) 14 (cpF (nfX (lOf (r 1) bs)) x4 (d + 1))) 15 (cpF (fpV (r 1) (lOf (r 1) bs) (aOf (r 1) bs) (bOf (r 1) bs)) x5 (d + 1)))) h) rfl rfl rfl (hq_12.trans ((LM_over _ _ _ _ _ _).trans rfl)) ?_
  have hD : zND (LM A (va_up (va_up (va_up (va_up (va_up (va_up (va_up (va_up (va_up (va_up m 19 ((lOf (r 1) bs).length : Int)) 20 (aOf (r 1) bs)) 21 (bOf (r 1) bs)) 24 (bOf (r 1) bs)) 25 ((d : Int) + 1)) 26 e1) 27 e2) 28 (bs : Int)) 29 ((aOf (r 1) bs).natAbs : Int)) 30 (bOf (r 1) bs)) (va_up (va_up (va_up (va_up (va_up r 11 x1) 12 x2) 13 x3) 14 (cpF (nfX (lOf (r 1) bs)) x4 (d + 1))) 15 (cpF (fpV (r 1) (lOf (r 1) bs) (aOf (r 1) bs) (bOf (r 1) bs)) x5 (d + 1)))) := hD
  have hmk2 := mk_lt (rchB (r 1) (XF (r 1) bs) (PF (r 1) bs) (d + 1) (bOf (r 1) bs) ((aOf (r 1) bs).natAbs : Int) (bOf (r 1) bs) 1)
  refine Zn.i2l (by decide +kernel) ⟨by omega, by omega⟩ ?_
  exact Zn.lret (by decide +kernel) rfl (⟨bs, x1, x2, x3, x4, x5, e1, e2, rfl, rfl, hfbe⟩)
set_option maxHeartbeats 1000000 in
theorem sp_X8_best_w4 {h : xH} {A : Nat → Nat} {m : Nat → Int} {r : Nat → Nat → Int} {d : Nat} (hL : ∀ q ∈ LM A m r, h q.1 = zcE q.2) (hD : zND (LM A m r)) (hR : ROK (r 1)) (hd : r 1 0 = (d : Int)) (hd3 : d ≤ 3) (hnp : ∀ p : Nat, p < 13 → 0 < r 1 (p + 18) → qv (fun j => r 1 (j + 1)) ((p : Int) - 6) ≠ 0) (hS : ∀ t, t < 8192 → refP (r 1) t → SOK (r 1) d t) (hpo : mk (mpoleB (r 1)) = 0) (hmn : d + 2 ≤ manyN (r 1) 0 13) (hex : ∃ t, t < 8192 ∧ refP (r 1) t) : zEv k_X8_best [za (A 0), zi 4] h (fun v h2 => ∃ bs : Nat, ∃ x1 : Nat → Int, ∃ x2 : Nat → Int, ∃ x3 : Nat → Int, ∃ x4 : Nat → Int, ∃ x5 : Nat → Int, ∃ e1 : Int, ∃ e2 : Int, v = some (zj (tnV (r 1) (XF (r 1) bs) (PF (r 1) bs) (d + 1) (bOf (r 1) bs) ((aOf (r 1) bs).natAbs : Int) (bOf (r 1) bs))) ∧ h2 = zov (LM A (va_up (va_up (va_up (va_up (va_up (va_up (va_up (va_up (va_up (va_up m 19 ((lOf (r 1) bs).length : Int)) 20 (aOf (r 1) bs)) 21 (bOf (r 1) bs)) 24 (bOf (r 1) bs)) 25 ((d : Int) + 1)) 26 e1) 27 e2) 28 (bs : Int)) 29 ((aOf (r 1) bs).natAbs : Int)) 30 (bOf (r 1) bs)) (va_up (va_up (va_up (va_up (va_up r 11 x1) 12 x2) 13 x3) 14 (cpF (nfX (lOf (r 1) bs)) x4 (d + 1))) 15 (cpF (fpV (r 1) (lOf (r 1) bs) (aOf (r 1) bs) (bOf (r 1) bs)) x5 (d + 1)))) h ∧ FBE (r 1) bs) := by
  have hh : h = zov (LM A m r) h := zov_self hL
  refine zEv.body (I := (8, xI_X8_best, 2, 5, 135, 0, 0, false)) (rt := (some .long)) [some (za (A 0)), some (zi 4)] rfl rfl rfl rfl ?_
  refine Zn.eq rfl rfl rfl hh ?_
  have hD : zND (LM A m r) := hD
  refine Zn.seg (pc2 := 1) (ls2 := [some (za (A 0)), some (zi 4)]) (st2 := [zi 4]) [(0, .iload_n 1)] (by decide +kernel) rfl ?_
  refine Zn.i2l (by decide +kernel) ⟨by decide, by decide⟩ ?_
  refine Zn.seg (pc2 := 6) (ls2 := [some (za (A 0)), some (zi 4)]) (st2 := [zj 7, zj 0, zj 4]) [(2, .lconst 0), (3, .ldc2_w 309)] (by decide +kernel) rfl ?_
  refine Zn.call (ins := .invokestatic 77) [zj 4, zj 0, zj 7] [] (by decide +kernel) rfl rfl rfl ⟨rfl, rfl⟩ ⟨rfl, rfl, rfl⟩ rfl (zrecvS (by decide)) (sp_X8_in (x := 4) (lo := 0) (hi := 7) (⟨by omega, by omega⟩) (⟨by decide, by decide⟩) (⟨by decide, by decide⟩)) (fun v h2 hp => ?_)
  obtain ⟨rfl, hq_1⟩ := hp
  refine Zn.eq (pc2 := 9) (ls2 := [some (za (A 0)), some (zi 4)]) (st2 := [zi (inB 0 7 4)]) (h2 := zov (LM A m r) h) rfl rfl rfl hq_1 ?_
  have hD : zND (LM A m r) := hD
  have q_2 := inB_spec 0 7 4
  refine Zn.ifc (c := .ne) (off := 7) 16 (by decide +kernel) rfl ⟨by omega, by omega⟩ (fun c_3 => ?_) (fun c_3 => absurd (show inB 0 7 4 ≠ 0 from by omega) c_3)
  have c_3 : inB 0 7 4 ≠ 0 := c_3
  refine Zn.seg (pc2 := 17) (ls2 := [some (za (A 0)), some (zi 4)]) (st2 := [za (A 0)]) [(16, .aload_n 0)] (by decide +kernel) rfl ?_
  refine Zn.call (ins := .invokevirtual 118) [za (A 0)] [] (by decide +kernel) rfl rfl rfl ⟨rfl, rfl⟩ ⟨rfl, rfl, rfl⟩ rfl (zrecvV hD (p := 0) rfl rfl rfl) (sp_X8_poles (A := A) (m := m) (r := r) (zov_all hD) hD (hR.1) (ROK_qz hR)) (fun v h2 hp => ?_)
  obtain ⟨rfl, hq_4⟩ := hp
  refine Zn.eq (pc2 := 20) (ls2 := [some (za (A 0)), some (zi 4)]) (st2 := [zi (mk (mpoleB (r 1)) : Int)]) (h2 := zov (LM A m r) h) rfl rfl rfl hq_4 ?_
  have hD : zND (LM A m r) := hD
  have hmk_ := mk_lt (mpoleB (r 1))
  refine Zn.ifc (c := .eq) (off := 7) 27 (by decide +kernel) rfl ⟨by omega, by omega⟩ (fun c_5 => ?_) (fun c_5 => absurd (show (mk (mpoleB (r 1)) : Int) = 0 from by omega) c_5)
  have c_5 : (mk (mpoleB (r 1)) : Int) = 0 := c_5
  refine Zn.seg (pc2 := 28) (ls2 := [some (za (A 0)), some (zi 4)]) (st2 := [za (A 0)]) [(27, .aload_n 0)] (by decide +kernel) rfl ?_
  refine Zn.call (ins := .invokevirtual 122) [za (A 0)] [] (by decide +kernel) rfl rfl rfl ⟨rfl, rfl⟩ ⟨rfl, rfl, rfl⟩ rfl (zrecvV hD (p := 0) rfl rfl rfl) (sp_X8_isFew (A := A) (m := m) (r := r) (zov_all hD) hD (hR.1) (hR.2.1)) (fun v h2 hp => ?_)
  obtain ⟨rfl, hq_6⟩ := hp
  refine Zn.eq (pc2 := 31) (ls2 := [some (za (A 0)), some (zi 4)]) (st2 := [zi (ltB (manyN (r 1) 0 13 : Int) (r 1 0 + 2))]) (h2 := zov (LM A m r) h) rfl rfl rfl hq_6 ?_
  have hD : zND (LM A m r) := hD
  have q_7 := ltB_spec (manyN (r 1) 0 13 : Int) (r 1 0 + 2)
  refine Zn.ifc (c := .eq) (off := 35) 66 (by decide +kernel) rfl ⟨by omega, by omega⟩ (fun c_8 => ?_) (fun c_8 => absurd (show ltB (manyN (r 1) 0 13 : Int) (r 1 0 + 2) = 0 from by omega) c_8)
  have c_8 : ltB (manyN (r 1) 0 13 : Int) (r 1 0 + 2) = 0 := c_8
  refine Zn.seg (pc2 := 68) (ls2 := [some (za (A 0)), some (zi 4)]) (st2 := [zi 5, zi 4]) [(66, .iload_n 1), (67, .iconst 5)] (by decide +kernel) rfl ?_
  refine Zn.icmp (c := .le) (off := 31) 99 (by decide +kernel) rfl ⟨by decide, by decide⟩ ⟨by decide, by decide⟩ (fun c_9 => ?_) (fun c_9 => absurd (show (4 : Int) ≤ 5 from by decide) c_9)
  have c_9 : (4 : Int) ≤ 5 := c_9
  refine Zn.seg (pc2 := 100) (ls2 := [some (za (A 0)), some (zi 4)]) (st2 := [za (A 0)]) [(99, .aload_n 0)] (by decide +kernel) rfl ?_
  refine Zn.call (ins := .invokevirtual 267) [za (A 0)] [] (by decide +kernel) rfl rfl rfl ⟨rfl, rfl⟩ ⟨rfl, rfl, rfl⟩ rfl (zrecvV hD (p := 0) rfl rfl rfl) (sp_X8_findsBest (A := A) (m := m) (r := r) (d := d) (zov_all hD) hD (hR) (hd) (hd3) (hS) (hex)) (fun v h2 hp => ?_)
  obtain ⟨bs, x1, x2, x3, x4, x5, rfl, hq_10, hfbe⟩ := hp
  refine Zn.eq (pc2 := 103) (ls2 := [some (za (A 0)), some (zi 4)]) (st2 := []) (h2 := zov (LM A (va_up (va_up (va_up (va_up (va_up (va_up (va_up (va_up m 19 ((lOf (r 1) bs).length : Int)) 20 (aOf (r 1) bs)) 21 (bOf (r 1) bs)) 24 (bOf (r 1) bs)) 25 ((d : Int) + 1)) 28 (bs : Int)) 29 ((aOf (r 1) bs).natAbs : Int)) 30 (bOf (r 1) bs)) (va_up (va_up (va_up (va_up (va_up r 11 x1) 12 x2) 13 x3) 14 (cpF (nfX (lOf (r 1) bs)) x4 (d + 1))) 15 (cpF (fpV (r 1) (lOf (r 1) bs) (aOf (r 1) bs) (bOf (r 1) bs)) x5 (d + 1)))) h) rfl rfl rfl (hq_10.trans (LM_over _ _ _ _ _ _)) ?_
  have hD : zND (LM A (va_up (va_up (va_up (va_up (va_up (va_up (va_up (va_up m 19 ((lOf (r 1) bs).length : Int)) 20 (aOf (r 1) bs)) 21 (bOf (r 1) bs)) 24 (bOf (r 1) bs)) 25 ((d : Int) + 1)) 28 (bs : Int)) 29 ((aOf (r 1) bs).natAbs : Int)) 30 (bOf (r 1) bs)) (va_up (va_up (va_up (va_up (va_up r 11 x1) 12 x2) 13 x3) 14 (cpF (nfX (lOf (r 1) bs)) x4 (d + 1))) 15 (cpF (fpV (r 1) (lOf (r 1) bs) (aOf (r 1) bs) (bOf (r 1) bs)) x5 (d + 1)))) := hD
  refine Zn.seg (pc2 := 104) (ls2 := [some (za (A 0)), some (zi 4)]) (st2 := [zi 4]) [(103, .iload_n 1)] (by decide +kernel) rfl ?_
  refine Zn.tswIn (d := 66) (lo := 0) (hh := 4) (offs := #[36, 41, 46, 53, 60]) 164 4 (by decide +kernel) ⟨by decide, by decide⟩ (by decide) (by decide) rfl rfl ?_
  refine Zn.seg (pc2 := 165) (ls2 := [some (za (A 0)), some (zi 4)]) (st2 := [za (A 0)]) [(164, .aload_n 0)] (by decide +kernel) rfl ?_
  refine Zn.call (ins := .invokevirtual 315) [za (A 0)] [] (by decide +kernel) rfl rfl rfl ⟨rfl, rfl⟩ ⟨rfl, rfl, rfl⟩ rfl (zrecvV hD (p := 0) rfl rfl rfl) (sp_X8_turns_b (A := A) (m := va_up (va_up (va_up (va_up (va_up (va_up (va_up (va_up m 19 ((lOf (r 1) bs).length : Int)) 20 (aOf (r 1) bs)) 21 (bOf (r 1) bs)) 24 (bOf (r 1) bs)) 25 ((d : Int) + 1)) 28 (bs : Int)) 29 ((aOf (r 1) bs).natAbs : Int)) 30 (bOf (r 1) bs)) (r := va_up (va_up (va_up (va_up (va_up r 11 x1) 12 x2) 13 x3) 14 (cpF (nfX (lOf (r 1) bs)) x4 (d + 1))) 15 (cpF (fpV (r 1) (lOf (r 1) bs) (aOf (r 1) bs) (bOf (r 1) bs)) x5 (d + 1))) (k := (d + 1)) (c := (bOf (r 1) bs)) (bu := ((aOf (r 1) bs).natAbs : Int)) (bd := (bOf (r 1) bs)) (X := (XF (r 1) bs)) (P := (PF (r 1) bs)) (zov_all hD) hD (hR) (hnp) (rfl) (by rfl) (fun j hj => cpF_lt hj) (fun j hj => cpF_lt hj) ((hS bs hfbe.1 hfbe.2.1).2) (rfl) (rfl) (⟨⟨by omega, by have := ab_rng (hS bs hfbe.1 hfbe.2.1); omega⟩, (ab_rng (hS bs hfbe.1 hfbe.2.1)).2⟩)) (fun v h2 hp => ?_)
  obtain ⟨e1, e2, rfl, hq_12⟩ := hp
  refine Zn.eq (pc2 := 168) (ls2 := [some (za (A 0)), some (zi 4)]) (st2 := [zi (tnV ((r 1)) (XF (r 1) bs) (PF (r 1) bs) (d + 1) (bOf (r 1) bs) ((aOf (r 1) bs).natAbs : Int) (bOf (r 1) bs))]) (h2 := zov (LM A (va_up (va_up (va_up (va_up (va_up (va_up (va_up (va_up (va_up (va_up m 19 ((lOf (r 1) bs).length : Int)) 20 (aOf (r 1) bs)) 21 (bOf (r 1) bs)) 24 (bOf (r 1) bs)) 25 ((d : Int) + 1)) 26 e1) 27 e2) 28 (bs : Int)) 29 ((aOf (r 1) bs).natAbs : Int)) 30 (bOf (r 1) bs)) (va_up (va_up (va_up (va_up (va_up r 11 x1) 12 x2) 13 x3) 14 (cpF (nfX (lOf (r 1) bs)) x4 (d + 1))) 15 (cpF (fpV (r 1) (lOf (r 1) bs) (aOf (r 1) bs) (bOf (r 1) bs)) x5 (d + 1)))) h) rfl rfl rfl (hq_12.trans ((LM_over _ _ _ _ _ _).trans rfl)) ?_
  have hD : zND (LM A (va_up (va_up (va_up (va_up (va_up (va_up (va_up (va_up (va_up (va_up m 19 ((lOf (r 1) bs).length : Int)) 20 (aOf (r 1) bs)) 21 (bOf (r 1) bs)) 24 (bOf (r 1) bs)) 25 ((d : Int) + 1)) 26 e1) 27 e2) 28 (bs : Int)) 29 ((aOf (r 1) bs).natAbs : Int)) 30 (bOf (r 1) bs)) (va_up (va_up (va_up (va_up (va_up r 11 x1) 12 x2) 13 x3) 14 (cpF (nfX (lOf (r 1) bs)) x4 (d + 1))) 15 (cpF (fpV (r 1) (lOf (r 1) bs) (aOf (r 1) bs) (bOf (r 1) bs)) x5 (d + 1)))) := hD
  have q_13 := tnV_b ((r 1)) (XF (r 1) bs) (PF (r 1) bs) (d + 1) (bOf (r 1) bs) ((aOf (r 1) bs).natAbs : Int) (bOf (r 1) bs)
  refine Zn.i2l (by decide +kernel) ⟨by omega, by omega⟩ ?_
  exact Zn.lret (by decide +kernel) rfl (⟨bs, x1, x2, x3, x4, x5, e1, e2, rfl, rfl, hfbe⟩)
set_option maxHeartbeats 1000000 in
theorem sp_X8_best_w5 {h : xH} {A : Nat → Nat} {m : Nat → Int} {r : Nat → Nat → Int} {d : Nat} (hL : ∀ q ∈ LM A m r, h q.1 = zcE q.2) (hD : zND (LM A m r)) (hR : ROK (r 1)) (hd : r 1 0 = (d : Int)) (hd3 : d ≤ 3) (hnp : ∀ p : Nat, p < 13 → 0 < r 1 (p + 18) → qv (fun j => r 1 (j + 1)) ((p : Int) - 6) ≠ 0) (hS : ∀ t, t < 8192 → refP (r 1) t → SOK (r 1) d t) (hpo : mk (mpoleB (r 1)) = 0) (hmn : d + 2 ≤ manyN (r 1) 0 13) (hex : ∃ t, t < 8192 ∧ refP (r 1) t) : zEv k_X8_best [za (A 0), zi 5] h (fun v h2 => ∃ bs : Nat, ∃ x1 : Nat → Int, ∃ x2 : Nat → Int, ∃ x3 : Nat → Int, ∃ x4 : Nat → Int, ∃ x5 : Nat → Int, v = some (zj 1) ∧ h2 = zov (LM A (va_up (va_up (va_up (va_up (va_up (va_up (va_up (va_up m 19 ((lOf (r 1) bs).length : Int)) 20 (aOf (r 1) bs)) 21 (bOf (r 1) bs)) 24 (bOf (r 1) bs)) 25 ((d : Int) + 1)) 28 (bs : Int)) 29 ((aOf (r 1) bs).natAbs : Int)) 30 (bOf (r 1) bs)) (va_up (va_up (va_up (va_up (va_up r 11 x1) 12 x2) 13 x3) 14 (cpF (nfX (lOf (r 1) bs)) x4 (d + 1))) 15 (cpF (fpV (r 1) (lOf (r 1) bs) (aOf (r 1) bs) (bOf (r 1) bs)) x5 (d + 1)))) h ∧ FBE (r 1) bs) := by
  have hh : h = zov (LM A m r) h := zov_self hL
  refine zEv.body (I := (8, xI_X8_best, 2, 5, 135, 0, 0, false)) (rt := (some .long)) [some (za (A 0)), some (zi 5)] rfl rfl rfl rfl ?_
  refine Zn.eq rfl rfl rfl hh ?_
  have hD : zND (LM A m r) := hD
  refine Zn.seg (pc2 := 1) (ls2 := [some (za (A 0)), some (zi 5)]) (st2 := [zi 5]) [(0, .iload_n 1)] (by decide +kernel) rfl ?_
  refine Zn.i2l (by decide +kernel) ⟨by decide, by decide⟩ ?_
  refine Zn.seg (pc2 := 6) (ls2 := [some (za (A 0)), some (zi 5)]) (st2 := [zj 7, zj 0, zj 5]) [(2, .lconst 0), (3, .ldc2_w 309)] (by decide +kernel) rfl ?_
  refine Zn.call (ins := .invokestatic 77) [zj 5, zj 0, zj 7] [] (by decide +kernel) rfl rfl rfl ⟨rfl, rfl⟩ ⟨rfl, rfl, rfl⟩ rfl (zrecvS (by decide)) (sp_X8_in (x := 5) (lo := 0) (hi := 7) (⟨by omega, by omega⟩) (⟨by decide, by decide⟩) (⟨by decide, by decide⟩)) (fun v h2 hp => ?_)
  obtain ⟨rfl, hq_1⟩ := hp
  refine Zn.eq (pc2 := 9) (ls2 := [some (za (A 0)), some (zi 5)]) (st2 := [zi (inB 0 7 5)]) (h2 := zov (LM A m r) h) rfl rfl rfl hq_1 ?_
  have hD : zND (LM A m r) := hD
  have q_2 := inB_spec 0 7 5
  refine Zn.ifc (c := .ne) (off := 7) 16 (by decide +kernel) rfl ⟨by omega, by omega⟩ (fun c_3 => ?_) (fun c_3 => absurd (show inB 0 7 5 ≠ 0 from by omega) c_3)
  have c_3 : inB 0 7 5 ≠ 0 := c_3
  refine Zn.seg (pc2 := 17) (ls2 := [some (za (A 0)), some (zi 5)]) (st2 := [za (A 0)]) [(16, .aload_n 0)] (by decide +kernel) rfl ?_
  refine Zn.call (ins := .invokevirtual 118) [za (A 0)] [] (by decide +kernel) rfl rfl rfl ⟨rfl, rfl⟩ ⟨rfl, rfl, rfl⟩ rfl (zrecvV hD (p := 0) rfl rfl rfl) (sp_X8_poles (A := A) (m := m) (r := r) (zov_all hD) hD (hR.1) (ROK_qz hR)) (fun v h2 hp => ?_)
  obtain ⟨rfl, hq_4⟩ := hp
  refine Zn.eq (pc2 := 20) (ls2 := [some (za (A 0)), some (zi 5)]) (st2 := [zi (mk (mpoleB (r 1)) : Int)]) (h2 := zov (LM A m r) h) rfl rfl rfl hq_4 ?_
  have hD : zND (LM A m r) := hD
  have hmk_ := mk_lt (mpoleB (r 1))
  refine Zn.ifc (c := .eq) (off := 7) 27 (by decide +kernel) rfl ⟨by omega, by omega⟩ (fun c_5 => ?_) (fun c_5 => absurd (show (mk (mpoleB (r 1)) : Int) = 0 from by omega) c_5)
  have c_5 : (mk (mpoleB (r 1)) : Int) = 0 := c_5
  refine Zn.seg (pc2 := 28) (ls2 := [some (za (A 0)), some (zi 5)]) (st2 := [za (A 0)]) [(27, .aload_n 0)] (by decide +kernel) rfl ?_
  refine Zn.call (ins := .invokevirtual 122) [za (A 0)] [] (by decide +kernel) rfl rfl rfl ⟨rfl, rfl⟩ ⟨rfl, rfl, rfl⟩ rfl (zrecvV hD (p := 0) rfl rfl rfl) (sp_X8_isFew (A := A) (m := m) (r := r) (zov_all hD) hD (hR.1) (hR.2.1)) (fun v h2 hp => ?_)
  obtain ⟨rfl, hq_6⟩ := hp
  refine Zn.eq (pc2 := 31) (ls2 := [some (za (A 0)), some (zi 5)]) (st2 := [zi (ltB (manyN (r 1) 0 13 : Int) (r 1 0 + 2))]) (h2 := zov (LM A m r) h) rfl rfl rfl hq_6 ?_
  have hD : zND (LM A m r) := hD
  have q_7 := ltB_spec (manyN (r 1) 0 13 : Int) (r 1 0 + 2)
  refine Zn.ifc (c := .eq) (off := 35) 66 (by decide +kernel) rfl ⟨by omega, by omega⟩ (fun c_8 => ?_) (fun c_8 => absurd (show ltB (manyN (r 1) 0 13 : Int) (r 1 0 + 2) = 0 from by omega) c_8)
  have c_8 : ltB (manyN (r 1) 0 13 : Int) (r 1 0 + 2) = 0 := c_8
  refine Zn.seg (pc2 := 68) (ls2 := [some (za (A 0)), some (zi 5)]) (st2 := [zi 5, zi 5]) [(66, .iload_n 1), (67, .iconst 5)] (by decide +kernel) rfl ?_
  refine Zn.icmp (c := .le) (off := 31) 99 (by decide +kernel) rfl ⟨by decide, by decide⟩ ⟨by decide, by decide⟩ (fun c_9 => ?_) (fun c_9 => absurd (show (5 : Int) ≤ 5 from by decide) c_9)
  have c_9 : (5 : Int) ≤ 5 := c_9
  refine Zn.seg (pc2 := 100) (ls2 := [some (za (A 0)), some (zi 5)]) (st2 := [za (A 0)]) [(99, .aload_n 0)] (by decide +kernel) rfl ?_
  refine Zn.call (ins := .invokevirtual 267) [za (A 0)] [] (by decide +kernel) rfl rfl rfl ⟨rfl, rfl⟩ ⟨rfl, rfl, rfl⟩ rfl (zrecvV hD (p := 0) rfl rfl rfl) (sp_X8_findsBest (A := A) (m := m) (r := r) (d := d) (zov_all hD) hD (hR) (hd) (hd3) (hS) (hex)) (fun v h2 hp => ?_)
  obtain ⟨bs, x1, x2, x3, x4, x5, rfl, hq_10, hfbe⟩ := hp
  refine Zn.eq (pc2 := 103) (ls2 := [some (za (A 0)), some (zi 5)]) (st2 := []) (h2 := zov (LM A (va_up (va_up (va_up (va_up (va_up (va_up (va_up (va_up m 19 ((lOf (r 1) bs).length : Int)) 20 (aOf (r 1) bs)) 21 (bOf (r 1) bs)) 24 (bOf (r 1) bs)) 25 ((d : Int) + 1)) 28 (bs : Int)) 29 ((aOf (r 1) bs).natAbs : Int)) 30 (bOf (r 1) bs)) (va_up (va_up (va_up (va_up (va_up r 11 x1) 12 x2) 13 x3) 14 (cpF (nfX (lOf (r 1) bs)) x4 (d + 1))) 15 (cpF (fpV (r 1) (lOf (r 1) bs) (aOf (r 1) bs) (bOf (r 1) bs)) x5 (d + 1)))) h) rfl rfl rfl (hq_10.trans (LM_over _ _ _ _ _ _)) ?_
  have hD : zND (LM A (va_up (va_up (va_up (va_up (va_up (va_up (va_up (va_up m 19 ((lOf (r 1) bs).length : Int)) 20 (aOf (r 1) bs)) 21 (bOf (r 1) bs)) 24 (bOf (r 1) bs)) 25 ((d : Int) + 1)) 28 (bs : Int)) 29 ((aOf (r 1) bs).natAbs : Int)) 30 (bOf (r 1) bs)) (va_up (va_up (va_up (va_up (va_up r 11 x1) 12 x2) 13 x3) 14 (cpF (nfX (lOf (r 1) bs)) x4 (d + 1))) 15 (cpF (fpV (r 1) (lOf (r 1) bs) (aOf (r 1) bs) (bOf (r 1) bs)) x5 (d + 1)))) := hD
  refine Zn.seg (pc2 := 104) (ls2 := [some (za (A 0)), some (zi 5)]) (st2 := [zi 5]) [(103, .iload_n 1)] (by decide +kernel) rfl ?_
  refine Zn.tswOut (d := 66) (lo := 0) (hh := 4) (offs := #[36, 41, 46, 53, 60]) 170 (by decide +kernel) ⟨by decide, by decide⟩ (by omega) rfl ?_
  refine Zn.seg (pc2 := 171) (ls2 := [some (za (A 0)), some (zi 5)]) (st2 := [zj 1]) [(170, .lconst 1)] (by decide +kernel) rfl ?_
  exact Zn.lret (by decide +kernel) rfl (⟨bs, x1, x2, x3, x4, x5, rfl, rfl, hfbe⟩)
theorem sp_X8_step_bad1 {h : xH} {A : Nat → Nat} {m : Nat → Int} {r : Nat → Nat → Int} {z w_ : Int} (hL : ∀ q ∈ LM A m r, h q.1 = zcE q.2) (hD : zND (LM A m r)) (zz : zInI z) (zw : zInI w_) (hb : z < 0) : zEv k_X8_step [za (A 0), zi z, zi w_] h (fun v h2 => v = some (zj (-1)) ∧ h2 = h) := by
  have hh : h = zov (LM A m r) h := zov_self hL
  have zz1 := zz.1
  have zz2 := zz.2
  have zw1 := zw.1
  have zw2 := zw.2
  refine zEv.body (I := (8, xI_X8_step, 3, 5, 135, 0, 0, false)) (rt := (some .long)) [some (za (A 0)), some (zi z), some (zi w_)] rfl rfl rfl rfl ?_
  refine Zn.eq rfl rfl rfl hh ?_
  have hD : zND (LM A m r) := hD
  refine Zn.seg (pc2 := 1) (ls2 := [some (za (A 0)), some (zi z), some (zi w_)]) (st2 := [zi z]) [(0, .iload_n 1)] (by decide +kernel) rfl ?_
  refine Zn.ifc (c := .lt) (off := 15) 16 (by decide +kernel) rfl ⟨by omega, by omega⟩ (fun c_1 => ?_) (fun c_1 => absurd (show z < 0 from by omega) c_1)
  have c_1 : z < 0 := c_1
  refine Zn.seg (pc2 := 19) (ls2 := [some (za (A 0)), some (zi z), some (zi w_)]) (st2 := [zj (-1)]) [(16, .ldc2_w 223)] (by decide +kernel) rfl ?_
  exact Zn.lret (by decide +kernel) rfl (⟨by first | rfl | (refine congrArg some (congrArg zj ?_); first | omega | (simp_all; done) | (simp_all; omega)), hh.symm⟩)
theorem sp_X8_step_bad2 {h : xH} {A : Nat → Nat} {m : Nat → Int} {r : Nat → Nat → Int} {z w_ : Int} (hL : ∀ q ∈ LM A m r, h q.1 = zcE q.2) (hD : zND (LM A m r)) (zz : zInI z) (zw : zInI w_) (h0 : 0 ≤ z) (hb : ¬ (0 ≤ w_ ∧ w_ ≤ 4)) : zEv k_X8_step [za (A 0), zi z, zi w_] h (fun v h2 => v = some (zj (-1)) ∧ h2 = h) := by
  have hh : h = zov (LM A m r) h := zov_self hL
  have zz1 := zz.1
  have zz2 := zz.2
  have zw1 := zw.1
  have zw2 := zw.2
  refine zEv.body (I := (8, xI_X8_step, 3, 5, 135, 0, 0, false)) (rt := (some .long)) [some (za (A 0)), some (zi z), some (zi w_)] rfl rfl rfl rfl ?_
  refine Zn.eq rfl rfl rfl hh ?_
  have hD : zND (LM A m r) := hD
  refine Zn.seg (pc2 := 1) (ls2 := [some (za (A 0)), some (zi z), some (zi w_)]) (st2 := [zi z]) [(0, .iload_n 1)] (by decide +kernel) rfl ?_
  refine Zn.ifc (c := .lt) (off := 15) 16 (by decide +kernel) rfl ⟨by omega, by omega⟩ (fun c_1 => absurd (show z < 0 from c_1) (by omega)) (fun c_1 => ?_)
  have c_1 : ¬ (z < 0) := c_1
  refine Zn.seg (pc2 := 5) (ls2 := [some (za (A 0)), some (zi z), some (zi w_)]) (st2 := [zi w_]) [(4, .iload_n 2)] (by decide +kernel) rfl ?_
  refine Zn.i2l (by decide +kernel) ⟨by omega, by omega⟩ ?_
  refine Zn.seg (pc2 := 10) (ls2 := [some (za (A 0)), some (zi z), some (zi w_)]) (st2 := [zj 4, zj 0, zj w_]) [(6, .lconst 0), (7, .ldc2_w 324)] (by decide +kernel) rfl ?_
  refine Zn.call (ins := .invokestatic 77) [zj w_, zj 0, zj 4] [] (by decide +kernel) rfl rfl rfl ⟨rfl, rfl⟩ ⟨rfl, rfl, rfl⟩ rfl (zrecvS (by decide)) (sp_X8_in (x := w_) (lo := 0) (hi := 4) (⟨by omega, by omega⟩) (⟨by decide, by decide⟩) (⟨by decide, by decide⟩)) (fun v h2 hp => ?_)
  obtain ⟨rfl, hq_2⟩ := hp
  refine Zn.eq (pc2 := 13) (ls2 := [some (za (A 0)), some (zi z), some (zi w_)]) (st2 := [zi (inB 0 4 w_)]) (h2 := zov (LM A m r) h) rfl rfl rfl hq_2 ?_
  have hD : zND (LM A m r) := hD
  have q_3 := inB_spec 0 4 w_
  refine Zn.ifc (c := .ne) (off := 7) 20 (by decide +kernel) rfl ⟨by omega, by omega⟩ (fun c_4 => absurd (show inB 0 4 w_ ≠ 0 from c_4) (by omega)) (fun c_4 => ?_)
  have c_4 : ¬ (inB 0 4 w_ ≠ 0) := c_4
  refine Zn.seg (pc2 := 19) (ls2 := [some (za (A 0)), some (zi z), some (zi w_)]) (st2 := [zj (-1)]) [(16, .ldc2_w 223)] (by decide +kernel) rfl ?_
  exact Zn.lret (by decide +kernel) rfl (⟨by first | rfl | (refine congrArg some (congrArg zj ?_); first | omega | (simp_all; done) | (simp_all; omega)), hh.symm⟩)
theorem sp_X8_step_none1 {h : xH} {A : Nat → Nat} {m : Nat → Int} {r : Nat → Nat → Int} {z : Nat} {w_ : Int} (hL : ∀ q ∈ LM A m r, h q.1 = zcE q.2) (hD : zND (LM A m r)) (hzi : z ≤ 2147483647) (hw : 0 ≤ w_ ∧ w_ ≤ 4) (hR : ROK (r 1)) (hpo : mk (mpoleB (r 1)) ≠ 0) : zEv k_X8_step [za (A 0), zi (z : Int), zi w_] h (fun v h2 => v = some (zj (-4)) ∧ h2 = h) := by
  have hh : h = zov (LM A m r) h := zov_self hL
  refine zEv.body (I := (8, xI_X8_step, 3, 5, 135, 0, 0, false)) (rt := (some .long)) [some (za (A 0)), some (zi (z : Int)), some (zi w_)] rfl rfl rfl rfl ?_
  refine Zn.eq rfl rfl rfl hh ?_
  have hD : zND (LM A m r) := hD
  refine Zn.seg (pc2 := 1) (ls2 := [some (za (A 0)), some (zi (z : Int)), some (zi w_)]) (st2 := [zi (z : Int)]) [(0, .iload_n 1)] (by decide +kernel) rfl ?_
  refine Zn.ifc (c := .lt) (off := 15) 16 (by decide +kernel) rfl ⟨by omega, by omega⟩ (fun c_1 => absurd (show (z : Int) < 0 from c_1) (by omega)) (fun c_1 => ?_)
  have c_1 : ¬ ((z : Int) < 0) := c_1
  refine Zn.seg (pc2 := 5) (ls2 := [some (za (A 0)), some (zi (z : Int)), some (zi w_)]) (st2 := [zi w_]) [(4, .iload_n 2)] (by decide +kernel) rfl ?_
  refine Zn.i2l (by decide +kernel) ⟨by omega, by omega⟩ ?_
  refine Zn.seg (pc2 := 10) (ls2 := [some (za (A 0)), some (zi (z : Int)), some (zi w_)]) (st2 := [zj 4, zj 0, zj w_]) [(6, .lconst 0), (7, .ldc2_w 324)] (by decide +kernel) rfl ?_
  refine Zn.call (ins := .invokestatic 77) [zj w_, zj 0, zj 4] [] (by decide +kernel) rfl rfl rfl ⟨rfl, rfl⟩ ⟨rfl, rfl, rfl⟩ rfl (zrecvS (by decide)) (sp_X8_in (x := w_) (lo := 0) (hi := 4) (⟨by omega, by omega⟩) (⟨by decide, by decide⟩) (⟨by decide, by decide⟩)) (fun v h2 hp => ?_)
  obtain ⟨rfl, hq_2⟩ := hp
  refine Zn.eq (pc2 := 13) (ls2 := [some (za (A 0)), some (zi (z : Int)), some (zi w_)]) (st2 := [zi (inB 0 4 w_)]) (h2 := zov (LM A m r) h) rfl rfl rfl hq_2 ?_
  have hD : zND (LM A m r) := hD
  have q_3 := inB_spec 0 4 w_
  refine Zn.ifc (c := .ne) (off := 7) 20 (by decide +kernel) rfl ⟨by omega, by omega⟩ (fun c_4 => ?_) (fun c_4 => absurd (show inB 0 4 w_ ≠ 0 from by omega) c_4)
  have c_4 : inB 0 4 w_ ≠ 0 := c_4
  refine Zn.seg (pc2 := 21) (ls2 := [some (za (A 0)), some (zi (z : Int)), some (zi w_)]) (st2 := [za (A 0)]) [(20, .aload_n 0)] (by decide +kernel) rfl ?_
  refine Zn.call (ins := .invokevirtual 118) [za (A 0)] [] (by decide +kernel) rfl rfl rfl ⟨rfl, rfl⟩ ⟨rfl, rfl, rfl⟩ rfl (zrecvV hD (p := 0) rfl rfl rfl) (sp_X8_poles (A := A) (m := m) (r := r) (zov_all hD) hD (hR.1) (ROK_qz hR)) (fun v h2 hp => ?_)
  obtain ⟨rfl, hq_5⟩ := hp
  refine Zn.eq (pc2 := 24) (ls2 := [some (za (A 0)), some (zi (z : Int)), some (zi w_)]) (st2 := [zi (mk (mpoleB (r 1)) : Int)]) (h2 := zov (LM A m r) h) rfl rfl rfl hq_5 ?_
  have hD : zND (LM A m r) := hD
  have hmk_ := mk_lt (mpoleB (r 1))
  refine Zn.ifc (c := .ne) (off := 18) 42 (by decide +kernel) rfl ⟨by omega, by omega⟩ (fun c_6 => ?_) (fun c_6 => absurd (show (mk (mpoleB (r 1)) : Int) ≠ 0 from by omega) c_6)
  have c_6 : (mk (mpoleB (r 1)) : Int) ≠ 0 := c_6
  refine Zn.seg (pc2 := 45) (ls2 := [some (za (A 0)), some (zi (z : Int)), some (zi w_)]) (st2 := [zj (-4)]) [(42, .ldc2_w 311)] (by decide +kernel) rfl ?_
  exact Zn.lret (by decide +kernel) rfl (⟨by first | rfl | (refine congrArg some (congrArg zj ?_); first | omega | (simp_all; done) | (simp_all; omega)), hh.symm⟩)
theorem sp_X8_step_none2 {h : xH} {A : Nat → Nat} {m : Nat → Int} {r : Nat → Nat → Int} {z d : Nat} {w_ : Int} (hL : ∀ q ∈ LM A m r, h q.1 = zcE q.2) (hD : zND (LM A m r)) (hzi : z ≤ 2147483647) (hw : 0 ≤ w_ ∧ w_ ≤ 4) (hR : ROK (r 1)) (hd : r 1 0 = (d : Int)) (hd3 : d ≤ 3) (hpo : mk (mpoleB (r 1)) = 0) (hmn : manyN (r 1) 0 13 < d + 2) : zEv k_X8_step [za (A 0), zi (z : Int), zi w_] h (fun v h2 => v = some (zj (-4)) ∧ h2 = h) := by
  have hh : h = zov (LM A m r) h := zov_self hL
  refine zEv.body (I := (8, xI_X8_step, 3, 5, 135, 0, 0, false)) (rt := (some .long)) [some (za (A 0)), some (zi (z : Int)), some (zi w_)] rfl rfl rfl rfl ?_
  refine Zn.eq rfl rfl rfl hh ?_
  have hD : zND (LM A m r) := hD
  refine Zn.seg (pc2 := 1) (ls2 := [some (za (A 0)), some (zi (z : Int)), some (zi w_)]) (st2 := [zi (z : Int)]) [(0, .iload_n 1)] (by decide +kernel) rfl ?_
  refine Zn.ifc (c := .lt) (off := 15) 16 (by decide +kernel) rfl ⟨by omega, by omega⟩ (fun c_1 => absurd (show (z : Int) < 0 from c_1) (by omega)) (fun c_1 => ?_)
  have c_1 : ¬ ((z : Int) < 0) := c_1
  refine Zn.seg (pc2 := 5) (ls2 := [some (za (A 0)), some (zi (z : Int)), some (zi w_)]) (st2 := [zi w_]) [(4, .iload_n 2)] (by decide +kernel) rfl ?_
  refine Zn.i2l (by decide +kernel) ⟨by omega, by omega⟩ ?_
  refine Zn.seg (pc2 := 10) (ls2 := [some (za (A 0)), some (zi (z : Int)), some (zi w_)]) (st2 := [zj 4, zj 0, zj w_]) [(6, .lconst 0), (7, .ldc2_w 324)] (by decide +kernel) rfl ?_
  refine Zn.call (ins := .invokestatic 77) [zj w_, zj 0, zj 4] [] (by decide +kernel) rfl rfl rfl ⟨rfl, rfl⟩ ⟨rfl, rfl, rfl⟩ rfl (zrecvS (by decide)) (sp_X8_in (x := w_) (lo := 0) (hi := 4) (⟨by omega, by omega⟩) (⟨by decide, by decide⟩) (⟨by decide, by decide⟩)) (fun v h2 hp => ?_)
  obtain ⟨rfl, hq_2⟩ := hp
  refine Zn.eq (pc2 := 13) (ls2 := [some (za (A 0)), some (zi (z : Int)), some (zi w_)]) (st2 := [zi (inB 0 4 w_)]) (h2 := zov (LM A m r) h) rfl rfl rfl hq_2 ?_
  have hD : zND (LM A m r) := hD
  have q_3 := inB_spec 0 4 w_
  refine Zn.ifc (c := .ne) (off := 7) 20 (by decide +kernel) rfl ⟨by omega, by omega⟩ (fun c_4 => ?_) (fun c_4 => absurd (show inB 0 4 w_ ≠ 0 from by omega) c_4)
  have c_4 : inB 0 4 w_ ≠ 0 := c_4
  refine Zn.seg (pc2 := 21) (ls2 := [some (za (A 0)), some (zi (z : Int)), some (zi w_)]) (st2 := [za (A 0)]) [(20, .aload_n 0)] (by decide +kernel) rfl ?_
  refine Zn.call (ins := .invokevirtual 118) [za (A 0)] [] (by decide +kernel) rfl rfl rfl ⟨rfl, rfl⟩ ⟨rfl, rfl, rfl⟩ rfl (zrecvV hD (p := 0) rfl rfl rfl) (sp_X8_poles (A := A) (m := m) (r := r) (zov_all hD) hD (hR.1) (ROK_qz hR)) (fun v h2 hp => ?_)
  obtain ⟨rfl, hq_5⟩ := hp
  refine Zn.eq (pc2 := 24) (ls2 := [some (za (A 0)), some (zi (z : Int)), some (zi w_)]) (st2 := [zi (mk (mpoleB (r 1)) : Int)]) (h2 := zov (LM A m r) h) rfl rfl rfl hq_5 ?_
  have hD : zND (LM A m r) := hD
  have hmk_ := mk_lt (mpoleB (r 1))
  refine Zn.ifc (c := .ne) (off := 18) 42 (by decide +kernel) rfl ⟨by omega, by omega⟩ (fun c_6 => absurd (show (mk (mpoleB (r 1)) : Int) ≠ 0 from c_6) (by omega)) (fun c_6 => ?_)
  have c_6 : ¬ ((mk (mpoleB (r 1)) : Int) ≠ 0) := c_6
  refine Zn.seg (pc2 := 28) (ls2 := [some (za (A 0)), some (zi (z : Int)), some (zi w_)]) (st2 := [za (A 0)]) [(27, .aload_n 0)] (by decide +kernel) rfl ?_
  refine Zn.call (ins := .invokevirtual 122) [za (A 0)] [] (by decide +kernel) rfl rfl rfl ⟨rfl, rfl⟩ ⟨rfl, rfl, rfl⟩ rfl (zrecvV hD (p := 0) rfl rfl rfl) (sp_X8_isFew (A := A) (m := m) (r := r) (zov_all hD) hD (hR.1) (hR.2.1)) (fun v h2 hp => ?_)
  obtain ⟨rfl, hq_7⟩ := hp
  refine Zn.eq (pc2 := 31) (ls2 := [some (za (A 0)), some (zi (z : Int)), some (zi w_)]) (st2 := [zi (ltB (manyN (r 1) 0 13 : Int) (r 1 0 + 2))]) (h2 := zov (LM A m r) h) rfl rfl rfl hq_7 ?_
  have hD : zND (LM A m r) := hD
  have q_8 := ltB_spec (manyN (r 1) 0 13 : Int) (r 1 0 + 2)
  refine Zn.ifc (c := .ne) (off := 11) 42 (by decide +kernel) rfl ⟨by omega, by omega⟩ (fun c_9 => ?_) (fun c_9 => absurd (show ltB (manyN (r 1) 0 13 : Int) (r 1 0 + 2) ≠ 0 from by omega) c_9)
  have c_9 : ltB (manyN (r 1) 0 13 : Int) (r 1 0 + 2) ≠ 0 := c_9
  refine Zn.seg (pc2 := 45) (ls2 := [some (za (A 0)), some (zi (z : Int)), some (zi w_)]) (st2 := [zj (-4)]) [(42, .ldc2_w 311)] (by decide +kernel) rfl ?_
  exact Zn.lret (by decide +kernel) rfl (⟨by first | rfl | (refine congrArg some (congrArg zj ?_); first | omega | (simp_all; done) | (simp_all; omega)), hh.symm⟩)
theorem sp_X8_step_miss {h : xH} {A : Nat → Nat} {m : Nat → Int} {r : Nat → Nat → Int} {z d N : Nat} {w_ : Int} (hL : ∀ q ∈ LM A m r, h q.1 = zcE q.2) (hD : zND (LM A m r)) (hzi : z ≤ 2147483647) (hw : 0 ≤ w_ ∧ w_ ≤ 4) (hR : ROK (r 1)) (hd : r 1 0 = (d : Int)) (hd3 : d ≤ 3) (hnp : ∀ p : Nat, p < 13 → 0 < r 1 (p + 18) → qv (fun j => r 1 (j + 1)) ((p : Int) - 6) ≠ 0) (hS : ∀ t, t < 8192 → refP (r 1) t → SOK (r 1) d t) (hsq : ∀ i, i < N → sq (r 1) d i < 8192 ∧ refP (r 1) (sq (r 1) d i)) (hon : ∀ i, i < N → (0 < onC (r 1) d (sq (r 1) d i) ↔ i + 1 < N)) (hfr : ∃ p, p < 13 ∧ r 1 (p + 18) = 1) (hgo : ∀ i, i + 1 < N → 0 ≤ goO (r 1) d (sq (r 1) d i) ∧ goO (r 1) d (sq (r 1) d i) < 13) (hN : N ≤ 100) (hpo : mk (mpoleB (r 1)) = 0) (hmn : d + 2 ≤ manyN (r 1) 0 13) (hN0 : 0 < N) (hz : N ≤ z) : zEv k_X8_step [za (A 0), zi (z : Int), zi w_] h (fun v h2 => ∃ c1 : Int, ∃ c2 : Int, ∃ c3 : Int, ∃ c4 : Int, ∃ c5 : Int, ∃ c6 : Int, ∃ c7 : Int, ∃ x1 : Nat → Int, ∃ x2 : Nat → Int, ∃ x3 : Nat → Int, ∃ x4 : Nat → Int, ∃ x5 : Nat → Int, ∃ c9 : Int, ∃ c10 : Int, ∃ c11 : Int, ∃ c12 : Int, v = some (zj (-4)) ∧ h2 = zov (LM A (va_up (va_up (va_up (va_up (va_up (va_up (va_up (va_up (va_up (va_up (va_up (va_up (va_up m 19 c1) 20 c2) 21 c3) 24 c4) 25 c5) 26 c6) 27 c7) 31 (sq (r 1) d (N - 1) : Int)) 32 c9) 33 c10) 34 c11) 35 c12) 36 (N : Int)) (va_up (va_up (va_up (va_up (va_up r 11 x1) 12 x2) 13 x3) 14 x4) 15 x5)) h) := by
  have hh : h = zov (LM A m r) h := zov_self hL
  refine zEv.body (I := (8, xI_X8_step, 3, 5, 135, 0, 0, false)) (rt := (some .long)) [some (za (A 0)), some (zi (z : Int)), some (zi w_)] rfl rfl rfl rfl ?_
  refine Zn.eq rfl rfl rfl hh ?_
  have hD : zND (LM A m r) := hD
  refine Zn.seg (pc2 := 1) (ls2 := [some (za (A 0)), some (zi (z : Int)), some (zi w_)]) (st2 := [zi (z : Int)]) [(0, .iload_n 1)] (by decide +kernel) rfl ?_
  refine Zn.ifc (c := .lt) (off := 15) 16 (by decide +kernel) rfl ⟨by omega, by omega⟩ (fun c_1 => absurd (show (z : Int) < 0 from c_1) (by omega)) (fun c_1 => ?_)
  have c_1 : ¬ ((z : Int) < 0) := c_1
  refine Zn.seg (pc2 := 5) (ls2 := [some (za (A 0)), some (zi (z : Int)), some (zi w_)]) (st2 := [zi w_]) [(4, .iload_n 2)] (by decide +kernel) rfl ?_
  refine Zn.i2l (by decide +kernel) ⟨by omega, by omega⟩ ?_
  refine Zn.seg (pc2 := 10) (ls2 := [some (za (A 0)), some (zi (z : Int)), some (zi w_)]) (st2 := [zj 4, zj 0, zj w_]) [(6, .lconst 0), (7, .ldc2_w 324)] (by decide +kernel) rfl ?_
  refine Zn.call (ins := .invokestatic 77) [zj w_, zj 0, zj 4] [] (by decide +kernel) rfl rfl rfl ⟨rfl, rfl⟩ ⟨rfl, rfl, rfl⟩ rfl (zrecvS (by decide)) (sp_X8_in (x := w_) (lo := 0) (hi := 4) (⟨by omega, by omega⟩) (⟨by decide, by decide⟩) (⟨by decide, by decide⟩)) (fun v h2 hp => ?_)
  obtain ⟨rfl, hq_2⟩ := hp
  refine Zn.eq (pc2 := 13) (ls2 := [some (za (A 0)), some (zi (z : Int)), some (zi w_)]) (st2 := [zi (inB 0 4 w_)]) (h2 := zov (LM A m r) h) rfl rfl rfl hq_2 ?_
  have hD : zND (LM A m r) := hD
  have q_3 := inB_spec 0 4 w_
  refine Zn.ifc (c := .ne) (off := 7) 20 (by decide +kernel) rfl ⟨by omega, by omega⟩ (fun c_4 => ?_) (fun c_4 => absurd (show inB 0 4 w_ ≠ 0 from by omega) c_4)
  have c_4 : inB 0 4 w_ ≠ 0 := c_4
  refine Zn.seg (pc2 := 21) (ls2 := [some (za (A 0)), some (zi (z : Int)), some (zi w_)]) (st2 := [za (A 0)]) [(20, .aload_n 0)] (by decide +kernel) rfl ?_
  refine Zn.call (ins := .invokevirtual 118) [za (A 0)] [] (by decide +kernel) rfl rfl rfl ⟨rfl, rfl⟩ ⟨rfl, rfl, rfl⟩ rfl (zrecvV hD (p := 0) rfl rfl rfl) (sp_X8_poles (A := A) (m := m) (r := r) (zov_all hD) hD (hR.1) (ROK_qz hR)) (fun v h2 hp => ?_)
  obtain ⟨rfl, hq_5⟩ := hp
  refine Zn.eq (pc2 := 24) (ls2 := [some (za (A 0)), some (zi (z : Int)), some (zi w_)]) (st2 := [zi (mk (mpoleB (r 1)) : Int)]) (h2 := zov (LM A m r) h) rfl rfl rfl hq_5 ?_
  have hD : zND (LM A m r) := hD
  have hmk_ := mk_lt (mpoleB (r 1))
  refine Zn.ifc (c := .ne) (off := 18) 42 (by decide +kernel) rfl ⟨by omega, by omega⟩ (fun c_6 => absurd (show (mk (mpoleB (r 1)) : Int) ≠ 0 from c_6) (by omega)) (fun c_6 => ?_)
  have c_6 : ¬ ((mk (mpoleB (r 1)) : Int) ≠ 0) := c_6
  refine Zn.seg (pc2 := 28) (ls2 := [some (za (A 0)), some (zi (z : Int)), some (zi w_)]) (st2 := [za (A 0)]) [(27, .aload_n 0)] (by decide +kernel) rfl ?_
  refine Zn.call (ins := .invokevirtual 122) [za (A 0)] [] (by decide +kernel) rfl rfl rfl ⟨rfl, rfl⟩ ⟨rfl, rfl, rfl⟩ rfl (zrecvV hD (p := 0) rfl rfl rfl) (sp_X8_isFew (A := A) (m := m) (r := r) (zov_all hD) hD (hR.1) (hR.2.1)) (fun v h2 hp => ?_)
  obtain ⟨rfl, hq_7⟩ := hp
  refine Zn.eq (pc2 := 31) (ls2 := [some (za (A 0)), some (zi (z : Int)), some (zi w_)]) (st2 := [zi (ltB (manyN (r 1) 0 13 : Int) (r 1 0 + 2))]) (h2 := zov (LM A m r) h) rfl rfl rfl hq_7 ?_
  have hD : zND (LM A m r) := hD
  have q_8 := ltB_spec (manyN (r 1) 0 13 : Int) (r 1 0 + 2)
  refine Zn.ifc (c := .ne) (off := 11) 42 (by decide +kernel) rfl ⟨by omega, by omega⟩ (fun c_9 => absurd (show ltB (manyN (r 1) 0 13 : Int) (r 1 0 + 2) ≠ 0 from c_9) (by omega)) (fun c_9 => ?_)
  have c_9 : ¬ (ltB (manyN (r 1) 0 13 : Int) (r 1 0 + 2) ≠ 0) := c_9
  refine Zn.seg (pc2 := 36) (ls2 := [some (za (A 0)), some (zi (z : Int)), some (zi w_)]) (st2 := [zi (z : Int), za (A 0)]) [(34, .aload_n 0), (35, .iload_n 1)] (by decide +kernel) rfl ?_
  refine Zn.call (ins := .invokevirtual 313) [za (A 0), zi (z : Int)] [] (by decide +kernel) rfl rfl rfl ⟨rfl, rfl⟩ ⟨rfl, rfl, rfl⟩ rfl (zrecvV hD (p := 0) rfl rfl rfl) (sp_X8_steps_miss (A := A) (m := m) (r := r) (d := d) (N := N) (z := z) (zov_all hD) hD (hR) (hd) (hd3) (hnp) (hS) (hsq) (hon) (hfr) (hgo) (hN) (⟨hz, hzi⟩) (hN0)) (fun v h2 hp => ?_)
  obtain ⟨c1, c2, c3, c4, c5, c6, c7, x1, x2, x3, x4, x5, c9, c10, c11, c12, rfl, hq_10⟩ := hp
  refine Zn.eq (pc2 := 39) (ls2 := [some (za (A 0)), some (zi (z : Int)), some (zi w_)]) (st2 := [zi 0]) (h2 := zov (LM A (va_up (va_up (va_up (va_up (va_up (va_up (va_up (va_up (va_up (va_up (va_up (va_up (va_up m 19 c1) 20 c2) 21 c3) 24 c4) 25 c5) 26 c6) 27 c7) 31 (sq (r 1) d (N - 1) : Int)) 32 c9) 33 c10) 34 c11) 35 c12) 36 (N : Int)) (va_up (va_up (va_up (va_up (va_up r 11 x1) 12 x2) 13 x3) 14 x4) 15 x5)) h) rfl rfl rfl (hq_10.trans (LM_over _ _ _ _ _ _)) ?_
  have hD : zND (LM A (va_up (va_up (va_up (va_up (va_up (va_up (va_up (va_up (va_up (va_up (va_up (va_up (va_up m 19 c1) 20 c2) 21 c3) 24 c4) 25 c5) 26 c6) 27 c7) 31 (sq (r 1) d (N - 1) : Int)) 32 c9) 33 c10) 34 c11) 35 c12) 36 (N : Int)) (va_up (va_up (va_up (va_up (va_up r 11 x1) 12 x2) 13 x3) 14 x4) 15 x5)) := hD
  refine Zn.ifc (c := .ne) (off := 7) 46 (by decide +kernel) rfl ⟨by decide, by decide⟩ (fun c_11 => absurd (show (0 : Int) ≠ 0 from c_11) (by decide)) (fun c_11 => ?_)
  have c_11 : ¬ ((0 : Int) ≠ 0) := c_11
  refine Zn.seg (pc2 := 45) (ls2 := [some (za (A 0)), some (zi (z : Int)), some (zi w_)]) (st2 := [zj (-4)]) [(42, .ldc2_w 311)] (by decide +kernel) rfl ?_
  exact Zn.lret (by decide +kernel) rfl (⟨c1, c2, c3, c4, c5, c6, c7, x1, x2, x3, x4, x5, c9, c10, c11, c12, rfl, rfl⟩)
theorem sp_X8_step_h0 {h : xH} {A : Nat → Nat} {m : Nat → Int} {r : Nat → Nat → Int} {z d N : Nat} (hL : ∀ q ∈ LM A m r, h q.1 = zcE q.2) (hD : zND (LM A m r)) (hzi : z ≤ 2147483647) (hR : ROK (r 1)) (hd : r 1 0 = (d : Int)) (hd3 : d ≤ 3) (hnp : ∀ p : Nat, p < 13 → 0 < r 1 (p + 18) → qv (fun j => r 1 (j + 1)) ((p : Int) - 6) ≠ 0) (hS : ∀ t, t < 8192 → refP (r 1) t → SOK (r 1) d t) (hsq : ∀ i, i < N → sq (r 1) d i < 8192 ∧ refP (r 1) (sq (r 1) d i)) (hon : ∀ i, i < N → (0 < onC (r 1) d (sq (r 1) d i) ↔ i + 1 < N)) (hfr : ∃ p, p < 13 ∧ r 1 (p + 18) = 1) (hgo : ∀ i, i + 1 < N → 0 ≤ goO (r 1) d (sq (r 1) d i) ∧ goO (r 1) d (sq (r 1) d i) < 13) (hN : N ≤ 100) (hpo : mk (mpoleB (r 1)) = 0) (hmn : d + 2 ≤ manyN (r 1) 0 13) (hz : z < N) : zEv k_X8_step [za (A 0), zi (z : Int), zi 0] h (fun v h2 => ∃ c1 : Int, ∃ c2 : Int, ∃ c3 : Int, ∃ c4 : Int, ∃ c5 : Int, ∃ c6 : Int, ∃ c7 : Int, ∃ x1 : Nat → Int, ∃ x2 : Nat → Int, ∃ x3 : Nat → Int, ∃ x4 : Nat → Int, ∃ x5 : Nat → Int, v = some (zj (sq (r 1) d z : Int)) ∧ h2 = zov (LM A (va_up (va_up (va_up (va_up (va_up (va_up (va_up (va_up (va_up (va_up (va_up (va_up (va_up m 19 c1) 20 c2) 21 c3) 24 c4) 25 c5) 26 c6) 27 c7) 31 (sq (r 1) d z : Int)) 32 (stI (r 1) d z N)) 33 (stO (r 1) d z N)) 34 ((aOf (r 1) (sq (r 1) d z)).natAbs : Int)) 35 (bOf (r 1) (sq (r 1) d z))) 36 ((z : Int) + 1)) (va_up (va_up (va_up (va_up (va_up r 11 x1) 12 x2) 13 x3) 14 x4) 15 x5)) h) := by
  have hh : h = zov (LM A m r) h := zov_self hL
  have hsl := hsq z hz
  have hib := stI_b (r 1) d z N
  have hob := stO_b (r 1) d z N
  refine zEv.body (I := (8, xI_X8_step, 3, 5, 135, 0, 0, false)) (rt := (some .long)) [some (za (A 0)), some (zi (z : Int)), some (zi 0)] rfl rfl rfl rfl ?_
  refine Zn.eq rfl rfl rfl hh ?_
  have hD : zND (LM A m r) := hD
  refine Zn.seg (pc2 := 1) (ls2 := [some (za (A 0)), some (zi (z : Int)), some (zi 0)]) (st2 := [zi (z : Int)]) [(0, .iload_n 1)] (by decide +kernel) rfl ?_
  refine Zn.ifc (c := .lt) (off := 15) 16 (by decide +kernel) rfl ⟨by omega, by omega⟩ (fun c_1 => absurd (show (z : Int) < 0 from c_1) (by omega)) (fun c_1 => ?_)
  have c_1 : ¬ ((z : Int) < 0) := c_1
  refine Zn.seg (pc2 := 5) (ls2 := [some (za (A 0)), some (zi (z : Int)), some (zi 0)]) (st2 := [zi 0]) [(4, .iload_n 2)] (by decide +kernel) rfl ?_
  refine Zn.i2l (by decide +kernel) ⟨by decide, by decide⟩ ?_
  refine Zn.seg (pc2 := 10) (ls2 := [some (za (A 0)), some (zi (z : Int)), some (zi 0)]) (st2 := [zj 4, zj 0, zj 0]) [(6, .lconst 0), (7, .ldc2_w 324)] (by decide +kernel) rfl ?_
  refine Zn.call (ins := .invokestatic 77) [zj 0, zj 0, zj 4] [] (by decide +kernel) rfl rfl rfl ⟨rfl, rfl⟩ ⟨rfl, rfl, rfl⟩ rfl (zrecvS (by decide)) (sp_X8_in (x := 0) (lo := 0) (hi := 4) (⟨by omega, by omega⟩) (⟨by decide, by decide⟩) (⟨by decide, by decide⟩)) (fun v h2 hp => ?_)
  obtain ⟨rfl, hq_2⟩ := hp
  refine Zn.eq (pc2 := 13) (ls2 := [some (za (A 0)), some (zi (z : Int)), some (zi 0)]) (st2 := [zi (inB 0 4 0)]) (h2 := zov (LM A m r) h) rfl rfl rfl hq_2 ?_
  have hD : zND (LM A m r) := hD
  have q_3 := inB_spec 0 4 0
  refine Zn.ifc (c := .ne) (off := 7) 20 (by decide +kernel) rfl ⟨by omega, by omega⟩ (fun c_4 => ?_) (fun c_4 => absurd (show inB 0 4 0 ≠ 0 from by omega) c_4)
  have c_4 : inB 0 4 0 ≠ 0 := c_4
  refine Zn.seg (pc2 := 21) (ls2 := [some (za (A 0)), some (zi (z : Int)), some (zi 0)]) (st2 := [za (A 0)]) [(20, .aload_n 0)] (by decide +kernel) rfl ?_
  refine Zn.call (ins := .invokevirtual 118) [za (A 0)] [] (by decide +kernel) rfl rfl rfl ⟨rfl, rfl⟩ ⟨rfl, rfl, rfl⟩ rfl (zrecvV hD (p := 0) rfl rfl rfl) (sp_X8_poles (A := A) (m := m) (r := r) (zov_all hD) hD (hR.1) (ROK_qz hR)) (fun v h2 hp => ?_)
  obtain ⟨rfl, hq_5⟩ := hp
  refine Zn.eq (pc2 := 24) (ls2 := [some (za (A 0)), some (zi (z : Int)), some (zi 0)]) (st2 := [zi (mk (mpoleB (r 1)) : Int)]) (h2 := zov (LM A m r) h) rfl rfl rfl hq_5 ?_
  have hD : zND (LM A m r) := hD
  have hmk_ := mk_lt (mpoleB (r 1))
  refine Zn.ifc (c := .ne) (off := 18) 42 (by decide +kernel) rfl ⟨by omega, by omega⟩ (fun c_6 => absurd (show (mk (mpoleB (r 1)) : Int) ≠ 0 from c_6) (by omega)) (fun c_6 => ?_)
  have c_6 : ¬ ((mk (mpoleB (r 1)) : Int) ≠ 0) := c_6
  refine Zn.seg (pc2 := 28) (ls2 := [some (za (A 0)), some (zi (z : Int)), some (zi 0)]) (st2 := [za (A 0)]) [(27, .aload_n 0)] (by decide +kernel) rfl ?_
  refine Zn.call (ins := .invokevirtual 122) [za (A 0)] [] (by decide +kernel) rfl rfl rfl ⟨rfl, rfl⟩ ⟨rfl, rfl, rfl⟩ rfl (zrecvV hD (p := 0) rfl rfl rfl) (sp_X8_isFew (A := A) (m := m) (r := r) (zov_all hD) hD (hR.1) (hR.2.1)) (fun v h2 hp => ?_)
  obtain ⟨rfl, hq_7⟩ := hp
  refine Zn.eq (pc2 := 31) (ls2 := [some (za (A 0)), some (zi (z : Int)), some (zi 0)]) (st2 := [zi (ltB (manyN (r 1) 0 13 : Int) (r 1 0 + 2))]) (h2 := zov (LM A m r) h) rfl rfl rfl hq_7 ?_
  have hD : zND (LM A m r) := hD
  have q_8 := ltB_spec (manyN (r 1) 0 13 : Int) (r 1 0 + 2)
  refine Zn.ifc (c := .ne) (off := 11) 42 (by decide +kernel) rfl ⟨by omega, by omega⟩ (fun c_9 => absurd (show ltB (manyN (r 1) 0 13 : Int) (r 1 0 + 2) ≠ 0 from c_9) (by omega)) (fun c_9 => ?_)
  have c_9 : ¬ (ltB (manyN (r 1) 0 13 : Int) (r 1 0 + 2) ≠ 0) := c_9
  refine Zn.seg (pc2 := 36) (ls2 := [some (za (A 0)), some (zi (z : Int)), some (zi 0)]) (st2 := [zi (z : Int), za (A 0)]) [(34, .aload_n 0), (35, .iload_n 1)] (by decide +kernel) rfl ?_
  refine Zn.call (ins := .invokevirtual 313) [za (A 0), zi (z : Int)] [] (by decide +kernel) rfl rfl rfl ⟨rfl, rfl⟩ ⟨rfl, rfl, rfl⟩ rfl (zrecvV hD (p := 0) rfl rfl rfl) (sp_X8_steps_hit (A := A) (m := m) (r := r) (d := d) (N := N) (z := z) (zov_all hD) hD (hR) (hd) (hd3) (hnp) (hS) (hsq) (hon) (hfr) (hgo) (hN) (hz)) (fun v h2 hp => ?_)
  obtain ⟨c1, c2, c3, c4, c5, c6, c7, x1, x2, x3, x4, x5, rfl, hq_10⟩ := hp
  refine Zn.eq (pc2 := 39) (ls2 := [some (za (A 0)), some (zi (z : Int)), some (zi 0)]) (st2 := [zi 1]) (h2 := zov (LM A (va_up (va_up (va_up (va_up (va_up (va_up (va_up (va_up (va_up (va_up (va_up (va_up (va_up m 19 c1) 20 c2) 21 c3) 24 c4) 25 c5) 26 c6) 27 c7) 31 (sq (r 1) d z : Int)) 32 (stI (r 1) d z N)) 33 (stO (r 1) d z N)) 34 ((aOf (r 1) (sq (r 1) d z)).natAbs : Int)) 35 (bOf (r 1) (sq (r 1) d z))) 36 ((z : Int) + 1)) (va_up (va_up (va_up (va_up (va_up r 11 x1) 12 x2) 13 x3) 14 x4) 15 x5)) h) rfl rfl rfl (hq_10.trans (LM_over _ _ _ _ _ _)) ?_
  have hD : zND (LM A (va_up (va_up (va_up (va_up (va_up (va_up (va_up (va_up (va_up (va_up (va_up (va_up (va_up m 19 c1) 20 c2) 21 c3) 24 c4) 25 c5) 26 c6) 27 c7) 31 (sq (r 1) d z : Int)) 32 (stI (r 1) d z N)) 33 (stO (r 1) d z N)) 34 ((aOf (r 1) (sq (r 1) d z)).natAbs : Int)) 35 (bOf (r 1) (sq (r 1) d z))) 36 ((z : Int) + 1)) (va_up (va_up (va_up (va_up (va_up r 11 x1) 12 x2) 13 x3) 14 x4) 15 x5)) := hD
  refine Zn.ifc (c := .ne) (off := 7) 46 (by decide +kernel) rfl ⟨by decide, by decide⟩ (fun c_11 => ?_) (fun c_11 => absurd (show (1 : Int) ≠ 0 from by decide) c_11)
  have c_11 : (1 : Int) ≠ 0 := c_11
  refine Zn.seg (pc2 := 47) (ls2 := [some (za (A 0)), some (zi (z : Int)), some (zi 0)]) (st2 := [zi 0]) [(46, .iload_n 2)] (by decide +kernel) rfl ?_
  refine Zn.ifc (c := .ne) (off := 11) 58 (by decide +kernel) rfl ⟨by decide, by decide⟩ (fun c_12 => absurd (show (0 : Int) ≠ 0 from c_12) (by decide)) (fun c_12 => ?_)
  have c_12 : ¬ ((0 : Int) ≠ 0) := c_12
  refine Zn.seg (pc2 := 51) (ls2 := [some (za (A 0)), some (zi (z : Int)), some (zi 0)]) (st2 := [za (A 0)]) [(50, .aload_n 0)] (by decide +kernel) rfl ?_
  refine Zn.get (ix := 280) hD 0 (by decide +kernel) rfl rfl rfl ?_
  refine Zn.eq (st2 := [zi (sq (r 1) d z : Int)]) rfl rfl rfl rfl ?_
  refine Zn.i2l (by decide +kernel) ⟨by omega, by omega⟩ ?_
  refine Zn.seg (pc2 := 100) (ls2 := [some (za (A 0)), some (zi (z : Int)), some (zi 0)]) (st2 := [zj (sq (r 1) d z : Int)]) [(55, .goto 45)] (by decide +kernel) rfl ?_
  exact Zn.lret (by decide +kernel) rfl (⟨c1, c2, c3, c4, c5, c6, c7, x1, x2, x3, x4, x5, rfl, rfl⟩)
theorem sp_X8_step_h1 {h : xH} {A : Nat → Nat} {m : Nat → Int} {r : Nat → Nat → Int} {z d N : Nat} (hL : ∀ q ∈ LM A m r, h q.1 = zcE q.2) (hD : zND (LM A m r)) (hzi : z ≤ 2147483647) (hR : ROK (r 1)) (hd : r 1 0 = (d : Int)) (hd3 : d ≤ 3) (hnp : ∀ p : Nat, p < 13 → 0 < r 1 (p + 18) → qv (fun j => r 1 (j + 1)) ((p : Int) - 6) ≠ 0) (hS : ∀ t, t < 8192 → refP (r 1) t → SOK (r 1) d t) (hsq : ∀ i, i < N → sq (r 1) d i < 8192 ∧ refP (r 1) (sq (r 1) d i)) (hon : ∀ i, i < N → (0 < onC (r 1) d (sq (r 1) d i) ↔ i + 1 < N)) (hfr : ∃ p, p < 13 ∧ r 1 (p + 18) = 1) (hgo : ∀ i, i + 1 < N → 0 ≤ goO (r 1) d (sq (r 1) d i) ∧ goO (r 1) d (sq (r 1) d i) < 13) (hN : N ≤ 100) (hpo : mk (mpoleB (r 1)) = 0) (hmn : d + 2 ≤ manyN (r 1) 0 13) (hz : z < N) : zEv k_X8_step [za (A 0), zi (z : Int), zi 1] h (fun v h2 => ∃ c1 : Int, ∃ c2 : Int, ∃ c3 : Int, ∃ c4 : Int, ∃ c5 : Int, ∃ c6 : Int, ∃ c7 : Int, ∃ x1 : Nat → Int, ∃ x2 : Nat → Int, ∃ x3 : Nat → Int, ∃ x4 : Nat → Int, ∃ x5 : Nat → Int, v = some (zj ((aOf (r 1) (sq (r 1) d z)).natAbs : Int)) ∧ h2 = zov (LM A (va_up (va_up (va_up (va_up (va_up (va_up (va_up (va_up (va_up (va_up (va_up (va_up (va_up m 19 c1) 20 c2) 21 c3) 24 c4) 25 c5) 26 c6) 27 c7) 31 (sq (r 1) d z : Int)) 32 (stI (r 1) d z N)) 33 (stO (r 1) d z N)) 34 ((aOf (r 1) (sq (r 1) d z)).natAbs : Int)) 35 (bOf (r 1) (sq (r 1) d z))) 36 ((z : Int) + 1)) (va_up (va_up (va_up (va_up (va_up r 11 x1) 12 x2) 13 x3) 14 x4) 15 x5)) h) := by
  have hh : h = zov (LM A m r) h := zov_self hL
  have hsl := hsq z hz
  have hib := stI_b (r 1) d z N
  have hob := stO_b (r 1) d z N
  refine zEv.body (I := (8, xI_X8_step, 3, 5, 135, 0, 0, false)) (rt := (some .long)) [some (za (A 0)), some (zi (z : Int)), some (zi 1)] rfl rfl rfl rfl ?_
  refine Zn.eq rfl rfl rfl hh ?_
  have hD : zND (LM A m r) := hD
  refine Zn.seg (pc2 := 1) (ls2 := [some (za (A 0)), some (zi (z : Int)), some (zi 1)]) (st2 := [zi (z : Int)]) [(0, .iload_n 1)] (by decide +kernel) rfl ?_
  refine Zn.ifc (c := .lt) (off := 15) 16 (by decide +kernel) rfl ⟨by omega, by omega⟩ (fun c_1 => absurd (show (z : Int) < 0 from c_1) (by omega)) (fun c_1 => ?_)
  have c_1 : ¬ ((z : Int) < 0) := c_1
  refine Zn.seg (pc2 := 5) (ls2 := [some (za (A 0)), some (zi (z : Int)), some (zi 1)]) (st2 := [zi 1]) [(4, .iload_n 2)] (by decide +kernel) rfl ?_
  refine Zn.i2l (by decide +kernel) ⟨by decide, by decide⟩ ?_
  refine Zn.seg (pc2 := 10) (ls2 := [some (za (A 0)), some (zi (z : Int)), some (zi 1)]) (st2 := [zj 4, zj 0, zj 1]) [(6, .lconst 0), (7, .ldc2_w 324)] (by decide +kernel) rfl ?_
  refine Zn.call (ins := .invokestatic 77) [zj 1, zj 0, zj 4] [] (by decide +kernel) rfl rfl rfl ⟨rfl, rfl⟩ ⟨rfl, rfl, rfl⟩ rfl (zrecvS (by decide)) (sp_X8_in (x := 1) (lo := 0) (hi := 4) (⟨by omega, by omega⟩) (⟨by decide, by decide⟩) (⟨by decide, by decide⟩)) (fun v h2 hp => ?_)
  obtain ⟨rfl, hq_2⟩ := hp
  refine Zn.eq (pc2 := 13) (ls2 := [some (za (A 0)), some (zi (z : Int)), some (zi 1)]) (st2 := [zi (inB 0 4 1)]) (h2 := zov (LM A m r) h) rfl rfl rfl hq_2 ?_
  have hD : zND (LM A m r) := hD
  have q_3 := inB_spec 0 4 1
  refine Zn.ifc (c := .ne) (off := 7) 20 (by decide +kernel) rfl ⟨by omega, by omega⟩ (fun c_4 => ?_) (fun c_4 => absurd (show inB 0 4 1 ≠ 0 from by omega) c_4)
  have c_4 : inB 0 4 1 ≠ 0 := c_4
  refine Zn.seg (pc2 := 21) (ls2 := [some (za (A 0)), some (zi (z : Int)), some (zi 1)]) (st2 := [za (A 0)]) [(20, .aload_n 0)] (by decide +kernel) rfl ?_
  refine Zn.call (ins := .invokevirtual 118) [za (A 0)] [] (by decide +kernel) rfl rfl rfl ⟨rfl, rfl⟩ ⟨rfl, rfl, rfl⟩ rfl (zrecvV hD (p := 0) rfl rfl rfl) (sp_X8_poles (A := A) (m := m) (r := r) (zov_all hD) hD (hR.1) (ROK_qz hR)) (fun v h2 hp => ?_)
  obtain ⟨rfl, hq_5⟩ := hp
  refine Zn.eq (pc2 := 24) (ls2 := [some (za (A 0)), some (zi (z : Int)), some (zi 1)]) (st2 := [zi (mk (mpoleB (r 1)) : Int)]) (h2 := zov (LM A m r) h) rfl rfl rfl hq_5 ?_
  have hD : zND (LM A m r) := hD
  have hmk_ := mk_lt (mpoleB (r 1))
  refine Zn.ifc (c := .ne) (off := 18) 42 (by decide +kernel) rfl ⟨by omega, by omega⟩ (fun c_6 => absurd (show (mk (mpoleB (r 1)) : Int) ≠ 0 from c_6) (by omega)) (fun c_6 => ?_)
  have c_6 : ¬ ((mk (mpoleB (r 1)) : Int) ≠ 0) := c_6
  refine Zn.seg (pc2 := 28) (ls2 := [some (za (A 0)), some (zi (z : Int)), some (zi 1)]) (st2 := [za (A 0)]) [(27, .aload_n 0)] (by decide +kernel) rfl ?_
  refine Zn.call (ins := .invokevirtual 122) [za (A 0)] [] (by decide +kernel) rfl rfl rfl ⟨rfl, rfl⟩ ⟨rfl, rfl, rfl⟩ rfl (zrecvV hD (p := 0) rfl rfl rfl) (sp_X8_isFew (A := A) (m := m) (r := r) (zov_all hD) hD (hR.1) (hR.2.1)) (fun v h2 hp => ?_)
  obtain ⟨rfl, hq_7⟩ := hp
  refine Zn.eq (pc2 := 31) (ls2 := [some (za (A 0)), some (zi (z : Int)), some (zi 1)]) (st2 := [zi (ltB (manyN (r 1) 0 13 : Int) (r 1 0 + 2))]) (h2 := zov (LM A m r) h) rfl rfl rfl hq_7 ?_
  have hD : zND (LM A m r) := hD
  have q_8 := ltB_spec (manyN (r 1) 0 13 : Int) (r 1 0 + 2)
  refine Zn.ifc (c := .ne) (off := 11) 42 (by decide +kernel) rfl ⟨by omega, by omega⟩ (fun c_9 => absurd (show ltB (manyN (r 1) 0 13 : Int) (r 1 0 + 2) ≠ 0 from c_9) (by omega)) (fun c_9 => ?_)
  have c_9 : ¬ (ltB (manyN (r 1) 0 13 : Int) (r 1 0 + 2) ≠ 0) := c_9
  refine Zn.seg (pc2 := 36) (ls2 := [some (za (A 0)), some (zi (z : Int)), some (zi 1)]) (st2 := [zi (z : Int), za (A 0)]) [(34, .aload_n 0), (35, .iload_n 1)] (by decide +kernel) rfl ?_
  refine Zn.call (ins := .invokevirtual 313) [za (A 0), zi (z : Int)] [] (by decide +kernel) rfl rfl rfl ⟨rfl, rfl⟩ ⟨rfl, rfl, rfl⟩ rfl (zrecvV hD (p := 0) rfl rfl rfl) (sp_X8_steps_hit (A := A) (m := m) (r := r) (d := d) (N := N) (z := z) (zov_all hD) hD (hR) (hd) (hd3) (hnp) (hS) (hsq) (hon) (hfr) (hgo) (hN) (hz)) (fun v h2 hp => ?_)
  obtain ⟨c1, c2, c3, c4, c5, c6, c7, x1, x2, x3, x4, x5, rfl, hq_10⟩ := hp
  refine Zn.eq (pc2 := 39) (ls2 := [some (za (A 0)), some (zi (z : Int)), some (zi 1)]) (st2 := [zi 1]) (h2 := zov (LM A (va_up (va_up (va_up (va_up (va_up (va_up (va_up (va_up (va_up (va_up (va_up (va_up (va_up m 19 c1) 20 c2) 21 c3) 24 c4) 25 c5) 26 c6) 27 c7) 31 (sq (r 1) d z : Int)) 32 (stI (r 1) d z N)) 33 (stO (r 1) d z N)) 34 ((aOf (r 1) (sq (r 1) d z)).natAbs : Int)) 35 (bOf (r 1) (sq (r 1) d z))) 36 ((z : Int) + 1)) (va_up (va_up (va_up (va_up (va_up r 11 x1) 12 x2) 13 x3) 14 x4) 15 x5)) h) rfl rfl rfl (hq_10.trans (LM_over _ _ _ _ _ _)) ?_
  have hD : zND (LM A (va_up (va_up (va_up (va_up (va_up (va_up (va_up (va_up (va_up (va_up (va_up (va_up (va_up m 19 c1) 20 c2) 21 c3) 24 c4) 25 c5) 26 c6) 27 c7) 31 (sq (r 1) d z : Int)) 32 (stI (r 1) d z N)) 33 (stO (r 1) d z N)) 34 ((aOf (r 1) (sq (r 1) d z)).natAbs : Int)) 35 (bOf (r 1) (sq (r 1) d z))) 36 ((z : Int) + 1)) (va_up (va_up (va_up (va_up (va_up r 11 x1) 12 x2) 13 x3) 14 x4) 15 x5)) := hD
  refine Zn.ifc (c := .ne) (off := 7) 46 (by decide +kernel) rfl ⟨by decide, by decide⟩ (fun c_11 => ?_) (fun c_11 => absurd (show (1 : Int) ≠ 0 from by decide) c_11)
  have c_11 : (1 : Int) ≠ 0 := c_11
  refine Zn.seg (pc2 := 47) (ls2 := [some (za (A 0)), some (zi (z : Int)), some (zi 1)]) (st2 := [zi 1]) [(46, .iload_n 2)] (by decide +kernel) rfl ?_
  refine Zn.ifc (c := .ne) (off := 11) 58 (by decide +kernel) rfl ⟨by decide, by decide⟩ (fun c_12 => ?_) (fun c_12 => absurd (show (1 : Int) ≠ 0 from by decide) c_12)
  have c_12 : (1 : Int) ≠ 0 := c_12
  refine Zn.seg (pc2 := 60) (ls2 := [some (za (A 0)), some (zi (z : Int)), some (zi 1)]) (st2 := [zi 1, zi 1]) [(58, .iload_n 2), (59, .iconst 1)] (by decide +kernel) rfl ?_
  refine Zn.icmp (c := .ne) (off := 10) 70 (by decide +kernel) rfl ⟨by decide, by decide⟩ ⟨by decide, by decide⟩ (fun c_13 => absurd (show (1 : Int) ≠ 1 from c_13) (by decide)) (fun c_13 => ?_)
  have c_13 : ¬ ((1 : Int) ≠ 1) := c_13
  refine Zn.seg (pc2 := 64) (ls2 := [some (za (A 0)), some (zi (z : Int)), some (zi 1)]) (st2 := [za (A 0)]) [(63, .aload_n 0)] (by decide +kernel) rfl ?_
  refine Zn.get (ix := 283) hD 0 (by decide +kernel) rfl rfl rfl ?_
  refine Zn.eq (st2 := [zj ((aOf (r 1) (sq (r 1) d z)).natAbs : Int)]) rfl rfl rfl rfl ?_
  refine Zn.seg (pc2 := 100) (ls2 := [some (za (A 0)), some (zi (z : Int)), some (zi 1)]) (st2 := [zj ((aOf (r 1) (sq (r 1) d z)).natAbs : Int)]) [(67, .goto 33)] (by decide +kernel) rfl ?_
  exact Zn.lret (by decide +kernel) rfl (⟨c1, c2, c3, c4, c5, c6, c7, x1, x2, x3, x4, x5, rfl, rfl⟩)
theorem sp_X8_step_h2 {h : xH} {A : Nat → Nat} {m : Nat → Int} {r : Nat → Nat → Int} {z d N : Nat} (hL : ∀ q ∈ LM A m r, h q.1 = zcE q.2) (hD : zND (LM A m r)) (hzi : z ≤ 2147483647) (hR : ROK (r 1)) (hd : r 1 0 = (d : Int)) (hd3 : d ≤ 3) (hnp : ∀ p : Nat, p < 13 → 0 < r 1 (p + 18) → qv (fun j => r 1 (j + 1)) ((p : Int) - 6) ≠ 0) (hS : ∀ t, t < 8192 → refP (r 1) t → SOK (r 1) d t) (hsq : ∀ i, i < N → sq (r 1) d i < 8192 ∧ refP (r 1) (sq (r 1) d i)) (hon : ∀ i, i < N → (0 < onC (r 1) d (sq (r 1) d i) ↔ i + 1 < N)) (hfr : ∃ p, p < 13 ∧ r 1 (p + 18) = 1) (hgo : ∀ i, i + 1 < N → 0 ≤ goO (r 1) d (sq (r 1) d i) ∧ goO (r 1) d (sq (r 1) d i) < 13) (hN : N ≤ 100) (hpo : mk (mpoleB (r 1)) = 0) (hmn : d + 2 ≤ manyN (r 1) 0 13) (hz : z < N) : zEv k_X8_step [za (A 0), zi (z : Int), zi 2] h (fun v h2 => ∃ c1 : Int, ∃ c2 : Int, ∃ c3 : Int, ∃ c4 : Int, ∃ c5 : Int, ∃ c6 : Int, ∃ c7 : Int, ∃ x1 : Nat → Int, ∃ x2 : Nat → Int, ∃ x3 : Nat → Int, ∃ x4 : Nat → Int, ∃ x5 : Nat → Int, v = some (zj (bOf (r 1) (sq (r 1) d z))) ∧ h2 = zov (LM A (va_up (va_up (va_up (va_up (va_up (va_up (va_up (va_up (va_up (va_up (va_up (va_up (va_up m 19 c1) 20 c2) 21 c3) 24 c4) 25 c5) 26 c6) 27 c7) 31 (sq (r 1) d z : Int)) 32 (stI (r 1) d z N)) 33 (stO (r 1) d z N)) 34 ((aOf (r 1) (sq (r 1) d z)).natAbs : Int)) 35 (bOf (r 1) (sq (r 1) d z))) 36 ((z : Int) + 1)) (va_up (va_up (va_up (va_up (va_up r 11 x1) 12 x2) 13 x3) 14 x4) 15 x5)) h) := by
  have hh : h = zov (LM A m r) h := zov_self hL
  have hsl := hsq z hz
  have hib := stI_b (r 1) d z N
  have hob := stO_b (r 1) d z N
  refine zEv.body (I := (8, xI_X8_step, 3, 5, 135, 0, 0, false)) (rt := (some .long)) [some (za (A 0)), some (zi (z : Int)), some (zi 2)] rfl rfl rfl rfl ?_
  refine Zn.eq rfl rfl rfl hh ?_
  have hD : zND (LM A m r) := hD
  refine Zn.seg (pc2 := 1) (ls2 := [some (za (A 0)), some (zi (z : Int)), some (zi 2)]) (st2 := [zi (z : Int)]) [(0, .iload_n 1)] (by decide +kernel) rfl ?_
  refine Zn.ifc (c := .lt) (off := 15) 16 (by decide +kernel) rfl ⟨by omega, by omega⟩ (fun c_1 => absurd (show (z : Int) < 0 from c_1) (by omega)) (fun c_1 => ?_)
  have c_1 : ¬ ((z : Int) < 0) := c_1
  refine Zn.seg (pc2 := 5) (ls2 := [some (za (A 0)), some (zi (z : Int)), some (zi 2)]) (st2 := [zi 2]) [(4, .iload_n 2)] (by decide +kernel) rfl ?_
  refine Zn.i2l (by decide +kernel) ⟨by decide, by decide⟩ ?_
  refine Zn.seg (pc2 := 10) (ls2 := [some (za (A 0)), some (zi (z : Int)), some (zi 2)]) (st2 := [zj 4, zj 0, zj 2]) [(6, .lconst 0), (7, .ldc2_w 324)] (by decide +kernel) rfl ?_
  refine Zn.call (ins := .invokestatic 77) [zj 2, zj 0, zj 4] [] (by decide +kernel) rfl rfl rfl ⟨rfl, rfl⟩ ⟨rfl, rfl, rfl⟩ rfl (zrecvS (by decide)) (sp_X8_in (x := 2) (lo := 0) (hi := 4) (⟨by omega, by omega⟩) (⟨by decide, by decide⟩) (⟨by decide, by decide⟩)) (fun v h2 hp => ?_)
  obtain ⟨rfl, hq_2⟩ := hp
  refine Zn.eq (pc2 := 13) (ls2 := [some (za (A 0)), some (zi (z : Int)), some (zi 2)]) (st2 := [zi (inB 0 4 2)]) (h2 := zov (LM A m r) h) rfl rfl rfl hq_2 ?_
  have hD : zND (LM A m r) := hD
  have q_3 := inB_spec 0 4 2
  refine Zn.ifc (c := .ne) (off := 7) 20 (by decide +kernel) rfl ⟨by omega, by omega⟩ (fun c_4 => ?_) (fun c_4 => absurd (show inB 0 4 2 ≠ 0 from by omega) c_4)
  have c_4 : inB 0 4 2 ≠ 0 := c_4
  refine Zn.seg (pc2 := 21) (ls2 := [some (za (A 0)), some (zi (z : Int)), some (zi 2)]) (st2 := [za (A 0)]) [(20, .aload_n 0)] (by decide +kernel) rfl ?_
  refine Zn.call (ins := .invokevirtual 118) [za (A 0)] [] (by decide +kernel) rfl rfl rfl ⟨rfl, rfl⟩ ⟨rfl, rfl, rfl⟩ rfl (zrecvV hD (p := 0) rfl rfl rfl) (sp_X8_poles (A := A) (m := m) (r := r) (zov_all hD) hD (hR.1) (ROK_qz hR)) (fun v h2 hp => ?_)
  obtain ⟨rfl, hq_5⟩ := hp
  refine Zn.eq (pc2 := 24) (ls2 := [some (za (A 0)), some (zi (z : Int)), some (zi 2)]) (st2 := [zi (mk (mpoleB (r 1)) : Int)]) (h2 := zov (LM A m r) h) rfl rfl rfl hq_5 ?_
  have hD : zND (LM A m r) := hD
  have hmk_ := mk_lt (mpoleB (r 1))
  refine Zn.ifc (c := .ne) (off := 18) 42 (by decide +kernel) rfl ⟨by omega, by omega⟩ (fun c_6 => absurd (show (mk (mpoleB (r 1)) : Int) ≠ 0 from c_6) (by omega)) (fun c_6 => ?_)
  have c_6 : ¬ ((mk (mpoleB (r 1)) : Int) ≠ 0) := c_6
  refine Zn.seg (pc2 := 28) (ls2 := [some (za (A 0)), some (zi (z : Int)), some (zi 2)]) (st2 := [za (A 0)]) [(27, .aload_n 0)] (by decide +kernel) rfl ?_
  refine Zn.call (ins := .invokevirtual 122) [za (A 0)] [] (by decide +kernel) rfl rfl rfl ⟨rfl, rfl⟩ ⟨rfl, rfl, rfl⟩ rfl (zrecvV hD (p := 0) rfl rfl rfl) (sp_X8_isFew (A := A) (m := m) (r := r) (zov_all hD) hD (hR.1) (hR.2.1)) (fun v h2 hp => ?_)
  obtain ⟨rfl, hq_7⟩ := hp
  refine Zn.eq (pc2 := 31) (ls2 := [some (za (A 0)), some (zi (z : Int)), some (zi 2)]) (st2 := [zi (ltB (manyN (r 1) 0 13 : Int) (r 1 0 + 2))]) (h2 := zov (LM A m r) h) rfl rfl rfl hq_7 ?_
  have hD : zND (LM A m r) := hD
  have q_8 := ltB_spec (manyN (r 1) 0 13 : Int) (r 1 0 + 2)
  refine Zn.ifc (c := .ne) (off := 11) 42 (by decide +kernel) rfl ⟨by omega, by omega⟩ (fun c_9 => absurd (show ltB (manyN (r 1) 0 13 : Int) (r 1 0 + 2) ≠ 0 from c_9) (by omega)) (fun c_9 => ?_)
  have c_9 : ¬ (ltB (manyN (r 1) 0 13 : Int) (r 1 0 + 2) ≠ 0) := c_9
  refine Zn.seg (pc2 := 36) (ls2 := [some (za (A 0)), some (zi (z : Int)), some (zi 2)]) (st2 := [zi (z : Int), za (A 0)]) [(34, .aload_n 0), (35, .iload_n 1)] (by decide +kernel) rfl ?_
  refine Zn.call (ins := .invokevirtual 313) [za (A 0), zi (z : Int)] [] (by decide +kernel) rfl rfl rfl ⟨rfl, rfl⟩ ⟨rfl, rfl, rfl⟩ rfl (zrecvV hD (p := 0) rfl rfl rfl) (sp_X8_steps_hit (A := A) (m := m) (r := r) (d := d) (N := N) (z := z) (zov_all hD) hD (hR) (hd) (hd3) (hnp) (hS) (hsq) (hon) (hfr) (hgo) (hN) (hz)) (fun v h2 hp => ?_)
  obtain ⟨c1, c2, c3, c4, c5, c6, c7, x1, x2, x3, x4, x5, rfl, hq_10⟩ := hp
  refine Zn.eq (pc2 := 39) (ls2 := [some (za (A 0)), some (zi (z : Int)), some (zi 2)]) (st2 := [zi 1]) (h2 := zov (LM A (va_up (va_up (va_up (va_up (va_up (va_up (va_up (va_up (va_up (va_up (va_up (va_up (va_up m 19 c1) 20 c2) 21 c3) 24 c4) 25 c5) 26 c6) 27 c7) 31 (sq (r 1) d z : Int)) 32 (stI (r 1) d z N)) 33 (stO (r 1) d z N)) 34 ((aOf (r 1) (sq (r 1) d z)).natAbs : Int)) 35 (bOf (r 1) (sq (r 1) d z))) 36 ((z : Int) + 1)) (va_up (va_up (va_up (va_up (va_up r 11 x1) 12 x2) 13 x3) 14 x4) 15 x5)) h) rfl rfl rfl (hq_10.trans (LM_over _ _ _ _ _ _)) ?_
  have hD : zND (LM A (va_up (va_up (va_up (va_up (va_up (va_up (va_up (va_up (va_up (va_up (va_up (va_up (va_up m 19 c1) 20 c2) 21 c3) 24 c4) 25 c5) 26 c6) 27 c7) 31 (sq (r 1) d z : Int)) 32 (stI (r 1) d z N)) 33 (stO (r 1) d z N)) 34 ((aOf (r 1) (sq (r 1) d z)).natAbs : Int)) 35 (bOf (r 1) (sq (r 1) d z))) 36 ((z : Int) + 1)) (va_up (va_up (va_up (va_up (va_up r 11 x1) 12 x2) 13 x3) 14 x4) 15 x5)) := hD
  refine Zn.ifc (c := .ne) (off := 7) 46 (by decide +kernel) rfl ⟨by decide, by decide⟩ (fun c_11 => ?_) (fun c_11 => absurd (show (1 : Int) ≠ 0 from by decide) c_11)
  have c_11 : (1 : Int) ≠ 0 := c_11
  refine Zn.seg (pc2 := 47) (ls2 := [some (za (A 0)), some (zi (z : Int)), some (zi 2)]) (st2 := [zi 2]) [(46, .iload_n 2)] (by decide +kernel) rfl ?_
  refine Zn.ifc (c := .ne) (off := 11) 58 (by decide +kernel) rfl ⟨by decide, by decide⟩ (fun c_12 => ?_) (fun c_12 => absurd (show (2 : Int) ≠ 0 from by decide) c_12)
  have c_12 : (2 : Int) ≠ 0 := c_12
  refine Zn.seg (pc2 := 60) (ls2 := [some (za (A 0)), some (zi (z : Int)), some (zi 2)]) (st2 := [zi 1, zi 2]) [(58, .iload_n 2), (59, .iconst 1)] (by decide +kernel) rfl ?_
  refine Zn.icmp (c := .ne) (off := 10) 70 (by decide +kernel) rfl ⟨by decide, by decide⟩ ⟨by decide, by decide⟩ (fun c_13 => ?_) (fun c_13 => absurd (show (2 : Int) ≠ 1 from by decide) c_13)
  have c_13 : (2 : Int) ≠ 1 := c_13
  refine Zn.seg (pc2 := 72) (ls2 := [some (za (A 0)), some (zi (z : Int)), some (zi 2)]) (st2 := [zi 2, zi 2]) [(70, .iload_n 2), (71, .iconst 2)] (by decide +kernel) rfl ?_
  refine Zn.icmp (c := .ne) (off := 10) 82 (by decide +kernel) rfl ⟨by decide, by decide⟩ ⟨by decide, by decide⟩ (fun c_14 => absurd (show (2 : Int) ≠ 2 from c_14) (by decide)) (fun c_14 => ?_)
  have c_14 : ¬ ((2 : Int) ≠ 2) := c_14
  refine Zn.seg (pc2 := 76) (ls2 := [some (za (A 0)), some (zi (z : Int)), some (zi 2)]) (st2 := [za (A 0)]) [(75, .aload_n 0)] (by decide +kernel) rfl ?_
  refine Zn.get (ix := 286) hD 0 (by decide +kernel) rfl rfl rfl ?_
  refine Zn.eq (st2 := [zj (bOf (r 1) (sq (r 1) d z))]) rfl rfl rfl rfl ?_
  refine Zn.seg (pc2 := 100) (ls2 := [some (za (A 0)), some (zi (z : Int)), some (zi 2)]) (st2 := [zj (bOf (r 1) (sq (r 1) d z))]) [(79, .goto 21)] (by decide +kernel) rfl ?_
  exact Zn.lret (by decide +kernel) rfl (⟨c1, c2, c3, c4, c5, c6, c7, x1, x2, x3, x4, x5, rfl, rfl⟩)
theorem sp_X8_step_h3 {h : xH} {A : Nat → Nat} {m : Nat → Int} {r : Nat → Nat → Int} {z d N : Nat} (hL : ∀ q ∈ LM A m r, h q.1 = zcE q.2) (hD : zND (LM A m r)) (hzi : z ≤ 2147483647) (hR : ROK (r 1)) (hd : r 1 0 = (d : Int)) (hd3 : d ≤ 3) (hnp : ∀ p : Nat, p < 13 → 0 < r 1 (p + 18) → qv (fun j => r 1 (j + 1)) ((p : Int) - 6) ≠ 0) (hS : ∀ t, t < 8192 → refP (r 1) t → SOK (r 1) d t) (hsq : ∀ i, i < N → sq (r 1) d i < 8192 ∧ refP (r 1) (sq (r 1) d i)) (hon : ∀ i, i < N → (0 < onC (r 1) d (sq (r 1) d i) ↔ i + 1 < N)) (hfr : ∃ p, p < 13 ∧ r 1 (p + 18) = 1) (hgo : ∀ i, i + 1 < N → 0 ≤ goO (r 1) d (sq (r 1) d i) ∧ goO (r 1) d (sq (r 1) d i) < 13) (hN : N ≤ 100) (hpo : mk (mpoleB (r 1)) = 0) (hmn : d + 2 ≤ manyN (r 1) 0 13) (hz : z < N) : zEv k_X8_step [za (A 0), zi (z : Int), zi 3] h (fun v h2 => ∃ c1 : Int, ∃ c2 : Int, ∃ c3 : Int, ∃ c4 : Int, ∃ c5 : Int, ∃ c6 : Int, ∃ c7 : Int, ∃ x1 : Nat → Int, ∃ x2 : Nat → Int, ∃ x3 : Nat → Int, ∃ x4 : Nat → Int, ∃ x5 : Nat → Int, v = some (zj (stI (r 1) d z N)) ∧ h2 = zov (LM A (va_up (va_up (va_up (va_up (va_up (va_up (va_up (va_up (va_up (va_up (va_up (va_up (va_up m 19 c1) 20 c2) 21 c3) 24 c4) 25 c5) 26 c6) 27 c7) 31 (sq (r 1) d z : Int)) 32 (stI (r 1) d z N)) 33 (stO (r 1) d z N)) 34 ((aOf (r 1) (sq (r 1) d z)).natAbs : Int)) 35 (bOf (r 1) (sq (r 1) d z))) 36 ((z : Int) + 1)) (va_up (va_up (va_up (va_up (va_up r 11 x1) 12 x2) 13 x3) 14 x4) 15 x5)) h) := by
  have hh : h = zov (LM A m r) h := zov_self hL
  have hsl := hsq z hz
  have hib := stI_b (r 1) d z N
  have hob := stO_b (r 1) d z N
  refine zEv.body (I := (8, xI_X8_step, 3, 5, 135, 0, 0, false)) (rt := (some .long)) [some (za (A 0)), some (zi (z : Int)), some (zi 3)] rfl rfl rfl rfl ?_
  refine Zn.eq rfl rfl rfl hh ?_
  have hD : zND (LM A m r) := hD
  refine Zn.seg (pc2 := 1) (ls2 := [some (za (A 0)), some (zi (z : Int)), some (zi 3)]) (st2 := [zi (z : Int)]) [(0, .iload_n 1)] (by decide +kernel) rfl ?_
  refine Zn.ifc (c := .lt) (off := 15) 16 (by decide +kernel) rfl ⟨by omega, by omega⟩ (fun c_1 => absurd (show (z : Int) < 0 from c_1) (by omega)) (fun c_1 => ?_)
  have c_1 : ¬ ((z : Int) < 0) := c_1
  refine Zn.seg (pc2 := 5) (ls2 := [some (za (A 0)), some (zi (z : Int)), some (zi 3)]) (st2 := [zi 3]) [(4, .iload_n 2)] (by decide +kernel) rfl ?_
  refine Zn.i2l (by decide +kernel) ⟨by decide, by decide⟩ ?_
  refine Zn.seg (pc2 := 10) (ls2 := [some (za (A 0)), some (zi (z : Int)), some (zi 3)]) (st2 := [zj 4, zj 0, zj 3]) [(6, .lconst 0), (7, .ldc2_w 324)] (by decide +kernel) rfl ?_
  refine Zn.call (ins := .invokestatic 77) [zj 3, zj 0, zj 4] [] (by decide +kernel) rfl rfl rfl ⟨rfl, rfl⟩ ⟨rfl, rfl, rfl⟩ rfl (zrecvS (by decide)) (sp_X8_in (x := 3) (lo := 0) (hi := 4) (⟨by omega, by omega⟩) (⟨by decide, by decide⟩) (⟨by decide, by decide⟩)) (fun v h2 hp => ?_)
  obtain ⟨rfl, hq_2⟩ := hp
  refine Zn.eq (pc2 := 13) (ls2 := [some (za (A 0)), some (zi (z : Int)), some (zi 3)]) (st2 := [zi (inB 0 4 3)]) (h2 := zov (LM A m r) h) rfl rfl rfl hq_2 ?_
  have hD : zND (LM A m r) := hD
  have q_3 := inB_spec 0 4 3
  refine Zn.ifc (c := .ne) (off := 7) 20 (by decide +kernel) rfl ⟨by omega, by omega⟩ (fun c_4 => ?_) (fun c_4 => absurd (show inB 0 4 3 ≠ 0 from by omega) c_4)
  have c_4 : inB 0 4 3 ≠ 0 := c_4
  refine Zn.seg (pc2 := 21) (ls2 := [some (za (A 0)), some (zi (z : Int)), some (zi 3)]) (st2 := [za (A 0)]) [(20, .aload_n 0)] (by decide +kernel) rfl ?_
  refine Zn.call (ins := .invokevirtual 118) [za (A 0)] [] (by decide +kernel) rfl rfl rfl ⟨rfl, rfl⟩ ⟨rfl, rfl, rfl⟩ rfl (zrecvV hD (p := 0) rfl rfl rfl) (sp_X8_poles (A := A) (m := m) (r := r) (zov_all hD) hD (hR.1) (ROK_qz hR)) (fun v h2 hp => ?_)
  obtain ⟨rfl, hq_5⟩ := hp
  refine Zn.eq (pc2 := 24) (ls2 := [some (za (A 0)), some (zi (z : Int)), some (zi 3)]) (st2 := [zi (mk (mpoleB (r 1)) : Int)]) (h2 := zov (LM A m r) h) rfl rfl rfl hq_5 ?_
  have hD : zND (LM A m r) := hD
  have hmk_ := mk_lt (mpoleB (r 1))
  refine Zn.ifc (c := .ne) (off := 18) 42 (by decide +kernel) rfl ⟨by omega, by omega⟩ (fun c_6 => absurd (show (mk (mpoleB (r 1)) : Int) ≠ 0 from c_6) (by omega)) (fun c_6 => ?_)
  have c_6 : ¬ ((mk (mpoleB (r 1)) : Int) ≠ 0) := c_6
  refine Zn.seg (pc2 := 28) (ls2 := [some (za (A 0)), some (zi (z : Int)), some (zi 3)]) (st2 := [za (A 0)]) [(27, .aload_n 0)] (by decide +kernel) rfl ?_
  refine Zn.call (ins := .invokevirtual 122) [za (A 0)] [] (by decide +kernel) rfl rfl rfl ⟨rfl, rfl⟩ ⟨rfl, rfl, rfl⟩ rfl (zrecvV hD (p := 0) rfl rfl rfl) (sp_X8_isFew (A := A) (m := m) (r := r) (zov_all hD) hD (hR.1) (hR.2.1)) (fun v h2 hp => ?_)
  obtain ⟨rfl, hq_7⟩ := hp
  refine Zn.eq (pc2 := 31) (ls2 := [some (za (A 0)), some (zi (z : Int)), some (zi 3)]) (st2 := [zi (ltB (manyN (r 1) 0 13 : Int) (r 1 0 + 2))]) (h2 := zov (LM A m r) h) rfl rfl rfl hq_7 ?_
  have hD : zND (LM A m r) := hD
  have q_8 := ltB_spec (manyN (r 1) 0 13 : Int) (r 1 0 + 2)
  refine Zn.ifc (c := .ne) (off := 11) 42 (by decide +kernel) rfl ⟨by omega, by omega⟩ (fun c_9 => absurd (show ltB (manyN (r 1) 0 13 : Int) (r 1 0 + 2) ≠ 0 from c_9) (by omega)) (fun c_9 => ?_)
  have c_9 : ¬ (ltB (manyN (r 1) 0 13 : Int) (r 1 0 + 2) ≠ 0) := c_9
  refine Zn.seg (pc2 := 36) (ls2 := [some (za (A 0)), some (zi (z : Int)), some (zi 3)]) (st2 := [zi (z : Int), za (A 0)]) [(34, .aload_n 0), (35, .iload_n 1)] (by decide +kernel) rfl ?_
  refine Zn.call (ins := .invokevirtual 313) [za (A 0), zi (z : Int)] [] (by decide +kernel) rfl rfl rfl ⟨rfl, rfl⟩ ⟨rfl, rfl, rfl⟩ rfl (zrecvV hD (p := 0) rfl rfl rfl) (sp_X8_steps_hit (A := A) (m := m) (r := r) (d := d) (N := N) (z := z) (zov_all hD) hD (hR) (hd) (hd3) (hnp) (hS) (hsq) (hon) (hfr) (hgo) (hN) (hz)) (fun v h2 hp => ?_)
  obtain ⟨c1, c2, c3, c4, c5, c6, c7, x1, x2, x3, x4, x5, rfl, hq_10⟩ := hp
  refine Zn.eq (pc2 := 39) (ls2 := [some (za (A 0)), some (zi (z : Int)), some (zi 3)]) (st2 := [zi 1]) (h2 := zov (LM A (va_up (va_up (va_up (va_up (va_up (va_up (va_up (va_up (va_up (va_up (va_up (va_up (va_up m 19 c1) 20 c2) 21 c3) 24 c4) 25 c5) 26 c6) 27 c7) 31 (sq (r 1) d z : Int)) 32 (stI (r 1) d z N)) 33 (stO (r 1) d z N)) 34 ((aOf (r 1) (sq (r 1) d z)).natAbs : Int)) 35 (bOf (r 1) (sq (r 1) d z))) 36 ((z : Int) + 1)) (va_up (va_up (va_up (va_up (va_up r 11 x1) 12 x2) 13 x3) 14 x4) 15 x5)) h) rfl rfl rfl (hq_10.trans (LM_over _ _ _ _ _ _)) ?_
  have hD : zND (LM A (va_up (va_up (va_up (va_up (va_up (va_up (va_up (va_up (va_up (va_up (va_up (va_up (va_up m 19 c1) 20 c2) 21 c3) 24 c4) 25 c5) 26 c6) 27 c7) 31 (sq (r 1) d z : Int)) 32 (stI (r 1) d z N)) 33 (stO (r 1) d z N)) 34 ((aOf (r 1) (sq (r 1) d z)).natAbs : Int)) 35 (bOf (r 1) (sq (r 1) d z))) 36 ((z : Int) + 1)) (va_up (va_up (va_up (va_up (va_up r 11 x1) 12 x2) 13 x3) 14 x4) 15 x5)) := hD
  refine Zn.ifc (c := .ne) (off := 7) 46 (by decide +kernel) rfl ⟨by decide, by decide⟩ (fun c_11 => ?_) (fun c_11 => absurd (show (1 : Int) ≠ 0 from by decide) c_11)
  have c_11 : (1 : Int) ≠ 0 := c_11
  refine Zn.seg (pc2 := 47) (ls2 := [some (za (A 0)), some (zi (z : Int)), some (zi 3)]) (st2 := [zi 3]) [(46, .iload_n 2)] (by decide +kernel) rfl ?_
  refine Zn.ifc (c := .ne) (off := 11) 58 (by decide +kernel) rfl ⟨by decide, by decide⟩ (fun c_12 => ?_) (fun c_12 => absurd (show (3 : Int) ≠ 0 from by decide) c_12)
  have c_12 : (3 : Int) ≠ 0 := c_12
  refine Zn.seg (pc2 := 60) (ls2 := [some (za (A 0)), some (zi (z : Int)), some (zi 3)]) (st2 := [zi 1, zi 3]) [(58, .iload_n 2), (59, .iconst 1)] (by decide +kernel) rfl ?_
  refine Zn.icmp (c := .ne) (off := 10) 70 (by decide +kernel) rfl ⟨by decide, by decide⟩ ⟨by decide, by decide⟩ (fun c_13 => ?_) (fun c_13 => absurd (show (3 : Int) ≠ 1 from by decide) c_13)
  have c_13 : (3 : Int) ≠ 1 := c_13
  refine Zn.seg (pc2 := 72) (ls2 := [some (za (A 0)), some (zi (z : Int)), some (zi 3)]) (st2 := [zi 2, zi 3]) [(70, .iload_n 2), (71, .iconst 2)] (by decide +kernel) rfl ?_
  refine Zn.icmp (c := .ne) (off := 10) 82 (by decide +kernel) rfl ⟨by decide, by decide⟩ ⟨by decide, by decide⟩ (fun c_14 => ?_) (fun c_14 => absurd (show (3 : Int) ≠ 2 from by decide) c_14)
  have c_14 : (3 : Int) ≠ 2 := c_14
  refine Zn.seg (pc2 := 84) (ls2 := [some (za (A 0)), some (zi (z : Int)), some (zi 3)]) (st2 := [zi 3, zi 3]) [(82, .iload_n 2), (83, .iconst 3)] (by decide +kernel) rfl ?_
  refine Zn.icmp (c := .ne) (off := 11) 95 (by decide +kernel) rfl ⟨by decide, by decide⟩ ⟨by decide, by decide⟩ (fun c_15 => absurd (show (3 : Int) ≠ 3 from c_15) (by decide)) (fun c_15 => ?_)
  have c_15 : ¬ ((3 : Int) ≠ 3) := c_15
  refine Zn.seg (pc2 := 88) (ls2 := [some (za (A 0)), some (zi (z : Int)), some (zi 3)]) (st2 := [za (A 0)]) [(87, .aload_n 0)] (by decide +kernel) rfl ?_
  refine Zn.get (ix := 295) hD 0 (by decide +kernel) rfl rfl rfl ?_
  refine Zn.eq (st2 := [zi (stI (r 1) d z N)]) rfl rfl rfl rfl ?_
  refine Zn.i2l (by decide +kernel) ⟨by omega, by omega⟩ ?_
  refine Zn.seg (pc2 := 100) (ls2 := [some (za (A 0)), some (zi (z : Int)), some (zi 3)]) (st2 := [zj (stI (r 1) d z N)]) [(92, .goto 8)] (by decide +kernel) rfl ?_
  exact Zn.lret (by decide +kernel) rfl (⟨c1, c2, c3, c4, c5, c6, c7, x1, x2, x3, x4, x5, rfl, rfl⟩)
theorem sp_X8_step_h4 {h : xH} {A : Nat → Nat} {m : Nat → Int} {r : Nat → Nat → Int} {z d N : Nat} (hL : ∀ q ∈ LM A m r, h q.1 = zcE q.2) (hD : zND (LM A m r)) (hzi : z ≤ 2147483647) (hR : ROK (r 1)) (hd : r 1 0 = (d : Int)) (hd3 : d ≤ 3) (hnp : ∀ p : Nat, p < 13 → 0 < r 1 (p + 18) → qv (fun j => r 1 (j + 1)) ((p : Int) - 6) ≠ 0) (hS : ∀ t, t < 8192 → refP (r 1) t → SOK (r 1) d t) (hsq : ∀ i, i < N → sq (r 1) d i < 8192 ∧ refP (r 1) (sq (r 1) d i)) (hon : ∀ i, i < N → (0 < onC (r 1) d (sq (r 1) d i) ↔ i + 1 < N)) (hfr : ∃ p, p < 13 ∧ r 1 (p + 18) = 1) (hgo : ∀ i, i + 1 < N → 0 ≤ goO (r 1) d (sq (r 1) d i) ∧ goO (r 1) d (sq (r 1) d i) < 13) (hN : N ≤ 100) (hpo : mk (mpoleB (r 1)) = 0) (hmn : d + 2 ≤ manyN (r 1) 0 13) (hz : z < N) : zEv k_X8_step [za (A 0), zi (z : Int), zi 4] h (fun v h2 => ∃ c1 : Int, ∃ c2 : Int, ∃ c3 : Int, ∃ c4 : Int, ∃ c5 : Int, ∃ c6 : Int, ∃ c7 : Int, ∃ x1 : Nat → Int, ∃ x2 : Nat → Int, ∃ x3 : Nat → Int, ∃ x4 : Nat → Int, ∃ x5 : Nat → Int, v = some (zj (stO (r 1) d z N)) ∧ h2 = zov (LM A (va_up (va_up (va_up (va_up (va_up (va_up (va_up (va_up (va_up (va_up (va_up (va_up (va_up m 19 c1) 20 c2) 21 c3) 24 c4) 25 c5) 26 c6) 27 c7) 31 (sq (r 1) d z : Int)) 32 (stI (r 1) d z N)) 33 (stO (r 1) d z N)) 34 ((aOf (r 1) (sq (r 1) d z)).natAbs : Int)) 35 (bOf (r 1) (sq (r 1) d z))) 36 ((z : Int) + 1)) (va_up (va_up (va_up (va_up (va_up r 11 x1) 12 x2) 13 x3) 14 x4) 15 x5)) h) := by
  have hh : h = zov (LM A m r) h := zov_self hL
  have hsl := hsq z hz
  have hib := stI_b (r 1) d z N
  have hob := stO_b (r 1) d z N
  refine zEv.body (I := (8, xI_X8_step, 3, 5, 135, 0, 0, false)) (rt := (some .long)) [some (za (A 0)), some (zi (z : Int)), some (zi 4)] rfl rfl rfl rfl ?_
  refine Zn.eq rfl rfl rfl hh ?_
  have hD : zND (LM A m r) := hD
  refine Zn.seg (pc2 := 1) (ls2 := [some (za (A 0)), some (zi (z : Int)), some (zi 4)]) (st2 := [zi (z : Int)]) [(0, .iload_n 1)] (by decide +kernel) rfl ?_
  refine Zn.ifc (c := .lt) (off := 15) 16 (by decide +kernel) rfl ⟨by omega, by omega⟩ (fun c_1 => absurd (show (z : Int) < 0 from c_1) (by omega)) (fun c_1 => ?_)
  have c_1 : ¬ ((z : Int) < 0) := c_1
  refine Zn.seg (pc2 := 5) (ls2 := [some (za (A 0)), some (zi (z : Int)), some (zi 4)]) (st2 := [zi 4]) [(4, .iload_n 2)] (by decide +kernel) rfl ?_
  refine Zn.i2l (by decide +kernel) ⟨by decide, by decide⟩ ?_
  refine Zn.seg (pc2 := 10) (ls2 := [some (za (A 0)), some (zi (z : Int)), some (zi 4)]) (st2 := [zj 4, zj 0, zj 4]) [(6, .lconst 0), (7, .ldc2_w 324)] (by decide +kernel) rfl ?_
  refine Zn.call (ins := .invokestatic 77) [zj 4, zj 0, zj 4] [] (by decide +kernel) rfl rfl rfl ⟨rfl, rfl⟩ ⟨rfl, rfl, rfl⟩ rfl (zrecvS (by decide)) (sp_X8_in (x := 4) (lo := 0) (hi := 4) (⟨by omega, by omega⟩) (⟨by decide, by decide⟩) (⟨by decide, by decide⟩)) (fun v h2 hp => ?_)
  obtain ⟨rfl, hq_2⟩ := hp
  refine Zn.eq (pc2 := 13) (ls2 := [some (za (A 0)), some (zi (z : Int)), some (zi 4)]) (st2 := [zi (inB 0 4 4)]) (h2 := zov (LM A m r) h) rfl rfl rfl hq_2 ?_
  have hD : zND (LM A m r) := hD
  have q_3 := inB_spec 0 4 4
  refine Zn.ifc (c := .ne) (off := 7) 20 (by decide +kernel) rfl ⟨by omega, by omega⟩ (fun c_4 => ?_) (fun c_4 => absurd (show inB 0 4 4 ≠ 0 from by omega) c_4)
  have c_4 : inB 0 4 4 ≠ 0 := c_4
  refine Zn.seg (pc2 := 21) (ls2 := [some (za (A 0)), some (zi (z : Int)), some (zi 4)]) (st2 := [za (A 0)]) [(20, .aload_n 0)] (by decide +kernel) rfl ?_
  refine Zn.call (ins := .invokevirtual 118) [za (A 0)] [] (by decide +kernel) rfl rfl rfl ⟨rfl, rfl⟩ ⟨rfl, rfl, rfl⟩ rfl (zrecvV hD (p := 0) rfl rfl rfl) (sp_X8_poles (A := A) (m := m) (r := r) (zov_all hD) hD (hR.1) (ROK_qz hR)) (fun v h2 hp => ?_)
  obtain ⟨rfl, hq_5⟩ := hp
  refine Zn.eq (pc2 := 24) (ls2 := [some (za (A 0)), some (zi (z : Int)), some (zi 4)]) (st2 := [zi (mk (mpoleB (r 1)) : Int)]) (h2 := zov (LM A m r) h) rfl rfl rfl hq_5 ?_
  have hD : zND (LM A m r) := hD
  have hmk_ := mk_lt (mpoleB (r 1))
  refine Zn.ifc (c := .ne) (off := 18) 42 (by decide +kernel) rfl ⟨by omega, by omega⟩ (fun c_6 => absurd (show (mk (mpoleB (r 1)) : Int) ≠ 0 from c_6) (by omega)) (fun c_6 => ?_)
  have c_6 : ¬ ((mk (mpoleB (r 1)) : Int) ≠ 0) := c_6
  refine Zn.seg (pc2 := 28) (ls2 := [some (za (A 0)), some (zi (z : Int)), some (zi 4)]) (st2 := [za (A 0)]) [(27, .aload_n 0)] (by decide +kernel) rfl ?_
  refine Zn.call (ins := .invokevirtual 122) [za (A 0)] [] (by decide +kernel) rfl rfl rfl ⟨rfl, rfl⟩ ⟨rfl, rfl, rfl⟩ rfl (zrecvV hD (p := 0) rfl rfl rfl) (sp_X8_isFew (A := A) (m := m) (r := r) (zov_all hD) hD (hR.1) (hR.2.1)) (fun v h2 hp => ?_)
  obtain ⟨rfl, hq_7⟩ := hp
  refine Zn.eq (pc2 := 31) (ls2 := [some (za (A 0)), some (zi (z : Int)), some (zi 4)]) (st2 := [zi (ltB (manyN (r 1) 0 13 : Int) (r 1 0 + 2))]) (h2 := zov (LM A m r) h) rfl rfl rfl hq_7 ?_
  have hD : zND (LM A m r) := hD
  have q_8 := ltB_spec (manyN (r 1) 0 13 : Int) (r 1 0 + 2)
  refine Zn.ifc (c := .ne) (off := 11) 42 (by decide +kernel) rfl ⟨by omega, by omega⟩ (fun c_9 => absurd (show ltB (manyN (r 1) 0 13 : Int) (r 1 0 + 2) ≠ 0 from c_9) (by omega)) (fun c_9 => ?_)
  have c_9 : ¬ (ltB (manyN (r 1) 0 13 : Int) (r 1 0 + 2) ≠ 0) := c_9
  refine Zn.seg (pc2 := 36) (ls2 := [some (za (A 0)), some (zi (z : Int)), some (zi 4)]) (st2 := [zi (z : Int), za (A 0)]) [(34, .aload_n 0), (35, .iload_n 1)] (by decide +kernel) rfl ?_
  refine Zn.call (ins := .invokevirtual 313) [za (A 0), zi (z : Int)] [] (by decide +kernel) rfl rfl rfl ⟨rfl, rfl⟩ ⟨rfl, rfl, rfl⟩ rfl (zrecvV hD (p := 0) rfl rfl rfl) (sp_X8_steps_hit (A := A) (m := m) (r := r) (d := d) (N := N) (z := z) (zov_all hD) hD (hR) (hd) (hd3) (hnp) (hS) (hsq) (hon) (hfr) (hgo) (hN) (hz)) (fun v h2 hp => ?_)
  obtain ⟨c1, c2, c3, c4, c5, c6, c7, x1, x2, x3, x4, x5, rfl, hq_10⟩ := hp
  refine Zn.eq (pc2 := 39) (ls2 := [some (za (A 0)), some (zi (z : Int)), some (zi 4)]) (st2 := [zi 1]) (h2 := zov (LM A (va_up (va_up (va_up (va_up (va_up (va_up (va_up (va_up (va_up (va_up (va_up (va_up (va_up m 19 c1) 20 c2) 21 c3) 24 c4) 25 c5) 26 c6) 27 c7) 31 (sq (r 1) d z : Int)) 32 (stI (r 1) d z N)) 33 (stO (r 1) d z N)) 34 ((aOf (r 1) (sq (r 1) d z)).natAbs : Int)) 35 (bOf (r 1) (sq (r 1) d z))) 36 ((z : Int) + 1)) (va_up (va_up (va_up (va_up (va_up r 11 x1) 12 x2) 13 x3) 14 x4) 15 x5)) h) rfl rfl rfl (hq_10.trans (LM_over _ _ _ _ _ _)) ?_
  have hD : zND (LM A (va_up (va_up (va_up (va_up (va_up (va_up (va_up (va_up (va_up (va_up (va_up (va_up (va_up m 19 c1) 20 c2) 21 c3) 24 c4) 25 c5) 26 c6) 27 c7) 31 (sq (r 1) d z : Int)) 32 (stI (r 1) d z N)) 33 (stO (r 1) d z N)) 34 ((aOf (r 1) (sq (r 1) d z)).natAbs : Int)) 35 (bOf (r 1) (sq (r 1) d z))) 36 ((z : Int) + 1)) (va_up (va_up (va_up (va_up (va_up r 11 x1) 12 x2) 13 x3) 14 x4) 15 x5)) := hD
  refine Zn.ifc (c := .ne) (off := 7) 46 (by decide +kernel) rfl ⟨by decide, by decide⟩ (fun c_11 => ?_) (fun c_11 => absurd (show (1 : Int) ≠ 0 from by decide) c_11)
  have c_11 : (1 : Int) ≠ 0 := c_11
  refine Zn.seg (pc2 := 47) (ls2 := [some (za (A 0)), some (zi (z : Int)), some (zi 4)]) (st2 := [zi 4]) [(46, .iload_n 2)] (by decide +kernel) rfl ?_
  refine Zn.ifc (c := .ne) (off := 11) 58 (by decide +kernel) rfl ⟨by decide, by decide⟩ (fun c_12 => ?_) (fun c_12 => absurd (show (4 : Int) ≠ 0 from by decide) c_12)
  have c_12 : (4 : Int) ≠ 0 := c_12
  refine Zn.seg (pc2 := 60) (ls2 := [some (za (A 0)), some (zi (z : Int)), some (zi 4)]) (st2 := [zi 1, zi 4]) [(58, .iload_n 2), (59, .iconst 1)] (by decide +kernel) rfl ?_
  refine Zn.icmp (c := .ne) (off := 10) 70 (by decide +kernel) rfl ⟨by decide, by decide⟩ ⟨by decide, by decide⟩ (fun c_13 => ?_) (fun c_13 => absurd (show (4 : Int) ≠ 1 from by decide) c_13)
  have c_13 : (4 : Int) ≠ 1 := c_13
  refine Zn.seg (pc2 := 72) (ls2 := [some (za (A 0)), some (zi (z : Int)), some (zi 4)]) (st2 := [zi 2, zi 4]) [(70, .iload_n 2), (71, .iconst 2)] (by decide +kernel) rfl ?_
  refine Zn.icmp (c := .ne) (off := 10) 82 (by decide +kernel) rfl ⟨by decide, by decide⟩ ⟨by decide, by decide⟩ (fun c_14 => ?_) (fun c_14 => absurd (show (4 : Int) ≠ 2 from by decide) c_14)
  have c_14 : (4 : Int) ≠ 2 := c_14
  refine Zn.seg (pc2 := 84) (ls2 := [some (za (A 0)), some (zi (z : Int)), some (zi 4)]) (st2 := [zi 3, zi 4]) [(82, .iload_n 2), (83, .iconst 3)] (by decide +kernel) rfl ?_
  refine Zn.icmp (c := .ne) (off := 11) 95 (by decide +kernel) rfl ⟨by decide, by decide⟩ ⟨by decide, by decide⟩ (fun c_15 => ?_) (fun c_15 => absurd (show (4 : Int) ≠ 3 from by decide) c_15)
  have c_15 : (4 : Int) ≠ 3 := c_15
  refine Zn.seg (pc2 := 96) (ls2 := [some (za (A 0)), some (zi (z : Int)), some (zi 4)]) (st2 := [za (A 0)]) [(95, .aload_n 0)] (by decide +kernel) rfl ?_
  refine Zn.get (ix := 302) hD 0 (by decide +kernel) rfl rfl rfl ?_
  refine Zn.eq (st2 := [zi (stO (r 1) d z N)]) rfl rfl rfl rfl ?_
  refine Zn.i2l (by decide +kernel) ⟨by omega, by omega⟩ ?_
  exact Zn.lret (by decide +kernel) rfl (⟨c1, c2, c3, c4, c5, c6, c7, x1, x2, x3, x4, x5, rfl, rfl⟩)
theorem sp_X8_lost_bad1 {h : xH} {A : Nat → Nat} {m : Nat → Int} {r : Nat → Nat → Int} {x w_ : Int} (hL : ∀ q ∈ LM A m r, h q.1 = zcE q.2) (hD : zND (LM A m r)) (zx : zInI x) (zw : zInI w_) (hb : ¬ (0 ≤ x ∧ x ≤ 10)) : zEv k_X8_lost [za (A 0), zi x, zi w_] h (fun v h2 => v = some (zj (-1)) ∧ h2 = h) := by
  have hh : h = zov (LM A m r) h := zov_self hL
  have zx1 := zx.1
  have zx2 := zx.2
  have zw1 := zw.1
  have zw2 := zw.2
  refine zEv.body (I := (8, xI_X8_lost, 14, 5, 125, 0, 0, false)) (rt := (some .long)) [some (za (A 0)), some (zi x), some (zi w_), none, none, none, none, none, none, none, none, none, none, none] rfl rfl rfl rfl ?_
  refine Zn.eq rfl rfl rfl hh ?_
  have hD : zND (LM A m r) := hD
  refine Zn.seg (pc2 := 1) (ls2 := [some (za (A 0)), some (zi x), some (zi w_), none, none, none, none, none, none, none, none, none, none, none]) (st2 := [zi x]) [(0, .iload_n 1)] (by decide +kernel) rfl ?_
  refine Zn.i2l (by decide +kernel) ⟨by omega, by omega⟩ ?_
  refine Zn.seg (pc2 := 6) (ls2 := [some (za (A 0)), some (zi x), some (zi w_), none, none, none, none, none, none, none, none, none, none, none]) (st2 := [zj 10, zj 0, zj x]) [(2, .lconst 0), (3, .ldc2_w 330)] (by decide +kernel) rfl ?_
  refine Zn.call (ins := .invokestatic 77) [zj x, zj 0, zj 10] [] (by decide +kernel) rfl rfl rfl ⟨rfl, rfl⟩ ⟨rfl, rfl, rfl⟩ rfl (zrecvS (by decide)) (sp_X8_in (x := x) (lo := 0) (hi := 10) (⟨by omega, by omega⟩) (⟨by decide, by decide⟩) (⟨by decide, by decide⟩)) (fun v h2 hp => ?_)
  obtain ⟨rfl, hq_1⟩ := hp
  refine Zn.eq (pc2 := 9) (ls2 := [some (za (A 0)), some (zi x), some (zi w_), none, none, none, none, none, none, none, none, none, none, none]) (st2 := [zi (inB 0 10 x)]) (h2 := zov (LM A m r) h) rfl rfl rfl hq_1 ?_
  have hD : zND (LM A m r) := hD
  have q_2 := inB_spec 0 10 x
  refine Zn.ifc (c := .eq) (off := 13) 22 (by decide +kernel) rfl ⟨by omega, by omega⟩ (fun c_3 => ?_) (fun c_3 => absurd (show inB 0 10 x = 0 from by omega) c_3)
  have c_3 : inB 0 10 x = 0 := c_3
  refine Zn.seg (pc2 := 25) (ls2 := [some (za (A 0)), some (zi x), some (zi w_), none, none, none, none, none, none, none, none, none, none, none]) (st2 := [zj (-1)]) [(22, .ldc2_w 223)] (by decide +kernel) rfl ?_
  exact Zn.lret (by decide +kernel) rfl (⟨by first | rfl | (refine congrArg some (congrArg zj ?_); first | omega | (simp_all; done) | (simp_all; omega)), hh.symm⟩)
theorem sp_X8_lost_bad2 {h : xH} {A : Nat → Nat} {m : Nat → Int} {r : Nat → Nat → Int} {x w_ : Int} (hL : ∀ q ∈ LM A m r, h q.1 = zcE q.2) (hD : zND (LM A m r)) (zx : zInI x) (zw : zInI w_) (hi : 0 ≤ x ∧ x ≤ 10) (hb : ¬ (0 ≤ w_ ∧ w_ ≤ 1)) : zEv k_X8_lost [za (A 0), zi x, zi w_] h (fun v h2 => v = some (zj (-1)) ∧ h2 = h) := by
  have hh : h = zov (LM A m r) h := zov_self hL
  have zx1 := zx.1
  have zx2 := zx.2
  have zw1 := zw.1
  have zw2 := zw.2
  refine zEv.body (I := (8, xI_X8_lost, 14, 5, 125, 0, 0, false)) (rt := (some .long)) [some (za (A 0)), some (zi x), some (zi w_), none, none, none, none, none, none, none, none, none, none, none] rfl rfl rfl rfl ?_
  refine Zn.eq rfl rfl rfl hh ?_
  have hD : zND (LM A m r) := hD
  refine Zn.seg (pc2 := 1) (ls2 := [some (za (A 0)), some (zi x), some (zi w_), none, none, none, none, none, none, none, none, none, none, none]) (st2 := [zi x]) [(0, .iload_n 1)] (by decide +kernel) rfl ?_
  refine Zn.i2l (by decide +kernel) ⟨by omega, by omega⟩ ?_
  refine Zn.seg (pc2 := 6) (ls2 := [some (za (A 0)), some (zi x), some (zi w_), none, none, none, none, none, none, none, none, none, none, none]) (st2 := [zj 10, zj 0, zj x]) [(2, .lconst 0), (3, .ldc2_w 330)] (by decide +kernel) rfl ?_
  refine Zn.call (ins := .invokestatic 77) [zj x, zj 0, zj 10] [] (by decide +kernel) rfl rfl rfl ⟨rfl, rfl⟩ ⟨rfl, rfl, rfl⟩ rfl (zrecvS (by decide)) (sp_X8_in (x := x) (lo := 0) (hi := 10) (⟨by omega, by omega⟩) (⟨by decide, by decide⟩) (⟨by decide, by decide⟩)) (fun v h2 hp => ?_)
  obtain ⟨rfl, hq_1⟩ := hp
  refine Zn.eq (pc2 := 9) (ls2 := [some (za (A 0)), some (zi x), some (zi w_), none, none, none, none, none, none, none, none, none, none, none]) (st2 := [zi (inB 0 10 x)]) (h2 := zov (LM A m r) h) rfl rfl rfl hq_1 ?_
  have hD : zND (LM A m r) := hD
  have q_2 := inB_spec 0 10 x
  refine Zn.ifc (c := .eq) (off := 13) 22 (by decide +kernel) rfl ⟨by omega, by omega⟩ (fun c_3 => absurd (show inB 0 10 x = 0 from c_3) (by omega)) (fun c_3 => ?_)
  have c_3 : ¬ (inB 0 10 x = 0) := c_3
  refine Zn.seg (pc2 := 13) (ls2 := [some (za (A 0)), some (zi x), some (zi w_), none, none, none, none, none, none, none, none, none, none, none]) (st2 := [zi w_]) [(12, .iload_n 2)] (by decide +kernel) rfl ?_
  refine Zn.i2l (by decide +kernel) ⟨by omega, by omega⟩ ?_
  refine Zn.seg (pc2 := 16) (ls2 := [some (za (A 0)), some (zi x), some (zi w_), none, none, none, none, none, none, none, none, none, none, none]) (st2 := [zj 1, zj 0, zj w_]) [(14, .lconst 0), (15, .lconst 1)] (by decide +kernel) rfl ?_
  refine Zn.call (ins := .invokestatic 77) [zj w_, zj 0, zj 1] [] (by decide +kernel) rfl rfl rfl ⟨rfl, rfl⟩ ⟨rfl, rfl, rfl⟩ rfl (zrecvS (by decide)) (sp_X8_in (x := w_) (lo := 0) (hi := 1) (⟨by omega, by omega⟩) (⟨by decide, by decide⟩) (⟨by decide, by decide⟩)) (fun v h2 hp => ?_)
  obtain ⟨rfl, hq_4⟩ := hp
  refine Zn.eq (pc2 := 19) (ls2 := [some (za (A 0)), some (zi x), some (zi w_), none, none, none, none, none, none, none, none, none, none, none]) (st2 := [zi (inB 0 1 w_)]) (h2 := zov (LM A m r) h) rfl rfl rfl hq_4 ?_
  have hD : zND (LM A m r) := hD
  have q_5 := inB_spec 0 1 w_
  refine Zn.ifc (c := .ne) (off := 7) 26 (by decide +kernel) rfl ⟨by omega, by omega⟩ (fun c_6 => absurd (show inB 0 1 w_ ≠ 0 from c_6) (by omega)) (fun c_6 => ?_)
  have c_6 : ¬ (inB 0 1 w_ ≠ 0) := c_6
  refine Zn.seg (pc2 := 25) (ls2 := [some (za (A 0)), some (zi x), some (zi w_), none, none, none, none, none, none, none, none, none, none, none]) (st2 := [zj (-1)]) [(22, .ldc2_w 223)] (by decide +kernel) rfl ?_
  exact Zn.lret (by decide +kernel) rfl (⟨by first | rfl | (refine congrArg some (congrArg zj ?_); first | omega | (simp_all; done) | (simp_all; omega)), hh.symm⟩)
theorem sp_X8_lost_none {h : xH} {A : Nat → Nat} {m : Nat → Int} {r : Nat → Nat → Int} {x w_ : Int} (hL : ∀ q ∈ LM A m r, h q.1 = zcE q.2) (hD : zND (LM A m r)) (hx : 0 ≤ x ∧ x ≤ 10) (hw : 0 ≤ w_ ∧ w_ ≤ 1) (hR : ROK (r 1)) (hpo : mk (mpoleB (r 1)) ≠ 0) : zEv k_X8_lost [za (A 0), zi x, zi w_] h (fun v h2 => v = some (zj (-4)) ∧ h2 = h) := by
  have hh : h = zov (LM A m r) h := zov_self hL
  refine zEv.body (I := (8, xI_X8_lost, 14, 5, 125, 0, 0, false)) (rt := (some .long)) [some (za (A 0)), some (zi x), some (zi w_), none, none, none, none, none, none, none, none, none, none, none] rfl rfl rfl rfl ?_
  refine Zn.eq rfl rfl rfl hh ?_
  have hD : zND (LM A m r) := hD
  refine Zn.seg (pc2 := 1) (ls2 := [some (za (A 0)), some (zi x), some (zi w_), none, none, none, none, none, none, none, none, none, none, none]) (st2 := [zi x]) [(0, .iload_n 1)] (by decide +kernel) rfl ?_
  refine Zn.i2l (by decide +kernel) ⟨by omega, by omega⟩ ?_
  refine Zn.seg (pc2 := 6) (ls2 := [some (za (A 0)), some (zi x), some (zi w_), none, none, none, none, none, none, none, none, none, none, none]) (st2 := [zj 10, zj 0, zj x]) [(2, .lconst 0), (3, .ldc2_w 330)] (by decide +kernel) rfl ?_
  refine Zn.call (ins := .invokestatic 77) [zj x, zj 0, zj 10] [] (by decide +kernel) rfl rfl rfl ⟨rfl, rfl⟩ ⟨rfl, rfl, rfl⟩ rfl (zrecvS (by decide)) (sp_X8_in (x := x) (lo := 0) (hi := 10) (⟨by omega, by omega⟩) (⟨by decide, by decide⟩) (⟨by decide, by decide⟩)) (fun v h2 hp => ?_)
  obtain ⟨rfl, hq_1⟩ := hp
  refine Zn.eq (pc2 := 9) (ls2 := [some (za (A 0)), some (zi x), some (zi w_), none, none, none, none, none, none, none, none, none, none, none]) (st2 := [zi (inB 0 10 x)]) (h2 := zov (LM A m r) h) rfl rfl rfl hq_1 ?_
  have hD : zND (LM A m r) := hD
  have q_2 := inB_spec 0 10 x
  refine Zn.ifc (c := .eq) (off := 13) 22 (by decide +kernel) rfl ⟨by omega, by omega⟩ (fun c_3 => absurd (show inB 0 10 x = 0 from c_3) (by omega)) (fun c_3 => ?_)
  have c_3 : ¬ (inB 0 10 x = 0) := c_3
  refine Zn.seg (pc2 := 13) (ls2 := [some (za (A 0)), some (zi x), some (zi w_), none, none, none, none, none, none, none, none, none, none, none]) (st2 := [zi w_]) [(12, .iload_n 2)] (by decide +kernel) rfl ?_
  refine Zn.i2l (by decide +kernel) ⟨by omega, by omega⟩ ?_
  refine Zn.seg (pc2 := 16) (ls2 := [some (za (A 0)), some (zi x), some (zi w_), none, none, none, none, none, none, none, none, none, none, none]) (st2 := [zj 1, zj 0, zj w_]) [(14, .lconst 0), (15, .lconst 1)] (by decide +kernel) rfl ?_
  refine Zn.call (ins := .invokestatic 77) [zj w_, zj 0, zj 1] [] (by decide +kernel) rfl rfl rfl ⟨rfl, rfl⟩ ⟨rfl, rfl, rfl⟩ rfl (zrecvS (by decide)) (sp_X8_in (x := w_) (lo := 0) (hi := 1) (⟨by omega, by omega⟩) (⟨by decide, by decide⟩) (⟨by decide, by decide⟩)) (fun v h2 hp => ?_)
  obtain ⟨rfl, hq_4⟩ := hp
  refine Zn.eq (pc2 := 19) (ls2 := [some (za (A 0)), some (zi x), some (zi w_), none, none, none, none, none, none, none, none, none, none, none]) (st2 := [zi (inB 0 1 w_)]) (h2 := zov (LM A m r) h) rfl rfl rfl hq_4 ?_
  have hD : zND (LM A m r) := hD
  have q_5 := inB_spec 0 1 w_
  refine Zn.ifc (c := .ne) (off := 7) 26 (by decide +kernel) rfl ⟨by omega, by omega⟩ (fun c_6 => ?_) (fun c_6 => absurd (show inB 0 1 w_ ≠ 0 from by omega) c_6)
  have c_6 : inB 0 1 w_ ≠ 0 := c_6
  refine Zn.seg (pc2 := 27) (ls2 := [some (za (A 0)), some (zi x), some (zi w_), none, none, none, none, none, none, none, none, none, none, none]) (st2 := [za (A 0)]) [(26, .aload_n 0)] (by decide +kernel) rfl ?_
  refine Zn.call (ins := .invokevirtual 118) [za (A 0)] [] (by decide +kernel) rfl rfl rfl ⟨rfl, rfl⟩ ⟨rfl, rfl, rfl⟩ rfl (zrecvV hD (p := 0) rfl rfl rfl) (sp_X8_poles (A := A) (m := m) (r := r) (zov_all hD) hD (hR.1) (ROK_qz hR)) (fun v h2 hp => ?_)
  obtain ⟨rfl, hq_7⟩ := hp
  refine Zn.eq (pc2 := 30) (ls2 := [some (za (A 0)), some (zi x), some (zi w_), none, none, none, none, none, none, none, none, none, none, none]) (st2 := [zi (mk (mpoleB (r 1)) : Int)]) (h2 := zov (LM A m r) h) rfl rfl rfl hq_7 ?_
  have hD : zND (LM A m r) := hD
  have hmk_ := mk_lt (mpoleB (r 1))
  refine Zn.ifc (c := .eq) (off := 7) 37 (by decide +kernel) rfl ⟨by omega, by omega⟩ (fun c_8 => absurd (show (mk (mpoleB (r 1)) : Int) = 0 from c_8) (by omega)) (fun c_8 => ?_)
  have c_8 : ¬ ((mk (mpoleB (r 1)) : Int) = 0) := c_8
  refine Zn.seg (pc2 := 36) (ls2 := [some (za (A 0)), some (zi x), some (zi w_), none, none, none, none, none, none, none, none, none, none, none]) (st2 := [zj (-4)]) [(33, .ldc2_w 311)] (by decide +kernel) rfl ?_
  exact Zn.lret (by decide +kernel) rfl (⟨by first | rfl | (refine congrArg some (congrArg zj ?_); first | omega | (simp_all; done) | (simp_all; omega)), hh.symm⟩)
theorem sp_X8_lost_few {h : xH} {A : Nat → Nat} {m : Nat → Int} {r : Nat → Nat → Int} {x w_ : Int} {d : Nat} (hL : ∀ q ∈ LM A m r, h q.1 = zcE q.2) (hD : zND (LM A m r)) (hx : 0 ≤ x ∧ x ≤ 10) (hw : 0 ≤ w_ ∧ w_ ≤ 1) (hR : ROK (r 1)) (hd : r 1 0 = (d : Int)) (hd3 : d ≤ 3) (hpo : mk (mpoleB (r 1)) = 0) (hmn : manyN (r 1) 0 13 < d + 2) : zEv k_X8_lost [za (A 0), zi x, zi w_] h (fun v h2 => v = some (zj 1) ∧ h2 = h) := by
  have hh : h = zov (LM A m r) h := zov_self hL
  refine zEv.body (I := (8, xI_X8_lost, 14, 5, 125, 0, 0, false)) (rt := (some .long)) [some (za (A 0)), some (zi x), some (zi w_), none, none, none, none, none, none, none, none, none, none, none] rfl rfl rfl rfl ?_
  refine Zn.eq rfl rfl rfl hh ?_
  have hD : zND (LM A m r) := hD
  refine Zn.seg (pc2 := 1) (ls2 := [some (za (A 0)), some (zi x), some (zi w_), none, none, none, none, none, none, none, none, none, none, none]) (st2 := [zi x]) [(0, .iload_n 1)] (by decide +kernel) rfl ?_
  refine Zn.i2l (by decide +kernel) ⟨by omega, by omega⟩ ?_
  refine Zn.seg (pc2 := 6) (ls2 := [some (za (A 0)), some (zi x), some (zi w_), none, none, none, none, none, none, none, none, none, none, none]) (st2 := [zj 10, zj 0, zj x]) [(2, .lconst 0), (3, .ldc2_w 330)] (by decide +kernel) rfl ?_
  refine Zn.call (ins := .invokestatic 77) [zj x, zj 0, zj 10] [] (by decide +kernel) rfl rfl rfl ⟨rfl, rfl⟩ ⟨rfl, rfl, rfl⟩ rfl (zrecvS (by decide)) (sp_X8_in (x := x) (lo := 0) (hi := 10) (⟨by omega, by omega⟩) (⟨by decide, by decide⟩) (⟨by decide, by decide⟩)) (fun v h2 hp => ?_)
  obtain ⟨rfl, hq_1⟩ := hp
  refine Zn.eq (pc2 := 9) (ls2 := [some (za (A 0)), some (zi x), some (zi w_), none, none, none, none, none, none, none, none, none, none, none]) (st2 := [zi (inB 0 10 x)]) (h2 := zov (LM A m r) h) rfl rfl rfl hq_1 ?_
  have hD : zND (LM A m r) := hD
  have q_2 := inB_spec 0 10 x
  refine Zn.ifc (c := .eq) (off := 13) 22 (by decide +kernel) rfl ⟨by omega, by omega⟩ (fun c_3 => absurd (show inB 0 10 x = 0 from c_3) (by omega)) (fun c_3 => ?_)
  have c_3 : ¬ (inB 0 10 x = 0) := c_3
  refine Zn.seg (pc2 := 13) (ls2 := [some (za (A 0)), some (zi x), some (zi w_), none, none, none, none, none, none, none, none, none, none, none]) (st2 := [zi w_]) [(12, .iload_n 2)] (by decide +kernel) rfl ?_
  refine Zn.i2l (by decide +kernel) ⟨by omega, by omega⟩ ?_
  refine Zn.seg (pc2 := 16) (ls2 := [some (za (A 0)), some (zi x), some (zi w_), none, none, none, none, none, none, none, none, none, none, none]) (st2 := [zj 1, zj 0, zj w_]) [(14, .lconst 0), (15, .lconst 1)] (by decide +kernel) rfl ?_
  refine Zn.call (ins := .invokestatic 77) [zj w_, zj 0, zj 1] [] (by decide +kernel) rfl rfl rfl ⟨rfl, rfl⟩ ⟨rfl, rfl, rfl⟩ rfl (zrecvS (by decide)) (sp_X8_in (x := w_) (lo := 0) (hi := 1) (⟨by omega, by omega⟩) (⟨by decide, by decide⟩) (⟨by decide, by decide⟩)) (fun v h2 hp => ?_)
  obtain ⟨rfl, hq_4⟩ := hp
  refine Zn.eq (pc2 := 19) (ls2 := [some (za (A 0)), some (zi x), some (zi w_), none, none, none, none, none, none, none, none, none, none, none]) (st2 := [zi (inB 0 1 w_)]) (h2 := zov (LM A m r) h) rfl rfl rfl hq_4 ?_
  have hD : zND (LM A m r) := hD
  have q_5 := inB_spec 0 1 w_
  refine Zn.ifc (c := .ne) (off := 7) 26 (by decide +kernel) rfl ⟨by omega, by omega⟩ (fun c_6 => ?_) (fun c_6 => absurd (show inB 0 1 w_ ≠ 0 from by omega) c_6)
  have c_6 : inB 0 1 w_ ≠ 0 := c_6
  refine Zn.seg (pc2 := 27) (ls2 := [some (za (A 0)), some (zi x), some (zi w_), none, none, none, none, none, none, none, none, none, none, none]) (st2 := [za (A 0)]) [(26, .aload_n 0)] (by decide +kernel) rfl ?_
  refine Zn.call (ins := .invokevirtual 118) [za (A 0)] [] (by decide +kernel) rfl rfl rfl ⟨rfl, rfl⟩ ⟨rfl, rfl, rfl⟩ rfl (zrecvV hD (p := 0) rfl rfl rfl) (sp_X8_poles (A := A) (m := m) (r := r) (zov_all hD) hD (hR.1) (ROK_qz hR)) (fun v h2 hp => ?_)
  obtain ⟨rfl, hq_7⟩ := hp
  refine Zn.eq (pc2 := 30) (ls2 := [some (za (A 0)), some (zi x), some (zi w_), none, none, none, none, none, none, none, none, none, none, none]) (st2 := [zi (mk (mpoleB (r 1)) : Int)]) (h2 := zov (LM A m r) h) rfl rfl rfl hq_7 ?_
  have hD : zND (LM A m r) := hD
  have hmk_ := mk_lt (mpoleB (r 1))
  refine Zn.ifc (c := .eq) (off := 7) 37 (by decide +kernel) rfl ⟨by omega, by omega⟩ (fun c_8 => ?_) (fun c_8 => absurd (show (mk (mpoleB (r 1)) : Int) = 0 from by omega) c_8)
  have c_8 : (mk (mpoleB (r 1)) : Int) = 0 := c_8
  refine Zn.seg (pc2 := 38) (ls2 := [some (za (A 0)), some (zi x), some (zi w_), none, none, none, none, none, none, none, none, none, none, none]) (st2 := [za (A 0)]) [(37, .aload_n 0)] (by decide +kernel) rfl ?_
  refine Zn.call (ins := .invokevirtual 122) [za (A 0)] [] (by decide +kernel) rfl rfl rfl ⟨rfl, rfl⟩ ⟨rfl, rfl, rfl⟩ rfl (zrecvV hD (p := 0) rfl rfl rfl) (sp_X8_isFew (A := A) (m := m) (r := r) (zov_all hD) hD (hR.1) (hR.2.1)) (fun v h2 hp => ?_)
  obtain ⟨rfl, hq_9⟩ := hp
  refine Zn.eq (pc2 := 41) (ls2 := [some (za (A 0)), some (zi x), some (zi w_), none, none, none, none, none, none, none, none, none, none, none]) (st2 := [zi (ltB (manyN (r 1) 0 13 : Int) (r 1 0 + 2))]) (h2 := zov (LM A m r) h) rfl rfl rfl hq_9 ?_
  have hD : zND (LM A m r) := hD
  have q_10 := ltB_spec (manyN (r 1) 0 13 : Int) (r 1 0 + 2)
  refine Zn.ifc (c := .eq) (off := 5) 46 (by decide +kernel) rfl ⟨by omega, by omega⟩ (fun c_11 => absurd (show ltB (manyN (r 1) 0 13 : Int) (r 1 0 + 2) = 0 from c_11) (by omega)) (fun c_11 => ?_)
  have c_11 : ¬ (ltB (manyN (r 1) 0 13 : Int) (r 1 0 + 2) = 0) := c_11
  refine Zn.seg (pc2 := 45) (ls2 := [some (za (A 0)), some (zi x), some (zi w_), none, none, none, none, none, none, none, none, none, none, none]) (st2 := [zj 1]) [(44, .lconst 1)] (by decide +kernel) rfl ?_
  exact Zn.lret (by decide +kernel) rfl (⟨by first | rfl | (refine congrArg some (congrArg zj ?_); first | omega | (simp_all; done) | (simp_all; omega)), hh.symm⟩)
set_option maxHeartbeats 4000000 in
set_option maxRecDepth 20000 in
theorem sp_X8_lost_ok {h : xH} {A : Nat → Nat} {m : Nat → Int} {r : Nat → Nat → Int} {x w_ : Int} {d : Nat} (hL : ∀ q ∈ LM A m r, h q.1 = zcE q.2) (hD : zND (LM A m r)) (hx : 0 ≤ x ∧ x ≤ 10) (hw : 0 ≤ w_ ∧ w_ ≤ 1) (hR : ROK (r 1)) (hd : r 1 0 = (d : Int)) (hd3 : d ≤ 3) (hnp : ∀ p : Nat, p < 13 → 0 < r 1 (p + 18) → qv (fun j => r 1 (j + 1)) ((p : Int) - 6) ≠ 0) (hS : ∀ t, t < 8192 → refP (r 1) t → SOK (r 1) d t) (hpo : mk (mpoleB (r 1)) = 0) (hmn : d + 2 ≤ manyN (r 1) 0 13) (hex : ∃ t, t < 8192 ∧ refP (r 1) t) (h70 : ∀ b, FBE (r 1) b → (plB (tpB (r 1) b) 8192).length ≤ 70) : zEv k_X8_lost [za (A 0), zi x, zi w_] h (fun v h2 => ∃ bs : Nat, ∃ x1 : Nat → Int, ∃ x2 : Nat → Int, ∃ x3 : Nat → Int, ∃ x4 : Nat → Int, ∃ x5 : Nat → Int, ∃ x6 : Nat → Int, ∃ t_ : Int, ∃ a_ : Int, ∃ b_ : Int, ∃ e1 : Int, ∃ e2 : Int, v = some (zj (lsV (r 1) bs x w_)) ∧ h2 = zov (LM A (va_up (va_up (va_up (va_up (va_up (va_up (va_up (va_up (va_up (va_up m 19 t_) 20 a_) 21 b_) 24 (bOf (r 1) bs)) 25 ((d : Int) + 1)) 26 e1) 27 e2) 28 (bs : Int)) 29 ((aOf (r 1) bs).natAbs : Int)) 30 (bOf (r 1) bs)) (va_up (va_up (va_up (va_up (va_up (va_up r 11 x1) 12 x2) 13 x3) 14 (cpF (nfX (lOf (r 1) bs)) x4 (d + 1))) 15 (cpF (fpV (r 1) (lOf (r 1) bs) (aOf (r 1) bs) (bOf (r 1) bs)) x5 (d + 1))) 18 x6)) h ∧ FBE (r 1) bs) := by
  have hh : h = zov (LM A m r) h := zov_self hL
  refine zEv.body (I := (8, xI_X8_lost, 14, 5, 125, 0, 0, false)) (rt := (some .long)) [some (za (A 0)), some (zi x), some (zi w_), none, none, none, none, none, none, none, none, none, none, none] rfl rfl rfl rfl ?_
  refine Zn.eq rfl rfl rfl hh ?_
  have hD : zND (LM A m r) := hD
  refine Zn.seg (pc2 := 1) (ls2 := [some (za (A 0)), some (zi x), some (zi w_), none, none, none, none, none, none, none, none, none, none, none]) (st2 := [zi x]) [(0, .iload_n 1)] (by decide +kernel) rfl ?_
  refine Zn.i2l (by decide +kernel) ⟨by omega, by omega⟩ ?_
  refine Zn.seg (pc2 := 6) (ls2 := [some (za (A 0)), some (zi x), some (zi w_), none, none, none, none, none, none, none, none, none, none, none]) (st2 := [zj 10, zj 0, zj x]) [(2, .lconst 0), (3, .ldc2_w 330)] (by decide +kernel) rfl ?_
  refine Zn.call (ins := .invokestatic 77) [zj x, zj 0, zj 10] [] (by decide +kernel) rfl rfl rfl ⟨rfl, rfl⟩ ⟨rfl, rfl, rfl⟩ rfl (zrecvS (by decide)) (sp_X8_in (x := x) (lo := 0) (hi := 10) (⟨by omega, by omega⟩) (⟨by decide, by decide⟩) (⟨by decide, by decide⟩)) (fun v h2 hp => ?_)
  obtain ⟨rfl, hq_1⟩ := hp
  refine Zn.eq (pc2 := 9) (ls2 := [some (za (A 0)), some (zi x), some (zi w_), none, none, none, none, none, none, none, none, none, none, none]) (st2 := [zi (inB 0 10 x)]) (h2 := zov (LM A m r) h) rfl rfl rfl hq_1 ?_
  have hD : zND (LM A m r) := hD
  have q_2 := inB_spec 0 10 x
  refine Zn.ifc (c := .eq) (off := 13) 22 (by decide +kernel) rfl ⟨by omega, by omega⟩ (fun c_3 => absurd (show inB 0 10 x = 0 from c_3) (by omega)) (fun c_3 => ?_)
  have c_3 : ¬ (inB 0 10 x = 0) := c_3
  refine Zn.seg (pc2 := 13) (ls2 := [some (za (A 0)), some (zi x), some (zi w_), none, none, none, none, none, none, none, none, none, none, none]) (st2 := [zi w_]) [(12, .iload_n 2)] (by decide +kernel) rfl ?_
  refine Zn.i2l (by decide +kernel) ⟨by omega, by omega⟩ ?_
  refine Zn.seg (pc2 := 16) (ls2 := [some (za (A 0)), some (zi x), some (zi w_), none, none, none, none, none, none, none, none, none, none, none]) (st2 := [zj 1, zj 0, zj w_]) [(14, .lconst 0), (15, .lconst 1)] (by decide +kernel) rfl ?_
  refine Zn.call (ins := .invokestatic 77) [zj w_, zj 0, zj 1] [] (by decide +kernel) rfl rfl rfl ⟨rfl, rfl⟩ ⟨rfl, rfl, rfl⟩ rfl (zrecvS (by decide)) (sp_X8_in (x := w_) (lo := 0) (hi := 1) (⟨by omega, by omega⟩) (⟨by decide, by decide⟩) (⟨by decide, by decide⟩)) (fun v h2 hp => ?_)
  obtain ⟨rfl, hq_4⟩ := hp
  refine Zn.eq (pc2 := 19) (ls2 := [some (za (A 0)), some (zi x), some (zi w_), none, none, none, none, none, none, none, none, none, none, none]) (st2 := [zi (inB 0 1 w_)]) (h2 := zov (LM A m r) h) rfl rfl rfl hq_4 ?_
  have hD : zND (LM A m r) := hD
  have q_5 := inB_spec 0 1 w_
  refine Zn.ifc (c := .ne) (off := 7) 26 (by decide +kernel) rfl ⟨by omega, by omega⟩ (fun c_6 => ?_) (fun c_6 => absurd (show inB 0 1 w_ ≠ 0 from by omega) c_6)
  have c_6 : inB 0 1 w_ ≠ 0 := c_6
  refine Zn.seg (pc2 := 27) (ls2 := [some (za (A 0)), some (zi x), some (zi w_), none, none, none, none, none, none, none, none, none, none, none]) (st2 := [za (A 0)]) [(26, .aload_n 0)] (by decide +kernel) rfl ?_
  refine Zn.call (ins := .invokevirtual 118) [za (A 0)] [] (by decide +kernel) rfl rfl rfl ⟨rfl, rfl⟩ ⟨rfl, rfl, rfl⟩ rfl (zrecvV hD (p := 0) rfl rfl rfl) (sp_X8_poles (A := A) (m := m) (r := r) (zov_all hD) hD (hR.1) (ROK_qz hR)) (fun v h2 hp => ?_)
  obtain ⟨rfl, hq_7⟩ := hp
  refine Zn.eq (pc2 := 30) (ls2 := [some (za (A 0)), some (zi x), some (zi w_), none, none, none, none, none, none, none, none, none, none, none]) (st2 := [zi (mk (mpoleB (r 1)) : Int)]) (h2 := zov (LM A m r) h) rfl rfl rfl hq_7 ?_
  have hD : zND (LM A m r) := hD
  have hmk_ := mk_lt (mpoleB (r 1))
  refine Zn.ifc (c := .eq) (off := 7) 37 (by decide +kernel) rfl ⟨by omega, by omega⟩ (fun c_8 => ?_) (fun c_8 => absurd (show (mk (mpoleB (r 1)) : Int) = 0 from by omega) c_8)
  have c_8 : (mk (mpoleB (r 1)) : Int) = 0 := c_8
  refine Zn.seg (pc2 := 38) (ls2 := [some (za (A 0)), some (zi x), some (zi w_), none, none, none, none, none, none, none, none, none, none, none]) (st2 := [za (A 0)]) [(37, .aload_n 0)] (by decide +kernel) rfl ?_
  refine Zn.call (ins := .invokevirtual 122) [za (A 0)] [] (by decide +kernel) rfl rfl rfl ⟨rfl, rfl⟩ ⟨rfl, rfl, rfl⟩ rfl (zrecvV hD (p := 0) rfl rfl rfl) (sp_X8_isFew (A := A) (m := m) (r := r) (zov_all hD) hD (hR.1) (hR.2.1)) (fun v h2 hp => ?_)
  obtain ⟨rfl, hq_9⟩ := hp
  refine Zn.eq (pc2 := 41) (ls2 := [some (za (A 0)), some (zi x), some (zi w_), none, none, none, none, none, none, none, none, none, none, none]) (st2 := [zi (ltB (manyN (r 1) 0 13 : Int) (r 1 0 + 2))]) (h2 := zov (LM A m r) h) rfl rfl rfl hq_9 ?_
  have hD : zND (LM A m r) := hD
  have q_10 := ltB_spec (manyN (r 1) 0 13 : Int) (r 1 0 + 2)
  refine Zn.ifc (c := .eq) (off := 5) 46 (by decide +kernel) rfl ⟨by omega, by omega⟩ (fun c_11 => ?_) (fun c_11 => absurd (show ltB (manyN (r 1) 0 13 : Int) (r 1 0 + 2) = 0 from by omega) c_11)
  have c_11 : ltB (manyN (r 1) 0 13 : Int) (r 1 0 + 2) = 0 := c_11
  refine Zn.seg (pc2 := 47) (ls2 := [some (za (A 0)), some (zi x), some (zi w_), none, none, none, none, none, none, none, none, none, none, none]) (st2 := [za (A 0)]) [(46, .aload_n 0)] (by decide +kernel) rfl ?_
  refine Zn.call (ins := .invokevirtual 267) [za (A 0)] [] (by decide +kernel) rfl rfl rfl ⟨rfl, rfl⟩ ⟨rfl, rfl, rfl⟩ rfl (zrecvV hD (p := 0) rfl rfl rfl) (sp_X8_findsBest (A := A) (m := m) (r := r) (d := d) (zov_all hD) hD (hR) (hd) (hd3) (hS) (hex)) (fun v h2 hp => ?_)
  obtain ⟨bs, x1, x2, x3, x4, x5, rfl, hq_12, hfbe⟩ := hp
  refine Zn.eq (pc2 := 50) (ls2 := [some (za (A 0)), some (zi x), some (zi w_), none, none, none, none, none, none, none, none, none, none, none]) (st2 := []) (h2 := zov (LM A (va_up (va_up (va_up (va_up (va_up (va_up (va_up (va_up m 19 ((lOf (r 1) bs).length : Int)) 20 (aOf (r 1) bs)) 21 (bOf (r 1) bs)) 24 (bOf (r 1) bs)) 25 ((d : Int) + 1)) 28 (bs : Int)) 29 ((aOf (r 1) bs).natAbs : Int)) 30 (bOf (r 1) bs)) (va_up (va_up (va_up (va_up (va_up r 11 x1) 12 x2) 13 x3) 14 (cpF (nfX (lOf (r 1) bs)) x4 (d + 1))) 15 (cpF (fpV (r 1) (lOf (r 1) bs) (aOf (r 1) bs) (bOf (r 1) bs)) x5 (d + 1)))) h) rfl rfl rfl (hq_12.trans (LM_over _ _ _ _ _ _)) ?_
  have hD : zND (LM A (va_up (va_up (va_up (va_up (va_up (va_up (va_up (va_up m 19 ((lOf (r 1) bs).length : Int)) 20 (aOf (r 1) bs)) 21 (bOf (r 1) bs)) 24 (bOf (r 1) bs)) 25 ((d : Int) + 1)) 28 (bs : Int)) 29 ((aOf (r 1) bs).natAbs : Int)) 30 (bOf (r 1) bs)) (va_up (va_up (va_up (va_up (va_up r 11 x1) 12 x2) 13 x3) 14 (cpF (nfX (lOf (r 1) bs)) x4 (d + 1))) 15 (cpF (fpV (r 1) (lOf (r 1) bs) (aOf (r 1) bs) (bOf (r 1) bs)) x5 (d + 1)))) := hD
  have hab := ab_rng (hS bs hfbe.1 hfbe.2.1)
  have h7b := h70 bs hfbe
  refine Zn.seg (pc2 := 51) (ls2 := [some (za (A 0)), some (zi x), some (zi w_), none, none, none, none, none, none, none, none, none, none, none]) (st2 := [za (A 0)]) [(50, .aload_n 0)] (by decide +kernel) rfl ?_
  refine Zn.get (ix := 248) hD 0 (by decide +kernel) rfl rfl rfl ?_
  refine Zn.eq (st2 := [zj ((aOf (r 1) bs).natAbs : Int)]) rfl rfl rfl rfl ?_
  refine Zn.seg (pc2 := 55) (ls2 := [some (za (A 0)), some (zi x), some (zi w_), none, none, none, none, none, none, none, none, none, none, none]) (st2 := [zj 0, zj ((aOf (r 1) bs).natAbs : Int)]) [(54, .lconst 0)] (by decide +kernel) rfl ?_
  refine Zn.lcmpif (c := .ne) (off := (5)) 61 (by decide +kernel) (by decide +kernel) rfl ⟨by omega, by omega⟩ ⟨by decide, by decide⟩ (fun c_13 => ?_) (fun c_13 => ?_)
  · have c_13 : ((aOf (r 1) bs).natAbs : Int) ≠ 0 := c_13
    refine Zn.seg (pc2 := 66) (ls2 := [some (za (A 0)), some (zi x), some (zi w_), some (zi 0), some (zi 0), none, none, none, none, none, none, none, none, none]) (st2 := []) [(61, .iconst 0), (62, .istore_n 3), (63, .iconst 0), (64, .istore 4)] (by decide +kernel) rfl ?_
    refine Zn.eq (pc2 := 66) (ls2 := [some (za (A 0)), some (zi x), some (zi w_), some (zi ((plB (tpB (r 1) bs) 0).length : Int)), some (zi (0 : Int)), none, none, none, none, none, none, none, none, none]) (st2 := []) (h2 := zov (LM A (va_up (va_up (va_up (va_up (va_up (va_up (va_up (va_up m 19 ((lOf (r 1) bs).length : Int)) 20 (aOf (r 1) bs)) 21 (bOf (r 1) bs)) 24 (bOf (r 1) bs)) 25 ((d : Int) + 1)) 28 (bs : Int)) 29 ((aOf (r 1) bs).natAbs : Int)) 30 (bOf (r 1) bs)) (va_up (va_up (va_up (va_up (va_up (va_up r 11 x1) 12 x2) 13 x3) 14 (cpF (nfX (lOf (r 1) bs)) x4 (d + 1))) 15 (cpF (fpV (r 1) (lOf (r 1) bs) (aOf (r 1) bs) (bOf (r 1) bs)) x5 (d + 1))) 18 (arL ((plB (tpB (r 1) bs) 0).map zN) (r 18)))) h) rfl rfl rfl (by rw [plB_0, List.map_nil, arL_nil, va_eta (v := r 18) _ 18 (by rfl)]) ?_
    have hD : zND (LM A (va_up (va_up (va_up (va_up (va_up (va_up (va_up (va_up m 19 ((lOf (r 1) bs).length : Int)) 20 (aOf (r 1) bs)) 21 (bOf (r 1) bs)) 24 (bOf (r 1) bs)) 25 ((d : Int) + 1)) 28 (bs : Int)) 29 ((aOf (r 1) bs).natAbs : Int)) 30 (bOf (r 1) bs)) (va_up (va_up (va_up (va_up (va_up (va_up r 11 x1) 12 x2) 13 x3) 14 (cpF (nfX (lOf (r 1) bs)) x4 (d + 1))) 15 (cpF (fpV (r 1) (lOf (r 1) bs) (aOf (r 1) bs) (bOf (r 1) bs)) x5 (d + 1))) 18 (arL ((plB (tpB (r 1) bs) 0).map zN) (r 18)))) := hD
    refine xloop (P := fun i_14 => ∀ (n1 : Nat → Int), ∀ (n2 : Nat → Int), ∀ (n3 : Nat → Int), ∀ (t_ : Int), ∀ (a_ : Int), ∀ (b_ : Int), ∀ j_15 j_16 j_17 j_18 j_19 j_20 j_21 j_22 j_23 : Option zV, Zn (8, xI_X8_lost, 14, 5, 125, 0, 0, false) (some .long) 66 [some (za (A 0)), some (zi x), some (zi w_), some (zi ((plB (tpB (r 1) bs) i_14).length : Int)), some (zi (i_14 : Int)), j_15, j_16, j_17, j_18, j_19, j_20, j_21, j_22, j_23] [] (zov (LM A (va_up (va_up (va_up (va_up (va_up (va_up (va_up (va_up m 19 t_) 20 a_) 21 b_) 24 (bOf (r 1) bs)) 25 ((d : Int) + 1)) 28 (bs : Int)) 29 ((aOf (r 1) bs).natAbs : Int)) 30 (bOf (r 1) bs)) (va_up (va_up (va_up (va_up (va_up (va_up r 11 n1) 12 n2) 13 n3) 14 (cpF (nfX (lOf (r 1) bs)) x4 (d + 1))) 15 (cpF (fpV (r 1) (lOf (r 1) bs) (aOf (r 1) bs) (bOf (r 1) bs)) x5 (d + 1))) 18 (arL ((plB (tpB (r 1) bs) i_14).map zN) (r 18)))) h) _) (8192) (fun i_14 hi_24 ih_25 n1 n2 n3 t_ a_ b_ j_15 j_16 j_17 j_18 j_19 j_20 j_21 j_22 j_23 => ?_) (fun n1 n2 n3 t_ a_ b_ j_15 j_16 j_17 j_18 j_19 j_20 j_21 j_22 j_23 => ?_) x1 x2 x3 ((lOf (r 1) bs).length : Int) (aOf (r 1) bs) (bOf (r 1) bs) none none none none none none none none none
    · have hi_ : i_14 < 8192 := hi_24
      have hrf := refV_c (r 1) i_14
      have hrv := refV_b (r 1) i_14
      have hrp : refV (r 1) i_14 ≠ 0 → refP (r 1) i_14 := fun q_ => by rcases hrf with ⟨q1, q2⟩ | ⟨q1, q2⟩; exact q1; exact absurd q2 q_
      have hpm := pln_mono (tpB (r 1) bs) (show i_14 ≤ 8192 by omega)
      refine Zn.seg (pc2 := 71) (ls2 := [some (za (A 0)), some (zi x), some (zi w_), some (zi ((plB (tpB (r 1) bs) i_14).length : Int)), some (zi (i_14 : Int)), j_15, j_16, j_17, j_18, j_19, j_20, j_21, j_22, j_23]) (st2 := [zi 8192, zi (i_14 : Int)]) [(66, .iload 4), (68, .sipush 8192)] (by decide +kernel) rfl ?_
      refine Zn.icmp (c := .ge) (off := 60) 131 (by decide +kernel) rfl ⟨by omega, by omega⟩ ⟨by decide, by decide⟩ (fun c_26 => absurd (show 8192 ≤ (i_14 : Int) from c_26) (by omega)) (fun c_26 => ?_)
      have c_26 : ¬ (8192 ≤ (i_14 : Int)) := c_26
      refine Zn.seg (pc2 := 77) (ls2 := [some (za (A 0)), some (zi x), some (zi w_), some (zi ((plB (tpB (r 1) bs) i_14).length : Int)), some (zi (i_14 : Int)), j_15, j_16, j_17, j_18, j_19, j_20, j_21, j_22, j_23]) (st2 := [zi (i_14 : Int), za (A 0)]) [(74, .aload_n 0), (75, .iload 4)] (by decide +kernel) rfl ?_
      refine Zn.call (ins := .invokevirtual 254) [za (A 0), zi (i_14 : Int)] [] (by decide +kernel) rfl rfl rfl ⟨rfl, rfl⟩ ⟨rfl, rfl, rfl⟩ rfl (zrecvV hD (p := 0) rfl rfl rfl) (sp_X8_isReference (A := A) (m := va_up (va_up (va_up (va_up (va_up (va_up (va_up (va_up m 19 t_) 20 a_) 21 b_) 24 (bOf (r 1) bs)) 25 ((d : Int) + 1)) 28 (bs : Int)) 29 ((aOf (r 1) bs).natAbs : Int)) 30 (bOf (r 1) bs)) (r := va_up (va_up (va_up (va_up (va_up (va_up r 11 n1) 12 n2) 13 n3) 14 (cpF (nfX (lOf (r 1) bs)) x4 (d + 1))) 15 (cpF (fpV (r 1) (lOf (r 1) bs) (aOf (r 1) bs) (bOf (r 1) bs)) x5 (d + 1))) 18 (arL ((plB (tpB (r 1) bs) i_14).map zN) (r 18))) (s := i_14) (zov_all hD) hD (by first | assumption | omega) (by first | assumption | omega)) (fun v h2 hp => ?_)
      obtain ⟨rfl, hq_27⟩ := hp
      refine Zn.eq (pc2 := 80) (ls2 := [some (za (A 0)), some (zi x), some (zi w_), some (zi ((plB (tpB (r 1) bs) i_14).length : Int)), some (zi (i_14 : Int)), j_15, j_16, j_17, j_18, j_19, j_20, j_21, j_22, j_23]) (st2 := [zi (refV ((r 1)) i_14)]) (h2 := zov (LM A (va_up (va_up (va_up (va_up (va_up (va_up (va_up (va_up m 19 t_) 20 a_) 21 b_) 24 (bOf (r 1) bs)) 25 ((d : Int) + 1)) 28 (bs : Int)) 29 ((aOf (r 1) bs).natAbs : Int)) 30 (bOf (r 1) bs)) (va_up (va_up (va_up (va_up (va_up (va_up r 11 n1) 12 n2) 13 n3) 14 (cpF (nfX (lOf (r 1) bs)) x4 (d + 1))) 15 (cpF (fpV (r 1) (lOf (r 1) bs) (aOf (r 1) bs) (bOf (r 1) bs)) x5 (d + 1))) 18 (arL ((plB (tpB (r 1) bs) i_14).map zN) (r 18)))) h) rfl rfl rfl hq_27 ?_
      have hD : zND (LM A (va_up (va_up (va_up (va_up (va_up (va_up (va_up (va_up m 19 t_) 20 a_) 21 b_) 24 (bOf (r 1) bs)) 25 ((d : Int) + 1)) 28 (bs : Int)) 29 ((aOf (r 1) bs).natAbs : Int)) 30 (bOf (r 1) bs)) (va_up (va_up (va_up (va_up (va_up (va_up r 11 n1) 12 n2) 13 n3) 14 (cpF (nfX (lOf (r 1) bs)) x4 (d + 1))) 15 (cpF (fpV (r 1) (lOf (r 1) bs) (aOf (r 1) bs) (bOf (r 1) bs)) x5 (d + 1))) 18 (arL ((plB (tpB (r 1) bs) i_14).map zN) (r 18)))) := hD
      refine Zn.ifc (c := .eq) (off := 45) 125 (by decide +kernel) rfl ⟨by omega, by omega⟩ (fun c_28 => ?_) (fun c_28 => ?_)
      · have c_28 : refV ((r 1)) i_14 = 0 := c_28
        refine Zn.seg (pc2 := 66) (ls2 := [some (za (A 0)), some (zi x), some (zi w_), some (zi ((plB (tpB (r 1) bs) i_14).length : Int)), some (zi ((i_14 : Int) + 1)), j_15, j_16, j_17, j_18, j_19, j_20, j_21, j_22, j_23]) (st2 := []) [(125, .iinc 4 1), (128, .goto (-62))] (by decide +kernel) rfl ?_
        exact Zn.eq rfl (zcons rfl (zcons rfl (zcons rfl (zcons (congrArg (fun z => some (zi z)) (by first | (exfalso; omega) | (rw [pln_t (tpB_t (hrp (by omega)) (by omega))]; done) | rw [plB_f (tpB_f (by rcases hrf with ⟨q1, q2⟩ | ⟨q1, q2⟩; (exact fun z_ => (by have z2_ := z_.2; omega)); (exact fun z_ => q1 z_.1)))])) (zcons (congrArg (fun z => some (zi z)) (by omega)) rfl))))) rfl (by first | (exfalso; omega) | (rw [arL_t (F := zN) (tpB_t (hrp (by omega)) (by omega))]; done) | rw [plB_f (tpB_f (by rcases hrf with ⟨q1, q2⟩ | ⟨q1, q2⟩; (exact fun z_ => (by have z2_ := z_.2; omega)); (exact fun z_ => q1 z_.1)))]) (ih_25 n1 n2 n3 t_ a_ b_ j_15 j_16 j_17 j_18 j_19 j_20 j_21 j_22 j_23)
      · have c_28 : ¬ (refV ((r 1)) i_14 = 0) := c_28
        refine Zn.seg (pc2 := 86) (ls2 := [some (za (A 0)), some (zi x), some (zi w_), some (zi ((plB (tpB (r 1) bs) i_14).length : Int)), some (zi (i_14 : Int)), j_15, j_16, j_17, j_18, j_19, j_20, j_21, j_22, j_23]) (st2 := [zi (i_14 : Int), za (A 0)]) [(83, .aload_n 0), (84, .iload 4)] (by decide +kernel) rfl ?_
        refine Zn.call (ins := .invokevirtual 211) [za (A 0), zi (i_14 : Int)] [] (by decide +kernel) rfl rfl rfl ⟨rfl, rfl⟩ ⟨rfl, rfl, rfl⟩ rfl (zrecvV hD (p := 0) rfl rfl rfl) (sp_X8_levels (A := A) (m := va_up (va_up (va_up (va_up (va_up (va_up (va_up (va_up m 19 t_) 20 a_) 21 b_) 24 (bOf (r 1) bs)) 25 ((d : Int) + 1)) 28 (bs : Int)) 29 ((aOf (r 1) bs).natAbs : Int)) 30 (bOf (r 1) bs)) (r := va_up (va_up (va_up (va_up (va_up (va_up r 11 n1) 12 n2) 13 n3) 14 (cpF (nfX (lOf (r 1) bs)) x4 (d + 1))) 15 (cpF (fpV (r 1) (lOf (r 1) bs) (aOf (r 1) bs) (bOf (r 1) bs)) x5 (d + 1))) 18 (arL ((plB (tpB (r 1) bs) i_14).map zN) (r 18))) (s := i_14) (l := (lOf (r 1) i_14)) (a := (aOf (r 1) i_14)) (b := (bOf (r 1) i_14)) (zov_all hD) hD (by first | assumption | omega) (hR) (rfl) ((hS _ hi_ (hrp (by omega))).1.1) ((hS _ hi_ (hrp (by omega))).1.2.2.1) ((hS _ hi_ (hrp (by omega))).1.2.2.2) (rfl) (rfl)) (fun v h2 hp => ?_)
        obtain ⟨rfl, hq_29⟩ := hp
        refine Zn.eq (pc2 := 89) (ls2 := [some (za (A 0)), some (zi x), some (zi w_), some (zi ((plB (tpB (r 1) bs) i_14).length : Int)), some (zi (i_14 : Int)), j_15, j_16, j_17, j_18, j_19, j_20, j_21, j_22, j_23]) (st2 := []) (h2 := zov (LM A (va_up (va_up (va_up (va_up (va_up (va_up (va_up (va_up m 19 ((lOf (r 1) i_14).length : Int)) 20 (aOf (r 1) i_14)) 21 (bOf (r 1) i_14)) 24 (bOf (r 1) bs)) 25 ((d : Int) + 1)) 28 (bs : Int)) 29 ((aOf (r 1) bs).natAbs : Int)) 30 (bOf (r 1) bs)) (va_up (va_up (va_up (va_up (va_up (va_up r 11 (arL ((lOf (r 1) i_14).map nX) (n1))) 12 (arL ((lOf (r 1) i_14).map (nY ((r 1)))) (n2))) 13 (arL ((lOf (r 1) i_14).map (nF ((r 1)))) (n3))) 14 (cpF (nfX (lOf (r 1) bs)) x4 (d + 1))) 15 (cpF (fpV (r 1) (lOf (r 1) bs) (aOf (r 1) bs) (bOf (r 1) bs)) x5 (d + 1))) 18 (arL ((plB (tpB (r 1) bs) i_14).map zN) (r 18)))) h) rfl rfl rfl (hq_29.trans ((LM_over _ _ _ _ _ _).trans rfl)) ?_
        have hD : zND (LM A (va_up (va_up (va_up (va_up (va_up (va_up (va_up (va_up m 19 ((lOf (r 1) i_14).length : Int)) 20 (aOf (r 1) i_14)) 21 (bOf (r 1) i_14)) 24 (bOf (r 1) bs)) 25 ((d : Int) + 1)) 28 (bs : Int)) 29 ((aOf (r 1) bs).natAbs : Int)) 30 (bOf (r 1) bs)) (va_up (va_up (va_up (va_up (va_up (va_up r 11 (arL ((lOf (r 1) i_14).map nX) (n1))) 12 (arL ((lOf (r 1) i_14).map (nY ((r 1)))) (n2))) 13 (arL ((lOf (r 1) i_14).map (nF ((r 1)))) (n3))) 14 (cpF (nfX (lOf (r 1) bs)) x4 (d + 1))) 15 (cpF (fpV (r 1) (lOf (r 1) bs) (aOf (r 1) bs) (bOf (r 1) bs)) x5 (d + 1))) 18 (arL ((plB (tpB (r 1) bs) i_14).map zN) (r 18)))) := hD
        refine Zn.seg (pc2 := 90) (ls2 := [some (za (A 0)), some (zi x), some (zi w_), some (zi ((plB (tpB (r 1) bs) i_14).length : Int)), some (zi (i_14 : Int)), j_15, j_16, j_17, j_18, j_19, j_20, j_21, j_22, j_23]) (st2 := [za (A 0)]) [(89, .aload_n 0)] (by decide +kernel) rfl ?_
        refine Zn.get (ix := 204) hD 0 (by decide +kernel) rfl rfl rfl ?_
        refine Zn.eq (st2 := [zj (aOf (r 1) i_14)]) rfl rfl rfl rfl ?_
        refine Zn.call (ins := .invokestatic 192) [zj (aOf (r 1) i_14)] [] (by decide +kernel) rfl rfl rfl ⟨rfl, rfl⟩ ⟨rfl, rfl, rfl⟩ rfl (zrecvS (by decide)) (sp_X8_plain (x := aOf (r 1) i_14) ((ab_rng (hS _ hi_ (hrp (by omega)))).1.1) ((ab_rng (hS _ hi_ (hrp (by omega)))).1.2)) (fun v h2 hp => ?_)
        obtain ⟨rfl, hq_30⟩ := hp
        refine Zn.eq (pc2 := 96) (ls2 := [some (za (A 0)), some (zi x), some (zi w_), some (zi ((plB (tpB (r 1) bs) i_14).length : Int)), some (zi (i_14 : Int)), j_15, j_16, j_17, j_18, j_19, j_20, j_21, j_22, j_23]) (st2 := [zj ((aOf (r 1) i_14).natAbs : Int)]) (h2 := zov (LM A (va_up (va_up (va_up (va_up (va_up (va_up (va_up (va_up m 19 ((lOf (r 1) i_14).length : Int)) 20 (aOf (r 1) i_14)) 21 (bOf (r 1) i_14)) 24 (bOf (r 1) bs)) 25 ((d : Int) + 1)) 28 (bs : Int)) 29 ((aOf (r 1) bs).natAbs : Int)) 30 (bOf (r 1) bs)) (va_up (va_up (va_up (va_up (va_up (va_up r 11 (arL ((lOf (r 1) i_14).map nX) (n1))) 12 (arL ((lOf (r 1) i_14).map (nY ((r 1)))) (n2))) 13 (arL ((lOf (r 1) i_14).map (nF ((r 1)))) (n3))) 14 (cpF (nfX (lOf (r 1) bs)) x4 (d + 1))) 15 (cpF (fpV (r 1) (lOf (r 1) bs) (aOf (r 1) bs) (bOf (r 1) bs)) x5 (d + 1))) 18 (arL ((plB (tpB (r 1) bs) i_14).map zN) (r 18)))) h) rfl rfl rfl hq_30 ?_
        have hD : zND (LM A (va_up (va_up (va_up (va_up (va_up (va_up (va_up (va_up m 19 ((lOf (r 1) i_14).length : Int)) 20 (aOf (r 1) i_14)) 21 (bOf (r 1) i_14)) 24 (bOf (r 1) bs)) 25 ((d : Int) + 1)) 28 (bs : Int)) 29 ((aOf (r 1) bs).natAbs : Int)) 30 (bOf (r 1) bs)) (va_up (va_up (va_up (va_up (va_up (va_up r 11 (arL ((lOf (r 1) i_14).map nX) (n1))) 12 (arL ((lOf (r 1) i_14).map (nY ((r 1)))) (n2))) 13 (arL ((lOf (r 1) i_14).map (nF ((r 1)))) (n3))) 14 (cpF (nfX (lOf (r 1) bs)) x4 (d + 1))) 15 (cpF (fpV (r 1) (lOf (r 1) bs) (aOf (r 1) bs) (bOf (r 1) bs)) x5 (d + 1))) 18 (arL ((plB (tpB (r 1) bs) i_14).map zN) (r 18)))) := hD
        refine Zn.seg (pc2 := 97) (ls2 := [some (za (A 0)), some (zi x), some (zi w_), some (zi ((plB (tpB (r 1) bs) i_14).length : Int)), some (zi (i_14 : Int)), j_15, j_16, j_17, j_18, j_19, j_20, j_21, j_22, j_23]) (st2 := [za (A 0), zj ((aOf (r 1) i_14).natAbs : Int)]) [(96, .aload_n 0)] (by decide +kernel) rfl ?_
        refine Zn.get (ix := 208) hD 0 (by decide +kernel) rfl rfl rfl ?_
        refine Zn.eq (st2 := [zj (bOf (r 1) i_14), zj ((aOf (r 1) i_14).natAbs : Int)]) rfl rfl rfl rfl ?_
        refine Zn.seg (pc2 := 101) (ls2 := [some (za (A 0)), some (zi x), some (zi w_), some (zi ((plB (tpB (r 1) bs) i_14).length : Int)), some (zi (i_14 : Int)), j_15, j_16, j_17, j_18, j_19, j_20, j_21, j_22, j_23]) (st2 := [za (A 0), zj (bOf (r 1) i_14), zj ((aOf (r 1) i_14).natAbs : Int)]) [(100, .aload_n 0)] (by decide +kernel) rfl ?_
        refine Zn.get (ix := 248) hD 0 (by decide +kernel) rfl rfl rfl ?_
        refine Zn.eq (st2 := [zj ((aOf (r 1) bs).natAbs : Int), zj (bOf (r 1) i_14), zj ((aOf (r 1) i_14).natAbs : Int)]) rfl rfl rfl rfl ?_
        refine Zn.seg (pc2 := 105) (ls2 := [some (za (A 0)), some (zi x), some (zi w_), some (zi ((plB (tpB (r 1) bs) i_14).length : Int)), some (zi (i_14 : Int)), j_15, j_16, j_17, j_18, j_19, j_20, j_21, j_22, j_23]) (st2 := [za (A 0), zj ((aOf (r 1) bs).natAbs : Int), zj (bOf (r 1) i_14), zj ((aOf (r 1) i_14).natAbs : Int)]) [(104, .aload_n 0)] (by decide +kernel) rfl ?_
        refine Zn.get (ix := 251) hD 0 (by decide +kernel) rfl rfl rfl ?_
        refine Zn.eq (st2 := [zj (bOf (r 1) bs), zj ((aOf (r 1) bs).natAbs : Int), zj (bOf (r 1) i_14), zj ((aOf (r 1) i_14).natAbs : Int)]) rfl rfl rfl rfl ?_
        refine Zn.call (ins := .invokestatic 257) [zj ((aOf (r 1) i_14).natAbs : Int), zj (bOf (r 1) i_14), zj ((aOf (r 1) bs).natAbs : Int), zj (bOf (r 1) bs)] [] (by decide +kernel) rfl rfl rfl ⟨rfl, rfl⟩ ⟨rfl, rfl, rfl⟩ rfl (zrecvS (by decide)) (sp_X8_compare (x := ((aOf (r 1) i_14).natAbs : Int)) (y := bOf (r 1) i_14) (z := ((aOf (r 1) bs).natAbs : Int)) (w := bOf (r 1) bs) (⟨by omega, by have := ab_rng (hS _ hi_ (hrp (by omega))); omega⟩) ((ab_rng (hS _ hi_ (hrp (by omega)))).2) (⟨by omega, by omega⟩) (hab.2)) (fun v h2 hp => ?_)
        obtain ⟨rfl, hq_31⟩ := hp
        refine Zn.eq (pc2 := 111) (ls2 := [some (za (A 0)), some (zi x), some (zi w_), some (zi ((plB (tpB (r 1) bs) i_14).length : Int)), some (zi (i_14 : Int)), j_15, j_16, j_17, j_18, j_19, j_20, j_21, j_22, j_23]) (st2 := [zi (cmpV ((aOf (r 1) i_14).natAbs : Int) (bOf (r 1) i_14) ((aOf (r 1) bs).natAbs : Int) (bOf (r 1) bs))]) (h2 := zov (LM A (va_up (va_up (va_up (va_up (va_up (va_up (va_up (va_up m 19 ((lOf (r 1) i_14).length : Int)) 20 (aOf (r 1) i_14)) 21 (bOf (r 1) i_14)) 24 (bOf (r 1) bs)) 25 ((d : Int) + 1)) 28 (bs : Int)) 29 ((aOf (r 1) bs).natAbs : Int)) 30 (bOf (r 1) bs)) (va_up (va_up (va_up (va_up (va_up (va_up r 11 (arL ((lOf (r 1) i_14).map nX) (n1))) 12 (arL ((lOf (r 1) i_14).map (nY ((r 1)))) (n2))) 13 (arL ((lOf (r 1) i_14).map (nF ((r 1)))) (n3))) 14 (cpF (nfX (lOf (r 1) bs)) x4 (d + 1))) 15 (cpF (fpV (r 1) (lOf (r 1) bs) (aOf (r 1) bs) (bOf (r 1) bs)) x5 (d + 1))) 18 (arL ((plB (tpB (r 1) bs) i_14).map zN) (r 18)))) h) rfl rfl rfl hq_31 ?_
        have hD : zND (LM A (va_up (va_up (va_up (va_up (va_up (va_up (va_up (va_up m 19 ((lOf (r 1) i_14).length : Int)) 20 (aOf (r 1) i_14)) 21 (bOf (r 1) i_14)) 24 (bOf (r 1) bs)) 25 ((d : Int) + 1)) 28 (bs : Int)) 29 ((aOf (r 1) bs).natAbs : Int)) 30 (bOf (r 1) bs)) (va_up (va_up (va_up (va_up (va_up (va_up r 11 (arL ((lOf (r 1) i_14).map nX) (n1))) 12 (arL ((lOf (r 1) i_14).map (nY ((r 1)))) (n2))) 13 (arL ((lOf (r 1) i_14).map (nF ((r 1)))) (n3))) 14 (cpF (nfX (lOf (r 1) bs)) x4 (d + 1))) 15 (cpF (fpV (r 1) (lOf (r 1) bs) (aOf (r 1) bs) (bOf (r 1) bs)) x5 (d + 1))) 18 (arL ((plB (tpB (r 1) bs) i_14).map zN) (r 18)))) := hD
        have q_32 := cmpV_b ((aOf (r 1) i_14).natAbs : Int) (bOf (r 1) i_14) ((aOf (r 1) bs).natAbs : Int) (bOf (r 1) bs)
        refine Zn.ifc (c := .ne) (off := 14) 125 (by decide +kernel) rfl ⟨by omega, by omega⟩ (fun c_33 => ?_) (fun c_33 => ?_)
        · have c_33 : cmpV ((aOf (r 1) i_14).natAbs : Int) (bOf (r 1) i_14) ((aOf (r 1) bs).natAbs : Int) (bOf (r 1) bs) ≠ 0 := c_33
          refine Zn.seg (pc2 := 66) (ls2 := [some (za (A 0)), some (zi x), some (zi w_), some (zi ((plB (tpB (r 1) bs) i_14).length : Int)), some (zi ((i_14 : Int) + 1)), j_15, j_16, j_17, j_18, j_19, j_20, j_21, j_22, j_23]) (st2 := []) [(125, .iinc 4 1), (128, .goto (-62))] (by decide +kernel) rfl ?_
          exact Zn.eq rfl (zcons rfl (zcons rfl (zcons rfl (zcons (congrArg (fun z => some (zi z)) (by first | (exfalso; omega) | (rw [pln_t (tpB_t (hrp (by omega)) (by omega))]; done) | rw [plB_f (tpB_f (by rcases hrf with ⟨q1, q2⟩ | ⟨q1, q2⟩; (exact fun z_ => (by have z2_ := z_.2; omega)); (exact fun z_ => q1 z_.1)))])) (zcons (congrArg (fun z => some (zi z)) (by omega)) rfl))))) rfl (by first | (exfalso; omega) | (rw [arL_t (F := zN) (tpB_t (hrp (by omega)) (by omega))]; done) | rw [plB_f (tpB_f (by rcases hrf with ⟨q1, q2⟩ | ⟨q1, q2⟩; (exact fun z_ => (by have z2_ := z_.2; omega)); (exact fun z_ => q1 z_.1)))]) (ih_25 (arL ((lOf (r 1) i_14).map nX) (n1)) (arL ((lOf (r 1) i_14).map (nY ((r 1)))) (n2)) (arL ((lOf (r 1) i_14).map (nF ((r 1)))) (n3)) ((lOf (r 1) i_14).length : Int) (aOf (r 1) i_14) (bOf (r 1) i_14) j_15 j_16 j_17 j_18 j_19 j_20 j_21 j_22 j_23)
        · have c_33 : ¬ (cmpV ((aOf (r 1) i_14).natAbs : Int) (bOf (r 1) i_14) ((aOf (r 1) bs).natAbs : Int) (bOf (r 1) bs) ≠ 0) := c_33
          refine Zn.seg (pc2 := 115) (ls2 := [some (za (A 0)), some (zi x), some (zi w_), some (zi ((plB (tpB (r 1) bs) i_14).length : Int)), some (zi (i_14 : Int)), j_15, j_16, j_17, j_18, j_19, j_20, j_21, j_22, j_23]) (st2 := [za (A 0)]) [(114, .aload_n 0)] (by decide +kernel) rfl ?_
          refine Zn.get (ix := 67) hD 0 (by decide +kernel) rfl rfl rfl ?_
          refine Zn.seg (pc2 := 121) (ls2 := [some (za (A 0)), some (zi x), some (zi w_), some (zi ((plB (tpB (r 1) bs) i_14).length : Int)), some (zi (i_14 : Int)), j_15, j_16, j_17, j_18, j_19, j_20, j_21, j_22, j_23]) (st2 := [zi (i_14 : Int), zi ((plB (tpB (r 1) bs) i_14).length : Int), za (A 18)]) [(118, .iload_n 3), (119, .iload 4)] (by decide +kernel) rfl ?_
          refine Zn.iast hD 18 ((plB (tpB (r 1) bs) i_14).length) (by decide +kernel) rfl (by rfl) (by have := pln_ltK (b := tpB (r 1) bs) (K := 8192) hi_ (tpB_t (hrp (by omega)) (by omega)); omega) rfl ?_
          refine Zn.eq (h2 := zov (LM A (va_up (va_up (va_up (va_up (va_up (va_up (va_up (va_up m 19 ((lOf (r 1) i_14).length : Int)) 20 (aOf (r 1) i_14)) 21 (bOf (r 1) i_14)) 24 (bOf (r 1) bs)) 25 ((d : Int) + 1)) 28 (bs : Int)) 29 ((aOf (r 1) bs).natAbs : Int)) 30 (bOf (r 1) bs)) (va_up (va_up (va_up (va_up (va_up (va_up r 11 (arL ((lOf (r 1) i_14).map nX) (n1))) 12 (arL ((lOf (r 1) i_14).map (nY ((r 1)))) (n2))) 13 (arL ((lOf (r 1) i_14).map (nF ((r 1)))) (n3))) 14 (cpF (nfX (lOf (r 1) bs)) x4 (d + 1))) 15 (cpF (fpV (r 1) (lOf (r 1) bs) (aOf (r 1) bs) (bOf (r 1) bs)) x5 (d + 1))) 18 (va_up (arL ((plB (tpB (r 1) bs) i_14).map zN) (r 18)) ((plB (tpB (r 1) bs) i_14).length) (i_14 : Int)))) h) rfl rfl rfl (rfl) ?_
          have hD : zND (LM A (va_up (va_up (va_up (va_up (va_up (va_up (va_up (va_up m 19 ((lOf (r 1) i_14).length : Int)) 20 (aOf (r 1) i_14)) 21 (bOf (r 1) i_14)) 24 (bOf (r 1) bs)) 25 ((d : Int) + 1)) 28 (bs : Int)) 29 ((aOf (r 1) bs).natAbs : Int)) 30 (bOf (r 1) bs)) (va_up (va_up (va_up (va_up (va_up (va_up r 11 (arL ((lOf (r 1) i_14).map nX) (n1))) 12 (arL ((lOf (r 1) i_14).map (nY ((r 1)))) (n2))) 13 (arL ((lOf (r 1) i_14).map (nF ((r 1)))) (n3))) 14 (cpF (nfX (lOf (r 1) bs)) x4 (d + 1))) 15 (cpF (fpV (r 1) (lOf (r 1) bs) (aOf (r 1) bs) (bOf (r 1) bs)) x5 (d + 1))) 18 (va_up (arL ((plB (tpB (r 1) bs) i_14).map zN) (r 18)) ((plB (tpB (r 1) bs) i_14).length) (i_14 : Int)))) := hD
          refine Zn.seg (pc2 := 66) (ls2 := [some (za (A 0)), some (zi x), some (zi w_), some (zi (((plB (tpB (r 1) bs) i_14).length : Int) + 1)), some (zi ((i_14 : Int) + 1)), j_15, j_16, j_17, j_18, j_19, j_20, j_21, j_22, j_23]) (st2 := []) [(122, .iinc 3 1), (125, .iinc 4 1), (128, .goto (-62))] (by decide +kernel) rfl ?_
          exact Zn.eq rfl (zcons rfl (zcons rfl (zcons rfl (zcons (congrArg (fun z => some (zi z)) (by first | (exfalso; omega) | (rw [pln_t (tpB_t (hrp (by omega)) (by omega))]; done) | rw [plB_f (tpB_f (by rcases hrf with ⟨q1, q2⟩ | ⟨q1, q2⟩; (exact fun z_ => (by have z2_ := z_.2; omega)); (exact fun z_ => q1 z_.1)))])) (zcons (congrArg (fun z => some (zi z)) (by omega)) rfl))))) rfl (by first | (exfalso; omega) | (rw [arL_t (F := zN) (tpB_t (hrp (by omega)) (by omega))]; done) | rw [plB_f (tpB_f (by rcases hrf with ⟨q1, q2⟩ | ⟨q1, q2⟩; (exact fun z_ => (by have z2_ := z_.2; omega)); (exact fun z_ => q1 z_.1)))]) (ih_25 (arL ((lOf (r 1) i_14).map nX) (n1)) (arL ((lOf (r 1) i_14).map (nY ((r 1)))) (n2)) (arL ((lOf (r 1) i_14).map (nF ((r 1)))) (n3)) ((lOf (r 1) i_14).length : Int) (aOf (r 1) i_14) (bOf (r 1) i_14) j_15 j_16 j_17 j_18 j_19 j_20 j_21 j_22 j_23)
    · skip
      refine Zn.seg (pc2 := 71) (ls2 := [some (za (A 0)), some (zi x), some (zi w_), some (zi ((plB (tpB (r 1) bs) 8192).length : Int)), some (zi (8192 : Int)), j_15, j_16, j_17, j_18, j_19, j_20, j_21, j_22, j_23]) (st2 := [zi 8192, zi (8192 : Int)]) [(66, .iload 4), (68, .sipush 8192)] (by decide +kernel) rfl ?_
      refine Zn.icmp (c := .ge) (off := 60) 131 (by decide +kernel) rfl ⟨by omega, by omega⟩ ⟨by decide, by decide⟩ (fun c_34 => ?_) (fun c_34 => absurd (show 8192 ≤ (8192 : Int) from by decide) c_34)
      have c_34 : 8192 ≤ (8192 : Int) := c_34
      refine Zn.seg (pc2 := 133) (ls2 := [some (za (A 0)), some (zi x), some (zi w_), some (zi ((plB (tpB (r 1) bs) 8192).length : Int)), some (zi (8192 : Int)), j_15, j_16, j_17, j_18, j_19, j_20, j_21, j_22, j_23]) (st2 := [zi 1, za (A 0)]) [(131, .aload_n 0), (132, .iconst 1)] (by decide +kernel) rfl ?_
      refine Zn.call (ins := .invokevirtual 126) [za (A 0), zi 1] [] (by decide +kernel) rfl rfl rfl ⟨rfl, rfl⟩ ⟨rfl, rfl, rfl⟩ rfl (zrecvV hD (p := 0) rfl rfl rfl) (sp_X8_setOf (A := A) (m := va_up (va_up (va_up (va_up (va_up (va_up (va_up (va_up m 19 t_) 20 a_) 21 b_) 24 (bOf (r 1) bs)) 25 ((d : Int) + 1)) 28 (bs : Int)) 29 ((aOf (r 1) bs).natAbs : Int)) 30 (bOf (r 1) bs)) (r := va_up (va_up (va_up (va_up (va_up (va_up r 11 n1) 12 n2) 13 n3) 14 (cpF (nfX (lOf (r 1) bs)) x4 (d + 1))) 15 (cpF (fpV (r 1) (lOf (r 1) bs) (aOf (r 1) bs) (bOf (r 1) bs)) x5 (d + 1))) 18 (arL ((plB (tpB (r 1) bs) 8192).map zN) (r 18))) (k := 1) (zov_all hD) hD (hR.1) (⟨by decide, by decide⟩)) (fun v h2 hp => ?_)
      obtain ⟨rfl, hq_35⟩ := hp
      refine Zn.eq (pc2 := 136) (ls2 := [some (za (A 0)), some (zi x), some (zi w_), some (zi ((plB (tpB (r 1) bs) 8192).length : Int)), some (zi (8192 : Int)), j_15, j_16, j_17, j_18, j_19, j_20, j_21, j_22, j_23]) (st2 := [zi (mk (kindB ((r 1)) 1) : Int)]) (h2 := zov (LM A (va_up (va_up (va_up (va_up (va_up (va_up (va_up (va_up m 19 t_) 20 a_) 21 b_) 24 (bOf (r 1) bs)) 25 ((d : Int) + 1)) 28 (bs : Int)) 29 ((aOf (r 1) bs).natAbs : Int)) 30 (bOf (r 1) bs)) (va_up (va_up (va_up (va_up (va_up (va_up r 11 n1) 12 n2) 13 n3) 14 (cpF (nfX (lOf (r 1) bs)) x4 (d + 1))) 15 (cpF (fpV (r 1) (lOf (r 1) bs) (aOf (r 1) bs) (bOf (r 1) bs)) x5 (d + 1))) 18 (arL ((plB (tpB (r 1) bs) 8192).map zN) (r 18)))) h) rfl rfl rfl hq_35 ?_
      have hD : zND (LM A (va_up (va_up (va_up (va_up (va_up (va_up (va_up (va_up m 19 t_) 20 a_) 21 b_) 24 (bOf (r 1) bs)) 25 ((d : Int) + 1)) 28 (bs : Int)) 29 ((aOf (r 1) bs).natAbs : Int)) 30 (bOf (r 1) bs)) (va_up (va_up (va_up (va_up (va_up (va_up r 11 n1) 12 n2) 13 n3) 14 (cpF (nfX (lOf (r 1) bs)) x4 (d + 1))) 15 (cpF (fpV (r 1) (lOf (r 1) bs) (aOf (r 1) bs) (bOf (r 1) bs)) x5 (d + 1))) 18 (arL ((plB (tpB (r 1) bs) 8192).map zN) (r 18)))) := hD
      refine Zn.seg (pc2 := 147) (ls2 := [some (za (A 0)), some (zi x), some (zi w_), some (zi ((plB (tpB (r 1) bs) 8192).length : Int)), some (zi (mk (kindB ((r 1)) 1) : Int)), some (zj 0), none, some (zj 1), none, some (zi 0), j_20, j_21, j_22, j_23]) (st2 := []) [(136, .istore 4), (138, .lconst 0), (139, .lstore 5), (141, .lconst 1), (142, .lstore 7), (144, .iconst 0), (145, .istore 9)] (by decide +kernel) rfl ?_
      refine Zn.eq (pc2 := 147) (ls2 := [some (za (A 0)), some (zi x), some (zi w_), some (zi ((plB (tpB (r 1) bs) 8192).length : Int)), some (zi (mk (kindB ((r 1)) 1) : Int)), some (zj (loU (r 1) bs x 0)), none, some (zj 1), none, some (zi (0 : Int)), j_20, j_21, j_22, j_23]) (st2 := []) (h2 := zov (LM A (va_up (va_up (va_up (va_up (va_up (va_up (va_up (va_up m 19 t_) 20 a_) 21 b_) 24 (bOf (r 1) bs)) 25 ((d : Int) + 1)) 28 (bs : Int)) 29 ((aOf (r 1) bs).natAbs : Int)) 30 (bOf (r 1) bs)) (va_up (va_up (va_up (va_up (va_up (va_up r 11 n1) 12 n2) 13 n3) 14 (cpF (nfX (lOf (r 1) bs)) x4 (d + 1))) 15 (cpF (fpV (r 1) (lOf (r 1) bs) (aOf (r 1) bs) (bOf (r 1) bs)) x5 (d + 1))) 18 (arL ((plB (tpB (r 1) bs) 8192).map zN) (r 18)))) h) rfl rfl rfl (rfl) ?_
      have hD : zND (LM A (va_up (va_up (va_up (va_up (va_up (va_up (va_up (va_up m 19 t_) 20 a_) 21 b_) 24 (bOf (r 1) bs)) 25 ((d : Int) + 1)) 28 (bs : Int)) 29 ((aOf (r 1) bs).natAbs : Int)) 30 (bOf (r 1) bs)) (va_up (va_up (va_up (va_up (va_up (va_up r 11 n1) 12 n2) 13 n3) 14 (cpF (nfX (lOf (r 1) bs)) x4 (d + 1))) 15 (cpF (fpV (r 1) (lOf (r 1) bs) (aOf (r 1) bs) (bOf (r 1) bs)) x5 (d + 1))) 18 (arL ((plB (tpB (r 1) bs) 8192).map zN) (r 18)))) := hD
      refine xloop (P := fun i_36 => ∀ j_39 j_40 j_41 j_42 : Option zV, Zn (8, xI_X8_lost, 14, 5, 125, 0, 0, false) (some .long) 147 [some (za (A 0)), some (zi x), some (zi w_), some (zi ((plB (tpB (r 1) bs) 8192).length : Int)), some (zi (mk (kindB ((r 1)) 1) : Int)), some (zj (loU (r 1) bs x i_36)), none, some (zj 1), none, some (zi (i_36 : Int)), j_39, j_40, j_41, j_42] [] (zov (LM A (va_up (va_up (va_up (va_up (va_up (va_up (va_up (va_up m 19 t_) 20 a_) 21 b_) 24 (bOf (r 1) bs)) 25 ((d : Int) + 1)) 28 (bs : Int)) 29 ((aOf (r 1) bs).natAbs : Int)) 30 (bOf (r 1) bs)) (va_up (va_up (va_up (va_up (va_up (va_up r 11 n1) 12 n2) 13 n3) 14 (cpF (nfX (lOf (r 1) bs)) x4 (d + 1))) 15 (cpF (fpV (r 1) (lOf (r 1) bs) (aOf (r 1) bs) (bOf (r 1) bs)) x5 (d + 1))) 18 (arL ((plB (tpB (r 1) bs) 8192).map zN) (r 18)))) h) _) (8192) (fun i_36 hi_43 ih_44 j_39 j_40 j_41 j_42 => ?_) (fun j_39 j_40 j_41 j_42 => ?_) j_20 j_21 j_22 j_23
      · have hi_ : i_36 < 8192 := hi_43
        have hfm := mk_lt (kindB (r 1) 1)
        have hbdl := bd_lt (a := i_36) (b := (mk (kindB (r 1) 1))) hi_
        have hav := anV_b (plB (tpB (r 1) bs) 8192) i_36 (plB (tpB (r 1) bs) 8192).length
        refine Zn.seg (pc2 := 152) (ls2 := [some (za (A 0)), some (zi x), some (zi w_), some (zi ((plB (tpB (r 1) bs) 8192).length : Int)), some (zi (mk (kindB ((r 1)) 1) : Int)), some (zj (loU (r 1) bs x i_36)), none, some (zj 1), none, some (zi (i_36 : Int)), j_39, j_40, j_41, j_42]) (st2 := [zi 8192, zi (i_36 : Int)]) [(147, .iload 9), (149, .sipush 8192)] (by decide +kernel) rfl ?_
        refine Zn.icmp (c := .ge) (off := 140) 292 (by decide +kernel) rfl ⟨by omega, by omega⟩ ⟨by decide, by decide⟩ (fun c_45 => absurd (show 8192 ≤ (i_36 : Int) from c_45) (by omega)) (fun c_45 => ?_)
        have c_45 : ¬ (8192 ≤ (i_36 : Int)) := c_45
        refine Zn.seg (pc2 := 161) (ls2 := [some (za (A 0)), some (zi x), some (zi w_), some (zi ((plB (tpB (r 1) bs) 8192).length : Int)), some (zi (mk (kindB ((r 1)) 1) : Int)), some (zj (loU (r 1) bs x i_36)), none, some (zj 1), none, some (zi (i_36 : Int)), some (zi 0), some (zi 0), j_41, j_42]) (st2 := []) [(155, .iconst 0), (156, .istore 10), (158, .iconst 0), (159, .istore 11)] (by decide +kernel) rfl ?_
        refine Zn.eq (pc2 := 161) (ls2 := [some (za (A 0)), some (zi x), some (zi w_), some (zi ((plB (tpB (r 1) bs) 8192).length : Int)), some (zi (mk (kindB ((r 1)) 1) : Int)), some (zj (loU (r 1) bs x i_36)), none, some (zj 1), none, some (zi (i_36 : Int)), some (zi (anV (plB (tpB (r 1) bs) 8192) i_36 0)), some (zi (0 : Int)), j_41, j_42]) (st2 := []) (h2 := zov (LM A (va_up (va_up (va_up (va_up (va_up (va_up (va_up (va_up m 19 t_) 20 a_) 21 b_) 24 (bOf (r 1) bs)) 25 ((d : Int) + 1)) 28 (bs : Int)) 29 ((aOf (r 1) bs).natAbs : Int)) 30 (bOf (r 1) bs)) (va_up (va_up (va_up (va_up (va_up (va_up r 11 n1) 12 n2) 13 n3) 14 (cpF (nfX (lOf (r 1) bs)) x4 (d + 1))) 15 (cpF (fpV (r 1) (lOf (r 1) bs) (aOf (r 1) bs) (bOf (r 1) bs)) x5 (d + 1))) 18 (arL ((plB (tpB (r 1) bs) 8192).map zN) (r 18)))) h) rfl rfl rfl (rfl) ?_
        have hD : zND (LM A (va_up (va_up (va_up (va_up (va_up (va_up (va_up (va_up m 19 t_) 20 a_) 21 b_) 24 (bOf (r 1) bs)) 25 ((d : Int) + 1)) 28 (bs : Int)) 29 ((aOf (r 1) bs).natAbs : Int)) 30 (bOf (r 1) bs)) (va_up (va_up (va_up (va_up (va_up (va_up r 11 n1) 12 n2) 13 n3) 14 (cpF (nfX (lOf (r 1) bs)) x4 (d + 1))) 15 (cpF (fpV (r 1) (lOf (r 1) bs) (aOf (r 1) bs) (bOf (r 1) bs)) x5 (d + 1))) 18 (arL ((plB (tpB (r 1) bs) 8192).map zN) (r 18)))) := hD
        refine xloop (P := fun i_46 => ∀ j_49 j_50 : Option zV, Zn (8, xI_X8_lost, 14, 5, 125, 0, 0, false) (some .long) 161 [some (za (A 0)), some (zi x), some (zi w_), some (zi ((plB (tpB (r 1) bs) 8192).length : Int)), some (zi (mk (kindB ((r 1)) 1) : Int)), some (zj (loU (r 1) bs x i_36)), none, some (zj 1), none, some (zi (i_36 : Int)), some (zi (anV (plB (tpB (r 1) bs) 8192) i_36 i_46)), some (zi (i_46 : Int)), j_49, j_50] [] (zov (LM A (va_up (va_up (va_up (va_up (va_up (va_up (va_up (va_up m 19 t_) 20 a_) 21 b_) 24 (bOf (r 1) bs)) 25 ((d : Int) + 1)) 28 (bs : Int)) 29 ((aOf (r 1) bs).natAbs : Int)) 30 (bOf (r 1) bs)) (va_up (va_up (va_up (va_up (va_up (va_up r 11 n1) 12 n2) 13 n3) 14 (cpF (nfX (lOf (r 1) bs)) x4 (d + 1))) 15 (cpF (fpV (r 1) (lOf (r 1) bs) (aOf (r 1) bs) (bOf (r 1) bs)) x5 (d + 1))) 18 (arL ((plB (tpB (r 1) bs) 8192).map zN) (r 18)))) h) _) ((plB (tpB (r 1) bs) 8192).length) (fun i_46 hi_51 ih_52 j_49 j_50 => ?_) (fun j_49 j_50 => ?_) j_41 j_42
        · have hi_ : i_46 < (plB (tpB (r 1) bs) 8192).length := hi_51
          have han := anV_b (plB (tpB (r 1) bs) 8192) i_36 i_46
          have hnt := tpl_lt (R := r 1) (b := bs) hi_
          have hag := and_lt (a := i_36) (b := nfP (plB (tpB (r 1) bs) 8192) i_46) (by omega)
          refine Zn.seg (pc2 := 164) (ls2 := [some (za (A 0)), some (zi x), some (zi w_), some (zi ((plB (tpB (r 1) bs) 8192).length : Int)), some (zi (mk (kindB ((r 1)) 1) : Int)), some (zj (loU (r 1) bs x i_36)), none, some (zj 1), none, some (zi (i_36 : Int)), some (zi (anV (plB (tpB (r 1) bs) 8192) i_36 i_46)), some (zi (i_46 : Int)), j_49, j_50]) (st2 := [zi ((plB (tpB (r 1) bs) 8192).length : Int), zi (i_46 : Int)]) [(161, .iload 11), (163, .iload_n 3)] (by decide +kernel) rfl ?_
          refine Zn.icmp (c := .ge) (off := 41) 205 (by decide +kernel) rfl ⟨by omega, by omega⟩ ⟨by omega, by omega⟩ (fun c_53 => absurd (show ((plB (tpB (r 1) bs) 8192).length : Int) ≤ (i_46 : Int) from c_53) (by omega)) (fun c_53 => ?_)
          have c_53 : ¬ (((plB (tpB (r 1) bs) 8192).length : Int) ≤ (i_46 : Int)) := c_53
          refine Zn.seg (pc2 := 169) (ls2 := [some (za (A 0)), some (zi x), some (zi w_), some (zi ((plB (tpB (r 1) bs) 8192).length : Int)), some (zi (mk (kindB ((r 1)) 1) : Int)), some (zj (loU (r 1) bs x i_36)), none, some (zj 1), none, some (zi (i_36 : Int)), some (zi (anV (plB (tpB (r 1) bs) 8192) i_36 i_46)), some (zi (i_46 : Int)), j_49, j_50]) (st2 := [zi (anV (plB (tpB (r 1) bs) 8192) i_36 i_46)]) [(167, .iload 10)] (by decide +kernel) rfl ?_
          refine Zn.ifc (c := .ne) (off := 23) 192 (by decide +kernel) rfl ⟨by omega, by omega⟩ (fun c_54 => ?_) (fun c_54 => ?_)
          · have c_54 : anV (plB (tpB (r 1) bs) 8192) i_36 i_46 ≠ 0 := c_54
            refine Zn.seg (pc2 := 161) (ls2 := [some (za (A 0)), some (zi x), some (zi w_), some (zi ((plB (tpB (r 1) bs) 8192).length : Int)), some (zi (mk (kindB ((r 1)) 1) : Int)), some (zj (loU (r 1) bs x i_36)), none, some (zj 1), none, some (zi (i_36 : Int)), some (zi 1), some (zi ((i_46 : Int) + 1)), j_49, j_50]) (st2 := []) [(192, .iconst 1), (193, .goto 4), (197, .istore 10), (199, .iinc 11 1), (202, .goto (-41))] (by decide +kernel) rfl ?_
            exact Zn.eq rfl (zcons rfl (zcons rfl (zcons rfl (zcons rfl (zcons rfl (zcons rfl (zcons rfl (zcons rfl (zcons rfl (zcons rfl (zcons (congrArg (fun z => some (zi z)) (by rw [anV]; first | (exfalso; omega) | (rw [if_pos (by omega)]; done) | rw [if_neg (by omega)])) (zcons (congrArg (fun z => some (zi z)) (by omega)) rfl)))))))))))) rfl (rfl) (ih_52 j_49 j_50)
          · have c_54 : ¬ (anV (plB (tpB (r 1) bs) 8192) i_36 i_46 ≠ 0) := c_54
            refine Zn.seg (pc2 := 175) (ls2 := [some (za (A 0)), some (zi x), some (zi w_), some (zi ((plB (tpB (r 1) bs) 8192).length : Int)), some (zi (mk (kindB ((r 1)) 1) : Int)), some (zj (loU (r 1) bs x i_36)), none, some (zj 1), none, some (zi (i_36 : Int)), some (zi (anV (plB (tpB (r 1) bs) 8192) i_36 i_46)), some (zi (i_46 : Int)), j_49, j_50]) (st2 := [za (A 0), zi (i_36 : Int)]) [(172, .iload 9), (174, .aload_n 0)] (by decide +kernel) rfl ?_
            refine Zn.get (ix := 67) hD 0 (by decide +kernel) rfl rfl rfl ?_
            refine Zn.seg (pc2 := 180) (ls2 := [some (za (A 0)), some (zi x), some (zi w_), some (zi ((plB (tpB (r 1) bs) 8192).length : Int)), some (zi (mk (kindB ((r 1)) 1) : Int)), some (zj (loU (r 1) bs x i_36)), none, some (zj 1), none, some (zi (i_36 : Int)), some (zi (anV (plB (tpB (r 1) bs) 8192) i_36 i_46)), some (zi (i_46 : Int)), j_49, j_50]) (st2 := [zi (i_46 : Int), za (A 18), zi (i_36 : Int)]) [(178, .iload 11)] (by decide +kernel) rfl ?_
            refine Zn.iald hD 18 (i_46) (by decide +kernel) rfl (by omega) (by omega) rfl ?_
            refine Zn.eq (st2 := [zi ((arL ((plB (tpB (r 1) bs) 8192).map zN) (r 18)) i_46), zi (i_36 : Int)]) rfl rfl rfl rfl ?_
            refine Zn.topi (y := (nfP (plB (tpB (r 1) bs) 8192) i_46 : Int)) (arL_m (F := zN) (by omega)) ?_
            refine Zn.iand (((i_36 &&& (nfP (plB (tpB (r 1) bs) 8192) i_46) : Nat) : Int)) (by decide +kernel) (zand (by omega) (by omega)) ?_
            refine Zn.seg (pc2 := 183) (ls2 := [some (za (A 0)), some (zi x), some (zi w_), some (zi ((plB (tpB (r 1) bs) 8192).length : Int)), some (zi (mk (kindB ((r 1)) 1) : Int)), some (zj (loU (r 1) bs x i_36)), none, some (zj 1), none, some (zi (i_36 : Int)), some (zi (anV (plB (tpB (r 1) bs) 8192) i_36 i_46)), some (zi (i_46 : Int)), j_49, j_50]) (st2 := [za (A 0), zi ((i_36 &&& (nfP (plB (tpB (r 1) bs) 8192) i_46) : Nat) : Int)]) [(182, .aload_n 0)] (by decide +kernel) rfl ?_
            refine Zn.get (ix := 67) hD 0 (by decide +kernel) rfl rfl rfl ?_
            refine Zn.seg (pc2 := 188) (ls2 := [some (za (A 0)), some (zi x), some (zi w_), some (zi ((plB (tpB (r 1) bs) 8192).length : Int)), some (zi (mk (kindB ((r 1)) 1) : Int)), some (zj (loU (r 1) bs x i_36)), none, some (zj 1), none, some (zi (i_36 : Int)), some (zi (anV (plB (tpB (r 1) bs) 8192) i_36 i_46)), some (zi (i_46 : Int)), j_49, j_50]) (st2 := [zi (i_46 : Int), za (A 18), zi ((i_36 &&& (nfP (plB (tpB (r 1) bs) 8192) i_46) : Nat) : Int)]) [(186, .iload 11)] (by decide +kernel) rfl ?_
            refine Zn.iald hD 18 (i_46) (by decide +kernel) rfl (by omega) (by omega) rfl ?_
            refine Zn.eq (st2 := [zi ((arL ((plB (tpB (r 1) bs) 8192).map zN) (r 18)) i_46), zi ((i_36 &&& (nfP (plB (tpB (r 1) bs) 8192) i_46) : Nat) : Int)]) rfl rfl rfl rfl ?_
            refine Zn.topi (y := (nfP (plB (tpB (r 1) bs) 8192) i_46 : Int)) (arL_m (F := zN) (by omega)) ?_
            refine Zn.icmp (c := .ne) (off := 7) 196 (by decide +kernel) rfl ⟨by omega, by omega⟩ ⟨by omega, by omega⟩ (fun c_55 => ?_) (fun c_55 => ?_)
            · have c_55 : ((i_36 &&& (nfP (plB (tpB (r 1) bs) 8192) i_46) : Nat) : Int) ≠ (nfP (plB (tpB (r 1) bs) 8192) i_46 : Int) := c_55
              refine Zn.seg (pc2 := 161) (ls2 := [some (za (A 0)), some (zi x), some (zi w_), some (zi ((plB (tpB (r 1) bs) 8192).length : Int)), some (zi (mk (kindB ((r 1)) 1) : Int)), some (zj (loU (r 1) bs x i_36)), none, some (zj 1), none, some (zi (i_36 : Int)), some (zi 0), some (zi ((i_46 : Int) + 1)), j_49, j_50]) (st2 := []) [(196, .iconst 0), (197, .istore 10), (199, .iinc 11 1), (202, .goto (-41))] (by decide +kernel) rfl ?_
              exact Zn.eq rfl (zcons rfl (zcons rfl (zcons rfl (zcons rfl (zcons rfl (zcons rfl (zcons rfl (zcons rfl (zcons rfl (zcons rfl (zcons (congrArg (fun z => some (zi z)) (by rw [anV]; first | (exfalso; omega) | (rw [if_pos (by omega)]; done) | rw [if_neg (by omega)])) (zcons (congrArg (fun z => some (zi z)) (by omega)) rfl)))))))))))) rfl (rfl) (ih_52 j_49 j_50)
            · have c_55 : ¬ (((i_36 &&& (nfP (plB (tpB (r 1) bs) 8192) i_46) : Nat) : Int) ≠ (nfP (plB (tpB (r 1) bs) 8192) i_46 : Int)) := c_55
              refine Zn.seg (pc2 := 161) (ls2 := [some (za (A 0)), some (zi x), some (zi w_), some (zi ((plB (tpB (r 1) bs) 8192).length : Int)), some (zi (mk (kindB ((r 1)) 1) : Int)), some (zj (loU (r 1) bs x i_36)), none, some (zj 1), none, some (zi (i_36 : Int)), some (zi 1), some (zi ((i_46 : Int) + 1)), j_49, j_50]) (st2 := []) [(192, .iconst 1), (193, .goto 4), (197, .istore 10), (199, .iinc 11 1), (202, .goto (-41))] (by decide +kernel) rfl ?_
              exact Zn.eq rfl (zcons rfl (zcons rfl (zcons rfl (zcons rfl (zcons rfl (zcons rfl (zcons rfl (zcons rfl (zcons rfl (zcons rfl (zcons (congrArg (fun z => some (zi z)) (by rw [anV]; first | (exfalso; omega) | (rw [if_pos (by omega)]; done) | rw [if_neg (by omega)])) (zcons (congrArg (fun z => some (zi z)) (by omega)) rfl)))))))))))) rfl (rfl) (ih_52 j_49 j_50)
        · skip
          refine Zn.seg (pc2 := 164) (ls2 := [some (za (A 0)), some (zi x), some (zi w_), some (zi ((plB (tpB (r 1) bs) 8192).length : Int)), some (zi (mk (kindB ((r 1)) 1) : Int)), some (zj (loU (r 1) bs x i_36)), none, some (zj 1), none, some (zi (i_36 : Int)), some (zi (anV (plB (tpB (r 1) bs) 8192) i_36 ((plB (tpB (r 1) bs) 8192).length))), some (zi (((plB (tpB (r 1) bs) 8192).length) : Int)), j_49, j_50]) (st2 := [zi ((plB (tpB (r 1) bs) 8192).length : Int), zi (((plB (tpB (r 1) bs) 8192).length) : Int)]) [(161, .iload 11), (163, .iload_n 3)] (by decide +kernel) rfl ?_
          refine Zn.icmp (c := .ge) (off := 41) 205 (by decide +kernel) rfl ⟨by omega, by omega⟩ ⟨by omega, by omega⟩ (fun c_56 => ?_) (fun c_56 => absurd (show ((plB (tpB (r 1) bs) 8192).length : Int) ≤ (((plB (tpB (r 1) bs) 8192).length) : Int) from by omega) c_56)
          have c_56 : ((plB (tpB (r 1) bs) 8192).length : Int) ≤ (((plB (tpB (r 1) bs) 8192).length) : Int) := c_56
          refine Zn.seg (pc2 := 207) (ls2 := [some (za (A 0)), some (zi x), some (zi w_), some (zi ((plB (tpB (r 1) bs) 8192).length : Int)), some (zi (mk (kindB ((r 1)) 1) : Int)), some (zj (loU (r 1) bs x i_36)), none, some (zj 1), none, some (zi (i_36 : Int)), some (zi (anV (plB (tpB (r 1) bs) 8192) i_36 ((plB (tpB (r 1) bs) 8192).length))), some (zi (((plB (tpB (r 1) bs) 8192).length) : Int)), j_49, j_50]) (st2 := [zi (anV (plB (tpB (r 1) bs) 8192) i_36 ((plB (tpB (r 1) bs) 8192).length))]) [(205, .iload 10)] (by decide +kernel) rfl ?_
          refine Zn.ifc (c := .eq) (off := 79) 286 (by decide +kernel) rfl ⟨by omega, by omega⟩ (fun c_57 => ?_) (fun c_57 => ?_)
          · have c_57 : anV (plB (tpB (r 1) bs) 8192) i_36 ((plB (tpB (r 1) bs) 8192).length) = 0 := c_57
            refine Zn.seg (pc2 := 147) (ls2 := [some (za (A 0)), some (zi x), some (zi w_), some (zi ((plB (tpB (r 1) bs) 8192).length : Int)), some (zi (mk (kindB ((r 1)) 1) : Int)), some (zj (loU (r 1) bs x i_36)), none, some (zj 1), none, some (zi ((i_36 : Int) + 1)), some (zi (anV (plB (tpB (r 1) bs) 8192) i_36 ((plB (tpB (r 1) bs) 8192).length))), some (zi (((plB (tpB (r 1) bs) 8192).length) : Int)), j_49, j_50]) (st2 := []) [(286, .iinc 9 1), (289, .goto (-142))] (by decide +kernel) rfl ?_
            exact Zn.eq rfl (zcons rfl (zcons rfl (zcons rfl (zcons rfl (zcons rfl (zcons (congrArg (fun z => some (zj z)) (by rw [loU]; first | (exfalso; omega) | (rw [if_pos (by omega)]; done) | rw [if_neg (by omega), Int.add_zero])) (zcons rfl (zcons rfl (zcons rfl (zcons (congrArg (fun z => some (zi z)) (by omega)) rfl)))))))))) rfl (rfl) (ih_44 (some (zi (anV (plB (tpB (r 1) bs) 8192) i_36 ((plB (tpB (r 1) bs) 8192).length)))) (some (zi (((plB (tpB (r 1) bs) 8192).length) : Int))) j_49 j_50)
          · have c_57 : ¬ (anV (plB (tpB (r 1) bs) 8192) i_36 ((plB (tpB (r 1) bs) 8192).length) = 0) := c_57
            refine Zn.seg (pc2 := 215) (ls2 := [some (za (A 0)), some (zi x), some (zi w_), some (zi ((plB (tpB (r 1) bs) 8192).length : Int)), some (zi (mk (kindB ((r 1)) 1) : Int)), some (zj (loU (r 1) bs x i_36)), none, some (zj 1), none, some (zi (i_36 : Int)), some (zi (anV (plB (tpB (r 1) bs) 8192) i_36 ((plB (tpB (r 1) bs) 8192).length))), some (zi (((plB (tpB (r 1) bs) 8192).length) : Int)), j_49, j_50]) (st2 := [zi (-1), zi (mk (kindB ((r 1)) 1) : Int), zi (i_36 : Int)]) [(210, .iload 9), (212, .iload 4), (214, .iconst (-1))] (by decide +kernel) rfl ?_
            refine Zn.ixor (-((mk (kindB (r 1) 1)) : Int) - 1) (by decide +kernel) (znot (by omega)) ?_
            refine Zn.iand (((bdiff i_36 (mk (kindB (r 1) 1)) : Nat) : Int)) (by decide +kernel) (zandnot (by omega) (by omega)) ?_
            refine Zn.ifc (c := .ne) (off := 69) 286 (by decide +kernel) rfl ⟨by omega, by omega⟩ (fun c_58 => ?_) (fun c_58 => ?_)
            · have c_58 : ((bdiff i_36 (mk (kindB (r 1) 1)) : Nat) : Int) ≠ 0 := c_58
              refine Zn.seg (pc2 := 147) (ls2 := [some (za (A 0)), some (zi x), some (zi w_), some (zi ((plB (tpB (r 1) bs) 8192).length : Int)), some (zi (mk (kindB ((r 1)) 1) : Int)), some (zj (loU (r 1) bs x i_36)), none, some (zj 1), none, some (zi ((i_36 : Int) + 1)), some (zi (anV (plB (tpB (r 1) bs) 8192) i_36 ((plB (tpB (r 1) bs) 8192).length))), some (zi (((plB (tpB (r 1) bs) 8192).length) : Int)), j_49, j_50]) (st2 := []) [(286, .iinc 9 1), (289, .goto (-142))] (by decide +kernel) rfl ?_
              exact Zn.eq rfl (zcons rfl (zcons rfl (zcons rfl (zcons rfl (zcons rfl (zcons (congrArg (fun z => some (zj z)) (by rw [loU]; first | (exfalso; omega) | (rw [if_pos (by omega)]; done) | rw [if_neg (by omega), Int.add_zero])) (zcons rfl (zcons rfl (zcons rfl (zcons (congrArg (fun z => some (zi z)) (by omega)) rfl)))))))))) rfl (rfl) (ih_44 (some (zi (anV (plB (tpB (r 1) bs) 8192) i_36 ((plB (tpB (r 1) bs) 8192).length)))) (some (zi (((plB (tpB (r 1) bs) 8192).length) : Int))) j_49 j_50)
            · have c_58 : ¬ (((bdiff i_36 (mk (kindB (r 1) 1)) : Nat) : Int) ≠ 0) := c_58
              refine Zn.seg (pc2 := 226) (ls2 := [some (za (A 0)), some (zi x), some (zi w_), some (zi ((plB (tpB (r 1) bs) 8192).length : Int)), some (zi (mk (kindB ((r 1)) 1) : Int)), some (zj (loU (r 1) bs x i_36)), none, some (zj 1), none, some (zi (i_36 : Int)), some (zi (anV (plB (tpB (r 1) bs) 8192) i_36 ((plB (tpB (r 1) bs) 8192).length))), some (zj 1), none, some (zi 0)]) (st2 := []) [(220, .lconst 1), (221, .lstore 11), (223, .iconst 0), (224, .istore 13)] (by decide +kernel) rfl ?_
              refine Zn.eq (pc2 := 226) (ls2 := [some (za (A 0)), some (zi x), some (zi w_), some (zi ((plB (tpB (r 1) bs) 8192).length : Int)), some (zi (mk (kindB ((r 1)) 1) : Int)), some (zj (loU (r 1) bs x i_36)), none, some (zj 1), none, some (zi (i_36 : Int)), some (zi (anV (plB (tpB (r 1) bs) 8192) i_36 ((plB (tpB (r 1) bs) 8192).length))), some (zj (prN x (mk (kindB (r 1) 1)) i_36 0)), none, some (zi (0 : Int))]) (st2 := []) (h2 := zov (LM A (va_up (va_up (va_up (va_up (va_up (va_up (va_up (va_up m 19 t_) 20 a_) 21 b_) 24 (bOf (r 1) bs)) 25 ((d : Int) + 1)) 28 (bs : Int)) 29 ((aOf (r 1) bs).natAbs : Int)) 30 (bOf (r 1) bs)) (va_up (va_up (va_up (va_up (va_up (va_up r 11 n1) 12 n2) 13 n3) 14 (cpF (nfX (lOf (r 1) bs)) x4 (d + 1))) 15 (cpF (fpV (r 1) (lOf (r 1) bs) (aOf (r 1) bs) (bOf (r 1) bs)) x5 (d + 1))) 18 (arL ((plB (tpB (r 1) bs) 8192).map zN) (r 18)))) h) rfl rfl rfl (rfl) ?_
              have hD : zND (LM A (va_up (va_up (va_up (va_up (va_up (va_up (va_up (va_up m 19 t_) 20 a_) 21 b_) 24 (bOf (r 1) bs)) 25 ((d : Int) + 1)) 28 (bs : Int)) 29 ((aOf (r 1) bs).natAbs : Int)) 30 (bOf (r 1) bs)) (va_up (va_up (va_up (va_up (va_up (va_up r 11 n1) 12 n2) 13 n3) 14 (cpF (nfX (lOf (r 1) bs)) x4 (d + 1))) 15 (cpF (fpV (r 1) (lOf (r 1) bs) (aOf (r 1) bs) (bOf (r 1) bs)) x5 (d + 1))) 18 (arL ((plB (tpB (r 1) bs) 8192).map zN) (r 18)))) := hD
              refine xloop (P := fun i_59 => Zn (8, xI_X8_lost, 14, 5, 125, 0, 0, false) (some .long) 226 [some (za (A 0)), some (zi x), some (zi w_), some (zi ((plB (tpB (r 1) bs) 8192).length : Int)), some (zi (mk (kindB ((r 1)) 1) : Int)), some (zj (loU (r 1) bs x i_36)), none, some (zj 1), none, some (zi (i_36 : Int)), some (zi (anV (plB (tpB (r 1) bs) 8192) i_36 ((plB (tpB (r 1) bs) 8192).length))), some (zj (prN x (mk (kindB (r 1) 1)) i_36 i_59)), none, some (zi (i_59 : Int))] [] (zov (LM A (va_up (va_up (va_up (va_up (va_up (va_up (va_up (va_up m 19 t_) 20 a_) 21 b_) 24 (bOf (r 1) bs)) 25 ((d : Int) + 1)) 28 (bs : Int)) 29 ((aOf (r 1) bs).natAbs : Int)) 30 (bOf (r 1) bs)) (va_up (va_up (va_up (va_up (va_up (va_up r 11 n1) 12 n2) 13 n3) 14 (cpF (nfX (lOf (r 1) bs)) x4 (d + 1))) 15 (cpF (fpV (r 1) (lOf (r 1) bs) (aOf (r 1) bs) (bOf (r 1) bs)) x5 (d + 1))) 18 (arL ((plB (tpB (r 1) bs) 8192).map zN) (r 18)))) h) _) (13) (fun i_59 hi_63 ih_64 => ?_) ?_
              · have hi_ : i_59 < 13 := hi_63
                have hb1 := bt_lt (mk (kindB (r 1) 1)) i_59
                have hb2 := bt_lt i_36 i_59
                refine Zn.seg (pc2 := 230) (ls2 := [some (za (A 0)), some (zi x), some (zi w_), some (zi ((plB (tpB (r 1) bs) 8192).length : Int)), some (zi (mk (kindB ((r 1)) 1) : Int)), some (zj (loU (r 1) bs x i_36)), none, some (zj 1), none, some (zi (i_36 : Int)), some (zi (anV (plB (tpB (r 1) bs) 8192) i_36 ((plB (tpB (r 1) bs) 8192).length))), some (zj (prN x (mk (kindB (r 1) 1)) i_36 i_59)), none, some (zi (i_59 : Int))]) (st2 := [zi 13, zi (i_59 : Int)]) [(226, .iload 13), (228, .bipush 13)] (by decide +kernel) rfl ?_
                refine Zn.icmp (c := .ge) (off := 49) 279 (by decide +kernel) rfl ⟨by omega, by omega⟩ ⟨by decide, by decide⟩ (fun c_65 => absurd (show 13 ≤ (i_59 : Int) from c_65) (by omega)) (fun c_65 => ?_)
                have c_65 : ¬ (13 ≤ (i_59 : Int)) := c_65
                refine Zn.seg (pc2 := 239) (ls2 := [some (za (A 0)), some (zi x), some (zi w_), some (zi ((plB (tpB (r 1) bs) 8192).length : Int)), some (zi (mk (kindB ((r 1)) 1) : Int)), some (zj (loU (r 1) bs x i_36)), none, some (zj 1), none, some (zi (i_36 : Int)), some (zi (anV (plB (tpB (r 1) bs) 8192) i_36 ((plB (tpB (r 1) bs) 8192).length))), some (zj (prN x (mk (kindB (r 1) 1)) i_36 i_59)), none, some (zi (i_59 : Int))]) (st2 := [zi (i_59 : Int), zi (mk (kindB ((r 1)) 1) : Int), zj (prN x (mk (kindB (r 1) 1)) i_36 i_59)]) [(233, .lload 11), (235, .iload 4), (237, .iload 13)] (by decide +kernel) rfl ?_
                refine Zn.ishr ((((mk (kindB ((r 1)) 1)) / 2 ^ i_59 : Nat) : Int)) (by decide +kernel) (zshrz (by omega) (by omega) (by omega)) ?_
                refine Zn.seg (pc2 := 241) (ls2 := [some (za (A 0)), some (zi x), some (zi w_), some (zi ((plB (tpB (r 1) bs) 8192).length : Int)), some (zi (mk (kindB ((r 1)) 1) : Int)), some (zj (loU (r 1) bs x i_36)), none, some (zj 1), none, some (zi (i_36 : Int)), some (zi (anV (plB (tpB (r 1) bs) 8192) i_36 ((plB (tpB (r 1) bs) 8192).length))), some (zj (prN x (mk (kindB (r 1) 1)) i_36 i_59)), none, some (zi (i_59 : Int))]) (st2 := [zi 1, zi (((mk (kindB ((r 1)) 1)) / 2 ^ i_59 : Nat) : Int), zj (prN x (mk (kindB (r 1) 1)) i_36 i_59)]) [(240, .iconst 1)] (by decide +kernel) rfl ?_
                refine Zn.iand ((bt (mk (kindB ((r 1)) 1)) i_59 : Int)) (by decide +kernel) (zbt (by omega)) ?_
                refine Zn.ifc (c := .ne) (off := 7) 249 (by decide +kernel) rfl ⟨by omega, by omega⟩ (fun c_66 => ?_) (fun c_66 => ?_)
                · have c_66 : (bt (mk (kindB ((r 1)) 1)) i_59 : Int) ≠ 0 := c_66
                  refine Zn.seg (pc2 := 253) (ls2 := [some (za (A 0)), some (zi x), some (zi w_), some (zi ((plB (tpB (r 1) bs) 8192).length : Int)), some (zi (mk (kindB ((r 1)) 1) : Int)), some (zj (loU (r 1) bs x i_36)), none, some (zj 1), none, some (zi (i_36 : Int)), some (zi (anV (plB (tpB (r 1) bs) 8192) i_36 ((plB (tpB (r 1) bs) 8192).length))), some (zj (prN x (mk (kindB (r 1) 1)) i_36 i_59)), none, some (zi (i_59 : Int))]) (st2 := [zi (i_59 : Int), zi (i_36 : Int), zj (prN x (mk (kindB (r 1) 1)) i_36 i_59)]) [(249, .iload 9), (251, .iload 13)] (by decide +kernel) rfl ?_
                  refine Zn.ishr (((i_36 / 2 ^ i_59 : Nat) : Int)) (by decide +kernel) (zshrz (by omega) (by omega) (by omega)) ?_
                  refine Zn.seg (pc2 := 255) (ls2 := [some (za (A 0)), some (zi x), some (zi w_), some (zi ((plB (tpB (r 1) bs) 8192).length : Int)), some (zi (mk (kindB ((r 1)) 1) : Int)), some (zj (loU (r 1) bs x i_36)), none, some (zj 1), none, some (zi (i_36 : Int)), some (zi (anV (plB (tpB (r 1) bs) 8192) i_36 ((plB (tpB (r 1) bs) 8192).length))), some (zj (prN x (mk (kindB (r 1) 1)) i_36 i_59)), none, some (zi (i_59 : Int))]) (st2 := [zi 1, zi ((i_36 / 2 ^ i_59 : Nat) : Int), zj (prN x (mk (kindB (r 1) 1)) i_36 i_59)]) [(254, .iconst 1)] (by decide +kernel) rfl ?_
                  refine Zn.iand ((bt i_36 i_59 : Int)) (by decide +kernel) (zbt (by omega)) ?_
                  refine Zn.seg (pc2 := 257) (ls2 := [some (za (A 0)), some (zi x), some (zi w_), some (zi ((plB (tpB (r 1) bs) 8192).length : Int)), some (zi (mk (kindB ((r 1)) 1) : Int)), some (zj (loU (r 1) bs x i_36)), none, some (zj 1), none, some (zi (i_36 : Int)), some (zi (anV (plB (tpB (r 1) bs) 8192) i_36 ((plB (tpB (r 1) bs) 8192).length))), some (zj (prN x (mk (kindB (r 1) 1)) i_36 i_59)), none, some (zi (i_59 : Int))]) (st2 := [zi 1, zi (bt i_36 i_59 : Int), zj (prN x (mk (kindB (r 1) 1)) i_36 i_59)]) [(256, .iconst 1)] (by decide +kernel) rfl ?_
                  refine Zn.icmp (c := .ne) (off := 11) 268 (by decide +kernel) rfl ⟨by omega, by omega⟩ ⟨by decide, by decide⟩ (fun c_67 => ?_) (fun c_67 => ?_)
                  · have c_67 : (bt i_36 i_59 : Int) ≠ 1 := c_67
                    refine Zn.seg (pc2 := 269) (ls2 := [some (za (A 0)), some (zi x), some (zi w_), some (zi ((plB (tpB (r 1) bs) 8192).length : Int)), some (zi (mk (kindB ((r 1)) 1) : Int)), some (zj (loU (r 1) bs x i_36)), none, some (zj 1), none, some (zi (i_36 : Int)), some (zi (anV (plB (tpB (r 1) bs) 8192) i_36 ((plB (tpB (r 1) bs) 8192).length))), some (zj (prN x (mk (kindB (r 1) 1)) i_36 i_59)), none, some (zi (i_59 : Int))]) (st2 := [zi x, zj (prN x (mk (kindB (r 1) 1)) i_36 i_59)]) [(268, .iload_n 1)] (by decide +kernel) rfl ?_
                    refine Zn.i2l (by decide +kernel) ⟨by omega, by omega⟩ ?_
                    refine Zn.seg (pc2 := 226) (ls2 := [some (za (A 0)), some (zi x), some (zi w_), some (zi ((plB (tpB (r 1) bs) 8192).length : Int)), some (zi (mk (kindB ((r 1)) 1) : Int)), some (zj (loU (r 1) bs x i_36)), none, some (zj 1), none, some (zi (i_36 : Int)), some (zi (anV (plB (tpB (r 1) bs) 8192) i_36 ((plB (tpB (r 1) bs) 8192).length))), some (zj ((prN x (mk (kindB (r 1) 1)) i_36 i_59) * x)), none, some (zi ((i_59 : Int) + 1))]) (st2 := []) [(270, .lmul), (271, .lstore 11), (273, .iinc 13 1), (276, .goto (-50))] (by decide +kernel) rfl ?_
                    exact Zn.eq rfl (zcons rfl (zcons rfl (zcons rfl (zcons rfl (zcons rfl (zcons rfl (zcons rfl (zcons rfl (zcons rfl (zcons rfl (zcons rfl (zcons (congrArg (fun z => some (zj z)) (by rw [prN]; first | (exfalso; omega) | (rw [if_pos (by omega)]; done) | (rw [if_neg (by omega), if_pos (by omega)]; done) | rw [if_neg (by omega), if_neg (by omega)])) (zcons rfl (zcons (congrArg (fun z => some (zi z)) (by omega)) rfl)))))))))))))) rfl (rfl) (ih_64)
                  · have c_67 : ¬ ((bt i_36 i_59 : Int) ≠ 1) := c_67
                    refine Zn.seg (pc2 := 264) (ls2 := [some (za (A 0)), some (zi x), some (zi w_), some (zi ((plB (tpB (r 1) bs) 8192).length : Int)), some (zi (mk (kindB ((r 1)) 1) : Int)), some (zj (loU (r 1) bs x i_36)), none, some (zj 1), none, some (zi (i_36 : Int)), some (zi (anV (plB (tpB (r 1) bs) 8192) i_36 ((plB (tpB (r 1) bs) 8192).length))), some (zj (prN x (mk (kindB (r 1) 1)) i_36 i_59)), none, some (zi (i_59 : Int))]) (st2 := [zi (10 - x), zj (prN x (mk (kindB (r 1) 1)) i_36 i_59)]) [(260, .bipush 10), (262, .iload_n 1), (263, .isub)] (by decide +kernel) rfl ?_
                    refine Zn.i2l (by decide +kernel) ⟨by omega, by omega⟩ ?_
                    refine Zn.seg (pc2 := 226) (ls2 := [some (za (A 0)), some (zi x), some (zi w_), some (zi ((plB (tpB (r 1) bs) 8192).length : Int)), some (zi (mk (kindB ((r 1)) 1) : Int)), some (zj (loU (r 1) bs x i_36)), none, some (zj 1), none, some (zi (i_36 : Int)), some (zi (anV (plB (tpB (r 1) bs) 8192) i_36 ((plB (tpB (r 1) bs) 8192).length))), some (zj ((prN x (mk (kindB (r 1) 1)) i_36 i_59) * (10 - x))), none, some (zi ((i_59 : Int) + 1))]) (st2 := []) [(265, .goto 5), (270, .lmul), (271, .lstore 11), (273, .iinc 13 1), (276, .goto (-50))] (by decide +kernel) rfl ?_
                    exact Zn.eq rfl (zcons rfl (zcons rfl (zcons rfl (zcons rfl (zcons rfl (zcons rfl (zcons rfl (zcons rfl (zcons rfl (zcons rfl (zcons rfl (zcons (congrArg (fun z => some (zj z)) (by rw [prN]; first | (exfalso; omega) | (rw [if_pos (by omega)]; done) | (rw [if_neg (by omega), if_pos (by omega)]; done) | rw [if_neg (by omega), if_neg (by omega)])) (zcons rfl (zcons (congrArg (fun z => some (zi z)) (by omega)) rfl)))))))))))))) rfl (rfl) (ih_64)
                · have c_66 : ¬ ((bt (mk (kindB ((r 1)) 1)) i_59 : Int) ≠ 0) := c_66
                  refine Zn.seg (pc2 := 226) (ls2 := [some (za (A 0)), some (zi x), some (zi w_), some (zi ((plB (tpB (r 1) bs) 8192).length : Int)), some (zi (mk (kindB ((r 1)) 1) : Int)), some (zj (loU (r 1) bs x i_36)), none, some (zj 1), none, some (zi (i_36 : Int)), some (zi (anV (plB (tpB (r 1) bs) 8192) i_36 ((plB (tpB (r 1) bs) 8192).length))), some (zj ((prN x (mk (kindB (r 1) 1)) i_36 i_59) * 1)), none, some (zi ((i_59 : Int) + 1))]) (st2 := []) [(245, .lconst 1), (246, .goto 24), (270, .lmul), (271, .lstore 11), (273, .iinc 13 1), (276, .goto (-50))] (by decide +kernel) rfl ?_
                  exact Zn.eq rfl (zcons rfl (zcons rfl (zcons rfl (zcons rfl (zcons rfl (zcons rfl (zcons rfl (zcons rfl (zcons rfl (zcons rfl (zcons rfl (zcons (congrArg (fun z => some (zj z)) (by rw [prN]; first | (exfalso; omega) | (rw [if_pos (by omega)]; done) | (rw [if_neg (by omega), if_pos (by omega)]; done) | rw [if_neg (by omega), if_neg (by omega)])) (zcons rfl (zcons (congrArg (fun z => some (zi z)) (by omega)) rfl)))))))))))))) rfl (rfl) (ih_64)
              · skip
                refine Zn.seg (pc2 := 230) (ls2 := [some (za (A 0)), some (zi x), some (zi w_), some (zi ((plB (tpB (r 1) bs) 8192).length : Int)), some (zi (mk (kindB ((r 1)) 1) : Int)), some (zj (loU (r 1) bs x i_36)), none, some (zj 1), none, some (zi (i_36 : Int)), some (zi (anV (plB (tpB (r 1) bs) 8192) i_36 ((plB (tpB (r 1) bs) 8192).length))), some (zj (prN x (mk (kindB (r 1) 1)) i_36 13)), none, some (zi (13 : Int))]) (st2 := [zi 13, zi (13 : Int)]) [(226, .iload 13), (228, .bipush 13)] (by decide +kernel) rfl ?_
                refine Zn.icmp (c := .ge) (off := 49) 279 (by decide +kernel) rfl ⟨by omega, by omega⟩ ⟨by decide, by decide⟩ (fun c_68 => ?_) (fun c_68 => absurd (show 13 ≤ (13 : Int) from by decide) c_68)
                have c_68 : 13 ≤ (13 : Int) := c_68
                refine Zn.seg (pc2 := 147) (ls2 := [some (za (A 0)), some (zi x), some (zi w_), some (zi ((plB (tpB (r 1) bs) 8192).length : Int)), some (zi (mk (kindB ((r 1)) 1) : Int)), some (zj (loU (r 1) bs x i_36 + (prN x (mk (kindB (r 1) 1)) i_36 13))), none, some (zj 1), none, some (zi ((i_36 : Int) + 1)), some (zi (anV (plB (tpB (r 1) bs) 8192) i_36 ((plB (tpB (r 1) bs) 8192).length))), some (zj (prN x (mk (kindB (r 1) 1)) i_36 13)), none, some (zi (13 : Int))]) (st2 := []) [(279, .lload 5), (281, .lload 11), (283, .ladd), (284, .lstore 5), (286, .iinc 9 1), (289, .goto (-142))] (by decide +kernel) rfl ?_
                exact Zn.eq rfl (zcons rfl (zcons rfl (zcons rfl (zcons rfl (zcons rfl (zcons (congrArg (fun z => some (zj z)) (by rw [loU]; first | (exfalso; omega) | (rw [if_pos (by omega)]; done) | rw [if_neg (by omega), Int.add_zero])) (zcons rfl (zcons rfl (zcons rfl (zcons (congrArg (fun z => some (zi z)) (by omega)) rfl)))))))))) rfl (rfl) (ih_44 (some (zi (anV (plB (tpB (r 1) bs) 8192) i_36 ((plB (tpB (r 1) bs) 8192).length)))) (some (zj (prN x (mk (kindB (r 1) 1)) i_36 13))) none (some (zi (13 : Int))))
      · skip
        refine Zn.seg (pc2 := 152) (ls2 := [some (za (A 0)), some (zi x), some (zi w_), some (zi ((plB (tpB (r 1) bs) 8192).length : Int)), some (zi (mk (kindB ((r 1)) 1) : Int)), some (zj (loU (r 1) bs x 8192)), none, some (zj 1), none, some (zi (8192 : Int)), j_39, j_40, j_41, j_42]) (st2 := [zi 8192, zi (8192 : Int)]) [(147, .iload 9), (149, .sipush 8192)] (by decide +kernel) rfl ?_
        refine Zn.icmp (c := .ge) (off := 140) 292 (by decide +kernel) rfl ⟨by omega, by omega⟩ ⟨by decide, by decide⟩ (fun c_69 => ?_) (fun c_69 => absurd (show 8192 ≤ (8192 : Int) from by decide) c_69)
        have c_69 : 8192 ≤ (8192 : Int) := c_69
        refine Zn.seg (pc2 := 295) (ls2 := [some (za (A 0)), some (zi x), some (zi w_), some (zi ((plB (tpB (r 1) bs) 8192).length : Int)), some (zi (mk (kindB ((r 1)) 1) : Int)), some (zj (loU (r 1) bs x 8192)), none, some (zj 1), none, some (zi 0), j_39, j_40, j_41, j_42]) (st2 := []) [(292, .iconst 0), (293, .istore 9)] (by decide +kernel) rfl ?_
        refine Zn.eq (pc2 := 295) (ls2 := [some (za (A 0)), some (zi x), some (zi w_), some (zi ((plB (tpB (r 1) bs) 8192).length : Int)), some (zi (mk (kindB ((r 1)) 1) : Int)), some (zj (loU (r 1) bs x 8192)), none, some (zj (pw10 0)), none, some (zi (0 : Int)), j_39, j_40, j_41, j_42]) (st2 := []) (h2 := zov (LM A (va_up (va_up (va_up (va_up (va_up (va_up (va_up (va_up m 19 t_) 20 a_) 21 b_) 24 (bOf (r 1) bs)) 25 ((d : Int) + 1)) 28 (bs : Int)) 29 ((aOf (r 1) bs).natAbs : Int)) 30 (bOf (r 1) bs)) (va_up (va_up (va_up (va_up (va_up (va_up r 11 n1) 12 n2) 13 n3) 14 (cpF (nfX (lOf (r 1) bs)) x4 (d + 1))) 15 (cpF (fpV (r 1) (lOf (r 1) bs) (aOf (r 1) bs) (bOf (r 1) bs)) x5 (d + 1))) 18 (arL ((plB (tpB (r 1) bs) 8192).map zN) (r 18)))) h) rfl rfl rfl (rfl) ?_
        have hD : zND (LM A (va_up (va_up (va_up (va_up (va_up (va_up (va_up (va_up m 19 t_) 20 a_) 21 b_) 24 (bOf (r 1) bs)) 25 ((d : Int) + 1)) 28 (bs : Int)) 29 ((aOf (r 1) bs).natAbs : Int)) 30 (bOf (r 1) bs)) (va_up (va_up (va_up (va_up (va_up (va_up r 11 n1) 12 n2) 13 n3) 14 (cpF (nfX (lOf (r 1) bs)) x4 (d + 1))) 15 (cpF (fpV (r 1) (lOf (r 1) bs) (aOf (r 1) bs) (bOf (r 1) bs)) x5 (d + 1))) 18 (arL ((plB (tpB (r 1) bs) 8192).map zN) (r 18)))) := hD
        refine xloop (P := fun i_70 => ∀ j_73 j_74 j_75 j_76 : Option zV, Zn (8, xI_X8_lost, 14, 5, 125, 0, 0, false) (some .long) 295 [some (za (A 0)), some (zi x), some (zi w_), some (zi ((plB (tpB (r 1) bs) 8192).length : Int)), some (zi (mk (kindB ((r 1)) 1) : Int)), some (zj (loU (r 1) bs x 8192)), none, some (zj (pw10 i_70)), none, some (zi (i_70 : Int)), j_73, j_74, j_75, j_76] [] (zov (LM A (va_up (va_up (va_up (va_up (va_up (va_up (va_up (va_up m 19 t_) 20 a_) 21 b_) 24 (bOf (r 1) bs)) 25 ((d : Int) + 1)) 28 (bs : Int)) 29 ((aOf (r 1) bs).natAbs : Int)) 30 (bOf (r 1) bs)) (va_up (va_up (va_up (va_up (va_up (va_up r 11 n1) 12 n2) 13 n3) 14 (cpF (nfX (lOf (r 1) bs)) x4 (d + 1))) 15 (cpF (fpV (r 1) (lOf (r 1) bs) (aOf (r 1) bs) (bOf (r 1) bs)) x5 (d + 1))) 18 (arL ((plB (tpB (r 1) bs) 8192).map zN) (r 18)))) h) _) ((manyN (r 1) 1 13)) (fun i_70 hi_77 ih_78 j_73 j_74 j_75 j_76 => ?_) (fun j_73 j_74 j_75 j_76 => ?_) j_39 j_40 j_41 j_42
        · have hi_ : i_70 < (manyN (r 1) 1 13) := hi_77
          have hmn1 := manyN_le (r 1) 1 13
          refine Zn.seg (pc2 := 299) (ls2 := [some (za (A 0)), some (zi x), some (zi w_), some (zi ((plB (tpB (r 1) bs) 8192).length : Int)), some (zi (mk (kindB ((r 1)) 1) : Int)), some (zj (loU (r 1) bs x 8192)), none, some (zj (pw10 i_70)), none, some (zi (i_70 : Int)), j_73, j_74, j_75, j_76]) (st2 := [zi 1, za (A 0), zi (i_70 : Int)]) [(295, .iload 9), (297, .aload_n 0), (298, .iconst 1)] (by decide +kernel) rfl ?_
          refine Zn.call (ins := .invokevirtual 88) [za (A 0), zi 1] [zi (i_70 : Int)] (by decide +kernel) rfl rfl rfl ⟨rfl, rfl⟩ ⟨rfl, rfl, rfl⟩ rfl (zrecvV hD (p := 0) rfl rfl rfl) (sp_X8_many (A := A) (m := va_up (va_up (va_up (va_up (va_up (va_up (va_up (va_up m 19 t_) 20 a_) 21 b_) 24 (bOf (r 1) bs)) 25 ((d : Int) + 1)) 28 (bs : Int)) 29 ((aOf (r 1) bs).natAbs : Int)) 30 (bOf (r 1) bs)) (r := va_up (va_up (va_up (va_up (va_up (va_up r 11 n1) 12 n2) 13 n3) 14 (cpF (nfX (lOf (r 1) bs)) x4 (d + 1))) 15 (cpF (fpV (r 1) (lOf (r 1) bs) (aOf (r 1) bs) (bOf (r 1) bs)) x5 (d + 1))) 18 (arL ((plB (tpB (r 1) bs) 8192).map zN) (r 18))) (k := 1) (zov_all hD) hD (hR.1) (⟨by decide, by decide⟩)) (fun v h2 hp => ?_)
          obtain ⟨rfl, hq_79⟩ := hp
          refine Zn.eq (pc2 := 302) (ls2 := [some (za (A 0)), some (zi x), some (zi w_), some (zi ((plB (tpB (r 1) bs) 8192).length : Int)), some (zi (mk (kindB ((r 1)) 1) : Int)), some (zj (loU (r 1) bs x 8192)), none, some (zj (pw10 i_70)), none, some (zi (i_70 : Int)), j_73, j_74, j_75, j_76]) (st2 := [zi (manyN ((r 1)) 1 13 : Int), zi (i_70 : Int)]) (h2 := zov (LM A (va_up (va_up (va_up (va_up (va_up (va_up (va_up (va_up m 19 t_) 20 a_) 21 b_) 24 (bOf (r 1) bs)) 25 ((d : Int) + 1)) 28 (bs : Int)) 29 ((aOf (r 1) bs).natAbs : Int)) 30 (bOf (r 1) bs)) (va_up (va_up (va_up (va_up (va_up (va_up r 11 n1) 12 n2) 13 n3) 14 (cpF (nfX (lOf (r 1) bs)) x4 (d + 1))) 15 (cpF (fpV (r 1) (lOf (r 1) bs) (aOf (r 1) bs) (bOf (r 1) bs)) x5 (d + 1))) 18 (arL ((plB (tpB (r 1) bs) 8192).map zN) (r 18)))) h) rfl rfl rfl hq_79 ?_
          have hD : zND (LM A (va_up (va_up (va_up (va_up (va_up (va_up (va_up (va_up m 19 t_) 20 a_) 21 b_) 24 (bOf (r 1) bs)) 25 ((d : Int) + 1)) 28 (bs : Int)) 29 ((aOf (r 1) bs).natAbs : Int)) 30 (bOf (r 1) bs)) (va_up (va_up (va_up (va_up (va_up (va_up r 11 n1) 12 n2) 13 n3) 14 (cpF (nfX (lOf (r 1) bs)) x4 (d + 1))) 15 (cpF (fpV (r 1) (lOf (r 1) bs) (aOf (r 1) bs) (bOf (r 1) bs)) x5 (d + 1))) 18 (arL ((plB (tpB (r 1) bs) 8192).map zN) (r 18)))) := hD
          have q_80 := manyN_le ((r 1)) 1 13
          have hmn1 := manyN_le (r 1) 1 13
          refine Zn.icmp (c := .ge) (off := 17) 319 (by decide +kernel) rfl ⟨by omega, by omega⟩ ⟨by omega, by omega⟩ (fun c_81 => absurd (show (manyN ((r 1)) 1 13 : Int) ≤ (i_70 : Int) from c_81) (by omega)) (fun c_81 => ?_)
          have c_81 : ¬ ((manyN ((r 1)) 1 13 : Int) ≤ (i_70 : Int)) := c_81
          refine Zn.seg (pc2 := 295) (ls2 := [some (za (A 0)), some (zi x), some (zi w_), some (zi ((plB (tpB (r 1) bs) 8192).length : Int)), some (zi (mk (kindB ((r 1)) 1) : Int)), some (zj (loU (r 1) bs x 8192)), none, some (zj ((pw10 i_70) * 10)), none, some (zi ((i_70 : Int) + 1)), j_73, j_74, j_75, j_76]) (st2 := []) [(305, .lload 7), (307, .ldc2_w 330), (310, .lmul), (311, .lstore 7), (313, .iinc 9 1), (316, .goto (-21))] (by decide +kernel) rfl ?_
          exact Zn.eq rfl (zcons rfl (zcons rfl (zcons rfl (zcons rfl (zcons rfl (zcons rfl (zcons rfl (zcons rfl (zcons rfl (zcons (congrArg (fun z => some (zi z)) (by omega)) rfl)))))))))) rfl (rfl) (ih_78 j_73 j_74 j_75 j_76)
        · skip
          refine Zn.seg (pc2 := 299) (ls2 := [some (za (A 0)), some (zi x), some (zi w_), some (zi ((plB (tpB (r 1) bs) 8192).length : Int)), some (zi (mk (kindB ((r 1)) 1) : Int)), some (zj (loU (r 1) bs x 8192)), none, some (zj (pw10 (manyN (r 1) 1 13))), none, some (zi ((manyN (r 1) 1 13) : Int)), j_73, j_74, j_75, j_76]) (st2 := [zi 1, za (A 0), zi ((manyN (r 1) 1 13) : Int)]) [(295, .iload 9), (297, .aload_n 0), (298, .iconst 1)] (by decide +kernel) rfl ?_
          refine Zn.call (ins := .invokevirtual 88) [za (A 0), zi 1] [zi ((manyN (r 1) 1 13) : Int)] (by decide +kernel) rfl rfl rfl ⟨rfl, rfl⟩ ⟨rfl, rfl, rfl⟩ rfl (zrecvV hD (p := 0) rfl rfl rfl) (sp_X8_many (A := A) (m := va_up (va_up (va_up (va_up (va_up (va_up (va_up (va_up m 19 t_) 20 a_) 21 b_) 24 (bOf (r 1) bs)) 25 ((d : Int) + 1)) 28 (bs : Int)) 29 ((aOf (r 1) bs).natAbs : Int)) 30 (bOf (r 1) bs)) (r := va_up (va_up (va_up (va_up (va_up (va_up r 11 n1) 12 n2) 13 n3) 14 (cpF (nfX (lOf (r 1) bs)) x4 (d + 1))) 15 (cpF (fpV (r 1) (lOf (r 1) bs) (aOf (r 1) bs) (bOf (r 1) bs)) x5 (d + 1))) 18 (arL ((plB (tpB (r 1) bs) 8192).map zN) (r 18))) (k := 1) (zov_all hD) hD (hR.1) (⟨by decide, by decide⟩)) (fun v h2 hp => ?_)
          obtain ⟨rfl, hq_82⟩ := hp
          refine Zn.eq (pc2 := 302) (ls2 := [some (za (A 0)), some (zi x), some (zi w_), some (zi ((plB (tpB (r 1) bs) 8192).length : Int)), some (zi (mk (kindB ((r 1)) 1) : Int)), some (zj (loU (r 1) bs x 8192)), none, some (zj (pw10 (manyN (r 1) 1 13))), none, some (zi ((manyN (r 1) 1 13) : Int)), j_73, j_74, j_75, j_76]) (st2 := [zi (manyN ((r 1)) 1 13 : Int), zi ((manyN (r 1) 1 13) : Int)]) (h2 := zov (LM A (va_up (va_up (va_up (va_up (va_up (va_up (va_up (va_up m 19 t_) 20 a_) 21 b_) 24 (bOf (r 1) bs)) 25 ((d : Int) + 1)) 28 (bs : Int)) 29 ((aOf (r 1) bs).natAbs : Int)) 30 (bOf (r 1) bs)) (va_up (va_up (va_up (va_up (va_up (va_up r 11 n1) 12 n2) 13 n3) 14 (cpF (nfX (lOf (r 1) bs)) x4 (d + 1))) 15 (cpF (fpV (r 1) (lOf (r 1) bs) (aOf (r 1) bs) (bOf (r 1) bs)) x5 (d + 1))) 18 (arL ((plB (tpB (r 1) bs) 8192).map zN) (r 18)))) h) rfl rfl rfl hq_82 ?_
          have hD : zND (LM A (va_up (va_up (va_up (va_up (va_up (va_up (va_up (va_up m 19 t_) 20 a_) 21 b_) 24 (bOf (r 1) bs)) 25 ((d : Int) + 1)) 28 (bs : Int)) 29 ((aOf (r 1) bs).natAbs : Int)) 30 (bOf (r 1) bs)) (va_up (va_up (va_up (va_up (va_up (va_up r 11 n1) 12 n2) 13 n3) 14 (cpF (nfX (lOf (r 1) bs)) x4 (d + 1))) 15 (cpF (fpV (r 1) (lOf (r 1) bs) (aOf (r 1) bs) (bOf (r 1) bs)) x5 (d + 1))) 18 (arL ((plB (tpB (r 1) bs) 8192).map zN) (r 18)))) := hD
          have q_83 := manyN_le ((r 1)) 1 13
          have hmn1 := manyN_le (r 1) 1 13
          refine Zn.icmp (c := .ge) (off := 17) 319 (by decide +kernel) rfl ⟨by omega, by omega⟩ ⟨by omega, by omega⟩ (fun c_84 => ?_) (fun c_84 => absurd (show (manyN ((r 1)) 1 13 : Int) ≤ ((manyN (r 1) 1 13) : Int) from by omega) c_84)
          have c_84 : (manyN ((r 1)) 1 13 : Int) ≤ ((manyN (r 1) 1 13) : Int) := c_84
          refine Zn.seg (pc2 := 324) (ls2 := [some (za (A 0)), some (zi x), some (zi w_), some (zi ((plB (tpB (r 1) bs) 8192).length : Int)), some (zi (mk (kindB ((r 1)) 1) : Int)), some (zj (loU (r 1) bs x 8192)), none, some (zj (pw10 (manyN (r 1) 1 13))), none, some (zi ((manyN (r 1) 1 13) : Int)), j_73, j_74, j_75, j_76]) (st2 := [zj (pw10 (manyN (r 1) 1 13)), zj (loU (r 1) bs x 8192), za (A 0)]) [(319, .aload_n 0), (320, .lload 5), (322, .lload 7)] (by decide +kernel) rfl ?_
          refine Zn.call (ins := .invokevirtual 241) [za (A 0), zj (loU (r 1) bs x 8192), zj (pw10 (manyN (r 1) 1 13))] [] (by decide +kernel) rfl rfl rfl ⟨rfl, rfl⟩ ⟨rfl, rfl, rfl⟩ rfl (zrecvV hD (p := 0) rfl rfl rfl) (sp_X8_finds (A := A) (m := va_up (va_up (va_up (va_up (va_up (va_up (va_up (va_up m 19 t_) 20 a_) 21 b_) 24 (bOf (r 1) bs)) 25 ((d : Int) + 1)) 28 (bs : Int)) 29 ((aOf (r 1) bs).natAbs : Int)) 30 (bOf (r 1) bs)) (r := va_up (va_up (va_up (va_up (va_up (va_up r 11 n1) 12 n2) 13 n3) 14 (cpF (nfX (lOf (r 1) bs)) x4 (d + 1))) 15 (cpF (fpV (r 1) (lOf (r 1) bs) (aOf (r 1) bs) (bOf (r 1) bs)) x5 (d + 1))) 18 (arL ((plB (tpB (r 1) bs) 8192).map zN) (r 18))) (u := loU (r 1) bs x 8192) (w := pw10 (manyN (r 1) 1 13)) (zov_all hD) hD ((loU_b hx 8192 (Nat.le_refl _))) ((pw10_b (manyN_le (r 1) 1 13)).2) ((pw10_b (manyN_le (r 1) 1 13)).1)) (fun v h2 hp => ?_)
          obtain ⟨rfl, hq_85⟩ := hp
          refine Zn.eq (pc2 := 327) (ls2 := [some (za (A 0)), some (zi x), some (zi w_), some (zi ((plB (tpB (r 1) bs) 8192).length : Int)), some (zi (mk (kindB ((r 1)) 1) : Int)), some (zj (loU (r 1) bs x 8192)), none, some (zj (pw10 (manyN (r 1) 1 13))), none, some (zi ((manyN (r 1) 1 13) : Int)), j_73, j_74, j_75, j_76]) (st2 := []) (h2 := zov (LM A (va_up (va_up (va_up (va_up (va_up (va_up (va_up (va_up (va_up (va_up m 19 t_) 20 a_) 21 b_) 24 (bOf (r 1) bs)) 25 ((d : Int) + 1)) 26 (fdU (loU (r 1) bs x 8192) (pw10 (manyN (r 1) 1 13)))) 27 (((pw10 (manyN (r 1) 1 13)).natAbs : Int).tdiv (Int.gcd (loU (r 1) bs x 8192) (pw10 (manyN (r 1) 1 13)) : Int))) 28 (bs : Int)) 29 ((aOf (r 1) bs).natAbs : Int)) 30 (bOf (r 1) bs)) (va_up (va_up (va_up (va_up (va_up (va_up r 11 n1) 12 n2) 13 n3) 14 (cpF (nfX (lOf (r 1) bs)) x4 (d + 1))) 15 (cpF (fpV (r 1) (lOf (r 1) bs) (aOf (r 1) bs) (bOf (r 1) bs)) x5 (d + 1))) 18 (arL ((plB (tpB (r 1) bs) 8192).map zN) (r 18)))) h) rfl rfl rfl (hq_85.trans ((LM_over _ _ _ _ _ _).trans rfl)) ?_
          have hD : zND (LM A (va_up (va_up (va_up (va_up (va_up (va_up (va_up (va_up (va_up (va_up m 19 t_) 20 a_) 21 b_) 24 (bOf (r 1) bs)) 25 ((d : Int) + 1)) 26 (fdU (loU (r 1) bs x 8192) (pw10 (manyN (r 1) 1 13)))) 27 (((pw10 (manyN (r 1) 1 13)).natAbs : Int).tdiv (Int.gcd (loU (r 1) bs x 8192) (pw10 (manyN (r 1) 1 13)) : Int))) 28 (bs : Int)) 29 ((aOf (r 1) bs).natAbs : Int)) 30 (bOf (r 1) bs)) (va_up (va_up (va_up (va_up (va_up (va_up r 11 n1) 12 n2) 13 n3) 14 (cpF (nfX (lOf (r 1) bs)) x4 (d + 1))) 15 (cpF (fpV (r 1) (lOf (r 1) bs) (aOf (r 1) bs) (bOf (r 1) bs)) x5 (d + 1))) 18 (arL ((plB (tpB (r 1) bs) 8192).map zN) (r 18)))) := hD
          refine Zn.seg (pc2 := 328) (ls2 := [some (za (A 0)), some (zi x), some (zi w_), some (zi ((plB (tpB (r 1) bs) 8192).length : Int)), some (zi (mk (kindB ((r 1)) 1) : Int)), some (zj (loU (r 1) bs x 8192)), none, some (zj (pw10 (manyN (r 1) 1 13))), none, some (zi ((manyN (r 1) 1 13) : Int)), j_73, j_74, j_75, j_76]) (st2 := [zi w_]) [(327, .iload_n 2)] (by decide +kernel) rfl ?_
          refine Zn.ifc (c := .ne) (off := 10) 338 (by decide +kernel) rfl ⟨by omega, by omega⟩ (fun c_86 => ?_) (fun c_86 => ?_)
          · have c_86 : w_ ≠ 0 := c_86
            refine Zn.seg (pc2 := 339) (ls2 := [some (za (A 0)), some (zi x), some (zi w_), some (zi ((plB (tpB (r 1) bs) 8192).length : Int)), some (zi (mk (kindB ((r 1)) 1) : Int)), some (zj (loU (r 1) bs x 8192)), none, some (zj (pw10 (manyN (r 1) 1 13))), none, some (zi ((manyN (r 1) 1 13) : Int)), j_73, j_74, j_75, j_76]) (st2 := [za (A 0)]) [(338, .aload_n 0)] (by decide +kernel) rfl ?_
            refine Zn.get (ix := 232) hD 0 (by decide +kernel) rfl rfl rfl ?_
            refine Zn.eq (st2 := [zj (((pw10 (manyN (r 1) 1 13)).natAbs : Int).tdiv (Int.gcd (loU (r 1) bs x 8192) (pw10 (manyN (r 1) 1 13)) : Int))]) rfl rfl rfl rfl ?_
            exact Zn.lret (by decide +kernel) rfl (⟨bs, n1, n2, n3, x4, x5, (arL ((plB (tpB (r 1) bs) 8192).map zN) (r 18)), t_, a_, b_, (fdU (loU (r 1) bs x 8192) (pw10 (manyN (r 1) 1 13))), (((pw10 (manyN (r 1) 1 13)).natAbs : Int).tdiv (Int.gcd (loU (r 1) bs x 8192) (pw10 (manyN (r 1) 1 13)) : Int)), by refine congrArg some (congrArg zj ?_); rw [lsV, if_neg (by omega)]; first | (rw [if_pos (by omega)]; done) | rw [if_neg (by omega)], rfl, hfbe⟩)
          · have c_86 : ¬ (w_ ≠ 0) := c_86
            refine Zn.seg (pc2 := 332) (ls2 := [some (za (A 0)), some (zi x), some (zi w_), some (zi ((plB (tpB (r 1) bs) 8192).length : Int)), some (zi (mk (kindB ((r 1)) 1) : Int)), some (zj (loU (r 1) bs x 8192)), none, some (zj (pw10 (manyN (r 1) 1 13))), none, some (zi ((manyN (r 1) 1 13) : Int)), j_73, j_74, j_75, j_76]) (st2 := [za (A 0)]) [(331, .aload_n 0)] (by decide +kernel) rfl ?_
            refine Zn.get (ix := 229) hD 0 (by decide +kernel) rfl rfl rfl ?_
            refine Zn.eq (st2 := [zj (fdU (loU (r 1) bs x 8192) (pw10 (manyN (r 1) 1 13)))]) rfl rfl rfl rfl ?_
            refine Zn.seg (pc2 := 342) (ls2 := [some (za (A 0)), some (zi x), some (zi w_), some (zi ((plB (tpB (r 1) bs) 8192).length : Int)), some (zi (mk (kindB ((r 1)) 1) : Int)), some (zj (loU (r 1) bs x 8192)), none, some (zj (pw10 (manyN (r 1) 1 13))), none, some (zi ((manyN (r 1) 1 13) : Int)), j_73, j_74, j_75, j_76]) (st2 := [zj (fdU (loU (r 1) bs x 8192) (pw10 (manyN (r 1) 1 13)))]) [(335, .goto 7)] (by decide +kernel) rfl ?_
            exact Zn.lret (by decide +kernel) rfl (⟨bs, n1, n2, n3, x4, x5, (arL ((plB (tpB (r 1) bs) 8192).map zN) (r 18)), t_, a_, b_, (fdU (loU (r 1) bs x 8192) (pw10 (manyN (r 1) 1 13))), (((pw10 (manyN (r 1) 1 13)).natAbs : Int).tdiv (Int.gcd (loU (r 1) bs x 8192) (pw10 (manyN (r 1) 1 13)) : Int)), by refine congrArg some (congrArg zj ?_); rw [lsV, if_neg (by omega)]; first | (rw [if_pos (by omega)]; done) | rw [if_neg (by omega)], rfl, hfbe⟩)
  · have c_13 : ¬ (((aOf (r 1) bs).natAbs : Int) ≠ 0) := c_13
    refine Zn.seg (pc2 := 60) (ls2 := [some (za (A 0)), some (zi x), some (zi w_), none, none, none, none, none, none, none, none, none, none, none]) (st2 := [zj 1]) [(59, .lconst 1)] (by decide +kernel) rfl ?_
    exact Zn.lret (by decide +kernel) rfl (⟨bs, x1, x2, x3, x4, x5, (r 18), ((lOf (r 1) bs).length : Int), (aOf (r 1) bs), (bOf (r 1) bs), (m 26), (m 27), by refine congrArg some (congrArg zj ?_); rw [lsV, if_pos (by omega)], by first | rfl | (congr 2 <;> (funext k_; simp only [va_up]; (repeat' split) <;> first | rfl | (exfalso; omega) | (subst_vars; rfl))), hfbe⟩)
