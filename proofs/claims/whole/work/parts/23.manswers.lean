/-! the reference's answers about its fit -/
theorem ROK_qz {R : Nat → Int} (h : ROK R) : ∀ p : Nat, p < 13 → zInI (qv (fun j => R (j + 1)) ((p : Int) - 6)) := fun p hp => by
  have := ROK_q h hp
  exact ⟨by omega, by omega⟩
theorem GOK_congr {X P X2 P2 : Nat → Int} {k : Nat} {c : Int} (hX : ∀ j, j < k → X j = X2 j) (hP : ∀ j, j < k → P j = P2 j) (h : GOK X2 P2 k c) : GOK X P k c := by
  refine ⟨h.1, fun j hj => by rw [hX j hj]; exact h.2.1 j hj, ?_, fun p hp => ?_⟩
  · rw [vdA_congr hX]
    exact h.2.2.1
  · rw [upN_congr hX hP]
    exact h.2.2.2 p hp
/-- the fit that stands ready: through all points, or a best one -/
def RDY (R : Nat → Int) (d : Nat) (X P : Nat → Int) (c : Int) : Prop := GOK X P (d + 1) c ∧ ((manyN R 0 13 = d + 1 ∧ c = 1 ∧ ∀ j, j < d + 1 → X j = nfX (lOf R 8191) j ∧ P j = nY R (nfP (lOf R 8191) j)) ∨ (d + 2 ≤ manyN R 0 13 ∧ ∃ s, FBE R s ∧ c = bOf R s ∧ ∀ j, j < d + 1 → X j = nfX (lOf R s) j ∧ P j = fpV R (lOf R s) (aOf R s) (bOf R s) j))
def RDH (R : Nat → Int) (d : Nat) : Prop := (manyN R 0 13 = d + 1 ∧ (lOf R 8191).length = d + 1 ∧ GOK (nfX (lOf R 8191)) (fun j => nY R (nfP (lOf R 8191) j)) (d + 1) 1) ∨ (d + 2 ≤ manyN R 0 13 ∧ ∃ t, t < 8192 ∧ refP R t)
def tlV (w u e : Int) : Int := if w = 0 then (u.natAbs : Int) else if w = 1 then e else if u = 0 then 0 else if 0 < u then 1 else 2
def lvV (w a b : Int) : Int := if w = 0 then (a.natAbs : Int) else if w = 1 then b else if a = 0 then 0 else if 0 < a then 1 else 2
theorem fdU_b {u w : Int} (h : -4611686018427387904 ≤ u ∧ u ≤ 4611686018427387904) (hw : w ≠ 0) : -9223372036854775807 ≤ fdU u w ∧ fdU u w ≤ 9223372036854775807 := by
  have hg := gcd_rng0 (a := u) hw
  unfold fdU
  split
  · exact tdv_b (by omega) (by omega) hg.1
  · exact tdv_b (by omega) (by omega) hg.1
theorem sp_X8_isReady_no {h : xH} {A : Nat → Nat} {m : Nat → Int} {r : Nat → Nat → Int} {d : Nat} (hL : ∀ q ∈ LM A m r, h q.1 = zcE q.2) (hD : zND (LM A m r)) (hR : ROK (r 1)) (hd : r 1 0 = (d : Int)) (hd3 : d ≤ 3) (hno : mk (mpoleB (r 1)) ≠ 0 ∨ manyN (r 1) 0 13 ≤ d) : zEv k_X8_isReady [za (A 0)] h (fun v h2 => v = some (zi 0) ∧ h2 = h) := by
  have hh : h = zov (LM A m r) h := zov_self hL
  refine zEv.body (I := (8, xI_X8_isReady, 1, 5, 125, 0, 0, false)) (rt := (some .boolean)) [some (za (A 0))] rfl rfl rfl rfl ?_
  refine Zn.eq rfl rfl rfl hh ?_
  have hD : zND (LM A m r) := hD
  refine Zn.seg (pc2 := 1) (ls2 := [some (za (A 0))]) (st2 := [za (A 0)]) [(0, .aload_n 0)] (by decide +kernel) rfl ?_
  refine Zn.call (ins := .invokevirtual 118) [za (A 0)] [] (by decide +kernel) rfl rfl rfl ⟨rfl, rfl⟩ ⟨rfl, rfl, rfl⟩ rfl (zrecvV hD (p := 0) rfl rfl rfl) (sp_X8_poles (A := A) (m := m) (r := r) (zov_all hD) hD (hR.1) (ROK_qz hR)) (fun v h2 hp => ?_)
  obtain ⟨rfl, hq_1⟩ := hp
  refine Zn.eq (pc2 := 4) (ls2 := [some (za (A 0))]) (st2 := [zi (mk (mpoleB (r 1)) : Int)]) (h2 := zov (LM A m r) h) rfl rfl rfl hq_1 ?_
  have hD : zND (LM A m r) := hD
  have hmk_ := mk_lt (mpoleB (r 1))
  refine Zn.ifc (c := .ne) (off := 17) 21 (by decide +kernel) rfl ⟨by omega, by omega⟩ (fun c_2 => ?_) (fun c_2 => ?_)
  · have c_2 : (mk (mpoleB (r 1)) : Int) ≠ 0 := c_2
    refine Zn.seg (pc2 := 22) (ls2 := [some (za (A 0))]) (st2 := [zi 0]) [(21, .iconst 0)] (by decide +kernel) rfl ?_
    exact Zn.bret (by decide +kernel) rfl (by first | decide | omega) (⟨by first | rfl | (refine congrArg some (congrArg zi ?_); first | omega | (simp_all; done) | (simp_all; omega)), hh.symm⟩)
  · have c_2 : ¬ ((mk (mpoleB (r 1)) : Int) ≠ 0) := c_2
    refine Zn.seg (pc2 := 9) (ls2 := [some (za (A 0))]) (st2 := [zi 0, za (A 0)]) [(7, .aload_n 0), (8, .iconst 0)] (by decide +kernel) rfl ?_
    refine Zn.call (ins := .invokevirtual 88) [za (A 0), zi 0] [] (by decide +kernel) rfl rfl rfl ⟨rfl, rfl⟩ ⟨rfl, rfl, rfl⟩ rfl (zrecvV hD (p := 0) rfl rfl rfl) (sp_X8_many (A := A) (m := m) (r := r) (k := 0) (zov_all hD) hD (hR.1) (⟨by decide, by decide⟩)) (fun v h2 hp => ?_)
    obtain ⟨rfl, hq_3⟩ := hp
    refine Zn.eq (pc2 := 12) (ls2 := [some (za (A 0))]) (st2 := [zi (manyN (r 1) 0 13 : Int)]) (h2 := zov (LM A m r) h) rfl rfl rfl hq_3 ?_
    have hD : zND (LM A m r) := hD
    have q_4 := manyN_le (r 1) 0 13
    refine Zn.seg (pc2 := 13) (ls2 := [some (za (A 0))]) (st2 := [za (A 0), zi (manyN (r 1) 0 13 : Int)]) [(12, .aload_n 0)] (by decide +kernel) rfl ?_
    refine Zn.get (ix := 7) hD 0 (by decide +kernel) rfl rfl rfl ?_
    refine Zn.seg (pc2 := 17) (ls2 := [some (za (A 0))]) (st2 := [zi 0, za (A 1), zi (manyN (r 1) 0 13 : Int)]) [(16, .iconst 0)] (by decide +kernel) rfl ?_
    refine Zn.iald hD 1 (0) (by decide +kernel) rfl (rfl) (by decide) rfl ?_
    refine Zn.topi (y := (d : Int)) (hd) ?_
    refine Zn.icmp (c := .gt) (off := 5) 23 (by decide +kernel) rfl ⟨by omega, by omega⟩ ⟨by omega, by omega⟩ (fun c_5 => absurd (show (d : Int) < (manyN (r 1) 0 13 : Int) from c_5) (by omega)) (fun c_5 => ?_)
    have c_5 : ¬ ((d : Int) < (manyN (r 1) 0 13 : Int)) := c_5
    refine Zn.seg (pc2 := 22) (ls2 := [some (za (A 0))]) (st2 := [zi 0]) [(21, .iconst 0)] (by decide +kernel) rfl ?_
    exact Zn.bret (by decide +kernel) rfl (by first | decide | omega) (⟨by first | rfl | (refine congrArg some (congrArg zi ?_); first | omega | (simp_all; done) | (simp_all; omega)), hh.symm⟩)
theorem sp_X8_isReady_all {h : xH} {A : Nat → Nat} {m : Nat → Int} {r : Nat → Nat → Int} {d : Nat} (hL : ∀ q ∈ LM A m r, h q.1 = zcE q.2) (hD : zND (LM A m r)) (hR : ROK (r 1)) (hd : r 1 0 = (d : Int)) (hd3 : d ≤ 3) (hpo : mk (mpoleB (r 1)) = 0) (hmn : manyN (r 1) 0 13 = d + 1) (hll : (lOf (r 1) 8191).length = d + 1) : zEv k_X8_isReady [za (A 0)] h (fun v h2 => v = some (zi 1) ∧ h2 = zov (LM A (va_up (va_up (va_up m 19 ((lOf (r 1) 8191).length : Int)) 24 1) 25 ((lOf (r 1) 8191).length : Int)) (va_up (va_up (va_up (va_up (va_up r 11 (arL ((lOf (r 1) 8191).map nX) (r 11))) 12 (arL ((lOf (r 1) 8191).map (nY (r 1))) (r 12))) 13 (arL ((lOf (r 1) 8191).map (nF (r 1))) (r 13))) 14 (cpF (nfX (lOf (r 1) 8191)) (r 14) (lOf (r 1) 8191).length)) 15 (cpF (fun j => nY (r 1) (nfP (lOf (r 1) 8191) j)) (r 15) (lOf (r 1) 8191).length))) h) := by
  have hh : h = zov (LM A m r) h := zov_self hL
  refine zEv.body (I := (8, xI_X8_isReady, 1, 5, 125, 0, 0, false)) (rt := (some .boolean)) [some (za (A 0))] rfl rfl rfl rfl ?_
  refine Zn.eq rfl rfl rfl hh ?_
  have hD : zND (LM A m r) := hD
  refine Zn.seg (pc2 := 1) (ls2 := [some (za (A 0))]) (st2 := [za (A 0)]) [(0, .aload_n 0)] (by decide +kernel) rfl ?_
  refine Zn.call (ins := .invokevirtual 118) [za (A 0)] [] (by decide +kernel) rfl rfl rfl ⟨rfl, rfl⟩ ⟨rfl, rfl, rfl⟩ rfl (zrecvV hD (p := 0) rfl rfl rfl) (sp_X8_poles (A := A) (m := m) (r := r) (zov_all hD) hD (hR.1) (ROK_qz hR)) (fun v h2 hp => ?_)
  obtain ⟨rfl, hq_1⟩ := hp
  refine Zn.eq (pc2 := 4) (ls2 := [some (za (A 0))]) (st2 := [zi (mk (mpoleB (r 1)) : Int)]) (h2 := zov (LM A m r) h) rfl rfl rfl hq_1 ?_
  have hD : zND (LM A m r) := hD
  have hmk_ := mk_lt (mpoleB (r 1))
  refine Zn.ifc (c := .ne) (off := 17) 21 (by decide +kernel) rfl ⟨by omega, by omega⟩ (fun c_2 => absurd (show (mk (mpoleB (r 1)) : Int) ≠ 0 from c_2) (by omega)) (fun c_2 => ?_)
  have c_2 : ¬ ((mk (mpoleB (r 1)) : Int) ≠ 0) := c_2
  refine Zn.seg (pc2 := 9) (ls2 := [some (za (A 0))]) (st2 := [zi 0, za (A 0)]) [(7, .aload_n 0), (8, .iconst 0)] (by decide +kernel) rfl ?_
  refine Zn.call (ins := .invokevirtual 88) [za (A 0), zi 0] [] (by decide +kernel) rfl rfl rfl ⟨rfl, rfl⟩ ⟨rfl, rfl, rfl⟩ rfl (zrecvV hD (p := 0) rfl rfl rfl) (sp_X8_many (A := A) (m := m) (r := r) (k := 0) (zov_all hD) hD (hR.1) (⟨by decide, by decide⟩)) (fun v h2 hp => ?_)
  obtain ⟨rfl, hq_3⟩ := hp
  refine Zn.eq (pc2 := 12) (ls2 := [some (za (A 0))]) (st2 := [zi (manyN (r 1) 0 13 : Int)]) (h2 := zov (LM A m r) h) rfl rfl rfl hq_3 ?_
  have hD : zND (LM A m r) := hD
  have q_4 := manyN_le (r 1) 0 13
  refine Zn.seg (pc2 := 13) (ls2 := [some (za (A 0))]) (st2 := [za (A 0), zi (manyN (r 1) 0 13 : Int)]) [(12, .aload_n 0)] (by decide +kernel) rfl ?_
  refine Zn.get (ix := 7) hD 0 (by decide +kernel) rfl rfl rfl ?_
  refine Zn.seg (pc2 := 17) (ls2 := [some (za (A 0))]) (st2 := [zi 0, za (A 1), zi (manyN (r 1) 0 13 : Int)]) [(16, .iconst 0)] (by decide +kernel) rfl ?_
  refine Zn.iald hD 1 (0) (by decide +kernel) rfl (rfl) (by decide) rfl ?_
  refine Zn.topi (y := (d : Int)) (hd) ?_
  refine Zn.icmp (c := .gt) (off := 5) 23 (by decide +kernel) rfl ⟨by omega, by omega⟩ ⟨by omega, by omega⟩ (fun c_5 => ?_) (fun c_5 => absurd (show (d : Int) < (manyN (r 1) 0 13 : Int) from by omega) c_5)
  have c_5 : (d : Int) < (manyN (r 1) 0 13 : Int) := c_5
  refine Zn.seg (pc2 := 24) (ls2 := [some (za (A 0))]) (st2 := [za (A 0)]) [(23, .aload_n 0)] (by decide +kernel) rfl ?_
  refine Zn.call (ins := .invokevirtual 122) [za (A 0)] [] (by decide +kernel) rfl rfl rfl ⟨rfl, rfl⟩ ⟨rfl, rfl, rfl⟩ rfl (zrecvV hD (p := 0) rfl rfl rfl) (sp_X8_isFew (A := A) (m := m) (r := r) (zov_all hD) hD (hR.1) (hR.2.1)) (fun v h2 hp => ?_)
  obtain ⟨rfl, hq_6⟩ := hp
  refine Zn.eq (pc2 := 27) (ls2 := [some (za (A 0))]) (st2 := [zi (ltB (manyN (r 1) 0 13 : Int) (r 1 0 + 2))]) (h2 := zov (LM A m r) h) rfl rfl rfl hq_6 ?_
  have hD : zND (LM A m r) := hD
  have q_7 := ltB_spec (manyN (r 1) 0 13 : Int) (r 1 0 + 2)
  refine Zn.ifc (c := .eq) (off := 10) 37 (by decide +kernel) rfl ⟨by omega, by omega⟩ (fun c_8 => absurd (show ltB (manyN (r 1) 0 13 : Int) (r 1 0 + 2) = 0 from c_8) (by omega)) (fun c_8 => ?_)
  have c_8 : ¬ (ltB (manyN (r 1) 0 13 : Int) (r 1 0 + 2) = 0) := c_8
  refine Zn.seg (pc2 := 31) (ls2 := [some (za (A 0))]) (st2 := [za (A 0)]) [(30, .aload_n 0)] (by decide +kernel) rfl ?_
  refine Zn.call (ins := .invokevirtual 264) [za (A 0)] [] (by decide +kernel) rfl rfl rfl ⟨rfl, rfl⟩ ⟨rfl, rfl, rfl⟩ rfl (zrecvV hD (p := 0) rfl rfl rfl) (sp_X8_fitsAll (A := A) (m := m) (r := r) (l := (lOf (r 1) 8191)) (zov_all hD) hD (hR) (rfl) (by omega)) (fun v h2 hp => ?_)
  obtain ⟨rfl, hq_9⟩ := hp
  refine Zn.eq (pc2 := 34) (ls2 := [some (za (A 0))]) (st2 := []) (h2 := zov (LM A (va_up (va_up (va_up m 19 ((lOf (r 1) 8191).length : Int)) 24 1) 25 ((lOf (r 1) 8191).length : Int)) (va_up (va_up (va_up (va_up (va_up r 11 (arL ((lOf (r 1) 8191).map nX) (r 11))) 12 (arL ((lOf (r 1) 8191).map (nY (r 1))) (r 12))) 13 (arL ((lOf (r 1) 8191).map (nF (r 1))) (r 13))) 14 (cpF (nfX (lOf (r 1) 8191)) (r 14) (lOf (r 1) 8191).length)) 15 (cpF (fun j => nY (r 1) (nfP (lOf (r 1) 8191) j)) (r 15) (lOf (r 1) 8191).length))) h) rfl rfl rfl (hq_9.trans (LM_over _ _ _ _ _ _)) ?_
  have hD : zND (LM A (va_up (va_up (va_up m 19 ((lOf (r 1) 8191).length : Int)) 24 1) 25 ((lOf (r 1) 8191).length : Int)) (va_up (va_up (va_up (va_up (va_up r 11 (arL ((lOf (r 1) 8191).map nX) (r 11))) 12 (arL ((lOf (r 1) 8191).map (nY (r 1))) (r 12))) 13 (arL ((lOf (r 1) 8191).map (nF (r 1))) (r 13))) 14 (cpF (nfX (lOf (r 1) 8191)) (r 14) (lOf (r 1) 8191).length)) 15 (cpF (fun j => nY (r 1) (nfP (lOf (r 1) 8191) j)) (r 15) (lOf (r 1) 8191).length))) := hD
  refine Zn.seg (pc2 := 42) (ls2 := [some (za (A 0))]) (st2 := [zi 1]) [(34, .goto 7), (41, .iconst 1)] (by decide +kernel) rfl ?_
  exact Zn.bret (by decide +kernel) rfl (by first | decide | omega) (⟨by first | rfl | (refine congrArg some (congrArg zi ?_); first | omega | (simp_all; done) | (simp_all; omega)), rfl⟩)
theorem sp_X8_isReady_best {h : xH} {A : Nat → Nat} {m : Nat → Int} {r : Nat → Nat → Int} {d : Nat} (hL : ∀ q ∈ LM A m r, h q.1 = zcE q.2) (hD : zND (LM A m r)) (hR : ROK (r 1)) (hd : r 1 0 = (d : Int)) (hd3 : d ≤ 3) (hpo : mk (mpoleB (r 1)) = 0) (hmn : d + 2 ≤ manyN (r 1) 0 13) (hS : ∀ t, t < 8192 → refP (r 1) t → SOK (r 1) d t) (hex : ∃ t, t < 8192 ∧ refP (r 1) t) : zEv k_X8_isReady [za (A 0)] h (fun v h2 => ∃ bs : Nat, ∃ x1 : Nat → Int, ∃ x2 : Nat → Int, ∃ x3 : Nat → Int, ∃ x4 : Nat → Int, ∃ x5 : Nat → Int, v = some (zi 1) ∧ h2 = zov (LM A (va_up (va_up (va_up (va_up (va_up (va_up (va_up (va_up m 19 ((lOf (r 1) bs).length : Int)) 20 (aOf (r 1) bs)) 21 (bOf (r 1) bs)) 24 (bOf (r 1) bs)) 25 ((d : Int) + 1)) 28 (bs : Int)) 29 ((aOf (r 1) bs).natAbs : Int)) 30 (bOf (r 1) bs)) (va_up (va_up (va_up (va_up (va_up r 11 x1) 12 x2) 13 x3) 14 (cpF (nfX (lOf (r 1) bs)) x4 (d + 1))) 15 (cpF (fpV (r 1) (lOf (r 1) bs) (aOf (r 1) bs) (bOf (r 1) bs)) x5 (d + 1)))) h ∧ FBE (r 1) bs) := by
  have hh : h = zov (LM A m r) h := zov_self hL
  refine zEv.body (I := (8, xI_X8_isReady, 1, 5, 125, 0, 0, false)) (rt := (some .boolean)) [some (za (A 0))] rfl rfl rfl rfl ?_
  refine Zn.eq rfl rfl rfl hh ?_
  have hD : zND (LM A m r) := hD
  refine Zn.seg (pc2 := 1) (ls2 := [some (za (A 0))]) (st2 := [za (A 0)]) [(0, .aload_n 0)] (by decide +kernel) rfl ?_
  refine Zn.call (ins := .invokevirtual 118) [za (A 0)] [] (by decide +kernel) rfl rfl rfl ⟨rfl, rfl⟩ ⟨rfl, rfl, rfl⟩ rfl (zrecvV hD (p := 0) rfl rfl rfl) (sp_X8_poles (A := A) (m := m) (r := r) (zov_all hD) hD (hR.1) (ROK_qz hR)) (fun v h2 hp => ?_)
  obtain ⟨rfl, hq_1⟩ := hp
  refine Zn.eq (pc2 := 4) (ls2 := [some (za (A 0))]) (st2 := [zi (mk (mpoleB (r 1)) : Int)]) (h2 := zov (LM A m r) h) rfl rfl rfl hq_1 ?_
  have hD : zND (LM A m r) := hD
  have hmk_ := mk_lt (mpoleB (r 1))
  refine Zn.ifc (c := .ne) (off := 17) 21 (by decide +kernel) rfl ⟨by omega, by omega⟩ (fun c_2 => absurd (show (mk (mpoleB (r 1)) : Int) ≠ 0 from c_2) (by omega)) (fun c_2 => ?_)
  have c_2 : ¬ ((mk (mpoleB (r 1)) : Int) ≠ 0) := c_2
  refine Zn.seg (pc2 := 9) (ls2 := [some (za (A 0))]) (st2 := [zi 0, za (A 0)]) [(7, .aload_n 0), (8, .iconst 0)] (by decide +kernel) rfl ?_
  refine Zn.call (ins := .invokevirtual 88) [za (A 0), zi 0] [] (by decide +kernel) rfl rfl rfl ⟨rfl, rfl⟩ ⟨rfl, rfl, rfl⟩ rfl (zrecvV hD (p := 0) rfl rfl rfl) (sp_X8_many (A := A) (m := m) (r := r) (k := 0) (zov_all hD) hD (hR.1) (⟨by decide, by decide⟩)) (fun v h2 hp => ?_)
  obtain ⟨rfl, hq_3⟩ := hp
  refine Zn.eq (pc2 := 12) (ls2 := [some (za (A 0))]) (st2 := [zi (manyN (r 1) 0 13 : Int)]) (h2 := zov (LM A m r) h) rfl rfl rfl hq_3 ?_
  have hD : zND (LM A m r) := hD
  have q_4 := manyN_le (r 1) 0 13
  refine Zn.seg (pc2 := 13) (ls2 := [some (za (A 0))]) (st2 := [za (A 0), zi (manyN (r 1) 0 13 : Int)]) [(12, .aload_n 0)] (by decide +kernel) rfl ?_
  refine Zn.get (ix := 7) hD 0 (by decide +kernel) rfl rfl rfl ?_
  refine Zn.seg (pc2 := 17) (ls2 := [some (za (A 0))]) (st2 := [zi 0, za (A 1), zi (manyN (r 1) 0 13 : Int)]) [(16, .iconst 0)] (by decide +kernel) rfl ?_
  refine Zn.iald hD 1 (0) (by decide +kernel) rfl (rfl) (by decide) rfl ?_
  refine Zn.topi (y := (d : Int)) (hd) ?_
  refine Zn.icmp (c := .gt) (off := 5) 23 (by decide +kernel) rfl ⟨by omega, by omega⟩ ⟨by omega, by omega⟩ (fun c_5 => ?_) (fun c_5 => absurd (show (d : Int) < (manyN (r 1) 0 13 : Int) from by omega) c_5)
  have c_5 : (d : Int) < (manyN (r 1) 0 13 : Int) := c_5
  refine Zn.seg (pc2 := 24) (ls2 := [some (za (A 0))]) (st2 := [za (A 0)]) [(23, .aload_n 0)] (by decide +kernel) rfl ?_
  refine Zn.call (ins := .invokevirtual 122) [za (A 0)] [] (by decide +kernel) rfl rfl rfl ⟨rfl, rfl⟩ ⟨rfl, rfl, rfl⟩ rfl (zrecvV hD (p := 0) rfl rfl rfl) (sp_X8_isFew (A := A) (m := m) (r := r) (zov_all hD) hD (hR.1) (hR.2.1)) (fun v h2 hp => ?_)
  obtain ⟨rfl, hq_6⟩ := hp
  refine Zn.eq (pc2 := 27) (ls2 := [some (za (A 0))]) (st2 := [zi (ltB (manyN (r 1) 0 13 : Int) (r 1 0 + 2))]) (h2 := zov (LM A m r) h) rfl rfl rfl hq_6 ?_
  have hD : zND (LM A m r) := hD
  have q_7 := ltB_spec (manyN (r 1) 0 13 : Int) (r 1 0 + 2)
  refine Zn.ifc (c := .eq) (off := 10) 37 (by decide +kernel) rfl ⟨by omega, by omega⟩ (fun c_8 => ?_) (fun c_8 => absurd (show ltB (manyN (r 1) 0 13 : Int) (r 1 0 + 2) = 0 from by omega) c_8)
  have c_8 : ltB (manyN (r 1) 0 13 : Int) (r 1 0 + 2) = 0 := c_8
  refine Zn.seg (pc2 := 38) (ls2 := [some (za (A 0))]) (st2 := [za (A 0)]) [(37, .aload_n 0)] (by decide +kernel) rfl ?_
  refine Zn.call (ins := .invokevirtual 267) [za (A 0)] [] (by decide +kernel) rfl rfl rfl ⟨rfl, rfl⟩ ⟨rfl, rfl, rfl⟩ rfl (zrecvV hD (p := 0) rfl rfl rfl) (sp_X8_findsBest (A := A) (m := m) (r := r) (d := d) (zov_all hD) hD (by first | assumption | omega) (by first | assumption | omega) (by first | assumption | omega) (hS) (by first | assumption | omega)) (fun v h2 hp => ?_)
  obtain ⟨bs, x1, x2, x3, x4, x5, rfl, hq_9, hfbe⟩ := hp
  refine Zn.eq (pc2 := 41) (ls2 := [some (za (A 0))]) (st2 := []) (h2 := zov (LM A (va_up (va_up (va_up (va_up (va_up (va_up (va_up (va_up m 19 ((lOf (r 1) bs).length : Int)) 20 (aOf (r 1) bs)) 21 (bOf (r 1) bs)) 24 (bOf (r 1) bs)) 25 ((d : Int) + 1)) 28 (bs : Int)) 29 ((aOf (r 1) bs).natAbs : Int)) 30 (bOf (r 1) bs)) (va_up (va_up (va_up (va_up (va_up r 11 x1) 12 x2) 13 x3) 14 (cpF (nfX (lOf (r 1) bs)) x4 (d + 1))) 15 (cpF (fpV (r 1) (lOf (r 1) bs) (aOf (r 1) bs) (bOf (r 1) bs)) x5 (d + 1)))) h) rfl rfl rfl (hq_9.trans (LM_over _ _ _ _ _ _)) ?_
  have hD : zND (LM A (va_up (va_up (va_up (va_up (va_up (va_up (va_up (va_up m 19 ((lOf (r 1) bs).length : Int)) 20 (aOf (r 1) bs)) 21 (bOf (r 1) bs)) 24 (bOf (r 1) bs)) 25 ((d : Int) + 1)) 28 (bs : Int)) 29 ((aOf (r 1) bs).natAbs : Int)) 30 (bOf (r 1) bs)) (va_up (va_up (va_up (va_up (va_up r 11 x1) 12 x2) 13 x3) 14 (cpF (nfX (lOf (r 1) bs)) x4 (d + 1))) 15 (cpF (fpV (r 1) (lOf (r 1) bs) (aOf (r 1) bs) (bOf (r 1) bs)) x5 (d + 1)))) := hD
  refine Zn.seg (pc2 := 42) (ls2 := [some (za (A 0))]) (st2 := [zi 1]) [(41, .iconst 1)] (by decide +kernel) rfl ?_
  exact Zn.bret (by decide +kernel) rfl (by first | decide | omega) (⟨bs, x1, x2, x3, x4, x5, rfl, rfl, hfbe⟩)
theorem sp_X8_isReady_yes {h : xH} {A : Nat → Nat} {m : Nat → Int} {r : Nat → Nat → Int} {d : Nat} (hL : ∀ q ∈ LM A m r, h q.1 = zcE q.2) (hD : zND (LM A m r)) (hR : ROK (r 1)) (hd : r 1 0 = (d : Int)) (hd3 : d ≤ 3) (hpo : mk (mpoleB (r 1)) = 0) (hS : ∀ t, t < 8192 → refP (r 1) t → SOK (r 1) d t) (hrd : RDH (r 1) d) : zEv k_X8_isReady [za (A 0)] h (fun v h2 => ∃ c1 : Int, ∃ c2 : Int, ∃ c3 : Int, ∃ c : Int, ∃ q1 : Int, ∃ q2 : Int, ∃ q3 : Int, ∃ x1 : Nat → Int, ∃ x2 : Nat → Int, ∃ x3 : Nat → Int, ∃ X : Nat → Int, ∃ P : Nat → Int, v = some (zi 1) ∧ h2 = zov (LM A (va_up (va_up (va_up (va_up (va_up (va_up (va_up (va_up m 19 c1) 20 c2) 21 c3) 24 c) 25 ((d : Int) + 1)) 28 q1) 29 q2) 30 q3) (va_up (va_up (va_up (va_up (va_up r 11 x1) 12 x2) 13 x3) 14 X) 15 P)) h ∧ RDY (r 1) d X P c) := by
  rcases hrd with ⟨h1, h2, h3⟩ | ⟨h1, h2⟩
  · refine zEv.mono (sp_X8_isReady_all hL hD hR hd hd3 hpo h1 h2) (fun v h2_ hp => ?_)
    obtain ⟨hv, hh⟩ := hp
    have em : va_up (va_up (va_up m 19 ((lOf (r 1) 8191).length : Int)) 24 1) 25 ((lOf (r 1) 8191).length : Int) = va_up (va_up (va_up (va_up (va_up (va_up (va_up (va_up m 19 ((lOf (r 1) 8191).length : Int)) 20 (m 20)) 21 (m 21)) 24 1) 25 ((d : Int) + 1)) 28 (m 28)) 29 (m 29)) 30 (m 30) := by
      funext j
      simp only [va_up]
      (repeat' split) <;> first | rfl | (exfalso; omega) | omega | (subst_vars; rfl)
    refine ⟨((lOf (r 1) 8191).length : Int), m 20, m 21, 1, m 28, m 29, m 30, (arL ((lOf (r 1) 8191).map nX) (r 11)), (arL ((lOf (r 1) 8191).map (nY (r 1))) (r 12)), (arL ((lOf (r 1) 8191).map (nF (r 1))) (r 13)), cpF (nfX (lOf (r 1) 8191)) (r 14) (lOf (r 1) 8191).length, cpF (fun j => nY (r 1) (nfP (lOf (r 1) 8191) j)) (r 15) (lOf (r 1) 8191).length, hv, hh.trans (by rw [em]), ?_, Or.inl ⟨h1, rfl, ?_⟩⟩
    · exact GOK_congr (fun j hj => cpF_lt (by omega)) (fun j hj => cpF_lt (by omega)) h3
    · exact fun j hj => ⟨cpF_lt (by omega), cpF_lt (by omega)⟩
  · refine zEv.mono (sp_X8_isReady_best hL hD hR hd hd3 hpo h1 hS h2) (fun v h2_ hp => ?_)
    obtain ⟨bs, x1, x2, x3, x4, x5, hv, hh, hf⟩ := hp
    refine ⟨_, _, _, bOf (r 1) bs, _, _, _, x1, x2, x3, cpF (nfX (lOf (r 1) bs)) x4 (d + 1), cpF (fpV (r 1) (lOf (r 1) bs) (aOf (r 1) bs) (bOf (r 1) bs)) x5 (d + 1), hv, hh, ?_, Or.inr ⟨h1, bs, hf, rfl, ?_⟩⟩
    · exact GOK_congr (fun j hj => cpF_lt hj) (fun j hj => cpF_lt hj) (hS bs hf.1 hf.2.1).2
    · exact fun j hj => ⟨cpF_lt hj, cpF_lt hj⟩
theorem sp_X8_tells {h : xH} {A : Nat → Nat} {m : Nat → Int} {r : Nat → Nat → Int} {w_ : Int} (hL : ∀ q ∈ LM A m r, h q.1 = zcE q.2) (hD : zND (LM A m r)) (hw : 0 ≤ w_ ∧ w_ ≤ 2) (hu : -9223372036854775807 ≤ m 26 ∧ m 26 ≤ 9223372036854775807) : zEv k_X8_tells [za (A 0), zi w_] h (fun v h2 => v = some (zj (tlV w_ (m 26) (m 27))) ∧ h2 = h) := by
  have hh : h = zov (LM A m r) h := zov_self hL
  refine zEv.body (I := (8, xI_X8_tells, 2, 1, 21, 0, 0, false)) (rt := (some .long)) [some (za (A 0)), some (zi w_)] rfl rfl rfl rfl ?_
  refine Zn.eq rfl rfl rfl hh ?_
  have hD : zND (LM A m r) := hD
  refine Zn.seg (pc2 := 1) (ls2 := [some (za (A 0)), some (zi w_)]) (st2 := [zi w_]) [(0, .iload_n 1)] (by decide +kernel) rfl ?_
  refine Zn.ifc (c := .ne) (off := 13) 14 (by decide +kernel) rfl ⟨by omega, by omega⟩ (fun c_1 => ?_) (fun c_1 => ?_)
  · have c_1 : w_ ≠ 0 := c_1
    refine Zn.seg (pc2 := 16) (ls2 := [some (za (A 0)), some (zi w_)]) (st2 := [zi 1, zi w_]) [(14, .iload_n 1), (15, .iconst 1)] (by decide +kernel) rfl ?_
    refine Zn.icmp (c := .ne) (off := 10) 26 (by decide +kernel) rfl ⟨by omega, by omega⟩ ⟨by decide, by decide⟩ (fun c_2 => ?_) (fun c_2 => ?_)
    · have c_2 : w_ ≠ 1 := c_2
      refine Zn.seg (pc2 := 27) (ls2 := [some (za (A 0)), some (zi w_)]) (st2 := [za (A 0)]) [(26, .aload_n 0)] (by decide +kernel) rfl ?_
      refine Zn.get (ix := 229) hD 0 (by decide +kernel) rfl rfl rfl ?_
      refine Zn.seg (pc2 := 31) (ls2 := [some (za (A 0)), some (zi w_)]) (st2 := [zj 0, zj (m 26)]) [(30, .lconst 0)] (by decide +kernel) rfl ?_
      refine Zn.lcmpif (c := .ne) (off := (7)) 39 (by decide +kernel) (by decide +kernel) rfl ⟨by omega, by omega⟩ ⟨by decide, by decide⟩ (fun c_3 => ?_) (fun c_3 => ?_)
      · have c_3 : m 26 ≠ 0 := c_3
        refine Zn.seg (pc2 := 40) (ls2 := [some (za (A 0)), some (zi w_)]) (st2 := [za (A 0)]) [(39, .aload_n 0)] (by decide +kernel) rfl ?_
        refine Zn.get (ix := 229) hD 0 (by decide +kernel) rfl rfl rfl ?_
        refine Zn.seg (pc2 := 44) (ls2 := [some (za (A 0)), some (zi w_)]) (st2 := [zj 0, zj (m 26)]) [(43, .lconst 0)] (by decide +kernel) rfl ?_
        refine Zn.lcmpif (c := .le) (off := (7)) 52 (by decide +kernel) (by decide +kernel) rfl ⟨by omega, by omega⟩ ⟨by decide, by decide⟩ (fun c_4 => ?_) (fun c_4 => ?_)
        · have c_4 : m 26 ≤ 0 := c_4
          refine Zn.seg (pc2 := 55) (ls2 := [some (za (A 0)), some (zi w_)]) (st2 := [zj 2]) [(52, .ldc2_w 114)] (by decide +kernel) rfl ?_
          exact Zn.lret (by decide +kernel) rfl (⟨by refine congrArg some (congrArg zj ?_); rw [tlV]; first | (rw [if_pos (by omega)]; done) | (rw [if_neg (by omega), if_pos (by omega)]; done) | (rw [if_neg (by omega), if_neg (by omega), if_pos (by omega)]; done) | (rw [if_neg (by omega), if_neg (by omega), if_neg (by omega), if_pos (by omega)]; done) | (rw [if_neg (by omega), if_neg (by omega), if_neg (by omega), if_neg (by omega)]; done), hh.symm⟩)
        · have c_4 : ¬ (m 26 ≤ 0) := c_4
          refine Zn.seg (pc2 := 55) (ls2 := [some (za (A 0)), some (zi w_)]) (st2 := [zj 1]) [(48, .lconst 1), (49, .goto 6)] (by decide +kernel) rfl ?_
          exact Zn.lret (by decide +kernel) rfl (⟨by refine congrArg some (congrArg zj ?_); rw [tlV]; first | (rw [if_pos (by omega)]; done) | (rw [if_neg (by omega), if_pos (by omega)]; done) | (rw [if_neg (by omega), if_neg (by omega), if_pos (by omega)]; done) | (rw [if_neg (by omega), if_neg (by omega), if_neg (by omega), if_pos (by omega)]; done) | (rw [if_neg (by omega), if_neg (by omega), if_neg (by omega), if_neg (by omega)]; done), hh.symm⟩)
      · have c_3 : ¬ (m 26 ≠ 0) := c_3
        refine Zn.seg (pc2 := 55) (ls2 := [some (za (A 0)), some (zi w_)]) (st2 := [zj 0]) [(35, .lconst 0), (36, .goto 19)] (by decide +kernel) rfl ?_
        exact Zn.lret (by decide +kernel) rfl (⟨by refine congrArg some (congrArg zj ?_); rw [tlV]; first | (rw [if_pos (by omega)]; done) | (rw [if_neg (by omega), if_pos (by omega)]; done) | (rw [if_neg (by omega), if_neg (by omega), if_pos (by omega)]; done) | (rw [if_neg (by omega), if_neg (by omega), if_neg (by omega), if_pos (by omega)]; done) | (rw [if_neg (by omega), if_neg (by omega), if_neg (by omega), if_neg (by omega)]; done), hh.symm⟩)
    · have c_2 : ¬ (w_ ≠ 1) := c_2
      refine Zn.seg (pc2 := 20) (ls2 := [some (za (A 0)), some (zi w_)]) (st2 := [za (A 0)]) [(19, .aload_n 0)] (by decide +kernel) rfl ?_
      refine Zn.get (ix := 232) hD 0 (by decide +kernel) rfl rfl rfl ?_
      refine Zn.seg (pc2 := 55) (ls2 := [some (za (A 0)), some (zi w_)]) (st2 := [zj (m 27)]) [(23, .goto 32)] (by decide +kernel) rfl ?_
      exact Zn.lret (by decide +kernel) rfl (⟨by refine congrArg some (congrArg zj ?_); rw [tlV]; first | (rw [if_pos (by omega)]; done) | (rw [if_neg (by omega), if_pos (by omega)]; done) | (rw [if_neg (by omega), if_neg (by omega), if_pos (by omega)]; done) | (rw [if_neg (by omega), if_neg (by omega), if_neg (by omega), if_pos (by omega)]; done) | (rw [if_neg (by omega), if_neg (by omega), if_neg (by omega), if_neg (by omega)]; done), hh.symm⟩)
  · have c_1 : ¬ (w_ ≠ 0) := c_1
    refine Zn.seg (pc2 := 5) (ls2 := [some (za (A 0)), some (zi w_)]) (st2 := [za (A 0)]) [(4, .aload_n 0)] (by decide +kernel) rfl ?_
    refine Zn.get (ix := 229) hD 0 (by decide +kernel) rfl rfl rfl ?_
    refine Zn.call (ins := .invokestatic 192) [zj (m 26)] [] (by decide +kernel) rfl rfl rfl ⟨rfl, rfl⟩ ⟨rfl, rfl, rfl⟩ rfl (zrecvS (by decide)) (sp_X8_plain (x := m 26) (by first | assumption | omega) (by first | assumption | omega)) (fun v h2 hp => ?_)
    obtain ⟨rfl, hq_5⟩ := hp
    refine Zn.eq (pc2 := 11) (ls2 := [some (za (A 0)), some (zi w_)]) (st2 := [zj ((m 26).natAbs : Int)]) (h2 := zov (LM A m r) h) rfl rfl rfl hq_5 ?_
    have hD : zND (LM A m r) := hD
    refine Zn.seg (pc2 := 55) (ls2 := [some (za (A 0)), some (zi w_)]) (st2 := [zj ((m 26).natAbs : Int)]) [(11, .goto 44)] (by decide +kernel) rfl ?_
    exact Zn.lret (by decide +kernel) rfl (⟨by refine congrArg some (congrArg zj ?_); rw [tlV]; first | (rw [if_pos (by omega)]; done) | (rw [if_neg (by omega), if_pos (by omega)]; done) | (rw [if_neg (by omega), if_neg (by omega), if_pos (by omega)]; done) | (rw [if_neg (by omega), if_neg (by omega), if_neg (by omega), if_pos (by omega)]; done) | (rw [if_neg (by omega), if_neg (by omega), if_neg (by omega), if_neg (by omega)]; done), hh.symm⟩)
theorem sp_X8_value_bad1 {h : xH} {A : Nat → Nat} {m : Nat → Int} {r : Nat → Nat → Int} {x w_ : Int} (hL : ∀ q ∈ LM A m r, h q.1 = zcE q.2) (hD : zND (LM A m r)) (zx : zInI x) (zw : zInI w_) (hb : ¬ (-6 ≤ x ∧ x ≤ 6)) : zEv k_X8_value [za (A 0), zi x, zi w_] h (fun v h2 => v = some (zj (-1)) ∧ h2 = h) := by
  have hh : h = zov (LM A m r) h := zov_self hL
  have zx1 := zx.1
  have zx2 := zx.2
  have zw1 := zw.1
  have zw2 := zw.2
  refine zEv.body (I := (8, xI_X8_value, 3, 6, 145, 0, 0, false)) (rt := (some .long)) [some (za (A 0)), some (zi x), some (zi w_)] rfl rfl rfl rfl ?_
  refine Zn.eq rfl rfl rfl hh ?_
  have hD : zND (LM A m r) := hD
  refine Zn.seg (pc2 := 1) (ls2 := [some (za (A 0)), some (zi x), some (zi w_)]) (st2 := [zi x]) [(0, .iload_n 1)] (by decide +kernel) rfl ?_
  refine Zn.i2l (by decide +kernel) ⟨by omega, by omega⟩ ?_
  refine Zn.call (ins := .invokestatic 94) [zj x] [] (by decide +kernel) rfl rfl rfl ⟨rfl, rfl⟩ ⟨rfl, rfl, rfl⟩ rfl (zrecvS (by decide)) (sp_X8_isX (x := x) (⟨by omega, by omega⟩)) (fun v h2 hp => ?_)
  obtain ⟨rfl, hq_1⟩ := hp
  refine Zn.eq (pc2 := 5) (ls2 := [some (za (A 0)), some (zi x), some (zi w_)]) (st2 := [zi (inB (-6) 6 x)]) (h2 := zov (LM A m r) h) rfl rfl rfl hq_1 ?_
  have hD : zND (LM A m r) := hD
  have q_2 := inB_spec (-6) 6 x
  refine Zn.ifc (c := .eq) (off := 15) 20 (by decide +kernel) rfl ⟨by omega, by omega⟩ (fun c_3 => ?_) (fun c_3 => absurd (show inB (-6) 6 x = 0 from by omega) c_3)
  have c_3 : inB (-6) 6 x = 0 := c_3
  refine Zn.seg (pc2 := 23) (ls2 := [some (za (A 0)), some (zi x), some (zi w_)]) (st2 := [zj (-1)]) [(20, .ldc2_w 223)] (by decide +kernel) rfl ?_
  exact Zn.lret (by decide +kernel) rfl (⟨by first | rfl | (refine congrArg some (congrArg zj ?_); first | omega | (simp_all; done) | (simp_all; omega)), hh.symm⟩)
theorem sp_X8_value_bad2 {h : xH} {A : Nat → Nat} {m : Nat → Int} {r : Nat → Nat → Int} {x w_ : Int} (hL : ∀ q ∈ LM A m r, h q.1 = zcE q.2) (hD : zND (LM A m r)) (zx : zInI x) (zw : zInI w_) (hi : -6 ≤ x ∧ x ≤ 6) (hb : ¬ (0 ≤ w_ ∧ w_ ≤ 2)) : zEv k_X8_value [za (A 0), zi x, zi w_] h (fun v h2 => v = some (zj (-1)) ∧ h2 = h) := by
  have hh : h = zov (LM A m r) h := zov_self hL
  have zx1 := zx.1
  have zx2 := zx.2
  have zw1 := zw.1
  have zw2 := zw.2
  refine zEv.body (I := (8, xI_X8_value, 3, 6, 145, 0, 0, false)) (rt := (some .long)) [some (za (A 0)), some (zi x), some (zi w_)] rfl rfl rfl rfl ?_
  refine Zn.eq rfl rfl rfl hh ?_
  have hD : zND (LM A m r) := hD
  refine Zn.seg (pc2 := 1) (ls2 := [some (za (A 0)), some (zi x), some (zi w_)]) (st2 := [zi x]) [(0, .iload_n 1)] (by decide +kernel) rfl ?_
  refine Zn.i2l (by decide +kernel) ⟨by omega, by omega⟩ ?_
  refine Zn.call (ins := .invokestatic 94) [zj x] [] (by decide +kernel) rfl rfl rfl ⟨rfl, rfl⟩ ⟨rfl, rfl, rfl⟩ rfl (zrecvS (by decide)) (sp_X8_isX (x := x) (⟨by omega, by omega⟩)) (fun v h2 hp => ?_)
  obtain ⟨rfl, hq_1⟩ := hp
  refine Zn.eq (pc2 := 5) (ls2 := [some (za (A 0)), some (zi x), some (zi w_)]) (st2 := [zi (inB (-6) 6 x)]) (h2 := zov (LM A m r) h) rfl rfl rfl hq_1 ?_
  have hD : zND (LM A m r) := hD
  have q_2 := inB_spec (-6) 6 x
  refine Zn.ifc (c := .eq) (off := 15) 20 (by decide +kernel) rfl ⟨by omega, by omega⟩ (fun c_3 => absurd (show inB (-6) 6 x = 0 from c_3) (by omega)) (fun c_3 => ?_)
  have c_3 : ¬ (inB (-6) 6 x = 0) := c_3
  refine Zn.seg (pc2 := 9) (ls2 := [some (za (A 0)), some (zi x), some (zi w_)]) (st2 := [zi w_]) [(8, .iload_n 2)] (by decide +kernel) rfl ?_
  refine Zn.i2l (by decide +kernel) ⟨by omega, by omega⟩ ?_
  refine Zn.seg (pc2 := 14) (ls2 := [some (za (A 0)), some (zi x), some (zi w_)]) (st2 := [zj 2, zj 0, zj w_]) [(10, .lconst 0), (11, .ldc2_w 114)] (by decide +kernel) rfl ?_
  refine Zn.call (ins := .invokestatic 77) [zj w_, zj 0, zj 2] [] (by decide +kernel) rfl rfl rfl ⟨rfl, rfl⟩ ⟨rfl, rfl, rfl⟩ rfl (zrecvS (by decide)) (sp_X8_in (x := w_) (lo := 0) (hi := 2) (⟨by omega, by omega⟩) (⟨by decide, by decide⟩) (⟨by decide, by decide⟩)) (fun v h2 hp => ?_)
  obtain ⟨rfl, hq_4⟩ := hp
  refine Zn.eq (pc2 := 17) (ls2 := [some (za (A 0)), some (zi x), some (zi w_)]) (st2 := [zi (inB 0 2 w_)]) (h2 := zov (LM A m r) h) rfl rfl rfl hq_4 ?_
  have hD : zND (LM A m r) := hD
  have q_5 := inB_spec 0 2 w_
  refine Zn.ifc (c := .ne) (off := 7) 24 (by decide +kernel) rfl ⟨by omega, by omega⟩ (fun c_6 => absurd (show inB 0 2 w_ ≠ 0 from c_6) (by omega)) (fun c_6 => ?_)
  have c_6 : ¬ (inB 0 2 w_ ≠ 0) := c_6
  refine Zn.seg (pc2 := 23) (ls2 := [some (za (A 0)), some (zi x), some (zi w_)]) (st2 := [zj (-1)]) [(20, .ldc2_w 223)] (by decide +kernel) rfl ?_
  exact Zn.lret (by decide +kernel) rfl (⟨by first | rfl | (refine congrArg some (congrArg zj ?_); first | omega | (simp_all; done) | (simp_all; omega)), hh.symm⟩)
theorem sp_X8_error_bad1 {h : xH} {A : Nat → Nat} {m : Nat → Int} {r : Nat → Nat → Int} {x w_ : Int} (hL : ∀ q ∈ LM A m r, h q.1 = zcE q.2) (hD : zND (LM A m r)) (zx : zInI x) (zw : zInI w_) (hb : ¬ (-6 ≤ x ∧ x ≤ 6)) : zEv k_X8_error [za (A 0), zi x, zi w_] h (fun v h2 => v = some (zj (-1)) ∧ h2 = h) := by
  have hh : h = zov (LM A m r) h := zov_self hL
  have zx1 := zx.1
  have zx2 := zx.2
  have zw1 := zw.1
  have zw2 := zw.2
  refine zEv.body (I := (8, xI_X8_error, 3, 6, 145, 0, 0, false)) (rt := (some .long)) [some (za (A 0)), some (zi x), some (zi w_)] rfl rfl rfl rfl ?_
  refine Zn.eq rfl rfl rfl hh ?_
  have hD : zND (LM A m r) := hD
  refine Zn.seg (pc2 := 1) (ls2 := [some (za (A 0)), some (zi x), some (zi w_)]) (st2 := [zi x]) [(0, .iload_n 1)] (by decide +kernel) rfl ?_
  refine Zn.i2l (by decide +kernel) ⟨by omega, by omega⟩ ?_
  refine Zn.call (ins := .invokestatic 94) [zj x] [] (by decide +kernel) rfl rfl rfl ⟨rfl, rfl⟩ ⟨rfl, rfl, rfl⟩ rfl (zrecvS (by decide)) (sp_X8_isX (x := x) (⟨by omega, by omega⟩)) (fun v h2 hp => ?_)
  obtain ⟨rfl, hq_1⟩ := hp
  refine Zn.eq (pc2 := 5) (ls2 := [some (za (A 0)), some (zi x), some (zi w_)]) (st2 := [zi (inB (-6) 6 x)]) (h2 := zov (LM A m r) h) rfl rfl rfl hq_1 ?_
  have hD : zND (LM A m r) := hD
  have q_2 := inB_spec (-6) 6 x
  refine Zn.ifc (c := .eq) (off := 15) 20 (by decide +kernel) rfl ⟨by omega, by omega⟩ (fun c_3 => ?_) (fun c_3 => absurd (show inB (-6) 6 x = 0 from by omega) c_3)
  have c_3 : inB (-6) 6 x = 0 := c_3
  refine Zn.seg (pc2 := 23) (ls2 := [some (za (A 0)), some (zi x), some (zi w_)]) (st2 := [zj (-1)]) [(20, .ldc2_w 223)] (by decide +kernel) rfl ?_
  exact Zn.lret (by decide +kernel) rfl (⟨by first | rfl | (refine congrArg some (congrArg zj ?_); first | omega | (simp_all; done) | (simp_all; omega)), hh.symm⟩)
theorem sp_X8_error_bad2 {h : xH} {A : Nat → Nat} {m : Nat → Int} {r : Nat → Nat → Int} {x w_ : Int} (hL : ∀ q ∈ LM A m r, h q.1 = zcE q.2) (hD : zND (LM A m r)) (zx : zInI x) (zw : zInI w_) (hi : -6 ≤ x ∧ x ≤ 6) (hb : ¬ (0 ≤ w_ ∧ w_ ≤ 2)) : zEv k_X8_error [za (A 0), zi x, zi w_] h (fun v h2 => v = some (zj (-1)) ∧ h2 = h) := by
  have hh : h = zov (LM A m r) h := zov_self hL
  have zx1 := zx.1
  have zx2 := zx.2
  have zw1 := zw.1
  have zw2 := zw.2
  refine zEv.body (I := (8, xI_X8_error, 3, 6, 145, 0, 0, false)) (rt := (some .long)) [some (za (A 0)), some (zi x), some (zi w_)] rfl rfl rfl rfl ?_
  refine Zn.eq rfl rfl rfl hh ?_
  have hD : zND (LM A m r) := hD
  refine Zn.seg (pc2 := 1) (ls2 := [some (za (A 0)), some (zi x), some (zi w_)]) (st2 := [zi x]) [(0, .iload_n 1)] (by decide +kernel) rfl ?_
  refine Zn.i2l (by decide +kernel) ⟨by omega, by omega⟩ ?_
  refine Zn.call (ins := .invokestatic 94) [zj x] [] (by decide +kernel) rfl rfl rfl ⟨rfl, rfl⟩ ⟨rfl, rfl, rfl⟩ rfl (zrecvS (by decide)) (sp_X8_isX (x := x) (⟨by omega, by omega⟩)) (fun v h2 hp => ?_)
  obtain ⟨rfl, hq_1⟩ := hp
  refine Zn.eq (pc2 := 5) (ls2 := [some (za (A 0)), some (zi x), some (zi w_)]) (st2 := [zi (inB (-6) 6 x)]) (h2 := zov (LM A m r) h) rfl rfl rfl hq_1 ?_
  have hD : zND (LM A m r) := hD
  have q_2 := inB_spec (-6) 6 x
  refine Zn.ifc (c := .eq) (off := 15) 20 (by decide +kernel) rfl ⟨by omega, by omega⟩ (fun c_3 => absurd (show inB (-6) 6 x = 0 from c_3) (by omega)) (fun c_3 => ?_)
  have c_3 : ¬ (inB (-6) 6 x = 0) := c_3
  refine Zn.seg (pc2 := 9) (ls2 := [some (za (A 0)), some (zi x), some (zi w_)]) (st2 := [zi w_]) [(8, .iload_n 2)] (by decide +kernel) rfl ?_
  refine Zn.i2l (by decide +kernel) ⟨by omega, by omega⟩ ?_
  refine Zn.seg (pc2 := 14) (ls2 := [some (za (A 0)), some (zi x), some (zi w_)]) (st2 := [zj 2, zj 0, zj w_]) [(10, .lconst 0), (11, .ldc2_w 114)] (by decide +kernel) rfl ?_
  refine Zn.call (ins := .invokestatic 77) [zj w_, zj 0, zj 2] [] (by decide +kernel) rfl rfl rfl ⟨rfl, rfl⟩ ⟨rfl, rfl, rfl⟩ rfl (zrecvS (by decide)) (sp_X8_in (x := w_) (lo := 0) (hi := 2) (⟨by omega, by omega⟩) (⟨by decide, by decide⟩) (⟨by decide, by decide⟩)) (fun v h2 hp => ?_)
  obtain ⟨rfl, hq_4⟩ := hp
  refine Zn.eq (pc2 := 17) (ls2 := [some (za (A 0)), some (zi x), some (zi w_)]) (st2 := [zi (inB 0 2 w_)]) (h2 := zov (LM A m r) h) rfl rfl rfl hq_4 ?_
  have hD : zND (LM A m r) := hD
  have q_5 := inB_spec 0 2 w_
  refine Zn.ifc (c := .ne) (off := 7) 24 (by decide +kernel) rfl ⟨by omega, by omega⟩ (fun c_6 => absurd (show inB 0 2 w_ ≠ 0 from c_6) (by omega)) (fun c_6 => ?_)
  have c_6 : ¬ (inB 0 2 w_ ≠ 0) := c_6
  refine Zn.seg (pc2 := 23) (ls2 := [some (za (A 0)), some (zi x), some (zi w_)]) (st2 := [zj (-1)]) [(20, .ldc2_w 223)] (by decide +kernel) rfl ?_
  exact Zn.lret (by decide +kernel) rfl (⟨by first | rfl | (refine congrArg some (congrArg zj ?_); first | omega | (simp_all; done) | (simp_all; omega)), hh.symm⟩)
theorem sp_X8_value_none1 {h : xH} {A : Nat → Nat} {m : Nat → Int} {r : Nat → Nat → Int} {x w_ : Int} {p d : Nat} (hL : ∀ q ∈ LM A m r, h q.1 = zcE q.2) (hD : zND (LM A m r)) (hx : x = (p : Int) - 6) (hp : p < 13) (hw : 0 ≤ w_ ∧ w_ ≤ 2) (hR : ROK (r 1)) (hq0 : qv (fun j => r 1 (j + 1)) x = 0) : zEv k_X8_value [za (A 0), zi x, zi w_] h (fun v h2 => v = some (zj (-4)) ∧ h2 = h) := by
  have hh : h = zov (LM A m r) h := zov_self hL
  have hqr := ROK_q hR hp
  rw [← hx] at hqr
  refine zEv.body (I := (8, xI_X8_value, 3, 6, 145, 0, 0, false)) (rt := (some .long)) [some (za (A 0)), some (zi x), some (zi w_)] rfl rfl rfl rfl ?_
  refine Zn.eq rfl rfl rfl hh ?_
  have hD : zND (LM A m r) := hD
  refine Zn.seg (pc2 := 1) (ls2 := [some (za (A 0)), some (zi x), some (zi w_)]) (st2 := [zi x]) [(0, .iload_n 1)] (by decide +kernel) rfl ?_
  refine Zn.i2l (by decide +kernel) ⟨by omega, by omega⟩ ?_
  refine Zn.call (ins := .invokestatic 94) [zj x] [] (by decide +kernel) rfl rfl rfl ⟨rfl, rfl⟩ ⟨rfl, rfl, rfl⟩ rfl (zrecvS (by decide)) (sp_X8_isX (x := x) (⟨by omega, by omega⟩)) (fun v h2 hp => ?_)
  obtain ⟨rfl, hq_1⟩ := hp
  refine Zn.eq (pc2 := 5) (ls2 := [some (za (A 0)), some (zi x), some (zi w_)]) (st2 := [zi (inB (-6) 6 x)]) (h2 := zov (LM A m r) h) rfl rfl rfl hq_1 ?_
  have hD : zND (LM A m r) := hD
  have q_2 := inB_spec (-6) 6 x
  refine Zn.ifc (c := .eq) (off := 15) 20 (by decide +kernel) rfl ⟨by omega, by omega⟩ (fun c_3 => absurd (show inB (-6) 6 x = 0 from c_3) (by omega)) (fun c_3 => ?_)
  have c_3 : ¬ (inB (-6) 6 x = 0) := c_3
  refine Zn.seg (pc2 := 9) (ls2 := [some (za (A 0)), some (zi x), some (zi w_)]) (st2 := [zi w_]) [(8, .iload_n 2)] (by decide +kernel) rfl ?_
  refine Zn.i2l (by decide +kernel) ⟨by omega, by omega⟩ ?_
  refine Zn.seg (pc2 := 14) (ls2 := [some (za (A 0)), some (zi x), some (zi w_)]) (st2 := [zj 2, zj 0, zj w_]) [(10, .lconst 0), (11, .ldc2_w 114)] (by decide +kernel) rfl ?_
  refine Zn.call (ins := .invokestatic 77) [zj w_, zj 0, zj 2] [] (by decide +kernel) rfl rfl rfl ⟨rfl, rfl⟩ ⟨rfl, rfl, rfl⟩ rfl (zrecvS (by decide)) (sp_X8_in (x := w_) (lo := 0) (hi := 2) (⟨by omega, by omega⟩) (⟨by decide, by decide⟩) (⟨by decide, by decide⟩)) (fun v h2 hp => ?_)
  obtain ⟨rfl, hq_4⟩ := hp
  refine Zn.eq (pc2 := 17) (ls2 := [some (za (A 0)), some (zi x), some (zi w_)]) (st2 := [zi (inB 0 2 w_)]) (h2 := zov (LM A m r) h) rfl rfl rfl hq_4 ?_
  have hD : zND (LM A m r) := hD
  have q_5 := inB_spec 0 2 w_
  refine Zn.ifc (c := .ne) (off := 7) 24 (by decide +kernel) rfl ⟨by omega, by omega⟩ (fun c_6 => ?_) (fun c_6 => absurd (show inB 0 2 w_ ≠ 0 from by omega) c_6)
  have c_6 : inB 0 2 w_ ≠ 0 := c_6
  refine Zn.seg (pc2 := 26) (ls2 := [some (za (A 0)), some (zi x), some (zi w_)]) (st2 := [zi x, za (A 0)]) [(24, .aload_n 0), (25, .iload_n 1)] (by decide +kernel) rfl ?_
  refine Zn.call (ins := .invokevirtual 85) [za (A 0), zi x] [] (by decide +kernel) rfl rfl rfl ⟨rfl, rfl⟩ ⟨rfl, rfl, rfl⟩ rfl (zrecvV hD (p := 0) rfl rfl rfl) (sp_X8_beneath (A := A) (m := m) (r := r) (x := x) (zov_all hD) hD) (fun v h2 hp => ?_)
  obtain ⟨rfl, hq_7⟩ := hp
  refine Zn.eq (pc2 := 29) (ls2 := [some (za (A 0)), some (zi x), some (zi w_)]) (st2 := [zi (qv (fun j => r 1 (j + 1)) x)]) (h2 := zov (LM A m r) h) rfl rfl rfl hq_7 ?_
  have hD : zND (LM A m r) := hD
  refine Zn.ifc (c := .eq) (off := 10) 39 (by decide +kernel) rfl ⟨by omega, by omega⟩ (fun c_8 => ?_) (fun c_8 => absurd (show qv (fun j => r 1 (j + 1)) x = 0 from by omega) c_8)
  have c_8 : qv (fun j => r 1 (j + 1)) x = 0 := c_8
  refine Zn.seg (pc2 := 42) (ls2 := [some (za (A 0)), some (zi x), some (zi w_)]) (st2 := [zj (-4)]) [(39, .ldc2_w 311)] (by decide +kernel) rfl ?_
  exact Zn.lret (by decide +kernel) rfl (⟨by first | rfl | (refine congrArg some (congrArg zj ?_); first | omega | (simp_all; done) | (simp_all; omega)), hh.symm⟩)
theorem sp_X8_value_none2 {h : xH} {A : Nat → Nat} {m : Nat → Int} {r : Nat → Nat → Int} {x w_ : Int} {p d : Nat} (hL : ∀ q ∈ LM A m r, h q.1 = zcE q.2) (hD : zND (LM A m r)) (hx : x = (p : Int) - 6) (hp : p < 13) (hw : 0 ≤ w_ ∧ w_ ≤ 2) (hR : ROK (r 1)) (hd : r 1 0 = (d : Int)) (hd3 : d ≤ 3) (hq0 : qv (fun j => r 1 (j + 1)) x ≠ 0) (hno : mk (mpoleB (r 1)) ≠ 0 ∨ manyN (r 1) 0 13 ≤ d) : zEv k_X8_value [za (A 0), zi x, zi w_] h (fun v h2 => v = some (zj (-4)) ∧ h2 = h) := by
  have hh : h = zov (LM A m r) h := zov_self hL
  have hqr := ROK_q hR hp
  rw [← hx] at hqr
  refine zEv.body (I := (8, xI_X8_value, 3, 6, 145, 0, 0, false)) (rt := (some .long)) [some (za (A 0)), some (zi x), some (zi w_)] rfl rfl rfl rfl ?_
  refine Zn.eq rfl rfl rfl hh ?_
  have hD : zND (LM A m r) := hD
  refine Zn.seg (pc2 := 1) (ls2 := [some (za (A 0)), some (zi x), some (zi w_)]) (st2 := [zi x]) [(0, .iload_n 1)] (by decide +kernel) rfl ?_
  refine Zn.i2l (by decide +kernel) ⟨by omega, by omega⟩ ?_
  refine Zn.call (ins := .invokestatic 94) [zj x] [] (by decide +kernel) rfl rfl rfl ⟨rfl, rfl⟩ ⟨rfl, rfl, rfl⟩ rfl (zrecvS (by decide)) (sp_X8_isX (x := x) (⟨by omega, by omega⟩)) (fun v h2 hp => ?_)
  obtain ⟨rfl, hq_1⟩ := hp
  refine Zn.eq (pc2 := 5) (ls2 := [some (za (A 0)), some (zi x), some (zi w_)]) (st2 := [zi (inB (-6) 6 x)]) (h2 := zov (LM A m r) h) rfl rfl rfl hq_1 ?_
  have hD : zND (LM A m r) := hD
  have q_2 := inB_spec (-6) 6 x
  refine Zn.ifc (c := .eq) (off := 15) 20 (by decide +kernel) rfl ⟨by omega, by omega⟩ (fun c_3 => absurd (show inB (-6) 6 x = 0 from c_3) (by omega)) (fun c_3 => ?_)
  have c_3 : ¬ (inB (-6) 6 x = 0) := c_3
  refine Zn.seg (pc2 := 9) (ls2 := [some (za (A 0)), some (zi x), some (zi w_)]) (st2 := [zi w_]) [(8, .iload_n 2)] (by decide +kernel) rfl ?_
  refine Zn.i2l (by decide +kernel) ⟨by omega, by omega⟩ ?_
  refine Zn.seg (pc2 := 14) (ls2 := [some (za (A 0)), some (zi x), some (zi w_)]) (st2 := [zj 2, zj 0, zj w_]) [(10, .lconst 0), (11, .ldc2_w 114)] (by decide +kernel) rfl ?_
  refine Zn.call (ins := .invokestatic 77) [zj w_, zj 0, zj 2] [] (by decide +kernel) rfl rfl rfl ⟨rfl, rfl⟩ ⟨rfl, rfl, rfl⟩ rfl (zrecvS (by decide)) (sp_X8_in (x := w_) (lo := 0) (hi := 2) (⟨by omega, by omega⟩) (⟨by decide, by decide⟩) (⟨by decide, by decide⟩)) (fun v h2 hp => ?_)
  obtain ⟨rfl, hq_4⟩ := hp
  refine Zn.eq (pc2 := 17) (ls2 := [some (za (A 0)), some (zi x), some (zi w_)]) (st2 := [zi (inB 0 2 w_)]) (h2 := zov (LM A m r) h) rfl rfl rfl hq_4 ?_
  have hD : zND (LM A m r) := hD
  have q_5 := inB_spec 0 2 w_
  refine Zn.ifc (c := .ne) (off := 7) 24 (by decide +kernel) rfl ⟨by omega, by omega⟩ (fun c_6 => ?_) (fun c_6 => absurd (show inB 0 2 w_ ≠ 0 from by omega) c_6)
  have c_6 : inB 0 2 w_ ≠ 0 := c_6
  refine Zn.seg (pc2 := 26) (ls2 := [some (za (A 0)), some (zi x), some (zi w_)]) (st2 := [zi x, za (A 0)]) [(24, .aload_n 0), (25, .iload_n 1)] (by decide +kernel) rfl ?_
  refine Zn.call (ins := .invokevirtual 85) [za (A 0), zi x] [] (by decide +kernel) rfl rfl rfl ⟨rfl, rfl⟩ ⟨rfl, rfl, rfl⟩ rfl (zrecvV hD (p := 0) rfl rfl rfl) (sp_X8_beneath (A := A) (m := m) (r := r) (x := x) (zov_all hD) hD) (fun v h2 hp => ?_)
  obtain ⟨rfl, hq_7⟩ := hp
  refine Zn.eq (pc2 := 29) (ls2 := [some (za (A 0)), some (zi x), some (zi w_)]) (st2 := [zi (qv (fun j => r 1 (j + 1)) x)]) (h2 := zov (LM A m r) h) rfl rfl rfl hq_7 ?_
  have hD : zND (LM A m r) := hD
  refine Zn.ifc (c := .eq) (off := 10) 39 (by decide +kernel) rfl ⟨by omega, by omega⟩ (fun c_8 => absurd (show qv (fun j => r 1 (j + 1)) x = 0 from c_8) (by omega)) (fun c_8 => ?_)
  have c_8 : ¬ (qv (fun j => r 1 (j + 1)) x = 0) := c_8
  refine Zn.seg (pc2 := 33) (ls2 := [some (za (A 0)), some (zi x), some (zi w_)]) (st2 := [za (A 0)]) [(32, .aload_n 0)] (by decide +kernel) rfl ?_
  refine Zn.call (ins := .invokevirtual 318) [za (A 0)] [] (by decide +kernel) rfl rfl rfl ⟨rfl, rfl⟩ ⟨rfl, rfl, rfl⟩ rfl (zrecvV hD (p := 0) rfl rfl rfl) (sp_X8_isReady_no (A := A) (m := m) (r := r) (d := d) (zov_all hD) hD (by first | assumption | omega) (by first | assumption | omega) (by first | assumption | omega) (by first | assumption | omega)) (fun v h2 hp => ?_)
  obtain ⟨rfl, hq_9⟩ := hp
  refine Zn.eq (pc2 := 36) (ls2 := [some (za (A 0)), some (zi x), some (zi w_)]) (st2 := [zi 0]) (h2 := zov (LM A m r) h) rfl rfl rfl hq_9 ?_
  have hD : zND (LM A m r) := hD
  refine Zn.ifc (c := .ne) (off := 7) 43 (by decide +kernel) rfl ⟨by decide, by decide⟩ (fun c_10 => absurd (show (0 : Int) ≠ 0 from c_10) (by decide)) (fun c_10 => ?_)
  have c_10 : ¬ ((0 : Int) ≠ 0) := c_10
  refine Zn.seg (pc2 := 42) (ls2 := [some (za (A 0)), some (zi x), some (zi w_)]) (st2 := [zj (-4)]) [(39, .ldc2_w 311)] (by decide +kernel) rfl ?_
  exact Zn.lret (by decide +kernel) rfl (⟨by first | rfl | (refine congrArg some (congrArg zj ?_); first | omega | (simp_all; done) | (simp_all; omega)), hh.symm⟩)
set_option maxHeartbeats 1000000 in
theorem sp_X8_value_ok {h : xH} {A : Nat → Nat} {m : Nat → Int} {r : Nat → Nat → Int} {x w_ : Int} {p d : Nat} (hL : ∀ q ∈ LM A m r, h q.1 = zcE q.2) (hD : zND (LM A m r)) (hx : x = (p : Int) - 6) (hp : p < 13) (hw : 0 ≤ w_ ∧ w_ ≤ 2) (hq0 : qv (fun j => r 1 (j + 1)) x ≠ 0) (hR : ROK (r 1)) (hd : r 1 0 = (d : Int)) (hd3 : d ≤ 3) (hpo : mk (mpoleB (r 1)) = 0) (hS : ∀ t, t < 8192 → refP (r 1) t → SOK (r 1) d t) (hrd : RDH (r 1) d) : zEv k_X8_value [za (A 0), zi x, zi w_] h (fun v h2 => ∃ c1 : Int, ∃ c2 : Int, ∃ c3 : Int, ∃ c : Int, ∃ q1 : Int, ∃ q2 : Int, ∃ q3 : Int, ∃ x1 : Nat → Int, ∃ x2 : Nat → Int, ∃ x3 : Nat → Int, ∃ X : Nat → Int, ∃ P : Nat → Int, ∃ e1 : Int, ∃ e2 : Int, v = some (zj (tlV w_ (fdU (upN X P x (d + 1) (d + 1)) (qv (fun j => r 1 (j + 1)) x * (c * vdA X (d + 1) (d + 1)))) (((qv (fun j => r 1 (j + 1)) x * (c * vdA X (d + 1) (d + 1))).natAbs : Int).tdiv (Int.gcd (upN X P x (d + 1) (d + 1)) (qv (fun j => r 1 (j + 1)) x * (c * vdA X (d + 1) (d + 1))) : Int)))) ∧ h2 = zov (LM A (va_up (va_up (va_up (va_up (va_up (va_up (va_up (va_up (va_up (va_up m 19 c1) 20 c2) 21 c3) 24 c) 25 ((d : Int) + 1)) 26 e1) 27 e2) 28 q1) 29 q2) 30 q3) (va_up (va_up (va_up (va_up (va_up r 11 x1) 12 x2) 13 x3) 14 X) 15 P)) h ∧ RDY (r 1) d X P c) := by
  have hh : h = zov (LM A m r) h := zov_self hL
  have hqr := ROK_q hR hp
  rw [← hx] at hqr
  refine zEv.body (I := (8, xI_X8_value, 3, 6, 145, 0, 0, false)) (rt := (some .long)) [some (za (A 0)), some (zi x), some (zi w_)] rfl rfl rfl rfl ?_
  refine Zn.eq rfl rfl rfl hh ?_
  have hD : zND (LM A m r) := hD
  refine Zn.seg (pc2 := 1) (ls2 := [some (za (A 0)), some (zi x), some (zi w_)]) (st2 := [zi x]) [(0, .iload_n 1)] (by decide +kernel) rfl ?_
  refine Zn.i2l (by decide +kernel) ⟨by omega, by omega⟩ ?_
  refine Zn.call (ins := .invokestatic 94) [zj x] [] (by decide +kernel) rfl rfl rfl ⟨rfl, rfl⟩ ⟨rfl, rfl, rfl⟩ rfl (zrecvS (by decide)) (sp_X8_isX (x := x) (⟨by omega, by omega⟩)) (fun v h2 hp => ?_)
  obtain ⟨rfl, hq_1⟩ := hp
  refine Zn.eq (pc2 := 5) (ls2 := [some (za (A 0)), some (zi x), some (zi w_)]) (st2 := [zi (inB (-6) 6 x)]) (h2 := zov (LM A m r) h) rfl rfl rfl hq_1 ?_
  have hD : zND (LM A m r) := hD
  have q_2 := inB_spec (-6) 6 x
  refine Zn.ifc (c := .eq) (off := 15) 20 (by decide +kernel) rfl ⟨by omega, by omega⟩ (fun c_3 => absurd (show inB (-6) 6 x = 0 from c_3) (by omega)) (fun c_3 => ?_)
  have c_3 : ¬ (inB (-6) 6 x = 0) := c_3
  refine Zn.seg (pc2 := 9) (ls2 := [some (za (A 0)), some (zi x), some (zi w_)]) (st2 := [zi w_]) [(8, .iload_n 2)] (by decide +kernel) rfl ?_
  refine Zn.i2l (by decide +kernel) ⟨by omega, by omega⟩ ?_
  refine Zn.seg (pc2 := 14) (ls2 := [some (za (A 0)), some (zi x), some (zi w_)]) (st2 := [zj 2, zj 0, zj w_]) [(10, .lconst 0), (11, .ldc2_w 114)] (by decide +kernel) rfl ?_
  refine Zn.call (ins := .invokestatic 77) [zj w_, zj 0, zj 2] [] (by decide +kernel) rfl rfl rfl ⟨rfl, rfl⟩ ⟨rfl, rfl, rfl⟩ rfl (zrecvS (by decide)) (sp_X8_in (x := w_) (lo := 0) (hi := 2) (⟨by omega, by omega⟩) (⟨by decide, by decide⟩) (⟨by decide, by decide⟩)) (fun v h2 hp => ?_)
  obtain ⟨rfl, hq_4⟩ := hp
  refine Zn.eq (pc2 := 17) (ls2 := [some (za (A 0)), some (zi x), some (zi w_)]) (st2 := [zi (inB 0 2 w_)]) (h2 := zov (LM A m r) h) rfl rfl rfl hq_4 ?_
  have hD : zND (LM A m r) := hD
  have q_5 := inB_spec 0 2 w_
  refine Zn.ifc (c := .ne) (off := 7) 24 (by decide +kernel) rfl ⟨by omega, by omega⟩ (fun c_6 => ?_) (fun c_6 => absurd (show inB 0 2 w_ ≠ 0 from by omega) c_6)
  have c_6 : inB 0 2 w_ ≠ 0 := c_6
  refine Zn.seg (pc2 := 26) (ls2 := [some (za (A 0)), some (zi x), some (zi w_)]) (st2 := [zi x, za (A 0)]) [(24, .aload_n 0), (25, .iload_n 1)] (by decide +kernel) rfl ?_
  refine Zn.call (ins := .invokevirtual 85) [za (A 0), zi x] [] (by decide +kernel) rfl rfl rfl ⟨rfl, rfl⟩ ⟨rfl, rfl, rfl⟩ rfl (zrecvV hD (p := 0) rfl rfl rfl) (sp_X8_beneath (A := A) (m := m) (r := r) (x := x) (zov_all hD) hD) (fun v h2 hp => ?_)
  obtain ⟨rfl, hq_7⟩ := hp
  refine Zn.eq (pc2 := 29) (ls2 := [some (za (A 0)), some (zi x), some (zi w_)]) (st2 := [zi (qv (fun j => r 1 (j + 1)) x)]) (h2 := zov (LM A m r) h) rfl rfl rfl hq_7 ?_
  have hD : zND (LM A m r) := hD
  refine Zn.ifc (c := .eq) (off := 10) 39 (by decide +kernel) rfl ⟨by omega, by omega⟩ (fun c_8 => absurd (show qv (fun j => r 1 (j + 1)) x = 0 from c_8) (by omega)) (fun c_8 => ?_)
  have c_8 : ¬ (qv (fun j => r 1 (j + 1)) x = 0) := c_8
  refine Zn.seg (pc2 := 33) (ls2 := [some (za (A 0)), some (zi x), some (zi w_)]) (st2 := [za (A 0)]) [(32, .aload_n 0)] (by decide +kernel) rfl ?_
  refine Zn.call (ins := .invokevirtual 318) [za (A 0)] [] (by decide +kernel) rfl rfl rfl ⟨rfl, rfl⟩ ⟨rfl, rfl, rfl⟩ rfl (zrecvV hD (p := 0) rfl rfl rfl) (sp_X8_isReady_yes (A := A) (m := m) (r := r) (d := d) (zov_all hD) hD (by first | assumption | omega) (by first | assumption | omega) (by first | assumption | omega) (by first | assumption | omega) (by first | assumption | omega) (by first | assumption | omega)) (fun v h2 hp => ?_)
  obtain ⟨c1, c2, c3, c, q1, q2, q3, x1, x2, x3, X, P, rfl, hq_9, hry⟩ := hp
  refine Zn.eq (pc2 := 36) (ls2 := [some (za (A 0)), some (zi x), some (zi w_)]) (st2 := [zi 1]) (h2 := zov (LM A (va_up (va_up (va_up (va_up (va_up (va_up (va_up (va_up m 19 c1) 20 c2) 21 c3) 24 c) 25 ((d : Int) + 1)) 28 q1) 29 q2) 30 q3) (va_up (va_up (va_up (va_up (va_up r 11 x1) 12 x2) 13 x3) 14 X) 15 P)) h) rfl rfl rfl (hq_9.trans (LM_over _ _ _ _ _ _)) ?_
  have hD : zND (LM A (va_up (va_up (va_up (va_up (va_up (va_up (va_up (va_up m 19 c1) 20 c2) 21 c3) 24 c) 25 ((d : Int) + 1)) 28 q1) 29 q2) 30 q3) (va_up (va_up (va_up (va_up (va_up r 11 x1) 12 x2) 13 x3) 14 X) 15 P)) := hD
  have hgk := hry.1
  refine Zn.ifc (c := .ne) (off := 7) 43 (by decide +kernel) rfl ⟨by decide, by decide⟩ (fun c_10 => ?_) (fun c_10 => absurd (show (1 : Int) ≠ 0 from by decide) c_10)
  have c_10 : (1 : Int) ≠ 0 := c_10
  refine Zn.seg (pc2 := 46) (ls2 := [some (za (A 0)), some (zi x), some (zi w_)]) (st2 := [zi x, za (A 0), za (A 0)]) [(43, .aload_n 0), (44, .aload_n 0), (45, .iload_n 1)] (by decide +kernel) rfl ?_
  refine Zn.call (ins := .invokevirtual 238) [za (A 0), zi x] [za (A 0)] (by decide +kernel) rfl rfl rfl ⟨rfl, rfl⟩ ⟨rfl, rfl, rfl⟩ rfl (zrecvV hD (p := 0) rfl rfl rfl) (sp_X8_upper (A := A) (m := va_up (va_up (va_up (va_up (va_up (va_up (va_up (va_up m 19 c1) 20 c2) 21 c3) 24 c) 25 ((d : Int) + 1)) 28 q1) 29 q2) 30 q3) (r := va_up (va_up (va_up (va_up (va_up r 11 x1) 12 x2) 13 x3) 14 X) 15 P) (x := x) (k := (d + 1)) (zov_all hD) hD (by rfl) (hgk.1) (hgk.2.1) (by omega)) (fun v h2 hp => ?_)
  obtain ⟨rfl, hq_11⟩ := hp
  refine Zn.eq (pc2 := 49) (ls2 := [some (za (A 0)), some (zi x), some (zi w_)]) (st2 := [zj (upN (X) (P) x (d + 1) (d + 1)), za (A 0)]) (h2 := zov (LM A (va_up (va_up (va_up (va_up (va_up (va_up (va_up (va_up m 19 c1) 20 c2) 21 c3) 24 c) 25 ((d : Int) + 1)) 28 q1) 29 q2) 30 q3) (va_up (va_up (va_up (va_up (va_up r 11 x1) 12 x2) 13 x3) 14 X) 15 P)) h) rfl rfl rfl hq_11 ?_
  have hD : zND (LM A (va_up (va_up (va_up (va_up (va_up (va_up (va_up (va_up m 19 c1) 20 c2) 21 c3) 24 c) 25 ((d : Int) + 1)) 28 q1) 29 q2) 30 q3) (va_up (va_up (va_up (va_up (va_up r 11 x1) 12 x2) 13 x3) 14 X) 15 P)) := hD
  refine Zn.seg (pc2 := 51) (ls2 := [some (za (A 0)), some (zi x), some (zi w_)]) (st2 := [zi x, za (A 0), zj (upN (X) (P) x (d + 1) (d + 1)), za (A 0)]) [(49, .aload_n 0), (50, .iload_n 1)] (by decide +kernel) rfl ?_
  refine Zn.call (ins := .invokevirtual 85) [za (A 0), zi x] [zj (upN (X) (P) x (d + 1) (d + 1)), za (A 0)] (by decide +kernel) rfl rfl rfl ⟨rfl, rfl⟩ ⟨rfl, rfl, rfl⟩ rfl (zrecvV hD (p := 0) rfl rfl rfl) (sp_X8_beneath (A := A) (m := va_up (va_up (va_up (va_up (va_up (va_up (va_up (va_up m 19 c1) 20 c2) 21 c3) 24 c) 25 ((d : Int) + 1)) 28 q1) 29 q2) 30 q3) (r := va_up (va_up (va_up (va_up (va_up r 11 x1) 12 x2) 13 x3) 14 X) 15 P) (x := x) (zov_all hD) hD) (fun v h2 hp => ?_)
  obtain ⟨rfl, hq_12⟩ := hp
  refine Zn.eq (pc2 := 54) (ls2 := [some (za (A 0)), some (zi x), some (zi w_)]) (st2 := [zi (qv (fun j => (r 1) (j + 1)) x), zj (upN (X) (P) x (d + 1) (d + 1)), za (A 0)]) (h2 := zov (LM A (va_up (va_up (va_up (va_up (va_up (va_up (va_up (va_up m 19 c1) 20 c2) 21 c3) 24 c) 25 ((d : Int) + 1)) 28 q1) 29 q2) 30 q3) (va_up (va_up (va_up (va_up (va_up r 11 x1) 12 x2) 13 x3) 14 X) 15 P)) h) rfl rfl rfl hq_12 ?_
  have hD : zND (LM A (va_up (va_up (va_up (va_up (va_up (va_up (va_up (va_up m 19 c1) 20 c2) 21 c3) 24 c) 25 ((d : Int) + 1)) 28 q1) 29 q2) 30 q3) (va_up (va_up (va_up (va_up (va_up r 11 x1) 12 x2) 13 x3) 14 X) 15 P)) := hD
  refine Zn.i2l (by decide +kernel) ⟨by omega, by omega⟩ ?_
  refine Zn.seg (pc2 := 56) (ls2 := [some (za (A 0)), some (zi x), some (zi w_)]) (st2 := [za (A 0), zj (qv (fun j => (r 1) (j + 1)) x), zj (upN (X) (P) x (d + 1) (d + 1)), za (A 0)]) [(55, .aload_n 0)] (by decide +kernel) rfl ?_
  refine Zn.call (ins := .invokevirtual 235) [za (A 0)] [zj (qv (fun j => (r 1) (j + 1)) x), zj (upN (X) (P) x (d + 1) (d + 1)), za (A 0)] (by decide +kernel) rfl rfl rfl ⟨rfl, rfl⟩ ⟨rfl, rfl, rfl⟩ rfl (zrecvV hD (p := 0) rfl rfl rfl) (sp_X8_lower (A := A) (m := va_up (va_up (va_up (va_up (va_up (va_up (va_up (va_up m 19 c1) 20 c2) 21 c3) 24 c) 25 ((d : Int) + 1)) 28 q1) 29 q2) 30 q3) (r := va_up (va_up (va_up (va_up (va_up r 11 x1) 12 x2) 13 x3) 14 X) 15 P) (k := (d + 1)) (zov_all hD) hD (by rfl) (hgk.1) (hgk.2.1)) (fun v h2 hp => ?_)
  obtain ⟨rfl, hq_13⟩ := hp
  refine Zn.eq (pc2 := 59) (ls2 := [some (za (A 0)), some (zi x), some (zi w_)]) (st2 := [zj (c * vdA (X) (d + 1) (d + 1)), zj (qv (fun j => (r 1) (j + 1)) x), zj (upN (X) (P) x (d + 1) (d + 1)), za (A 0)]) (h2 := zov (LM A (va_up (va_up (va_up (va_up (va_up (va_up (va_up (va_up m 19 c1) 20 c2) 21 c3) 24 c) 25 ((d : Int) + 1)) 28 q1) 29 q2) 30 q3) (va_up (va_up (va_up (va_up (va_up r 11 x1) 12 x2) 13 x3) 14 X) 15 P)) h) rfl rfl rfl hq_13 ?_
  have hD : zND (LM A (va_up (va_up (va_up (va_up (va_up (va_up (va_up (va_up m 19 c1) 20 c2) 21 c3) 24 c) 25 ((d : Int) + 1)) 28 q1) 29 q2) 30 q3) (va_up (va_up (va_up (va_up (va_up r 11 x1) 12 x2) 13 x3) 14 X) 15 P)) := hD
  have hub := (show -4611686018427387904 ≤ upN X P x (d + 1) (d + 1) ∧ upN X P x (d + 1) (d + 1) ≤ 4611686018427387904 from by rw [hx]; exact hgk.2.2.2 p hp)
  have hwb := mul_bd (A := 129) (B := 281474976710656) hqr.1 hqr.2 (show -281474976710656 ≤ c * vdA X (d + 1) (d + 1) by have := hgk.2.2.1; omega) hgk.2.2.1.2
  have hwn := Int.mul_ne_zero hq0 (show c * vdA X (d + 1) (d + 1) ≠ 0 by have := hgk.2.2.1; omega)
  have hub2 := fdU_b hub hwn
  refine Zn.seg (pc2 := 60) (ls2 := [some (za (A 0)), some (zi x), some (zi w_)]) (st2 := [zj ((qv (fun j => (r 1) (j + 1)) x) * (c * vdA (X) (d + 1) (d + 1))), zj (upN (X) (P) x (d + 1) (d + 1)), za (A 0)]) [(59, .lmul)] (by decide +kernel) rfl ?_
  refine Zn.call (ins := .invokevirtual 241) [za (A 0), zj (upN (X) (P) x (d + 1) (d + 1)), zj ((qv (fun j => (r 1) (j + 1)) x) * (c * vdA (X) (d + 1) (d + 1)))] [] (by decide +kernel) rfl rfl rfl ⟨rfl, rfl⟩ ⟨rfl, rfl, rfl⟩ rfl (zrecvV hD (p := 0) rfl rfl rfl) (sp_X8_finds (A := A) (m := va_up (va_up (va_up (va_up (va_up (va_up (va_up (va_up m 19 c1) 20 c2) 21 c3) 24 c) 25 ((d : Int) + 1)) 28 q1) 29 q2) 30 q3) (r := va_up (va_up (va_up (va_up (va_up r 11 x1) 12 x2) 13 x3) 14 X) 15 P) (u := upN (X) (P) x (d + 1) (d + 1)) (w := (qv (fun j => (r 1) (j + 1)) x) * (c * vdA (X) (d + 1) (d + 1))) (zov_all hD) hD (by omega) (by omega) (hwn)) (fun v h2 hp => ?_)
  obtain ⟨rfl, hq_14⟩ := hp
  refine Zn.eq (pc2 := 63) (ls2 := [some (za (A 0)), some (zi x), some (zi w_)]) (st2 := []) (h2 := zov (LM A (va_up (va_up (va_up (va_up (va_up (va_up (va_up (va_up (va_up (va_up m 19 c1) 20 c2) 21 c3) 24 c) 25 ((d : Int) + 1)) 26 (fdU (upN (X) (P) x (d + 1) (d + 1)) ((qv (fun j => (r 1) (j + 1)) x) * (c * vdA (X) (d + 1) (d + 1))))) 27 ((((qv (fun j => (r 1) (j + 1)) x) * (c * vdA (X) (d + 1) (d + 1))).natAbs : Int).tdiv (Int.gcd (upN (X) (P) x (d + 1) (d + 1)) ((qv (fun j => (r 1) (j + 1)) x) * (c * vdA (X) (d + 1) (d + 1))) : Int))) 28 q1) 29 q2) 30 q3) (va_up (va_up (va_up (va_up (va_up r 11 x1) 12 x2) 13 x3) 14 X) 15 P)) h) rfl rfl rfl (hq_14.trans ((LM_over _ _ _ _ _ _).trans rfl)) ?_
  have hD : zND (LM A (va_up (va_up (va_up (va_up (va_up (va_up (va_up (va_up (va_up (va_up m 19 c1) 20 c2) 21 c3) 24 c) 25 ((d : Int) + 1)) 26 (fdU (upN (X) (P) x (d + 1) (d + 1)) ((qv (fun j => (r 1) (j + 1)) x) * (c * vdA (X) (d + 1) (d + 1))))) 27 ((((qv (fun j => (r 1) (j + 1)) x) * (c * vdA (X) (d + 1) (d + 1))).natAbs : Int).tdiv (Int.gcd (upN (X) (P) x (d + 1) (d + 1)) ((qv (fun j => (r 1) (j + 1)) x) * (c * vdA (X) (d + 1) (d + 1))) : Int))) 28 q1) 29 q2) 30 q3) (va_up (va_up (va_up (va_up (va_up r 11 x1) 12 x2) 13 x3) 14 X) 15 P)) := hD
  refine Zn.seg (pc2 := 65) (ls2 := [some (za (A 0)), some (zi x), some (zi w_)]) (st2 := [zi w_, za (A 0)]) [(63, .aload_n 0), (64, .iload_n 2)] (by decide +kernel) rfl ?_
  refine Zn.call (ins := .invokevirtual 321) [za (A 0), zi w_] [] (by decide +kernel) rfl rfl rfl ⟨rfl, rfl⟩ ⟨rfl, rfl, rfl⟩ rfl (zrecvV hD (p := 0) rfl rfl rfl) (sp_X8_tells (A := A) (m := va_up (va_up (va_up (va_up (va_up (va_up (va_up (va_up (va_up (va_up m 19 c1) 20 c2) 21 c3) 24 c) 25 ((d : Int) + 1)) 26 (fdU (upN (X) (P) x (d + 1) (d + 1)) ((qv (fun j => (r 1) (j + 1)) x) * (c * vdA (X) (d + 1) (d + 1))))) 27 ((((qv (fun j => (r 1) (j + 1)) x) * (c * vdA (X) (d + 1) (d + 1))).natAbs : Int).tdiv (Int.gcd (upN (X) (P) x (d + 1) (d + 1)) ((qv (fun j => (r 1) (j + 1)) x) * (c * vdA (X) (d + 1) (d + 1))) : Int))) 28 q1) 29 q2) 30 q3) (r := va_up (va_up (va_up (va_up (va_up r 11 x1) 12 x2) 13 x3) 14 X) 15 P) (w_ := w_) (zov_all hD) hD (hw) (hub2)) (fun v h2 hp => ?_)
  obtain ⟨rfl, hq_15⟩ := hp
  refine Zn.eq (pc2 := 68) (ls2 := [some (za (A 0)), some (zi x), some (zi w_)]) (st2 := [zj (tlV w_ ((fdU (upN (X) (P) x (d + 1) (d + 1)) ((qv (fun j => (r 1) (j + 1)) x) * (c * vdA (X) (d + 1) (d + 1))))) (((((qv (fun j => (r 1) (j + 1)) x) * (c * vdA (X) (d + 1) (d + 1))).natAbs : Int).tdiv (Int.gcd (upN (X) (P) x (d + 1) (d + 1)) ((qv (fun j => (r 1) (j + 1)) x) * (c * vdA (X) (d + 1) (d + 1))) : Int))))]) (h2 := zov (LM A (va_up (va_up (va_up (va_up (va_up (va_up (va_up (va_up (va_up (va_up m 19 c1) 20 c2) 21 c3) 24 c) 25 ((d : Int) + 1)) 26 (fdU (upN (X) (P) x (d + 1) (d + 1)) ((qv (fun j => (r 1) (j + 1)) x) * (c * vdA (X) (d + 1) (d + 1))))) 27 ((((qv (fun j => (r 1) (j + 1)) x) * (c * vdA (X) (d + 1) (d + 1))).natAbs : Int).tdiv (Int.gcd (upN (X) (P) x (d + 1) (d + 1)) ((qv (fun j => (r 1) (j + 1)) x) * (c * vdA (X) (d + 1) (d + 1))) : Int))) 28 q1) 29 q2) 30 q3) (va_up (va_up (va_up (va_up (va_up r 11 x1) 12 x2) 13 x3) 14 X) 15 P)) h) rfl rfl rfl hq_15 ?_
  have hD : zND (LM A (va_up (va_up (va_up (va_up (va_up (va_up (va_up (va_up (va_up (va_up m 19 c1) 20 c2) 21 c3) 24 c) 25 ((d : Int) + 1)) 26 (fdU (upN (X) (P) x (d + 1) (d + 1)) ((qv (fun j => (r 1) (j + 1)) x) * (c * vdA (X) (d + 1) (d + 1))))) 27 ((((qv (fun j => (r 1) (j + 1)) x) * (c * vdA (X) (d + 1) (d + 1))).natAbs : Int).tdiv (Int.gcd (upN (X) (P) x (d + 1) (d + 1)) ((qv (fun j => (r 1) (j + 1)) x) * (c * vdA (X) (d + 1) (d + 1))) : Int))) 28 q1) 29 q2) 30 q3) (va_up (va_up (va_up (va_up (va_up r 11 x1) 12 x2) 13 x3) 14 X) 15 P)) := hD
  exact Zn.lret (by decide +kernel) rfl (⟨c1, c2, c3, c, q1, q2, q3, x1, x2, x3, X, P, _, _, rfl, rfl, hry⟩)
theorem sp_X8_error_none1 {h : xH} {A : Nat → Nat} {m : Nat → Int} {r : Nat → Nat → Int} {x w_ : Int} {p d : Nat} (hL : ∀ q ∈ LM A m r, h q.1 = zcE q.2) (hD : zND (LM A m r)) (hx : x = (p : Int) - 6) (hp : p < 13) (hw : 0 ≤ w_ ∧ w_ ≤ 2) (hR : ROK (r 1)) (h1 : r 1 (p + 18) = 0) : zEv k_X8_error [za (A 0), zi x, zi w_] h (fun v h2 => v = some (zj (-4)) ∧ h2 = h) := by
  have hh : h = zov (LM A m r) h := zov_self hL
  have hqr := ROK_q hR hp
  rw [← hx] at hqr
  refine zEv.body (I := (8, xI_X8_error, 3, 6, 145, 0, 0, false)) (rt := (some .long)) [some (za (A 0)), some (zi x), some (zi w_)] rfl rfl rfl rfl ?_
  refine Zn.eq rfl rfl rfl hh ?_
  have hD : zND (LM A m r) := hD
  refine Zn.seg (pc2 := 1) (ls2 := [some (za (A 0)), some (zi x), some (zi w_)]) (st2 := [zi x]) [(0, .iload_n 1)] (by decide +kernel) rfl ?_
  refine Zn.i2l (by decide +kernel) ⟨by omega, by omega⟩ ?_
  refine Zn.call (ins := .invokestatic 94) [zj x] [] (by decide +kernel) rfl rfl rfl ⟨rfl, rfl⟩ ⟨rfl, rfl, rfl⟩ rfl (zrecvS (by decide)) (sp_X8_isX (x := x) (⟨by omega, by omega⟩)) (fun v h2 hp => ?_)
  obtain ⟨rfl, hq_1⟩ := hp
  refine Zn.eq (pc2 := 5) (ls2 := [some (za (A 0)), some (zi x), some (zi w_)]) (st2 := [zi (inB (-6) 6 x)]) (h2 := zov (LM A m r) h) rfl rfl rfl hq_1 ?_
  have hD : zND (LM A m r) := hD
  have q_2 := inB_spec (-6) 6 x
  refine Zn.ifc (c := .eq) (off := 15) 20 (by decide +kernel) rfl ⟨by omega, by omega⟩ (fun c_3 => absurd (show inB (-6) 6 x = 0 from c_3) (by omega)) (fun c_3 => ?_)
  have c_3 : ¬ (inB (-6) 6 x = 0) := c_3
  refine Zn.seg (pc2 := 9) (ls2 := [some (za (A 0)), some (zi x), some (zi w_)]) (st2 := [zi w_]) [(8, .iload_n 2)] (by decide +kernel) rfl ?_
  refine Zn.i2l (by decide +kernel) ⟨by omega, by omega⟩ ?_
  refine Zn.seg (pc2 := 14) (ls2 := [some (za (A 0)), some (zi x), some (zi w_)]) (st2 := [zj 2, zj 0, zj w_]) [(10, .lconst 0), (11, .ldc2_w 114)] (by decide +kernel) rfl ?_
  refine Zn.call (ins := .invokestatic 77) [zj w_, zj 0, zj 2] [] (by decide +kernel) rfl rfl rfl ⟨rfl, rfl⟩ ⟨rfl, rfl, rfl⟩ rfl (zrecvS (by decide)) (sp_X8_in (x := w_) (lo := 0) (hi := 2) (⟨by omega, by omega⟩) (⟨by decide, by decide⟩) (⟨by decide, by decide⟩)) (fun v h2 hp => ?_)
  obtain ⟨rfl, hq_4⟩ := hp
  refine Zn.eq (pc2 := 17) (ls2 := [some (za (A 0)), some (zi x), some (zi w_)]) (st2 := [zi (inB 0 2 w_)]) (h2 := zov (LM A m r) h) rfl rfl rfl hq_4 ?_
  have hD : zND (LM A m r) := hD
  have q_5 := inB_spec 0 2 w_
  refine Zn.ifc (c := .ne) (off := 7) 24 (by decide +kernel) rfl ⟨by omega, by omega⟩ (fun c_6 => ?_) (fun c_6 => absurd (show inB 0 2 w_ ≠ 0 from by omega) c_6)
  have c_6 : inB 0 2 w_ ≠ 0 := c_6
  refine Zn.seg (pc2 := 26) (ls2 := [some (za (A 0)), some (zi x), some (zi w_)]) (st2 := [zi x, za (A 0)]) [(24, .aload_n 0), (25, .iload_n 1)] (by decide +kernel) rfl ?_
  refine Zn.call (ins := .invokevirtual 81) [za (A 0), zi x] [] (by decide +kernel) rfl rfl rfl ⟨rfl, rfl⟩ ⟨rfl, rfl, rfl⟩ rfl (zrecvV hD (p := 0) rfl rfl rfl) (sp_X8_kind (A := A) (m := m) (r := r) (x := x) (p := p) (zov_all hD) hD (by first | assumption | omega) (by first | assumption | omega)) (fun v h2 hp => ?_)
  obtain ⟨rfl, hq_7⟩ := hp
  refine Zn.eq (pc2 := 29) (ls2 := [some (za (A 0)), some (zi x), some (zi w_)]) (st2 := [zi (r 1 (p + 18))]) (h2 := zov (LM A m r) h) rfl rfl rfl hq_7 ?_
  have hD : zND (LM A m r) := hD
  refine Zn.ifc (c := .eq) (off := 10) 39 (by decide +kernel) rfl ⟨by omega, by omega⟩ (fun c_8 => ?_) (fun c_8 => absurd (show r 1 (p + 18) = 0 from by omega) c_8)
  have c_8 : r 1 (p + 18) = 0 := c_8
  refine Zn.seg (pc2 := 42) (ls2 := [some (za (A 0)), some (zi x), some (zi w_)]) (st2 := [zj (-4)]) [(39, .ldc2_w 311)] (by decide +kernel) rfl ?_
  exact Zn.lret (by decide +kernel) rfl (⟨by first | rfl | (refine congrArg some (congrArg zj ?_); first | omega | (simp_all; done) | (simp_all; omega)), hh.symm⟩)
theorem sp_X8_error_none2 {h : xH} {A : Nat → Nat} {m : Nat → Int} {r : Nat → Nat → Int} {x w_ : Int} {p d : Nat} (hL : ∀ q ∈ LM A m r, h q.1 = zcE q.2) (hD : zND (LM A m r)) (hx : x = (p : Int) - 6) (hp : p < 13) (hw : 0 ≤ w_ ∧ w_ ≤ 2) (hR : ROK (r 1)) (hd : r 1 0 = (d : Int)) (hd3 : d ≤ 3) (h1 : r 1 (p + 18) ≠ 0) (hno : mk (mpoleB (r 1)) ≠ 0 ∨ manyN (r 1) 0 13 ≤ d) : zEv k_X8_error [za (A 0), zi x, zi w_] h (fun v h2 => v = some (zj (-4)) ∧ h2 = h) := by
  have hh : h = zov (LM A m r) h := zov_self hL
  have hqr := ROK_q hR hp
  rw [← hx] at hqr
  have hki := hR.1 p hp
  refine zEv.body (I := (8, xI_X8_error, 3, 6, 145, 0, 0, false)) (rt := (some .long)) [some (za (A 0)), some (zi x), some (zi w_)] rfl rfl rfl rfl ?_
  refine Zn.eq rfl rfl rfl hh ?_
  have hD : zND (LM A m r) := hD
  refine Zn.seg (pc2 := 1) (ls2 := [some (za (A 0)), some (zi x), some (zi w_)]) (st2 := [zi x]) [(0, .iload_n 1)] (by decide +kernel) rfl ?_
  refine Zn.i2l (by decide +kernel) ⟨by omega, by omega⟩ ?_
  refine Zn.call (ins := .invokestatic 94) [zj x] [] (by decide +kernel) rfl rfl rfl ⟨rfl, rfl⟩ ⟨rfl, rfl, rfl⟩ rfl (zrecvS (by decide)) (sp_X8_isX (x := x) (⟨by omega, by omega⟩)) (fun v h2 hp => ?_)
  obtain ⟨rfl, hq_1⟩ := hp
  refine Zn.eq (pc2 := 5) (ls2 := [some (za (A 0)), some (zi x), some (zi w_)]) (st2 := [zi (inB (-6) 6 x)]) (h2 := zov (LM A m r) h) rfl rfl rfl hq_1 ?_
  have hD : zND (LM A m r) := hD
  have q_2 := inB_spec (-6) 6 x
  refine Zn.ifc (c := .eq) (off := 15) 20 (by decide +kernel) rfl ⟨by omega, by omega⟩ (fun c_3 => absurd (show inB (-6) 6 x = 0 from c_3) (by omega)) (fun c_3 => ?_)
  have c_3 : ¬ (inB (-6) 6 x = 0) := c_3
  refine Zn.seg (pc2 := 9) (ls2 := [some (za (A 0)), some (zi x), some (zi w_)]) (st2 := [zi w_]) [(8, .iload_n 2)] (by decide +kernel) rfl ?_
  refine Zn.i2l (by decide +kernel) ⟨by omega, by omega⟩ ?_
  refine Zn.seg (pc2 := 14) (ls2 := [some (za (A 0)), some (zi x), some (zi w_)]) (st2 := [zj 2, zj 0, zj w_]) [(10, .lconst 0), (11, .ldc2_w 114)] (by decide +kernel) rfl ?_
  refine Zn.call (ins := .invokestatic 77) [zj w_, zj 0, zj 2] [] (by decide +kernel) rfl rfl rfl ⟨rfl, rfl⟩ ⟨rfl, rfl, rfl⟩ rfl (zrecvS (by decide)) (sp_X8_in (x := w_) (lo := 0) (hi := 2) (⟨by omega, by omega⟩) (⟨by decide, by decide⟩) (⟨by decide, by decide⟩)) (fun v h2 hp => ?_)
  obtain ⟨rfl, hq_4⟩ := hp
  refine Zn.eq (pc2 := 17) (ls2 := [some (za (A 0)), some (zi x), some (zi w_)]) (st2 := [zi (inB 0 2 w_)]) (h2 := zov (LM A m r) h) rfl rfl rfl hq_4 ?_
  have hD : zND (LM A m r) := hD
  have q_5 := inB_spec 0 2 w_
  refine Zn.ifc (c := .ne) (off := 7) 24 (by decide +kernel) rfl ⟨by omega, by omega⟩ (fun c_6 => ?_) (fun c_6 => absurd (show inB 0 2 w_ ≠ 0 from by omega) c_6)
  have c_6 : inB 0 2 w_ ≠ 0 := c_6
  refine Zn.seg (pc2 := 26) (ls2 := [some (za (A 0)), some (zi x), some (zi w_)]) (st2 := [zi x, za (A 0)]) [(24, .aload_n 0), (25, .iload_n 1)] (by decide +kernel) rfl ?_
  refine Zn.call (ins := .invokevirtual 81) [za (A 0), zi x] [] (by decide +kernel) rfl rfl rfl ⟨rfl, rfl⟩ ⟨rfl, rfl, rfl⟩ rfl (zrecvV hD (p := 0) rfl rfl rfl) (sp_X8_kind (A := A) (m := m) (r := r) (x := x) (p := p) (zov_all hD) hD (by first | assumption | omega) (by first | assumption | omega)) (fun v h2 hp => ?_)
  obtain ⟨rfl, hq_7⟩ := hp
  refine Zn.eq (pc2 := 29) (ls2 := [some (za (A 0)), some (zi x), some (zi w_)]) (st2 := [zi (r 1 (p + 18))]) (h2 := zov (LM A m r) h) rfl rfl rfl hq_7 ?_
  have hD : zND (LM A m r) := hD
  refine Zn.ifc (c := .eq) (off := 10) 39 (by decide +kernel) rfl ⟨by omega, by omega⟩ (fun c_8 => absurd (show r 1 (p + 18) = 0 from c_8) (by omega)) (fun c_8 => ?_)
  have c_8 : ¬ (r 1 (p + 18) = 0) := c_8
  refine Zn.seg (pc2 := 33) (ls2 := [some (za (A 0)), some (zi x), some (zi w_)]) (st2 := [za (A 0)]) [(32, .aload_n 0)] (by decide +kernel) rfl ?_
  refine Zn.call (ins := .invokevirtual 318) [za (A 0)] [] (by decide +kernel) rfl rfl rfl ⟨rfl, rfl⟩ ⟨rfl, rfl, rfl⟩ rfl (zrecvV hD (p := 0) rfl rfl rfl) (sp_X8_isReady_no (A := A) (m := m) (r := r) (d := d) (zov_all hD) hD (by first | assumption | omega) (by first | assumption | omega) (by first | assumption | omega) (by first | assumption | omega)) (fun v h2 hp => ?_)
  obtain ⟨rfl, hq_9⟩ := hp
  refine Zn.eq (pc2 := 36) (ls2 := [some (za (A 0)), some (zi x), some (zi w_)]) (st2 := [zi 0]) (h2 := zov (LM A m r) h) rfl rfl rfl hq_9 ?_
  have hD : zND (LM A m r) := hD
  refine Zn.ifc (c := .ne) (off := 7) 43 (by decide +kernel) rfl ⟨by decide, by decide⟩ (fun c_10 => absurd (show (0 : Int) ≠ 0 from c_10) (by decide)) (fun c_10 => ?_)
  have c_10 : ¬ ((0 : Int) ≠ 0) := c_10
  refine Zn.seg (pc2 := 42) (ls2 := [some (za (A 0)), some (zi x), some (zi w_)]) (st2 := [zj (-4)]) [(39, .ldc2_w 311)] (by decide +kernel) rfl ?_
  exact Zn.lret (by decide +kernel) rfl (⟨by first | rfl | (refine congrArg some (congrArg zj ?_); first | omega | (simp_all; done) | (simp_all; omega)), hh.symm⟩)
set_option maxHeartbeats 1000000 in
theorem sp_X8_error_ok {h : xH} {A : Nat → Nat} {m : Nat → Int} {r : Nat → Nat → Int} {x w_ : Int} {p d : Nat} (hL : ∀ q ∈ LM A m r, h q.1 = zcE q.2) (hD : zND (LM A m r)) (hx : x = (p : Int) - 6) (hp : p < 13) (hw : 0 ≤ w_ ∧ w_ ≤ 2) (h1 : r 1 (p + 18) ≠ 0) (hnp : ∀ p : Nat, p < 13 → 0 < r 1 (p + 18) → qv (fun j => r 1 (j + 1)) ((p : Int) - 6) ≠ 0) (hR : ROK (r 1)) (hd : r 1 0 = (d : Int)) (hd3 : d ≤ 3) (hpo : mk (mpoleB (r 1)) = 0) (hS : ∀ t, t < 8192 → refP (r 1) t → SOK (r 1) d t) (hrd : RDH (r 1) d) : zEv k_X8_error [za (A 0), zi x, zi w_] h (fun v h2 => ∃ c1 : Int, ∃ c2 : Int, ∃ c3 : Int, ∃ c : Int, ∃ q1 : Int, ∃ q2 : Int, ∃ q3 : Int, ∃ x1 : Nat → Int, ∃ x2 : Nat → Int, ∃ x3 : Nat → Int, ∃ X : Nat → Int, ∃ P : Nat → Int, ∃ e1 : Int, ∃ e2 : Int, v = some (zj (tlV w_ (eUG (r 1) X P (d + 1) c p) (eDG (r 1) X P (d + 1) c p))) ∧ h2 = zov (LM A (va_up (va_up (va_up (va_up (va_up (va_up (va_up (va_up (va_up (va_up m 19 c1) 20 c2) 21 c3) 24 c) 25 ((d : Int) + 1)) 26 e1) 27 e2) 28 q1) 29 q2) 30 q3) (va_up (va_up (va_up (va_up (va_up r 11 x1) 12 x2) 13 x3) 14 X) 15 P)) h ∧ RDY (r 1) d X P c) := by
  have hh : h = zov (LM A m r) h := zov_self hL
  have hqr := ROK_q hR hp
  rw [← hx] at hqr
  have hki := hR.1 p hp
  refine zEv.body (I := (8, xI_X8_error, 3, 6, 145, 0, 0, false)) (rt := (some .long)) [some (za (A 0)), some (zi x), some (zi w_)] rfl rfl rfl rfl ?_
  refine Zn.eq rfl rfl rfl hh ?_
  have hD : zND (LM A m r) := hD
  refine Zn.seg (pc2 := 1) (ls2 := [some (za (A 0)), some (zi x), some (zi w_)]) (st2 := [zi x]) [(0, .iload_n 1)] (by decide +kernel) rfl ?_
  refine Zn.i2l (by decide +kernel) ⟨by omega, by omega⟩ ?_
  refine Zn.call (ins := .invokestatic 94) [zj x] [] (by decide +kernel) rfl rfl rfl ⟨rfl, rfl⟩ ⟨rfl, rfl, rfl⟩ rfl (zrecvS (by decide)) (sp_X8_isX (x := x) (⟨by omega, by omega⟩)) (fun v h2 hp => ?_)
  obtain ⟨rfl, hq_1⟩ := hp
  refine Zn.eq (pc2 := 5) (ls2 := [some (za (A 0)), some (zi x), some (zi w_)]) (st2 := [zi (inB (-6) 6 x)]) (h2 := zov (LM A m r) h) rfl rfl rfl hq_1 ?_
  have hD : zND (LM A m r) := hD
  have q_2 := inB_spec (-6) 6 x
  refine Zn.ifc (c := .eq) (off := 15) 20 (by decide +kernel) rfl ⟨by omega, by omega⟩ (fun c_3 => absurd (show inB (-6) 6 x = 0 from c_3) (by omega)) (fun c_3 => ?_)
  have c_3 : ¬ (inB (-6) 6 x = 0) := c_3
  refine Zn.seg (pc2 := 9) (ls2 := [some (za (A 0)), some (zi x), some (zi w_)]) (st2 := [zi w_]) [(8, .iload_n 2)] (by decide +kernel) rfl ?_
  refine Zn.i2l (by decide +kernel) ⟨by omega, by omega⟩ ?_
  refine Zn.seg (pc2 := 14) (ls2 := [some (za (A 0)), some (zi x), some (zi w_)]) (st2 := [zj 2, zj 0, zj w_]) [(10, .lconst 0), (11, .ldc2_w 114)] (by decide +kernel) rfl ?_
  refine Zn.call (ins := .invokestatic 77) [zj w_, zj 0, zj 2] [] (by decide +kernel) rfl rfl rfl ⟨rfl, rfl⟩ ⟨rfl, rfl, rfl⟩ rfl (zrecvS (by decide)) (sp_X8_in (x := w_) (lo := 0) (hi := 2) (⟨by omega, by omega⟩) (⟨by decide, by decide⟩) (⟨by decide, by decide⟩)) (fun v h2 hp => ?_)
  obtain ⟨rfl, hq_4⟩ := hp
  refine Zn.eq (pc2 := 17) (ls2 := [some (za (A 0)), some (zi x), some (zi w_)]) (st2 := [zi (inB 0 2 w_)]) (h2 := zov (LM A m r) h) rfl rfl rfl hq_4 ?_
  have hD : zND (LM A m r) := hD
  have q_5 := inB_spec 0 2 w_
  refine Zn.ifc (c := .ne) (off := 7) 24 (by decide +kernel) rfl ⟨by omega, by omega⟩ (fun c_6 => ?_) (fun c_6 => absurd (show inB 0 2 w_ ≠ 0 from by omega) c_6)
  have c_6 : inB 0 2 w_ ≠ 0 := c_6
  refine Zn.seg (pc2 := 26) (ls2 := [some (za (A 0)), some (zi x), some (zi w_)]) (st2 := [zi x, za (A 0)]) [(24, .aload_n 0), (25, .iload_n 1)] (by decide +kernel) rfl ?_
  refine Zn.call (ins := .invokevirtual 81) [za (A 0), zi x] [] (by decide +kernel) rfl rfl rfl ⟨rfl, rfl⟩ ⟨rfl, rfl, rfl⟩ rfl (zrecvV hD (p := 0) rfl rfl rfl) (sp_X8_kind (A := A) (m := m) (r := r) (x := x) (p := p) (zov_all hD) hD (by first | assumption | omega) (by first | assumption | omega)) (fun v h2 hp => ?_)
  obtain ⟨rfl, hq_7⟩ := hp
  refine Zn.eq (pc2 := 29) (ls2 := [some (za (A 0)), some (zi x), some (zi w_)]) (st2 := [zi (r 1 (p + 18))]) (h2 := zov (LM A m r) h) rfl rfl rfl hq_7 ?_
  have hD : zND (LM A m r) := hD
  refine Zn.ifc (c := .eq) (off := 10) 39 (by decide +kernel) rfl ⟨by omega, by omega⟩ (fun c_8 => absurd (show r 1 (p + 18) = 0 from c_8) (by omega)) (fun c_8 => ?_)
  have c_8 : ¬ (r 1 (p + 18) = 0) := c_8
  refine Zn.seg (pc2 := 33) (ls2 := [some (za (A 0)), some (zi x), some (zi w_)]) (st2 := [za (A 0)]) [(32, .aload_n 0)] (by decide +kernel) rfl ?_
  refine Zn.call (ins := .invokevirtual 318) [za (A 0)] [] (by decide +kernel) rfl rfl rfl ⟨rfl, rfl⟩ ⟨rfl, rfl, rfl⟩ rfl (zrecvV hD (p := 0) rfl rfl rfl) (sp_X8_isReady_yes (A := A) (m := m) (r := r) (d := d) (zov_all hD) hD (by first | assumption | omega) (by first | assumption | omega) (by first | assumption | omega) (by first | assumption | omega) (by first | assumption | omega) (by first | assumption | omega)) (fun v h2 hp => ?_)
  obtain ⟨c1, c2, c3, c, q1, q2, q3, x1, x2, x3, X, P, rfl, hq_9, hry⟩ := hp
  refine Zn.eq (pc2 := 36) (ls2 := [some (za (A 0)), some (zi x), some (zi w_)]) (st2 := [zi 1]) (h2 := zov (LM A (va_up (va_up (va_up (va_up (va_up (va_up (va_up (va_up m 19 c1) 20 c2) 21 c3) 24 c) 25 ((d : Int) + 1)) 28 q1) 29 q2) 30 q3) (va_up (va_up (va_up (va_up (va_up r 11 x1) 12 x2) 13 x3) 14 X) 15 P)) h) rfl rfl rfl (hq_9.trans (LM_over _ _ _ _ _ _)) ?_
  have hD : zND (LM A (va_up (va_up (va_up (va_up (va_up (va_up (va_up (va_up m 19 c1) 20 c2) 21 c3) 24 c) 25 ((d : Int) + 1)) 28 q1) 29 q2) 30 q3) (va_up (va_up (va_up (va_up (va_up r 11 x1) 12 x2) 13 x3) 14 X) 15 P)) := hD
  have hgk := hry.1
  refine Zn.ifc (c := .ne) (off := 7) 43 (by decide +kernel) rfl ⟨by decide, by decide⟩ (fun c_10 => ?_) (fun c_10 => absurd (show (1 : Int) ≠ 0 from by decide) c_10)
  have c_10 : (1 : Int) ≠ 0 := c_10
  refine Zn.seg (pc2 := 45) (ls2 := [some (za (A 0)), some (zi x), some (zi w_)]) (st2 := [zi x, za (A 0)]) [(43, .aload_n 0), (44, .iload_n 1)] (by decide +kernel) rfl ?_
  refine Zn.call (ins := .invokevirtual 289) [za (A 0), zi x] [] (by decide +kernel) rfl rfl rfl ⟨rfl, rfl⟩ ⟨rfl, rfl, rfl⟩ rfl (zrecvV hD (p := 0) rfl rfl rfl) (sp_X8_findsErrorG (A := A) (m := va_up (va_up (va_up (va_up (va_up (va_up (va_up (va_up m 19 c1) 20 c2) 21 c3) 24 c) 25 ((d : Int) + 1)) 28 q1) 29 q2) 30 q3) (r := va_up (va_up (va_up (va_up (va_up r 11 x1) 12 x2) 13 x3) 14 X) 15 P) (x := x) (p := p) (k := (d + 1)) (c := c) (X := X) (P := P) (zov_all hD) hD (hx) (hp) (hR) (rfl) (by rfl) (fun j hj => rfl) (fun j hj => rfl) (hgk) (hnp p hp (by omega))) (fun v h2 hp => ?_)
  obtain ⟨rfl, hq_11⟩ := hp
  refine Zn.eq (pc2 := 48) (ls2 := [some (za (A 0)), some (zi x), some (zi w_)]) (st2 := []) (h2 := zov (LM A (va_up (va_up (va_up (va_up (va_up (va_up (va_up (va_up (va_up (va_up m 19 c1) 20 c2) 21 c3) 24 c) 25 ((d : Int) + 1)) 26 (eUG ((r 1)) X P (d + 1) c p)) 27 (eDG ((r 1)) X P (d + 1) c p)) 28 q1) 29 q2) 30 q3) (va_up (va_up (va_up (va_up (va_up r 11 x1) 12 x2) 13 x3) 14 X) 15 P)) h) rfl rfl rfl (hq_11.trans ((LM_over _ _ _ _ _ _).trans rfl)) ?_
  have hD : zND (LM A (va_up (va_up (va_up (va_up (va_up (va_up (va_up (va_up (va_up (va_up m 19 c1) 20 c2) 21 c3) 24 c) 25 ((d : Int) + 1)) 26 (eUG ((r 1)) X P (d + 1) c p)) 27 (eDG ((r 1)) X P (d + 1) c p)) 28 q1) 29 q2) 30 q3) (va_up (va_up (va_up (va_up (va_up r 11 x1) 12 x2) 13 x3) 14 X) 15 P)) := hD
  have hee := eg_bd hR hp hgk (hnp p hp (by omega))
  refine Zn.seg (pc2 := 50) (ls2 := [some (za (A 0)), some (zi x), some (zi w_)]) (st2 := [zi w_, za (A 0)]) [(48, .aload_n 0), (49, .iload_n 2)] (by decide +kernel) rfl ?_
  refine Zn.call (ins := .invokevirtual 321) [za (A 0), zi w_] [] (by decide +kernel) rfl rfl rfl ⟨rfl, rfl⟩ ⟨rfl, rfl, rfl⟩ rfl (zrecvV hD (p := 0) rfl rfl rfl) (sp_X8_tells (A := A) (m := va_up (va_up (va_up (va_up (va_up (va_up (va_up (va_up (va_up (va_up m 19 c1) 20 c2) 21 c3) 24 c) 25 ((d : Int) + 1)) 26 (eUG ((r 1)) X P (d + 1) c p)) 27 (eDG ((r 1)) X P (d + 1) c p)) 28 q1) 29 q2) 30 q3) (r := va_up (va_up (va_up (va_up (va_up r 11 x1) 12 x2) 13 x3) 14 X) 15 P) (w_ := w_) (zov_all hD) hD (hw) (hee.2.1)) (fun v h2 hp => ?_)
  obtain ⟨rfl, hq_12⟩ := hp
  refine Zn.eq (pc2 := 53) (ls2 := [some (za (A 0)), some (zi x), some (zi w_)]) (st2 := [zj (tlV w_ ((eUG ((r 1)) X P (d + 1) c p)) ((eDG ((r 1)) X P (d + 1) c p)))]) (h2 := zov (LM A (va_up (va_up (va_up (va_up (va_up (va_up (va_up (va_up (va_up (va_up m 19 c1) 20 c2) 21 c3) 24 c) 25 ((d : Int) + 1)) 26 (eUG ((r 1)) X P (d + 1) c p)) 27 (eDG ((r 1)) X P (d + 1) c p)) 28 q1) 29 q2) 30 q3) (va_up (va_up (va_up (va_up (va_up r 11 x1) 12 x2) 13 x3) 14 X) 15 P)) h) rfl rfl rfl hq_12 ?_
  have hD : zND (LM A (va_up (va_up (va_up (va_up (va_up (va_up (va_up (va_up (va_up (va_up m 19 c1) 20 c2) 21 c3) 24 c) 25 ((d : Int) + 1)) 26 (eUG ((r 1)) X P (d + 1) c p)) 27 (eDG ((r 1)) X P (d + 1) c p)) 28 q1) 29 q2) 30 q3) (va_up (va_up (va_up (va_up (va_up r 11 x1) 12 x2) 13 x3) 14 X) 15 P)) := hD
  exact Zn.lret (by decide +kernel) rfl (⟨c1, c2, c3, c, q1, q2, q3, x1, x2, x3, X, P, _, _, rfl, rfl, hry⟩)
theorem sp_X8_level_bad1 {h : xH} {A : Nat → Nat} {m : Nat → Int} {r : Nat → Nat → Int} {x w_ : Int} (hL : ∀ q ∈ LM A m r, h q.1 = zcE q.2) (hD : zND (LM A m r)) (zx : zInI x) (zw : zInI w_) (hb : ¬ (0 ≤ x ∧ x ≤ 8191)) : zEv k_X8_level [za (A 0), zi x, zi w_] h (fun v h2 => v = some (zj (-1)) ∧ h2 = h) := by
  have hh : h = zov (LM A m r) h := zov_self hL
  have zx1 := zx.1
  have zx2 := zx.2
  have zw1 := zw.1
  have zw2 := zw.2
  refine zEv.body (I := (8, xI_X8_level, 3, 4, 87, 0, 0, false)) (rt := (some .long)) [some (za (A 0)), some (zi x), some (zi w_)] rfl rfl rfl rfl ?_
  refine Zn.eq rfl rfl rfl hh ?_
  have hD : zND (LM A m r) := hD
  refine Zn.seg (pc2 := 1) (ls2 := [some (za (A 0)), some (zi x), some (zi w_)]) (st2 := [zi x]) [(0, .iload_n 1)] (by decide +kernel) rfl ?_
  refine Zn.i2l (by decide +kernel) ⟨by omega, by omega⟩ ?_
  refine Zn.seg (pc2 := 6) (ls2 := [some (za (A 0)), some (zi x), some (zi w_)]) (st2 := [zj 8191, zj 0, zj x]) [(2, .lconst 0), (3, .ldc2_w 326)] (by decide +kernel) rfl ?_
  refine Zn.call (ins := .invokestatic 77) [zj x, zj 0, zj 8191] [] (by decide +kernel) rfl rfl rfl ⟨rfl, rfl⟩ ⟨rfl, rfl, rfl⟩ rfl (zrecvS (by decide)) (sp_X8_in (x := x) (lo := 0) (hi := 8191) (⟨by omega, by omega⟩) (⟨by decide, by decide⟩) (⟨by decide, by decide⟩)) (fun v h2 hp => ?_)
  obtain ⟨rfl, hq_1⟩ := hp
  refine Zn.eq (pc2 := 9) (ls2 := [some (za (A 0)), some (zi x), some (zi w_)]) (st2 := [zi (inB 0 8191 x)]) (h2 := zov (LM A m r) h) rfl rfl rfl hq_1 ?_
  have hD : zND (LM A m r) := hD
  have q_2 := inB_spec 0 8191 x
  refine Zn.ifc (c := .eq) (off := 15) 24 (by decide +kernel) rfl ⟨by omega, by omega⟩ (fun c_3 => ?_) (fun c_3 => absurd (show inB 0 8191 x = 0 from by omega) c_3)
  have c_3 : inB 0 8191 x = 0 := c_3
  refine Zn.seg (pc2 := 27) (ls2 := [some (za (A 0)), some (zi x), some (zi w_)]) (st2 := [zj (-1)]) [(24, .ldc2_w 223)] (by decide +kernel) rfl ?_
  exact Zn.lret (by decide +kernel) rfl (⟨by first | rfl | (refine congrArg some (congrArg zj ?_); first | omega | (simp_all; done) | (simp_all; omega)), hh.symm⟩)
theorem sp_X8_level_bad2 {h : xH} {A : Nat → Nat} {m : Nat → Int} {r : Nat → Nat → Int} {x w_ : Int} (hL : ∀ q ∈ LM A m r, h q.1 = zcE q.2) (hD : zND (LM A m r)) (zx : zInI x) (zw : zInI w_) (hi : 0 ≤ x ∧ x ≤ 8191) (hb : ¬ (0 ≤ w_ ∧ w_ ≤ 2)) : zEv k_X8_level [za (A 0), zi x, zi w_] h (fun v h2 => v = some (zj (-1)) ∧ h2 = h) := by
  have hh : h = zov (LM A m r) h := zov_self hL
  have zx1 := zx.1
  have zx2 := zx.2
  have zw1 := zw.1
  have zw2 := zw.2
  refine zEv.body (I := (8, xI_X8_level, 3, 4, 87, 0, 0, false)) (rt := (some .long)) [some (za (A 0)), some (zi x), some (zi w_)] rfl rfl rfl rfl ?_
  refine Zn.eq rfl rfl rfl hh ?_
  have hD : zND (LM A m r) := hD
  refine Zn.seg (pc2 := 1) (ls2 := [some (za (A 0)), some (zi x), some (zi w_)]) (st2 := [zi x]) [(0, .iload_n 1)] (by decide +kernel) rfl ?_
  refine Zn.i2l (by decide +kernel) ⟨by omega, by omega⟩ ?_
  refine Zn.seg (pc2 := 6) (ls2 := [some (za (A 0)), some (zi x), some (zi w_)]) (st2 := [zj 8191, zj 0, zj x]) [(2, .lconst 0), (3, .ldc2_w 326)] (by decide +kernel) rfl ?_
  refine Zn.call (ins := .invokestatic 77) [zj x, zj 0, zj 8191] [] (by decide +kernel) rfl rfl rfl ⟨rfl, rfl⟩ ⟨rfl, rfl, rfl⟩ rfl (zrecvS (by decide)) (sp_X8_in (x := x) (lo := 0) (hi := 8191) (⟨by omega, by omega⟩) (⟨by decide, by decide⟩) (⟨by decide, by decide⟩)) (fun v h2 hp => ?_)
  obtain ⟨rfl, hq_1⟩ := hp
  refine Zn.eq (pc2 := 9) (ls2 := [some (za (A 0)), some (zi x), some (zi w_)]) (st2 := [zi (inB 0 8191 x)]) (h2 := zov (LM A m r) h) rfl rfl rfl hq_1 ?_
  have hD : zND (LM A m r) := hD
  have q_2 := inB_spec 0 8191 x
  refine Zn.ifc (c := .eq) (off := 15) 24 (by decide +kernel) rfl ⟨by omega, by omega⟩ (fun c_3 => absurd (show inB 0 8191 x = 0 from c_3) (by omega)) (fun c_3 => ?_)
  have c_3 : ¬ (inB 0 8191 x = 0) := c_3
  refine Zn.seg (pc2 := 13) (ls2 := [some (za (A 0)), some (zi x), some (zi w_)]) (st2 := [zi w_]) [(12, .iload_n 2)] (by decide +kernel) rfl ?_
  refine Zn.i2l (by decide +kernel) ⟨by omega, by omega⟩ ?_
  refine Zn.seg (pc2 := 18) (ls2 := [some (za (A 0)), some (zi x), some (zi w_)]) (st2 := [zj 2, zj 0, zj w_]) [(14, .lconst 0), (15, .ldc2_w 114)] (by decide +kernel) rfl ?_
  refine Zn.call (ins := .invokestatic 77) [zj w_, zj 0, zj 2] [] (by decide +kernel) rfl rfl rfl ⟨rfl, rfl⟩ ⟨rfl, rfl, rfl⟩ rfl (zrecvS (by decide)) (sp_X8_in (x := w_) (lo := 0) (hi := 2) (⟨by omega, by omega⟩) (⟨by decide, by decide⟩) (⟨by decide, by decide⟩)) (fun v h2 hp => ?_)
  obtain ⟨rfl, hq_4⟩ := hp
  refine Zn.eq (pc2 := 21) (ls2 := [some (za (A 0)), some (zi x), some (zi w_)]) (st2 := [zi (inB 0 2 w_)]) (h2 := zov (LM A m r) h) rfl rfl rfl hq_4 ?_
  have hD : zND (LM A m r) := hD
  have q_5 := inB_spec 0 2 w_
  refine Zn.ifc (c := .ne) (off := 7) 28 (by decide +kernel) rfl ⟨by omega, by omega⟩ (fun c_6 => absurd (show inB 0 2 w_ ≠ 0 from c_6) (by omega)) (fun c_6 => ?_)
  have c_6 : ¬ (inB 0 2 w_ ≠ 0) := c_6
  refine Zn.seg (pc2 := 27) (ls2 := [some (za (A 0)), some (zi x), some (zi w_)]) (st2 := [zj (-1)]) [(24, .ldc2_w 223)] (by decide +kernel) rfl ?_
  exact Zn.lret (by decide +kernel) rfl (⟨by first | rfl | (refine congrArg some (congrArg zj ?_); first | omega | (simp_all; done) | (simp_all; omega)), hh.symm⟩)
theorem sp_X8_level_none {h : xH} {A : Nat → Nat} {m : Nat → Int} {r : Nat → Nat → Int} {s : Nat} {w_ : Int} (hL : ∀ q ∈ LM A m r, h q.1 = zcE q.2) (hD : zND (LM A m r)) (hs : s < 8192) (hw : 0 ≤ w_ ∧ w_ ≤ 2) (hR : ROK (r 1)) (hpo : mk (mpoleB (r 1)) ≠ 0) : zEv k_X8_level [za (A 0), zi (s : Int), zi w_] h (fun v h2 => v = some (zj (-4)) ∧ h2 = h) := by
  have hh : h = zov (LM A m r) h := zov_self hL
  refine zEv.body (I := (8, xI_X8_level, 3, 4, 87, 0, 0, false)) (rt := (some .long)) [some (za (A 0)), some (zi (s : Int)), some (zi w_)] rfl rfl rfl rfl ?_
  refine Zn.eq rfl rfl rfl hh ?_
  have hD : zND (LM A m r) := hD
  refine Zn.seg (pc2 := 1) (ls2 := [some (za (A 0)), some (zi (s : Int)), some (zi w_)]) (st2 := [zi (s : Int)]) [(0, .iload_n 1)] (by decide +kernel) rfl ?_
  refine Zn.i2l (by decide +kernel) ⟨by omega, by omega⟩ ?_
  refine Zn.seg (pc2 := 6) (ls2 := [some (za (A 0)), some (zi (s : Int)), some (zi w_)]) (st2 := [zj 8191, zj 0, zj (s : Int)]) [(2, .lconst 0), (3, .ldc2_w 326)] (by decide +kernel) rfl ?_
  refine Zn.call (ins := .invokestatic 77) [zj (s : Int), zj 0, zj 8191] [] (by decide +kernel) rfl rfl rfl ⟨rfl, rfl⟩ ⟨rfl, rfl, rfl⟩ rfl (zrecvS (by decide)) (sp_X8_in (x := (s : Int)) (lo := 0) (hi := 8191) (⟨by omega, by omega⟩) (⟨by decide, by decide⟩) (⟨by decide, by decide⟩)) (fun v h2 hp => ?_)
  obtain ⟨rfl, hq_1⟩ := hp
  refine Zn.eq (pc2 := 9) (ls2 := [some (za (A 0)), some (zi (s : Int)), some (zi w_)]) (st2 := [zi (inB 0 8191 (s : Int))]) (h2 := zov (LM A m r) h) rfl rfl rfl hq_1 ?_
  have hD : zND (LM A m r) := hD
  have q_2 := inB_spec 0 8191 (s : Int)
  refine Zn.ifc (c := .eq) (off := 15) 24 (by decide +kernel) rfl ⟨by omega, by omega⟩ (fun c_3 => absurd (show inB 0 8191 (s : Int) = 0 from c_3) (by omega)) (fun c_3 => ?_)
  have c_3 : ¬ (inB 0 8191 (s : Int) = 0) := c_3
  refine Zn.seg (pc2 := 13) (ls2 := [some (za (A 0)), some (zi (s : Int)), some (zi w_)]) (st2 := [zi w_]) [(12, .iload_n 2)] (by decide +kernel) rfl ?_
  refine Zn.i2l (by decide +kernel) ⟨by omega, by omega⟩ ?_
  refine Zn.seg (pc2 := 18) (ls2 := [some (za (A 0)), some (zi (s : Int)), some (zi w_)]) (st2 := [zj 2, zj 0, zj w_]) [(14, .lconst 0), (15, .ldc2_w 114)] (by decide +kernel) rfl ?_
  refine Zn.call (ins := .invokestatic 77) [zj w_, zj 0, zj 2] [] (by decide +kernel) rfl rfl rfl ⟨rfl, rfl⟩ ⟨rfl, rfl, rfl⟩ rfl (zrecvS (by decide)) (sp_X8_in (x := w_) (lo := 0) (hi := 2) (⟨by omega, by omega⟩) (⟨by decide, by decide⟩) (⟨by decide, by decide⟩)) (fun v h2 hp => ?_)
  obtain ⟨rfl, hq_4⟩ := hp
  refine Zn.eq (pc2 := 21) (ls2 := [some (za (A 0)), some (zi (s : Int)), some (zi w_)]) (st2 := [zi (inB 0 2 w_)]) (h2 := zov (LM A m r) h) rfl rfl rfl hq_4 ?_
  have hD : zND (LM A m r) := hD
  have q_5 := inB_spec 0 2 w_
  refine Zn.ifc (c := .ne) (off := 7) 28 (by decide +kernel) rfl ⟨by omega, by omega⟩ (fun c_6 => ?_) (fun c_6 => absurd (show inB 0 2 w_ ≠ 0 from by omega) c_6)
  have c_6 : inB 0 2 w_ ≠ 0 := c_6
  refine Zn.seg (pc2 := 29) (ls2 := [some (za (A 0)), some (zi (s : Int)), some (zi w_)]) (st2 := [za (A 0)]) [(28, .aload_n 0)] (by decide +kernel) rfl ?_
  refine Zn.call (ins := .invokevirtual 118) [za (A 0)] [] (by decide +kernel) rfl rfl rfl ⟨rfl, rfl⟩ ⟨rfl, rfl, rfl⟩ rfl (zrecvV hD (p := 0) rfl rfl rfl) (sp_X8_poles (A := A) (m := m) (r := r) (zov_all hD) hD (hR.1) (ROK_qz hR)) (fun v h2 hp => ?_)
  obtain ⟨rfl, hq_7⟩ := hp
  refine Zn.eq (pc2 := 32) (ls2 := [some (za (A 0)), some (zi (s : Int)), some (zi w_)]) (st2 := [zi (mk (mpoleB (r 1)) : Int)]) (h2 := zov (LM A m r) h) rfl rfl rfl hq_7 ?_
  have hD : zND (LM A m r) := hD
  have hmk_ := mk_lt (mpoleB (r 1))
  refine Zn.ifc (c := .eq) (off := 7) 39 (by decide +kernel) rfl ⟨by omega, by omega⟩ (fun c_8 => absurd (show (mk (mpoleB (r 1)) : Int) = 0 from c_8) (by omega)) (fun c_8 => ?_)
  have c_8 : ¬ ((mk (mpoleB (r 1)) : Int) = 0) := c_8
  refine Zn.seg (pc2 := 38) (ls2 := [some (za (A 0)), some (zi (s : Int)), some (zi w_)]) (st2 := [zj (-4)]) [(35, .ldc2_w 311)] (by decide +kernel) rfl ?_
  exact Zn.lret (by decide +kernel) rfl (⟨by first | rfl | (refine congrArg some (congrArg zj ?_); first | omega | (simp_all; done) | (simp_all; omega)), hh.symm⟩)
theorem sp_X8_level_not {h : xH} {A : Nat → Nat} {m : Nat → Int} {r : Nat → Nat → Int} {s : Nat} {w_ : Int} (hL : ∀ q ∈ LM A m r, h q.1 = zcE q.2) (hD : zND (LM A m r)) (hs : s < 8192) (hw : 0 ≤ w_ ∧ w_ ≤ 2) (hR : ROK (r 1)) (hpo : mk (mpoleB (r 1)) = 0) (hnr : ¬ refP (r 1) s) : zEv k_X8_level [za (A 0), zi (s : Int), zi w_] h (fun v h2 => v = some (zj (-2)) ∧ h2 = h) := by
  have hh : h = zov (LM A m r) h := zov_self hL
  have hrf := refV_n hnr
  refine zEv.body (I := (8, xI_X8_level, 3, 4, 87, 0, 0, false)) (rt := (some .long)) [some (za (A 0)), some (zi (s : Int)), some (zi w_)] rfl rfl rfl rfl ?_
  refine Zn.eq rfl rfl rfl hh ?_
  have hD : zND (LM A m r) := hD
  refine Zn.seg (pc2 := 1) (ls2 := [some (za (A 0)), some (zi (s : Int)), some (zi w_)]) (st2 := [zi (s : Int)]) [(0, .iload_n 1)] (by decide +kernel) rfl ?_
  refine Zn.i2l (by decide +kernel) ⟨by omega, by omega⟩ ?_
  refine Zn.seg (pc2 := 6) (ls2 := [some (za (A 0)), some (zi (s : Int)), some (zi w_)]) (st2 := [zj 8191, zj 0, zj (s : Int)]) [(2, .lconst 0), (3, .ldc2_w 326)] (by decide +kernel) rfl ?_
  refine Zn.call (ins := .invokestatic 77) [zj (s : Int), zj 0, zj 8191] [] (by decide +kernel) rfl rfl rfl ⟨rfl, rfl⟩ ⟨rfl, rfl, rfl⟩ rfl (zrecvS (by decide)) (sp_X8_in (x := (s : Int)) (lo := 0) (hi := 8191) (⟨by omega, by omega⟩) (⟨by decide, by decide⟩) (⟨by decide, by decide⟩)) (fun v h2 hp => ?_)
  obtain ⟨rfl, hq_1⟩ := hp
  refine Zn.eq (pc2 := 9) (ls2 := [some (za (A 0)), some (zi (s : Int)), some (zi w_)]) (st2 := [zi (inB 0 8191 (s : Int))]) (h2 := zov (LM A m r) h) rfl rfl rfl hq_1 ?_
  have hD : zND (LM A m r) := hD
  have q_2 := inB_spec 0 8191 (s : Int)
  refine Zn.ifc (c := .eq) (off := 15) 24 (by decide +kernel) rfl ⟨by omega, by omega⟩ (fun c_3 => absurd (show inB 0 8191 (s : Int) = 0 from c_3) (by omega)) (fun c_3 => ?_)
  have c_3 : ¬ (inB 0 8191 (s : Int) = 0) := c_3
  refine Zn.seg (pc2 := 13) (ls2 := [some (za (A 0)), some (zi (s : Int)), some (zi w_)]) (st2 := [zi w_]) [(12, .iload_n 2)] (by decide +kernel) rfl ?_
  refine Zn.i2l (by decide +kernel) ⟨by omega, by omega⟩ ?_
  refine Zn.seg (pc2 := 18) (ls2 := [some (za (A 0)), some (zi (s : Int)), some (zi w_)]) (st2 := [zj 2, zj 0, zj w_]) [(14, .lconst 0), (15, .ldc2_w 114)] (by decide +kernel) rfl ?_
  refine Zn.call (ins := .invokestatic 77) [zj w_, zj 0, zj 2] [] (by decide +kernel) rfl rfl rfl ⟨rfl, rfl⟩ ⟨rfl, rfl, rfl⟩ rfl (zrecvS (by decide)) (sp_X8_in (x := w_) (lo := 0) (hi := 2) (⟨by omega, by omega⟩) (⟨by decide, by decide⟩) (⟨by decide, by decide⟩)) (fun v h2 hp => ?_)
  obtain ⟨rfl, hq_4⟩ := hp
  refine Zn.eq (pc2 := 21) (ls2 := [some (za (A 0)), some (zi (s : Int)), some (zi w_)]) (st2 := [zi (inB 0 2 w_)]) (h2 := zov (LM A m r) h) rfl rfl rfl hq_4 ?_
  have hD : zND (LM A m r) := hD
  have q_5 := inB_spec 0 2 w_
  refine Zn.ifc (c := .ne) (off := 7) 28 (by decide +kernel) rfl ⟨by omega, by omega⟩ (fun c_6 => ?_) (fun c_6 => absurd (show inB 0 2 w_ ≠ 0 from by omega) c_6)
  have c_6 : inB 0 2 w_ ≠ 0 := c_6
  refine Zn.seg (pc2 := 29) (ls2 := [some (za (A 0)), some (zi (s : Int)), some (zi w_)]) (st2 := [za (A 0)]) [(28, .aload_n 0)] (by decide +kernel) rfl ?_
  refine Zn.call (ins := .invokevirtual 118) [za (A 0)] [] (by decide +kernel) rfl rfl rfl ⟨rfl, rfl⟩ ⟨rfl, rfl, rfl⟩ rfl (zrecvV hD (p := 0) rfl rfl rfl) (sp_X8_poles (A := A) (m := m) (r := r) (zov_all hD) hD (hR.1) (ROK_qz hR)) (fun v h2 hp => ?_)
  obtain ⟨rfl, hq_7⟩ := hp
  refine Zn.eq (pc2 := 32) (ls2 := [some (za (A 0)), some (zi (s : Int)), some (zi w_)]) (st2 := [zi (mk (mpoleB (r 1)) : Int)]) (h2 := zov (LM A m r) h) rfl rfl rfl hq_7 ?_
  have hD : zND (LM A m r) := hD
  have hmk_ := mk_lt (mpoleB (r 1))
  refine Zn.ifc (c := .eq) (off := 7) 39 (by decide +kernel) rfl ⟨by omega, by omega⟩ (fun c_8 => ?_) (fun c_8 => absurd (show (mk (mpoleB (r 1)) : Int) = 0 from by omega) c_8)
  have c_8 : (mk (mpoleB (r 1)) : Int) = 0 := c_8
  refine Zn.seg (pc2 := 41) (ls2 := [some (za (A 0)), some (zi (s : Int)), some (zi w_)]) (st2 := [zi (s : Int), za (A 0)]) [(39, .aload_n 0), (40, .iload_n 1)] (by decide +kernel) rfl ?_
  refine Zn.call (ins := .invokevirtual 254) [za (A 0), zi (s : Int)] [] (by decide +kernel) rfl rfl rfl ⟨rfl, rfl⟩ ⟨rfl, rfl, rfl⟩ rfl (zrecvV hD (p := 0) rfl rfl rfl) (sp_X8_isReference (A := A) (m := m) (r := r) (s := s) (zov_all hD) hD (by first | assumption | omega) (by first | assumption | omega)) (fun v h2 hp => ?_)
  obtain ⟨rfl, hq_9⟩ := hp
  refine Zn.eq (pc2 := 44) (ls2 := [some (za (A 0)), some (zi (s : Int)), some (zi w_)]) (st2 := [zi (refV (r 1) s)]) (h2 := zov (LM A m r) h) rfl rfl rfl hq_9 ?_
  have hD : zND (LM A m r) := hD
  refine Zn.ifc (c := .ne) (off := 7) 51 (by decide +kernel) rfl ⟨by omega, by omega⟩ (fun c_10 => absurd (show refV (r 1) s ≠ 0 from c_10) (by omega)) (fun c_10 => ?_)
  have c_10 : ¬ (refV (r 1) s ≠ 0) := c_10
  refine Zn.seg (pc2 := 50) (ls2 := [some (za (A 0)), some (zi (s : Int)), some (zi w_)]) (st2 := [zj (-2)]) [(47, .ldc2_w 328)] (by decide +kernel) rfl ?_
  exact Zn.lret (by decide +kernel) rfl (⟨by first | rfl | (refine congrArg some (congrArg zj ?_); first | omega | (simp_all; done) | (simp_all; omega)), hh.symm⟩)
set_option maxHeartbeats 1000000 in
theorem sp_X8_level_ok {h : xH} {A : Nat → Nat} {m : Nat → Int} {r : Nat → Nat → Int} {s d : Nat} {w_ : Int} (hL : ∀ q ∈ LM A m r, h q.1 = zcE q.2) (hD : zND (LM A m r)) (hs : s < 8192) (hw : 0 ≤ w_ ∧ w_ ≤ 2) (hR : ROK (r 1)) (hd : r 1 0 = (d : Int)) (hd3 : d ≤ 3) (hpo : mk (mpoleB (r 1)) = 0) (hrp : refP (r 1) s) (hS : ∀ t, t < 8192 → refP (r 1) t → SOK (r 1) d t) : zEv k_X8_level [za (A 0), zi (s : Int), zi w_] h (fun v h2 => ∃ x1 : Nat → Int, ∃ x2 : Nat → Int, ∃ x3 : Nat → Int, ∃ c1 : Int, v = some (zj (lvV w_ (aOf (r 1) s) (bOf (r 1) s))) ∧ h2 = zov (LM A (va_up (va_up (va_up m 19 c1) 20 (aOf (r 1) s)) 21 (bOf (r 1) s)) (va_up (va_up (va_up r 11 x1) 12 x2) 13 x3)) h) := by
  have hh : h = zov (LM A m r) h := zov_self hL
  have hrf := refV_y hrp
  have hab := ab_rng (hS s hs hrp)
  refine zEv.body (I := (8, xI_X8_level, 3, 4, 87, 0, 0, false)) (rt := (some .long)) [some (za (A 0)), some (zi (s : Int)), some (zi w_)] rfl rfl rfl rfl ?_
  refine Zn.eq rfl rfl rfl hh ?_
  have hD : zND (LM A m r) := hD
  refine Zn.seg (pc2 := 1) (ls2 := [some (za (A 0)), some (zi (s : Int)), some (zi w_)]) (st2 := [zi (s : Int)]) [(0, .iload_n 1)] (by decide +kernel) rfl ?_
  refine Zn.i2l (by decide +kernel) ⟨by omega, by omega⟩ ?_
  refine Zn.seg (pc2 := 6) (ls2 := [some (za (A 0)), some (zi (s : Int)), some (zi w_)]) (st2 := [zj 8191, zj 0, zj (s : Int)]) [(2, .lconst 0), (3, .ldc2_w 326)] (by decide +kernel) rfl ?_
  refine Zn.call (ins := .invokestatic 77) [zj (s : Int), zj 0, zj 8191] [] (by decide +kernel) rfl rfl rfl ⟨rfl, rfl⟩ ⟨rfl, rfl, rfl⟩ rfl (zrecvS (by decide)) (sp_X8_in (x := (s : Int)) (lo := 0) (hi := 8191) (⟨by omega, by omega⟩) (⟨by decide, by decide⟩) (⟨by decide, by decide⟩)) (fun v h2 hp => ?_)
  obtain ⟨rfl, hq_1⟩ := hp
  refine Zn.eq (pc2 := 9) (ls2 := [some (za (A 0)), some (zi (s : Int)), some (zi w_)]) (st2 := [zi (inB 0 8191 (s : Int))]) (h2 := zov (LM A m r) h) rfl rfl rfl hq_1 ?_
  have hD : zND (LM A m r) := hD
  have q_2 := inB_spec 0 8191 (s : Int)
  refine Zn.ifc (c := .eq) (off := 15) 24 (by decide +kernel) rfl ⟨by omega, by omega⟩ (fun c_3 => absurd (show inB 0 8191 (s : Int) = 0 from c_3) (by omega)) (fun c_3 => ?_)
  have c_3 : ¬ (inB 0 8191 (s : Int) = 0) := c_3
  refine Zn.seg (pc2 := 13) (ls2 := [some (za (A 0)), some (zi (s : Int)), some (zi w_)]) (st2 := [zi w_]) [(12, .iload_n 2)] (by decide +kernel) rfl ?_
  refine Zn.i2l (by decide +kernel) ⟨by omega, by omega⟩ ?_
  refine Zn.seg (pc2 := 18) (ls2 := [some (za (A 0)), some (zi (s : Int)), some (zi w_)]) (st2 := [zj 2, zj 0, zj w_]) [(14, .lconst 0), (15, .ldc2_w 114)] (by decide +kernel) rfl ?_
  refine Zn.call (ins := .invokestatic 77) [zj w_, zj 0, zj 2] [] (by decide +kernel) rfl rfl rfl ⟨rfl, rfl⟩ ⟨rfl, rfl, rfl⟩ rfl (zrecvS (by decide)) (sp_X8_in (x := w_) (lo := 0) (hi := 2) (⟨by omega, by omega⟩) (⟨by decide, by decide⟩) (⟨by decide, by decide⟩)) (fun v h2 hp => ?_)
  obtain ⟨rfl, hq_4⟩ := hp
  refine Zn.eq (pc2 := 21) (ls2 := [some (za (A 0)), some (zi (s : Int)), some (zi w_)]) (st2 := [zi (inB 0 2 w_)]) (h2 := zov (LM A m r) h) rfl rfl rfl hq_4 ?_
  have hD : zND (LM A m r) := hD
  have q_5 := inB_spec 0 2 w_
  refine Zn.ifc (c := .ne) (off := 7) 28 (by decide +kernel) rfl ⟨by omega, by omega⟩ (fun c_6 => ?_) (fun c_6 => absurd (show inB 0 2 w_ ≠ 0 from by omega) c_6)
  have c_6 : inB 0 2 w_ ≠ 0 := c_6
  refine Zn.seg (pc2 := 29) (ls2 := [some (za (A 0)), some (zi (s : Int)), some (zi w_)]) (st2 := [za (A 0)]) [(28, .aload_n 0)] (by decide +kernel) rfl ?_
  refine Zn.call (ins := .invokevirtual 118) [za (A 0)] [] (by decide +kernel) rfl rfl rfl ⟨rfl, rfl⟩ ⟨rfl, rfl, rfl⟩ rfl (zrecvV hD (p := 0) rfl rfl rfl) (sp_X8_poles (A := A) (m := m) (r := r) (zov_all hD) hD (hR.1) (ROK_qz hR)) (fun v h2 hp => ?_)
  obtain ⟨rfl, hq_7⟩ := hp
  refine Zn.eq (pc2 := 32) (ls2 := [some (za (A 0)), some (zi (s : Int)), some (zi w_)]) (st2 := [zi (mk (mpoleB (r 1)) : Int)]) (h2 := zov (LM A m r) h) rfl rfl rfl hq_7 ?_
  have hD : zND (LM A m r) := hD
  have hmk_ := mk_lt (mpoleB (r 1))
  refine Zn.ifc (c := .eq) (off := 7) 39 (by decide +kernel) rfl ⟨by omega, by omega⟩ (fun c_8 => ?_) (fun c_8 => absurd (show (mk (mpoleB (r 1)) : Int) = 0 from by omega) c_8)
  have c_8 : (mk (mpoleB (r 1)) : Int) = 0 := c_8
  refine Zn.seg (pc2 := 41) (ls2 := [some (za (A 0)), some (zi (s : Int)), some (zi w_)]) (st2 := [zi (s : Int), za (A 0)]) [(39, .aload_n 0), (40, .iload_n 1)] (by decide +kernel) rfl ?_
  refine Zn.call (ins := .invokevirtual 254) [za (A 0), zi (s : Int)] [] (by decide +kernel) rfl rfl rfl ⟨rfl, rfl⟩ ⟨rfl, rfl, rfl⟩ rfl (zrecvV hD (p := 0) rfl rfl rfl) (sp_X8_isReference (A := A) (m := m) (r := r) (s := s) (zov_all hD) hD (by first | assumption | omega) (by first | assumption | omega)) (fun v h2 hp => ?_)
  obtain ⟨rfl, hq_9⟩ := hp
  refine Zn.eq (pc2 := 44) (ls2 := [some (za (A 0)), some (zi (s : Int)), some (zi w_)]) (st2 := [zi (refV (r 1) s)]) (h2 := zov (LM A m r) h) rfl rfl rfl hq_9 ?_
  have hD : zND (LM A m r) := hD
  refine Zn.ifc (c := .ne) (off := 7) 51 (by decide +kernel) rfl ⟨by omega, by omega⟩ (fun c_10 => ?_) (fun c_10 => absurd (show refV (r 1) s ≠ 0 from by omega) c_10)
  have c_10 : refV (r 1) s ≠ 0 := c_10
  refine Zn.seg (pc2 := 53) (ls2 := [some (za (A 0)), some (zi (s : Int)), some (zi w_)]) (st2 := [zi (s : Int), za (A 0)]) [(51, .aload_n 0), (52, .iload_n 1)] (by decide +kernel) rfl ?_
  refine Zn.call (ins := .invokevirtual 211) [za (A 0), zi (s : Int)] [] (by decide +kernel) rfl rfl rfl ⟨rfl, rfl⟩ ⟨rfl, rfl, rfl⟩ rfl (zrecvV hD (p := 0) rfl rfl rfl) (sp_X8_levels (A := A) (m := m) (r := r) (s := s) (l := (lOf (r 1) s)) (a := (aOf (r 1) s)) (b := (bOf (r 1) s)) (zov_all hD) hD (by first | assumption | omega) (hR) (rfl) ((hS s hs hrp).1.1) ((hS s hs hrp).1.2.2.1) ((hS s hs hrp).1.2.2.2) (rfl) (rfl)) (fun v h2 hp => ?_)
  obtain ⟨rfl, hq_11⟩ := hp
  refine Zn.eq (pc2 := 56) (ls2 := [some (za (A 0)), some (zi (s : Int)), some (zi w_)]) (st2 := []) (h2 := zov (LM A (va_up (va_up (va_up m 19 ((lOf (r 1) s).length : Int)) 20 (aOf (r 1) s)) 21 (bOf (r 1) s)) (va_up (va_up (va_up r 11 (arL ((lOf (r 1) s).map nX) (r 11))) 12 (arL ((lOf (r 1) s).map (nY (r 1))) (r 12))) 13 (arL ((lOf (r 1) s).map (nF (r 1))) (r 13)))) h) rfl rfl rfl (hq_11.trans (LM_over _ _ _ _ _ _)) ?_
  have hD : zND (LM A (va_up (va_up (va_up m 19 ((lOf (r 1) s).length : Int)) 20 (aOf (r 1) s)) 21 (bOf (r 1) s)) (va_up (va_up (va_up r 11 (arL ((lOf (r 1) s).map nX) (r 11))) 12 (arL ((lOf (r 1) s).map (nY (r 1))) (r 12))) 13 (arL ((lOf (r 1) s).map (nF (r 1))) (r 13)))) := hD
  refine Zn.seg (pc2 := 57) (ls2 := [some (za (A 0)), some (zi (s : Int)), some (zi w_)]) (st2 := [zi w_]) [(56, .iload_n 2)] (by decide +kernel) rfl ?_
  refine Zn.ifc (c := .ne) (off := 13) 70 (by decide +kernel) rfl ⟨by omega, by omega⟩ (fun c_12 => ?_) (fun c_12 => ?_)
  · have c_12 : w_ ≠ 0 := c_12
    refine Zn.seg (pc2 := 72) (ls2 := [some (za (A 0)), some (zi (s : Int)), some (zi w_)]) (st2 := [zi 1, zi w_]) [(70, .iload_n 2), (71, .iconst 1)] (by decide +kernel) rfl ?_
    refine Zn.icmp (c := .ne) (off := 10) 82 (by decide +kernel) rfl ⟨by omega, by omega⟩ ⟨by decide, by decide⟩ (fun c_13 => ?_) (fun c_13 => ?_)
    · have c_13 : w_ ≠ 1 := c_13
      refine Zn.seg (pc2 := 83) (ls2 := [some (za (A 0)), some (zi (s : Int)), some (zi w_)]) (st2 := [za (A 0)]) [(82, .aload_n 0)] (by decide +kernel) rfl ?_
      refine Zn.get (ix := 204) hD 0 (by decide +kernel) rfl rfl rfl ?_
      refine Zn.eq (st2 := [zj (aOf (r 1) s)]) rfl rfl rfl rfl ?_
      refine Zn.seg (pc2 := 87) (ls2 := [some (za (A 0)), some (zi (s : Int)), some (zi w_)]) (st2 := [zj 0, zj (aOf (r 1) s)]) [(86, .lconst 0)] (by decide +kernel) rfl ?_
      refine Zn.lcmpif (c := .ne) (off := (7)) 95 (by decide +kernel) (by decide +kernel) rfl ⟨by omega, by omega⟩ ⟨by decide, by decide⟩ (fun c_14 => ?_) (fun c_14 => ?_)
      · have c_14 : aOf (r 1) s ≠ 0 := c_14
        refine Zn.seg (pc2 := 96) (ls2 := [some (za (A 0)), some (zi (s : Int)), some (zi w_)]) (st2 := [za (A 0)]) [(95, .aload_n 0)] (by decide +kernel) rfl ?_
        refine Zn.get (ix := 204) hD 0 (by decide +kernel) rfl rfl rfl ?_
        refine Zn.eq (st2 := [zj (aOf (r 1) s)]) rfl rfl rfl rfl ?_
        refine Zn.seg (pc2 := 100) (ls2 := [some (za (A 0)), some (zi (s : Int)), some (zi w_)]) (st2 := [zj 0, zj (aOf (r 1) s)]) [(99, .lconst 0)] (by decide +kernel) rfl ?_
        refine Zn.lcmpif (c := .le) (off := (7)) 108 (by decide +kernel) (by decide +kernel) rfl ⟨by omega, by omega⟩ ⟨by decide, by decide⟩ (fun c_15 => ?_) (fun c_15 => ?_)
        · have c_15 : aOf (r 1) s ≤ 0 := c_15
          refine Zn.seg (pc2 := 111) (ls2 := [some (za (A 0)), some (zi (s : Int)), some (zi w_)]) (st2 := [zj 2]) [(108, .ldc2_w 114)] (by decide +kernel) rfl ?_
          exact Zn.lret (by decide +kernel) rfl (⟨_, _, _, _, by refine congrArg some (congrArg zj ?_); rw [lvV]; first | (rw [if_pos (by omega)]; done) | (rw [if_neg (by omega), if_pos (by omega)]; done) | (rw [if_neg (by omega), if_neg (by omega), if_pos (by omega)]; done) | (rw [if_neg (by omega), if_neg (by omega), if_neg (by omega), if_pos (by omega)]; done) | (rw [if_neg (by omega), if_neg (by omega), if_neg (by omega), if_neg (by omega)]; done), rfl⟩)
        · have c_15 : ¬ (aOf (r 1) s ≤ 0) := c_15
          refine Zn.seg (pc2 := 111) (ls2 := [some (za (A 0)), some (zi (s : Int)), some (zi w_)]) (st2 := [zj 1]) [(104, .lconst 1), (105, .goto 6)] (by decide +kernel) rfl ?_
          exact Zn.lret (by decide +kernel) rfl (⟨_, _, _, _, by refine congrArg some (congrArg zj ?_); rw [lvV]; first | (rw [if_pos (by omega)]; done) | (rw [if_neg (by omega), if_pos (by omega)]; done) | (rw [if_neg (by omega), if_neg (by omega), if_pos (by omega)]; done) | (rw [if_neg (by omega), if_neg (by omega), if_neg (by omega), if_pos (by omega)]; done) | (rw [if_neg (by omega), if_neg (by omega), if_neg (by omega), if_neg (by omega)]; done), rfl⟩)
      · have c_14 : ¬ (aOf (r 1) s ≠ 0) := c_14
        refine Zn.seg (pc2 := 111) (ls2 := [some (za (A 0)), some (zi (s : Int)), some (zi w_)]) (st2 := [zj 0]) [(91, .lconst 0), (92, .goto 19)] (by decide +kernel) rfl ?_
        exact Zn.lret (by decide +kernel) rfl (⟨_, _, _, _, by refine congrArg some (congrArg zj ?_); rw [lvV]; first | (rw [if_pos (by omega)]; done) | (rw [if_neg (by omega), if_pos (by omega)]; done) | (rw [if_neg (by omega), if_neg (by omega), if_pos (by omega)]; done) | (rw [if_neg (by omega), if_neg (by omega), if_neg (by omega), if_pos (by omega)]; done) | (rw [if_neg (by omega), if_neg (by omega), if_neg (by omega), if_neg (by omega)]; done), rfl⟩)
    · have c_13 : ¬ (w_ ≠ 1) := c_13
      refine Zn.seg (pc2 := 76) (ls2 := [some (za (A 0)), some (zi (s : Int)), some (zi w_)]) (st2 := [za (A 0)]) [(75, .aload_n 0)] (by decide +kernel) rfl ?_
      refine Zn.get (ix := 208) hD 0 (by decide +kernel) rfl rfl rfl ?_
      refine Zn.eq (st2 := [zj (bOf (r 1) s)]) rfl rfl rfl rfl ?_
      refine Zn.seg (pc2 := 111) (ls2 := [some (za (A 0)), some (zi (s : Int)), some (zi w_)]) (st2 := [zj (bOf (r 1) s)]) [(79, .goto 32)] (by decide +kernel) rfl ?_
      exact Zn.lret (by decide +kernel) rfl (⟨_, _, _, _, by refine congrArg some (congrArg zj ?_); rw [lvV]; first | (rw [if_pos (by omega)]; done) | (rw [if_neg (by omega), if_pos (by omega)]; done) | (rw [if_neg (by omega), if_neg (by omega), if_pos (by omega)]; done) | (rw [if_neg (by omega), if_neg (by omega), if_neg (by omega), if_pos (by omega)]; done) | (rw [if_neg (by omega), if_neg (by omega), if_neg (by omega), if_neg (by omega)]; done), rfl⟩)
  · have c_12 : ¬ (w_ ≠ 0) := c_12
    refine Zn.seg (pc2 := 61) (ls2 := [some (za (A 0)), some (zi (s : Int)), some (zi w_)]) (st2 := [za (A 0)]) [(60, .aload_n 0)] (by decide +kernel) rfl ?_
    refine Zn.get (ix := 204) hD 0 (by decide +kernel) rfl rfl rfl ?_
    refine Zn.eq (st2 := [zj (aOf (r 1) s)]) rfl rfl rfl rfl ?_
    refine Zn.call (ins := .invokestatic 192) [zj (aOf (r 1) s)] [] (by decide +kernel) rfl rfl rfl ⟨rfl, rfl⟩ ⟨rfl, rfl, rfl⟩ rfl (zrecvS (by decide)) (sp_X8_plain (x := aOf (r 1) s) ((ab_rng (hS s hs hrp)).1.1) ((ab_rng (hS s hs hrp)).1.2)) (fun v h2 hp => ?_)
    obtain ⟨rfl, hq_16⟩ := hp
    refine Zn.eq (pc2 := 67) (ls2 := [some (za (A 0)), some (zi (s : Int)), some (zi w_)]) (st2 := [zj ((aOf (r 1) s).natAbs : Int)]) (h2 := zov (LM A (va_up (va_up (va_up m 19 ((lOf (r 1) s).length : Int)) 20 (aOf (r 1) s)) 21 (bOf (r 1) s)) (va_up (va_up (va_up r 11 (arL ((lOf (r 1) s).map nX) (r 11))) 12 (arL ((lOf (r 1) s).map (nY (r 1))) (r 12))) 13 (arL ((lOf (r 1) s).map (nF (r 1))) (r 13)))) h) rfl rfl rfl hq_16 ?_
    have hD : zND (LM A (va_up (va_up (va_up m 19 ((lOf (r 1) s).length : Int)) 20 (aOf (r 1) s)) 21 (bOf (r 1) s)) (va_up (va_up (va_up r 11 (arL ((lOf (r 1) s).map nX) (r 11))) 12 (arL ((lOf (r 1) s).map (nY (r 1))) (r 12))) 13 (arL ((lOf (r 1) s).map (nF (r 1))) (r 13)))) := hD
    refine Zn.seg (pc2 := 111) (ls2 := [some (za (A 0)), some (zi (s : Int)), some (zi w_)]) (st2 := [zj ((aOf (r 1) s).natAbs : Int)]) [(67, .goto 44)] (by decide +kernel) rfl ?_
    exact Zn.lret (by decide +kernel) rfl (⟨_, _, _, _, by refine congrArg some (congrArg zj ?_); rw [lvV]; first | (rw [if_pos (by omega)]; done) | (rw [if_neg (by omega), if_pos (by omega)]; done) | (rw [if_neg (by omega), if_neg (by omega), if_pos (by omega)]; done) | (rw [if_neg (by omega), if_neg (by omega), if_neg (by omega), if_pos (by omega)]; done) | (rw [if_neg (by omega), if_neg (by omega), if_neg (by omega), if_neg (by omega)]; done), rfl⟩)
