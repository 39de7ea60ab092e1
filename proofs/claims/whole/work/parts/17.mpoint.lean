/-! the reference's calls on points -/
def kOK (R : Nat → Int) : Prop := ∀ p, p < 13 → 0 ≤ R (p + 18) ∧ R (p + 18) ≤ 2
def whyV (p n : Nat) (d : Int) : Int := if p = 0 then (if (n : Int) < d + 2 then 2 else 0) else 1
theorem cpR_lo {R : Nat → Int} {u k j : Nat} (h : j < 31) : cpR R u k j = R j := by
  unfold cpR
  rw [if_neg (by omega)]
theorem shR_lo {R : Nat → Int} {k j : Nat} (h : j < 31) : shR R k j = R j := by
  unfold shR
  rw [if_neg (by omega)]
theorem ntR_lo {R : Nat → Int} {u j : Nat} (h : j < 31) : ntR R u j = R j := by
  unfold ntR
  split
  · exact cpR_lo h
  · rw [cpR_lo h, shR_lo h]
theorem kOK_nt {R : Nat → Int} {u : Nat} (h : kOK R) : kOK (ntR R u) := fun p hp => by
  rw [ntR_lo (by omega)]
  exact h p hp
theorem kOK_y {R : Nat → Int} {p : Nat} {y : Int} (h : kOK R) (hp : p < 13) : kOK (va_up R (p + 5) y) := fun q hq => by
  rw [va_up_n (by omega)]
  exact h q hq
theorem kOK_up {R : Nat → Int} {p : Nat} {k : Int} (h : kOK R) (h0 : 0 ≤ k) (h2 : k ≤ 2) : kOK (va_up R (p + 18) k) := fun q hq => by
  by_cases e : q = p
  · subst e
    rw [va_up_s]
    exact ⟨h0, h2⟩
  · rw [va_up_n (by omega)]
    exact h q hq
theorem sp_X8_point_bad1 {h : xH} {A : Nat → Nat} {m : Nat → Int} {r : Nat → Nat → Int} {x y : Int} (hL : ∀ q ∈ LM A m r, h q.1 = zcE q.2) (hD : zND (LM A m r)) (zx : zInI x) (zy : zInI y) (hb : ¬ (-6 ≤ x ∧ x ≤ 6)) : zEv k_X8_point [za (A 0), zi x, zi y] h (fun v h2 => v = some (zi (-1)) ∧ h2 = h) := by
  have hh : h = zov (LM A m r) h := zov_self hL
  have zx1 := zx.1
  have zx2 := zx.2
  have zy1 := zy.1
  have zy2 := zy.2
  refine zEv.body (I := (8, xI_X8_point, 3, 2, 46, 0, 0, false)) (rt := (some .int)) [some (za (A 0)), some (zi x), some (zi y)] rfl rfl rfl rfl ?_
  refine Zn.eq rfl rfl rfl hh ?_
  have hD : zND (LM A m r) := hD
  refine Zn.seg (pc2 := 1) (ls2 := [some (za (A 0)), some (zi x), some (zi y)]) (st2 := [zi x]) [(0, .iload_n 1)] (by decide +kernel) rfl ?_
  refine Zn.i2l (by decide +kernel) ⟨by omega, by omega⟩ ?_
  refine Zn.call (ins := .invokestatic 94) [zj x] [] (by decide +kernel) rfl rfl rfl ⟨rfl, rfl⟩ ⟨rfl, rfl, rfl⟩ rfl (zrecvS (by decide)) (sp_X8_isX (x := x) (⟨by omega, by omega⟩)) (fun v h2 hp => ?_)
  obtain ⟨rfl, hq_1⟩ := hp
  refine Zn.eq (pc2 := 5) (ls2 := [some (za (A 0)), some (zi x), some (zi y)]) (st2 := [zi (inB (-6) 6 x)]) (h2 := zov (LM A m r) h) rfl rfl rfl hq_1 ?_
  have hD : zND (LM A m r) := hD
  have q_2 := inB_spec (-6) 6 x
  refine Zn.ifc (c := .eq) (off := 17) 22 (by decide +kernel) rfl ⟨by omega, by omega⟩ (fun c_3 => ?_) (fun c_3 => absurd (show inB (-6) 6 x = 0 from by omega) c_3)
  have c_3 : inB (-6) 6 x = 0 := c_3
  refine Zn.seg (pc2 := 23) (ls2 := [some (za (A 0)), some (zi x), some (zi y)]) (st2 := [zi (-1)]) [(22, .iconst (-1))] (by decide +kernel) rfl ?_
  exact Zn.iret (by decide +kernel) rfl (⟨by first | rfl | (refine congrArg some (congrArg zi ?_); first | omega | (simp_all; done) | (simp_all; omega)), hh.symm⟩)
theorem sp_X8_point_bad2 {h : xH} {A : Nat → Nat} {m : Nat → Int} {r : Nat → Nat → Int} {x y : Int} (hL : ∀ q ∈ LM A m r, h q.1 = zcE q.2) (hD : zND (LM A m r)) (zx : zInI x) (zy : zInI y) (hi : -6 ≤ x ∧ x ≤ 6) (hb : ¬ (-99 ≤ y ∧ y ≤ 99)) : zEv k_X8_point [za (A 0), zi x, zi y] h (fun v h2 => v = some (zi (-1)) ∧ h2 = h) := by
  have hh : h = zov (LM A m r) h := zov_self hL
  have zx1 := zx.1
  have zx2 := zx.2
  have zy1 := zy.1
  have zy2 := zy.2
  refine zEv.body (I := (8, xI_X8_point, 3, 2, 46, 0, 0, false)) (rt := (some .int)) [some (za (A 0)), some (zi x), some (zi y)] rfl rfl rfl rfl ?_
  refine Zn.eq rfl rfl rfl hh ?_
  have hD : zND (LM A m r) := hD
  refine Zn.seg (pc2 := 1) (ls2 := [some (za (A 0)), some (zi x), some (zi y)]) (st2 := [zi x]) [(0, .iload_n 1)] (by decide +kernel) rfl ?_
  refine Zn.i2l (by decide +kernel) ⟨by omega, by omega⟩ ?_
  refine Zn.call (ins := .invokestatic 94) [zj x] [] (by decide +kernel) rfl rfl rfl ⟨rfl, rfl⟩ ⟨rfl, rfl, rfl⟩ rfl (zrecvS (by decide)) (sp_X8_isX (x := x) (⟨by omega, by omega⟩)) (fun v h2 hp => ?_)
  obtain ⟨rfl, hq_1⟩ := hp
  refine Zn.eq (pc2 := 5) (ls2 := [some (za (A 0)), some (zi x), some (zi y)]) (st2 := [zi (inB (-6) 6 x)]) (h2 := zov (LM A m r) h) rfl rfl rfl hq_1 ?_
  have hD : zND (LM A m r) := hD
  have q_2 := inB_spec (-6) 6 x
  refine Zn.ifc (c := .eq) (off := 17) 22 (by decide +kernel) rfl ⟨by omega, by omega⟩ (fun c_3 => absurd (show inB (-6) 6 x = 0 from c_3) (by omega)) (fun c_3 => ?_)
  have c_3 : ¬ (inB (-6) 6 x = 0) := c_3
  refine Zn.seg (pc2 := 9) (ls2 := [some (za (A 0)), some (zi x), some (zi y)]) (st2 := [zi y]) [(8, .iload_n 2)] (by decide +kernel) rfl ?_
  refine Zn.i2l (by decide +kernel) ⟨by omega, by omega⟩ ?_
  refine Zn.seg (pc2 := 16) (ls2 := [some (za (A 0)), some (zi x), some (zi y)]) (st2 := [zj 99, zj (-99), zj y]) [(10, .ldc2_w 98), (13, .ldc2_w 100)] (by decide +kernel) rfl ?_
  refine Zn.call (ins := .invokestatic 77) [zj y, zj (-99), zj 99] [] (by decide +kernel) rfl rfl rfl ⟨rfl, rfl⟩ ⟨rfl, rfl, rfl⟩ rfl (zrecvS (by decide)) (sp_X8_in (x := y) (lo := (-99)) (hi := 99) (⟨by omega, by omega⟩) (⟨by decide, by decide⟩) (⟨by decide, by decide⟩)) (fun v h2 hp => ?_)
  obtain ⟨rfl, hq_4⟩ := hp
  refine Zn.eq (pc2 := 19) (ls2 := [some (za (A 0)), some (zi x), some (zi y)]) (st2 := [zi (inB (-99) 99 y)]) (h2 := zov (LM A m r) h) rfl rfl rfl hq_4 ?_
  have hD : zND (LM A m r) := hD
  have q_5 := inB_spec (-99) 99 y
  refine Zn.ifc (c := .ne) (off := 5) 24 (by decide +kernel) rfl ⟨by omega, by omega⟩ (fun c_6 => absurd (show inB (-99) 99 y ≠ 0 from c_6) (by omega)) (fun c_6 => ?_)
  have c_6 : ¬ (inB (-99) 99 y ≠ 0) := c_6
  refine Zn.seg (pc2 := 23) (ls2 := [some (za (A 0)), some (zi x), some (zi y)]) (st2 := [zi (-1)]) [(22, .iconst (-1))] (by decide +kernel) rfl ?_
  exact Zn.iret (by decide +kernel) rfl (⟨by first | rfl | (refine congrArg some (congrArg zi ?_); first | omega | (simp_all; done) | (simp_all; omega)), hh.symm⟩)
theorem sp_X8_point_not {h : xH} {A : Nat → Nat} {m : Nat → Int} {r : Nat → Nat → Int} {x y : Int} {p : Nat} (hL : ∀ q ∈ LM A m r, h q.1 = zcE q.2) (hD : zND (LM A m r)) (hx : x = (p : Int) - 6) (hp : p < 13) (hyr : -99 ≤ y ∧ y ≤ 99) (hk : kOK (r 1)) (h1 : 0 < r 1 (p + 18)) (h2 : r 1 (p + 5) = y) : zEv k_X8_point [za (A 0), zi x, zi y] h (fun v h2 => v = some (zi (-2)) ∧ h2 = h) := by
  have hh : h = zov (LM A m r) h := zov_self hL
  have hki := hk p hp
  refine zEv.body (I := (8, xI_X8_point, 3, 2, 46, 0, 0, false)) (rt := (some .int)) [some (za (A 0)), some (zi x), some (zi y)] rfl rfl rfl rfl ?_
  refine Zn.eq rfl rfl rfl hh ?_
  have hD : zND (LM A m r) := hD
  refine Zn.seg (pc2 := 1) (ls2 := [some (za (A 0)), some (zi x), some (zi y)]) (st2 := [zi x]) [(0, .iload_n 1)] (by decide +kernel) rfl ?_
  refine Zn.i2l (by decide +kernel) ⟨by omega, by omega⟩ ?_
  refine Zn.call (ins := .invokestatic 94) [zj x] [] (by decide +kernel) rfl rfl rfl ⟨rfl, rfl⟩ ⟨rfl, rfl, rfl⟩ rfl (zrecvS (by decide)) (sp_X8_isX (x := x) (⟨by omega, by omega⟩)) (fun v h2 hp => ?_)
  obtain ⟨rfl, hq_1⟩ := hp
  refine Zn.eq (pc2 := 5) (ls2 := [some (za (A 0)), some (zi x), some (zi y)]) (st2 := [zi (inB (-6) 6 x)]) (h2 := zov (LM A m r) h) rfl rfl rfl hq_1 ?_
  have hD : zND (LM A m r) := hD
  have q_2 := inB_spec (-6) 6 x
  refine Zn.ifc (c := .eq) (off := 17) 22 (by decide +kernel) rfl ⟨by omega, by omega⟩ (fun c_3 => absurd (show inB (-6) 6 x = 0 from c_3) (by omega)) (fun c_3 => ?_)
  have c_3 : ¬ (inB (-6) 6 x = 0) := c_3
  refine Zn.seg (pc2 := 9) (ls2 := [some (za (A 0)), some (zi x), some (zi y)]) (st2 := [zi y]) [(8, .iload_n 2)] (by decide +kernel) rfl ?_
  refine Zn.i2l (by decide +kernel) ⟨by omega, by omega⟩ ?_
  refine Zn.seg (pc2 := 16) (ls2 := [some (za (A 0)), some (zi x), some (zi y)]) (st2 := [zj 99, zj (-99), zj y]) [(10, .ldc2_w 98), (13, .ldc2_w 100)] (by decide +kernel) rfl ?_
  refine Zn.call (ins := .invokestatic 77) [zj y, zj (-99), zj 99] [] (by decide +kernel) rfl rfl rfl ⟨rfl, rfl⟩ ⟨rfl, rfl, rfl⟩ rfl (zrecvS (by decide)) (sp_X8_in (x := y) (lo := (-99)) (hi := 99) (⟨by omega, by omega⟩) (⟨by decide, by decide⟩) (⟨by decide, by decide⟩)) (fun v h2 hp => ?_)
  obtain ⟨rfl, hq_4⟩ := hp
  refine Zn.eq (pc2 := 19) (ls2 := [some (za (A 0)), some (zi x), some (zi y)]) (st2 := [zi (inB (-99) 99 y)]) (h2 := zov (LM A m r) h) rfl rfl rfl hq_4 ?_
  have hD : zND (LM A m r) := hD
  have q_5 := inB_spec (-99) 99 y
  refine Zn.ifc (c := .ne) (off := 5) 24 (by decide +kernel) rfl ⟨by omega, by omega⟩ (fun c_6 => ?_) (fun c_6 => absurd (show inB (-99) 99 y ≠ 0 from by omega) c_6)
  have c_6 : inB (-99) 99 y ≠ 0 := c_6
  refine Zn.seg (pc2 := 26) (ls2 := [some (za (A 0)), some (zi x), some (zi y)]) (st2 := [zi x, za (A 0)]) [(24, .aload_n 0), (25, .iload_n 1)] (by decide +kernel) rfl ?_
  refine Zn.call (ins := .invokevirtual 81) [za (A 0), zi x] [] (by decide +kernel) rfl rfl rfl ⟨rfl, rfl⟩ ⟨rfl, rfl, rfl⟩ rfl (zrecvV hD (p := 0) rfl rfl rfl) (sp_X8_kind (A := A) (m := m) (r := r) (x := x) (p := p) (zov_all hD) hD (by first | assumption | omega) (by first | assumption | omega)) (fun v h2 hp => ?_)
  obtain ⟨rfl, hq_7⟩ := hp
  refine Zn.eq (pc2 := 29) (ls2 := [some (za (A 0)), some (zi x), some (zi y)]) (st2 := [zi (r 1 (p + 18))]) (h2 := zov (LM A m r) h) rfl rfl rfl hq_7 ?_
  have hD : zND (LM A m r) := hD
  refine Zn.ifc (c := .le) (off := 15) 44 (by decide +kernel) rfl ⟨by omega, by omega⟩ (fun c_8 => absurd (show r 1 (p + 18) ≤ 0 from c_8) (by omega)) (fun c_8 => ?_)
  have c_8 : ¬ (r 1 (p + 18) ≤ 0) := c_8
  refine Zn.seg (pc2 := 34) (ls2 := [some (za (A 0)), some (zi x), some (zi y)]) (st2 := [zi x, za (A 0)]) [(32, .aload_n 0), (33, .iload_n 1)] (by decide +kernel) rfl ?_
  refine Zn.call (ins := .invokevirtual 102) [za (A 0), zi x] [] (by decide +kernel) rfl rfl rfl ⟨rfl, rfl⟩ ⟨rfl, rfl, rfl⟩ rfl (zrecvV hD (p := 0) rfl rfl rfl) (sp_X8_y (A := A) (m := m) (r := r) (x := x) (p := p) (zov_all hD) hD (by first | assumption | omega) (by first | assumption | omega)) (fun v h2 hp => ?_)
  obtain ⟨rfl, hq_9⟩ := hp
  refine Zn.eq (pc2 := 37) (ls2 := [some (za (A 0)), some (zi x), some (zi y)]) (st2 := [zi (r 1 (p + 5))]) (h2 := zov (LM A m r) h) rfl rfl rfl hq_9 ?_
  have hD : zND (LM A m r) := hD
  refine Zn.seg (pc2 := 38) (ls2 := [some (za (A 0)), some (zi x), some (zi y)]) (st2 := [zi y, zi (r 1 (p + 5))]) [(37, .iload_n 2)] (by decide +kernel) rfl ?_
  refine Zn.icmp (c := .ne) (off := 6) 44 (by decide +kernel) rfl ⟨by omega, by omega⟩ ⟨by omega, by omega⟩ (fun c_10 => absurd (show r 1 (p + 5) ≠ y from c_10) (by omega)) (fun c_10 => ?_)
  have c_10 : ¬ (r 1 (p + 5) ≠ y) := c_10
  refine Zn.seg (pc2 := 43) (ls2 := [some (za (A 0)), some (zi x), some (zi y)]) (st2 := [zi (-2)]) [(41, .bipush (-2))] (by decide +kernel) rfl ?_
  exact Zn.iret (by decide +kernel) rfl (⟨by first | rfl | (refine congrArg some (congrArg zi ?_); first | omega | (simp_all; done) | (simp_all; omega)), hh.symm⟩)
theorem sp_X8_point_full {h : xH} {A : Nat → Nat} {m : Nat → Int} {r : Nat → Nat → Int} {x y : Int} {p : Nat} (hL : ∀ q ∈ LM A m r, h q.1 = zcE q.2) (hD : zND (LM A m r)) (hx : x = (p : Int) - 6) (hp : p < 13) (hyr : -99 ≤ y ∧ y ≤ 99) (hk : kOK (r 1)) (h1 : r 1 (p + 18) = 0) (h2 : manyN (r 1) 0 13 = 8) : zEv k_X8_point [za (A 0), zi x, zi y] h (fun v h2 => v = some (zi (-3)) ∧ h2 = h) := by
  have hh : h = zov (LM A m r) h := zov_self hL
  have hki := hk p hp
  refine zEv.body (I := (8, xI_X8_point, 3, 2, 46, 0, 0, false)) (rt := (some .int)) [some (za (A 0)), some (zi x), some (zi y)] rfl rfl rfl rfl ?_
  refine Zn.eq rfl rfl rfl hh ?_
  have hD : zND (LM A m r) := hD
  refine Zn.seg (pc2 := 1) (ls2 := [some (za (A 0)), some (zi x), some (zi y)]) (st2 := [zi x]) [(0, .iload_n 1)] (by decide +kernel) rfl ?_
  refine Zn.i2l (by decide +kernel) ⟨by omega, by omega⟩ ?_
  refine Zn.call (ins := .invokestatic 94) [zj x] [] (by decide +kernel) rfl rfl rfl ⟨rfl, rfl⟩ ⟨rfl, rfl, rfl⟩ rfl (zrecvS (by decide)) (sp_X8_isX (x := x) (⟨by omega, by omega⟩)) (fun v h2 hp => ?_)
  obtain ⟨rfl, hq_1⟩ := hp
  refine Zn.eq (pc2 := 5) (ls2 := [some (za (A 0)), some (zi x), some (zi y)]) (st2 := [zi (inB (-6) 6 x)]) (h2 := zov (LM A m r) h) rfl rfl rfl hq_1 ?_
  have hD : zND (LM A m r) := hD
  have q_2 := inB_spec (-6) 6 x
  refine Zn.ifc (c := .eq) (off := 17) 22 (by decide +kernel) rfl ⟨by omega, by omega⟩ (fun c_3 => absurd (show inB (-6) 6 x = 0 from c_3) (by omega)) (fun c_3 => ?_)
  have c_3 : ¬ (inB (-6) 6 x = 0) := c_3
  refine Zn.seg (pc2 := 9) (ls2 := [some (za (A 0)), some (zi x), some (zi y)]) (st2 := [zi y]) [(8, .iload_n 2)] (by decide +kernel) rfl ?_
  refine Zn.i2l (by decide +kernel) ⟨by omega, by omega⟩ ?_
  refine Zn.seg (pc2 := 16) (ls2 := [some (za (A 0)), some (zi x), some (zi y)]) (st2 := [zj 99, zj (-99), zj y]) [(10, .ldc2_w 98), (13, .ldc2_w 100)] (by decide +kernel) rfl ?_
  refine Zn.call (ins := .invokestatic 77) [zj y, zj (-99), zj 99] [] (by decide +kernel) rfl rfl rfl ⟨rfl, rfl⟩ ⟨rfl, rfl, rfl⟩ rfl (zrecvS (by decide)) (sp_X8_in (x := y) (lo := (-99)) (hi := 99) (⟨by omega, by omega⟩) (⟨by decide, by decide⟩) (⟨by decide, by decide⟩)) (fun v h2 hp => ?_)
  obtain ⟨rfl, hq_4⟩ := hp
  refine Zn.eq (pc2 := 19) (ls2 := [some (za (A 0)), some (zi x), some (zi y)]) (st2 := [zi (inB (-99) 99 y)]) (h2 := zov (LM A m r) h) rfl rfl rfl hq_4 ?_
  have hD : zND (LM A m r) := hD
  have q_5 := inB_spec (-99) 99 y
  refine Zn.ifc (c := .ne) (off := 5) 24 (by decide +kernel) rfl ⟨by omega, by omega⟩ (fun c_6 => ?_) (fun c_6 => absurd (show inB (-99) 99 y ≠ 0 from by omega) c_6)
  have c_6 : inB (-99) 99 y ≠ 0 := c_6
  refine Zn.seg (pc2 := 26) (ls2 := [some (za (A 0)), some (zi x), some (zi y)]) (st2 := [zi x, za (A 0)]) [(24, .aload_n 0), (25, .iload_n 1)] (by decide +kernel) rfl ?_
  refine Zn.call (ins := .invokevirtual 81) [za (A 0), zi x] [] (by decide +kernel) rfl rfl rfl ⟨rfl, rfl⟩ ⟨rfl, rfl, rfl⟩ rfl (zrecvV hD (p := 0) rfl rfl rfl) (sp_X8_kind (A := A) (m := m) (r := r) (x := x) (p := p) (zov_all hD) hD (by first | assumption | omega) (by first | assumption | omega)) (fun v h2 hp => ?_)
  obtain ⟨rfl, hq_7⟩ := hp
  refine Zn.eq (pc2 := 29) (ls2 := [some (za (A 0)), some (zi x), some (zi y)]) (st2 := [zi (r 1 (p + 18))]) (h2 := zov (LM A m r) h) rfl rfl rfl hq_7 ?_
  have hD : zND (LM A m r) := hD
  refine Zn.ifc (c := .le) (off := 15) 44 (by decide +kernel) rfl ⟨by omega, by omega⟩ (fun c_8 => ?_) (fun c_8 => absurd (show r 1 (p + 18) ≤ 0 from by omega) c_8)
  have c_8 : r 1 (p + 18) ≤ 0 := c_8
  refine Zn.seg (pc2 := 46) (ls2 := [some (za (A 0)), some (zi x), some (zi y)]) (st2 := [zi x, za (A 0)]) [(44, .aload_n 0), (45, .iload_n 1)] (by decide +kernel) rfl ?_
  refine Zn.call (ins := .invokevirtual 81) [za (A 0), zi x] [] (by decide +kernel) rfl rfl rfl ⟨rfl, rfl⟩ ⟨rfl, rfl, rfl⟩ rfl (zrecvV hD (p := 0) rfl rfl rfl) (sp_X8_kind (A := A) (m := m) (r := r) (x := x) (p := p) (zov_all hD) hD (by first | assumption | omega) (by first | assumption | omega)) (fun v h2 hp => ?_)
  obtain ⟨rfl, hq_9⟩ := hp
  refine Zn.eq (pc2 := 49) (ls2 := [some (za (A 0)), some (zi x), some (zi y)]) (st2 := [zi (r 1 (p + 18))]) (h2 := zov (LM A m r) h) rfl rfl rfl hq_9 ?_
  have hD : zND (LM A m r) := hD
  refine Zn.ifc (c := .ne) (off := 16) 65 (by decide +kernel) rfl ⟨by omega, by omega⟩ (fun c_10 => absurd (show r 1 (p + 18) ≠ 0 from c_10) (by omega)) (fun c_10 => ?_)
  have c_10 : ¬ (r 1 (p + 18) ≠ 0) := c_10
  refine Zn.seg (pc2 := 54) (ls2 := [some (za (A 0)), some (zi x), some (zi y)]) (st2 := [zi 0, za (A 0)]) [(52, .aload_n 0), (53, .iconst 0)] (by decide +kernel) rfl ?_
  refine Zn.call (ins := .invokevirtual 88) [za (A 0), zi 0] [] (by decide +kernel) rfl rfl rfl ⟨rfl, rfl⟩ ⟨rfl, rfl, rfl⟩ rfl (zrecvV hD (p := 0) rfl rfl rfl) (sp_X8_many (A := A) (m := m) (r := r) (k := 0) (zov_all hD) hD (hk) (⟨by decide, by decide⟩)) (fun v h2 hp => ?_)
  obtain ⟨rfl, hq_11⟩ := hp
  refine Zn.eq (pc2 := 57) (ls2 := [some (za (A 0)), some (zi x), some (zi y)]) (st2 := [zi (manyN (r 1) 0 13 : Int)]) (h2 := zov (LM A m r) h) rfl rfl rfl hq_11 ?_
  have hD : zND (LM A m r) := hD
  have q_12 := manyN_le (r 1) 0 13
  refine Zn.seg (pc2 := 59) (ls2 := [some (za (A 0)), some (zi x), some (zi y)]) (st2 := [zi 8, zi (manyN (r 1) 0 13 : Int)]) [(57, .bipush 8)] (by decide +kernel) rfl ?_
  refine Zn.icmp (c := .ne) (off := 6) 65 (by decide +kernel) rfl ⟨by omega, by omega⟩ ⟨by decide, by decide⟩ (fun c_13 => absurd (show (manyN (r 1) 0 13 : Int) ≠ 8 from c_13) (by omega)) (fun c_13 => ?_)
  have c_13 : ¬ ((manyN (r 1) 0 13 : Int) ≠ 8) := c_13
  refine Zn.seg (pc2 := 64) (ls2 := [some (za (A 0)), some (zi x), some (zi y)]) (st2 := [zi (-3)]) [(62, .bipush (-3))] (by decide +kernel) rfl ?_
  exact Zn.iret (by decide +kernel) rfl (⟨by first | rfl | (refine congrArg some (congrArg zi ?_); first | omega | (simp_all; done) | (simp_all; omega)), hh.symm⟩)
theorem sp_X8_point_new {h : xH} {A : Nat → Nat} {m : Nat → Int} {r : Nat → Nat → Int} {x y : Int} {p u : Nat} (hL : ∀ q ∈ LM A m r, h q.1 = zcE q.2) (hD : zND (LM A m r)) (hx : x = (p : Int) - 6) (hp : p < 13) (hyr : -99 ≤ y ∧ y ≤ 99) (hk : kOK (r 1)) (hu : m 1 = (u : Int)) (hu6 : u ≤ 6) (h1 : r 1 (p + 18) = 0) (h2 : manyN (r 1) 0 13 ≠ 8) : zEv k_X8_point [za (A 0), zi x, zi y] h (fun v h2 => v = some (zi (manyN (va_up (va_up (ntR (r 1) u) (p + 5) y) (p + 18) 1) 0 13 : Int)) ∧ h2 = zov (LM A (va_up m 1 (ntU u : Int)) (va_up r 1 (va_up (va_up (ntR (r 1) u) (p + 5) y) (p + 18) 1))) h) := by
  have hh : h = zov (LM A m r) h := zov_self hL
  have hki := hk p hp
  refine zEv.body (I := (8, xI_X8_point, 3, 2, 46, 0, 0, false)) (rt := (some .int)) [some (za (A 0)), some (zi x), some (zi y)] rfl rfl rfl rfl ?_
  refine Zn.eq rfl rfl rfl hh ?_
  have hD : zND (LM A m r) := hD
  refine Zn.seg (pc2 := 1) (ls2 := [some (za (A 0)), some (zi x), some (zi y)]) (st2 := [zi x]) [(0, .iload_n 1)] (by decide +kernel) rfl ?_
  refine Zn.i2l (by decide +kernel) ⟨by omega, by omega⟩ ?_
  refine Zn.call (ins := .invokestatic 94) [zj x] [] (by decide +kernel) rfl rfl rfl ⟨rfl, rfl⟩ ⟨rfl, rfl, rfl⟩ rfl (zrecvS (by decide)) (sp_X8_isX (x := x) (⟨by omega, by omega⟩)) (fun v h2 hp => ?_)
  obtain ⟨rfl, hq_1⟩ := hp
  refine Zn.eq (pc2 := 5) (ls2 := [some (za (A 0)), some (zi x), some (zi y)]) (st2 := [zi (inB (-6) 6 x)]) (h2 := zov (LM A m r) h) rfl rfl rfl hq_1 ?_
  have hD : zND (LM A m r) := hD
  have q_2 := inB_spec (-6) 6 x
  refine Zn.ifc (c := .eq) (off := 17) 22 (by decide +kernel) rfl ⟨by omega, by omega⟩ (fun c_3 => absurd (show inB (-6) 6 x = 0 from c_3) (by omega)) (fun c_3 => ?_)
  have c_3 : ¬ (inB (-6) 6 x = 0) := c_3
  refine Zn.seg (pc2 := 9) (ls2 := [some (za (A 0)), some (zi x), some (zi y)]) (st2 := [zi y]) [(8, .iload_n 2)] (by decide +kernel) rfl ?_
  refine Zn.i2l (by decide +kernel) ⟨by omega, by omega⟩ ?_
  refine Zn.seg (pc2 := 16) (ls2 := [some (za (A 0)), some (zi x), some (zi y)]) (st2 := [zj 99, zj (-99), zj y]) [(10, .ldc2_w 98), (13, .ldc2_w 100)] (by decide +kernel) rfl ?_
  refine Zn.call (ins := .invokestatic 77) [zj y, zj (-99), zj 99] [] (by decide +kernel) rfl rfl rfl ⟨rfl, rfl⟩ ⟨rfl, rfl, rfl⟩ rfl (zrecvS (by decide)) (sp_X8_in (x := y) (lo := (-99)) (hi := 99) (⟨by omega, by omega⟩) (⟨by decide, by decide⟩) (⟨by decide, by decide⟩)) (fun v h2 hp => ?_)
  obtain ⟨rfl, hq_4⟩ := hp
  refine Zn.eq (pc2 := 19) (ls2 := [some (za (A 0)), some (zi x), some (zi y)]) (st2 := [zi (inB (-99) 99 y)]) (h2 := zov (LM A m r) h) rfl rfl rfl hq_4 ?_
  have hD : zND (LM A m r) := hD
  have q_5 := inB_spec (-99) 99 y
  refine Zn.ifc (c := .ne) (off := 5) 24 (by decide +kernel) rfl ⟨by omega, by omega⟩ (fun c_6 => ?_) (fun c_6 => absurd (show inB (-99) 99 y ≠ 0 from by omega) c_6)
  have c_6 : inB (-99) 99 y ≠ 0 := c_6
  refine Zn.seg (pc2 := 26) (ls2 := [some (za (A 0)), some (zi x), some (zi y)]) (st2 := [zi x, za (A 0)]) [(24, .aload_n 0), (25, .iload_n 1)] (by decide +kernel) rfl ?_
  refine Zn.call (ins := .invokevirtual 81) [za (A 0), zi x] [] (by decide +kernel) rfl rfl rfl ⟨rfl, rfl⟩ ⟨rfl, rfl, rfl⟩ rfl (zrecvV hD (p := 0) rfl rfl rfl) (sp_X8_kind (A := A) (m := m) (r := r) (x := x) (p := p) (zov_all hD) hD (by first | assumption | omega) (by first | assumption | omega)) (fun v h2 hp => ?_)
  obtain ⟨rfl, hq_7⟩ := hp
  refine Zn.eq (pc2 := 29) (ls2 := [some (za (A 0)), some (zi x), some (zi y)]) (st2 := [zi (r 1 (p + 18))]) (h2 := zov (LM A m r) h) rfl rfl rfl hq_7 ?_
  have hD : zND (LM A m r) := hD
  refine Zn.ifc (c := .le) (off := 15) 44 (by decide +kernel) rfl ⟨by omega, by omega⟩ (fun c_8 => ?_) (fun c_8 => absurd (show r 1 (p + 18) ≤ 0 from by omega) c_8)
  have c_8 : r 1 (p + 18) ≤ 0 := c_8
  refine Zn.seg (pc2 := 46) (ls2 := [some (za (A 0)), some (zi x), some (zi y)]) (st2 := [zi x, za (A 0)]) [(44, .aload_n 0), (45, .iload_n 1)] (by decide +kernel) rfl ?_
  refine Zn.call (ins := .invokevirtual 81) [za (A 0), zi x] [] (by decide +kernel) rfl rfl rfl ⟨rfl, rfl⟩ ⟨rfl, rfl, rfl⟩ rfl (zrecvV hD (p := 0) rfl rfl rfl) (sp_X8_kind (A := A) (m := m) (r := r) (x := x) (p := p) (zov_all hD) hD (by first | assumption | omega) (by first | assumption | omega)) (fun v h2 hp => ?_)
  obtain ⟨rfl, hq_9⟩ := hp
  refine Zn.eq (pc2 := 49) (ls2 := [some (za (A 0)), some (zi x), some (zi y)]) (st2 := [zi (r 1 (p + 18))]) (h2 := zov (LM A m r) h) rfl rfl rfl hq_9 ?_
  have hD : zND (LM A m r) := hD
  refine Zn.ifc (c := .ne) (off := 16) 65 (by decide +kernel) rfl ⟨by omega, by omega⟩ (fun c_10 => absurd (show r 1 (p + 18) ≠ 0 from c_10) (by omega)) (fun c_10 => ?_)
  have c_10 : ¬ (r 1 (p + 18) ≠ 0) := c_10
  refine Zn.seg (pc2 := 54) (ls2 := [some (za (A 0)), some (zi x), some (zi y)]) (st2 := [zi 0, za (A 0)]) [(52, .aload_n 0), (53, .iconst 0)] (by decide +kernel) rfl ?_
  refine Zn.call (ins := .invokevirtual 88) [za (A 0), zi 0] [] (by decide +kernel) rfl rfl rfl ⟨rfl, rfl⟩ ⟨rfl, rfl, rfl⟩ rfl (zrecvV hD (p := 0) rfl rfl rfl) (sp_X8_many (A := A) (m := m) (r := r) (k := 0) (zov_all hD) hD (hk) (⟨by decide, by decide⟩)) (fun v h2 hp => ?_)
  obtain ⟨rfl, hq_11⟩ := hp
  refine Zn.eq (pc2 := 57) (ls2 := [some (za (A 0)), some (zi x), some (zi y)]) (st2 := [zi (manyN (r 1) 0 13 : Int)]) (h2 := zov (LM A m r) h) rfl rfl rfl hq_11 ?_
  have hD : zND (LM A m r) := hD
  have q_12 := manyN_le (r 1) 0 13
  refine Zn.seg (pc2 := 59) (ls2 := [some (za (A 0)), some (zi x), some (zi y)]) (st2 := [zi 8, zi (manyN (r 1) 0 13 : Int)]) [(57, .bipush 8)] (by decide +kernel) rfl ?_
  refine Zn.icmp (c := .ne) (off := 6) 65 (by decide +kernel) rfl ⟨by omega, by omega⟩ ⟨by decide, by decide⟩ (fun c_13 => ?_) (fun c_13 => absurd (show (manyN (r 1) 0 13 : Int) ≠ 8 from by omega) c_13)
  have c_13 : (manyN (r 1) 0 13 : Int) ≠ 8 := c_13
  refine Zn.seg (pc2 := 66) (ls2 := [some (za (A 0)), some (zi x), some (zi y)]) (st2 := [za (A 0)]) [(65, .aload_n 0)] (by decide +kernel) rfl ?_
  refine Zn.call (ins := .invokevirtual 105) [za (A 0)] [] (by decide +kernel) rfl rfl rfl ⟨rfl, rfl⟩ ⟨rfl, rfl, rfl⟩ rfl (zrecvV hD (p := 0) rfl rfl rfl) (sp_X8_notes (A := A) (m := m) (r := r) (u := u) (zov_all hD) hD (hu) (hu6)) (fun v h2 hp => ?_)
  obtain ⟨rfl, hq_14⟩ := hp
  refine Zn.eq (pc2 := 69) (ls2 := [some (za (A 0)), some (zi x), some (zi y)]) (st2 := []) (h2 := zov (LM A (va_up m 1 (ntU u : Int)) (va_up r 1 (ntR (r 1) u))) h) rfl rfl rfl (hq_14.trans (LM_over _ _ _ _ _ _)) ?_
  have hD : zND (LM A (va_up m 1 (ntU u : Int)) (va_up r 1 (ntR (r 1) u))) := hD
  refine Zn.seg (pc2 := 74) (ls2 := [some (za (A 0)), some (zi x), some (zi y)]) (st2 := [zi x, za (A 0), zi y, zi x, za (A 0)]) [(69, .aload_n 0), (70, .iload_n 1), (71, .iload_n 2), (72, .aload_n 0), (73, .iload_n 1)] (by decide +kernel) rfl ?_
  refine Zn.call (ins := .invokevirtual 81) [za (A 0), zi x] [zi y, zi x, za (A 0)] (by decide +kernel) rfl rfl rfl ⟨rfl, rfl⟩ ⟨rfl, rfl, rfl⟩ rfl (zrecvV hD (p := 0) rfl rfl rfl) (sp_X8_kind (A := A) (m := va_up m 1 (ntU u : Int)) (r := va_up r 1 (ntR (r 1) u)) (x := x) (p := p) (zov_all hD) hD (by first | assumption | omega) (by first | assumption | omega)) (fun v h2 hp => ?_)
  obtain ⟨rfl, hq_15⟩ := hp
  refine Zn.eq (pc2 := 77) (ls2 := [some (za (A 0)), some (zi x), some (zi y)]) (st2 := [zi ((ntR (r 1) u) (p + 18)), zi y, zi x, za (A 0)]) (h2 := zov (LM A (va_up m 1 (ntU u : Int)) (va_up r 1 (ntR (r 1) u))) h) rfl rfl rfl hq_15 ?_
  have hD : zND (LM A (va_up m 1 (ntU u : Int)) (va_up r 1 (ntR (r 1) u))) := hD
  refine Zn.topi (y := r 1 (p + 18)) (ntR_lo (by omega)) ?_
  refine Zn.ifc (c := .ne) (off := 7) 84 (by decide +kernel) rfl ⟨by omega, by omega⟩ (fun c_16 => absurd (show r 1 (p + 18) ≠ 0 from c_16) (by omega)) (fun c_16 => ?_)
  have c_16 : ¬ (r 1 (p + 18) ≠ 0) := c_16
  refine Zn.seg (pc2 := 89) (ls2 := [some (za (A 0)), some (zi x), some (zi y)]) (st2 := [zi 1, zi y, zi x, za (A 0)]) [(80, .iconst 1), (81, .goto 8)] (by decide +kernel) rfl ?_
  refine Zn.call (ins := .invokevirtual 108) [za (A 0), zi x, zi y, zi 1] [] (by decide +kernel) rfl rfl rfl ⟨rfl, rfl⟩ ⟨rfl, rfl, rfl⟩ rfl (zrecvV hD (p := 0) rfl rfl rfl) (sp_X8_sets (A := A) (m := va_up m 1 (ntU u : Int)) (r := va_up r 1 (ntR (r 1) u)) (x := x) (y := y) (k := 1) (p := p) (zov_all hD) hD (by first | assumption | omega) (by first | assumption | omega)) (fun v h2 hp => ?_)
  obtain ⟨rfl, hq_17⟩ := hp
  refine Zn.eq (pc2 := 92) (ls2 := [some (za (A 0)), some (zi x), some (zi y)]) (st2 := []) (h2 := zov (LM A (va_up m 1 (ntU u : Int)) (va_up r 1 (va_up (va_up ((ntR (r 1) u)) (p + 5) y) (p + 18) 1))) h) rfl rfl rfl (hq_17.trans ((LM_over _ _ _ _ _ _).trans rfl)) ?_
  have hD : zND (LM A (va_up m 1 (ntU u : Int)) (va_up r 1 (va_up (va_up ((ntR (r 1) u)) (p + 5) y) (p + 18) 1))) := hD
  refine Zn.seg (pc2 := 94) (ls2 := [some (za (A 0)), some (zi x), some (zi y)]) (st2 := [zi 0, za (A 0)]) [(92, .aload_n 0), (93, .iconst 0)] (by decide +kernel) rfl ?_
  refine Zn.call (ins := .invokevirtual 88) [za (A 0), zi 0] [] (by decide +kernel) rfl rfl rfl ⟨rfl, rfl⟩ ⟨rfl, rfl, rfl⟩ rfl (zrecvV hD (p := 0) rfl rfl rfl) (sp_X8_many (A := A) (m := va_up m 1 (ntU u : Int)) (r := va_up r 1 (va_up (va_up ((ntR (r 1) u)) (p + 5) y) (p + 18) 1)) (k := 0) (zov_all hD) hD (kOK_up (kOK_y (kOK_nt hk) hp) (by decide) (by decide)) (⟨by decide, by decide⟩)) (fun v h2 hp => ?_)
  obtain ⟨rfl, hq_18⟩ := hp
  refine Zn.eq (pc2 := 97) (ls2 := [some (za (A 0)), some (zi x), some (zi y)]) (st2 := [zi (manyN ((va_up (va_up ((ntR (r 1) u)) (p + 5) y) (p + 18) 1)) 0 13 : Int)]) (h2 := zov (LM A (va_up m 1 (ntU u : Int)) (va_up r 1 (va_up (va_up ((ntR (r 1) u)) (p + 5) y) (p + 18) 1))) h) rfl rfl rfl hq_18 ?_
  have hD : zND (LM A (va_up m 1 (ntU u : Int)) (va_up r 1 (va_up (va_up ((ntR (r 1) u)) (p + 5) y) (p + 18) 1))) := hD
  have q_19 := manyN_le ((va_up (va_up ((ntR (r 1) u)) (p + 5) y) (p + 18) 1)) 0 13
  exact Zn.iret (by decide +kernel) rfl (⟨by first | rfl | (refine congrArg some (congrArg zi ?_); first | omega | (simp_all; done) | (simp_all; omega)), rfl⟩)
theorem sp_X8_point_chg {h : xH} {A : Nat → Nat} {m : Nat → Int} {r : Nat → Nat → Int} {x y : Int} {p u : Nat} (hL : ∀ q ∈ LM A m r, h q.1 = zcE q.2) (hD : zND (LM A m r)) (hx : x = (p : Int) - 6) (hp : p < 13) (hyr : -99 ≤ y ∧ y ≤ 99) (hk : kOK (r 1)) (hu : m 1 = (u : Int)) (hu6 : u ≤ 6) (h1 : 0 < r 1 (p + 18)) (h2 : r 1 (p + 5) ≠ y) (h3 : -99 ≤ r 1 (p + 5) ∧ r 1 (p + 5) ≤ 99) : zEv k_X8_point [za (A 0), zi x, zi y] h (fun v h2 => v = some (zi (manyN (va_up (va_up (ntR (r 1) u) (p + 5) y) (p + 18) (r 1 (p + 18))) 0 13 : Int)) ∧ h2 = zov (LM A (va_up m 1 (ntU u : Int)) (va_up r 1 (va_up (va_up (ntR (r 1) u) (p + 5) y) (p + 18) (r 1 (p + 18))))) h) := by
  have hh : h = zov (LM A m r) h := zov_self hL
  have hki := hk p hp
  refine zEv.body (I := (8, xI_X8_point, 3, 2, 46, 0, 0, false)) (rt := (some .int)) [some (za (A 0)), some (zi x), some (zi y)] rfl rfl rfl rfl ?_
  refine Zn.eq rfl rfl rfl hh ?_
  have hD : zND (LM A m r) := hD
  refine Zn.seg (pc2 := 1) (ls2 := [some (za (A 0)), some (zi x), some (zi y)]) (st2 := [zi x]) [(0, .iload_n 1)] (by decide +kernel) rfl ?_
  refine Zn.i2l (by decide +kernel) ⟨by omega, by omega⟩ ?_
  refine Zn.call (ins := .invokestatic 94) [zj x] [] (by decide +kernel) rfl rfl rfl ⟨rfl, rfl⟩ ⟨rfl, rfl, rfl⟩ rfl (zrecvS (by decide)) (sp_X8_isX (x := x) (⟨by omega, by omega⟩)) (fun v h2 hp => ?_)
  obtain ⟨rfl, hq_1⟩ := hp
  refine Zn.eq (pc2 := 5) (ls2 := [some (za (A 0)), some (zi x), some (zi y)]) (st2 := [zi (inB (-6) 6 x)]) (h2 := zov (LM A m r) h) rfl rfl rfl hq_1 ?_
  have hD : zND (LM A m r) := hD
  have q_2 := inB_spec (-6) 6 x
  refine Zn.ifc (c := .eq) (off := 17) 22 (by decide +kernel) rfl ⟨by omega, by omega⟩ (fun c_3 => absurd (show inB (-6) 6 x = 0 from c_3) (by omega)) (fun c_3 => ?_)
  have c_3 : ¬ (inB (-6) 6 x = 0) := c_3
  refine Zn.seg (pc2 := 9) (ls2 := [some (za (A 0)), some (zi x), some (zi y)]) (st2 := [zi y]) [(8, .iload_n 2)] (by decide +kernel) rfl ?_
  refine Zn.i2l (by decide +kernel) ⟨by omega, by omega⟩ ?_
  refine Zn.seg (pc2 := 16) (ls2 := [some (za (A 0)), some (zi x), some (zi y)]) (st2 := [zj 99, zj (-99), zj y]) [(10, .ldc2_w 98), (13, .ldc2_w 100)] (by decide +kernel) rfl ?_
  refine Zn.call (ins := .invokestatic 77) [zj y, zj (-99), zj 99] [] (by decide +kernel) rfl rfl rfl ⟨rfl, rfl⟩ ⟨rfl, rfl, rfl⟩ rfl (zrecvS (by decide)) (sp_X8_in (x := y) (lo := (-99)) (hi := 99) (⟨by omega, by omega⟩) (⟨by decide, by decide⟩) (⟨by decide, by decide⟩)) (fun v h2 hp => ?_)
  obtain ⟨rfl, hq_4⟩ := hp
  refine Zn.eq (pc2 := 19) (ls2 := [some (za (A 0)), some (zi x), some (zi y)]) (st2 := [zi (inB (-99) 99 y)]) (h2 := zov (LM A m r) h) rfl rfl rfl hq_4 ?_
  have hD : zND (LM A m r) := hD
  have q_5 := inB_spec (-99) 99 y
  refine Zn.ifc (c := .ne) (off := 5) 24 (by decide +kernel) rfl ⟨by omega, by omega⟩ (fun c_6 => ?_) (fun c_6 => absurd (show inB (-99) 99 y ≠ 0 from by omega) c_6)
  have c_6 : inB (-99) 99 y ≠ 0 := c_6
  refine Zn.seg (pc2 := 26) (ls2 := [some (za (A 0)), some (zi x), some (zi y)]) (st2 := [zi x, za (A 0)]) [(24, .aload_n 0), (25, .iload_n 1)] (by decide +kernel) rfl ?_
  refine Zn.call (ins := .invokevirtual 81) [za (A 0), zi x] [] (by decide +kernel) rfl rfl rfl ⟨rfl, rfl⟩ ⟨rfl, rfl, rfl⟩ rfl (zrecvV hD (p := 0) rfl rfl rfl) (sp_X8_kind (A := A) (m := m) (r := r) (x := x) (p := p) (zov_all hD) hD (by first | assumption | omega) (by first | assumption | omega)) (fun v h2 hp => ?_)
  obtain ⟨rfl, hq_7⟩ := hp
  refine Zn.eq (pc2 := 29) (ls2 := [some (za (A 0)), some (zi x), some (zi y)]) (st2 := [zi (r 1 (p + 18))]) (h2 := zov (LM A m r) h) rfl rfl rfl hq_7 ?_
  have hD : zND (LM A m r) := hD
  refine Zn.ifc (c := .le) (off := 15) 44 (by decide +kernel) rfl ⟨by omega, by omega⟩ (fun c_8 => absurd (show r 1 (p + 18) ≤ 0 from c_8) (by omega)) (fun c_8 => ?_)
  have c_8 : ¬ (r 1 (p + 18) ≤ 0) := c_8
  refine Zn.seg (pc2 := 34) (ls2 := [some (za (A 0)), some (zi x), some (zi y)]) (st2 := [zi x, za (A 0)]) [(32, .aload_n 0), (33, .iload_n 1)] (by decide +kernel) rfl ?_
  refine Zn.call (ins := .invokevirtual 102) [za (A 0), zi x] [] (by decide +kernel) rfl rfl rfl ⟨rfl, rfl⟩ ⟨rfl, rfl, rfl⟩ rfl (zrecvV hD (p := 0) rfl rfl rfl) (sp_X8_y (A := A) (m := m) (r := r) (x := x) (p := p) (zov_all hD) hD (by first | assumption | omega) (by first | assumption | omega)) (fun v h2 hp => ?_)
  obtain ⟨rfl, hq_9⟩ := hp
  refine Zn.eq (pc2 := 37) (ls2 := [some (za (A 0)), some (zi x), some (zi y)]) (st2 := [zi (r 1 (p + 5))]) (h2 := zov (LM A m r) h) rfl rfl rfl hq_9 ?_
  have hD : zND (LM A m r) := hD
  refine Zn.seg (pc2 := 38) (ls2 := [some (za (A 0)), some (zi x), some (zi y)]) (st2 := [zi y, zi (r 1 (p + 5))]) [(37, .iload_n 2)] (by decide +kernel) rfl ?_
  refine Zn.icmp (c := .ne) (off := 6) 44 (by decide +kernel) rfl ⟨by omega, by omega⟩ ⟨by omega, by omega⟩ (fun c_10 => ?_) (fun c_10 => absurd (show r 1 (p + 5) ≠ y from by omega) c_10)
  have c_10 : r 1 (p + 5) ≠ y := c_10
  refine Zn.seg (pc2 := 46) (ls2 := [some (za (A 0)), some (zi x), some (zi y)]) (st2 := [zi x, za (A 0)]) [(44, .aload_n 0), (45, .iload_n 1)] (by decide +kernel) rfl ?_
  refine Zn.call (ins := .invokevirtual 81) [za (A 0), zi x] [] (by decide +kernel) rfl rfl rfl ⟨rfl, rfl⟩ ⟨rfl, rfl, rfl⟩ rfl (zrecvV hD (p := 0) rfl rfl rfl) (sp_X8_kind (A := A) (m := m) (r := r) (x := x) (p := p) (zov_all hD) hD (by first | assumption | omega) (by first | assumption | omega)) (fun v h2 hp => ?_)
  obtain ⟨rfl, hq_11⟩ := hp
  refine Zn.eq (pc2 := 49) (ls2 := [some (za (A 0)), some (zi x), some (zi y)]) (st2 := [zi (r 1 (p + 18))]) (h2 := zov (LM A m r) h) rfl rfl rfl hq_11 ?_
  have hD : zND (LM A m r) := hD
  refine Zn.ifc (c := .ne) (off := 16) 65 (by decide +kernel) rfl ⟨by omega, by omega⟩ (fun c_12 => ?_) (fun c_12 => absurd (show r 1 (p + 18) ≠ 0 from by omega) c_12)
  have c_12 : r 1 (p + 18) ≠ 0 := c_12
  refine Zn.seg (pc2 := 66) (ls2 := [some (za (A 0)), some (zi x), some (zi y)]) (st2 := [za (A 0)]) [(65, .aload_n 0)] (by decide +kernel) rfl ?_
  refine Zn.call (ins := .invokevirtual 105) [za (A 0)] [] (by decide +kernel) rfl rfl rfl ⟨rfl, rfl⟩ ⟨rfl, rfl, rfl⟩ rfl (zrecvV hD (p := 0) rfl rfl rfl) (sp_X8_notes (A := A) (m := m) (r := r) (u := u) (zov_all hD) hD (hu) (hu6)) (fun v h2 hp => ?_)
  obtain ⟨rfl, hq_13⟩ := hp
  refine Zn.eq (pc2 := 69) (ls2 := [some (za (A 0)), some (zi x), some (zi y)]) (st2 := []) (h2 := zov (LM A (va_up m 1 (ntU u : Int)) (va_up r 1 (ntR (r 1) u))) h) rfl rfl rfl (hq_13.trans (LM_over _ _ _ _ _ _)) ?_
  have hD : zND (LM A (va_up m 1 (ntU u : Int)) (va_up r 1 (ntR (r 1) u))) := hD
  refine Zn.seg (pc2 := 74) (ls2 := [some (za (A 0)), some (zi x), some (zi y)]) (st2 := [zi x, za (A 0), zi y, zi x, za (A 0)]) [(69, .aload_n 0), (70, .iload_n 1), (71, .iload_n 2), (72, .aload_n 0), (73, .iload_n 1)] (by decide +kernel) rfl ?_
  refine Zn.call (ins := .invokevirtual 81) [za (A 0), zi x] [zi y, zi x, za (A 0)] (by decide +kernel) rfl rfl rfl ⟨rfl, rfl⟩ ⟨rfl, rfl, rfl⟩ rfl (zrecvV hD (p := 0) rfl rfl rfl) (sp_X8_kind (A := A) (m := va_up m 1 (ntU u : Int)) (r := va_up r 1 (ntR (r 1) u)) (x := x) (p := p) (zov_all hD) hD (by first | assumption | omega) (by first | assumption | omega)) (fun v h2 hp => ?_)
  obtain ⟨rfl, hq_14⟩ := hp
  refine Zn.eq (pc2 := 77) (ls2 := [some (za (A 0)), some (zi x), some (zi y)]) (st2 := [zi ((ntR (r 1) u) (p + 18)), zi y, zi x, za (A 0)]) (h2 := zov (LM A (va_up m 1 (ntU u : Int)) (va_up r 1 (ntR (r 1) u))) h) rfl rfl rfl hq_14 ?_
  have hD : zND (LM A (va_up m 1 (ntU u : Int)) (va_up r 1 (ntR (r 1) u))) := hD
  refine Zn.topi (y := r 1 (p + 18)) (ntR_lo (by omega)) ?_
  refine Zn.ifc (c := .ne) (off := 7) 84 (by decide +kernel) rfl ⟨by omega, by omega⟩ (fun c_15 => ?_) (fun c_15 => absurd (show r 1 (p + 18) ≠ 0 from by omega) c_15)
  have c_15 : r 1 (p + 18) ≠ 0 := c_15
  refine Zn.seg (pc2 := 86) (ls2 := [some (za (A 0)), some (zi x), some (zi y)]) (st2 := [zi x, za (A 0), zi y, zi x, za (A 0)]) [(84, .aload_n 0), (85, .iload_n 1)] (by decide +kernel) rfl ?_
  refine Zn.call (ins := .invokevirtual 81) [za (A 0), zi x] [zi y, zi x, za (A 0)] (by decide +kernel) rfl rfl rfl ⟨rfl, rfl⟩ ⟨rfl, rfl, rfl⟩ rfl (zrecvV hD (p := 0) rfl rfl rfl) (sp_X8_kind (A := A) (m := va_up m 1 (ntU u : Int)) (r := va_up r 1 (ntR (r 1) u)) (x := x) (p := p) (zov_all hD) hD (by first | assumption | omega) (by first | assumption | omega)) (fun v h2 hp => ?_)
  obtain ⟨rfl, hq_16⟩ := hp
  refine Zn.eq (pc2 := 89) (ls2 := [some (za (A 0)), some (zi x), some (zi y)]) (st2 := [zi ((ntR (r 1) u) (p + 18)), zi y, zi x, za (A 0)]) (h2 := zov (LM A (va_up m 1 (ntU u : Int)) (va_up r 1 (ntR (r 1) u))) h) rfl rfl rfl hq_16 ?_
  have hD : zND (LM A (va_up m 1 (ntU u : Int)) (va_up r 1 (ntR (r 1) u))) := hD
  refine Zn.topi (y := r 1 (p + 18)) (ntR_lo (by omega)) ?_
  refine Zn.call (ins := .invokevirtual 108) [za (A 0), zi x, zi y, zi (r 1 (p + 18))] [] (by decide +kernel) rfl rfl rfl ⟨rfl, rfl⟩ ⟨rfl, rfl, rfl⟩ rfl (zrecvV hD (p := 0) rfl rfl rfl) (sp_X8_sets (A := A) (m := va_up m 1 (ntU u : Int)) (r := va_up r 1 (ntR (r 1) u)) (x := x) (y := y) (k := r 1 (p + 18)) (p := p) (zov_all hD) hD (by first | assumption | omega) (by first | assumption | omega)) (fun v h2 hp => ?_)
  obtain ⟨rfl, hq_17⟩ := hp
  refine Zn.eq (pc2 := 92) (ls2 := [some (za (A 0)), some (zi x), some (zi y)]) (st2 := []) (h2 := zov (LM A (va_up m 1 (ntU u : Int)) (va_up r 1 (va_up (va_up ((ntR (r 1) u)) (p + 5) y) (p + 18) (r 1 (p + 18))))) h) rfl rfl rfl (hq_17.trans ((LM_over _ _ _ _ _ _).trans rfl)) ?_
  have hD : zND (LM A (va_up m 1 (ntU u : Int)) (va_up r 1 (va_up (va_up ((ntR (r 1) u)) (p + 5) y) (p + 18) (r 1 (p + 18))))) := hD
  refine Zn.seg (pc2 := 94) (ls2 := [some (za (A 0)), some (zi x), some (zi y)]) (st2 := [zi 0, za (A 0)]) [(92, .aload_n 0), (93, .iconst 0)] (by decide +kernel) rfl ?_
  refine Zn.call (ins := .invokevirtual 88) [za (A 0), zi 0] [] (by decide +kernel) rfl rfl rfl ⟨rfl, rfl⟩ ⟨rfl, rfl, rfl⟩ rfl (zrecvV hD (p := 0) rfl rfl rfl) (sp_X8_many (A := A) (m := va_up m 1 (ntU u : Int)) (r := va_up r 1 (va_up (va_up ((ntR (r 1) u)) (p + 5) y) (p + 18) (r 1 (p + 18)))) (k := 0) (zov_all hD) hD (kOK_up (kOK_y (kOK_nt hk) hp) hki.1 hki.2) (⟨by decide, by decide⟩)) (fun v h2 hp => ?_)
  obtain ⟨rfl, hq_18⟩ := hp
  refine Zn.eq (pc2 := 97) (ls2 := [some (za (A 0)), some (zi x), some (zi y)]) (st2 := [zi (manyN ((va_up (va_up ((ntR (r 1) u)) (p + 5) y) (p + 18) (r 1 (p + 18)))) 0 13 : Int)]) (h2 := zov (LM A (va_up m 1 (ntU u : Int)) (va_up r 1 (va_up (va_up ((ntR (r 1) u)) (p + 5) y) (p + 18) (r 1 (p + 18))))) h) rfl rfl rfl hq_18 ?_
  have hD : zND (LM A (va_up m 1 (ntU u : Int)) (va_up r 1 (va_up (va_up ((ntR (r 1) u)) (p + 5) y) (p + 18) (r 1 (p + 18))))) := hD
  have q_19 := manyN_le ((va_up (va_up ((ntR (r 1) u)) (p + 5) y) (p + 18) (r 1 (p + 18)))) 0 13
  exact Zn.iret (by decide +kernel) rfl (⟨by first | rfl | (refine congrArg some (congrArg zi ?_); first | omega | (simp_all; done) | (simp_all; omega)), rfl⟩)
theorem sp_X8_out_bad {h : xH} {A : Nat → Nat} {m : Nat → Int} {r : Nat → Nat → Int} {x : Int} (hL : ∀ q ∈ LM A m r, h q.1 = zcE q.2) (hD : zND (LM A m r)) (zx : zInI x) (hb : ¬ (-6 ≤ x ∧ x ≤ 6)) : zEv k_X8_out [za (A 0), zi x] h (fun v h2 => v = some (zi (-1)) ∧ h2 = h) := by
  have hh : h = zov (LM A m r) h := zov_self hL
  have zx1 := zx.1
  have zx2 := zx.2
  refine zEv.body (I := (8, xI_X8_out, 2, 2, 46, 0, 0, false)) (rt := (some .int)) [some (za (A 0)), some (zi x)] rfl rfl rfl rfl ?_
  refine Zn.eq rfl rfl rfl hh ?_
  have hD : zND (LM A m r) := hD
  refine Zn.seg (pc2 := 1) (ls2 := [some (za (A 0)), some (zi x)]) (st2 := [zi x]) [(0, .iload_n 1)] (by decide +kernel) rfl ?_
  refine Zn.i2l (by decide +kernel) ⟨by omega, by omega⟩ ?_
  refine Zn.call (ins := .invokestatic 94) [zj x] [] (by decide +kernel) rfl rfl rfl ⟨rfl, rfl⟩ ⟨rfl, rfl, rfl⟩ rfl (zrecvS (by decide)) (sp_X8_isX (x := x) (⟨by omega, by omega⟩)) (fun v h2 hp => ?_)
  obtain ⟨rfl, hq_1⟩ := hp
  refine Zn.eq (pc2 := 5) (ls2 := [some (za (A 0)), some (zi x)]) (st2 := [zi (inB (-6) 6 x)]) (h2 := zov (LM A m r) h) rfl rfl rfl hq_1 ?_
  have hD : zND (LM A m r) := hD
  have q_2 := inB_spec (-6) 6 x
  refine Zn.ifc (c := .ne) (off := 5) 10 (by decide +kernel) rfl ⟨by omega, by omega⟩ (fun c_3 => absurd (show inB (-6) 6 x ≠ 0 from c_3) (by omega)) (fun c_3 => ?_)
  have c_3 : ¬ (inB (-6) 6 x ≠ 0) := c_3
  refine Zn.seg (pc2 := 9) (ls2 := [some (za (A 0)), some (zi x)]) (st2 := [zi (-1)]) [(8, .iconst (-1))] (by decide +kernel) rfl ?_
  exact Zn.iret (by decide +kernel) rfl (⟨by first | rfl | (refine congrArg some (congrArg zi ?_); first | omega | (simp_all; done) | (simp_all; omega)), hh.symm⟩)
theorem sp_X8_out_none {h : xH} {A : Nat → Nat} {m : Nat → Int} {r : Nat → Nat → Int} {x : Int} {p : Nat} (hL : ∀ q ∈ LM A m r, h q.1 = zcE q.2) (hD : zND (LM A m r)) (hx : x = (p : Int) - 6) (hp : p < 13) (hk : kOK (r 1)) (h1 : r 1 (p + 18) = 0) : zEv k_X8_out [za (A 0), zi x] h (fun v h2 => v = some (zi (-4)) ∧ h2 = h) := by
  have hh : h = zov (LM A m r) h := zov_self hL
  have hki := hk p hp
  refine zEv.body (I := (8, xI_X8_out, 2, 2, 46, 0, 0, false)) (rt := (some .int)) [some (za (A 0)), some (zi x)] rfl rfl rfl rfl ?_
  refine Zn.eq rfl rfl rfl hh ?_
  have hD : zND (LM A m r) := hD
  refine Zn.seg (pc2 := 1) (ls2 := [some (za (A 0)), some (zi x)]) (st2 := [zi x]) [(0, .iload_n 1)] (by decide +kernel) rfl ?_
  refine Zn.i2l (by decide +kernel) ⟨by omega, by omega⟩ ?_
  refine Zn.call (ins := .invokestatic 94) [zj x] [] (by decide +kernel) rfl rfl rfl ⟨rfl, rfl⟩ ⟨rfl, rfl, rfl⟩ rfl (zrecvS (by decide)) (sp_X8_isX (x := x) (⟨by omega, by omega⟩)) (fun v h2 hp => ?_)
  obtain ⟨rfl, hq_1⟩ := hp
  refine Zn.eq (pc2 := 5) (ls2 := [some (za (A 0)), some (zi x)]) (st2 := [zi (inB (-6) 6 x)]) (h2 := zov (LM A m r) h) rfl rfl rfl hq_1 ?_
  have hD : zND (LM A m r) := hD
  have q_2 := inB_spec (-6) 6 x
  refine Zn.ifc (c := .ne) (off := 5) 10 (by decide +kernel) rfl ⟨by omega, by omega⟩ (fun c_3 => ?_) (fun c_3 => absurd (show inB (-6) 6 x ≠ 0 from by omega) c_3)
  have c_3 : inB (-6) 6 x ≠ 0 := c_3
  refine Zn.seg (pc2 := 12) (ls2 := [some (za (A 0)), some (zi x)]) (st2 := [zi x, za (A 0)]) [(10, .aload_n 0), (11, .iload_n 1)] (by decide +kernel) rfl ?_
  refine Zn.call (ins := .invokevirtual 81) [za (A 0), zi x] [] (by decide +kernel) rfl rfl rfl ⟨rfl, rfl⟩ ⟨rfl, rfl, rfl⟩ rfl (zrecvV hD (p := 0) rfl rfl rfl) (sp_X8_kind (A := A) (m := m) (r := r) (x := x) (p := p) (zov_all hD) hD (by first | assumption | omega) (by first | assumption | omega)) (fun v h2 hp => ?_)
  obtain ⟨rfl, hq_4⟩ := hp
  refine Zn.eq (pc2 := 15) (ls2 := [some (za (A 0)), some (zi x)]) (st2 := [zi (r 1 (p + 18))]) (h2 := zov (LM A m r) h) rfl rfl rfl hq_4 ?_
  have hD : zND (LM A m r) := hD
  refine Zn.ifc (c := .ne) (off := 6) 21 (by decide +kernel) rfl ⟨by omega, by omega⟩ (fun c_5 => absurd (show r 1 (p + 18) ≠ 0 from c_5) (by omega)) (fun c_5 => ?_)
  have c_5 : ¬ (r 1 (p + 18) ≠ 0) := c_5
  refine Zn.seg (pc2 := 20) (ls2 := [some (za (A 0)), some (zi x)]) (st2 := [zi (-4)]) [(18, .bipush (-4))] (by decide +kernel) rfl ?_
  exact Zn.iret (by decide +kernel) rfl (⟨by first | rfl | (refine congrArg some (congrArg zi ?_); first | omega | (simp_all; done) | (simp_all; omega)), hh.symm⟩)
theorem sp_X8_out_ok {h : xH} {A : Nat → Nat} {m : Nat → Int} {r : Nat → Nat → Int} {x : Int} {p u : Nat} (hL : ∀ q ∈ LM A m r, h q.1 = zcE q.2) (hD : zND (LM A m r)) (hx : x = (p : Int) - 6) (hp : p < 13) (hk : kOK (r 1)) (hu : m 1 = (u : Int)) (hu6 : u ≤ 6) (h1 : r 1 (p + 18) ≠ 0) : zEv k_X8_out [za (A 0), zi x] h (fun v h2 => v = some (zi (manyN (va_up (va_up (ntR (r 1) u) (p + 5) 0) (p + 18) 0) 0 13 : Int)) ∧ h2 = zov (LM A (va_up m 1 (ntU u : Int)) (va_up r 1 (va_up (va_up (ntR (r 1) u) (p + 5) 0) (p + 18) 0))) h) := by
  have hh : h = zov (LM A m r) h := zov_self hL
  have hki := hk p hp
  refine zEv.body (I := (8, xI_X8_out, 2, 2, 46, 0, 0, false)) (rt := (some .int)) [some (za (A 0)), some (zi x)] rfl rfl rfl rfl ?_
  refine Zn.eq rfl rfl rfl hh ?_
  have hD : zND (LM A m r) := hD
  refine Zn.seg (pc2 := 1) (ls2 := [some (za (A 0)), some (zi x)]) (st2 := [zi x]) [(0, .iload_n 1)] (by decide +kernel) rfl ?_
  refine Zn.i2l (by decide +kernel) ⟨by omega, by omega⟩ ?_
  refine Zn.call (ins := .invokestatic 94) [zj x] [] (by decide +kernel) rfl rfl rfl ⟨rfl, rfl⟩ ⟨rfl, rfl, rfl⟩ rfl (zrecvS (by decide)) (sp_X8_isX (x := x) (⟨by omega, by omega⟩)) (fun v h2 hp => ?_)
  obtain ⟨rfl, hq_1⟩ := hp
  refine Zn.eq (pc2 := 5) (ls2 := [some (za (A 0)), some (zi x)]) (st2 := [zi (inB (-6) 6 x)]) (h2 := zov (LM A m r) h) rfl rfl rfl hq_1 ?_
  have hD : zND (LM A m r) := hD
  have q_2 := inB_spec (-6) 6 x
  refine Zn.ifc (c := .ne) (off := 5) 10 (by decide +kernel) rfl ⟨by omega, by omega⟩ (fun c_3 => ?_) (fun c_3 => absurd (show inB (-6) 6 x ≠ 0 from by omega) c_3)
  have c_3 : inB (-6) 6 x ≠ 0 := c_3
  refine Zn.seg (pc2 := 12) (ls2 := [some (za (A 0)), some (zi x)]) (st2 := [zi x, za (A 0)]) [(10, .aload_n 0), (11, .iload_n 1)] (by decide +kernel) rfl ?_
  refine Zn.call (ins := .invokevirtual 81) [za (A 0), zi x] [] (by decide +kernel) rfl rfl rfl ⟨rfl, rfl⟩ ⟨rfl, rfl, rfl⟩ rfl (zrecvV hD (p := 0) rfl rfl rfl) (sp_X8_kind (A := A) (m := m) (r := r) (x := x) (p := p) (zov_all hD) hD (by first | assumption | omega) (by first | assumption | omega)) (fun v h2 hp => ?_)
  obtain ⟨rfl, hq_4⟩ := hp
  refine Zn.eq (pc2 := 15) (ls2 := [some (za (A 0)), some (zi x)]) (st2 := [zi (r 1 (p + 18))]) (h2 := zov (LM A m r) h) rfl rfl rfl hq_4 ?_
  have hD : zND (LM A m r) := hD
  refine Zn.ifc (c := .ne) (off := 6) 21 (by decide +kernel) rfl ⟨by omega, by omega⟩ (fun c_5 => ?_) (fun c_5 => absurd (show r 1 (p + 18) ≠ 0 from by omega) c_5)
  have c_5 : r 1 (p + 18) ≠ 0 := c_5
  refine Zn.seg (pc2 := 22) (ls2 := [some (za (A 0)), some (zi x)]) (st2 := [za (A 0)]) [(21, .aload_n 0)] (by decide +kernel) rfl ?_
  refine Zn.call (ins := .invokevirtual 105) [za (A 0)] [] (by decide +kernel) rfl rfl rfl ⟨rfl, rfl⟩ ⟨rfl, rfl, rfl⟩ rfl (zrecvV hD (p := 0) rfl rfl rfl) (sp_X8_notes (A := A) (m := m) (r := r) (u := u) (zov_all hD) hD (hu) (hu6)) (fun v h2 hp => ?_)
  obtain ⟨rfl, hq_6⟩ := hp
  refine Zn.eq (pc2 := 25) (ls2 := [some (za (A 0)), some (zi x)]) (st2 := []) (h2 := zov (LM A (va_up m 1 (ntU u : Int)) (va_up r 1 (ntR (r 1) u))) h) rfl rfl rfl (hq_6.trans (LM_over _ _ _ _ _ _)) ?_
  have hD : zND (LM A (va_up m 1 (ntU u : Int)) (va_up r 1 (ntR (r 1) u))) := hD
  refine Zn.seg (pc2 := 29) (ls2 := [some (za (A 0)), some (zi x)]) (st2 := [zi 0, zi 0, zi x, za (A 0)]) [(25, .aload_n 0), (26, .iload_n 1), (27, .iconst 0), (28, .iconst 0)] (by decide +kernel) rfl ?_
  refine Zn.call (ins := .invokevirtual 108) [za (A 0), zi x, zi 0, zi 0] [] (by decide +kernel) rfl rfl rfl ⟨rfl, rfl⟩ ⟨rfl, rfl, rfl⟩ rfl (zrecvV hD (p := 0) rfl rfl rfl) (sp_X8_sets (A := A) (m := va_up m 1 (ntU u : Int)) (r := va_up r 1 (ntR (r 1) u)) (x := x) (y := 0) (k := 0) (p := p) (zov_all hD) hD (by first | assumption | omega) (by first | assumption | omega)) (fun v h2 hp => ?_)
  obtain ⟨rfl, hq_7⟩ := hp
  refine Zn.eq (pc2 := 32) (ls2 := [some (za (A 0)), some (zi x)]) (st2 := []) (h2 := zov (LM A (va_up m 1 (ntU u : Int)) (va_up r 1 (va_up (va_up ((ntR (r 1) u)) (p + 5) 0) (p + 18) 0))) h) rfl rfl rfl (hq_7.trans ((LM_over _ _ _ _ _ _).trans rfl)) ?_
  have hD : zND (LM A (va_up m 1 (ntU u : Int)) (va_up r 1 (va_up (va_up ((ntR (r 1) u)) (p + 5) 0) (p + 18) 0))) := hD
  refine Zn.seg (pc2 := 34) (ls2 := [some (za (A 0)), some (zi x)]) (st2 := [zi 0, za (A 0)]) [(32, .aload_n 0), (33, .iconst 0)] (by decide +kernel) rfl ?_
  refine Zn.call (ins := .invokevirtual 88) [za (A 0), zi 0] [] (by decide +kernel) rfl rfl rfl ⟨rfl, rfl⟩ ⟨rfl, rfl, rfl⟩ rfl (zrecvV hD (p := 0) rfl rfl rfl) (sp_X8_many (A := A) (m := va_up m 1 (ntU u : Int)) (r := va_up r 1 (va_up (va_up ((ntR (r 1) u)) (p + 5) 0) (p + 18) 0)) (k := 0) (zov_all hD) hD (kOK_up (kOK_y (kOK_nt hk) hp) (by decide) (by decide)) (⟨by decide, by decide⟩)) (fun v h2 hp => ?_)
  obtain ⟨rfl, hq_8⟩ := hp
  refine Zn.eq (pc2 := 37) (ls2 := [some (za (A 0)), some (zi x)]) (st2 := [zi (manyN ((va_up (va_up ((ntR (r 1) u)) (p + 5) 0) (p + 18) 0)) 0 13 : Int)]) (h2 := zov (LM A (va_up m 1 (ntU u : Int)) (va_up r 1 (va_up (va_up ((ntR (r 1) u)) (p + 5) 0) (p + 18) 0))) h) rfl rfl rfl hq_8 ?_
  have hD : zND (LM A (va_up m 1 (ntU u : Int)) (va_up r 1 (va_up (va_up ((ntR (r 1) u)) (p + 5) 0) (p + 18) 0))) := hD
  have q_9 := manyN_le ((va_up (va_up ((ntR (r 1) u)) (p + 5) 0) (p + 18) 0)) 0 13
  exact Zn.iret (by decide +kernel) rfl (⟨by first | rfl | (refine congrArg some (congrArg zi ?_); first | omega | (simp_all; done) | (simp_all; omega)), rfl⟩)
theorem sp_X8_fix_bad {h : xH} {A : Nat → Nat} {m : Nat → Int} {r : Nat → Nat → Int} {x : Int} (hL : ∀ q ∈ LM A m r, h q.1 = zcE q.2) (hD : zND (LM A m r)) (zx : zInI x) (hb : ¬ (-6 ≤ x ∧ x ≤ 6)) : zEv k_X8_fix [za (A 0), zi x] h (fun v h2 => v = some (zi (-1)) ∧ h2 = h) := by
  have hh : h = zov (LM A m r) h := zov_self hL
  have zx1 := zx.1
  have zx2 := zx.2
  refine zEv.body (I := (8, xI_X8_fix, 2, 2, 46, 0, 0, false)) (rt := (some .int)) [some (za (A 0)), some (zi x)] rfl rfl rfl rfl ?_
  refine Zn.eq rfl rfl rfl hh ?_
  have hD : zND (LM A m r) := hD
  refine Zn.seg (pc2 := 1) (ls2 := [some (za (A 0)), some (zi x)]) (st2 := [zi x]) [(0, .iload_n 1)] (by decide +kernel) rfl ?_
  refine Zn.i2l (by decide +kernel) ⟨by omega, by omega⟩ ?_
  refine Zn.call (ins := .invokestatic 94) [zj x] [] (by decide +kernel) rfl rfl rfl ⟨rfl, rfl⟩ ⟨rfl, rfl, rfl⟩ rfl (zrecvS (by decide)) (sp_X8_isX (x := x) (⟨by omega, by omega⟩)) (fun v h2 hp => ?_)
  obtain ⟨rfl, hq_1⟩ := hp
  refine Zn.eq (pc2 := 5) (ls2 := [some (za (A 0)), some (zi x)]) (st2 := [zi (inB (-6) 6 x)]) (h2 := zov (LM A m r) h) rfl rfl rfl hq_1 ?_
  have hD : zND (LM A m r) := hD
  have q_2 := inB_spec (-6) 6 x
  refine Zn.ifc (c := .ne) (off := 5) 10 (by decide +kernel) rfl ⟨by omega, by omega⟩ (fun c_3 => absurd (show inB (-6) 6 x ≠ 0 from c_3) (by omega)) (fun c_3 => ?_)
  have c_3 : ¬ (inB (-6) 6 x ≠ 0) := c_3
  refine Zn.seg (pc2 := 9) (ls2 := [some (za (A 0)), some (zi x)]) (st2 := [zi (-1)]) [(8, .iconst (-1))] (by decide +kernel) rfl ?_
  exact Zn.iret (by decide +kernel) rfl (⟨by first | rfl | (refine congrArg some (congrArg zi ?_); first | omega | (simp_all; done) | (simp_all; omega)), hh.symm⟩)
theorem sp_X8_fix_none {h : xH} {A : Nat → Nat} {m : Nat → Int} {r : Nat → Nat → Int} {x : Int} {p : Nat} (hL : ∀ q ∈ LM A m r, h q.1 = zcE q.2) (hD : zND (LM A m r)) (hx : x = (p : Int) - 6) (hp : p < 13) (hk : kOK (r 1)) (h1 : r 1 (p + 18) = 0) : zEv k_X8_fix [za (A 0), zi x] h (fun v h2 => v = some (zi (-4)) ∧ h2 = h) := by
  have hh : h = zov (LM A m r) h := zov_self hL
  have hki := hk p hp
  refine zEv.body (I := (8, xI_X8_fix, 2, 2, 46, 0, 0, false)) (rt := (some .int)) [some (za (A 0)), some (zi x)] rfl rfl rfl rfl ?_
  refine Zn.eq rfl rfl rfl hh ?_
  have hD : zND (LM A m r) := hD
  refine Zn.seg (pc2 := 1) (ls2 := [some (za (A 0)), some (zi x)]) (st2 := [zi x]) [(0, .iload_n 1)] (by decide +kernel) rfl ?_
  refine Zn.i2l (by decide +kernel) ⟨by omega, by omega⟩ ?_
  refine Zn.call (ins := .invokestatic 94) [zj x] [] (by decide +kernel) rfl rfl rfl ⟨rfl, rfl⟩ ⟨rfl, rfl, rfl⟩ rfl (zrecvS (by decide)) (sp_X8_isX (x := x) (⟨by omega, by omega⟩)) (fun v h2 hp => ?_)
  obtain ⟨rfl, hq_1⟩ := hp
  refine Zn.eq (pc2 := 5) (ls2 := [some (za (A 0)), some (zi x)]) (st2 := [zi (inB (-6) 6 x)]) (h2 := zov (LM A m r) h) rfl rfl rfl hq_1 ?_
  have hD : zND (LM A m r) := hD
  have q_2 := inB_spec (-6) 6 x
  refine Zn.ifc (c := .ne) (off := 5) 10 (by decide +kernel) rfl ⟨by omega, by omega⟩ (fun c_3 => ?_) (fun c_3 => absurd (show inB (-6) 6 x ≠ 0 from by omega) c_3)
  have c_3 : inB (-6) 6 x ≠ 0 := c_3
  refine Zn.seg (pc2 := 12) (ls2 := [some (za (A 0)), some (zi x)]) (st2 := [zi x, za (A 0)]) [(10, .aload_n 0), (11, .iload_n 1)] (by decide +kernel) rfl ?_
  refine Zn.call (ins := .invokevirtual 81) [za (A 0), zi x] [] (by decide +kernel) rfl rfl rfl ⟨rfl, rfl⟩ ⟨rfl, rfl, rfl⟩ rfl (zrecvV hD (p := 0) rfl rfl rfl) (sp_X8_kind (A := A) (m := m) (r := r) (x := x) (p := p) (zov_all hD) hD (by first | assumption | omega) (by first | assumption | omega)) (fun v h2 hp => ?_)
  obtain ⟨rfl, hq_4⟩ := hp
  refine Zn.eq (pc2 := 15) (ls2 := [some (za (A 0)), some (zi x)]) (st2 := [zi (r 1 (p + 18))]) (h2 := zov (LM A m r) h) rfl rfl rfl hq_4 ?_
  have hD : zND (LM A m r) := hD
  refine Zn.ifc (c := .ne) (off := 6) 21 (by decide +kernel) rfl ⟨by omega, by omega⟩ (fun c_5 => absurd (show r 1 (p + 18) ≠ 0 from c_5) (by omega)) (fun c_5 => ?_)
  have c_5 : ¬ (r 1 (p + 18) ≠ 0) := c_5
  refine Zn.seg (pc2 := 20) (ls2 := [some (za (A 0)), some (zi x)]) (st2 := [zi (-4)]) [(18, .bipush (-4))] (by decide +kernel) rfl ?_
  exact Zn.iret (by decide +kernel) rfl (⟨by first | rfl | (refine congrArg some (congrArg zi ?_); first | omega | (simp_all; done) | (simp_all; omega)), hh.symm⟩)
theorem sp_X8_fix_not {h : xH} {A : Nat → Nat} {m : Nat → Int} {r : Nat → Nat → Int} {x : Int} {p : Nat} (hL : ∀ q ∈ LM A m r, h q.1 = zcE q.2) (hD : zND (LM A m r)) (hx : x = (p : Int) - 6) (hp : p < 13) (hk : kOK (r 1)) (hd : 0 ≤ r 1 0 ∧ r 1 0 ≤ 3) (h1 : r 1 (p + 18) = 1) (h2 : (manyN (r 1) 2 13 : Int) = r 1 0) : zEv k_X8_fix [za (A 0), zi x] h (fun v h2 => v = some (zi (-2)) ∧ h2 = h) := by
  have hh : h = zov (LM A m r) h := zov_self hL
  have hki := hk p hp
  refine zEv.body (I := (8, xI_X8_fix, 2, 2, 46, 0, 0, false)) (rt := (some .int)) [some (za (A 0)), some (zi x)] rfl rfl rfl rfl ?_
  refine Zn.eq rfl rfl rfl hh ?_
  have hD : zND (LM A m r) := hD
  refine Zn.seg (pc2 := 1) (ls2 := [some (za (A 0)), some (zi x)]) (st2 := [zi x]) [(0, .iload_n 1)] (by decide +kernel) rfl ?_
  refine Zn.i2l (by decide +kernel) ⟨by omega, by omega⟩ ?_
  refine Zn.call (ins := .invokestatic 94) [zj x] [] (by decide +kernel) rfl rfl rfl ⟨rfl, rfl⟩ ⟨rfl, rfl, rfl⟩ rfl (zrecvS (by decide)) (sp_X8_isX (x := x) (⟨by omega, by omega⟩)) (fun v h2 hp => ?_)
  obtain ⟨rfl, hq_1⟩ := hp
  refine Zn.eq (pc2 := 5) (ls2 := [some (za (A 0)), some (zi x)]) (st2 := [zi (inB (-6) 6 x)]) (h2 := zov (LM A m r) h) rfl rfl rfl hq_1 ?_
  have hD : zND (LM A m r) := hD
  have q_2 := inB_spec (-6) 6 x
  refine Zn.ifc (c := .ne) (off := 5) 10 (by decide +kernel) rfl ⟨by omega, by omega⟩ (fun c_3 => ?_) (fun c_3 => absurd (show inB (-6) 6 x ≠ 0 from by omega) c_3)
  have c_3 : inB (-6) 6 x ≠ 0 := c_3
  refine Zn.seg (pc2 := 12) (ls2 := [some (za (A 0)), some (zi x)]) (st2 := [zi x, za (A 0)]) [(10, .aload_n 0), (11, .iload_n 1)] (by decide +kernel) rfl ?_
  refine Zn.call (ins := .invokevirtual 81) [za (A 0), zi x] [] (by decide +kernel) rfl rfl rfl ⟨rfl, rfl⟩ ⟨rfl, rfl, rfl⟩ rfl (zrecvV hD (p := 0) rfl rfl rfl) (sp_X8_kind (A := A) (m := m) (r := r) (x := x) (p := p) (zov_all hD) hD (by first | assumption | omega) (by first | assumption | omega)) (fun v h2 hp => ?_)
  obtain ⟨rfl, hq_4⟩ := hp
  refine Zn.eq (pc2 := 15) (ls2 := [some (za (A 0)), some (zi x)]) (st2 := [zi (r 1 (p + 18))]) (h2 := zov (LM A m r) h) rfl rfl rfl hq_4 ?_
  have hD : zND (LM A m r) := hD
  refine Zn.ifc (c := .ne) (off := 6) 21 (by decide +kernel) rfl ⟨by omega, by omega⟩ (fun c_5 => ?_) (fun c_5 => absurd (show r 1 (p + 18) ≠ 0 from by omega) c_5)
  have c_5 : r 1 (p + 18) ≠ 0 := c_5
  refine Zn.seg (pc2 := 23) (ls2 := [some (za (A 0)), some (zi x)]) (st2 := [zi x, za (A 0)]) [(21, .aload_n 0), (22, .iload_n 1)] (by decide +kernel) rfl ?_
  refine Zn.call (ins := .invokevirtual 81) [za (A 0), zi x] [] (by decide +kernel) rfl rfl rfl ⟨rfl, rfl⟩ ⟨rfl, rfl, rfl⟩ rfl (zrecvV hD (p := 0) rfl rfl rfl) (sp_X8_kind (A := A) (m := m) (r := r) (x := x) (p := p) (zov_all hD) hD (by first | assumption | omega) (by first | assumption | omega)) (fun v h2 hp => ?_)
  obtain ⟨rfl, hq_6⟩ := hp
  refine Zn.eq (pc2 := 26) (ls2 := [some (za (A 0)), some (zi x)]) (st2 := [zi (r 1 (p + 18))]) (h2 := zov (LM A m r) h) rfl rfl rfl hq_6 ?_
  have hD : zND (LM A m r) := hD
  refine Zn.seg (pc2 := 27) (ls2 := [some (za (A 0)), some (zi x)]) (st2 := [zi 1, zi (r 1 (p + 18))]) [(26, .iconst 1)] (by decide +kernel) rfl ?_
  refine Zn.icmp (c := .ne) (off := 20) 47 (by decide +kernel) rfl ⟨by omega, by omega⟩ ⟨by decide, by decide⟩ (fun c_7 => absurd (show r 1 (p + 18) ≠ 1 from c_7) (by omega)) (fun c_7 => ?_)
  have c_7 : ¬ (r 1 (p + 18) ≠ 1) := c_7
  refine Zn.seg (pc2 := 32) (ls2 := [some (za (A 0)), some (zi x)]) (st2 := [zi 2, za (A 0)]) [(30, .aload_n 0), (31, .iconst 2)] (by decide +kernel) rfl ?_
  refine Zn.call (ins := .invokevirtual 88) [za (A 0), zi 2] [] (by decide +kernel) rfl rfl rfl ⟨rfl, rfl⟩ ⟨rfl, rfl, rfl⟩ rfl (zrecvV hD (p := 0) rfl rfl rfl) (sp_X8_many (A := A) (m := m) (r := r) (k := 2) (zov_all hD) hD (hk) (⟨by decide, by decide⟩)) (fun v h2 hp => ?_)
  obtain ⟨rfl, hq_8⟩ := hp
  refine Zn.eq (pc2 := 35) (ls2 := [some (za (A 0)), some (zi x)]) (st2 := [zi (manyN (r 1) 2 13 : Int)]) (h2 := zov (LM A m r) h) rfl rfl rfl hq_8 ?_
  have hD : zND (LM A m r) := hD
  have q_9 := manyN_le (r 1) 2 13
  refine Zn.seg (pc2 := 36) (ls2 := [some (za (A 0)), some (zi x)]) (st2 := [za (A 0), zi (manyN (r 1) 2 13 : Int)]) [(35, .aload_n 0)] (by decide +kernel) rfl ?_
  refine Zn.get (ix := 7) hD 0 (by decide +kernel) rfl rfl rfl ?_
  refine Zn.seg (pc2 := 40) (ls2 := [some (za (A 0)), some (zi x)]) (st2 := [zi 0, za (A 1), zi (manyN (r 1) 2 13 : Int)]) [(39, .iconst 0)] (by decide +kernel) rfl ?_
  refine Zn.iald hD 1 (0) (by decide +kernel) rfl (rfl) (by decide) rfl ?_
  refine Zn.icmp (c := .ne) (off := 6) 47 (by decide +kernel) rfl ⟨by omega, by omega⟩ ⟨by omega, by omega⟩ (fun c_10 => absurd (show (manyN (r 1) 2 13 : Int) ≠ (r 1) 0 from c_10) (by omega)) (fun c_10 => ?_)
  have c_10 : ¬ ((manyN (r 1) 2 13 : Int) ≠ (r 1) 0) := c_10
  refine Zn.seg (pc2 := 46) (ls2 := [some (za (A 0)), some (zi x)]) (st2 := [zi (-2)]) [(44, .bipush (-2))] (by decide +kernel) rfl ?_
  exact Zn.iret (by decide +kernel) rfl (⟨by first | rfl | (refine congrArg some (congrArg zi ?_); first | omega | (simp_all; done) | (simp_all; omega)), hh.symm⟩)
theorem sp_X8_fix_on {h : xH} {A : Nat → Nat} {m : Nat → Int} {r : Nat → Nat → Int} {x : Int} {p u : Nat} (hL : ∀ q ∈ LM A m r, h q.1 = zcE q.2) (hD : zND (LM A m r)) (hx : x = (p : Int) - 6) (hp : p < 13) (hk : kOK (r 1)) (hd : 0 ≤ r 1 0 ∧ r 1 0 ≤ 3) (hu : m 1 = (u : Int)) (hu6 : u ≤ 6) (h1 : r 1 (p + 18) = 1) (h2 : (manyN (r 1) 2 13 : Int) ≠ r 1 0) : zEv k_X8_fix [za (A 0), zi x] h (fun v h2 => v = some (zi 1) ∧ h2 = zov (LM A (va_up m 1 (ntU u : Int)) (va_up r 1 (va_up (va_up (ntR (r 1) u) (p + 5) (r 1 (p + 5))) (p + 18) 2))) h) := by
  have hh : h = zov (LM A m r) h := zov_self hL
  have hki := hk p hp
  refine zEv.body (I := (8, xI_X8_fix, 2, 2, 46, 0, 0, false)) (rt := (some .int)) [some (za (A 0)), some (zi x)] rfl rfl rfl rfl ?_
  refine Zn.eq rfl rfl rfl hh ?_
  have hD : zND (LM A m r) := hD
  refine Zn.seg (pc2 := 1) (ls2 := [some (za (A 0)), some (zi x)]) (st2 := [zi x]) [(0, .iload_n 1)] (by decide +kernel) rfl ?_
  refine Zn.i2l (by decide +kernel) ⟨by omega, by omega⟩ ?_
  refine Zn.call (ins := .invokestatic 94) [zj x] [] (by decide +kernel) rfl rfl rfl ⟨rfl, rfl⟩ ⟨rfl, rfl, rfl⟩ rfl (zrecvS (by decide)) (sp_X8_isX (x := x) (⟨by omega, by omega⟩)) (fun v h2 hp => ?_)
  obtain ⟨rfl, hq_1⟩ := hp
  refine Zn.eq (pc2 := 5) (ls2 := [some (za (A 0)), some (zi x)]) (st2 := [zi (inB (-6) 6 x)]) (h2 := zov (LM A m r) h) rfl rfl rfl hq_1 ?_
  have hD : zND (LM A m r) := hD
  have q_2 := inB_spec (-6) 6 x
  refine Zn.ifc (c := .ne) (off := 5) 10 (by decide +kernel) rfl ⟨by omega, by omega⟩ (fun c_3 => ?_) (fun c_3 => absurd (show inB (-6) 6 x ≠ 0 from by omega) c_3)
  have c_3 : inB (-6) 6 x ≠ 0 := c_3
  refine Zn.seg (pc2 := 12) (ls2 := [some (za (A 0)), some (zi x)]) (st2 := [zi x, za (A 0)]) [(10, .aload_n 0), (11, .iload_n 1)] (by decide +kernel) rfl ?_
  refine Zn.call (ins := .invokevirtual 81) [za (A 0), zi x] [] (by decide +kernel) rfl rfl rfl ⟨rfl, rfl⟩ ⟨rfl, rfl, rfl⟩ rfl (zrecvV hD (p := 0) rfl rfl rfl) (sp_X8_kind (A := A) (m := m) (r := r) (x := x) (p := p) (zov_all hD) hD (by first | assumption | omega) (by first | assumption | omega)) (fun v h2 hp => ?_)
  obtain ⟨rfl, hq_4⟩ := hp
  refine Zn.eq (pc2 := 15) (ls2 := [some (za (A 0)), some (zi x)]) (st2 := [zi (r 1 (p + 18))]) (h2 := zov (LM A m r) h) rfl rfl rfl hq_4 ?_
  have hD : zND (LM A m r) := hD
  refine Zn.ifc (c := .ne) (off := 6) 21 (by decide +kernel) rfl ⟨by omega, by omega⟩ (fun c_5 => ?_) (fun c_5 => absurd (show r 1 (p + 18) ≠ 0 from by omega) c_5)
  have c_5 : r 1 (p + 18) ≠ 0 := c_5
  refine Zn.seg (pc2 := 23) (ls2 := [some (za (A 0)), some (zi x)]) (st2 := [zi x, za (A 0)]) [(21, .aload_n 0), (22, .iload_n 1)] (by decide +kernel) rfl ?_
  refine Zn.call (ins := .invokevirtual 81) [za (A 0), zi x] [] (by decide +kernel) rfl rfl rfl ⟨rfl, rfl⟩ ⟨rfl, rfl, rfl⟩ rfl (zrecvV hD (p := 0) rfl rfl rfl) (sp_X8_kind (A := A) (m := m) (r := r) (x := x) (p := p) (zov_all hD) hD (by first | assumption | omega) (by first | assumption | omega)) (fun v h2 hp => ?_)
  obtain ⟨rfl, hq_6⟩ := hp
  refine Zn.eq (pc2 := 26) (ls2 := [some (za (A 0)), some (zi x)]) (st2 := [zi (r 1 (p + 18))]) (h2 := zov (LM A m r) h) rfl rfl rfl hq_6 ?_
  have hD : zND (LM A m r) := hD
  refine Zn.seg (pc2 := 27) (ls2 := [some (za (A 0)), some (zi x)]) (st2 := [zi 1, zi (r 1 (p + 18))]) [(26, .iconst 1)] (by decide +kernel) rfl ?_
  refine Zn.icmp (c := .ne) (off := 20) 47 (by decide +kernel) rfl ⟨by omega, by omega⟩ ⟨by decide, by decide⟩ (fun c_7 => absurd (show r 1 (p + 18) ≠ 1 from c_7) (by omega)) (fun c_7 => ?_)
  have c_7 : ¬ (r 1 (p + 18) ≠ 1) := c_7
  refine Zn.seg (pc2 := 32) (ls2 := [some (za (A 0)), some (zi x)]) (st2 := [zi 2, za (A 0)]) [(30, .aload_n 0), (31, .iconst 2)] (by decide +kernel) rfl ?_
  refine Zn.call (ins := .invokevirtual 88) [za (A 0), zi 2] [] (by decide +kernel) rfl rfl rfl ⟨rfl, rfl⟩ ⟨rfl, rfl, rfl⟩ rfl (zrecvV hD (p := 0) rfl rfl rfl) (sp_X8_many (A := A) (m := m) (r := r) (k := 2) (zov_all hD) hD (hk) (⟨by decide, by decide⟩)) (fun v h2 hp => ?_)
  obtain ⟨rfl, hq_8⟩ := hp
  refine Zn.eq (pc2 := 35) (ls2 := [some (za (A 0)), some (zi x)]) (st2 := [zi (manyN (r 1) 2 13 : Int)]) (h2 := zov (LM A m r) h) rfl rfl rfl hq_8 ?_
  have hD : zND (LM A m r) := hD
  have q_9 := manyN_le (r 1) 2 13
  refine Zn.seg (pc2 := 36) (ls2 := [some (za (A 0)), some (zi x)]) (st2 := [za (A 0), zi (manyN (r 1) 2 13 : Int)]) [(35, .aload_n 0)] (by decide +kernel) rfl ?_
  refine Zn.get (ix := 7) hD 0 (by decide +kernel) rfl rfl rfl ?_
  refine Zn.seg (pc2 := 40) (ls2 := [some (za (A 0)), some (zi x)]) (st2 := [zi 0, za (A 1), zi (manyN (r 1) 2 13 : Int)]) [(39, .iconst 0)] (by decide +kernel) rfl ?_
  refine Zn.iald hD 1 (0) (by decide +kernel) rfl (rfl) (by decide) rfl ?_
  refine Zn.icmp (c := .ne) (off := 6) 47 (by decide +kernel) rfl ⟨by omega, by omega⟩ ⟨by omega, by omega⟩ (fun c_10 => ?_) (fun c_10 => absurd (show (manyN (r 1) 2 13 : Int) ≠ (r 1) 0 from by omega) c_10)
  have c_10 : (manyN (r 1) 2 13 : Int) ≠ (r 1) 0 := c_10
  refine Zn.seg (pc2 := 48) (ls2 := [some (za (A 0)), some (zi x)]) (st2 := [za (A 0)]) [(47, .aload_n 0)] (by decide +kernel) rfl ?_
  refine Zn.call (ins := .invokevirtual 105) [za (A 0)] [] (by decide +kernel) rfl rfl rfl ⟨rfl, rfl⟩ ⟨rfl, rfl, rfl⟩ rfl (zrecvV hD (p := 0) rfl rfl rfl) (sp_X8_notes (A := A) (m := m) (r := r) (u := u) (zov_all hD) hD (hu) (hu6)) (fun v h2 hp => ?_)
  obtain ⟨rfl, hq_11⟩ := hp
  refine Zn.eq (pc2 := 51) (ls2 := [some (za (A 0)), some (zi x)]) (st2 := []) (h2 := zov (LM A (va_up m 1 (ntU u : Int)) (va_up r 1 (ntR (r 1) u))) h) rfl rfl rfl (hq_11.trans (LM_over _ _ _ _ _ _)) ?_
  have hD : zND (LM A (va_up m 1 (ntU u : Int)) (va_up r 1 (ntR (r 1) u))) := hD
  refine Zn.seg (pc2 := 55) (ls2 := [some (za (A 0)), some (zi x)]) (st2 := [zi x, za (A 0), zi x, za (A 0)]) [(51, .aload_n 0), (52, .iload_n 1), (53, .aload_n 0), (54, .iload_n 1)] (by decide +kernel) rfl ?_
  refine Zn.call (ins := .invokevirtual 102) [za (A 0), zi x] [zi x, za (A 0)] (by decide +kernel) rfl rfl rfl ⟨rfl, rfl⟩ ⟨rfl, rfl, rfl⟩ rfl (zrecvV hD (p := 0) rfl rfl rfl) (sp_X8_y (A := A) (m := va_up m 1 (ntU u : Int)) (r := va_up r 1 (ntR (r 1) u)) (x := x) (p := p) (zov_all hD) hD (by first | assumption | omega) (by first | assumption | omega)) (fun v h2 hp => ?_)
  obtain ⟨rfl, hq_12⟩ := hp
  refine Zn.eq (pc2 := 58) (ls2 := [some (za (A 0)), some (zi x)]) (st2 := [zi ((ntR (r 1) u) (p + 5)), zi x, za (A 0)]) (h2 := zov (LM A (va_up m 1 (ntU u : Int)) (va_up r 1 (ntR (r 1) u))) h) rfl rfl rfl hq_12 ?_
  have hD : zND (LM A (va_up m 1 (ntU u : Int)) (va_up r 1 (ntR (r 1) u))) := hD
  refine Zn.topi (y := r 1 (p + 5)) (ntR_lo (by omega)) ?_
  refine Zn.seg (pc2 := 61) (ls2 := [some (za (A 0)), some (zi x)]) (st2 := [zi x, za (A 0), zi 3, zi (r 1 (p + 5)), zi x, za (A 0)]) [(58, .iconst 3), (59, .aload_n 0), (60, .iload_n 1)] (by decide +kernel) rfl ?_
  refine Zn.call (ins := .invokevirtual 81) [za (A 0), zi x] [zi 3, zi (r 1 (p + 5)), zi x, za (A 0)] (by decide +kernel) rfl rfl rfl ⟨rfl, rfl⟩ ⟨rfl, rfl, rfl⟩ rfl (zrecvV hD (p := 0) rfl rfl rfl) (sp_X8_kind (A := A) (m := va_up m 1 (ntU u : Int)) (r := va_up r 1 (ntR (r 1) u)) (x := x) (p := p) (zov_all hD) hD (by first | assumption | omega) (by first | assumption | omega)) (fun v h2 hp => ?_)
  obtain ⟨rfl, hq_13⟩ := hp
  refine Zn.eq (pc2 := 64) (ls2 := [some (za (A 0)), some (zi x)]) (st2 := [zi ((ntR (r 1) u) (p + 18)), zi 3, zi (r 1 (p + 5)), zi x, za (A 0)]) (h2 := zov (LM A (va_up m 1 (ntU u : Int)) (va_up r 1 (ntR (r 1) u))) h) rfl rfl rfl hq_13 ?_
  have hD : zND (LM A (va_up m 1 (ntU u : Int)) (va_up r 1 (ntR (r 1) u))) := hD
  refine Zn.topi (y := 1) ((ntR_lo (by omega)).trans h1) ?_
  refine Zn.seg (pc2 := 65) (ls2 := [some (za (A 0)), some (zi x)]) (st2 := [zi (3 - 1), zi (r 1 (p + 5)), zi x, za (A 0)]) [(64, .isub)] (by decide +kernel) rfl ?_
  refine Zn.topi (y := 2) (by decide) ?_
  refine Zn.call (ins := .invokevirtual 108) [za (A 0), zi x, zi (r 1 (p + 5)), zi 2] [] (by decide +kernel) rfl rfl rfl ⟨rfl, rfl⟩ ⟨rfl, rfl, rfl⟩ rfl (zrecvV hD (p := 0) rfl rfl rfl) (sp_X8_sets (A := A) (m := va_up m 1 (ntU u : Int)) (r := va_up r 1 (ntR (r 1) u)) (x := x) (y := r 1 (p + 5)) (k := 2) (p := p) (zov_all hD) hD (by first | assumption | omega) (by first | assumption | omega)) (fun v h2 hp => ?_)
  obtain ⟨rfl, hq_14⟩ := hp
  refine Zn.eq (pc2 := 68) (ls2 := [some (za (A 0)), some (zi x)]) (st2 := []) (h2 := zov (LM A (va_up m 1 (ntU u : Int)) (va_up r 1 (va_up (va_up ((ntR (r 1) u)) (p + 5) (r 1 (p + 5))) (p + 18) 2))) h) rfl rfl rfl (hq_14.trans ((LM_over _ _ _ _ _ _).trans rfl)) ?_
  have hD : zND (LM A (va_up m 1 (ntU u : Int)) (va_up r 1 (va_up (va_up ((ntR (r 1) u)) (p + 5) (r 1 (p + 5))) (p + 18) 2))) := hD
  refine Zn.seg (pc2 := 70) (ls2 := [some (za (A 0)), some (zi x)]) (st2 := [zi x, za (A 0)]) [(68, .aload_n 0), (69, .iload_n 1)] (by decide +kernel) rfl ?_
  refine Zn.call (ins := .invokevirtual 81) [za (A 0), zi x] [] (by decide +kernel) rfl rfl rfl ⟨rfl, rfl⟩ ⟨rfl, rfl, rfl⟩ rfl (zrecvV hD (p := 0) rfl rfl rfl) (sp_X8_kind (A := A) (m := va_up m 1 (ntU u : Int)) (r := va_up r 1 (va_up (va_up ((ntR (r 1) u)) (p + 5) (r 1 (p + 5))) (p + 18) 2)) (x := x) (p := p) (zov_all hD) hD (by first | assumption | omega) (by first | assumption | omega)) (fun v h2 hp => ?_)
  obtain ⟨rfl, hq_15⟩ := hp
  refine Zn.eq (pc2 := 73) (ls2 := [some (za (A 0)), some (zi x)]) (st2 := [zi ((va_up (va_up ((ntR (r 1) u)) (p + 5) (r 1 (p + 5))) (p + 18) 2) (p + 18))]) (h2 := zov (LM A (va_up m 1 (ntU u : Int)) (va_up r 1 (va_up (va_up ((ntR (r 1) u)) (p + 5) (r 1 (p + 5))) (p + 18) 2))) h) rfl rfl rfl hq_15 ?_
  have hD : zND (LM A (va_up m 1 (ntU u : Int)) (va_up r 1 (va_up (va_up ((ntR (r 1) u)) (p + 5) (r 1 (p + 5))) (p + 18) 2))) := hD
  refine Zn.topi (y := 2) (va_up_s _ _ _) ?_
  refine Zn.seg (pc2 := 75) (ls2 := [some (za (A 0)), some (zi x)]) (st2 := [zi (2 - 1)]) [(73, .iconst 1), (74, .isub)] (by decide +kernel) rfl ?_
  exact Zn.iret (by decide +kernel) rfl (⟨by first | rfl | (refine congrArg some (congrArg zi ?_); first | omega | (simp_all; done) | (simp_all; omega)), rfl⟩)
theorem sp_X8_fix_off {h : xH} {A : Nat → Nat} {m : Nat → Int} {r : Nat → Nat → Int} {x : Int} {p u : Nat} (hL : ∀ q ∈ LM A m r, h q.1 = zcE q.2) (hD : zND (LM A m r)) (hx : x = (p : Int) - 6) (hp : p < 13) (hk : kOK (r 1)) (hu : m 1 = (u : Int)) (hu6 : u ≤ 6) (h1 : r 1 (p + 18) = 2) : zEv k_X8_fix [za (A 0), zi x] h (fun v h2 => v = some (zi 0) ∧ h2 = zov (LM A (va_up m 1 (ntU u : Int)) (va_up r 1 (va_up (va_up (ntR (r 1) u) (p + 5) (r 1 (p + 5))) (p + 18) 1))) h) := by
  have hh : h = zov (LM A m r) h := zov_self hL
  have hki := hk p hp
  refine zEv.body (I := (8, xI_X8_fix, 2, 2, 46, 0, 0, false)) (rt := (some .int)) [some (za (A 0)), some (zi x)] rfl rfl rfl rfl ?_
  refine Zn.eq rfl rfl rfl hh ?_
  have hD : zND (LM A m r) := hD
  refine Zn.seg (pc2 := 1) (ls2 := [some (za (A 0)), some (zi x)]) (st2 := [zi x]) [(0, .iload_n 1)] (by decide +kernel) rfl ?_
  refine Zn.i2l (by decide +kernel) ⟨by omega, by omega⟩ ?_
  refine Zn.call (ins := .invokestatic 94) [zj x] [] (by decide +kernel) rfl rfl rfl ⟨rfl, rfl⟩ ⟨rfl, rfl, rfl⟩ rfl (zrecvS (by decide)) (sp_X8_isX (x := x) (⟨by omega, by omega⟩)) (fun v h2 hp => ?_)
  obtain ⟨rfl, hq_1⟩ := hp
  refine Zn.eq (pc2 := 5) (ls2 := [some (za (A 0)), some (zi x)]) (st2 := [zi (inB (-6) 6 x)]) (h2 := zov (LM A m r) h) rfl rfl rfl hq_1 ?_
  have hD : zND (LM A m r) := hD
  have q_2 := inB_spec (-6) 6 x
  refine Zn.ifc (c := .ne) (off := 5) 10 (by decide +kernel) rfl ⟨by omega, by omega⟩ (fun c_3 => ?_) (fun c_3 => absurd (show inB (-6) 6 x ≠ 0 from by omega) c_3)
  have c_3 : inB (-6) 6 x ≠ 0 := c_3
  refine Zn.seg (pc2 := 12) (ls2 := [some (za (A 0)), some (zi x)]) (st2 := [zi x, za (A 0)]) [(10, .aload_n 0), (11, .iload_n 1)] (by decide +kernel) rfl ?_
  refine Zn.call (ins := .invokevirtual 81) [za (A 0), zi x] [] (by decide +kernel) rfl rfl rfl ⟨rfl, rfl⟩ ⟨rfl, rfl, rfl⟩ rfl (zrecvV hD (p := 0) rfl rfl rfl) (sp_X8_kind (A := A) (m := m) (r := r) (x := x) (p := p) (zov_all hD) hD (by first | assumption | omega) (by first | assumption | omega)) (fun v h2 hp => ?_)
  obtain ⟨rfl, hq_4⟩ := hp
  refine Zn.eq (pc2 := 15) (ls2 := [some (za (A 0)), some (zi x)]) (st2 := [zi (r 1 (p + 18))]) (h2 := zov (LM A m r) h) rfl rfl rfl hq_4 ?_
  have hD : zND (LM A m r) := hD
  refine Zn.ifc (c := .ne) (off := 6) 21 (by decide +kernel) rfl ⟨by omega, by omega⟩ (fun c_5 => ?_) (fun c_5 => absurd (show r 1 (p + 18) ≠ 0 from by omega) c_5)
  have c_5 : r 1 (p + 18) ≠ 0 := c_5
  refine Zn.seg (pc2 := 23) (ls2 := [some (za (A 0)), some (zi x)]) (st2 := [zi x, za (A 0)]) [(21, .aload_n 0), (22, .iload_n 1)] (by decide +kernel) rfl ?_
  refine Zn.call (ins := .invokevirtual 81) [za (A 0), zi x] [] (by decide +kernel) rfl rfl rfl ⟨rfl, rfl⟩ ⟨rfl, rfl, rfl⟩ rfl (zrecvV hD (p := 0) rfl rfl rfl) (sp_X8_kind (A := A) (m := m) (r := r) (x := x) (p := p) (zov_all hD) hD (by first | assumption | omega) (by first | assumption | omega)) (fun v h2 hp => ?_)
  obtain ⟨rfl, hq_6⟩ := hp
  refine Zn.eq (pc2 := 26) (ls2 := [some (za (A 0)), some (zi x)]) (st2 := [zi (r 1 (p + 18))]) (h2 := zov (LM A m r) h) rfl rfl rfl hq_6 ?_
  have hD : zND (LM A m r) := hD
  refine Zn.seg (pc2 := 27) (ls2 := [some (za (A 0)), some (zi x)]) (st2 := [zi 1, zi (r 1 (p + 18))]) [(26, .iconst 1)] (by decide +kernel) rfl ?_
  refine Zn.icmp (c := .ne) (off := 20) 47 (by decide +kernel) rfl ⟨by omega, by omega⟩ ⟨by decide, by decide⟩ (fun c_7 => ?_) (fun c_7 => absurd (show r 1 (p + 18) ≠ 1 from by omega) c_7)
  have c_7 : r 1 (p + 18) ≠ 1 := c_7
  refine Zn.seg (pc2 := 48) (ls2 := [some (za (A 0)), some (zi x)]) (st2 := [za (A 0)]) [(47, .aload_n 0)] (by decide +kernel) rfl ?_
  refine Zn.call (ins := .invokevirtual 105) [za (A 0)] [] (by decide +kernel) rfl rfl rfl ⟨rfl, rfl⟩ ⟨rfl, rfl, rfl⟩ rfl (zrecvV hD (p := 0) rfl rfl rfl) (sp_X8_notes (A := A) (m := m) (r := r) (u := u) (zov_all hD) hD (hu) (hu6)) (fun v h2 hp => ?_)
  obtain ⟨rfl, hq_8⟩ := hp
  refine Zn.eq (pc2 := 51) (ls2 := [some (za (A 0)), some (zi x)]) (st2 := []) (h2 := zov (LM A (va_up m 1 (ntU u : Int)) (va_up r 1 (ntR (r 1) u))) h) rfl rfl rfl (hq_8.trans (LM_over _ _ _ _ _ _)) ?_
  have hD : zND (LM A (va_up m 1 (ntU u : Int)) (va_up r 1 (ntR (r 1) u))) := hD
  refine Zn.seg (pc2 := 55) (ls2 := [some (za (A 0)), some (zi x)]) (st2 := [zi x, za (A 0), zi x, za (A 0)]) [(51, .aload_n 0), (52, .iload_n 1), (53, .aload_n 0), (54, .iload_n 1)] (by decide +kernel) rfl ?_
  refine Zn.call (ins := .invokevirtual 102) [za (A 0), zi x] [zi x, za (A 0)] (by decide +kernel) rfl rfl rfl ⟨rfl, rfl⟩ ⟨rfl, rfl, rfl⟩ rfl (zrecvV hD (p := 0) rfl rfl rfl) (sp_X8_y (A := A) (m := va_up m 1 (ntU u : Int)) (r := va_up r 1 (ntR (r 1) u)) (x := x) (p := p) (zov_all hD) hD (by first | assumption | omega) (by first | assumption | omega)) (fun v h2 hp => ?_)
  obtain ⟨rfl, hq_9⟩ := hp
  refine Zn.eq (pc2 := 58) (ls2 := [some (za (A 0)), some (zi x)]) (st2 := [zi ((ntR (r 1) u) (p + 5)), zi x, za (A 0)]) (h2 := zov (LM A (va_up m 1 (ntU u : Int)) (va_up r 1 (ntR (r 1) u))) h) rfl rfl rfl hq_9 ?_
  have hD : zND (LM A (va_up m 1 (ntU u : Int)) (va_up r 1 (ntR (r 1) u))) := hD
  refine Zn.topi (y := r 1 (p + 5)) (ntR_lo (by omega)) ?_
  refine Zn.seg (pc2 := 61) (ls2 := [some (za (A 0)), some (zi x)]) (st2 := [zi x, za (A 0), zi 3, zi (r 1 (p + 5)), zi x, za (A 0)]) [(58, .iconst 3), (59, .aload_n 0), (60, .iload_n 1)] (by decide +kernel) rfl ?_
  refine Zn.call (ins := .invokevirtual 81) [za (A 0), zi x] [zi 3, zi (r 1 (p + 5)), zi x, za (A 0)] (by decide +kernel) rfl rfl rfl ⟨rfl, rfl⟩ ⟨rfl, rfl, rfl⟩ rfl (zrecvV hD (p := 0) rfl rfl rfl) (sp_X8_kind (A := A) (m := va_up m 1 (ntU u : Int)) (r := va_up r 1 (ntR (r 1) u)) (x := x) (p := p) (zov_all hD) hD (by first | assumption | omega) (by first | assumption | omega)) (fun v h2 hp => ?_)
  obtain ⟨rfl, hq_10⟩ := hp
  refine Zn.eq (pc2 := 64) (ls2 := [some (za (A 0)), some (zi x)]) (st2 := [zi ((ntR (r 1) u) (p + 18)), zi 3, zi (r 1 (p + 5)), zi x, za (A 0)]) (h2 := zov (LM A (va_up m 1 (ntU u : Int)) (va_up r 1 (ntR (r 1) u))) h) rfl rfl rfl hq_10 ?_
  have hD : zND (LM A (va_up m 1 (ntU u : Int)) (va_up r 1 (ntR (r 1) u))) := hD
  refine Zn.topi (y := 2) ((ntR_lo (by omega)).trans h1) ?_
  refine Zn.seg (pc2 := 65) (ls2 := [some (za (A 0)), some (zi x)]) (st2 := [zi (3 - 2), zi (r 1 (p + 5)), zi x, za (A 0)]) [(64, .isub)] (by decide +kernel) rfl ?_
  refine Zn.topi (y := 1) (by decide) ?_
  refine Zn.call (ins := .invokevirtual 108) [za (A 0), zi x, zi (r 1 (p + 5)), zi 1] [] (by decide +kernel) rfl rfl rfl ⟨rfl, rfl⟩ ⟨rfl, rfl, rfl⟩ rfl (zrecvV hD (p := 0) rfl rfl rfl) (sp_X8_sets (A := A) (m := va_up m 1 (ntU u : Int)) (r := va_up r 1 (ntR (r 1) u)) (x := x) (y := r 1 (p + 5)) (k := 1) (p := p) (zov_all hD) hD (by first | assumption | omega) (by first | assumption | omega)) (fun v h2 hp => ?_)
  obtain ⟨rfl, hq_11⟩ := hp
  refine Zn.eq (pc2 := 68) (ls2 := [some (za (A 0)), some (zi x)]) (st2 := []) (h2 := zov (LM A (va_up m 1 (ntU u : Int)) (va_up r 1 (va_up (va_up ((ntR (r 1) u)) (p + 5) (r 1 (p + 5))) (p + 18) 1))) h) rfl rfl rfl (hq_11.trans ((LM_over _ _ _ _ _ _).trans rfl)) ?_
  have hD : zND (LM A (va_up m 1 (ntU u : Int)) (va_up r 1 (va_up (va_up ((ntR (r 1) u)) (p + 5) (r 1 (p + 5))) (p + 18) 1))) := hD
  refine Zn.seg (pc2 := 70) (ls2 := [some (za (A 0)), some (zi x)]) (st2 := [zi x, za (A 0)]) [(68, .aload_n 0), (69, .iload_n 1)] (by decide +kernel) rfl ?_
  refine Zn.call (ins := .invokevirtual 81) [za (A 0), zi x] [] (by decide +kernel) rfl rfl rfl ⟨rfl, rfl⟩ ⟨rfl, rfl, rfl⟩ rfl (zrecvV hD (p := 0) rfl rfl rfl) (sp_X8_kind (A := A) (m := va_up m 1 (ntU u : Int)) (r := va_up r 1 (va_up (va_up ((ntR (r 1) u)) (p + 5) (r 1 (p + 5))) (p + 18) 1)) (x := x) (p := p) (zov_all hD) hD (by first | assumption | omega) (by first | assumption | omega)) (fun v h2 hp => ?_)
  obtain ⟨rfl, hq_12⟩ := hp
  refine Zn.eq (pc2 := 73) (ls2 := [some (za (A 0)), some (zi x)]) (st2 := [zi ((va_up (va_up ((ntR (r 1) u)) (p + 5) (r 1 (p + 5))) (p + 18) 1) (p + 18))]) (h2 := zov (LM A (va_up m 1 (ntU u : Int)) (va_up r 1 (va_up (va_up ((ntR (r 1) u)) (p + 5) (r 1 (p + 5))) (p + 18) 1))) h) rfl rfl rfl hq_12 ?_
  have hD : zND (LM A (va_up m 1 (ntU u : Int)) (va_up r 1 (va_up (va_up ((ntR (r 1) u)) (p + 5) (r 1 (p + 5))) (p + 18) 1))) := hD
  refine Zn.topi (y := 1) (va_up_s _ _ _) ?_
  refine Zn.seg (pc2 := 75) (ls2 := [some (za (A 0)), some (zi x)]) (st2 := [zi (1 - 1)]) [(73, .iconst 1), (74, .isub)] (by decide +kernel) rfl ?_
  exact Zn.iret (by decide +kernel) rfl (⟨by first | rfl | (refine congrArg some (congrArg zi ?_); first | omega | (simp_all; done) | (simp_all; omega)), rfl⟩)
theorem sp_X8_degree_bad {h : xH} {A : Nat → Nat} {m : Nat → Int} {r : Nat → Nat → Int} {x : Int} (hL : ∀ q ∈ LM A m r, h q.1 = zcE q.2) (hD : zND (LM A m r)) (zx : zInI x) (hb : ¬ (0 ≤ x ∧ x ≤ 3)) : zEv k_X8_degree [za (A 0), zi x] h (fun v h2 => v = some (zi (-1)) ∧ h2 = h) := by
  have hh : h = zov (LM A m r) h := zov_self hL
  have zx1 := zx.1
  have zx2 := zx.2
  refine zEv.body (I := (8, xI_X8_degree, 3, 2, 44, 0, 0, false)) (rt := (some .int)) [some (za (A 0)), some (zi x), none] rfl rfl rfl rfl ?_
  refine Zn.eq rfl rfl rfl hh ?_
  have hD : zND (LM A m r) := hD
  refine Zn.seg (pc2 := 1) (ls2 := [some (za (A 0)), some (zi x), none]) (st2 := [zi x]) [(0, .iload_n 1)] (by decide +kernel) rfl ?_
  refine Zn.i2l (by decide +kernel) ⟨by omega, by omega⟩ ?_
  refine Zn.seg (pc2 := 6) (ls2 := [some (za (A 0)), some (zi x), none]) (st2 := [zj 3, zj 0, zj x]) [(2, .lconst 0), (3, .ldc2_w 112)] (by decide +kernel) rfl ?_
  refine Zn.call (ins := .invokestatic 77) [zj x, zj 0, zj 3] [] (by decide +kernel) rfl rfl rfl ⟨rfl, rfl⟩ ⟨rfl, rfl, rfl⟩ rfl (zrecvS (by decide)) (sp_X8_in (x := x) (lo := 0) (hi := 3) (⟨by omega, by omega⟩) (⟨by decide, by decide⟩) (⟨by decide, by decide⟩)) (fun v h2 hp => ?_)
  obtain ⟨rfl, hq_1⟩ := hp
  refine Zn.eq (pc2 := 9) (ls2 := [some (za (A 0)), some (zi x), none]) (st2 := [zi (inB 0 3 x)]) (h2 := zov (LM A m r) h) rfl rfl rfl hq_1 ?_
  have hD : zND (LM A m r) := hD
  have q_2 := inB_spec 0 3 x
  refine Zn.ifc (c := .ne) (off := 5) 14 (by decide +kernel) rfl ⟨by omega, by omega⟩ (fun c_3 => absurd (show inB 0 3 x ≠ 0 from c_3) (by omega)) (fun c_3 => ?_)
  have c_3 : ¬ (inB 0 3 x ≠ 0) := c_3
  refine Zn.seg (pc2 := 13) (ls2 := [some (za (A 0)), some (zi x), none]) (st2 := [zi (-1)]) [(12, .iconst (-1))] (by decide +kernel) rfl ?_
  exact Zn.iret (by decide +kernel) rfl (⟨by first | rfl | (refine congrArg some (congrArg zi ?_); first | omega | (simp_all; done) | (simp_all; omega)), hh.symm⟩)
theorem sp_X8_degree_not1 {h : xH} {A : Nat → Nat} {m : Nat → Int} {r : Nat → Nat → Int} {x : Int} (hL : ∀ q ∈ LM A m r, h q.1 = zcE q.2) (hD : zND (LM A m r)) (hx : 0 ≤ x ∧ x ≤ 3) (hd : 0 ≤ r 1 0 ∧ r 1 0 ≤ 3) (h1 : x = r 1 0) : zEv k_X8_degree [za (A 0), zi x] h (fun v h2 => v = some (zi (-2)) ∧ h2 = h) := by
  have hh : h = zov (LM A m r) h := zov_self hL
  refine zEv.body (I := (8, xI_X8_degree, 3, 2, 44, 0, 0, false)) (rt := (some .int)) [some (za (A 0)), some (zi x), none] rfl rfl rfl rfl ?_
  refine Zn.eq rfl rfl rfl hh ?_
  have hD : zND (LM A m r) := hD
  refine Zn.seg (pc2 := 1) (ls2 := [some (za (A 0)), some (zi x), none]) (st2 := [zi x]) [(0, .iload_n 1)] (by decide +kernel) rfl ?_
  refine Zn.i2l (by decide +kernel) ⟨by omega, by omega⟩ ?_
  refine Zn.seg (pc2 := 6) (ls2 := [some (za (A 0)), some (zi x), none]) (st2 := [zj 3, zj 0, zj x]) [(2, .lconst 0), (3, .ldc2_w 112)] (by decide +kernel) rfl ?_
  refine Zn.call (ins := .invokestatic 77) [zj x, zj 0, zj 3] [] (by decide +kernel) rfl rfl rfl ⟨rfl, rfl⟩ ⟨rfl, rfl, rfl⟩ rfl (zrecvS (by decide)) (sp_X8_in (x := x) (lo := 0) (hi := 3) (⟨by omega, by omega⟩) (⟨by decide, by decide⟩) (⟨by decide, by decide⟩)) (fun v h2 hp => ?_)
  obtain ⟨rfl, hq_1⟩ := hp
  refine Zn.eq (pc2 := 9) (ls2 := [some (za (A 0)), some (zi x), none]) (st2 := [zi (inB 0 3 x)]) (h2 := zov (LM A m r) h) rfl rfl rfl hq_1 ?_
  have hD : zND (LM A m r) := hD
  have q_2 := inB_spec 0 3 x
  refine Zn.ifc (c := .ne) (off := 5) 14 (by decide +kernel) rfl ⟨by omega, by omega⟩ (fun c_3 => ?_) (fun c_3 => absurd (show inB 0 3 x ≠ 0 from by omega) c_3)
  have c_3 : inB 0 3 x ≠ 0 := c_3
  refine Zn.seg (pc2 := 15) (ls2 := [some (za (A 0)), some (zi x), none]) (st2 := [za (A 0)]) [(14, .aload_n 0)] (by decide +kernel) rfl ?_
  refine Zn.get (ix := 7) hD 0 (by decide +kernel) rfl rfl rfl ?_
  refine Zn.seg (pc2 := 19) (ls2 := [some (za (A 0)), some (zi x), none]) (st2 := [zi 0, za (A 1)]) [(18, .iconst 0)] (by decide +kernel) rfl ?_
  refine Zn.iald hD 1 (0) (by decide +kernel) rfl (rfl) (by decide) rfl ?_
  refine Zn.seg (pc2 := 23) (ls2 := [some (za (A 0)), some (zi x), some (zi ((r 1) 0))]) (st2 := [zi ((r 1) 0), zi x]) [(20, .istore_n 2), (21, .iload_n 1), (22, .iload_n 2)] (by decide +kernel) rfl ?_
  refine Zn.icmp (c := .eq) (off := 12) 35 (by decide +kernel) rfl ⟨by omega, by omega⟩ ⟨by omega, by omega⟩ (fun c_4 => ?_) (fun c_4 => absurd (show x = (r 1) 0 from by omega) c_4)
  have c_4 : x = (r 1) 0 := c_4
  refine Zn.seg (pc2 := 37) (ls2 := [some (za (A 0)), some (zi x), some (zi ((r 1) 0))]) (st2 := [zi (-2)]) [(35, .bipush (-2))] (by decide +kernel) rfl ?_
  exact Zn.iret (by decide +kernel) rfl (⟨by first | rfl | (refine congrArg some (congrArg zi ?_); first | omega | (simp_all; done) | (simp_all; omega)), hh.symm⟩)
theorem sp_X8_degree_not2 {h : xH} {A : Nat → Nat} {m : Nat → Int} {r : Nat → Nat → Int} {x : Int} (hL : ∀ q ∈ LM A m r, h q.1 = zcE q.2) (hD : zND (LM A m r)) (hx : 0 ≤ x ∧ x ≤ 3) (hk : kOK (r 1)) (hd : 0 ≤ r 1 0 ∧ r 1 0 ≤ 3) (h1 : x ≠ r 1 0) (h2 : x < (manyN (r 1) 2 13 : Int)) : zEv k_X8_degree [za (A 0), zi x] h (fun v h2 => v = some (zi (-2)) ∧ h2 = h) := by
  have hh : h = zov (LM A m r) h := zov_self hL
  refine zEv.body (I := (8, xI_X8_degree, 3, 2, 44, 0, 0, false)) (rt := (some .int)) [some (za (A 0)), some (zi x), none] rfl rfl rfl rfl ?_
  refine Zn.eq rfl rfl rfl hh ?_
  have hD : zND (LM A m r) := hD
  refine Zn.seg (pc2 := 1) (ls2 := [some (za (A 0)), some (zi x), none]) (st2 := [zi x]) [(0, .iload_n 1)] (by decide +kernel) rfl ?_
  refine Zn.i2l (by decide +kernel) ⟨by omega, by omega⟩ ?_
  refine Zn.seg (pc2 := 6) (ls2 := [some (za (A 0)), some (zi x), none]) (st2 := [zj 3, zj 0, zj x]) [(2, .lconst 0), (3, .ldc2_w 112)] (by decide +kernel) rfl ?_
  refine Zn.call (ins := .invokestatic 77) [zj x, zj 0, zj 3] [] (by decide +kernel) rfl rfl rfl ⟨rfl, rfl⟩ ⟨rfl, rfl, rfl⟩ rfl (zrecvS (by decide)) (sp_X8_in (x := x) (lo := 0) (hi := 3) (⟨by omega, by omega⟩) (⟨by decide, by decide⟩) (⟨by decide, by decide⟩)) (fun v h2 hp => ?_)
  obtain ⟨rfl, hq_1⟩ := hp
  refine Zn.eq (pc2 := 9) (ls2 := [some (za (A 0)), some (zi x), none]) (st2 := [zi (inB 0 3 x)]) (h2 := zov (LM A m r) h) rfl rfl rfl hq_1 ?_
  have hD : zND (LM A m r) := hD
  have q_2 := inB_spec 0 3 x
  refine Zn.ifc (c := .ne) (off := 5) 14 (by decide +kernel) rfl ⟨by omega, by omega⟩ (fun c_3 => ?_) (fun c_3 => absurd (show inB 0 3 x ≠ 0 from by omega) c_3)
  have c_3 : inB 0 3 x ≠ 0 := c_3
  refine Zn.seg (pc2 := 15) (ls2 := [some (za (A 0)), some (zi x), none]) (st2 := [za (A 0)]) [(14, .aload_n 0)] (by decide +kernel) rfl ?_
  refine Zn.get (ix := 7) hD 0 (by decide +kernel) rfl rfl rfl ?_
  refine Zn.seg (pc2 := 19) (ls2 := [some (za (A 0)), some (zi x), none]) (st2 := [zi 0, za (A 1)]) [(18, .iconst 0)] (by decide +kernel) rfl ?_
  refine Zn.iald hD 1 (0) (by decide +kernel) rfl (rfl) (by decide) rfl ?_
  refine Zn.seg (pc2 := 23) (ls2 := [some (za (A 0)), some (zi x), some (zi ((r 1) 0))]) (st2 := [zi ((r 1) 0), zi x]) [(20, .istore_n 2), (21, .iload_n 1), (22, .iload_n 2)] (by decide +kernel) rfl ?_
  refine Zn.icmp (c := .eq) (off := 12) 35 (by decide +kernel) rfl ⟨by omega, by omega⟩ ⟨by omega, by omega⟩ (fun c_4 => absurd (show x = (r 1) 0 from c_4) (by omega)) (fun c_4 => ?_)
  have c_4 : ¬ (x = (r 1) 0) := c_4
  refine Zn.seg (pc2 := 28) (ls2 := [some (za (A 0)), some (zi x), some (zi ((r 1) 0))]) (st2 := [zi 2, za (A 0)]) [(26, .aload_n 0), (27, .iconst 2)] (by decide +kernel) rfl ?_
  refine Zn.call (ins := .invokevirtual 88) [za (A 0), zi 2] [] (by decide +kernel) rfl rfl rfl ⟨rfl, rfl⟩ ⟨rfl, rfl, rfl⟩ rfl (zrecvV hD (p := 0) rfl rfl rfl) (sp_X8_many (A := A) (m := m) (r := r) (k := 2) (zov_all hD) hD (hk) (⟨by decide, by decide⟩)) (fun v h2 hp => ?_)
  obtain ⟨rfl, hq_5⟩ := hp
  refine Zn.eq (pc2 := 31) (ls2 := [some (za (A 0)), some (zi x), some (zi ((r 1) 0))]) (st2 := [zi (manyN (r 1) 2 13 : Int)]) (h2 := zov (LM A m r) h) rfl rfl rfl hq_5 ?_
  have hD : zND (LM A m r) := hD
  have q_6 := manyN_le (r 1) 2 13
  refine Zn.seg (pc2 := 32) (ls2 := [some (za (A 0)), some (zi x), some (zi ((r 1) 0))]) (st2 := [zi x, zi (manyN (r 1) 2 13 : Int)]) [(31, .iload_n 1)] (by decide +kernel) rfl ?_
  refine Zn.icmp (c := .le) (off := 6) 38 (by decide +kernel) rfl ⟨by omega, by omega⟩ ⟨by omega, by omega⟩ (fun c_7 => absurd (show (manyN (r 1) 2 13 : Int) ≤ x from c_7) (by omega)) (fun c_7 => ?_)
  have c_7 : ¬ ((manyN (r 1) 2 13 : Int) ≤ x) := c_7
  refine Zn.seg (pc2 := 37) (ls2 := [some (za (A 0)), some (zi x), some (zi ((r 1) 0))]) (st2 := [zi (-2)]) [(35, .bipush (-2))] (by decide +kernel) rfl ?_
  exact Zn.iret (by decide +kernel) rfl (⟨by first | rfl | (refine congrArg some (congrArg zi ?_); first | omega | (simp_all; done) | (simp_all; omega)), hh.symm⟩)
theorem sp_X8_degree_ok {h : xH} {A : Nat → Nat} {m : Nat → Int} {r : Nat → Nat → Int} {x : Int} {u : Nat} (hL : ∀ q ∈ LM A m r, h q.1 = zcE q.2) (hD : zND (LM A m r)) (hx : 0 ≤ x ∧ x ≤ 3) (hk : kOK (r 1)) (hd : 0 ≤ r 1 0 ∧ r 1 0 ≤ 3) (hu : m 1 = (u : Int)) (hu6 : u ≤ 6) (h1 : x ≠ r 1 0) (h2 : (manyN (r 1) 2 13 : Int) ≤ x) : zEv k_X8_degree [za (A 0), zi x] h (fun v h2 => v = some (zi (r 1 0)) ∧ h2 = zov (LM A (va_up m 1 (ntU u : Int)) (va_up r 1 (va_up (ntR (r 1) u) 0 x))) h) := by
  have hh : h = zov (LM A m r) h := zov_self hL
  refine zEv.body (I := (8, xI_X8_degree, 3, 2, 44, 0, 0, false)) (rt := (some .int)) [some (za (A 0)), some (zi x), none] rfl rfl rfl rfl ?_
  refine Zn.eq rfl rfl rfl hh ?_
  have hD : zND (LM A m r) := hD
  refine Zn.seg (pc2 := 1) (ls2 := [some (za (A 0)), some (zi x), none]) (st2 := [zi x]) [(0, .iload_n 1)] (by decide +kernel) rfl ?_
  refine Zn.i2l (by decide +kernel) ⟨by omega, by omega⟩ ?_
  refine Zn.seg (pc2 := 6) (ls2 := [some (za (A 0)), some (zi x), none]) (st2 := [zj 3, zj 0, zj x]) [(2, .lconst 0), (3, .ldc2_w 112)] (by decide +kernel) rfl ?_
  refine Zn.call (ins := .invokestatic 77) [zj x, zj 0, zj 3] [] (by decide +kernel) rfl rfl rfl ⟨rfl, rfl⟩ ⟨rfl, rfl, rfl⟩ rfl (zrecvS (by decide)) (sp_X8_in (x := x) (lo := 0) (hi := 3) (⟨by omega, by omega⟩) (⟨by decide, by decide⟩) (⟨by decide, by decide⟩)) (fun v h2 hp => ?_)
  obtain ⟨rfl, hq_1⟩ := hp
  refine Zn.eq (pc2 := 9) (ls2 := [some (za (A 0)), some (zi x), none]) (st2 := [zi (inB 0 3 x)]) (h2 := zov (LM A m r) h) rfl rfl rfl hq_1 ?_
  have hD : zND (LM A m r) := hD
  have q_2 := inB_spec 0 3 x
  refine Zn.ifc (c := .ne) (off := 5) 14 (by decide +kernel) rfl ⟨by omega, by omega⟩ (fun c_3 => ?_) (fun c_3 => absurd (show inB 0 3 x ≠ 0 from by omega) c_3)
  have c_3 : inB 0 3 x ≠ 0 := c_3
  refine Zn.seg (pc2 := 15) (ls2 := [some (za (A 0)), some (zi x), none]) (st2 := [za (A 0)]) [(14, .aload_n 0)] (by decide +kernel) rfl ?_
  refine Zn.get (ix := 7) hD 0 (by decide +kernel) rfl rfl rfl ?_
  refine Zn.seg (pc2 := 19) (ls2 := [some (za (A 0)), some (zi x), none]) (st2 := [zi 0, za (A 1)]) [(18, .iconst 0)] (by decide +kernel) rfl ?_
  refine Zn.iald hD 1 (0) (by decide +kernel) rfl (rfl) (by decide) rfl ?_
  refine Zn.seg (pc2 := 23) (ls2 := [some (za (A 0)), some (zi x), some (zi ((r 1) 0))]) (st2 := [zi ((r 1) 0), zi x]) [(20, .istore_n 2), (21, .iload_n 1), (22, .iload_n 2)] (by decide +kernel) rfl ?_
  refine Zn.icmp (c := .eq) (off := 12) 35 (by decide +kernel) rfl ⟨by omega, by omega⟩ ⟨by omega, by omega⟩ (fun c_4 => absurd (show x = (r 1) 0 from c_4) (by omega)) (fun c_4 => ?_)
  have c_4 : ¬ (x = (r 1) 0) := c_4
  refine Zn.seg (pc2 := 28) (ls2 := [some (za (A 0)), some (zi x), some (zi ((r 1) 0))]) (st2 := [zi 2, za (A 0)]) [(26, .aload_n 0), (27, .iconst 2)] (by decide +kernel) rfl ?_
  refine Zn.call (ins := .invokevirtual 88) [za (A 0), zi 2] [] (by decide +kernel) rfl rfl rfl ⟨rfl, rfl⟩ ⟨rfl, rfl, rfl⟩ rfl (zrecvV hD (p := 0) rfl rfl rfl) (sp_X8_many (A := A) (m := m) (r := r) (k := 2) (zov_all hD) hD (hk) (⟨by decide, by decide⟩)) (fun v h2 hp => ?_)
  obtain ⟨rfl, hq_5⟩ := hp
  refine Zn.eq (pc2 := 31) (ls2 := [some (za (A 0)), some (zi x), some (zi ((r 1) 0))]) (st2 := [zi (manyN (r 1) 2 13 : Int)]) (h2 := zov (LM A m r) h) rfl rfl rfl hq_5 ?_
  have hD : zND (LM A m r) := hD
  have q_6 := manyN_le (r 1) 2 13
  refine Zn.seg (pc2 := 32) (ls2 := [some (za (A 0)), some (zi x), some (zi ((r 1) 0))]) (st2 := [zi x, zi (manyN (r 1) 2 13 : Int)]) [(31, .iload_n 1)] (by decide +kernel) rfl ?_
  refine Zn.icmp (c := .le) (off := 6) 38 (by decide +kernel) rfl ⟨by omega, by omega⟩ ⟨by omega, by omega⟩ (fun c_7 => ?_) (fun c_7 => absurd (show (manyN (r 1) 2 13 : Int) ≤ x from by omega) c_7)
  have c_7 : (manyN (r 1) 2 13 : Int) ≤ x := c_7
  refine Zn.seg (pc2 := 39) (ls2 := [some (za (A 0)), some (zi x), some (zi ((r 1) 0))]) (st2 := [za (A 0)]) [(38, .aload_n 0)] (by decide +kernel) rfl ?_
  refine Zn.call (ins := .invokevirtual 105) [za (A 0)] [] (by decide +kernel) rfl rfl rfl ⟨rfl, rfl⟩ ⟨rfl, rfl, rfl⟩ rfl (zrecvV hD (p := 0) rfl rfl rfl) (sp_X8_notes (A := A) (m := m) (r := r) (u := u) (zov_all hD) hD (hu) (hu6)) (fun v h2 hp => ?_)
  obtain ⟨rfl, hq_8⟩ := hp
  refine Zn.eq (pc2 := 42) (ls2 := [some (za (A 0)), some (zi x), some (zi ((r 1) 0))]) (st2 := []) (h2 := zov (LM A (va_up m 1 (ntU u : Int)) (va_up r 1 (ntR (r 1) u))) h) rfl rfl rfl (hq_8.trans (LM_over _ _ _ _ _ _)) ?_
  have hD : zND (LM A (va_up m 1 (ntU u : Int)) (va_up r 1 (ntR (r 1) u))) := hD
  refine Zn.seg (pc2 := 43) (ls2 := [some (za (A 0)), some (zi x), some (zi ((r 1) 0))]) (st2 := [za (A 0)]) [(42, .aload_n 0)] (by decide +kernel) rfl ?_
  refine Zn.get (ix := 7) hD 0 (by decide +kernel) rfl rfl rfl ?_
  refine Zn.seg (pc2 := 48) (ls2 := [some (za (A 0)), some (zi x), some (zi ((r 1) 0))]) (st2 := [zi x, zi 0, za (A 1)]) [(46, .iconst 0), (47, .iload_n 1)] (by decide +kernel) rfl ?_
  refine Zn.iast hD 1 (0) (by decide +kernel) rfl (rfl) (by decide) rfl ?_
  refine Zn.eq (h2 := zov (LM A (va_up m 1 (ntU u : Int)) (va_up r 1 (va_up (ntR (r 1) u) 0 x))) h) rfl rfl rfl (rfl) ?_
  have hD : zND (LM A (va_up m 1 (ntU u : Int)) (va_up r 1 (va_up (ntR (r 1) u) 0 x))) := hD
  refine Zn.seg (pc2 := 50) (ls2 := [some (za (A 0)), some (zi x), some (zi ((r 1) 0))]) (st2 := [zi ((r 1) 0)]) [(49, .iload_n 2)] (by decide +kernel) rfl ?_
  exact Zn.iret (by decide +kernel) rfl (⟨by first | rfl | (refine congrArg some (congrArg zi ?_); first | omega | (simp_all; done) | (simp_all; omega)), rfl⟩)
theorem sp_X8_under_bad1 {h : xH} {A : Nat → Nat} {m : Nat → Int} {r : Nat → Nat → Int} {x y : Int} (hL : ∀ q ∈ LM A m r, h q.1 = zcE q.2) (hD : zND (LM A m r)) (zx : zInI x) (zy : zInI y) (hb : ¬ (0 ≤ x ∧ x ≤ 2)) : zEv k_X8_under [za (A 0), zi x, zi y] h (fun v h2 => v = some (zi (-1)) ∧ h2 = h) := by
  have hh : h = zov (LM A m r) h := zov_self hL
  have zx1 := zx.1
  have zx2 := zx.2
  have zy1 := zy.1
  have zy2 := zy.2
  refine zEv.body (I := (8, xI_X8_under, 4, 1, 25, 0, 0, false)) (rt := (some .int)) [some (za (A 0)), some (zi x), some (zi y), none] rfl rfl rfl rfl ?_
  refine Zn.eq rfl rfl rfl hh ?_
  have hD : zND (LM A m r) := hD
  refine Zn.seg (pc2 := 1) (ls2 := [some (za (A 0)), some (zi x), some (zi y), none]) (st2 := [zi x]) [(0, .iload_n 1)] (by decide +kernel) rfl ?_
  refine Zn.i2l (by decide +kernel) ⟨by omega, by omega⟩ ?_
  refine Zn.seg (pc2 := 6) (ls2 := [some (za (A 0)), some (zi x), some (zi y), none]) (st2 := [zj 2, zj 0, zj x]) [(2, .lconst 0), (3, .ldc2_w 114)] (by decide +kernel) rfl ?_
  refine Zn.call (ins := .invokestatic 77) [zj x, zj 0, zj 2] [] (by decide +kernel) rfl rfl rfl ⟨rfl, rfl⟩ ⟨rfl, rfl, rfl⟩ rfl (zrecvS (by decide)) (sp_X8_in (x := x) (lo := 0) (hi := 2) (⟨by omega, by omega⟩) (⟨by decide, by decide⟩) (⟨by decide, by decide⟩)) (fun v h2 hp => ?_)
  obtain ⟨rfl, hq_1⟩ := hp
  refine Zn.eq (pc2 := 9) (ls2 := [some (za (A 0)), some (zi x), some (zi y), none]) (st2 := [zi (inB 0 2 x)]) (h2 := zov (LM A m r) h) rfl rfl rfl hq_1 ?_
  have hD : zND (LM A m r) := hD
  have q_2 := inB_spec 0 2 x
  refine Zn.ifc (c := .eq) (off := 17) 26 (by decide +kernel) rfl ⟨by omega, by omega⟩ (fun c_3 => ?_) (fun c_3 => absurd (show inB 0 2 x = 0 from by omega) c_3)
  have c_3 : inB 0 2 x = 0 := c_3
  refine Zn.seg (pc2 := 27) (ls2 := [some (za (A 0)), some (zi x), some (zi y), none]) (st2 := [zi (-1)]) [(26, .iconst (-1))] (by decide +kernel) rfl ?_
  exact Zn.iret (by decide +kernel) rfl (⟨by first | rfl | (refine congrArg some (congrArg zi ?_); first | omega | (simp_all; done) | (simp_all; omega)), hh.symm⟩)
theorem sp_X8_under_bad2 {h : xH} {A : Nat → Nat} {m : Nat → Int} {r : Nat → Nat → Int} {x y : Int} (hL : ∀ q ∈ LM A m r, h q.1 = zcE q.2) (hD : zND (LM A m r)) (zx : zInI x) (zy : zInI y) (hi : 0 ≤ x ∧ x ≤ 2) (hb : ¬ (-3 ≤ y ∧ y ≤ 3)) : zEv k_X8_under [za (A 0), zi x, zi y] h (fun v h2 => v = some (zi (-1)) ∧ h2 = h) := by
  have hh : h = zov (LM A m r) h := zov_self hL
  have zx1 := zx.1
  have zx2 := zx.2
  have zy1 := zy.1
  have zy2 := zy.2
  refine zEv.body (I := (8, xI_X8_under, 4, 1, 25, 0, 0, false)) (rt := (some .int)) [some (za (A 0)), some (zi x), some (zi y), none] rfl rfl rfl rfl ?_
  refine Zn.eq rfl rfl rfl hh ?_
  have hD : zND (LM A m r) := hD
  refine Zn.seg (pc2 := 1) (ls2 := [some (za (A 0)), some (zi x), some (zi y), none]) (st2 := [zi x]) [(0, .iload_n 1)] (by decide +kernel) rfl ?_
  refine Zn.i2l (by decide +kernel) ⟨by omega, by omega⟩ ?_
  refine Zn.seg (pc2 := 6) (ls2 := [some (za (A 0)), some (zi x), some (zi y), none]) (st2 := [zj 2, zj 0, zj x]) [(2, .lconst 0), (3, .ldc2_w 114)] (by decide +kernel) rfl ?_
  refine Zn.call (ins := .invokestatic 77) [zj x, zj 0, zj 2] [] (by decide +kernel) rfl rfl rfl ⟨rfl, rfl⟩ ⟨rfl, rfl, rfl⟩ rfl (zrecvS (by decide)) (sp_X8_in (x := x) (lo := 0) (hi := 2) (⟨by omega, by omega⟩) (⟨by decide, by decide⟩) (⟨by decide, by decide⟩)) (fun v h2 hp => ?_)
  obtain ⟨rfl, hq_1⟩ := hp
  refine Zn.eq (pc2 := 9) (ls2 := [some (za (A 0)), some (zi x), some (zi y), none]) (st2 := [zi (inB 0 2 x)]) (h2 := zov (LM A m r) h) rfl rfl rfl hq_1 ?_
  have hD : zND (LM A m r) := hD
  have q_2 := inB_spec 0 2 x
  refine Zn.ifc (c := .eq) (off := 17) 26 (by decide +kernel) rfl ⟨by omega, by omega⟩ (fun c_3 => absurd (show inB 0 2 x = 0 from c_3) (by omega)) (fun c_3 => ?_)
  have c_3 : ¬ (inB 0 2 x = 0) := c_3
  refine Zn.seg (pc2 := 13) (ls2 := [some (za (A 0)), some (zi x), some (zi y), none]) (st2 := [zi y]) [(12, .iload_n 2)] (by decide +kernel) rfl ?_
  refine Zn.i2l (by decide +kernel) ⟨by omega, by omega⟩ ?_
  refine Zn.seg (pc2 := 20) (ls2 := [some (za (A 0)), some (zi x), some (zi y), none]) (st2 := [zj 3, zj (-3), zj y]) [(14, .ldc2_w 116), (17, .ldc2_w 112)] (by decide +kernel) rfl ?_
  refine Zn.call (ins := .invokestatic 77) [zj y, zj (-3), zj 3] [] (by decide +kernel) rfl rfl rfl ⟨rfl, rfl⟩ ⟨rfl, rfl, rfl⟩ rfl (zrecvS (by decide)) (sp_X8_in (x := y) (lo := (-3)) (hi := 3) (⟨by omega, by omega⟩) (⟨by decide, by decide⟩) (⟨by decide, by decide⟩)) (fun v h2 hp => ?_)
  obtain ⟨rfl, hq_4⟩ := hp
  refine Zn.eq (pc2 := 23) (ls2 := [some (za (A 0)), some (zi x), some (zi y), none]) (st2 := [zi (inB (-3) 3 y)]) (h2 := zov (LM A m r) h) rfl rfl rfl hq_4 ?_
  have hD : zND (LM A m r) := hD
  have q_5 := inB_spec (-3) 3 y
  refine Zn.ifc (c := .ne) (off := 5) 28 (by decide +kernel) rfl ⟨by omega, by omega⟩ (fun c_6 => absurd (show inB (-3) 3 y ≠ 0 from c_6) (by omega)) (fun c_6 => ?_)
  have c_6 : ¬ (inB (-3) 3 y ≠ 0) := c_6
  refine Zn.seg (pc2 := 27) (ls2 := [some (za (A 0)), some (zi x), some (zi y), none]) (st2 := [zi (-1)]) [(26, .iconst (-1))] (by decide +kernel) rfl ?_
  exact Zn.iret (by decide +kernel) rfl (⟨by first | rfl | (refine congrArg some (congrArg zi ?_); first | omega | (simp_all; done) | (simp_all; omega)), hh.symm⟩)
theorem sp_X8_under_not {h : xH} {A : Nat → Nat} {m : Nat → Int} {r : Nat → Nat → Int} {x y : Int} {j : Nat} (hL : ∀ q ∈ LM A m r, h q.1 = zcE q.2) (hD : zND (LM A m r)) (hx : x = (j : Int)) (hj : j < 3) (hyr : -3 ≤ y ∧ y ≤ 3) (hq : -3 ≤ r 1 (j + 1) ∧ r 1 (j + 1) ≤ 3) (h1 : r 1 (j + 1) = y) : zEv k_X8_under [za (A 0), zi x, zi y] h (fun v h2 => v = some (zi (-2)) ∧ h2 = h) := by
  have hh : h = zov (LM A m r) h := zov_self hL
  refine zEv.body (I := (8, xI_X8_under, 4, 1, 25, 0, 0, false)) (rt := (some .int)) [some (za (A 0)), some (zi x), some (zi y), none] rfl rfl rfl rfl ?_
  refine Zn.eq rfl rfl rfl hh ?_
  have hD : zND (LM A m r) := hD
  refine Zn.seg (pc2 := 1) (ls2 := [some (za (A 0)), some (zi x), some (zi y), none]) (st2 := [zi x]) [(0, .iload_n 1)] (by decide +kernel) rfl ?_
  refine Zn.i2l (by decide +kernel) ⟨by omega, by omega⟩ ?_
  refine Zn.seg (pc2 := 6) (ls2 := [some (za (A 0)), some (zi x), some (zi y), none]) (st2 := [zj 2, zj 0, zj x]) [(2, .lconst 0), (3, .ldc2_w 114)] (by decide +kernel) rfl ?_
  refine Zn.call (ins := .invokestatic 77) [zj x, zj 0, zj 2] [] (by decide +kernel) rfl rfl rfl ⟨rfl, rfl⟩ ⟨rfl, rfl, rfl⟩ rfl (zrecvS (by decide)) (sp_X8_in (x := x) (lo := 0) (hi := 2) (⟨by omega, by omega⟩) (⟨by decide, by decide⟩) (⟨by decide, by decide⟩)) (fun v h2 hp => ?_)
  obtain ⟨rfl, hq_1⟩ := hp
  refine Zn.eq (pc2 := 9) (ls2 := [some (za (A 0)), some (zi x), some (zi y), none]) (st2 := [zi (inB 0 2 x)]) (h2 := zov (LM A m r) h) rfl rfl rfl hq_1 ?_
  have hD : zND (LM A m r) := hD
  have q_2 := inB_spec 0 2 x
  refine Zn.ifc (c := .eq) (off := 17) 26 (by decide +kernel) rfl ⟨by omega, by omega⟩ (fun c_3 => absurd (show inB 0 2 x = 0 from c_3) (by omega)) (fun c_3 => ?_)
  have c_3 : ¬ (inB 0 2 x = 0) := c_3
  refine Zn.seg (pc2 := 13) (ls2 := [some (za (A 0)), some (zi x), some (zi y), none]) (st2 := [zi y]) [(12, .iload_n 2)] (by decide +kernel) rfl ?_
  refine Zn.i2l (by decide +kernel) ⟨by omega, by omega⟩ ?_
  refine Zn.seg (pc2 := 20) (ls2 := [some (za (A 0)), some (zi x), some (zi y), none]) (st2 := [zj 3, zj (-3), zj y]) [(14, .ldc2_w 116), (17, .ldc2_w 112)] (by decide +kernel) rfl ?_
  refine Zn.call (ins := .invokestatic 77) [zj y, zj (-3), zj 3] [] (by decide +kernel) rfl rfl rfl ⟨rfl, rfl⟩ ⟨rfl, rfl, rfl⟩ rfl (zrecvS (by decide)) (sp_X8_in (x := y) (lo := (-3)) (hi := 3) (⟨by omega, by omega⟩) (⟨by decide, by decide⟩) (⟨by decide, by decide⟩)) (fun v h2 hp => ?_)
  obtain ⟨rfl, hq_4⟩ := hp
  refine Zn.eq (pc2 := 23) (ls2 := [some (za (A 0)), some (zi x), some (zi y), none]) (st2 := [zi (inB (-3) 3 y)]) (h2 := zov (LM A m r) h) rfl rfl rfl hq_4 ?_
  have hD : zND (LM A m r) := hD
  have q_5 := inB_spec (-3) 3 y
  refine Zn.ifc (c := .ne) (off := 5) 28 (by decide +kernel) rfl ⟨by omega, by omega⟩ (fun c_6 => ?_) (fun c_6 => absurd (show inB (-3) 3 y ≠ 0 from by omega) c_6)
  have c_6 : inB (-3) 3 y ≠ 0 := c_6
  refine Zn.seg (pc2 := 29) (ls2 := [some (za (A 0)), some (zi x), some (zi y), none]) (st2 := [za (A 0)]) [(28, .aload_n 0)] (by decide +kernel) rfl ?_
  refine Zn.get (ix := 7) hD 0 (by decide +kernel) rfl rfl rfl ?_
  refine Zn.seg (pc2 := 35) (ls2 := [some (za (A 0)), some (zi x), some (zi y), none]) (st2 := [zi (1 + x), za (A 1)]) [(32, .iconst 1), (33, .iload_n 1), (34, .iadd)] (by decide +kernel) rfl ?_
  refine Zn.iald hD 1 (j + 1) (by decide +kernel) rfl (by omega) (by omega) rfl ?_
  refine Zn.seg (pc2 := 39) (ls2 := [some (za (A 0)), some (zi x), some (zi y), some (zi ((r 1) (j + 1)))]) (st2 := [zi y, zi ((r 1) (j + 1))]) [(36, .istore_n 3), (37, .iload_n 3), (38, .iload_n 2)] (by decide +kernel) rfl ?_
  refine Zn.icmp (c := .ne) (off := 6) 45 (by decide +kernel) rfl ⟨by omega, by omega⟩ ⟨by omega, by omega⟩ (fun c_7 => absurd (show (r 1) (j + 1) ≠ y from c_7) (by omega)) (fun c_7 => ?_)
  have c_7 : ¬ ((r 1) (j + 1) ≠ y) := c_7
  refine Zn.seg (pc2 := 44) (ls2 := [some (za (A 0)), some (zi x), some (zi y), some (zi ((r 1) (j + 1)))]) (st2 := [zi (-2)]) [(42, .bipush (-2))] (by decide +kernel) rfl ?_
  exact Zn.iret (by decide +kernel) rfl (⟨by first | rfl | (refine congrArg some (congrArg zi ?_); first | omega | (simp_all; done) | (simp_all; omega)), hh.symm⟩)
theorem sp_X8_under_ok {h : xH} {A : Nat → Nat} {m : Nat → Int} {r : Nat → Nat → Int} {x y : Int} {j u : Nat} (hL : ∀ q ∈ LM A m r, h q.1 = zcE q.2) (hD : zND (LM A m r)) (hx : x = (j : Int)) (hj : j < 3) (hyr : -3 ≤ y ∧ y ≤ 3) (hq : -3 ≤ r 1 (j + 1) ∧ r 1 (j + 1) ≤ 3) (hu : m 1 = (u : Int)) (hu6 : u ≤ 6) (h1 : r 1 (j + 1) ≠ y) : zEv k_X8_under [za (A 0), zi x, zi y] h (fun v h2 => v = some (zi (r 1 (j + 1) + 3)) ∧ h2 = zov (LM A (va_up m 1 (ntU u : Int)) (va_up r 1 (va_up (ntR (r 1) u) (j + 1) y))) h) := by
  have hh : h = zov (LM A m r) h := zov_self hL
  refine zEv.body (I := (8, xI_X8_under, 4, 1, 25, 0, 0, false)) (rt := (some .int)) [some (za (A 0)), some (zi x), some (zi y), none] rfl rfl rfl rfl ?_
  refine Zn.eq rfl rfl rfl hh ?_
  have hD : zND (LM A m r) := hD
  refine Zn.seg (pc2 := 1) (ls2 := [some (za (A 0)), some (zi x), some (zi y), none]) (st2 := [zi x]) [(0, .iload_n 1)] (by decide +kernel) rfl ?_
  refine Zn.i2l (by decide +kernel) ⟨by omega, by omega⟩ ?_
  refine Zn.seg (pc2 := 6) (ls2 := [some (za (A 0)), some (zi x), some (zi y), none]) (st2 := [zj 2, zj 0, zj x]) [(2, .lconst 0), (3, .ldc2_w 114)] (by decide +kernel) rfl ?_
  refine Zn.call (ins := .invokestatic 77) [zj x, zj 0, zj 2] [] (by decide +kernel) rfl rfl rfl ⟨rfl, rfl⟩ ⟨rfl, rfl, rfl⟩ rfl (zrecvS (by decide)) (sp_X8_in (x := x) (lo := 0) (hi := 2) (⟨by omega, by omega⟩) (⟨by decide, by decide⟩) (⟨by decide, by decide⟩)) (fun v h2 hp => ?_)
  obtain ⟨rfl, hq_1⟩ := hp
  refine Zn.eq (pc2 := 9) (ls2 := [some (za (A 0)), some (zi x), some (zi y), none]) (st2 := [zi (inB 0 2 x)]) (h2 := zov (LM A m r) h) rfl rfl rfl hq_1 ?_
  have hD : zND (LM A m r) := hD
  have q_2 := inB_spec 0 2 x
  refine Zn.ifc (c := .eq) (off := 17) 26 (by decide +kernel) rfl ⟨by omega, by omega⟩ (fun c_3 => absurd (show inB 0 2 x = 0 from c_3) (by omega)) (fun c_3 => ?_)
  have c_3 : ¬ (inB 0 2 x = 0) := c_3
  refine Zn.seg (pc2 := 13) (ls2 := [some (za (A 0)), some (zi x), some (zi y), none]) (st2 := [zi y]) [(12, .iload_n 2)] (by decide +kernel) rfl ?_
  refine Zn.i2l (by decide +kernel) ⟨by omega, by omega⟩ ?_
  refine Zn.seg (pc2 := 20) (ls2 := [some (za (A 0)), some (zi x), some (zi y), none]) (st2 := [zj 3, zj (-3), zj y]) [(14, .ldc2_w 116), (17, .ldc2_w 112)] (by decide +kernel) rfl ?_
  refine Zn.call (ins := .invokestatic 77) [zj y, zj (-3), zj 3] [] (by decide +kernel) rfl rfl rfl ⟨rfl, rfl⟩ ⟨rfl, rfl, rfl⟩ rfl (zrecvS (by decide)) (sp_X8_in (x := y) (lo := (-3)) (hi := 3) (⟨by omega, by omega⟩) (⟨by decide, by decide⟩) (⟨by decide, by decide⟩)) (fun v h2 hp => ?_)
  obtain ⟨rfl, hq_4⟩ := hp
  refine Zn.eq (pc2 := 23) (ls2 := [some (za (A 0)), some (zi x), some (zi y), none]) (st2 := [zi (inB (-3) 3 y)]) (h2 := zov (LM A m r) h) rfl rfl rfl hq_4 ?_
  have hD : zND (LM A m r) := hD
  have q_5 := inB_spec (-3) 3 y
  refine Zn.ifc (c := .ne) (off := 5) 28 (by decide +kernel) rfl ⟨by omega, by omega⟩ (fun c_6 => ?_) (fun c_6 => absurd (show inB (-3) 3 y ≠ 0 from by omega) c_6)
  have c_6 : inB (-3) 3 y ≠ 0 := c_6
  refine Zn.seg (pc2 := 29) (ls2 := [some (za (A 0)), some (zi x), some (zi y), none]) (st2 := [za (A 0)]) [(28, .aload_n 0)] (by decide +kernel) rfl ?_
  refine Zn.get (ix := 7) hD 0 (by decide +kernel) rfl rfl rfl ?_
  refine Zn.seg (pc2 := 35) (ls2 := [some (za (A 0)), some (zi x), some (zi y), none]) (st2 := [zi (1 + x), za (A 1)]) [(32, .iconst 1), (33, .iload_n 1), (34, .iadd)] (by decide +kernel) rfl ?_
  refine Zn.iald hD 1 (j + 1) (by decide +kernel) rfl (by omega) (by omega) rfl ?_
  refine Zn.seg (pc2 := 39) (ls2 := [some (za (A 0)), some (zi x), some (zi y), some (zi ((r 1) (j + 1)))]) (st2 := [zi y, zi ((r 1) (j + 1))]) [(36, .istore_n 3), (37, .iload_n 3), (38, .iload_n 2)] (by decide +kernel) rfl ?_
  refine Zn.icmp (c := .ne) (off := 6) 45 (by decide +kernel) rfl ⟨by omega, by omega⟩ ⟨by omega, by omega⟩ (fun c_7 => ?_) (fun c_7 => absurd (show (r 1) (j + 1) ≠ y from by omega) c_7)
  have c_7 : (r 1) (j + 1) ≠ y := c_7
  refine Zn.seg (pc2 := 46) (ls2 := [some (za (A 0)), some (zi x), some (zi y), some (zi ((r 1) (j + 1)))]) (st2 := [za (A 0)]) [(45, .aload_n 0)] (by decide +kernel) rfl ?_
  refine Zn.call (ins := .invokevirtual 105) [za (A 0)] [] (by decide +kernel) rfl rfl rfl ⟨rfl, rfl⟩ ⟨rfl, rfl, rfl⟩ rfl (zrecvV hD (p := 0) rfl rfl rfl) (sp_X8_notes (A := A) (m := m) (r := r) (u := u) (zov_all hD) hD (hu) (hu6)) (fun v h2 hp => ?_)
  obtain ⟨rfl, hq_8⟩ := hp
  refine Zn.eq (pc2 := 49) (ls2 := [some (za (A 0)), some (zi x), some (zi y), some (zi ((r 1) (j + 1)))]) (st2 := []) (h2 := zov (LM A (va_up m 1 (ntU u : Int)) (va_up r 1 (ntR (r 1) u))) h) rfl rfl rfl (hq_8.trans (LM_over _ _ _ _ _ _)) ?_
  have hD : zND (LM A (va_up m 1 (ntU u : Int)) (va_up r 1 (ntR (r 1) u))) := hD
  refine Zn.seg (pc2 := 50) (ls2 := [some (za (A 0)), some (zi x), some (zi y), some (zi ((r 1) (j + 1)))]) (st2 := [za (A 0)]) [(49, .aload_n 0)] (by decide +kernel) rfl ?_
  refine Zn.get (ix := 7) hD 0 (by decide +kernel) rfl rfl rfl ?_
  refine Zn.seg (pc2 := 57) (ls2 := [some (za (A 0)), some (zi x), some (zi y), some (zi ((r 1) (j + 1)))]) (st2 := [zi y, zi (1 + x), za (A 1)]) [(53, .iconst 1), (54, .iload_n 1), (55, .iadd), (56, .iload_n 2)] (by decide +kernel) rfl ?_
  refine Zn.iast hD 1 (j + 1) (by decide +kernel) rfl (by omega) (by omega) rfl ?_
  refine Zn.eq (h2 := zov (LM A (va_up m 1 (ntU u : Int)) (va_up r 1 (va_up (ntR (r 1) u) (j + 1) y))) h) rfl rfl rfl (rfl) ?_
  have hD : zND (LM A (va_up m 1 (ntU u : Int)) (va_up r 1 (va_up (ntR (r 1) u) (j + 1) y))) := hD
  refine Zn.seg (pc2 := 61) (ls2 := [some (za (A 0)), some (zi x), some (zi y), some (zi ((r 1) (j + 1)))]) (st2 := [zi ((r 1) (j + 1) + 3)]) [(58, .iload_n 3), (59, .iconst 3), (60, .iadd)] (by decide +kernel) rfl ?_
  exact Zn.iret (by decide +kernel) rfl (⟨by first | rfl | (refine congrArg some (congrArg zi ?_); first | omega | (simp_all; done) | (simp_all; omega)), rfl⟩)
theorem sp_X8_told_bad1 {h : xH} {A : Nat → Nat} {m : Nat → Int} {r : Nat → Nat → Int} {x y : Int} (hL : ∀ q ∈ LM A m r, h q.1 = zcE q.2) (hD : zND (LM A m r)) (zx : zInI x) (zy : zInI y) (hb : ¬ (-6 ≤ x ∧ x ≤ 6)) : zEv k_X8_told [za (A 0), zi x, zi y] h (fun v h2 => v = some (zi (-1)) ∧ h2 = h) := by
  have hh : h = zov (LM A m r) h := zov_self hL
  have zx1 := zx.1
  have zx2 := zx.2
  have zy1 := zy.1
  have zy2 := zy.2
  refine zEv.body (I := (8, xI_X8_told, 5, 2, 46, 0, 0, false)) (rt := (some .int)) [some (za (A 0)), some (zi x), some (zi y), none, none] rfl rfl rfl rfl ?_
  refine Zn.eq rfl rfl rfl hh ?_
  have hD : zND (LM A m r) := hD
  refine Zn.seg (pc2 := 1) (ls2 := [some (za (A 0)), some (zi x), some (zi y), none, none]) (st2 := [zi x]) [(0, .iload_n 1)] (by decide +kernel) rfl ?_
  refine Zn.i2l (by decide +kernel) ⟨by omega, by omega⟩ ?_
  refine Zn.call (ins := .invokestatic 94) [zj x] [] (by decide +kernel) rfl rfl rfl ⟨rfl, rfl⟩ ⟨rfl, rfl, rfl⟩ rfl (zrecvS (by decide)) (sp_X8_isX (x := x) (⟨by omega, by omega⟩)) (fun v h2 hp => ?_)
  obtain ⟨rfl, hq_1⟩ := hp
  refine Zn.eq (pc2 := 5) (ls2 := [some (za (A 0)), some (zi x), some (zi y), none, none]) (st2 := [zi (inB (-6) 6 x)]) (h2 := zov (LM A m r) h) rfl rfl rfl hq_1 ?_
  have hD : zND (LM A m r) := hD
  have q_2 := inB_spec (-6) 6 x
  refine Zn.ifc (c := .eq) (off := 15) 20 (by decide +kernel) rfl ⟨by omega, by omega⟩ (fun c_3 => ?_) (fun c_3 => absurd (show inB (-6) 6 x = 0 from by omega) c_3)
  have c_3 : inB (-6) 6 x = 0 := c_3
  refine Zn.seg (pc2 := 21) (ls2 := [some (za (A 0)), some (zi x), some (zi y), none, none]) (st2 := [zi (-1)]) [(20, .iconst (-1))] (by decide +kernel) rfl ?_
  exact Zn.iret (by decide +kernel) rfl (⟨by first | rfl | (refine congrArg some (congrArg zi ?_); first | omega | (simp_all; done) | (simp_all; omega)), hh.symm⟩)
theorem sp_X8_told_bad2 {h : xH} {A : Nat → Nat} {m : Nat → Int} {r : Nat → Nat → Int} {x y : Int} (hL : ∀ q ∈ LM A m r, h q.1 = zcE q.2) (hD : zND (LM A m r)) (zx : zInI x) (zy : zInI y) (hi : -6 ≤ x ∧ x ≤ 6) (hb : ¬ (0 ≤ y ∧ y ≤ 3)) : zEv k_X8_told [za (A 0), zi x, zi y] h (fun v h2 => v = some (zi (-1)) ∧ h2 = h) := by
  have hh : h = zov (LM A m r) h := zov_self hL
  have zx1 := zx.1
  have zx2 := zx.2
  have zy1 := zy.1
  have zy2 := zy.2
  refine zEv.body (I := (8, xI_X8_told, 5, 2, 46, 0, 0, false)) (rt := (some .int)) [some (za (A 0)), some (zi x), some (zi y), none, none] rfl rfl rfl rfl ?_
  refine Zn.eq rfl rfl rfl hh ?_
  have hD : zND (LM A m r) := hD
  refine Zn.seg (pc2 := 1) (ls2 := [some (za (A 0)), some (zi x), some (zi y), none, none]) (st2 := [zi x]) [(0, .iload_n 1)] (by decide +kernel) rfl ?_
  refine Zn.i2l (by decide +kernel) ⟨by omega, by omega⟩ ?_
  refine Zn.call (ins := .invokestatic 94) [zj x] [] (by decide +kernel) rfl rfl rfl ⟨rfl, rfl⟩ ⟨rfl, rfl, rfl⟩ rfl (zrecvS (by decide)) (sp_X8_isX (x := x) (⟨by omega, by omega⟩)) (fun v h2 hp => ?_)
  obtain ⟨rfl, hq_1⟩ := hp
  refine Zn.eq (pc2 := 5) (ls2 := [some (za (A 0)), some (zi x), some (zi y), none, none]) (st2 := [zi (inB (-6) 6 x)]) (h2 := zov (LM A m r) h) rfl rfl rfl hq_1 ?_
  have hD : zND (LM A m r) := hD
  have q_2 := inB_spec (-6) 6 x
  refine Zn.ifc (c := .eq) (off := 15) 20 (by decide +kernel) rfl ⟨by omega, by omega⟩ (fun c_3 => absurd (show inB (-6) 6 x = 0 from c_3) (by omega)) (fun c_3 => ?_)
  have c_3 : ¬ (inB (-6) 6 x = 0) := c_3
  refine Zn.seg (pc2 := 9) (ls2 := [some (za (A 0)), some (zi x), some (zi y), none, none]) (st2 := [zi y]) [(8, .iload_n 2)] (by decide +kernel) rfl ?_
  refine Zn.i2l (by decide +kernel) ⟨by omega, by omega⟩ ?_
  refine Zn.seg (pc2 := 14) (ls2 := [some (za (A 0)), some (zi x), some (zi y), none, none]) (st2 := [zj 3, zj 0, zj y]) [(10, .lconst 0), (11, .ldc2_w 112)] (by decide +kernel) rfl ?_
  refine Zn.call (ins := .invokestatic 77) [zj y, zj 0, zj 3] [] (by decide +kernel) rfl rfl rfl ⟨rfl, rfl⟩ ⟨rfl, rfl, rfl⟩ rfl (zrecvS (by decide)) (sp_X8_in (x := y) (lo := 0) (hi := 3) (⟨by omega, by omega⟩) (⟨by decide, by decide⟩) (⟨by decide, by decide⟩)) (fun v h2 hp => ?_)
  obtain ⟨rfl, hq_4⟩ := hp
  refine Zn.eq (pc2 := 17) (ls2 := [some (za (A 0)), some (zi x), some (zi y), none, none]) (st2 := [zi (inB 0 3 y)]) (h2 := zov (LM A m r) h) rfl rfl rfl hq_4 ?_
  have hD : zND (LM A m r) := hD
  have q_5 := inB_spec 0 3 y
  refine Zn.ifc (c := .ne) (off := 5) 22 (by decide +kernel) rfl ⟨by omega, by omega⟩ (fun c_6 => absurd (show inB 0 3 y ≠ 0 from c_6) (by omega)) (fun c_6 => ?_)
  have c_6 : ¬ (inB 0 3 y ≠ 0) := c_6
  refine Zn.seg (pc2 := 21) (ls2 := [some (za (A 0)), some (zi x), some (zi y), none, none]) (st2 := [zi (-1)]) [(20, .iconst (-1))] (by decide +kernel) rfl ?_
  exact Zn.iret (by decide +kernel) rfl (⟨by first | rfl | (refine congrArg some (congrArg zi ?_); first | omega | (simp_all; done) | (simp_all; omega)), hh.symm⟩)
theorem sp_X8_told_none {h : xH} {A : Nat → Nat} {m : Nat → Int} {r : Nat → Nat → Int} {x y : Int} {p : Nat} (hL : ∀ q ∈ LM A m r, h q.1 = zcE q.2) (hD : zND (LM A m r)) (hx : x = (p : Int) - 6) (hp : p < 13) (hyr : 0 ≤ y ∧ y ≤ 3) (hk : kOK (r 1)) (h1 : r 1 (p + 18) = 0) : zEv k_X8_told [za (A 0), zi x, zi y] h (fun v h2 => v = some (zi (-4)) ∧ h2 = h) := by
  have hh : h = zov (LM A m r) h := zov_self hL
  have hki := hk p hp
  refine zEv.body (I := (8, xI_X8_told, 5, 2, 46, 0, 0, false)) (rt := (some .int)) [some (za (A 0)), some (zi x), some (zi y), none, none] rfl rfl rfl rfl ?_
  refine Zn.eq rfl rfl rfl hh ?_
  have hD : zND (LM A m r) := hD
  refine Zn.seg (pc2 := 1) (ls2 := [some (za (A 0)), some (zi x), some (zi y), none, none]) (st2 := [zi x]) [(0, .iload_n 1)] (by decide +kernel) rfl ?_
  refine Zn.i2l (by decide +kernel) ⟨by omega, by omega⟩ ?_
  refine Zn.call (ins := .invokestatic 94) [zj x] [] (by decide +kernel) rfl rfl rfl ⟨rfl, rfl⟩ ⟨rfl, rfl, rfl⟩ rfl (zrecvS (by decide)) (sp_X8_isX (x := x) (⟨by omega, by omega⟩)) (fun v h2 hp => ?_)
  obtain ⟨rfl, hq_1⟩ := hp
  refine Zn.eq (pc2 := 5) (ls2 := [some (za (A 0)), some (zi x), some (zi y), none, none]) (st2 := [zi (inB (-6) 6 x)]) (h2 := zov (LM A m r) h) rfl rfl rfl hq_1 ?_
  have hD : zND (LM A m r) := hD
  have q_2 := inB_spec (-6) 6 x
  refine Zn.ifc (c := .eq) (off := 15) 20 (by decide +kernel) rfl ⟨by omega, by omega⟩ (fun c_3 => absurd (show inB (-6) 6 x = 0 from c_3) (by omega)) (fun c_3 => ?_)
  have c_3 : ¬ (inB (-6) 6 x = 0) := c_3
  refine Zn.seg (pc2 := 9) (ls2 := [some (za (A 0)), some (zi x), some (zi y), none, none]) (st2 := [zi y]) [(8, .iload_n 2)] (by decide +kernel) rfl ?_
  refine Zn.i2l (by decide +kernel) ⟨by omega, by omega⟩ ?_
  refine Zn.seg (pc2 := 14) (ls2 := [some (za (A 0)), some (zi x), some (zi y), none, none]) (st2 := [zj 3, zj 0, zj y]) [(10, .lconst 0), (11, .ldc2_w 112)] (by decide +kernel) rfl ?_
  refine Zn.call (ins := .invokestatic 77) [zj y, zj 0, zj 3] [] (by decide +kernel) rfl rfl rfl ⟨rfl, rfl⟩ ⟨rfl, rfl, rfl⟩ rfl (zrecvS (by decide)) (sp_X8_in (x := y) (lo := 0) (hi := 3) (⟨by omega, by omega⟩) (⟨by decide, by decide⟩) (⟨by decide, by decide⟩)) (fun v h2 hp => ?_)
  obtain ⟨rfl, hq_4⟩ := hp
  refine Zn.eq (pc2 := 17) (ls2 := [some (za (A 0)), some (zi x), some (zi y), none, none]) (st2 := [zi (inB 0 3 y)]) (h2 := zov (LM A m r) h) rfl rfl rfl hq_4 ?_
  have hD : zND (LM A m r) := hD
  have q_5 := inB_spec 0 3 y
  refine Zn.ifc (c := .ne) (off := 5) 22 (by decide +kernel) rfl ⟨by omega, by omega⟩ (fun c_6 => ?_) (fun c_6 => absurd (show inB 0 3 y ≠ 0 from by omega) c_6)
  have c_6 : inB 0 3 y ≠ 0 := c_6
  refine Zn.seg (pc2 := 24) (ls2 := [some (za (A 0)), some (zi x), some (zi y), none, none]) (st2 := [zi x, za (A 0)]) [(22, .aload_n 0), (23, .iload_n 1)] (by decide +kernel) rfl ?_
  refine Zn.call (ins := .invokevirtual 81) [za (A 0), zi x] [] (by decide +kernel) rfl rfl rfl ⟨rfl, rfl⟩ ⟨rfl, rfl, rfl⟩ rfl (zrecvV hD (p := 0) rfl rfl rfl) (sp_X8_kind (A := A) (m := m) (r := r) (x := x) (p := p) (zov_all hD) hD (by first | assumption | omega) (by first | assumption | omega)) (fun v h2 hp => ?_)
  obtain ⟨rfl, hq_7⟩ := hp
  refine Zn.eq (pc2 := 27) (ls2 := [some (za (A 0)), some (zi x), some (zi y), none, none]) (st2 := [zi (r 1 (p + 18))]) (h2 := zov (LM A m r) h) rfl rfl rfl hq_7 ?_
  have hD : zND (LM A m r) := hD
  refine Zn.ifc (c := .ne) (off := 6) 33 (by decide +kernel) rfl ⟨by omega, by omega⟩ (fun c_8 => absurd (show r 1 (p + 18) ≠ 0 from c_8) (by omega)) (fun c_8 => ?_)
  have c_8 : ¬ (r 1 (p + 18) ≠ 0) := c_8
  refine Zn.seg (pc2 := 32) (ls2 := [some (za (A 0)), some (zi x), some (zi y), none, none]) (st2 := [zi (-4)]) [(30, .bipush (-4))] (by decide +kernel) rfl ?_
  exact Zn.iret (by decide +kernel) rfl (⟨by first | rfl | (refine congrArg some (congrArg zi ?_); first | omega | (simp_all; done) | (simp_all; omega)), hh.symm⟩)
theorem sp_X8_told_w0 {h : xH} {A : Nat → Nat} {m : Nat → Int} {r : Nat → Nat → Int} {x : Int} {p : Nat} (hL : ∀ q ∈ LM A m r, h q.1 = zcE q.2) (hD : zND (LM A m r)) (hx : x = (p : Int) - 6) (hp : p < 13) (hk : kOK (r 1)) (h1 : r 1 (p + 18) ≠ 0) (hy : -99 ≤ r 1 (p + 5) ∧ r 1 (p + 5) ≤ 99) : zEv k_X8_told [za (A 0), zi x, zi 0] h (fun v h2 => v = some (zi (r 1 (p + 5) + 99)) ∧ h2 = h) := by
  have hh : h = zov (LM A m r) h := zov_self hL
  have hki := hk p hp
  refine zEv.body (I := (8, xI_X8_told, 5, 2, 46, 0, 0, false)) (rt := (some .int)) [some (za (A 0)), some (zi x), some (zi 0), none, none] rfl rfl rfl rfl ?_
  refine Zn.eq rfl rfl rfl hh ?_
  have hD : zND (LM A m r) := hD
  refine Zn.seg (pc2 := 1) (ls2 := [some (za (A 0)), some (zi x), some (zi 0), none, none]) (st2 := [zi x]) [(0, .iload_n 1)] (by decide +kernel) rfl ?_
  refine Zn.i2l (by decide +kernel) ⟨by omega, by omega⟩ ?_
  refine Zn.call (ins := .invokestatic 94) [zj x] [] (by decide +kernel) rfl rfl rfl ⟨rfl, rfl⟩ ⟨rfl, rfl, rfl⟩ rfl (zrecvS (by decide)) (sp_X8_isX (x := x) (⟨by omega, by omega⟩)) (fun v h2 hp => ?_)
  obtain ⟨rfl, hq_1⟩ := hp
  refine Zn.eq (pc2 := 5) (ls2 := [some (za (A 0)), some (zi x), some (zi 0), none, none]) (st2 := [zi (inB (-6) 6 x)]) (h2 := zov (LM A m r) h) rfl rfl rfl hq_1 ?_
  have hD : zND (LM A m r) := hD
  have q_2 := inB_spec (-6) 6 x
  refine Zn.ifc (c := .eq) (off := 15) 20 (by decide +kernel) rfl ⟨by omega, by omega⟩ (fun c_3 => absurd (show inB (-6) 6 x = 0 from c_3) (by omega)) (fun c_3 => ?_)
  have c_3 : ¬ (inB (-6) 6 x = 0) := c_3
  refine Zn.seg (pc2 := 9) (ls2 := [some (za (A 0)), some (zi x), some (zi 0), none, none]) (st2 := [zi 0]) [(8, .iload_n 2)] (by decide +kernel) rfl ?_
  refine Zn.i2l (by decide +kernel) ⟨by decide, by decide⟩ ?_
  refine Zn.seg (pc2 := 14) (ls2 := [some (za (A 0)), some (zi x), some (zi 0), none, none]) (st2 := [zj 3, zj 0, zj 0]) [(10, .lconst 0), (11, .ldc2_w 112)] (by decide +kernel) rfl ?_
  refine Zn.call (ins := .invokestatic 77) [zj 0, zj 0, zj 3] [] (by decide +kernel) rfl rfl rfl ⟨rfl, rfl⟩ ⟨rfl, rfl, rfl⟩ rfl (zrecvS (by decide)) (sp_X8_in (x := 0) (lo := 0) (hi := 3) (⟨by omega, by omega⟩) (⟨by decide, by decide⟩) (⟨by decide, by decide⟩)) (fun v h2 hp => ?_)
  obtain ⟨rfl, hq_4⟩ := hp
  refine Zn.eq (pc2 := 17) (ls2 := [some (za (A 0)), some (zi x), some (zi 0), none, none]) (st2 := [zi (inB 0 3 0)]) (h2 := zov (LM A m r) h) rfl rfl rfl hq_4 ?_
  have hD : zND (LM A m r) := hD
  have q_5 := inB_spec 0 3 0
  refine Zn.ifc (c := .ne) (off := 5) 22 (by decide +kernel) rfl ⟨by omega, by omega⟩ (fun c_6 => ?_) (fun c_6 => absurd (show inB 0 3 0 ≠ 0 from by omega) c_6)
  have c_6 : inB 0 3 0 ≠ 0 := c_6
  refine Zn.seg (pc2 := 24) (ls2 := [some (za (A 0)), some (zi x), some (zi 0), none, none]) (st2 := [zi x, za (A 0)]) [(22, .aload_n 0), (23, .iload_n 1)] (by decide +kernel) rfl ?_
  refine Zn.call (ins := .invokevirtual 81) [za (A 0), zi x] [] (by decide +kernel) rfl rfl rfl ⟨rfl, rfl⟩ ⟨rfl, rfl, rfl⟩ rfl (zrecvV hD (p := 0) rfl rfl rfl) (sp_X8_kind (A := A) (m := m) (r := r) (x := x) (p := p) (zov_all hD) hD (by first | assumption | omega) (by first | assumption | omega)) (fun v h2 hp => ?_)
  obtain ⟨rfl, hq_7⟩ := hp
  refine Zn.eq (pc2 := 27) (ls2 := [some (za (A 0)), some (zi x), some (zi 0), none, none]) (st2 := [zi (r 1 (p + 18))]) (h2 := zov (LM A m r) h) rfl rfl rfl hq_7 ?_
  have hD : zND (LM A m r) := hD
  refine Zn.ifc (c := .ne) (off := 6) 33 (by decide +kernel) rfl ⟨by omega, by omega⟩ (fun c_8 => ?_) (fun c_8 => absurd (show r 1 (p + 18) ≠ 0 from by omega) c_8)
  have c_8 : r 1 (p + 18) ≠ 0 := c_8
  refine Zn.seg (pc2 := 34) (ls2 := [some (za (A 0)), some (zi x), some (zi 0), none, none]) (st2 := [zi 0]) [(33, .iload_n 2)] (by decide +kernel) rfl ?_
  refine Zn.ifc (c := .ne) (off := 12) 46 (by decide +kernel) rfl ⟨by decide, by decide⟩ (fun c_9 => absurd (show (0 : Int) ≠ 0 from c_9) (by decide)) (fun c_9 => ?_)
  have c_9 : ¬ ((0 : Int) ≠ 0) := c_9
  refine Zn.seg (pc2 := 39) (ls2 := [some (za (A 0)), some (zi x), some (zi 0), none, none]) (st2 := [zi x, za (A 0)]) [(37, .aload_n 0), (38, .iload_n 1)] (by decide +kernel) rfl ?_
  refine Zn.call (ins := .invokevirtual 102) [za (A 0), zi x] [] (by decide +kernel) rfl rfl rfl ⟨rfl, rfl⟩ ⟨rfl, rfl, rfl⟩ rfl (zrecvV hD (p := 0) rfl rfl rfl) (sp_X8_y (A := A) (m := m) (r := r) (x := x) (p := p) (zov_all hD) hD (by first | assumption | omega) (by first | assumption | omega)) (fun v h2 hp => ?_)
  obtain ⟨rfl, hq_10⟩ := hp
  refine Zn.eq (pc2 := 42) (ls2 := [some (za (A 0)), some (zi x), some (zi 0), none, none]) (st2 := [zi (r 1 (p + 5))]) (h2 := zov (LM A m r) h) rfl rfl rfl hq_10 ?_
  have hD : zND (LM A m r) := hD
  refine Zn.seg (pc2 := 45) (ls2 := [some (za (A 0)), some (zi x), some (zi 0), none, none]) (st2 := [zi (r 1 (p + 5) + 99)]) [(42, .bipush 99), (44, .iadd)] (by decide +kernel) rfl ?_
  exact Zn.iret (by decide +kernel) rfl (⟨by first | rfl | (refine congrArg some (congrArg zi ?_); first | omega | (simp_all; done) | (simp_all; omega)), hh.symm⟩)
theorem sp_X8_told_w1 {h : xH} {A : Nat → Nat} {m : Nat → Int} {r : Nat → Nat → Int} {x : Int} {p : Nat} (hL : ∀ q ∈ LM A m r, h q.1 = zcE q.2) (hD : zND (LM A m r)) (hx : x = (p : Int) - 6) (hp : p < 13) (hk : kOK (r 1)) (h1 : r 1 (p + 18) ≠ 0) : zEv k_X8_told [za (A 0), zi x, zi 1] h (fun v h2 => v = some (zi (r 1 (p + 18) - 1)) ∧ h2 = h) := by
  have hh : h = zov (LM A m r) h := zov_self hL
  have hki := hk p hp
  refine zEv.body (I := (8, xI_X8_told, 5, 2, 46, 0, 0, false)) (rt := (some .int)) [some (za (A 0)), some (zi x), some (zi 1), none, none] rfl rfl rfl rfl ?_
  refine Zn.eq rfl rfl rfl hh ?_
  have hD : zND (LM A m r) := hD
  refine Zn.seg (pc2 := 1) (ls2 := [some (za (A 0)), some (zi x), some (zi 1), none, none]) (st2 := [zi x]) [(0, .iload_n 1)] (by decide +kernel) rfl ?_
  refine Zn.i2l (by decide +kernel) ⟨by omega, by omega⟩ ?_
  refine Zn.call (ins := .invokestatic 94) [zj x] [] (by decide +kernel) rfl rfl rfl ⟨rfl, rfl⟩ ⟨rfl, rfl, rfl⟩ rfl (zrecvS (by decide)) (sp_X8_isX (x := x) (⟨by omega, by omega⟩)) (fun v h2 hp => ?_)
  obtain ⟨rfl, hq_1⟩ := hp
  refine Zn.eq (pc2 := 5) (ls2 := [some (za (A 0)), some (zi x), some (zi 1), none, none]) (st2 := [zi (inB (-6) 6 x)]) (h2 := zov (LM A m r) h) rfl rfl rfl hq_1 ?_
  have hD : zND (LM A m r) := hD
  have q_2 := inB_spec (-6) 6 x
  refine Zn.ifc (c := .eq) (off := 15) 20 (by decide +kernel) rfl ⟨by omega, by omega⟩ (fun c_3 => absurd (show inB (-6) 6 x = 0 from c_3) (by omega)) (fun c_3 => ?_)
  have c_3 : ¬ (inB (-6) 6 x = 0) := c_3
  refine Zn.seg (pc2 := 9) (ls2 := [some (za (A 0)), some (zi x), some (zi 1), none, none]) (st2 := [zi 1]) [(8, .iload_n 2)] (by decide +kernel) rfl ?_
  refine Zn.i2l (by decide +kernel) ⟨by decide, by decide⟩ ?_
  refine Zn.seg (pc2 := 14) (ls2 := [some (za (A 0)), some (zi x), some (zi 1), none, none]) (st2 := [zj 3, zj 0, zj 1]) [(10, .lconst 0), (11, .ldc2_w 112)] (by decide +kernel) rfl ?_
  refine Zn.call (ins := .invokestatic 77) [zj 1, zj 0, zj 3] [] (by decide +kernel) rfl rfl rfl ⟨rfl, rfl⟩ ⟨rfl, rfl, rfl⟩ rfl (zrecvS (by decide)) (sp_X8_in (x := 1) (lo := 0) (hi := 3) (⟨by omega, by omega⟩) (⟨by decide, by decide⟩) (⟨by decide, by decide⟩)) (fun v h2 hp => ?_)
  obtain ⟨rfl, hq_4⟩ := hp
  refine Zn.eq (pc2 := 17) (ls2 := [some (za (A 0)), some (zi x), some (zi 1), none, none]) (st2 := [zi (inB 0 3 1)]) (h2 := zov (LM A m r) h) rfl rfl rfl hq_4 ?_
  have hD : zND (LM A m r) := hD
  have q_5 := inB_spec 0 3 1
  refine Zn.ifc (c := .ne) (off := 5) 22 (by decide +kernel) rfl ⟨by omega, by omega⟩ (fun c_6 => ?_) (fun c_6 => absurd (show inB 0 3 1 ≠ 0 from by omega) c_6)
  have c_6 : inB 0 3 1 ≠ 0 := c_6
  refine Zn.seg (pc2 := 24) (ls2 := [some (za (A 0)), some (zi x), some (zi 1), none, none]) (st2 := [zi x, za (A 0)]) [(22, .aload_n 0), (23, .iload_n 1)] (by decide +kernel) rfl ?_
  refine Zn.call (ins := .invokevirtual 81) [za (A 0), zi x] [] (by decide +kernel) rfl rfl rfl ⟨rfl, rfl⟩ ⟨rfl, rfl, rfl⟩ rfl (zrecvV hD (p := 0) rfl rfl rfl) (sp_X8_kind (A := A) (m := m) (r := r) (x := x) (p := p) (zov_all hD) hD (by first | assumption | omega) (by first | assumption | omega)) (fun v h2 hp => ?_)
  obtain ⟨rfl, hq_7⟩ := hp
  refine Zn.eq (pc2 := 27) (ls2 := [some (za (A 0)), some (zi x), some (zi 1), none, none]) (st2 := [zi (r 1 (p + 18))]) (h2 := zov (LM A m r) h) rfl rfl rfl hq_7 ?_
  have hD : zND (LM A m r) := hD
  refine Zn.ifc (c := .ne) (off := 6) 33 (by decide +kernel) rfl ⟨by omega, by omega⟩ (fun c_8 => ?_) (fun c_8 => absurd (show r 1 (p + 18) ≠ 0 from by omega) c_8)
  have c_8 : r 1 (p + 18) ≠ 0 := c_8
  refine Zn.seg (pc2 := 34) (ls2 := [some (za (A 0)), some (zi x), some (zi 1), none, none]) (st2 := [zi 1]) [(33, .iload_n 2)] (by decide +kernel) rfl ?_
  refine Zn.ifc (c := .ne) (off := 12) 46 (by decide +kernel) rfl ⟨by decide, by decide⟩ (fun c_9 => ?_) (fun c_9 => absurd (show (1 : Int) ≠ 0 from by decide) c_9)
  have c_9 : (1 : Int) ≠ 0 := c_9
  refine Zn.seg (pc2 := 48) (ls2 := [some (za (A 0)), some (zi x), some (zi 1), none, none]) (st2 := [zi 1, zi 1]) [(46, .iload_n 2), (47, .iconst 1)] (by decide +kernel) rfl ?_
  refine Zn.icmp (c := .ne) (off := 11) 59 (by decide +kernel) rfl ⟨by decide, by decide⟩ ⟨by decide, by decide⟩ (fun c_10 => absurd (show (1 : Int) ≠ 1 from c_10) (by decide)) (fun c_10 => ?_)
  have c_10 : ¬ ((1 : Int) ≠ 1) := c_10
  refine Zn.seg (pc2 := 53) (ls2 := [some (za (A 0)), some (zi x), some (zi 1), none, none]) (st2 := [zi x, za (A 0)]) [(51, .aload_n 0), (52, .iload_n 1)] (by decide +kernel) rfl ?_
  refine Zn.call (ins := .invokevirtual 81) [za (A 0), zi x] [] (by decide +kernel) rfl rfl rfl ⟨rfl, rfl⟩ ⟨rfl, rfl, rfl⟩ rfl (zrecvV hD (p := 0) rfl rfl rfl) (sp_X8_kind (A := A) (m := m) (r := r) (x := x) (p := p) (zov_all hD) hD (by first | assumption | omega) (by first | assumption | omega)) (fun v h2 hp => ?_)
  obtain ⟨rfl, hq_11⟩ := hp
  refine Zn.eq (pc2 := 56) (ls2 := [some (za (A 0)), some (zi x), some (zi 1), none, none]) (st2 := [zi (r 1 (p + 18))]) (h2 := zov (LM A m r) h) rfl rfl rfl hq_11 ?_
  have hD : zND (LM A m r) := hD
  refine Zn.seg (pc2 := 58) (ls2 := [some (za (A 0)), some (zi x), some (zi 1), none, none]) (st2 := [zi (r 1 (p + 18) - 1)]) [(56, .iconst 1), (57, .isub)] (by decide +kernel) rfl ?_
  exact Zn.iret (by decide +kernel) rfl (⟨by first | rfl | (refine congrArg some (congrArg zi ?_); first | omega | (simp_all; done) | (simp_all; omega)), hh.symm⟩)
theorem sp_X8_told_w2 {h : xH} {A : Nat → Nat} {m : Nat → Int} {r : Nat → Nat → Int} {x : Int} {p : Nat} (hL : ∀ q ∈ LM A m r, h q.1 = zcE q.2) (hD : zND (LM A m r)) (hx : x = (p : Int) - 6) (hp : p < 13) (hk : kOK (r 1)) (h1 : r 1 (p + 18) ≠ 0) : zEv k_X8_told [za (A 0), zi x, zi 2] h (fun v h2 => v = some (zi (manyN (r 1) 0 p : Int)) ∧ h2 = h) := by
  have hh : h = zov (LM A m r) h := zov_self hL
  have hki := hk p hp
  refine zEv.body (I := (8, xI_X8_told, 5, 2, 46, 0, 0, false)) (rt := (some .int)) [some (za (A 0)), some (zi x), some (zi 2), none, none] rfl rfl rfl rfl ?_
  refine Zn.eq rfl rfl rfl hh ?_
  have hD : zND (LM A m r) := hD
  refine Zn.seg (pc2 := 1) (ls2 := [some (za (A 0)), some (zi x), some (zi 2), none, none]) (st2 := [zi x]) [(0, .iload_n 1)] (by decide +kernel) rfl ?_
  refine Zn.i2l (by decide +kernel) ⟨by omega, by omega⟩ ?_
  refine Zn.call (ins := .invokestatic 94) [zj x] [] (by decide +kernel) rfl rfl rfl ⟨rfl, rfl⟩ ⟨rfl, rfl, rfl⟩ rfl (zrecvS (by decide)) (sp_X8_isX (x := x) (⟨by omega, by omega⟩)) (fun v h2 hp => ?_)
  obtain ⟨rfl, hq_1⟩ := hp
  refine Zn.eq (pc2 := 5) (ls2 := [some (za (A 0)), some (zi x), some (zi 2), none, none]) (st2 := [zi (inB (-6) 6 x)]) (h2 := zov (LM A m r) h) rfl rfl rfl hq_1 ?_
  have hD : zND (LM A m r) := hD
  have q_2 := inB_spec (-6) 6 x
  refine Zn.ifc (c := .eq) (off := 15) 20 (by decide +kernel) rfl ⟨by omega, by omega⟩ (fun c_3 => absurd (show inB (-6) 6 x = 0 from c_3) (by omega)) (fun c_3 => ?_)
  have c_3 : ¬ (inB (-6) 6 x = 0) := c_3
  refine Zn.seg (pc2 := 9) (ls2 := [some (za (A 0)), some (zi x), some (zi 2), none, none]) (st2 := [zi 2]) [(8, .iload_n 2)] (by decide +kernel) rfl ?_
  refine Zn.i2l (by decide +kernel) ⟨by decide, by decide⟩ ?_
  refine Zn.seg (pc2 := 14) (ls2 := [some (za (A 0)), some (zi x), some (zi 2), none, none]) (st2 := [zj 3, zj 0, zj 2]) [(10, .lconst 0), (11, .ldc2_w 112)] (by decide +kernel) rfl ?_
  refine Zn.call (ins := .invokestatic 77) [zj 2, zj 0, zj 3] [] (by decide +kernel) rfl rfl rfl ⟨rfl, rfl⟩ ⟨rfl, rfl, rfl⟩ rfl (zrecvS (by decide)) (sp_X8_in (x := 2) (lo := 0) (hi := 3) (⟨by omega, by omega⟩) (⟨by decide, by decide⟩) (⟨by decide, by decide⟩)) (fun v h2 hp => ?_)
  obtain ⟨rfl, hq_4⟩ := hp
  refine Zn.eq (pc2 := 17) (ls2 := [some (za (A 0)), some (zi x), some (zi 2), none, none]) (st2 := [zi (inB 0 3 2)]) (h2 := zov (LM A m r) h) rfl rfl rfl hq_4 ?_
  have hD : zND (LM A m r) := hD
  have q_5 := inB_spec 0 3 2
  refine Zn.ifc (c := .ne) (off := 5) 22 (by decide +kernel) rfl ⟨by omega, by omega⟩ (fun c_6 => ?_) (fun c_6 => absurd (show inB 0 3 2 ≠ 0 from by omega) c_6)
  have c_6 : inB 0 3 2 ≠ 0 := c_6
  refine Zn.seg (pc2 := 24) (ls2 := [some (za (A 0)), some (zi x), some (zi 2), none, none]) (st2 := [zi x, za (A 0)]) [(22, .aload_n 0), (23, .iload_n 1)] (by decide +kernel) rfl ?_
  refine Zn.call (ins := .invokevirtual 81) [za (A 0), zi x] [] (by decide +kernel) rfl rfl rfl ⟨rfl, rfl⟩ ⟨rfl, rfl, rfl⟩ rfl (zrecvV hD (p := 0) rfl rfl rfl) (sp_X8_kind (A := A) (m := m) (r := r) (x := x) (p := p) (zov_all hD) hD (by first | assumption | omega) (by first | assumption | omega)) (fun v h2 hp => ?_)
  obtain ⟨rfl, hq_7⟩ := hp
  refine Zn.eq (pc2 := 27) (ls2 := [some (za (A 0)), some (zi x), some (zi 2), none, none]) (st2 := [zi (r 1 (p + 18))]) (h2 := zov (LM A m r) h) rfl rfl rfl hq_7 ?_
  have hD : zND (LM A m r) := hD
  refine Zn.ifc (c := .ne) (off := 6) 33 (by decide +kernel) rfl ⟨by omega, by omega⟩ (fun c_8 => ?_) (fun c_8 => absurd (show r 1 (p + 18) ≠ 0 from by omega) c_8)
  have c_8 : r 1 (p + 18) ≠ 0 := c_8
  refine Zn.seg (pc2 := 34) (ls2 := [some (za (A 0)), some (zi x), some (zi 2), none, none]) (st2 := [zi 2]) [(33, .iload_n 2)] (by decide +kernel) rfl ?_
  refine Zn.ifc (c := .ne) (off := 12) 46 (by decide +kernel) rfl ⟨by decide, by decide⟩ (fun c_9 => ?_) (fun c_9 => absurd (show (2 : Int) ≠ 0 from by decide) c_9)
  have c_9 : (2 : Int) ≠ 0 := c_9
  refine Zn.seg (pc2 := 48) (ls2 := [some (za (A 0)), some (zi x), some (zi 2), none, none]) (st2 := [zi 1, zi 2]) [(46, .iload_n 2), (47, .iconst 1)] (by decide +kernel) rfl ?_
  refine Zn.icmp (c := .ne) (off := 11) 59 (by decide +kernel) rfl ⟨by decide, by decide⟩ ⟨by decide, by decide⟩ (fun c_10 => ?_) (fun c_10 => absurd (show (2 : Int) ≠ 1 from by decide) c_10)
  have c_10 : (2 : Int) ≠ 1 := c_10
  refine Zn.seg (pc2 := 61) (ls2 := [some (za (A 0)), some (zi x), some (zi 2), none, none]) (st2 := [zi 3, zi 2]) [(59, .iload_n 2), (60, .iconst 3)] (by decide +kernel) rfl ?_
  refine Zn.icmp (c := .ne) (off := 26) 87 (by decide +kernel) rfl ⟨by decide, by decide⟩ ⟨by decide, by decide⟩ (fun c_11 => ?_) (fun c_11 => absurd (show (2 : Int) ≠ 3 from by decide) c_11)
  have c_11 : (2 : Int) ≠ 3 := c_11
  refine Zn.seg (pc2 := 93) (ls2 := [some (za (A 0)), some (zi x), some (zi 2), some (zi 0), some (zi (-6))]) (st2 := []) [(87, .iconst 0), (88, .istore_n 3), (89, .bipush (-6)), (91, .istore 4)] (by decide +kernel) rfl ?_
  refine Zn.eq (pc2 := 93) (ls2 := [some (za (A 0)), some (zi x), some (zi 2), some (zi (manyN (r 1) 0 0 : Int)), some (zi ((0 : Int) - 6))]) (st2 := []) (h2 := zov (LM A m r) h) rfl (zcons rfl (zcons rfl (zcons rfl (zcons (congrArg (fun z => some (zi z)) (by first | rfl | omega | simp)) (zcons (congrArg (fun z => some (zi z)) (by first | rfl | omega | simp)) rfl))))) rfl (rfl) ?_
  have hD : zND (LM A m r) := hD
  refine xloop (P := fun i_12 => Zn (8, xI_X8_told, 5, 2, 46, 0, 0, false) (some .int) 93 [some (za (A 0)), some (zi x), some (zi 2), some (zi (manyN (r 1) 0 i_12 : Int)), some (zi ((i_12 : Int) - 6))] [] (zov (LM A m r) h) _) (p) (fun i_12 hi_13 ih_14 => ?_) ?_
  · have hi_13 : i_12 < p := hi_13
    have hkj := hk i_12 (by omega)
    refine Zn.seg (pc2 := 96) (ls2 := [some (za (A 0)), some (zi x), some (zi 2), some (zi (manyN (r 1) 0 i_12 : Int)), some (zi ((i_12 : Int) - 6))]) (st2 := [zi x, zi ((i_12 : Int) - 6)]) [(93, .iload 4), (95, .iload_n 1)] (by decide +kernel) rfl ?_
    refine Zn.icmp (c := .ge) (off := 26) 122 (by decide +kernel) rfl ⟨by omega, by omega⟩ ⟨by omega, by omega⟩ (fun c_15 => absurd (show x ≤ (i_12 : Int) - 6 from c_15) (by omega)) (fun c_15 => ?_)
    have c_15 : ¬ (x ≤ (i_12 : Int) - 6) := c_15
    refine Zn.seg (pc2 := 103) (ls2 := [some (za (A 0)), some (zi x), some (zi 2), some (zi (manyN (r 1) 0 i_12 : Int)), some (zi ((i_12 : Int) - 6))]) (st2 := [zi ((i_12 : Int) - 6), za (A 0), zi (manyN (r 1) 0 i_12 : Int)]) [(99, .iload_n 3), (100, .aload_n 0), (101, .iload 4)] (by decide +kernel) rfl ?_
    refine Zn.call (ins := .invokevirtual 81) [za (A 0), zi ((i_12 : Int) - 6)] [zi (manyN (r 1) 0 i_12 : Int)] (by decide +kernel) rfl rfl rfl ⟨rfl, rfl⟩ ⟨rfl, rfl, rfl⟩ rfl (zrecvV hD (p := 0) rfl rfl rfl) (sp_X8_kind (A := A) (m := m) (r := r) (x := (i_12 : Int) - 6) (p := i_12) (zov_all hD) hD (by first | assumption | omega) (by first | assumption | omega)) (fun v h2 hp => ?_)
    obtain ⟨rfl, hq_16⟩ := hp
    refine Zn.eq (pc2 := 106) (ls2 := [some (za (A 0)), some (zi x), some (zi 2), some (zi (manyN (r 1) 0 i_12 : Int)), some (zi ((i_12 : Int) - 6))]) (st2 := [zi (r 1 (i_12 + 18)), zi (manyN (r 1) 0 i_12 : Int)]) (h2 := zov (LM A m r) h) rfl rfl rfl hq_16 ?_
    have hD : zND (LM A m r) := hD
    refine Zn.ifc (c := .le) (off := 7) 113 (by decide +kernel) rfl ⟨by omega, by omega⟩ (fun c_17 => ?_) (fun c_17 => ?_)
    · have c_17 : r 1 (i_12 + 18) ≤ 0 := c_17
      refine Zn.seg (pc2 := 93) (ls2 := [some (za (A 0)), some (zi x), some (zi 2), some (zi ((manyN (r 1) 0 i_12 : Int) + 0)), some (zi ((i_12 : Int) - 6 + 1))]) (st2 := []) [(113, .iconst 0), (114, .iadd), (115, .istore_n 3), (116, .iinc 4 1), (119, .goto (-26))] (by decide +kernel) rfl ?_
      exact Zn.eq rfl (zcons rfl (zcons rfl (zcons rfl (zcons (congrArg (fun z => some (zi z)) (by first | rw [manyN_t (by omega) (Or.inl rfl)]; omega | rw [manyN_f (by omega)]; omega)) (zcons (congrArg (fun z => some (zi z)) (by omega)) rfl))))) rfl (rfl) (ih_14)
    · have c_17 : ¬ (r 1 (i_12 + 18) ≤ 0) := c_17
      refine Zn.seg (pc2 := 93) (ls2 := [some (za (A 0)), some (zi x), some (zi 2), some (zi ((manyN (r 1) 0 i_12 : Int) + 1)), some (zi ((i_12 : Int) - 6 + 1))]) (st2 := []) [(109, .iconst 1), (110, .goto 4), (114, .iadd), (115, .istore_n 3), (116, .iinc 4 1), (119, .goto (-26))] (by decide +kernel) rfl ?_
      exact Zn.eq rfl (zcons rfl (zcons rfl (zcons rfl (zcons (congrArg (fun z => some (zi z)) (by first | rw [manyN_t (by omega) (Or.inl rfl)]; omega | rw [manyN_f (by omega)]; omega)) (zcons (congrArg (fun z => some (zi z)) (by omega)) rfl))))) rfl (rfl) (ih_14)
  · skip
    refine Zn.seg (pc2 := 96) (ls2 := [some (za (A 0)), some (zi x), some (zi 2), some (zi (manyN (r 1) 0 p : Int)), some (zi ((p : Int) - 6))]) (st2 := [zi x, zi ((p : Int) - 6)]) [(93, .iload 4), (95, .iload_n 1)] (by decide +kernel) rfl ?_
    refine Zn.icmp (c := .ge) (off := 26) 122 (by decide +kernel) rfl ⟨by omega, by omega⟩ ⟨by omega, by omega⟩ (fun c_18 => ?_) (fun c_18 => absurd (show x ≤ (p : Int) - 6 from by omega) c_18)
    have c_18 : x ≤ (p : Int) - 6 := c_18
    refine Zn.seg (pc2 := 123) (ls2 := [some (za (A 0)), some (zi x), some (zi 2), some (zi (manyN (r 1) 0 p : Int)), some (zi ((p : Int) - 6))]) (st2 := [zi (manyN (r 1) 0 p : Int)]) [(122, .iload_n 3)] (by decide +kernel) rfl ?_
    exact Zn.iret (by decide +kernel) rfl (⟨by first | rfl | (refine congrArg some (congrArg zi ?_); first | omega | (simp_all; done) | (simp_all; omega)), hh.symm⟩)
theorem sp_X8_told_w3 {h : xH} {A : Nat → Nat} {m : Nat → Int} {r : Nat → Nat → Int} {x : Int} {p : Nat} (hL : ∀ q ∈ LM A m r, h q.1 = zcE q.2) (hD : zND (LM A m r)) (hx : x = (p : Int) - 6) (hp : p < 13) (hk : kOK (r 1)) (h1 : r 1 (p + 18) ≠ 0) (hq : zInI (qv (fun j => r 1 (j + 1)) x)) : zEv k_X8_told [za (A 0), zi x, zi 3] h (fun v h2 => v = some (zi ((qv (fun j => r 1 (j + 1)) x).natAbs : Int)) ∧ h2 = h) := by
  have hh : h = zov (LM A m r) h := zov_self hL
  have hki := hk p hp
  refine zEv.body (I := (8, xI_X8_told, 5, 2, 46, 0, 0, false)) (rt := (some .int)) [some (za (A 0)), some (zi x), some (zi 3), none, none] rfl rfl rfl rfl ?_
  refine Zn.eq rfl rfl rfl hh ?_
  have hD : zND (LM A m r) := hD
  refine Zn.seg (pc2 := 1) (ls2 := [some (za (A 0)), some (zi x), some (zi 3), none, none]) (st2 := [zi x]) [(0, .iload_n 1)] (by decide +kernel) rfl ?_
  refine Zn.i2l (by decide +kernel) ⟨by omega, by omega⟩ ?_
  refine Zn.call (ins := .invokestatic 94) [zj x] [] (by decide +kernel) rfl rfl rfl ⟨rfl, rfl⟩ ⟨rfl, rfl, rfl⟩ rfl (zrecvS (by decide)) (sp_X8_isX (x := x) (⟨by omega, by omega⟩)) (fun v h2 hp => ?_)
  obtain ⟨rfl, hq_1⟩ := hp
  refine Zn.eq (pc2 := 5) (ls2 := [some (za (A 0)), some (zi x), some (zi 3), none, none]) (st2 := [zi (inB (-6) 6 x)]) (h2 := zov (LM A m r) h) rfl rfl rfl hq_1 ?_
  have hD : zND (LM A m r) := hD
  have q_2 := inB_spec (-6) 6 x
  refine Zn.ifc (c := .eq) (off := 15) 20 (by decide +kernel) rfl ⟨by omega, by omega⟩ (fun c_3 => absurd (show inB (-6) 6 x = 0 from c_3) (by omega)) (fun c_3 => ?_)
  have c_3 : ¬ (inB (-6) 6 x = 0) := c_3
  refine Zn.seg (pc2 := 9) (ls2 := [some (za (A 0)), some (zi x), some (zi 3), none, none]) (st2 := [zi 3]) [(8, .iload_n 2)] (by decide +kernel) rfl ?_
  refine Zn.i2l (by decide +kernel) ⟨by decide, by decide⟩ ?_
  refine Zn.seg (pc2 := 14) (ls2 := [some (za (A 0)), some (zi x), some (zi 3), none, none]) (st2 := [zj 3, zj 0, zj 3]) [(10, .lconst 0), (11, .ldc2_w 112)] (by decide +kernel) rfl ?_
  refine Zn.call (ins := .invokestatic 77) [zj 3, zj 0, zj 3] [] (by decide +kernel) rfl rfl rfl ⟨rfl, rfl⟩ ⟨rfl, rfl, rfl⟩ rfl (zrecvS (by decide)) (sp_X8_in (x := 3) (lo := 0) (hi := 3) (⟨by omega, by omega⟩) (⟨by decide, by decide⟩) (⟨by decide, by decide⟩)) (fun v h2 hp => ?_)
  obtain ⟨rfl, hq_4⟩ := hp
  refine Zn.eq (pc2 := 17) (ls2 := [some (za (A 0)), some (zi x), some (zi 3), none, none]) (st2 := [zi (inB 0 3 3)]) (h2 := zov (LM A m r) h) rfl rfl rfl hq_4 ?_
  have hD : zND (LM A m r) := hD
  have q_5 := inB_spec 0 3 3
  refine Zn.ifc (c := .ne) (off := 5) 22 (by decide +kernel) rfl ⟨by omega, by omega⟩ (fun c_6 => ?_) (fun c_6 => absurd (show inB 0 3 3 ≠ 0 from by omega) c_6)
  have c_6 : inB 0 3 3 ≠ 0 := c_6
  refine Zn.seg (pc2 := 24) (ls2 := [some (za (A 0)), some (zi x), some (zi 3), none, none]) (st2 := [zi x, za (A 0)]) [(22, .aload_n 0), (23, .iload_n 1)] (by decide +kernel) rfl ?_
  refine Zn.call (ins := .invokevirtual 81) [za (A 0), zi x] [] (by decide +kernel) rfl rfl rfl ⟨rfl, rfl⟩ ⟨rfl, rfl, rfl⟩ rfl (zrecvV hD (p := 0) rfl rfl rfl) (sp_X8_kind (A := A) (m := m) (r := r) (x := x) (p := p) (zov_all hD) hD (by first | assumption | omega) (by first | assumption | omega)) (fun v h2 hp => ?_)
  obtain ⟨rfl, hq_7⟩ := hp
  refine Zn.eq (pc2 := 27) (ls2 := [some (za (A 0)), some (zi x), some (zi 3), none, none]) (st2 := [zi (r 1 (p + 18))]) (h2 := zov (LM A m r) h) rfl rfl rfl hq_7 ?_
  have hD : zND (LM A m r) := hD
  refine Zn.ifc (c := .ne) (off := 6) 33 (by decide +kernel) rfl ⟨by omega, by omega⟩ (fun c_8 => ?_) (fun c_8 => absurd (show r 1 (p + 18) ≠ 0 from by omega) c_8)
  have c_8 : r 1 (p + 18) ≠ 0 := c_8
  refine Zn.seg (pc2 := 34) (ls2 := [some (za (A 0)), some (zi x), some (zi 3), none, none]) (st2 := [zi 3]) [(33, .iload_n 2)] (by decide +kernel) rfl ?_
  refine Zn.ifc (c := .ne) (off := 12) 46 (by decide +kernel) rfl ⟨by decide, by decide⟩ (fun c_9 => ?_) (fun c_9 => absurd (show (3 : Int) ≠ 0 from by decide) c_9)
  have c_9 : (3 : Int) ≠ 0 := c_9
  refine Zn.seg (pc2 := 48) (ls2 := [some (za (A 0)), some (zi x), some (zi 3), none, none]) (st2 := [zi 1, zi 3]) [(46, .iload_n 2), (47, .iconst 1)] (by decide +kernel) rfl ?_
  refine Zn.icmp (c := .ne) (off := 11) 59 (by decide +kernel) rfl ⟨by decide, by decide⟩ ⟨by decide, by decide⟩ (fun c_10 => ?_) (fun c_10 => absurd (show (3 : Int) ≠ 1 from by decide) c_10)
  have c_10 : (3 : Int) ≠ 1 := c_10
  refine Zn.seg (pc2 := 61) (ls2 := [some (za (A 0)), some (zi x), some (zi 3), none, none]) (st2 := [zi 3, zi 3]) [(59, .iload_n 2), (60, .iconst 3)] (by decide +kernel) rfl ?_
  refine Zn.icmp (c := .ne) (off := 26) 87 (by decide +kernel) rfl ⟨by decide, by decide⟩ ⟨by decide, by decide⟩ (fun c_11 => absurd (show (3 : Int) ≠ 3 from c_11) (by decide)) (fun c_11 => ?_)
  have c_11 : ¬ ((3 : Int) ≠ 3) := c_11
  refine Zn.seg (pc2 := 66) (ls2 := [some (za (A 0)), some (zi x), some (zi 3), none, none]) (st2 := [zi x, za (A 0)]) [(64, .aload_n 0), (65, .iload_n 1)] (by decide +kernel) rfl ?_
  refine Zn.call (ins := .invokevirtual 85) [za (A 0), zi x] [] (by decide +kernel) rfl rfl rfl ⟨rfl, rfl⟩ ⟨rfl, rfl, rfl⟩ rfl (zrecvV hD (p := 0) rfl rfl rfl) (sp_X8_beneath (A := A) (m := m) (r := r) (x := x) (zov_all hD) hD) (fun v h2 hp => ?_)
  obtain ⟨rfl, hq_12⟩ := hp
  refine Zn.eq (pc2 := 69) (ls2 := [some (za (A 0)), some (zi x), some (zi 3), none, none]) (st2 := [zi (qv (fun j => r 1 (j + 1)) x)]) (h2 := zov (LM A m r) h) rfl rfl rfl hq_12 ?_
  have hD : zND (LM A m r) := hD
  refine Zn.ifc (c := .ge) (off := 12) 81 (by decide +kernel) rfl hq (fun c_13 => ?_) (fun c_13 => ?_)
  · have c_13 : 0 ≤ qv (fun j => r 1 (j + 1)) x := c_13
    refine Zn.seg (pc2 := 83) (ls2 := [some (za (A 0)), some (zi x), some (zi 3), none, none]) (st2 := [zi x, za (A 0)]) [(81, .aload_n 0), (82, .iload_n 1)] (by decide +kernel) rfl ?_
    refine Zn.call (ins := .invokevirtual 85) [za (A 0), zi x] [] (by decide +kernel) rfl rfl rfl ⟨rfl, rfl⟩ ⟨rfl, rfl, rfl⟩ rfl (zrecvV hD (p := 0) rfl rfl rfl) (sp_X8_beneath (A := A) (m := m) (r := r) (x := x) (zov_all hD) hD) (fun v h2 hp => ?_)
    obtain ⟨rfl, hq_14⟩ := hp
    refine Zn.eq (pc2 := 86) (ls2 := [some (za (A 0)), some (zi x), some (zi 3), none, none]) (st2 := [zi (qv (fun j => r 1 (j + 1)) x)]) (h2 := zov (LM A m r) h) rfl rfl rfl hq_14 ?_
    have hD : zND (LM A m r) := hD
    exact Zn.iret (by decide +kernel) rfl (⟨by first | rfl | (refine congrArg some (congrArg zi ?_); first | omega | (simp_all; done) | (simp_all; omega)), hh.symm⟩)
  · have c_13 : ¬ (0 ≤ qv (fun j => r 1 (j + 1)) x) := c_13
    refine Zn.seg (pc2 := 74) (ls2 := [some (za (A 0)), some (zi x), some (zi 3), none, none]) (st2 := [zi x, za (A 0)]) [(72, .aload_n 0), (73, .iload_n 1)] (by decide +kernel) rfl ?_
    refine Zn.call (ins := .invokevirtual 85) [za (A 0), zi x] [] (by decide +kernel) rfl rfl rfl ⟨rfl, rfl⟩ ⟨rfl, rfl, rfl⟩ rfl (zrecvV hD (p := 0) rfl rfl rfl) (sp_X8_beneath (A := A) (m := m) (r := r) (x := x) (zov_all hD) hD) (fun v h2 hp => ?_)
    obtain ⟨rfl, hq_15⟩ := hp
    refine Zn.eq (pc2 := 77) (ls2 := [some (za (A 0)), some (zi x), some (zi 3), none, none]) (st2 := [zi (qv (fun j => r 1 (j + 1)) x)]) (h2 := zov (LM A m r) h) rfl rfl rfl hq_15 ?_
    have hD : zND (LM A m r) := hD
    refine Zn.seg (pc2 := 86) (ls2 := [some (za (A 0)), some (zi x), some (zi 3), none, none]) (st2 := [zi (-(qv (fun j => r 1 (j + 1)) x))]) [(77, .ineg), (78, .goto 8)] (by decide +kernel) rfl ?_
    exact Zn.iret (by decide +kernel) rfl (⟨by first | rfl | (refine congrArg some (congrArg zi ?_); first | omega | (simp_all; done) | (simp_all; omega)), hh.symm⟩)
theorem sp_X8_why {h : xH} {A : Nat → Nat} {m : Nat → Int} {r : Nat → Nat → Int}  (hL : ∀ q ∈ LM A m r, h q.1 = zcE q.2) (hD : zND (LM A m r)) (hk : kOK (r 1)) (hd : 0 ≤ r 1 0 ∧ r 1 0 ≤ 3) (hq : ∀ p : Nat, p < 13 → zInI (qv (fun j => r 1 (j + 1)) ((p : Int) - 6))) : zEv k_X8_why [za (A 0)] h (fun v h2 => v = some (zi (whyV (mk (mpoleB (r 1))) (manyN (r 1) 0 13) (r 1 0))) ∧ h2 = h) := by
  have hh : h = zov (LM A m r) h := zov_self hL
  have hmk := mk_lt (mpoleB (r 1))
  refine zEv.body (I := (8, xI_X8_why, 1, 3, 64, 0, 0, false)) (rt := (some .int)) [some (za (A 0))] rfl rfl rfl rfl ?_
  refine Zn.eq rfl rfl rfl hh ?_
  have hD : zND (LM A m r) := hD
  refine Zn.seg (pc2 := 1) (ls2 := [some (za (A 0))]) (st2 := [za (A 0)]) [(0, .aload_n 0)] (by decide +kernel) rfl ?_
  refine Zn.call (ins := .invokevirtual 118) [za (A 0)] [] (by decide +kernel) rfl rfl rfl ⟨rfl, rfl⟩ ⟨rfl, rfl, rfl⟩ rfl (zrecvV hD (p := 0) rfl rfl rfl) (sp_X8_poles (A := A) (m := m) (r := r) (zov_all hD) hD (by first | assumption | omega) (by first | assumption | omega)) (fun v h2 hp => ?_)
  obtain ⟨rfl, hq_1⟩ := hp
  refine Zn.eq (pc2 := 4) (ls2 := [some (za (A 0))]) (st2 := [zi (mk (mpoleB (r 1)) : Int)]) (h2 := zov (LM A m r) h) rfl rfl rfl hq_1 ?_
  have hD : zND (LM A m r) := hD
  have hmk2 := mk_lt (mpoleB (r 1))
  refine Zn.ifc (c := .eq) (off := 7) 11 (by decide +kernel) rfl ⟨by omega, by omega⟩ (fun c_2 => ?_) (fun c_2 => ?_)
  · have c_2 : (mk (mpoleB (r 1)) : Int) = 0 := c_2
    refine Zn.seg (pc2 := 12) (ls2 := [some (za (A 0))]) (st2 := [za (A 0)]) [(11, .aload_n 0)] (by decide +kernel) rfl ?_
    refine Zn.call (ins := .invokevirtual 122) [za (A 0)] [] (by decide +kernel) rfl rfl rfl ⟨rfl, rfl⟩ ⟨rfl, rfl, rfl⟩ rfl (zrecvV hD (p := 0) rfl rfl rfl) (sp_X8_isFew (A := A) (m := m) (r := r) (zov_all hD) hD (by first | assumption | omega) (by first | assumption | omega)) (fun v h2 hp => ?_)
    obtain ⟨rfl, hq_3⟩ := hp
    refine Zn.eq (pc2 := 15) (ls2 := [some (za (A 0))]) (st2 := [zi (ltB (manyN (r 1) 0 13 : Int) (r 1 0 + 2))]) (h2 := zov (LM A m r) h) rfl rfl rfl hq_3 ?_
    have hD : zND (LM A m r) := hD
    have q_4 := ltB_spec (manyN (r 1) 0 13 : Int) (r 1 0 + 2)
    refine Zn.ifc (c := .eq) (off := 7) 22 (by decide +kernel) rfl ⟨by omega, by omega⟩ (fun c_5 => ?_) (fun c_5 => ?_)
    · have c_5 : ltB (manyN (r 1) 0 13 : Int) (r 1 0 + 2) = 0 := c_5
      refine Zn.seg (pc2 := 23) (ls2 := [some (za (A 0))]) (st2 := [zi 0]) [(22, .iconst 0)] (by decide +kernel) rfl ?_
      exact Zn.iret (by decide +kernel) rfl (⟨by refine congrArg some (congrArg zi ?_); unfold whyV; first | rw [if_pos (by omega), if_pos (by omega)] | rw [if_pos (by omega), if_neg (by omega)] | rw [if_neg (by omega)], hh.symm⟩)
    · have c_5 : ¬ (ltB (manyN (r 1) 0 13 : Int) (r 1 0 + 2) = 0) := c_5
      refine Zn.seg (pc2 := 23) (ls2 := [some (za (A 0))]) (st2 := [zi 2]) [(18, .iconst 2), (19, .goto 4)] (by decide +kernel) rfl ?_
      exact Zn.iret (by decide +kernel) rfl (⟨by refine congrArg some (congrArg zi ?_); unfold whyV; first | rw [if_pos (by omega), if_pos (by omega)] | rw [if_pos (by omega), if_neg (by omega)] | rw [if_neg (by omega)], hh.symm⟩)
  · have c_2 : ¬ ((mk (mpoleB (r 1)) : Int) = 0) := c_2
    refine Zn.seg (pc2 := 23) (ls2 := [some (za (A 0))]) (st2 := [zi 1]) [(7, .iconst 1), (8, .goto 15)] (by decide +kernel) rfl ?_
    exact Zn.iret (by decide +kernel) rfl (⟨by refine congrArg some (congrArg zi ?_); unfold whyV; first | rw [if_pos (by omega), if_pos (by omega)] | rw [if_pos (by omega), if_neg (by omega)] | rw [if_neg (by omega)], hh.symm⟩)
theorem sp_X8_count_w0 {h : xH} {A : Nat → Nat} {m : Nat → Int} {r : Nat → Nat → Int}  (hL : ∀ q ∈ LM A m r, h q.1 = zcE q.2) (hD : zND (LM A m r)) : zEv k_X8_count [za (A 0), zi 0] h (fun v h2 => v = some (zi (r 1 0)) ∧ h2 = h) := by
  have hh : h = zov (LM A m r) h := zov_self hL
  refine zEv.body (I := (8, xI_X8_count, 2, 4, 84, 0, 0, false)) (rt := (some .int)) [some (za (A 0)), some (zi 0)] rfl rfl rfl rfl ?_
  refine Zn.eq rfl rfl rfl hh ?_
  have hD : zND (LM A m r) := hD
  refine Zn.seg (pc2 := 1) (ls2 := [some (za (A 0)), some (zi 0)]) (st2 := [zi 0]) [(0, .iload_n 1)] (by decide +kernel) rfl ?_
  refine Zn.tswIn (d := 82) (lo := 0) (hh := 6) (offs := #[43, 50, 56, 62, 67, 72, 77]) 44 0 (by decide +kernel) ⟨by decide, by decide⟩ (by decide) (by decide) rfl rfl ?_
  refine Zn.seg (pc2 := 45) (ls2 := [some (za (A 0)), some (zi 0)]) (st2 := [za (A 0)]) [(44, .aload_n 0)] (by decide +kernel) rfl ?_
  refine Zn.get (ix := 7) hD 0 (by decide +kernel) rfl rfl rfl ?_
  refine Zn.seg (pc2 := 49) (ls2 := [some (za (A 0)), some (zi 0)]) (st2 := [zi 0, za (A 1)]) [(48, .iconst 0)] (by decide +kernel) rfl ?_
  refine Zn.iald hD 1 (0) (by decide +kernel) rfl (rfl) (by decide) rfl ?_
  exact Zn.iret (by decide +kernel) rfl (⟨by first | rfl | (refine congrArg some (congrArg zi ?_); first | omega | (simp_all; done) | (simp_all; omega)), hh.symm⟩)
theorem sp_X8_count_w1 {h : xH} {A : Nat → Nat} {m : Nat → Int} {r : Nat → Nat → Int}  (hL : ∀ q ∈ LM A m r, h q.1 = zcE q.2) (hD : zND (LM A m r)) (hk : kOK (r 1)) : zEv k_X8_count [za (A 0), zi 1] h (fun v h2 => v = some (zi (mk (kindB (r 1) 0) : Int)) ∧ h2 = h) := by
  have hh : h = zov (LM A m r) h := zov_self hL
  refine zEv.body (I := (8, xI_X8_count, 2, 4, 84, 0, 0, false)) (rt := (some .int)) [some (za (A 0)), some (zi 1)] rfl rfl rfl rfl ?_
  refine Zn.eq rfl rfl rfl hh ?_
  have hD : zND (LM A m r) := hD
  refine Zn.seg (pc2 := 1) (ls2 := [some (za (A 0)), some (zi 1)]) (st2 := [zi 1]) [(0, .iload_n 1)] (by decide +kernel) rfl ?_
  refine Zn.tswIn (d := 82) (lo := 0) (hh := 6) (offs := #[43, 50, 56, 62, 67, 72, 77]) 51 1 (by decide +kernel) ⟨by decide, by decide⟩ (by decide) (by decide) rfl rfl ?_
  refine Zn.seg (pc2 := 53) (ls2 := [some (za (A 0)), some (zi 1)]) (st2 := [zi 0, za (A 0)]) [(51, .aload_n 0), (52, .iconst 0)] (by decide +kernel) rfl ?_
  refine Zn.call (ins := .invokevirtual 126) [za (A 0), zi 0] [] (by decide +kernel) rfl rfl rfl ⟨rfl, rfl⟩ ⟨rfl, rfl, rfl⟩ rfl (zrecvV hD (p := 0) rfl rfl rfl) (sp_X8_setOf (A := A) (m := m) (r := r) (k := 0) (zov_all hD) hD (hk) (⟨by decide, by decide⟩)) (fun v h2 hp => ?_)
  obtain ⟨rfl, hq_2⟩ := hp
  refine Zn.eq (pc2 := 56) (ls2 := [some (za (A 0)), some (zi 1)]) (st2 := [zi (mk (kindB (r 1) 0) : Int)]) (h2 := zov (LM A m r) h) rfl rfl rfl hq_2 ?_
  have hD : zND (LM A m r) := hD
  exact Zn.iret (by decide +kernel) rfl (⟨by first | rfl | (refine congrArg some (congrArg zi ?_); first | omega | (simp_all; done) | (simp_all; omega)), hh.symm⟩)
theorem sp_X8_count_w2 {h : xH} {A : Nat → Nat} {m : Nat → Int} {r : Nat → Nat → Int}  (hL : ∀ q ∈ LM A m r, h q.1 = zcE q.2) (hD : zND (LM A m r)) (hk : kOK (r 1)) : zEv k_X8_count [za (A 0), zi 2] h (fun v h2 => v = some (zi (mk (kindB (r 1) 2) : Int)) ∧ h2 = h) := by
  have hh : h = zov (LM A m r) h := zov_self hL
  refine zEv.body (I := (8, xI_X8_count, 2, 4, 84, 0, 0, false)) (rt := (some .int)) [some (za (A 0)), some (zi 2)] rfl rfl rfl rfl ?_
  refine Zn.eq rfl rfl rfl hh ?_
  have hD : zND (LM A m r) := hD
  refine Zn.seg (pc2 := 1) (ls2 := [some (za (A 0)), some (zi 2)]) (st2 := [zi 2]) [(0, .iload_n 1)] (by decide +kernel) rfl ?_
  refine Zn.tswIn (d := 82) (lo := 0) (hh := 6) (offs := #[43, 50, 56, 62, 67, 72, 77]) 57 2 (by decide +kernel) ⟨by decide, by decide⟩ (by decide) (by decide) rfl rfl ?_
  refine Zn.seg (pc2 := 59) (ls2 := [some (za (A 0)), some (zi 2)]) (st2 := [zi 2, za (A 0)]) [(57, .aload_n 0), (58, .iconst 2)] (by decide +kernel) rfl ?_
  refine Zn.call (ins := .invokevirtual 126) [za (A 0), zi 2] [] (by decide +kernel) rfl rfl rfl ⟨rfl, rfl⟩ ⟨rfl, rfl, rfl⟩ rfl (zrecvV hD (p := 0) rfl rfl rfl) (sp_X8_setOf (A := A) (m := m) (r := r) (k := 2) (zov_all hD) hD (hk) (⟨by decide, by decide⟩)) (fun v h2 hp => ?_)
  obtain ⟨rfl, hq_2⟩ := hp
  refine Zn.eq (pc2 := 62) (ls2 := [some (za (A 0)), some (zi 2)]) (st2 := [zi (mk (kindB (r 1) 2) : Int)]) (h2 := zov (LM A m r) h) rfl rfl rfl hq_2 ?_
  have hD : zND (LM A m r) := hD
  exact Zn.iret (by decide +kernel) rfl (⟨by first | rfl | (refine congrArg some (congrArg zi ?_); first | omega | (simp_all; done) | (simp_all; omega)), hh.symm⟩)
theorem sp_X8_count_w3 {h : xH} {A : Nat → Nat} {m : Nat → Int} {r : Nat → Nat → Int}  (hL : ∀ q ∈ LM A m r, h q.1 = zcE q.2) (hD : zND (LM A m r)) (hk : kOK (r 1)) (hq : ∀ p : Nat, p < 13 → zInI (qv (fun j => r 1 (j + 1)) ((p : Int) - 6))) : zEv k_X8_count [za (A 0), zi 3] h (fun v h2 => v = some (zi (mk (mpoleB (r 1)) : Int)) ∧ h2 = h) := by
  have hh : h = zov (LM A m r) h := zov_self hL
  refine zEv.body (I := (8, xI_X8_count, 2, 4, 84, 0, 0, false)) (rt := (some .int)) [some (za (A 0)), some (zi 3)] rfl rfl rfl rfl ?_
  refine Zn.eq rfl rfl rfl hh ?_
  have hD : zND (LM A m r) := hD
  refine Zn.seg (pc2 := 1) (ls2 := [some (za (A 0)), some (zi 3)]) (st2 := [zi 3]) [(0, .iload_n 1)] (by decide +kernel) rfl ?_
  refine Zn.tswIn (d := 82) (lo := 0) (hh := 6) (offs := #[43, 50, 56, 62, 67, 72, 77]) 63 3 (by decide +kernel) ⟨by decide, by decide⟩ (by decide) (by decide) rfl rfl ?_
  refine Zn.seg (pc2 := 64) (ls2 := [some (za (A 0)), some (zi 3)]) (st2 := [za (A 0)]) [(63, .aload_n 0)] (by decide +kernel) rfl ?_
  refine Zn.call (ins := .invokevirtual 118) [za (A 0)] [] (by decide +kernel) rfl rfl rfl ⟨rfl, rfl⟩ ⟨rfl, rfl, rfl⟩ rfl (zrecvV hD (p := 0) rfl rfl rfl) (sp_X8_poles (A := A) (m := m) (r := r) (zov_all hD) hD (by first | assumption | omega) (by first | assumption | omega)) (fun v h2 hp => ?_)
  obtain ⟨rfl, hq_2⟩ := hp
  refine Zn.eq (pc2 := 67) (ls2 := [some (za (A 0)), some (zi 3)]) (st2 := [zi (mk (mpoleB (r 1)) : Int)]) (h2 := zov (LM A m r) h) rfl rfl rfl hq_2 ?_
  have hD : zND (LM A m r) := hD
  exact Zn.iret (by decide +kernel) rfl (⟨by first | rfl | (refine congrArg some (congrArg zi ?_); first | omega | (simp_all; done) | (simp_all; omega)), hh.symm⟩)
theorem sp_X8_count_w4 {h : xH} {A : Nat → Nat} {m : Nat → Int} {r : Nat → Nat → Int}  (hL : ∀ q ∈ LM A m r, h q.1 = zcE q.2) (hD : zND (LM A m r)) (hk : kOK (r 1)) (hd : 0 ≤ r 1 0 ∧ r 1 0 ≤ 3) : zEv k_X8_count [za (A 0), zi 4] h (fun v h2 => v = some (zi (r 1 0 + 2 - (manyN (r 1) 2 13 : Int))) ∧ h2 = h) := by
  have hh : h = zov (LM A m r) h := zov_self hL
  refine zEv.body (I := (8, xI_X8_count, 2, 4, 84, 0, 0, false)) (rt := (some .int)) [some (za (A 0)), some (zi 4)] rfl rfl rfl rfl ?_
  refine Zn.eq rfl rfl rfl hh ?_
  have hD : zND (LM A m r) := hD
  refine Zn.seg (pc2 := 1) (ls2 := [some (za (A 0)), some (zi 4)]) (st2 := [zi 4]) [(0, .iload_n 1)] (by decide +kernel) rfl ?_
  refine Zn.tswIn (d := 82) (lo := 0) (hh := 6) (offs := #[43, 50, 56, 62, 67, 72, 77]) 68 4 (by decide +kernel) ⟨by decide, by decide⟩ (by decide) (by decide) rfl rfl ?_
  refine Zn.seg (pc2 := 69) (ls2 := [some (za (A 0)), some (zi 4)]) (st2 := [za (A 0)]) [(68, .aload_n 0)] (by decide +kernel) rfl ?_
  refine Zn.call (ins := .invokevirtual 129) [za (A 0)] [] (by decide +kernel) rfl rfl rfl ⟨rfl, rfl⟩ ⟨rfl, rfl, rfl⟩ rfl (zrecvV hD (p := 0) rfl rfl rfl) (sp_X8_size (A := A) (m := m) (r := r) (zov_all hD) hD (by first | assumption | omega) (by first | assumption | omega)) (fun v h2 hp => ?_)
  obtain ⟨rfl, hq_2⟩ := hp
  refine Zn.eq (pc2 := 72) (ls2 := [some (za (A 0)), some (zi 4)]) (st2 := [zi (r 1 0 + 2 - (manyN (r 1) 2 13 : Int))]) (h2 := zov (LM A m r) h) rfl rfl rfl hq_2 ?_
  have hD : zND (LM A m r) := hD
  exact Zn.iret (by decide +kernel) rfl (⟨by first | rfl | (refine congrArg some (congrArg zi ?_); first | omega | (simp_all; done) | (simp_all; omega)), hh.symm⟩)
theorem sp_X8_count_w5 {h : xH} {A : Nat → Nat} {m : Nat → Int} {r : Nat → Nat → Int}  (hL : ∀ q ∈ LM A m r, h q.1 = zcE q.2) (hD : zND (LM A m r)) (hk : kOK (r 1)) (hd : 0 ≤ r 1 0 ∧ r 1 0 ≤ 3) (hq : ∀ p : Nat, p < 13 → zInI (qv (fun j => r 1 (j + 1)) ((p : Int) - 6))) : zEv k_X8_count [za (A 0), zi 5] h (fun v h2 => v = some (zi (whyV (mk (mpoleB (r 1))) (manyN (r 1) 0 13) (r 1 0))) ∧ h2 = h) := by
  have hh : h = zov (LM A m r) h := zov_self hL
  refine zEv.body (I := (8, xI_X8_count, 2, 4, 84, 0, 0, false)) (rt := (some .int)) [some (za (A 0)), some (zi 5)] rfl rfl rfl rfl ?_
  refine Zn.eq rfl rfl rfl hh ?_
  have hD : zND (LM A m r) := hD
  refine Zn.seg (pc2 := 1) (ls2 := [some (za (A 0)), some (zi 5)]) (st2 := [zi 5]) [(0, .iload_n 1)] (by decide +kernel) rfl ?_
  refine Zn.tswIn (d := 82) (lo := 0) (hh := 6) (offs := #[43, 50, 56, 62, 67, 72, 77]) 73 5 (by decide +kernel) ⟨by decide, by decide⟩ (by decide) (by decide) rfl rfl ?_
  refine Zn.seg (pc2 := 74) (ls2 := [some (za (A 0)), some (zi 5)]) (st2 := [za (A 0)]) [(73, .aload_n 0)] (by decide +kernel) rfl ?_
  refine Zn.call (ins := .invokevirtual 132) [za (A 0)] [] (by decide +kernel) rfl rfl rfl ⟨rfl, rfl⟩ ⟨rfl, rfl, rfl⟩ rfl (zrecvV hD (p := 0) rfl rfl rfl) (sp_X8_why (A := A) (m := m) (r := r) (zov_all hD) hD (by first | assumption | omega) (by first | assumption | omega) (by first | assumption | omega)) (fun v h2 hp => ?_)
  obtain ⟨rfl, hq_2⟩ := hp
  refine Zn.eq (pc2 := 77) (ls2 := [some (za (A 0)), some (zi 5)]) (st2 := [zi (whyV (mk (mpoleB (r 1))) (manyN (r 1) 0 13) (r 1 0))]) (h2 := zov (LM A m r) h) rfl rfl rfl hq_2 ?_
  have hD : zND (LM A m r) := hD
  exact Zn.iret (by decide +kernel) rfl (⟨by first | rfl | (refine congrArg some (congrArg zi ?_); first | omega | (simp_all; done) | (simp_all; omega)), hh.symm⟩)
theorem sp_X8_count_w6 {h : xH} {A : Nat → Nat} {m : Nat → Int} {r : Nat → Nat → Int}  (hL : ∀ q ∈ LM A m r, h q.1 = zcE q.2) (hD : zND (LM A m r)) : zEv k_X8_count [za (A 0), zi 6] h (fun v h2 => v = some (zi (m 1)) ∧ h2 = h) := by
  have hh : h = zov (LM A m r) h := zov_self hL
  refine zEv.body (I := (8, xI_X8_count, 2, 4, 84, 0, 0, false)) (rt := (some .int)) [some (za (A 0)), some (zi 6)] rfl rfl rfl rfl ?_
  refine Zn.eq rfl rfl rfl hh ?_
  have hD : zND (LM A m r) := hD
  refine Zn.seg (pc2 := 1) (ls2 := [some (za (A 0)), some (zi 6)]) (st2 := [zi 6]) [(0, .iload_n 1)] (by decide +kernel) rfl ?_
  refine Zn.tswIn (d := 82) (lo := 0) (hh := 6) (offs := #[43, 50, 56, 62, 67, 72, 77]) 78 6 (by decide +kernel) ⟨by decide, by decide⟩ (by decide) (by decide) rfl rfl ?_
  refine Zn.seg (pc2 := 79) (ls2 := [some (za (A 0)), some (zi 6)]) (st2 := [za (A 0)]) [(78, .aload_n 0)] (by decide +kernel) rfl ?_
  refine Zn.get (ix := 91) hD 0 (by decide +kernel) rfl rfl rfl ?_
  exact Zn.iret (by decide +kernel) rfl (⟨by first | rfl | (refine congrArg some (congrArg zi ?_); first | omega | (simp_all; done) | (simp_all; omega)), hh.symm⟩)
theorem sp_X8_count_bad {h : xH} {A : Nat → Nat} {m : Nat → Int} {r : Nat → Nat → Int} {x : Int} (hL : ∀ q ∈ LM A m r, h q.1 = zcE q.2) (hD : zND (LM A m r)) (zx : zInI x) (hb : x < 0 ∨ 6 < x) : zEv k_X8_count [za (A 0), zi x] h (fun v h2 => v = some (zi (-1)) ∧ h2 = h) := by
  have hh : h = zov (LM A m r) h := zov_self hL
  have zx1 := zx.1
  have zx2 := zx.2
  refine zEv.body (I := (8, xI_X8_count, 2, 4, 84, 0, 0, false)) (rt := (some .int)) [some (za (A 0)), some (zi x)] rfl rfl rfl rfl ?_
  refine Zn.eq rfl rfl rfl hh ?_
  have hD : zND (LM A m r) := hD
  refine Zn.seg (pc2 := 1) (ls2 := [some (za (A 0)), some (zi x)]) (st2 := [zi x]) [(0, .iload_n 1)] (by decide +kernel) rfl ?_
  refine Zn.tswOut (d := 82) (lo := 0) (hh := 6) (offs := #[43, 50, 56, 62, 67, 72, 77]) 83 (by decide +kernel) ⟨by omega, by omega⟩ (by omega) rfl ?_
  refine Zn.seg (pc2 := 84) (ls2 := [some (za (A 0)), some (zi x)]) (st2 := [zi (-1)]) [(83, .iconst (-1))] (by decide +kernel) rfl ?_
  exact Zn.iret (by decide +kernel) rfl (⟨by first | rfl | (refine congrArg some (congrArg zi ?_); first | omega | (simp_all; done) | (simp_all; omega)), hh.symm⟩)
