/-! EvenErrors: points, degree, beneath, told, count, type, seed, undo -/
theorem PBk_cg {g h : xH} {A : Nat → Nat} {e s k : Nat} {H : Nat → sn} (hP : PBk h A e s k H) (hc : ∀ i, e ≤ i → i < e + 20 → g (A i) = h (A i)) : PBk g A e s k H := by
  obtain ⟨h1, ⟨f, h2, h3⟩, h4⟩ := hP
  refine ⟨(hc e (by omega) (by omega)).trans h1, ⟨f, (hc (e + 1) (by omega) (by omega)).trans h2, h3⟩, fun i hi => PT_congr (h4 i hi) (hc _ ?_ ?_) (hc _ ?_ ?_) (hc _ ?_ ?_)⟩ <;> unfold ri <;> omega
theorem sp_X7_point_bad {h : xH} {A : Nat → Nat} {x y : Int} (zx : zInI x) (zy : zInI y) (hb : ¬ (-6 ≤ x ∧ x ≤ 6) ∨ ¬ (-99 ≤ y ∧ y ≤ 99)) : zEv k_X7_point [za (A 0), zi x, zi y] h (fun v h2 => v = some (zi (-1)) ∧ h2 = h) := by
  have hD : ([] : List Nat).Nodup := List.nodup_nil
  have hh : h = zov [] h := zov_self (fun _ q => absurd q List.not_mem_nil)
  have zx1 := zx.1
  have zx2 := zx.2
  have zy1 := zy.1
  have zy2 := zy.2
  refine zEv.body (I := (7, xI_X7_point, 4, 4, 88, 0, 0, false)) (rt := (some .int)) [some (za (A 0)), some (zi x), some (zi y), none] rfl rfl rfl rfl ?_
  refine Zn.eq rfl rfl rfl hh ?_
  have hD : zND ([]) := hD
  refine Zn.seg (pc2 := 1) (ls2 := [some (za (A 0)), some (zi x), some (zi y), none]) (st2 := [zi x]) [(0, .iload_n 1)] (by decide +kernel) rfl ?_
  refine Zn.call (ins := .invokestatic 71) [zi x] [] (by decide +kernel) rfl rfl rfl ⟨rfl, rfl⟩ ⟨rfl, rfl, rfl⟩ rfl (zrecvS (by decide)) (sp_X7_isX (x := x) (by first | assumption | exact ⟨by omega, by omega⟩)) (fun v h2 hp => ?_)
  obtain ⟨rfl, hq_1⟩ := hp
  refine Zn.eq (pc2 := 4) (ls2 := [some (za (A 0)), some (zi x), some (zi y), none]) (st2 := [zi (inB (-6) 6 x)]) (h2 := zov ([]) h) rfl rfl rfl hq_1 ?_
  have hD : zND ([]) := hD
  have q_2 := inB_spec (-6) 6 x
  refine Zn.ifc (c := .eq) (off := 10) 14 (by decide +kernel) rfl ⟨by omega, by omega⟩ (fun c_3 => ?_) (fun c_3 => ?_)
  · have c_3 : inB (-6) 6 x = 0 := c_3
    refine Zn.seg (pc2 := 15) (ls2 := [some (za (A 0)), some (zi x), some (zi y), none]) (st2 := [zi (-1)]) [(14, .iconst (-1))] (by decide +kernel) rfl ?_
    exact Zn.iret (by decide +kernel) rfl (⟨by first | rfl | (refine congrArg some (congrArg zi ?_); first | omega | (simp_all; done) | (simp_all; omega)), hh.symm⟩)
  · have c_3 : ¬ (inB (-6) 6 x = 0) := c_3
    refine Zn.seg (pc2 := 8) (ls2 := [some (za (A 0)), some (zi x), some (zi y), none]) (st2 := [zi y]) [(7, .iload_n 2)] (by decide +kernel) rfl ?_
    refine Zn.call (ins := .invokestatic 75) [zi y] [] (by decide +kernel) rfl rfl rfl ⟨rfl, rfl⟩ ⟨rfl, rfl, rfl⟩ rfl (zrecvS (by decide)) (sp_X7_isY (x := y) (by first | assumption | exact ⟨by omega, by omega⟩)) (fun v h2 hp => ?_)
    obtain ⟨rfl, hq_4⟩ := hp
    refine Zn.eq (pc2 := 11) (ls2 := [some (za (A 0)), some (zi x), some (zi y), none]) (st2 := [zi (inB (-99) 99 y)]) (h2 := zov ([]) h) rfl rfl rfl hq_4 ?_
    have hD : zND ([]) := hD
    have q_5 := inB_spec (-99) 99 y
    refine Zn.ifc (c := .ne) (off := 5) 16 (by decide +kernel) rfl ⟨by omega, by omega⟩ (fun c_6 => absurd (show inB (-99) 99 y ≠ 0 from c_6) (by omega)) (fun c_6 => ?_)
    have c_6 : ¬ (inB (-99) 99 y ≠ 0) := c_6
    refine Zn.seg (pc2 := 15) (ls2 := [some (za (A 0)), some (zi x), some (zi y), none]) (st2 := [zi (-1)]) [(14, .iconst (-1))] (by decide +kernel) rfl ?_
    exact Zn.iret (by decide +kernel) rfl (⟨by first | rfl | (refine congrArg some (congrArg zi ?_); first | omega | (simp_all; done) | (simp_all; omega)), hh.symm⟩)
theorem sp_X7_point_not {h : xH} {A : Nat → Nat} {kt : Int} {th fx d w : Nat} {Y Q : Nat → Int} {x y : Int} {p : Nat} (hc0 : h (A 0) = zcE (.inr (7, [za (A 1), za (A 4), za (A 24), za (A 27), zi kt, za (A 47), za (A 49), za (A 52), za (A 63), za (A 68), za (A 72)]))) (hc1 : h (A 1) = zcE (.inr (4, [za (A 2), za (A 3), zi (th : Int), zi (fx : Int), zi (d : Int), zi (w : Int)]))) (hc2 : h (A 2) = zcE (.inl (0, 13, .inl Y))) (hc3 : h (A 3) = zcE (.inl (0, 3, .inl Q))) (hD : [(A 0), (A 1), (A 2), (A 3)].Nodup) (hx : x = (p : Int) - 6) (hp : p < 13) (hyr : -99 ≤ y ∧ y ≤ 99) (hth : th < 8192) (h1 : bt th p = 1) (h2 : Y p = y) : zEv k_X7_point [za (A 0), zi x, zi y] h (fun v h2 => v = some (zi (-2)) ∧ h2 = h) := by
  have hh : h = zov [((A 0), .inr (7, [za (A 1), za (A 4), za (A 24), za (A 27), zi kt, za (A 47), za (A 49), za (A 52), za (A 63), za (A 68), za (A 72)])), ((A 1), .inr (4, [za (A 2), za (A 3), zi (th : Int), zi (fx : Int), zi (d : Int), zi (w : Int)])), ((A 2), .inl (0, 13, .inl Y)), ((A 3), .inl (0, 3, .inl Q))] h := zov_self (List.forall_mem_cons.mpr ⟨hc0, List.forall_mem_cons.mpr ⟨hc1, List.forall_mem_cons.mpr ⟨hc2, List.forall_mem_cons.mpr ⟨hc3, fun _ q => absurd q List.not_mem_nil⟩⟩⟩⟩)
  refine zEv.body (I := (7, xI_X7_point, 4, 4, 88, 0, 0, false)) (rt := (some .int)) [some (za (A 0)), some (zi x), some (zi y), none] rfl rfl rfl rfl ?_
  refine Zn.eq rfl rfl rfl hh ?_
  have hD : zND ([((A 0), .inr (7, [za (A 1), za (A 4), za (A 24), za (A 27), zi kt, za (A 47), za (A 49), za (A 52), za (A 63), za (A 68), za (A 72)])), ((A 1), .inr (4, [za (A 2), za (A 3), zi (th : Int), zi (fx : Int), zi (d : Int), zi (w : Int)])), ((A 2), .inl (0, 13, .inl Y)), ((A 3), .inl (0, 3, .inl Q))]) := hD
  refine Zn.seg (pc2 := 1) (ls2 := [some (za (A 0)), some (zi x), some (zi y), none]) (st2 := [zi x]) [(0, .iload_n 1)] (by decide +kernel) rfl ?_
  refine Zn.call (ins := .invokestatic 71) [zi x] [] (by decide +kernel) rfl rfl rfl ⟨rfl, rfl⟩ ⟨rfl, rfl, rfl⟩ rfl (zrecvS (by decide)) (sp_X7_isX (x := x) (by first | assumption | exact ⟨by omega, by omega⟩)) (fun v h2 hp => ?_)
  obtain ⟨rfl, hq_1⟩ := hp
  refine Zn.eq (pc2 := 4) (ls2 := [some (za (A 0)), some (zi x), some (zi y), none]) (st2 := [zi (inB (-6) 6 x)]) (h2 := zov ([((A 0), .inr (7, [za (A 1), za (A 4), za (A 24), za (A 27), zi kt, za (A 47), za (A 49), za (A 52), za (A 63), za (A 68), za (A 72)])), ((A 1), .inr (4, [za (A 2), za (A 3), zi (th : Int), zi (fx : Int), zi (d : Int), zi (w : Int)])), ((A 2), .inl (0, 13, .inl Y)), ((A 3), .inl (0, 3, .inl Q))]) h) rfl rfl rfl hq_1 ?_
  have hD : zND ([((A 0), .inr (7, [za (A 1), za (A 4), za (A 24), za (A 27), zi kt, za (A 47), za (A 49), za (A 52), za (A 63), za (A 68), za (A 72)])), ((A 1), .inr (4, [za (A 2), za (A 3), zi (th : Int), zi (fx : Int), zi (d : Int), zi (w : Int)])), ((A 2), .inl (0, 13, .inl Y)), ((A 3), .inl (0, 3, .inl Q))]) := hD
  have q_2 := inB_spec (-6) 6 x
  refine Zn.ifc (c := .eq) (off := 10) 14 (by decide +kernel) rfl ⟨by omega, by omega⟩ (fun c_3 => absurd (show inB (-6) 6 x = 0 from c_3) (by omega)) (fun c_3 => ?_)
  have c_3 : ¬ (inB (-6) 6 x = 0) := c_3
  refine Zn.seg (pc2 := 8) (ls2 := [some (za (A 0)), some (zi x), some (zi y), none]) (st2 := [zi y]) [(7, .iload_n 2)] (by decide +kernel) rfl ?_
  refine Zn.call (ins := .invokestatic 75) [zi y] [] (by decide +kernel) rfl rfl rfl ⟨rfl, rfl⟩ ⟨rfl, rfl, rfl⟩ rfl (zrecvS (by decide)) (sp_X7_isY (x := y) (by first | assumption | exact ⟨by omega, by omega⟩)) (fun v h2 hp => ?_)
  obtain ⟨rfl, hq_4⟩ := hp
  refine Zn.eq (pc2 := 11) (ls2 := [some (za (A 0)), some (zi x), some (zi y), none]) (st2 := [zi (inB (-99) 99 y)]) (h2 := zov ([((A 0), .inr (7, [za (A 1), za (A 4), za (A 24), za (A 27), zi kt, za (A 47), za (A 49), za (A 52), za (A 63), za (A 68), za (A 72)])), ((A 1), .inr (4, [za (A 2), za (A 3), zi (th : Int), zi (fx : Int), zi (d : Int), zi (w : Int)])), ((A 2), .inl (0, 13, .inl Y)), ((A 3), .inl (0, 3, .inl Q))]) h) rfl rfl rfl hq_4 ?_
  have hD : zND ([((A 0), .inr (7, [za (A 1), za (A 4), za (A 24), za (A 27), zi kt, za (A 47), za (A 49), za (A 52), za (A 63), za (A 68), za (A 72)])), ((A 1), .inr (4, [za (A 2), za (A 3), zi (th : Int), zi (fx : Int), zi (d : Int), zi (w : Int)])), ((A 2), .inl (0, 13, .inl Y)), ((A 3), .inl (0, 3, .inl Q))]) := hD
  have q_5 := inB_spec (-99) 99 y
  refine Zn.ifc (c := .ne) (off := 5) 16 (by decide +kernel) rfl ⟨by omega, by omega⟩ (fun c_6 => ?_) (fun c_6 => absurd (show inB (-99) 99 y ≠ 0 from by omega) c_6)
  have c_6 : inB (-99) 99 y ≠ 0 := c_6
  refine Zn.seg (pc2 := 20) (ls2 := [some (za (A 0)), some (zi x), some (zi y), none]) (st2 := [zi (x + 6)]) [(16, .iload_n 1), (17, .bipush 6), (19, .iadd)] (by decide +kernel) rfl ?_
  refine Zn.topi (y := (p : Int)) (by omega) ?_
  refine Zn.seg (pc2 := 22) (ls2 := [some (za (A 0)), some (zi x), some (zi y), some (zi (p : Int))]) (st2 := [za (A 0)]) [(20, .istore_n 3), (21, .aload_n 0)] (by decide +kernel) rfl ?_
  refine Zn.get (ix := 12) hD 0 (by decide +kernel) rfl rfl rfl ?_
  refine Zn.seg (pc2 := 26) (ls2 := [some (za (A 0)), some (zi x), some (zi y), some (zi (p : Int))]) (st2 := [zi (p : Int), za (A 1)]) [(25, .iload_n 3)] (by decide +kernel) rfl ?_
  refine Zn.call (ins := .invokevirtual 78) [za (A 1), zi (p : Int)] [] (by decide +kernel) rfl rfl rfl ⟨rfl, rfl⟩ ⟨rfl, rfl, rfl⟩ rfl (zrecvV hD (p := 1) rfl rfl rfl) (sp_X4_has (o := (A 1)) (ya := (A 2)) (qa := (A 3)) (th := th) (fx := fx) (d := d) (w := w) (p := p) (zov_get hD 1 rfl) (hth) (by omega)) (fun v h2 hp => ?_)
  obtain ⟨rfl, hq_7⟩ := hp
  refine Zn.eq (pc2 := 29) (ls2 := [some (za (A 0)), some (zi x), some (zi y), some (zi (p : Int))]) (st2 := [zi (bt th p : Int)]) (h2 := zov ([((A 0), .inr (7, [za (A 1), za (A 4), za (A 24), za (A 27), zi kt, za (A 47), za (A 49), za (A 52), za (A 63), za (A 68), za (A 72)])), ((A 1), .inr (4, [za (A 2), za (A 3), zi (th : Int), zi (fx : Int), zi (d : Int), zi (w : Int)])), ((A 2), .inl (0, 13, .inl Y)), ((A 3), .inl (0, 3, .inl Q))]) h) rfl rfl rfl hq_7 ?_
  have hD : zND ([((A 0), .inr (7, [za (A 1), za (A 4), za (A 24), za (A 27), zi kt, za (A 47), za (A 49), za (A 52), za (A 63), za (A 68), za (A 72)])), ((A 1), .inr (4, [za (A 2), za (A 3), zi (th : Int), zi (fx : Int), zi (d : Int), zi (w : Int)])), ((A 2), .inl (0, 13, .inl Y)), ((A 3), .inl (0, 3, .inl Q))]) := hD
  have q_8 := bt_lt th p
  refine Zn.ifc (c := .eq) (off := 18) 47 (by decide +kernel) rfl ⟨by omega, by omega⟩ (fun c_9 => absurd (show (bt th p : Int) = 0 from c_9) (by omega)) (fun c_9 => ?_)
  have c_9 : ¬ ((bt th p : Int) = 0) := c_9
  refine Zn.seg (pc2 := 33) (ls2 := [some (za (A 0)), some (zi x), some (zi y), some (zi (p : Int))]) (st2 := [za (A 0)]) [(32, .aload_n 0)] (by decide +kernel) rfl ?_
  refine Zn.get (ix := 12) hD 0 (by decide +kernel) rfl rfl rfl ?_
  refine Zn.seg (pc2 := 37) (ls2 := [some (za (A 0)), some (zi x), some (zi y), some (zi (p : Int))]) (st2 := [zi (p : Int), za (A 1)]) [(36, .iload_n 3)] (by decide +kernel) rfl ?_
  refine Zn.call (ins := .invokevirtual 81) [za (A 1), zi (p : Int)] [] (by decide +kernel) rfl rfl rfl ⟨rfl, rfl⟩ ⟨rfl, rfl, rfl⟩ rfl (zrecvV hD (p := 1) rfl rfl rfl) (sp_X4_yAt (o := (A 1)) (ya := (A 2)) (qa := (A 3)) (th := th) (fx := fx) (d := d) (w := w) (p := p) (Y := Y) (zov_get hD 1 rfl) (zov_get hD 2 rfl) (nd_sub hD [1, 2] rfl rfl) (hp)) (fun v h2 hp => ?_)
  obtain ⟨rfl, hq_10⟩ := hp
  refine Zn.eq (pc2 := 40) (ls2 := [some (za (A 0)), some (zi x), some (zi y), some (zi (p : Int))]) (st2 := [zi (Y p)]) (h2 := zov ([((A 0), .inr (7, [za (A 1), za (A 4), za (A 24), za (A 27), zi kt, za (A 47), za (A 49), za (A 52), za (A 63), za (A 68), za (A 72)])), ((A 1), .inr (4, [za (A 2), za (A 3), zi (th : Int), zi (fx : Int), zi (d : Int), zi (w : Int)])), ((A 2), .inl (0, 13, .inl Y)), ((A 3), .inl (0, 3, .inl Q))]) h) rfl rfl rfl hq_10 ?_
  have hD : zND ([((A 0), .inr (7, [za (A 1), za (A 4), za (A 24), za (A 27), zi kt, za (A 47), za (A 49), za (A 52), za (A 63), za (A 68), za (A 72)])), ((A 1), .inr (4, [za (A 2), za (A 3), zi (th : Int), zi (fx : Int), zi (d : Int), zi (w : Int)])), ((A 2), .inl (0, 13, .inl Y)), ((A 3), .inl (0, 3, .inl Q))]) := hD
  refine Zn.seg (pc2 := 41) (ls2 := [some (za (A 0)), some (zi x), some (zi y), some (zi (p : Int))]) (st2 := [zi y, zi (Y p)]) [(40, .iload_n 2)] (by decide +kernel) rfl ?_
  refine Zn.icmp (c := .ne) (off := 21) 62 (by decide +kernel) rfl ⟨by omega, by omega⟩ ⟨by omega, by omega⟩ (fun c_11 => absurd (show Y p ≠ y from c_11) (by omega)) (fun c_11 => ?_)
  have c_11 : ¬ (Y p ≠ y) := c_11
  refine Zn.seg (pc2 := 46) (ls2 := [some (za (A 0)), some (zi x), some (zi y), some (zi (p : Int))]) (st2 := [zi (-2)]) [(44, .bipush (-2))] (by decide +kernel) rfl ?_
  exact Zn.iret (by decide +kernel) rfl (⟨by first | rfl | (refine congrArg some (congrArg zi ?_); first | omega | (simp_all; done) | (simp_all; omega)), hh.symm⟩)
theorem sp_X7_point_full {h : xH} {A : Nat → Nat} {kt : Int} {th fx d w : Nat} {Y Q : Nat → Int} {x y : Int} {p : Nat} (hc0 : h (A 0) = zcE (.inr (7, [za (A 1), za (A 4), za (A 24), za (A 27), zi kt, za (A 47), za (A 49), za (A 52), za (A 63), za (A 68), za (A 72)]))) (hc1 : h (A 1) = zcE (.inr (4, [za (A 2), za (A 3), zi (th : Int), zi (fx : Int), zi (d : Int), zi (w : Int)]))) (hc2 : h (A 2) = zcE (.inl (0, 13, .inl Y))) (hc3 : h (A 3) = zcE (.inl (0, 3, .inl Q))) (hD : [(A 0), (A 1), (A 2), (A 3)].Nodup) (hx : x = (p : Int) - 6) (hp : p < 13) (hyr : -99 ≤ y ∧ y ≤ 99) (hth : th < 8192) (h1 : bt th p = 0) (h2 : 8 ≤ pop th) : zEv k_X7_point [za (A 0), zi x, zi y] h (fun v h2 => v = some (zi (-3)) ∧ h2 = h) := by
  have hh : h = zov [((A 0), .inr (7, [za (A 1), za (A 4), za (A 24), za (A 27), zi kt, za (A 47), za (A 49), za (A 52), za (A 63), za (A 68), za (A 72)])), ((A 1), .inr (4, [za (A 2), za (A 3), zi (th : Int), zi (fx : Int), zi (d : Int), zi (w : Int)])), ((A 2), .inl (0, 13, .inl Y)), ((A 3), .inl (0, 3, .inl Q))] h := zov_self (List.forall_mem_cons.mpr ⟨hc0, List.forall_mem_cons.mpr ⟨hc1, List.forall_mem_cons.mpr ⟨hc2, List.forall_mem_cons.mpr ⟨hc3, fun _ q => absurd q List.not_mem_nil⟩⟩⟩⟩)
  refine zEv.body (I := (7, xI_X7_point, 4, 4, 88, 0, 0, false)) (rt := (some .int)) [some (za (A 0)), some (zi x), some (zi y), none] rfl rfl rfl rfl ?_
  refine Zn.eq rfl rfl rfl hh ?_
  have hD : zND ([((A 0), .inr (7, [za (A 1), za (A 4), za (A 24), za (A 27), zi kt, za (A 47), za (A 49), za (A 52), za (A 63), za (A 68), za (A 72)])), ((A 1), .inr (4, [za (A 2), za (A 3), zi (th : Int), zi (fx : Int), zi (d : Int), zi (w : Int)])), ((A 2), .inl (0, 13, .inl Y)), ((A 3), .inl (0, 3, .inl Q))]) := hD
  refine Zn.seg (pc2 := 1) (ls2 := [some (za (A 0)), some (zi x), some (zi y), none]) (st2 := [zi x]) [(0, .iload_n 1)] (by decide +kernel) rfl ?_
  refine Zn.call (ins := .invokestatic 71) [zi x] [] (by decide +kernel) rfl rfl rfl ⟨rfl, rfl⟩ ⟨rfl, rfl, rfl⟩ rfl (zrecvS (by decide)) (sp_X7_isX (x := x) (by first | assumption | exact ⟨by omega, by omega⟩)) (fun v h2 hp => ?_)
  obtain ⟨rfl, hq_1⟩ := hp
  refine Zn.eq (pc2 := 4) (ls2 := [some (za (A 0)), some (zi x), some (zi y), none]) (st2 := [zi (inB (-6) 6 x)]) (h2 := zov ([((A 0), .inr (7, [za (A 1), za (A 4), za (A 24), za (A 27), zi kt, za (A 47), za (A 49), za (A 52), za (A 63), za (A 68), za (A 72)])), ((A 1), .inr (4, [za (A 2), za (A 3), zi (th : Int), zi (fx : Int), zi (d : Int), zi (w : Int)])), ((A 2), .inl (0, 13, .inl Y)), ((A 3), .inl (0, 3, .inl Q))]) h) rfl rfl rfl hq_1 ?_
  have hD : zND ([((A 0), .inr (7, [za (A 1), za (A 4), za (A 24), za (A 27), zi kt, za (A 47), za (A 49), za (A 52), za (A 63), za (A 68), za (A 72)])), ((A 1), .inr (4, [za (A 2), za (A 3), zi (th : Int), zi (fx : Int), zi (d : Int), zi (w : Int)])), ((A 2), .inl (0, 13, .inl Y)), ((A 3), .inl (0, 3, .inl Q))]) := hD
  have q_2 := inB_spec (-6) 6 x
  refine Zn.ifc (c := .eq) (off := 10) 14 (by decide +kernel) rfl ⟨by omega, by omega⟩ (fun c_3 => absurd (show inB (-6) 6 x = 0 from c_3) (by omega)) (fun c_3 => ?_)
  have c_3 : ¬ (inB (-6) 6 x = 0) := c_3
  refine Zn.seg (pc2 := 8) (ls2 := [some (za (A 0)), some (zi x), some (zi y), none]) (st2 := [zi y]) [(7, .iload_n 2)] (by decide +kernel) rfl ?_
  refine Zn.call (ins := .invokestatic 75) [zi y] [] (by decide +kernel) rfl rfl rfl ⟨rfl, rfl⟩ ⟨rfl, rfl, rfl⟩ rfl (zrecvS (by decide)) (sp_X7_isY (x := y) (by first | assumption | exact ⟨by omega, by omega⟩)) (fun v h2 hp => ?_)
  obtain ⟨rfl, hq_4⟩ := hp
  refine Zn.eq (pc2 := 11) (ls2 := [some (za (A 0)), some (zi x), some (zi y), none]) (st2 := [zi (inB (-99) 99 y)]) (h2 := zov ([((A 0), .inr (7, [za (A 1), za (A 4), za (A 24), za (A 27), zi kt, za (A 47), za (A 49), za (A 52), za (A 63), za (A 68), za (A 72)])), ((A 1), .inr (4, [za (A 2), za (A 3), zi (th : Int), zi (fx : Int), zi (d : Int), zi (w : Int)])), ((A 2), .inl (0, 13, .inl Y)), ((A 3), .inl (0, 3, .inl Q))]) h) rfl rfl rfl hq_4 ?_
  have hD : zND ([((A 0), .inr (7, [za (A 1), za (A 4), za (A 24), za (A 27), zi kt, za (A 47), za (A 49), za (A 52), za (A 63), za (A 68), za (A 72)])), ((A 1), .inr (4, [za (A 2), za (A 3), zi (th : Int), zi (fx : Int), zi (d : Int), zi (w : Int)])), ((A 2), .inl (0, 13, .inl Y)), ((A 3), .inl (0, 3, .inl Q))]) := hD
  have q_5 := inB_spec (-99) 99 y
  refine Zn.ifc (c := .ne) (off := 5) 16 (by decide +kernel) rfl ⟨by omega, by omega⟩ (fun c_6 => ?_) (fun c_6 => absurd (show inB (-99) 99 y ≠ 0 from by omega) c_6)
  have c_6 : inB (-99) 99 y ≠ 0 := c_6
  refine Zn.seg (pc2 := 20) (ls2 := [some (za (A 0)), some (zi x), some (zi y), none]) (st2 := [zi (x + 6)]) [(16, .iload_n 1), (17, .bipush 6), (19, .iadd)] (by decide +kernel) rfl ?_
  refine Zn.topi (y := (p : Int)) (by omega) ?_
  refine Zn.seg (pc2 := 22) (ls2 := [some (za (A 0)), some (zi x), some (zi y), some (zi (p : Int))]) (st2 := [za (A 0)]) [(20, .istore_n 3), (21, .aload_n 0)] (by decide +kernel) rfl ?_
  refine Zn.get (ix := 12) hD 0 (by decide +kernel) rfl rfl rfl ?_
  refine Zn.seg (pc2 := 26) (ls2 := [some (za (A 0)), some (zi x), some (zi y), some (zi (p : Int))]) (st2 := [zi (p : Int), za (A 1)]) [(25, .iload_n 3)] (by decide +kernel) rfl ?_
  refine Zn.call (ins := .invokevirtual 78) [za (A 1), zi (p : Int)] [] (by decide +kernel) rfl rfl rfl ⟨rfl, rfl⟩ ⟨rfl, rfl, rfl⟩ rfl (zrecvV hD (p := 1) rfl rfl rfl) (sp_X4_has (o := (A 1)) (ya := (A 2)) (qa := (A 3)) (th := th) (fx := fx) (d := d) (w := w) (p := p) (zov_get hD 1 rfl) (hth) (by omega)) (fun v h2 hp => ?_)
  obtain ⟨rfl, hq_7⟩ := hp
  refine Zn.eq (pc2 := 29) (ls2 := [some (za (A 0)), some (zi x), some (zi y), some (zi (p : Int))]) (st2 := [zi (bt th p : Int)]) (h2 := zov ([((A 0), .inr (7, [za (A 1), za (A 4), za (A 24), za (A 27), zi kt, za (A 47), za (A 49), za (A 52), za (A 63), za (A 68), za (A 72)])), ((A 1), .inr (4, [za (A 2), za (A 3), zi (th : Int), zi (fx : Int), zi (d : Int), zi (w : Int)])), ((A 2), .inl (0, 13, .inl Y)), ((A 3), .inl (0, 3, .inl Q))]) h) rfl rfl rfl hq_7 ?_
  have hD : zND ([((A 0), .inr (7, [za (A 1), za (A 4), za (A 24), za (A 27), zi kt, za (A 47), za (A 49), za (A 52), za (A 63), za (A 68), za (A 72)])), ((A 1), .inr (4, [za (A 2), za (A 3), zi (th : Int), zi (fx : Int), zi (d : Int), zi (w : Int)])), ((A 2), .inl (0, 13, .inl Y)), ((A 3), .inl (0, 3, .inl Q))]) := hD
  have q_8 := bt_lt th p
  refine Zn.ifc (c := .eq) (off := 18) 47 (by decide +kernel) rfl ⟨by omega, by omega⟩ (fun c_9 => ?_) (fun c_9 => absurd (show (bt th p : Int) = 0 from by omega) c_9)
  have c_9 : (bt th p : Int) = 0 := c_9
  refine Zn.seg (pc2 := 48) (ls2 := [some (za (A 0)), some (zi x), some (zi y), some (zi (p : Int))]) (st2 := [za (A 0)]) [(47, .aload_n 0)] (by decide +kernel) rfl ?_
  refine Zn.get (ix := 12) hD 0 (by decide +kernel) rfl rfl rfl ?_
  refine Zn.call (ins := .invokevirtual 85) [za (A 1)] [] (by decide +kernel) rfl rfl rfl ⟨rfl, rfl⟩ ⟨rfl, rfl, rfl⟩ rfl (zrecvV hD (p := 1) rfl rfl rfl) (sp_X4_howMany (o := (A 1)) (ya := (A 2)) (qa := (A 3)) (th := th) (fx := fx) (d := d) (w := w) (zov_get hD 1 rfl) (by first | assumption | omega)) (fun v h2 hp => ?_)
  obtain ⟨rfl, hq_10⟩ := hp
  refine Zn.eq (pc2 := 54) (ls2 := [some (za (A 0)), some (zi x), some (zi y), some (zi (p : Int))]) (st2 := [zi (pop th : Int)]) (h2 := zov ([((A 0), .inr (7, [za (A 1), za (A 4), za (A 24), za (A 27), zi kt, za (A 47), za (A 49), za (A 52), za (A 63), za (A 68), za (A 72)])), ((A 1), .inr (4, [za (A 2), za (A 3), zi (th : Int), zi (fx : Int), zi (d : Int), zi (w : Int)])), ((A 2), .inl (0, 13, .inl Y)), ((A 3), .inl (0, 3, .inl Q))]) h) rfl rfl rfl hq_10 ?_
  have hD : zND ([((A 0), .inr (7, [za (A 1), za (A 4), za (A 24), za (A 27), zi kt, za (A 47), za (A 49), za (A 52), za (A 63), za (A 68), za (A 72)])), ((A 1), .inr (4, [za (A 2), za (A 3), zi (th : Int), zi (fx : Int), zi (d : Int), zi (w : Int)])), ((A 2), .inl (0, 13, .inl Y)), ((A 3), .inl (0, 3, .inl Q))]) := hD
  have q_11 := pop_le th
  refine Zn.seg (pc2 := 56) (ls2 := [some (za (A 0)), some (zi x), some (zi y), some (zi (p : Int))]) (st2 := [zi 8, zi (pop th : Int)]) [(54, .bipush 8)] (by decide +kernel) rfl ?_
  refine Zn.icmp (c := .lt) (off := 6) 62 (by decide +kernel) rfl ⟨by omega, by omega⟩ ⟨by decide, by decide⟩ (fun c_12 => absurd (show (pop th : Int) < 8 from c_12) (by omega)) (fun c_12 => ?_)
  have c_12 : ¬ ((pop th : Int) < 8) := c_12
  refine Zn.seg (pc2 := 61) (ls2 := [some (za (A 0)), some (zi x), some (zi y), some (zi (p : Int))]) (st2 := [zi (-3)]) [(59, .bipush (-3))] (by decide +kernel) rfl ?_
  exact Zn.iret (by decide +kernel) rfl (⟨by first | rfl | (refine congrArg some (congrArg zi ?_); first | omega | (simp_all; done) | (simp_all; omega)), hh.symm⟩)
theorem sp_X7_point_ok {h : xH} {A : Nat → Nat} {kt st al sv : Int} {th fx d w : Nat} {Y Q : Nat → Int} {s k : Nat} {H : Nat → sn} {x y : Int} {p : Nat} (hc0 : h (A 0) = zcE (.inr (7, [za (A 1), za (A 4), za (A 24), za (A 27), zi kt, za (A 47), za (A 49), za (A 52), za (A 63), za (A 68), za (A 72)]))) (hc1 : h (A 1) = zcE (.inr (4, [za (A 2), za (A 3), zi (th : Int), zi (fx : Int), zi (d : Int), zi (w : Int)]))) (hc2 : h (A 2) = zcE (.inl (0, 13, .inl Y))) (hc3 : h (A 3) = zcE (.inl (0, 3, .inl Q))) (hc4 : h (A 52) = zcE (.inr (0, [za (A 58), za (A 53), za (A 54), za (A 55), za (A 56), za (A 57), zi st, zi al, zi sv]))) (hD : [(A 0), (A 1), (A 2), (A 3), (A 52)].Nodup) (hA : AI A) (hs : s < 6) (hk : k ≤ 6) (hP : PBk h A 4 s k H) (hx : x = (p : Int) - 6) (hp : p < 13) (hyr : -99 ≤ y ∧ y ≤ 99) (hth : th < 8192) (h1 : (bt th p = 1 ∧ Y p ≠ y ∧ (-99 ≤ Y p ∧ Y p ≤ 99)) ∨ (bt th p = 0 ∧ pop th < 8)) : zEv k_X7_point [za (A 0), zi x, zi y] h (fun v h2 => ∃ hb : xH, v = some (zi (pop (th ||| 2 ^ p) : Int)) ∧ h2 = zov [((A 0), .inr (7, [za (A 1), za (A 4), za (A 24), za (A 27), zi kt, za (A 47), za (A 49), za (A 52), za (A 63), za (A 68), za (A 72)])), ((A 1), .inr (4, [za (A 2), za (A 3), zi ((th ||| 2 ^ p : Nat) : Int), zi (fx : Int), zi (d : Int), zi (w : Int)])), ((A 2), .inl (0, 13, .inl (va_up Y p y))), ((A 3), .inl (0, 3, .inl Q)), ((A 52), .inr (0, [za (A 58), za (A 53), za (A 54), za (A 55), za (A 56), za (A 57), zi st, zi al, zi 0]))] hb ∧ PBk hb A 4 (nwS k s) (kpN k) (nwH k H (th, fx, d, w, Y, Q)) ∧ ∀ a, (∀ i, i < 24 → a ≠ A i) → a ≠ A 52 → hb a = h a) := by
  have hh : h = zov [((A 0), .inr (7, [za (A 1), za (A 4), za (A 24), za (A 27), zi kt, za (A 47), za (A 49), za (A 52), za (A 63), za (A 68), za (A 72)])), ((A 1), .inr (4, [za (A 2), za (A 3), zi (th : Int), zi (fx : Int), zi (d : Int), zi (w : Int)])), ((A 2), .inl (0, 13, .inl Y)), ((A 3), .inl (0, 3, .inl Q)), ((A 52), .inr (0, [za (A 58), za (A 53), za (A 54), za (A 55), za (A 56), za (A 57), zi st, zi al, zi sv]))] h := zov_self (List.forall_mem_cons.mpr ⟨hc0, List.forall_mem_cons.mpr ⟨hc1, List.forall_mem_cons.mpr ⟨hc2, List.forall_mem_cons.mpr ⟨hc3, List.forall_mem_cons.mpr ⟨hc4, fun _ q => absurd q List.not_mem_nil⟩⟩⟩⟩⟩)
  have hfr0 : ∀ a, (∀ i, i < 24 → a ≠ A i) → a ≠ A 52 → h a = h a := fun _ _ _ => rfl
  refine zEv.body (I := (7, xI_X7_point, 4, 4, 88, 0, 0, false)) (rt := (some .int)) [some (za (A 0)), some (zi x), some (zi y), none] rfl rfl rfl rfl ?_
  refine Zn.eq rfl rfl rfl hh ?_
  have hD : zND ([((A 0), .inr (7, [za (A 1), za (A 4), za (A 24), za (A 27), zi kt, za (A 47), za (A 49), za (A 52), za (A 63), za (A 68), za (A 72)])), ((A 1), .inr (4, [za (A 2), za (A 3), zi (th : Int), zi (fx : Int), zi (d : Int), zi (w : Int)])), ((A 2), .inl (0, 13, .inl Y)), ((A 3), .inl (0, 3, .inl Q)), ((A 52), .inr (0, [za (A 58), za (A 53), za (A 54), za (A 55), za (A 56), za (A 57), zi st, zi al, zi sv]))]) := hD
  refine Zn.seg (pc2 := 1) (ls2 := [some (za (A 0)), some (zi x), some (zi y), none]) (st2 := [zi x]) [(0, .iload_n 1)] (by decide +kernel) rfl ?_
  refine Zn.call (ins := .invokestatic 71) [zi x] [] (by decide +kernel) rfl rfl rfl ⟨rfl, rfl⟩ ⟨rfl, rfl, rfl⟩ rfl (zrecvS (by decide)) (sp_X7_isX (x := x) (by first | assumption | exact ⟨by omega, by omega⟩)) (fun v h2 hp => ?_)
  obtain ⟨rfl, hq_1⟩ := hp
  refine Zn.eq (pc2 := 4) (ls2 := [some (za (A 0)), some (zi x), some (zi y), none]) (st2 := [zi (inB (-6) 6 x)]) (h2 := zov ([((A 0), .inr (7, [za (A 1), za (A 4), za (A 24), za (A 27), zi kt, za (A 47), za (A 49), za (A 52), za (A 63), za (A 68), za (A 72)])), ((A 1), .inr (4, [za (A 2), za (A 3), zi (th : Int), zi (fx : Int), zi (d : Int), zi (w : Int)])), ((A 2), .inl (0, 13, .inl Y)), ((A 3), .inl (0, 3, .inl Q)), ((A 52), .inr (0, [za (A 58), za (A 53), za (A 54), za (A 55), za (A 56), za (A 57), zi st, zi al, zi sv]))]) h) rfl rfl rfl hq_1 ?_
  have hD : zND ([((A 0), .inr (7, [za (A 1), za (A 4), za (A 24), za (A 27), zi kt, za (A 47), za (A 49), za (A 52), za (A 63), za (A 68), za (A 72)])), ((A 1), .inr (4, [za (A 2), za (A 3), zi (th : Int), zi (fx : Int), zi (d : Int), zi (w : Int)])), ((A 2), .inl (0, 13, .inl Y)), ((A 3), .inl (0, 3, .inl Q)), ((A 52), .inr (0, [za (A 58), za (A 53), za (A 54), za (A 55), za (A 56), za (A 57), zi st, zi al, zi sv]))]) := hD
  have q_2 := inB_spec (-6) 6 x
  refine Zn.ifc (c := .eq) (off := 10) 14 (by decide +kernel) rfl ⟨by omega, by omega⟩ (fun c_3 => absurd (show inB (-6) 6 x = 0 from c_3) (by omega)) (fun c_3 => ?_)
  have c_3 : ¬ (inB (-6) 6 x = 0) := c_3
  refine Zn.seg (pc2 := 8) (ls2 := [some (za (A 0)), some (zi x), some (zi y), none]) (st2 := [zi y]) [(7, .iload_n 2)] (by decide +kernel) rfl ?_
  refine Zn.call (ins := .invokestatic 75) [zi y] [] (by decide +kernel) rfl rfl rfl ⟨rfl, rfl⟩ ⟨rfl, rfl, rfl⟩ rfl (zrecvS (by decide)) (sp_X7_isY (x := y) (by first | assumption | exact ⟨by omega, by omega⟩)) (fun v h2 hp => ?_)
  obtain ⟨rfl, hq_4⟩ := hp
  refine Zn.eq (pc2 := 11) (ls2 := [some (za (A 0)), some (zi x), some (zi y), none]) (st2 := [zi (inB (-99) 99 y)]) (h2 := zov ([((A 0), .inr (7, [za (A 1), za (A 4), za (A 24), za (A 27), zi kt, za (A 47), za (A 49), za (A 52), za (A 63), za (A 68), za (A 72)])), ((A 1), .inr (4, [za (A 2), za (A 3), zi (th : Int), zi (fx : Int), zi (d : Int), zi (w : Int)])), ((A 2), .inl (0, 13, .inl Y)), ((A 3), .inl (0, 3, .inl Q)), ((A 52), .inr (0, [za (A 58), za (A 53), za (A 54), za (A 55), za (A 56), za (A 57), zi st, zi al, zi sv]))]) h) rfl rfl rfl hq_4 ?_
  have hD : zND ([((A 0), .inr (7, [za (A 1), za (A 4), za (A 24), za (A 27), zi kt, za (A 47), za (A 49), za (A 52), za (A 63), za (A 68), za (A 72)])), ((A 1), .inr (4, [za (A 2), za (A 3), zi (th : Int), zi (fx : Int), zi (d : Int), zi (w : Int)])), ((A 2), .inl (0, 13, .inl Y)), ((A 3), .inl (0, 3, .inl Q)), ((A 52), .inr (0, [za (A 58), za (A 53), za (A 54), za (A 55), za (A 56), za (A 57), zi st, zi al, zi sv]))]) := hD
  have q_5 := inB_spec (-99) 99 y
  refine Zn.ifc (c := .ne) (off := 5) 16 (by decide +kernel) rfl ⟨by omega, by omega⟩ (fun c_6 => ?_) (fun c_6 => absurd (show inB (-99) 99 y ≠ 0 from by omega) c_6)
  have c_6 : inB (-99) 99 y ≠ 0 := c_6
  refine Zn.seg (pc2 := 20) (ls2 := [some (za (A 0)), some (zi x), some (zi y), none]) (st2 := [zi (x + 6)]) [(16, .iload_n 1), (17, .bipush 6), (19, .iadd)] (by decide +kernel) rfl ?_
  refine Zn.topi (y := (p : Int)) (by omega) ?_
  refine Zn.seg (pc2 := 22) (ls2 := [some (za (A 0)), some (zi x), some (zi y), some (zi (p : Int))]) (st2 := [za (A 0)]) [(20, .istore_n 3), (21, .aload_n 0)] (by decide +kernel) rfl ?_
  refine Zn.get (ix := 12) hD 0 (by decide +kernel) rfl rfl rfl ?_
  refine Zn.seg (pc2 := 26) (ls2 := [some (za (A 0)), some (zi x), some (zi y), some (zi (p : Int))]) (st2 := [zi (p : Int), za (A 1)]) [(25, .iload_n 3)] (by decide +kernel) rfl ?_
  refine Zn.call (ins := .invokevirtual 78) [za (A 1), zi (p : Int)] [] (by decide +kernel) rfl rfl rfl ⟨rfl, rfl⟩ ⟨rfl, rfl, rfl⟩ rfl (zrecvV hD (p := 1) rfl rfl rfl) (sp_X4_has (o := (A 1)) (ya := (A 2)) (qa := (A 3)) (th := th) (fx := fx) (d := d) (w := w) (p := p) (zov_get hD 1 rfl) (hth) (by omega)) (fun v h2 hp => ?_)
  obtain ⟨rfl, hq_7⟩ := hp
  refine Zn.eq (pc2 := 29) (ls2 := [some (za (A 0)), some (zi x), some (zi y), some (zi (p : Int))]) (st2 := [zi (bt th p : Int)]) (h2 := zov ([((A 0), .inr (7, [za (A 1), za (A 4), za (A 24), za (A 27), zi kt, za (A 47), za (A 49), za (A 52), za (A 63), za (A 68), za (A 72)])), ((A 1), .inr (4, [za (A 2), za (A 3), zi (th : Int), zi (fx : Int), zi (d : Int), zi (w : Int)])), ((A 2), .inl (0, 13, .inl Y)), ((A 3), .inl (0, 3, .inl Q)), ((A 52), .inr (0, [za (A 58), za (A 53), za (A 54), za (A 55), za (A 56), za (A 57), zi st, zi al, zi sv]))]) h) rfl rfl rfl hq_7 ?_
  have hD : zND ([((A 0), .inr (7, [za (A 1), za (A 4), za (A 24), za (A 27), zi kt, za (A 47), za (A 49), za (A 52), za (A 63), za (A 68), za (A 72)])), ((A 1), .inr (4, [za (A 2), za (A 3), zi (th : Int), zi (fx : Int), zi (d : Int), zi (w : Int)])), ((A 2), .inl (0, 13, .inl Y)), ((A 3), .inl (0, 3, .inl Q)), ((A 52), .inr (0, [za (A 58), za (A 53), za (A 54), za (A 55), za (A 56), za (A 57), zi st, zi al, zi sv]))]) := hD
  have q_8 := bt_lt th p
  refine Zn.ifc (c := .eq) (off := 18) 47 (by decide +kernel) rfl ⟨by omega, by omega⟩ (fun c_9 => ?_) (fun c_9 => ?_)
  · have c_9 : (bt th p : Int) = 0 := c_9
    refine Zn.seg (pc2 := 48) (ls2 := [some (za (A 0)), some (zi x), some (zi y), some (zi (p : Int))]) (st2 := [za (A 0)]) [(47, .aload_n 0)] (by decide +kernel) rfl ?_
    refine Zn.get (ix := 12) hD 0 (by decide +kernel) rfl rfl rfl ?_
    refine Zn.call (ins := .invokevirtual 85) [za (A 1)] [] (by decide +kernel) rfl rfl rfl ⟨rfl, rfl⟩ ⟨rfl, rfl, rfl⟩ rfl (zrecvV hD (p := 1) rfl rfl rfl) (sp_X4_howMany (o := (A 1)) (ya := (A 2)) (qa := (A 3)) (th := th) (fx := fx) (d := d) (w := w) (zov_get hD 1 rfl) (by first | assumption | omega)) (fun v h2 hp => ?_)
    obtain ⟨rfl, hq_10⟩ := hp
    refine Zn.eq (pc2 := 54) (ls2 := [some (za (A 0)), some (zi x), some (zi y), some (zi (p : Int))]) (st2 := [zi (pop th : Int)]) (h2 := zov ([((A 0), .inr (7, [za (A 1), za (A 4), za (A 24), za (A 27), zi kt, za (A 47), za (A 49), za (A 52), za (A 63), za (A 68), za (A 72)])), ((A 1), .inr (4, [za (A 2), za (A 3), zi (th : Int), zi (fx : Int), zi (d : Int), zi (w : Int)])), ((A 2), .inl (0, 13, .inl Y)), ((A 3), .inl (0, 3, .inl Q)), ((A 52), .inr (0, [za (A 58), za (A 53), za (A 54), za (A 55), za (A 56), za (A 57), zi st, zi al, zi sv]))]) h) rfl rfl rfl hq_10 ?_
    have hD : zND ([((A 0), .inr (7, [za (A 1), za (A 4), za (A 24), za (A 27), zi kt, za (A 47), za (A 49), za (A 52), za (A 63), za (A 68), za (A 72)])), ((A 1), .inr (4, [za (A 2), za (A 3), zi (th : Int), zi (fx : Int), zi (d : Int), zi (w : Int)])), ((A 2), .inl (0, 13, .inl Y)), ((A 3), .inl (0, 3, .inl Q)), ((A 52), .inr (0, [za (A 58), za (A 53), za (A 54), za (A 55), za (A 56), za (A 57), zi st, zi al, zi sv]))]) := hD
    have q_11 := pop_le th
    refine Zn.seg (pc2 := 56) (ls2 := [some (za (A 0)), some (zi x), some (zi y), some (zi (p : Int))]) (st2 := [zi 8, zi (pop th : Int)]) [(54, .bipush 8)] (by decide +kernel) rfl ?_
    refine Zn.icmp (c := .lt) (off := 6) 62 (by decide +kernel) rfl ⟨by omega, by omega⟩ ⟨by decide, by decide⟩ (fun c_12 => ?_) (fun c_12 => absurd (show (pop th : Int) < 8 from by omega) c_12)
    have c_12 : (pop th : Int) < 8 := c_12
    refine Zn.seg (pc2 := 63) (ls2 := [some (za (A 0)), some (zi x), some (zi y), some (zi (p : Int))]) (st2 := [za (A 0)]) [(62, .aload_n 0)] (by decide +kernel) rfl ?_
    refine Zn.call (ins := .invokevirtual 89) [za (A 0)] [] (by decide +kernel) rfl rfl rfl ⟨rfl, rfl⟩ ⟨rfl, rfl, rfl⟩ rfl (zrecvV hD (p := 0) rfl rfl rfl) (sp_X7_rem (kt := kt) (st := st) (al := al) (sv := sv) (th := th) (fx := fx) (d := d) (w := w) (Y := Y) (Q := Q) (s := s) (k := k) (H := H) (zov_get hD 0 rfl) (zov_get hD 1 rfl) (zov_get hD 2 rfl) (zov_get hD 3 rfl) (zov_get hD 4 rfl) (nd_sub hD [0, 1, 2, 3, 4] rfl rfl) (hA) (hs) (hk) (by exact PBk_cg hP (fun i h1_ h2_ => A_out hA (i := i) [0, 1, 2, 3, 52] rfl (by simp only [List.mem_cons, List.not_mem_nil, or_false]; omega) (by omega) (by simp only [List.mem_cons, List.not_mem_nil, or_false, not_or]; omega)))) (fun v h2 hp => ?_)
    obtain ⟨h, rfl, hq_, hP, hfr_⟩ := hp
    have hfr0 : ∀ a, (∀ i, i < 24 → a ≠ A i) → a ≠ A 52 → h a = _ := fun a q1 q2 => (hfr_ a (fun j hj => q1 (4 + j) (by omega))).trans ((zov_out (by simp only [List.map_cons, List.map_nil, List.mem_cons, List.not_mem_nil, or_false, not_or]; exact ⟨q1 0 (by decide), q1 1 (by decide), q1 2 (by decide), q1 3 (by decide), q2⟩)).trans (hfr0 a q1 q2))
    refine Zn.eq (pc2 := 66) (ls2 := [some (za (A 0)), some (zi x), some (zi y), some (zi (p : Int))]) (st2 := []) (h2 := zov ([((A 0), .inr (7, [za (A 1), za (A 4), za (A 24), za (A 27), zi kt, za (A 47), za (A 49), za (A 52), za (A 63), za (A 68), za (A 72)])), ((A 1), .inr (4, [za (A 2), za (A 3), zi (th : Int), zi (fx : Int), zi (d : Int), zi (w : Int)])), ((A 2), .inl (0, 13, .inl Y)), ((A 3), .inl (0, 3, .inl Q)), ((A 52), .inr (0, [za (A 58), za (A 53), za (A 54), za (A 55), za (A 56), za (A 57), zi st, zi al, zi 0]))]) h) rfl rfl rfl hq_ ?_
    have hD : zND ([((A 0), .inr (7, [za (A 1), za (A 4), za (A 24), za (A 27), zi kt, za (A 47), za (A 49), za (A 52), za (A 63), za (A 68), za (A 72)])), ((A 1), .inr (4, [za (A 2), za (A 3), zi (th : Int), zi (fx : Int), zi (d : Int), zi (w : Int)])), ((A 2), .inl (0, 13, .inl Y)), ((A 3), .inl (0, 3, .inl Q)), ((A 52), .inr (0, [za (A 58), za (A 53), za (A 54), za (A 55), za (A 56), za (A 57), zi st, zi al, zi 0]))]) := hD
    have hD : zND ([((A 0), .inr (7, [za (A 1), za (A 4), za (A 24), za (A 27), zi kt, za (A 47), za (A 49), za (A 52), za (A 63), za (A 68), za (A 72)])), ((A 1), .inr (4, [za (A 2), za (A 3), zi (th : Int), zi (fx : Int), zi (d : Int), zi (w : Int)])), ((A 2), .inl (0, 13, .inl Y)), ((A 3), .inl (0, 3, .inl Q)), ((A 52), .inr (0, [za (A 58), za (A 53), za (A 54), za (A 55), za (A 56), za (A 57), zi st, zi al, zi 0]))]) := hD
    refine Zn.seg (pc2 := 67) (ls2 := [some (za (A 0)), some (zi x), some (zi y), some (zi (p : Int))]) (st2 := [za (A 0)]) [(66, .aload_n 0)] (by decide +kernel) rfl ?_
    refine Zn.get (ix := 12) hD 0 (by decide +kernel) rfl rfl rfl ?_
    refine Zn.seg (pc2 := 72) (ls2 := [some (za (A 0)), some (zi x), some (zi y), some (zi (p : Int))]) (st2 := [zi y, zi (p : Int), za (A 1)]) [(70, .iload_n 3), (71, .iload_n 2)] (by decide +kernel) rfl ?_
    refine Zn.call (ins := .invokevirtual 92) [za (A 1), zi (p : Int), zi y] [] (by decide +kernel) rfl rfl rfl ⟨rfl, rfl⟩ ⟨rfl, rfl, rfl⟩ rfl (zrecvV hD (p := 1) rfl rfl rfl) (sp_X4_put (o := (A 1)) (ya := (A 2)) (qa := (A 3)) (th := th) (fx := fx) (d := d) (w := w) (p := p) (Y := Y) (x := y) (zov_get hD 1 rfl) (zov_get hD 2 rfl) (nd_sub hD [1, 2] rfl rfl) (hth) (hp)) (fun v h2 hp => ?_)
    obtain ⟨rfl, hq_13⟩ := hp
    refine Zn.eq (pc2 := 75) (ls2 := [some (za (A 0)), some (zi x), some (zi y), some (zi (p : Int))]) (st2 := []) (h2 := zov ([((A 0), .inr (7, [za (A 1), za (A 4), za (A 24), za (A 27), zi kt, za (A 47), za (A 49), za (A 52), za (A 63), za (A 68), za (A 72)])), ((A 1), .inr (4, [za (A 2), za (A 3), zi ((th ||| 2 ^ p : Nat) : Int), zi (fx : Int), zi (d : Int), zi (w : Int)])), ((A 2), .inl (0, 13, .inl (va_up Y p y))), ((A 3), .inl (0, 3, .inl Q)), ((A 52), .inr (0, [za (A 58), za (A 53), za (A 54), za (A 55), za (A 56), za (A 57), zi st, zi al, zi 0]))]) h) rfl rfl rfl (hq_13.trans (zov_put hD [1, 2] _ rfl)) ?_
    have hD : zND ([((A 0), .inr (7, [za (A 1), za (A 4), za (A 24), za (A 27), zi kt, za (A 47), za (A 49), za (A 52), za (A 63), za (A 68), za (A 72)])), ((A 1), .inr (4, [za (A 2), za (A 3), zi ((th ||| 2 ^ p : Nat) : Int), zi (fx : Int), zi (d : Int), zi (w : Int)])), ((A 2), .inl (0, 13, .inl (va_up Y p y))), ((A 3), .inl (0, 3, .inl Q)), ((A 52), .inr (0, [za (A 58), za (A 53), za (A 54), za (A 55), za (A 56), za (A 57), zi st, zi al, zi 0]))]) := hD
    refine Zn.seg (pc2 := 76) (ls2 := [some (za (A 0)), some (zi x), some (zi y), some (zi (p : Int))]) (st2 := [za (A 0)]) [(75, .aload_n 0)] (by decide +kernel) rfl ?_
    refine Zn.get (ix := 12) hD 0 (by decide +kernel) rfl rfl rfl ?_
    refine Zn.call (ins := .invokevirtual 85) [za (A 1)] [] (by decide +kernel) rfl rfl rfl ⟨rfl, rfl⟩ ⟨rfl, rfl, rfl⟩ rfl (zrecvV hD (p := 1) rfl rfl rfl) (sp_X4_howMany (o := (A 1)) (ya := (A 2)) (qa := (A 3)) (th := th ||| 2 ^ p) (fx := fx) (d := d) (w := w) (zov_get hD 1 rfl) (or_lt hth (pw_lt hp))) (fun v h2 hp => ?_)
    obtain ⟨rfl, hq_14⟩ := hp
    refine Zn.eq (pc2 := 82) (ls2 := [some (za (A 0)), some (zi x), some (zi y), some (zi (p : Int))]) (st2 := [zi (pop (th ||| 2 ^ p) : Int)]) (h2 := zov ([((A 0), .inr (7, [za (A 1), za (A 4), za (A 24), za (A 27), zi kt, za (A 47), za (A 49), za (A 52), za (A 63), za (A 68), za (A 72)])), ((A 1), .inr (4, [za (A 2), za (A 3), zi ((th ||| 2 ^ p : Nat) : Int), zi (fx : Int), zi (d : Int), zi (w : Int)])), ((A 2), .inl (0, 13, .inl (va_up Y p y))), ((A 3), .inl (0, 3, .inl Q)), ((A 52), .inr (0, [za (A 58), za (A 53), za (A 54), za (A 55), za (A 56), za (A 57), zi st, zi al, zi 0]))]) h) rfl rfl rfl hq_14 ?_
    have hD : zND ([((A 0), .inr (7, [za (A 1), za (A 4), za (A 24), za (A 27), zi kt, za (A 47), za (A 49), za (A 52), za (A 63), za (A 68), za (A 72)])), ((A 1), .inr (4, [za (A 2), za (A 3), zi ((th ||| 2 ^ p : Nat) : Int), zi (fx : Int), zi (d : Int), zi (w : Int)])), ((A 2), .inl (0, 13, .inl (va_up Y p y))), ((A 3), .inl (0, 3, .inl Q)), ((A 52), .inr (0, [za (A 58), za (A 53), za (A 54), za (A 55), za (A 56), za (A 57), zi st, zi al, zi 0]))]) := hD
    have q_15 := pop_le (th ||| 2 ^ p)
    exact Zn.iret (by decide +kernel) rfl (⟨h, by first | rfl | (refine congrArg some (congrArg zi ?_); first | omega | (simp_all; done) | (simp_all; omega)), rfl, hP, hfr0⟩)
  · have c_9 : ¬ ((bt th p : Int) = 0) := c_9
    refine Zn.seg (pc2 := 33) (ls2 := [some (za (A 0)), some (zi x), some (zi y), some (zi (p : Int))]) (st2 := [za (A 0)]) [(32, .aload_n 0)] (by decide +kernel) rfl ?_
    refine Zn.get (ix := 12) hD 0 (by decide +kernel) rfl rfl rfl ?_
    refine Zn.seg (pc2 := 37) (ls2 := [some (za (A 0)), some (zi x), some (zi y), some (zi (p : Int))]) (st2 := [zi (p : Int), za (A 1)]) [(36, .iload_n 3)] (by decide +kernel) rfl ?_
    refine Zn.call (ins := .invokevirtual 81) [za (A 1), zi (p : Int)] [] (by decide +kernel) rfl rfl rfl ⟨rfl, rfl⟩ ⟨rfl, rfl, rfl⟩ rfl (zrecvV hD (p := 1) rfl rfl rfl) (sp_X4_yAt (o := (A 1)) (ya := (A 2)) (qa := (A 3)) (th := th) (fx := fx) (d := d) (w := w) (p := p) (Y := Y) (zov_get hD 1 rfl) (zov_get hD 2 rfl) (nd_sub hD [1, 2] rfl rfl) (hp)) (fun v h2 hp => ?_)
    obtain ⟨rfl, hq_16⟩ := hp
    refine Zn.eq (pc2 := 40) (ls2 := [some (za (A 0)), some (zi x), some (zi y), some (zi (p : Int))]) (st2 := [zi (Y p)]) (h2 := zov ([((A 0), .inr (7, [za (A 1), za (A 4), za (A 24), za (A 27), zi kt, za (A 47), za (A 49), za (A 52), za (A 63), za (A 68), za (A 72)])), ((A 1), .inr (4, [za (A 2), za (A 3), zi (th : Int), zi (fx : Int), zi (d : Int), zi (w : Int)])), ((A 2), .inl (0, 13, .inl Y)), ((A 3), .inl (0, 3, .inl Q)), ((A 52), .inr (0, [za (A 58), za (A 53), za (A 54), za (A 55), za (A 56), za (A 57), zi st, zi al, zi sv]))]) h) rfl rfl rfl hq_16 ?_
    have hD : zND ([((A 0), .inr (7, [za (A 1), za (A 4), za (A 24), za (A 27), zi kt, za (A 47), za (A 49), za (A 52), za (A 63), za (A 68), za (A 72)])), ((A 1), .inr (4, [za (A 2), za (A 3), zi (th : Int), zi (fx : Int), zi (d : Int), zi (w : Int)])), ((A 2), .inl (0, 13, .inl Y)), ((A 3), .inl (0, 3, .inl Q)), ((A 52), .inr (0, [za (A 58), za (A 53), za (A 54), za (A 55), za (A 56), za (A 57), zi st, zi al, zi sv]))]) := hD
    refine Zn.seg (pc2 := 41) (ls2 := [some (za (A 0)), some (zi x), some (zi y), some (zi (p : Int))]) (st2 := [zi y, zi (Y p)]) [(40, .iload_n 2)] (by decide +kernel) rfl ?_
    refine Zn.icmp (c := .ne) (off := 21) 62 (by decide +kernel) rfl ⟨by omega, by omega⟩ ⟨by omega, by omega⟩ (fun c_17 => ?_) (fun c_17 => absurd (show Y p ≠ y from by omega) c_17)
    have c_17 : Y p ≠ y := c_17
    refine Zn.seg (pc2 := 63) (ls2 := [some (za (A 0)), some (zi x), some (zi y), some (zi (p : Int))]) (st2 := [za (A 0)]) [(62, .aload_n 0)] (by decide +kernel) rfl ?_
    refine Zn.call (ins := .invokevirtual 89) [za (A 0)] [] (by decide +kernel) rfl rfl rfl ⟨rfl, rfl⟩ ⟨rfl, rfl, rfl⟩ rfl (zrecvV hD (p := 0) rfl rfl rfl) (sp_X7_rem (kt := kt) (st := st) (al := al) (sv := sv) (th := th) (fx := fx) (d := d) (w := w) (Y := Y) (Q := Q) (s := s) (k := k) (H := H) (zov_get hD 0 rfl) (zov_get hD 1 rfl) (zov_get hD 2 rfl) (zov_get hD 3 rfl) (zov_get hD 4 rfl) (nd_sub hD [0, 1, 2, 3, 4] rfl rfl) (hA) (hs) (hk) (by exact PBk_cg hP (fun i h1_ h2_ => A_out hA (i := i) [0, 1, 2, 3, 52] rfl (by simp only [List.mem_cons, List.not_mem_nil, or_false]; omega) (by omega) (by simp only [List.mem_cons, List.not_mem_nil, or_false, not_or]; omega)))) (fun v h2 hp => ?_)
    obtain ⟨h, rfl, hq_, hP, hfr_⟩ := hp
    have hfr0 : ∀ a, (∀ i, i < 24 → a ≠ A i) → a ≠ A 52 → h a = _ := fun a q1 q2 => (hfr_ a (fun j hj => q1 (4 + j) (by omega))).trans ((zov_out (by simp only [List.map_cons, List.map_nil, List.mem_cons, List.not_mem_nil, or_false, not_or]; exact ⟨q1 0 (by decide), q1 1 (by decide), q1 2 (by decide), q1 3 (by decide), q2⟩)).trans (hfr0 a q1 q2))
    refine Zn.eq (pc2 := 66) (ls2 := [some (za (A 0)), some (zi x), some (zi y), some (zi (p : Int))]) (st2 := []) (h2 := zov ([((A 0), .inr (7, [za (A 1), za (A 4), za (A 24), za (A 27), zi kt, za (A 47), za (A 49), za (A 52), za (A 63), za (A 68), za (A 72)])), ((A 1), .inr (4, [za (A 2), za (A 3), zi (th : Int), zi (fx : Int), zi (d : Int), zi (w : Int)])), ((A 2), .inl (0, 13, .inl Y)), ((A 3), .inl (0, 3, .inl Q)), ((A 52), .inr (0, [za (A 58), za (A 53), za (A 54), za (A 55), za (A 56), za (A 57), zi st, zi al, zi 0]))]) h) rfl rfl rfl hq_ ?_
    have hD : zND ([((A 0), .inr (7, [za (A 1), za (A 4), za (A 24), za (A 27), zi kt, za (A 47), za (A 49), za (A 52), za (A 63), za (A 68), za (A 72)])), ((A 1), .inr (4, [za (A 2), za (A 3), zi (th : Int), zi (fx : Int), zi (d : Int), zi (w : Int)])), ((A 2), .inl (0, 13, .inl Y)), ((A 3), .inl (0, 3, .inl Q)), ((A 52), .inr (0, [za (A 58), za (A 53), za (A 54), za (A 55), za (A 56), za (A 57), zi st, zi al, zi 0]))]) := hD
    have hD : zND ([((A 0), .inr (7, [za (A 1), za (A 4), za (A 24), za (A 27), zi kt, za (A 47), za (A 49), za (A 52), za (A 63), za (A 68), za (A 72)])), ((A 1), .inr (4, [za (A 2), za (A 3), zi (th : Int), zi (fx : Int), zi (d : Int), zi (w : Int)])), ((A 2), .inl (0, 13, .inl Y)), ((A 3), .inl (0, 3, .inl Q)), ((A 52), .inr (0, [za (A 58), za (A 53), za (A 54), za (A 55), za (A 56), za (A 57), zi st, zi al, zi 0]))]) := hD
    refine Zn.seg (pc2 := 67) (ls2 := [some (za (A 0)), some (zi x), some (zi y), some (zi (p : Int))]) (st2 := [za (A 0)]) [(66, .aload_n 0)] (by decide +kernel) rfl ?_
    refine Zn.get (ix := 12) hD 0 (by decide +kernel) rfl rfl rfl ?_
    refine Zn.seg (pc2 := 72) (ls2 := [some (za (A 0)), some (zi x), some (zi y), some (zi (p : Int))]) (st2 := [zi y, zi (p : Int), za (A 1)]) [(70, .iload_n 3), (71, .iload_n 2)] (by decide +kernel) rfl ?_
    refine Zn.call (ins := .invokevirtual 92) [za (A 1), zi (p : Int), zi y] [] (by decide +kernel) rfl rfl rfl ⟨rfl, rfl⟩ ⟨rfl, rfl, rfl⟩ rfl (zrecvV hD (p := 1) rfl rfl rfl) (sp_X4_put (o := (A 1)) (ya := (A 2)) (qa := (A 3)) (th := th) (fx := fx) (d := d) (w := w) (p := p) (Y := Y) (x := y) (zov_get hD 1 rfl) (zov_get hD 2 rfl) (nd_sub hD [1, 2] rfl rfl) (hth) (hp)) (fun v h2 hp => ?_)
    obtain ⟨rfl, hq_18⟩ := hp
    refine Zn.eq (pc2 := 75) (ls2 := [some (za (A 0)), some (zi x), some (zi y), some (zi (p : Int))]) (st2 := []) (h2 := zov ([((A 0), .inr (7, [za (A 1), za (A 4), za (A 24), za (A 27), zi kt, za (A 47), za (A 49), za (A 52), za (A 63), za (A 68), za (A 72)])), ((A 1), .inr (4, [za (A 2), za (A 3), zi ((th ||| 2 ^ p : Nat) : Int), zi (fx : Int), zi (d : Int), zi (w : Int)])), ((A 2), .inl (0, 13, .inl (va_up Y p y))), ((A 3), .inl (0, 3, .inl Q)), ((A 52), .inr (0, [za (A 58), za (A 53), za (A 54), za (A 55), za (A 56), za (A 57), zi st, zi al, zi 0]))]) h) rfl rfl rfl (hq_18.trans (zov_put hD [1, 2] _ rfl)) ?_
    have hD : zND ([((A 0), .inr (7, [za (A 1), za (A 4), za (A 24), za (A 27), zi kt, za (A 47), za (A 49), za (A 52), za (A 63), za (A 68), za (A 72)])), ((A 1), .inr (4, [za (A 2), za (A 3), zi ((th ||| 2 ^ p : Nat) : Int), zi (fx : Int), zi (d : Int), zi (w : Int)])), ((A 2), .inl (0, 13, .inl (va_up Y p y))), ((A 3), .inl (0, 3, .inl Q)), ((A 52), .inr (0, [za (A 58), za (A 53), za (A 54), za (A 55), za (A 56), za (A 57), zi st, zi al, zi 0]))]) := hD
    refine Zn.seg (pc2 := 76) (ls2 := [some (za (A 0)), some (zi x), some (zi y), some (zi (p : Int))]) (st2 := [za (A 0)]) [(75, .aload_n 0)] (by decide +kernel) rfl ?_
    refine Zn.get (ix := 12) hD 0 (by decide +kernel) rfl rfl rfl ?_
    refine Zn.call (ins := .invokevirtual 85) [za (A 1)] [] (by decide +kernel) rfl rfl rfl ⟨rfl, rfl⟩ ⟨rfl, rfl, rfl⟩ rfl (zrecvV hD (p := 1) rfl rfl rfl) (sp_X4_howMany (o := (A 1)) (ya := (A 2)) (qa := (A 3)) (th := th ||| 2 ^ p) (fx := fx) (d := d) (w := w) (zov_get hD 1 rfl) (or_lt hth (pw_lt hp))) (fun v h2 hp => ?_)
    obtain ⟨rfl, hq_19⟩ := hp
    refine Zn.eq (pc2 := 82) (ls2 := [some (za (A 0)), some (zi x), some (zi y), some (zi (p : Int))]) (st2 := [zi (pop (th ||| 2 ^ p) : Int)]) (h2 := zov ([((A 0), .inr (7, [za (A 1), za (A 4), za (A 24), za (A 27), zi kt, za (A 47), za (A 49), za (A 52), za (A 63), za (A 68), za (A 72)])), ((A 1), .inr (4, [za (A 2), za (A 3), zi ((th ||| 2 ^ p : Nat) : Int), zi (fx : Int), zi (d : Int), zi (w : Int)])), ((A 2), .inl (0, 13, .inl (va_up Y p y))), ((A 3), .inl (0, 3, .inl Q)), ((A 52), .inr (0, [za (A 58), za (A 53), za (A 54), za (A 55), za (A 56), za (A 57), zi st, zi al, zi 0]))]) h) rfl rfl rfl hq_19 ?_
    have hD : zND ([((A 0), .inr (7, [za (A 1), za (A 4), za (A 24), za (A 27), zi kt, za (A 47), za (A 49), za (A 52), za (A 63), za (A 68), za (A 72)])), ((A 1), .inr (4, [za (A 2), za (A 3), zi ((th ||| 2 ^ p : Nat) : Int), zi (fx : Int), zi (d : Int), zi (w : Int)])), ((A 2), .inl (0, 13, .inl (va_up Y p y))), ((A 3), .inl (0, 3, .inl Q)), ((A 52), .inr (0, [za (A 58), za (A 53), za (A 54), za (A 55), za (A 56), za (A 57), zi st, zi al, zi 0]))]) := hD
    have q_20 := pop_le (th ||| 2 ^ p)
    exact Zn.iret (by decide +kernel) rfl (⟨h, by first | rfl | (refine congrArg some (congrArg zi ?_); first | omega | (simp_all; done) | (simp_all; omega)), rfl, hP, hfr0⟩)
theorem sp_X7_out_bad {h : xH} {A : Nat → Nat} {x : Int} (zx : zInI x) (hb : ¬ (-6 ≤ x ∧ x ≤ 6)) : zEv k_X7_out [za (A 0), zi x] h (fun v h2 => v = some (zi (-1)) ∧ h2 = h) := by
  have hD : ([] : List Nat).Nodup := List.nodup_nil
  have hh : h = zov [] h := zov_self (fun _ q => absurd q List.not_mem_nil)
  have zx1 := zx.1
  have zx2 := zx.2
  refine zEv.body (I := (7, xI_X7_out, 3, 4, 88, 0, 0, false)) (rt := (some .int)) [some (za (A 0)), some (zi x), none] rfl rfl rfl rfl ?_
  refine Zn.eq rfl rfl rfl hh ?_
  have hD : zND ([]) := hD
  refine Zn.seg (pc2 := 1) (ls2 := [some (za (A 0)), some (zi x), none]) (st2 := [zi x]) [(0, .iload_n 1)] (by decide +kernel) rfl ?_
  refine Zn.call (ins := .invokestatic 71) [zi x] [] (by decide +kernel) rfl rfl rfl ⟨rfl, rfl⟩ ⟨rfl, rfl, rfl⟩ rfl (zrecvS (by decide)) (sp_X7_isX (x := x) (by first | assumption | exact ⟨by omega, by omega⟩)) (fun v h2 hp => ?_)
  obtain ⟨rfl, hq_1⟩ := hp
  refine Zn.eq (pc2 := 4) (ls2 := [some (za (A 0)), some (zi x), none]) (st2 := [zi (inB (-6) 6 x)]) (h2 := zov ([]) h) rfl rfl rfl hq_1 ?_
  have hD : zND ([]) := hD
  have q_2 := inB_spec (-6) 6 x
  refine Zn.ifc (c := .ne) (off := 5) 9 (by decide +kernel) rfl ⟨by omega, by omega⟩ (fun c_3 => absurd (show inB (-6) 6 x ≠ 0 from c_3) (by omega)) (fun c_3 => ?_)
  have c_3 : ¬ (inB (-6) 6 x ≠ 0) := c_3
  refine Zn.seg (pc2 := 8) (ls2 := [some (za (A 0)), some (zi x), none]) (st2 := [zi (-1)]) [(7, .iconst (-1))] (by decide +kernel) rfl ?_
  exact Zn.iret (by decide +kernel) rfl (⟨by first | rfl | (refine congrArg some (congrArg zi ?_); first | omega | (simp_all; done) | (simp_all; omega)), hh.symm⟩)
theorem sp_X7_out_none {h : xH} {A : Nat → Nat} {kt : Int} {th fx d w : Nat} {Y Q : Nat → Int} {x : Int} {p : Nat} (hc0 : h (A 0) = zcE (.inr (7, [za (A 1), za (A 4), za (A 24), za (A 27), zi kt, za (A 47), za (A 49), za (A 52), za (A 63), za (A 68), za (A 72)]))) (hc1 : h (A 1) = zcE (.inr (4, [za (A 2), za (A 3), zi (th : Int), zi (fx : Int), zi (d : Int), zi (w : Int)]))) (hc2 : h (A 2) = zcE (.inl (0, 13, .inl Y))) (hc3 : h (A 3) = zcE (.inl (0, 3, .inl Q))) (hD : [(A 0), (A 1), (A 2), (A 3)].Nodup) (hx : x = (p : Int) - 6) (hp : p < 13) (hth : th < 8192) (h1 : bt th p = 0) : zEv k_X7_out [za (A 0), zi x] h (fun v h2 => v = some (zi (-4)) ∧ h2 = h) := by
  have hh : h = zov [((A 0), .inr (7, [za (A 1), za (A 4), za (A 24), za (A 27), zi kt, za (A 47), za (A 49), za (A 52), za (A 63), za (A 68), za (A 72)])), ((A 1), .inr (4, [za (A 2), za (A 3), zi (th : Int), zi (fx : Int), zi (d : Int), zi (w : Int)])), ((A 2), .inl (0, 13, .inl Y)), ((A 3), .inl (0, 3, .inl Q))] h := zov_self (List.forall_mem_cons.mpr ⟨hc0, List.forall_mem_cons.mpr ⟨hc1, List.forall_mem_cons.mpr ⟨hc2, List.forall_mem_cons.mpr ⟨hc3, fun _ q => absurd q List.not_mem_nil⟩⟩⟩⟩)
  refine zEv.body (I := (7, xI_X7_out, 3, 4, 88, 0, 0, false)) (rt := (some .int)) [some (za (A 0)), some (zi x), none] rfl rfl rfl rfl ?_
  refine Zn.eq rfl rfl rfl hh ?_
  have hD : zND ([((A 0), .inr (7, [za (A 1), za (A 4), za (A 24), za (A 27), zi kt, za (A 47), za (A 49), za (A 52), za (A 63), za (A 68), za (A 72)])), ((A 1), .inr (4, [za (A 2), za (A 3), zi (th : Int), zi (fx : Int), zi (d : Int), zi (w : Int)])), ((A 2), .inl (0, 13, .inl Y)), ((A 3), .inl (0, 3, .inl Q))]) := hD
  refine Zn.seg (pc2 := 1) (ls2 := [some (za (A 0)), some (zi x), none]) (st2 := [zi x]) [(0, .iload_n 1)] (by decide +kernel) rfl ?_
  refine Zn.call (ins := .invokestatic 71) [zi x] [] (by decide +kernel) rfl rfl rfl ⟨rfl, rfl⟩ ⟨rfl, rfl, rfl⟩ rfl (zrecvS (by decide)) (sp_X7_isX (x := x) (by first | assumption | exact ⟨by omega, by omega⟩)) (fun v h2 hp => ?_)
  obtain ⟨rfl, hq_1⟩ := hp
  refine Zn.eq (pc2 := 4) (ls2 := [some (za (A 0)), some (zi x), none]) (st2 := [zi (inB (-6) 6 x)]) (h2 := zov ([((A 0), .inr (7, [za (A 1), za (A 4), za (A 24), za (A 27), zi kt, za (A 47), za (A 49), za (A 52), za (A 63), za (A 68), za (A 72)])), ((A 1), .inr (4, [za (A 2), za (A 3), zi (th : Int), zi (fx : Int), zi (d : Int), zi (w : Int)])), ((A 2), .inl (0, 13, .inl Y)), ((A 3), .inl (0, 3, .inl Q))]) h) rfl rfl rfl hq_1 ?_
  have hD : zND ([((A 0), .inr (7, [za (A 1), za (A 4), za (A 24), za (A 27), zi kt, za (A 47), za (A 49), za (A 52), za (A 63), za (A 68), za (A 72)])), ((A 1), .inr (4, [za (A 2), za (A 3), zi (th : Int), zi (fx : Int), zi (d : Int), zi (w : Int)])), ((A 2), .inl (0, 13, .inl Y)), ((A 3), .inl (0, 3, .inl Q))]) := hD
  have q_2 := inB_spec (-6) 6 x
  refine Zn.ifc (c := .ne) (off := 5) 9 (by decide +kernel) rfl ⟨by omega, by omega⟩ (fun c_3 => ?_) (fun c_3 => absurd (show inB (-6) 6 x ≠ 0 from by omega) c_3)
  have c_3 : inB (-6) 6 x ≠ 0 := c_3
  refine Zn.seg (pc2 := 13) (ls2 := [some (za (A 0)), some (zi x), none]) (st2 := [zi (x + 6)]) [(9, .iload_n 1), (10, .bipush 6), (12, .iadd)] (by decide +kernel) rfl ?_
  refine Zn.topi (y := (p : Int)) (by omega) ?_
  refine Zn.seg (pc2 := 15) (ls2 := [some (za (A 0)), some (zi x), some (zi (p : Int))]) (st2 := [za (A 0)]) [(13, .istore_n 2), (14, .aload_n 0)] (by decide +kernel) rfl ?_
  refine Zn.get (ix := 12) hD 0 (by decide +kernel) rfl rfl rfl ?_
  refine Zn.seg (pc2 := 19) (ls2 := [some (za (A 0)), some (zi x), some (zi (p : Int))]) (st2 := [zi (p : Int), za (A 1)]) [(18, .iload_n 2)] (by decide +kernel) rfl ?_
  refine Zn.call (ins := .invokevirtual 78) [za (A 1), zi (p : Int)] [] (by decide +kernel) rfl rfl rfl ⟨rfl, rfl⟩ ⟨rfl, rfl, rfl⟩ rfl (zrecvV hD (p := 1) rfl rfl rfl) (sp_X4_has (o := (A 1)) (ya := (A 2)) (qa := (A 3)) (th := th) (fx := fx) (d := d) (w := w) (p := p) (zov_get hD 1 rfl) (hth) (by omega)) (fun v h2 hp => ?_)
  obtain ⟨rfl, hq_4⟩ := hp
  refine Zn.eq (pc2 := 22) (ls2 := [some (za (A 0)), some (zi x), some (zi (p : Int))]) (st2 := [zi (bt th p : Int)]) (h2 := zov ([((A 0), .inr (7, [za (A 1), za (A 4), za (A 24), za (A 27), zi kt, za (A 47), za (A 49), za (A 52), za (A 63), za (A 68), za (A 72)])), ((A 1), .inr (4, [za (A 2), za (A 3), zi (th : Int), zi (fx : Int), zi (d : Int), zi (w : Int)])), ((A 2), .inl (0, 13, .inl Y)), ((A 3), .inl (0, 3, .inl Q))]) h) rfl rfl rfl hq_4 ?_
  have hD : zND ([((A 0), .inr (7, [za (A 1), za (A 4), za (A 24), za (A 27), zi kt, za (A 47), za (A 49), za (A 52), za (A 63), za (A 68), za (A 72)])), ((A 1), .inr (4, [za (A 2), za (A 3), zi (th : Int), zi (fx : Int), zi (d : Int), zi (w : Int)])), ((A 2), .inl (0, 13, .inl Y)), ((A 3), .inl (0, 3, .inl Q))]) := hD
  have q_5 := bt_lt th p
  refine Zn.ifc (c := .ne) (off := 6) 28 (by decide +kernel) rfl ⟨by omega, by omega⟩ (fun c_6 => absurd (show (bt th p : Int) ≠ 0 from c_6) (by omega)) (fun c_6 => ?_)
  have c_6 : ¬ ((bt th p : Int) ≠ 0) := c_6
  refine Zn.seg (pc2 := 27) (ls2 := [some (za (A 0)), some (zi x), some (zi (p : Int))]) (st2 := [zi (-4)]) [(25, .bipush (-4))] (by decide +kernel) rfl ?_
  exact Zn.iret (by decide +kernel) rfl (⟨by first | rfl | (refine congrArg some (congrArg zi ?_); first | omega | (simp_all; done) | (simp_all; omega)), hh.symm⟩)
theorem sp_X7_out_ok {h : xH} {A : Nat → Nat} {kt st al sv : Int} {th fx d w : Nat} {Y Q : Nat → Int} {s k : Nat} {H : Nat → sn} {x : Int} {p : Nat} (hc0 : h (A 0) = zcE (.inr (7, [za (A 1), za (A 4), za (A 24), za (A 27), zi kt, za (A 47), za (A 49), za (A 52), za (A 63), za (A 68), za (A 72)]))) (hc1 : h (A 1) = zcE (.inr (4, [za (A 2), za (A 3), zi (th : Int), zi (fx : Int), zi (d : Int), zi (w : Int)]))) (hc2 : h (A 2) = zcE (.inl (0, 13, .inl Y))) (hc3 : h (A 3) = zcE (.inl (0, 3, .inl Q))) (hc4 : h (A 52) = zcE (.inr (0, [za (A 58), za (A 53), za (A 54), za (A 55), za (A 56), za (A 57), zi st, zi al, zi sv]))) (hD : [(A 0), (A 1), (A 2), (A 3), (A 52)].Nodup) (hA : AI A) (hs : s < 6) (hk : k ≤ 6) (hP : PBk h A 4 s k H) (hx : x = (p : Int) - 6) (hp : p < 13) (hth : th < 8192) (hfx : fx < 8192) (h1 : bt th p = 1) : zEv k_X7_out [za (A 0), zi x] h (fun v h2 => ∃ hb : xH, v = some (zi (pop (bdiff th (2 ^ p)) : Int)) ∧ h2 = zov [((A 0), .inr (7, [za (A 1), za (A 4), za (A 24), za (A 27), zi kt, za (A 47), za (A 49), za (A 52), za (A 63), za (A 68), za (A 72)])), ((A 1), .inr (4, [za (A 2), za (A 3), zi ((bdiff th (2 ^ p) : Nat) : Int), zi ((bdiff fx (2 ^ p) : Nat) : Int), zi (d : Int), zi (w : Int)])), ((A 2), .inl (0, 13, .inl Y)), ((A 3), .inl (0, 3, .inl Q)), ((A 52), .inr (0, [za (A 58), za (A 53), za (A 54), za (A 55), za (A 56), za (A 57), zi st, zi al, zi 0]))] hb ∧ PBk hb A 4 (nwS k s) (kpN k) (nwH k H (th, fx, d, w, Y, Q)) ∧ ∀ a, (∀ i, i < 24 → a ≠ A i) → a ≠ A 52 → hb a = h a) := by
  have hh : h = zov [((A 0), .inr (7, [za (A 1), za (A 4), za (A 24), za (A 27), zi kt, za (A 47), za (A 49), za (A 52), za (A 63), za (A 68), za (A 72)])), ((A 1), .inr (4, [za (A 2), za (A 3), zi (th : Int), zi (fx : Int), zi (d : Int), zi (w : Int)])), ((A 2), .inl (0, 13, .inl Y)), ((A 3), .inl (0, 3, .inl Q)), ((A 52), .inr (0, [za (A 58), za (A 53), za (A 54), za (A 55), za (A 56), za (A 57), zi st, zi al, zi sv]))] h := zov_self (List.forall_mem_cons.mpr ⟨hc0, List.forall_mem_cons.mpr ⟨hc1, List.forall_mem_cons.mpr ⟨hc2, List.forall_mem_cons.mpr ⟨hc3, List.forall_mem_cons.mpr ⟨hc4, fun _ q => absurd q List.not_mem_nil⟩⟩⟩⟩⟩)
  have hfr0 : ∀ a, (∀ i, i < 24 → a ≠ A i) → a ≠ A 52 → h a = h a := fun _ _ _ => rfl
  refine zEv.body (I := (7, xI_X7_out, 3, 4, 88, 0, 0, false)) (rt := (some .int)) [some (za (A 0)), some (zi x), none] rfl rfl rfl rfl ?_
  refine Zn.eq rfl rfl rfl hh ?_
  have hD : zND ([((A 0), .inr (7, [za (A 1), za (A 4), za (A 24), za (A 27), zi kt, za (A 47), za (A 49), za (A 52), za (A 63), za (A 68), za (A 72)])), ((A 1), .inr (4, [za (A 2), za (A 3), zi (th : Int), zi (fx : Int), zi (d : Int), zi (w : Int)])), ((A 2), .inl (0, 13, .inl Y)), ((A 3), .inl (0, 3, .inl Q)), ((A 52), .inr (0, [za (A 58), za (A 53), za (A 54), za (A 55), za (A 56), za (A 57), zi st, zi al, zi sv]))]) := hD
  refine Zn.seg (pc2 := 1) (ls2 := [some (za (A 0)), some (zi x), none]) (st2 := [zi x]) [(0, .iload_n 1)] (by decide +kernel) rfl ?_
  refine Zn.call (ins := .invokestatic 71) [zi x] [] (by decide +kernel) rfl rfl rfl ⟨rfl, rfl⟩ ⟨rfl, rfl, rfl⟩ rfl (zrecvS (by decide)) (sp_X7_isX (x := x) (by first | assumption | exact ⟨by omega, by omega⟩)) (fun v h2 hp => ?_)
  obtain ⟨rfl, hq_1⟩ := hp
  refine Zn.eq (pc2 := 4) (ls2 := [some (za (A 0)), some (zi x), none]) (st2 := [zi (inB (-6) 6 x)]) (h2 := zov ([((A 0), .inr (7, [za (A 1), za (A 4), za (A 24), za (A 27), zi kt, za (A 47), za (A 49), za (A 52), za (A 63), za (A 68), za (A 72)])), ((A 1), .inr (4, [za (A 2), za (A 3), zi (th : Int), zi (fx : Int), zi (d : Int), zi (w : Int)])), ((A 2), .inl (0, 13, .inl Y)), ((A 3), .inl (0, 3, .inl Q)), ((A 52), .inr (0, [za (A 58), za (A 53), za (A 54), za (A 55), za (A 56), za (A 57), zi st, zi al, zi sv]))]) h) rfl rfl rfl hq_1 ?_
  have hD : zND ([((A 0), .inr (7, [za (A 1), za (A 4), za (A 24), za (A 27), zi kt, za (A 47), za (A 49), za (A 52), za (A 63), za (A 68), za (A 72)])), ((A 1), .inr (4, [za (A 2), za (A 3), zi (th : Int), zi (fx : Int), zi (d : Int), zi (w : Int)])), ((A 2), .inl (0, 13, .inl Y)), ((A 3), .inl (0, 3, .inl Q)), ((A 52), .inr (0, [za (A 58), za (A 53), za (A 54), za (A 55), za (A 56), za (A 57), zi st, zi al, zi sv]))]) := hD
  have q_2 := inB_spec (-6) 6 x
  refine Zn.ifc (c := .ne) (off := 5) 9 (by decide +kernel) rfl ⟨by omega, by omega⟩ (fun c_3 => ?_) (fun c_3 => absurd (show inB (-6) 6 x ≠ 0 from by omega) c_3)
  have c_3 : inB (-6) 6 x ≠ 0 := c_3
  refine Zn.seg (pc2 := 13) (ls2 := [some (za (A 0)), some (zi x), none]) (st2 := [zi (x + 6)]) [(9, .iload_n 1), (10, .bipush 6), (12, .iadd)] (by decide +kernel) rfl ?_
  refine Zn.topi (y := (p : Int)) (by omega) ?_
  refine Zn.seg (pc2 := 15) (ls2 := [some (za (A 0)), some (zi x), some (zi (p : Int))]) (st2 := [za (A 0)]) [(13, .istore_n 2), (14, .aload_n 0)] (by decide +kernel) rfl ?_
  refine Zn.get (ix := 12) hD 0 (by decide +kernel) rfl rfl rfl ?_
  refine Zn.seg (pc2 := 19) (ls2 := [some (za (A 0)), some (zi x), some (zi (p : Int))]) (st2 := [zi (p : Int), za (A 1)]) [(18, .iload_n 2)] (by decide +kernel) rfl ?_
  refine Zn.call (ins := .invokevirtual 78) [za (A 1), zi (p : Int)] [] (by decide +kernel) rfl rfl rfl ⟨rfl, rfl⟩ ⟨rfl, rfl, rfl⟩ rfl (zrecvV hD (p := 1) rfl rfl rfl) (sp_X4_has (o := (A 1)) (ya := (A 2)) (qa := (A 3)) (th := th) (fx := fx) (d := d) (w := w) (p := p) (zov_get hD 1 rfl) (hth) (by omega)) (fun v h2 hp => ?_)
  obtain ⟨rfl, hq_4⟩ := hp
  refine Zn.eq (pc2 := 22) (ls2 := [some (za (A 0)), some (zi x), some (zi (p : Int))]) (st2 := [zi (bt th p : Int)]) (h2 := zov ([((A 0), .inr (7, [za (A 1), za (A 4), za (A 24), za (A 27), zi kt, za (A 47), za (A 49), za (A 52), za (A 63), za (A 68), za (A 72)])), ((A 1), .inr (4, [za (A 2), za (A 3), zi (th : Int), zi (fx : Int), zi (d : Int), zi (w : Int)])), ((A 2), .inl (0, 13, .inl Y)), ((A 3), .inl (0, 3, .inl Q)), ((A 52), .inr (0, [za (A 58), za (A 53), za (A 54), za (A 55), za (A 56), za (A 57), zi st, zi al, zi sv]))]) h) rfl rfl rfl hq_4 ?_
  have hD : zND ([((A 0), .inr (7, [za (A 1), za (A 4), za (A 24), za (A 27), zi kt, za (A 47), za (A 49), za (A 52), za (A 63), za (A 68), za (A 72)])), ((A 1), .inr (4, [za (A 2), za (A 3), zi (th : Int), zi (fx : Int), zi (d : Int), zi (w : Int)])), ((A 2), .inl (0, 13, .inl Y)), ((A 3), .inl (0, 3, .inl Q)), ((A 52), .inr (0, [za (A 58), za (A 53), za (A 54), za (A 55), za (A 56), za (A 57), zi st, zi al, zi sv]))]) := hD
  have q_5 := bt_lt th p
  refine Zn.ifc (c := .ne) (off := 6) 28 (by decide +kernel) rfl ⟨by omega, by omega⟩ (fun c_6 => ?_) (fun c_6 => absurd (show (bt th p : Int) ≠ 0 from by omega) c_6)
  have c_6 : (bt th p : Int) ≠ 0 := c_6
  refine Zn.seg (pc2 := 29) (ls2 := [some (za (A 0)), some (zi x), some (zi (p : Int))]) (st2 := [za (A 0)]) [(28, .aload_n 0)] (by decide +kernel) rfl ?_
  refine Zn.call (ins := .invokevirtual 89) [za (A 0)] [] (by decide +kernel) rfl rfl rfl ⟨rfl, rfl⟩ ⟨rfl, rfl, rfl⟩ rfl (zrecvV hD (p := 0) rfl rfl rfl) (sp_X7_rem (kt := kt) (st := st) (al := al) (sv := sv) (th := th) (fx := fx) (d := d) (w := w) (Y := Y) (Q := Q) (s := s) (k := k) (H := H) (zov_get hD 0 rfl) (zov_get hD 1 rfl) (zov_get hD 2 rfl) (zov_get hD 3 rfl) (zov_get hD 4 rfl) (nd_sub hD [0, 1, 2, 3, 4] rfl rfl) (hA) (hs) (hk) (by exact PBk_cg hP (fun i h1_ h2_ => A_out hA (i := i) [0, 1, 2, 3, 52] rfl (by simp only [List.mem_cons, List.not_mem_nil, or_false]; omega) (by omega) (by simp only [List.mem_cons, List.not_mem_nil, or_false, not_or]; omega)))) (fun v h2 hp => ?_)
  obtain ⟨h, rfl, hq_, hP, hfr_⟩ := hp
  have hfr0 : ∀ a, (∀ i, i < 24 → a ≠ A i) → a ≠ A 52 → h a = _ := fun a q1 q2 => (hfr_ a (fun j hj => q1 (4 + j) (by omega))).trans ((zov_out (by simp only [List.map_cons, List.map_nil, List.mem_cons, List.not_mem_nil, or_false, not_or]; exact ⟨q1 0 (by decide), q1 1 (by decide), q1 2 (by decide), q1 3 (by decide), q2⟩)).trans (hfr0 a q1 q2))
  refine Zn.eq (pc2 := 32) (ls2 := [some (za (A 0)), some (zi x), some (zi (p : Int))]) (st2 := []) (h2 := zov ([((A 0), .inr (7, [za (A 1), za (A 4), za (A 24), za (A 27), zi kt, za (A 47), za (A 49), za (A 52), za (A 63), za (A 68), za (A 72)])), ((A 1), .inr (4, [za (A 2), za (A 3), zi (th : Int), zi (fx : Int), zi (d : Int), zi (w : Int)])), ((A 2), .inl (0, 13, .inl Y)), ((A 3), .inl (0, 3, .inl Q)), ((A 52), .inr (0, [za (A 58), za (A 53), za (A 54), za (A 55), za (A 56), za (A 57), zi st, zi al, zi 0]))]) h) rfl rfl rfl hq_ ?_
  have hD : zND ([((A 0), .inr (7, [za (A 1), za (A 4), za (A 24), za (A 27), zi kt, za (A 47), za (A 49), za (A 52), za (A 63), za (A 68), za (A 72)])), ((A 1), .inr (4, [za (A 2), za (A 3), zi (th : Int), zi (fx : Int), zi (d : Int), zi (w : Int)])), ((A 2), .inl (0, 13, .inl Y)), ((A 3), .inl (0, 3, .inl Q)), ((A 52), .inr (0, [za (A 58), za (A 53), za (A 54), za (A 55), za (A 56), za (A 57), zi st, zi al, zi 0]))]) := hD
  have hD : zND ([((A 0), .inr (7, [za (A 1), za (A 4), za (A 24), za (A 27), zi kt, za (A 47), za (A 49), za (A 52), za (A 63), za (A 68), za (A 72)])), ((A 1), .inr (4, [za (A 2), za (A 3), zi (th : Int), zi (fx : Int), zi (d : Int), zi (w : Int)])), ((A 2), .inl (0, 13, .inl Y)), ((A 3), .inl (0, 3, .inl Q)), ((A 52), .inr (0, [za (A 58), za (A 53), za (A 54), za (A 55), za (A 56), za (A 57), zi st, zi al, zi 0]))]) := hD
  refine Zn.seg (pc2 := 33) (ls2 := [some (za (A 0)), some (zi x), some (zi (p : Int))]) (st2 := [za (A 0)]) [(32, .aload_n 0)] (by decide +kernel) rfl ?_
  refine Zn.get (ix := 12) hD 0 (by decide +kernel) rfl rfl rfl ?_
  refine Zn.seg (pc2 := 37) (ls2 := [some (za (A 0)), some (zi x), some (zi (p : Int))]) (st2 := [zi (p : Int), za (A 1)]) [(36, .iload_n 2)] (by decide +kernel) rfl ?_
  refine Zn.call (ins := .invokevirtual 96) [za (A 1), zi (p : Int)] [] (by decide +kernel) rfl rfl rfl ⟨rfl, rfl⟩ ⟨rfl, rfl, rfl⟩ rfl (zrecvV hD (p := 1) rfl rfl rfl) (sp_X4_remove (o := (A 1)) (ya := (A 2)) (qa := (A 3)) (th := th) (fx := fx) (d := d) (w := w) (p := p) (zov_get hD 1 rfl) (hth) (hfx) (hp)) (fun v h2 hp => ?_)
  obtain ⟨rfl, hq_7⟩ := hp
  refine Zn.eq (pc2 := 40) (ls2 := [some (za (A 0)), some (zi x), some (zi (p : Int))]) (st2 := []) (h2 := zov ([((A 0), .inr (7, [za (A 1), za (A 4), za (A 24), za (A 27), zi kt, za (A 47), za (A 49), za (A 52), za (A 63), za (A 68), za (A 72)])), ((A 1), .inr (4, [za (A 2), za (A 3), zi ((bdiff th (2 ^ p) : Nat) : Int), zi ((bdiff fx (2 ^ p) : Nat) : Int), zi (d : Int), zi (w : Int)])), ((A 2), .inl (0, 13, .inl Y)), ((A 3), .inl (0, 3, .inl Q)), ((A 52), .inr (0, [za (A 58), za (A 53), za (A 54), za (A 55), za (A 56), za (A 57), zi st, zi al, zi 0]))]) h) rfl rfl rfl (hq_7.trans (zov_put hD [1] _ rfl)) ?_
  have hD : zND ([((A 0), .inr (7, [za (A 1), za (A 4), za (A 24), za (A 27), zi kt, za (A 47), za (A 49), za (A 52), za (A 63), za (A 68), za (A 72)])), ((A 1), .inr (4, [za (A 2), za (A 3), zi ((bdiff th (2 ^ p) : Nat) : Int), zi ((bdiff fx (2 ^ p) : Nat) : Int), zi (d : Int), zi (w : Int)])), ((A 2), .inl (0, 13, .inl Y)), ((A 3), .inl (0, 3, .inl Q)), ((A 52), .inr (0, [za (A 58), za (A 53), za (A 54), za (A 55), za (A 56), za (A 57), zi st, zi al, zi 0]))]) := hD
  refine Zn.seg (pc2 := 41) (ls2 := [some (za (A 0)), some (zi x), some (zi (p : Int))]) (st2 := [za (A 0)]) [(40, .aload_n 0)] (by decide +kernel) rfl ?_
  refine Zn.get (ix := 12) hD 0 (by decide +kernel) rfl rfl rfl ?_
  refine Zn.call (ins := .invokevirtual 85) [za (A 1)] [] (by decide +kernel) rfl rfl rfl ⟨rfl, rfl⟩ ⟨rfl, rfl, rfl⟩ rfl (zrecvV hD (p := 1) rfl rfl rfl) (sp_X4_howMany (o := (A 1)) (ya := (A 2)) (qa := (A 3)) (th := bdiff th (2 ^ p)) (fx := bdiff fx (2 ^ p)) (d := d) (w := w) (zov_get hD 1 rfl) (bd_lt hth)) (fun v h2 hp => ?_)
  obtain ⟨rfl, hq_8⟩ := hp
  refine Zn.eq (pc2 := 47) (ls2 := [some (za (A 0)), some (zi x), some (zi (p : Int))]) (st2 := [zi (pop (bdiff th (2 ^ p)) : Int)]) (h2 := zov ([((A 0), .inr (7, [za (A 1), za (A 4), za (A 24), za (A 27), zi kt, za (A 47), za (A 49), za (A 52), za (A 63), za (A 68), za (A 72)])), ((A 1), .inr (4, [za (A 2), za (A 3), zi ((bdiff th (2 ^ p) : Nat) : Int), zi ((bdiff fx (2 ^ p) : Nat) : Int), zi (d : Int), zi (w : Int)])), ((A 2), .inl (0, 13, .inl Y)), ((A 3), .inl (0, 3, .inl Q)), ((A 52), .inr (0, [za (A 58), za (A 53), za (A 54), za (A 55), za (A 56), za (A 57), zi st, zi al, zi 0]))]) h) rfl rfl rfl hq_8 ?_
  have hD : zND ([((A 0), .inr (7, [za (A 1), za (A 4), za (A 24), za (A 27), zi kt, za (A 47), za (A 49), za (A 52), za (A 63), za (A 68), za (A 72)])), ((A 1), .inr (4, [za (A 2), za (A 3), zi ((bdiff th (2 ^ p) : Nat) : Int), zi ((bdiff fx (2 ^ p) : Nat) : Int), zi (d : Int), zi (w : Int)])), ((A 2), .inl (0, 13, .inl Y)), ((A 3), .inl (0, 3, .inl Q)), ((A 52), .inr (0, [za (A 58), za (A 53), za (A 54), za (A 55), za (A 56), za (A 57), zi st, zi al, zi 0]))]) := hD
  have q_9 := pop_le (bdiff th (2 ^ p))
  exact Zn.iret (by decide +kernel) rfl (⟨h, by first | rfl | (refine congrArg some (congrArg zi ?_); first | omega | (simp_all; done) | (simp_all; omega)), rfl, hP, hfr0⟩)
theorem sp_X7_fix_bad {h : xH} {A : Nat → Nat} {x : Int} (zx : zInI x) (hb : ¬ (-6 ≤ x ∧ x ≤ 6)) : zEv k_X7_fix [za (A 0), zi x] h (fun v h2 => v = some (zi (-1)) ∧ h2 = h) := by
  have hD : ([] : List Nat).Nodup := List.nodup_nil
  have hh : h = zov [] h := zov_self (fun _ q => absurd q List.not_mem_nil)
  have zx1 := zx.1
  have zx2 := zx.2
  refine zEv.body (I := (7, xI_X7_fix, 3, 4, 88, 0, 0, false)) (rt := (some .int)) [some (za (A 0)), some (zi x), none] rfl rfl rfl rfl ?_
  refine Zn.eq rfl rfl rfl hh ?_
  have hD : zND ([]) := hD
  refine Zn.seg (pc2 := 1) (ls2 := [some (za (A 0)), some (zi x), none]) (st2 := [zi x]) [(0, .iload_n 1)] (by decide +kernel) rfl ?_
  refine Zn.call (ins := .invokestatic 71) [zi x] [] (by decide +kernel) rfl rfl rfl ⟨rfl, rfl⟩ ⟨rfl, rfl, rfl⟩ rfl (zrecvS (by decide)) (sp_X7_isX (x := x) (by first | assumption | exact ⟨by omega, by omega⟩)) (fun v h2 hp => ?_)
  obtain ⟨rfl, hq_1⟩ := hp
  refine Zn.eq (pc2 := 4) (ls2 := [some (za (A 0)), some (zi x), none]) (st2 := [zi (inB (-6) 6 x)]) (h2 := zov ([]) h) rfl rfl rfl hq_1 ?_
  have hD : zND ([]) := hD
  have q_2 := inB_spec (-6) 6 x
  refine Zn.ifc (c := .ne) (off := 5) 9 (by decide +kernel) rfl ⟨by omega, by omega⟩ (fun c_3 => absurd (show inB (-6) 6 x ≠ 0 from c_3) (by omega)) (fun c_3 => ?_)
  have c_3 : ¬ (inB (-6) 6 x ≠ 0) := c_3
  refine Zn.seg (pc2 := 8) (ls2 := [some (za (A 0)), some (zi x), none]) (st2 := [zi (-1)]) [(7, .iconst (-1))] (by decide +kernel) rfl ?_
  exact Zn.iret (by decide +kernel) rfl (⟨by first | rfl | (refine congrArg some (congrArg zi ?_); first | omega | (simp_all; done) | (simp_all; omega)), hh.symm⟩)
theorem sp_X7_fix_none {h : xH} {A : Nat → Nat} {kt : Int} {th fx d w : Nat} {Y Q : Nat → Int} {x : Int} {p : Nat} (hc0 : h (A 0) = zcE (.inr (7, [za (A 1), za (A 4), za (A 24), za (A 27), zi kt, za (A 47), za (A 49), za (A 52), za (A 63), za (A 68), za (A 72)]))) (hc1 : h (A 1) = zcE (.inr (4, [za (A 2), za (A 3), zi (th : Int), zi (fx : Int), zi (d : Int), zi (w : Int)]))) (hc2 : h (A 2) = zcE (.inl (0, 13, .inl Y))) (hc3 : h (A 3) = zcE (.inl (0, 3, .inl Q))) (hD : [(A 0), (A 1), (A 2), (A 3)].Nodup) (hx : x = (p : Int) - 6) (hp : p < 13) (hth : th < 8192) (h1 : bt th p = 0) : zEv k_X7_fix [za (A 0), zi x] h (fun v h2 => v = some (zi (-4)) ∧ h2 = h) := by
  have hh : h = zov [((A 0), .inr (7, [za (A 1), za (A 4), za (A 24), za (A 27), zi kt, za (A 47), za (A 49), za (A 52), za (A 63), za (A 68), za (A 72)])), ((A 1), .inr (4, [za (A 2), za (A 3), zi (th : Int), zi (fx : Int), zi (d : Int), zi (w : Int)])), ((A 2), .inl (0, 13, .inl Y)), ((A 3), .inl (0, 3, .inl Q))] h := zov_self (List.forall_mem_cons.mpr ⟨hc0, List.forall_mem_cons.mpr ⟨hc1, List.forall_mem_cons.mpr ⟨hc2, List.forall_mem_cons.mpr ⟨hc3, fun _ q => absurd q List.not_mem_nil⟩⟩⟩⟩)
  refine zEv.body (I := (7, xI_X7_fix, 3, 4, 88, 0, 0, false)) (rt := (some .int)) [some (za (A 0)), some (zi x), none] rfl rfl rfl rfl ?_
  refine Zn.eq rfl rfl rfl hh ?_
  have hD : zND ([((A 0), .inr (7, [za (A 1), za (A 4), za (A 24), za (A 27), zi kt, za (A 47), za (A 49), za (A 52), za (A 63), za (A 68), za (A 72)])), ((A 1), .inr (4, [za (A 2), za (A 3), zi (th : Int), zi (fx : Int), zi (d : Int), zi (w : Int)])), ((A 2), .inl (0, 13, .inl Y)), ((A 3), .inl (0, 3, .inl Q))]) := hD
  refine Zn.seg (pc2 := 1) (ls2 := [some (za (A 0)), some (zi x), none]) (st2 := [zi x]) [(0, .iload_n 1)] (by decide +kernel) rfl ?_
  refine Zn.call (ins := .invokestatic 71) [zi x] [] (by decide +kernel) rfl rfl rfl ⟨rfl, rfl⟩ ⟨rfl, rfl, rfl⟩ rfl (zrecvS (by decide)) (sp_X7_isX (x := x) (by first | assumption | exact ⟨by omega, by omega⟩)) (fun v h2 hp => ?_)
  obtain ⟨rfl, hq_1⟩ := hp
  refine Zn.eq (pc2 := 4) (ls2 := [some (za (A 0)), some (zi x), none]) (st2 := [zi (inB (-6) 6 x)]) (h2 := zov ([((A 0), .inr (7, [za (A 1), za (A 4), za (A 24), za (A 27), zi kt, za (A 47), za (A 49), za (A 52), za (A 63), za (A 68), za (A 72)])), ((A 1), .inr (4, [za (A 2), za (A 3), zi (th : Int), zi (fx : Int), zi (d : Int), zi (w : Int)])), ((A 2), .inl (0, 13, .inl Y)), ((A 3), .inl (0, 3, .inl Q))]) h) rfl rfl rfl hq_1 ?_
  have hD : zND ([((A 0), .inr (7, [za (A 1), za (A 4), za (A 24), za (A 27), zi kt, za (A 47), za (A 49), za (A 52), za (A 63), za (A 68), za (A 72)])), ((A 1), .inr (4, [za (A 2), za (A 3), zi (th : Int), zi (fx : Int), zi (d : Int), zi (w : Int)])), ((A 2), .inl (0, 13, .inl Y)), ((A 3), .inl (0, 3, .inl Q))]) := hD
  have q_2 := inB_spec (-6) 6 x
  refine Zn.ifc (c := .ne) (off := 5) 9 (by decide +kernel) rfl ⟨by omega, by omega⟩ (fun c_3 => ?_) (fun c_3 => absurd (show inB (-6) 6 x ≠ 0 from by omega) c_3)
  have c_3 : inB (-6) 6 x ≠ 0 := c_3
  refine Zn.seg (pc2 := 13) (ls2 := [some (za (A 0)), some (zi x), none]) (st2 := [zi (x + 6)]) [(9, .iload_n 1), (10, .bipush 6), (12, .iadd)] (by decide +kernel) rfl ?_
  refine Zn.topi (y := (p : Int)) (by omega) ?_
  refine Zn.seg (pc2 := 15) (ls2 := [some (za (A 0)), some (zi x), some (zi (p : Int))]) (st2 := [za (A 0)]) [(13, .istore_n 2), (14, .aload_n 0)] (by decide +kernel) rfl ?_
  refine Zn.get (ix := 12) hD 0 (by decide +kernel) rfl rfl rfl ?_
  refine Zn.seg (pc2 := 19) (ls2 := [some (za (A 0)), some (zi x), some (zi (p : Int))]) (st2 := [zi (p : Int), za (A 1)]) [(18, .iload_n 2)] (by decide +kernel) rfl ?_
  refine Zn.call (ins := .invokevirtual 78) [za (A 1), zi (p : Int)] [] (by decide +kernel) rfl rfl rfl ⟨rfl, rfl⟩ ⟨rfl, rfl, rfl⟩ rfl (zrecvV hD (p := 1) rfl rfl rfl) (sp_X4_has (o := (A 1)) (ya := (A 2)) (qa := (A 3)) (th := th) (fx := fx) (d := d) (w := w) (p := p) (zov_get hD 1 rfl) (hth) (by omega)) (fun v h2 hp => ?_)
  obtain ⟨rfl, hq_4⟩ := hp
  refine Zn.eq (pc2 := 22) (ls2 := [some (za (A 0)), some (zi x), some (zi (p : Int))]) (st2 := [zi (bt th p : Int)]) (h2 := zov ([((A 0), .inr (7, [za (A 1), za (A 4), za (A 24), za (A 27), zi kt, za (A 47), za (A 49), za (A 52), za (A 63), za (A 68), za (A 72)])), ((A 1), .inr (4, [za (A 2), za (A 3), zi (th : Int), zi (fx : Int), zi (d : Int), zi (w : Int)])), ((A 2), .inl (0, 13, .inl Y)), ((A 3), .inl (0, 3, .inl Q))]) h) rfl rfl rfl hq_4 ?_
  have hD : zND ([((A 0), .inr (7, [za (A 1), za (A 4), za (A 24), za (A 27), zi kt, za (A 47), za (A 49), za (A 52), za (A 63), za (A 68), za (A 72)])), ((A 1), .inr (4, [za (A 2), za (A 3), zi (th : Int), zi (fx : Int), zi (d : Int), zi (w : Int)])), ((A 2), .inl (0, 13, .inl Y)), ((A 3), .inl (0, 3, .inl Q))]) := hD
  have q_5 := bt_lt th p
  refine Zn.ifc (c := .ne) (off := 6) 28 (by decide +kernel) rfl ⟨by omega, by omega⟩ (fun c_6 => absurd (show (bt th p : Int) ≠ 0 from c_6) (by omega)) (fun c_6 => ?_)
  have c_6 : ¬ ((bt th p : Int) ≠ 0) := c_6
  refine Zn.seg (pc2 := 27) (ls2 := [some (za (A 0)), some (zi x), some (zi (p : Int))]) (st2 := [zi (-4)]) [(25, .bipush (-4))] (by decide +kernel) rfl ?_
  exact Zn.iret (by decide +kernel) rfl (⟨by first | rfl | (refine congrArg some (congrArg zi ?_); first | omega | (simp_all; done) | (simp_all; omega)), hh.symm⟩)
theorem sp_X7_fix_not {h : xH} {A : Nat → Nat} {kt : Int} {th fx d w : Nat} {Y Q : Nat → Int} {x : Int} {p : Nat} (hc0 : h (A 0) = zcE (.inr (7, [za (A 1), za (A 4), za (A 24), za (A 27), zi kt, za (A 47), za (A 49), za (A 52), za (A 63), za (A 68), za (A 72)]))) (hc1 : h (A 1) = zcE (.inr (4, [za (A 2), za (A 3), zi (th : Int), zi (fx : Int), zi (d : Int), zi (w : Int)]))) (hc2 : h (A 2) = zcE (.inl (0, 13, .inl Y))) (hc3 : h (A 3) = zcE (.inl (0, 3, .inl Q))) (hD : [(A 0), (A 1), (A 2), (A 3)].Nodup) (hx : x = (p : Int) - 6) (hp : p < 13) (hth : th < 8192) (hfx : fx < 8192) (hd : d < 4) (h1 : bt th p = 1) (h2 : bt fx p = 0) (h3 : d ≤ pop fx) : zEv k_X7_fix [za (A 0), zi x] h (fun v h2 => v = some (zi (-2)) ∧ h2 = h) := by
  have hh : h = zov [((A 0), .inr (7, [za (A 1), za (A 4), za (A 24), za (A 27), zi kt, za (A 47), za (A 49), za (A 52), za (A 63), za (A 68), za (A 72)])), ((A 1), .inr (4, [za (A 2), za (A 3), zi (th : Int), zi (fx : Int), zi (d : Int), zi (w : Int)])), ((A 2), .inl (0, 13, .inl Y)), ((A 3), .inl (0, 3, .inl Q))] h := zov_self (List.forall_mem_cons.mpr ⟨hc0, List.forall_mem_cons.mpr ⟨hc1, List.forall_mem_cons.mpr ⟨hc2, List.forall_mem_cons.mpr ⟨hc3, fun _ q => absurd q List.not_mem_nil⟩⟩⟩⟩)
  refine zEv.body (I := (7, xI_X7_fix, 3, 4, 88, 0, 0, false)) (rt := (some .int)) [some (za (A 0)), some (zi x), none] rfl rfl rfl rfl ?_
  refine Zn.eq rfl rfl rfl hh ?_
  have hD : zND ([((A 0), .inr (7, [za (A 1), za (A 4), za (A 24), za (A 27), zi kt, za (A 47), za (A 49), za (A 52), za (A 63), za (A 68), za (A 72)])), ((A 1), .inr (4, [za (A 2), za (A 3), zi (th : Int), zi (fx : Int), zi (d : Int), zi (w : Int)])), ((A 2), .inl (0, 13, .inl Y)), ((A 3), .inl (0, 3, .inl Q))]) := hD
  refine Zn.seg (pc2 := 1) (ls2 := [some (za (A 0)), some (zi x), none]) (st2 := [zi x]) [(0, .iload_n 1)] (by decide +kernel) rfl ?_
  refine Zn.call (ins := .invokestatic 71) [zi x] [] (by decide +kernel) rfl rfl rfl ⟨rfl, rfl⟩ ⟨rfl, rfl, rfl⟩ rfl (zrecvS (by decide)) (sp_X7_isX (x := x) (by first | assumption | exact ⟨by omega, by omega⟩)) (fun v h2 hp => ?_)
  obtain ⟨rfl, hq_1⟩ := hp
  refine Zn.eq (pc2 := 4) (ls2 := [some (za (A 0)), some (zi x), none]) (st2 := [zi (inB (-6) 6 x)]) (h2 := zov ([((A 0), .inr (7, [za (A 1), za (A 4), za (A 24), za (A 27), zi kt, za (A 47), za (A 49), za (A 52), za (A 63), za (A 68), za (A 72)])), ((A 1), .inr (4, [za (A 2), za (A 3), zi (th : Int), zi (fx : Int), zi (d : Int), zi (w : Int)])), ((A 2), .inl (0, 13, .inl Y)), ((A 3), .inl (0, 3, .inl Q))]) h) rfl rfl rfl hq_1 ?_
  have hD : zND ([((A 0), .inr (7, [za (A 1), za (A 4), za (A 24), za (A 27), zi kt, za (A 47), za (A 49), za (A 52), za (A 63), za (A 68), za (A 72)])), ((A 1), .inr (4, [za (A 2), za (A 3), zi (th : Int), zi (fx : Int), zi (d : Int), zi (w : Int)])), ((A 2), .inl (0, 13, .inl Y)), ((A 3), .inl (0, 3, .inl Q))]) := hD
  have q_2 := inB_spec (-6) 6 x
  refine Zn.ifc (c := .ne) (off := 5) 9 (by decide +kernel) rfl ⟨by omega, by omega⟩ (fun c_3 => ?_) (fun c_3 => absurd (show inB (-6) 6 x ≠ 0 from by omega) c_3)
  have c_3 : inB (-6) 6 x ≠ 0 := c_3
  refine Zn.seg (pc2 := 13) (ls2 := [some (za (A 0)), some (zi x), none]) (st2 := [zi (x + 6)]) [(9, .iload_n 1), (10, .bipush 6), (12, .iadd)] (by decide +kernel) rfl ?_
  refine Zn.topi (y := (p : Int)) (by omega) ?_
  refine Zn.seg (pc2 := 15) (ls2 := [some (za (A 0)), some (zi x), some (zi (p : Int))]) (st2 := [za (A 0)]) [(13, .istore_n 2), (14, .aload_n 0)] (by decide +kernel) rfl ?_
  refine Zn.get (ix := 12) hD 0 (by decide +kernel) rfl rfl rfl ?_
  refine Zn.seg (pc2 := 19) (ls2 := [some (za (A 0)), some (zi x), some (zi (p : Int))]) (st2 := [zi (p : Int), za (A 1)]) [(18, .iload_n 2)] (by decide +kernel) rfl ?_
  refine Zn.call (ins := .invokevirtual 78) [za (A 1), zi (p : Int)] [] (by decide +kernel) rfl rfl rfl ⟨rfl, rfl⟩ ⟨rfl, rfl, rfl⟩ rfl (zrecvV hD (p := 1) rfl rfl rfl) (sp_X4_has (o := (A 1)) (ya := (A 2)) (qa := (A 3)) (th := th) (fx := fx) (d := d) (w := w) (p := p) (zov_get hD 1 rfl) (hth) (by omega)) (fun v h2 hp => ?_)
  obtain ⟨rfl, hq_4⟩ := hp
  refine Zn.eq (pc2 := 22) (ls2 := [some (za (A 0)), some (zi x), some (zi (p : Int))]) (st2 := [zi (bt th p : Int)]) (h2 := zov ([((A 0), .inr (7, [za (A 1), za (A 4), za (A 24), za (A 27), zi kt, za (A 47), za (A 49), za (A 52), za (A 63), za (A 68), za (A 72)])), ((A 1), .inr (4, [za (A 2), za (A 3), zi (th : Int), zi (fx : Int), zi (d : Int), zi (w : Int)])), ((A 2), .inl (0, 13, .inl Y)), ((A 3), .inl (0, 3, .inl Q))]) h) rfl rfl rfl hq_4 ?_
  have hD : zND ([((A 0), .inr (7, [za (A 1), za (A 4), za (A 24), za (A 27), zi kt, za (A 47), za (A 49), za (A 52), za (A 63), za (A 68), za (A 72)])), ((A 1), .inr (4, [za (A 2), za (A 3), zi (th : Int), zi (fx : Int), zi (d : Int), zi (w : Int)])), ((A 2), .inl (0, 13, .inl Y)), ((A 3), .inl (0, 3, .inl Q))]) := hD
  have q_5 := bt_lt th p
  refine Zn.ifc (c := .ne) (off := 6) 28 (by decide +kernel) rfl ⟨by omega, by omega⟩ (fun c_6 => ?_) (fun c_6 => absurd (show (bt th p : Int) ≠ 0 from by omega) c_6)
  have c_6 : (bt th p : Int) ≠ 0 := c_6
  refine Zn.seg (pc2 := 29) (ls2 := [some (za (A 0)), some (zi x), some (zi (p : Int))]) (st2 := [za (A 0)]) [(28, .aload_n 0)] (by decide +kernel) rfl ?_
  refine Zn.get (ix := 12) hD 0 (by decide +kernel) rfl rfl rfl ?_
  refine Zn.seg (pc2 := 33) (ls2 := [some (za (A 0)), some (zi x), some (zi (p : Int))]) (st2 := [zi (p : Int), za (A 1)]) [(32, .iload_n 2)] (by decide +kernel) rfl ?_
  refine Zn.call (ins := .invokevirtual 100) [za (A 1), zi (p : Int)] [] (by decide +kernel) rfl rfl rfl ⟨rfl, rfl⟩ ⟨rfl, rfl, rfl⟩ rfl (zrecvV hD (p := 1) rfl rfl rfl) (sp_X4_isFixed (o := (A 1)) (ya := (A 2)) (qa := (A 3)) (th := th) (fx := fx) (d := d) (w := w) (p := p) (zov_get hD 1 rfl) (hfx) (by omega)) (fun v h2 hp => ?_)
  obtain ⟨rfl, hq_7⟩ := hp
  refine Zn.eq (pc2 := 36) (ls2 := [some (za (A 0)), some (zi x), some (zi (p : Int))]) (st2 := [zi (bt fx p : Int)]) (h2 := zov ([((A 0), .inr (7, [za (A 1), za (A 4), za (A 24), za (A 27), zi kt, za (A 47), za (A 49), za (A 52), za (A 63), za (A 68), za (A 72)])), ((A 1), .inr (4, [za (A 2), za (A 3), zi (th : Int), zi (fx : Int), zi (d : Int), zi (w : Int)])), ((A 2), .inl (0, 13, .inl Y)), ((A 3), .inl (0, 3, .inl Q))]) h) rfl rfl rfl hq_7 ?_
  have hD : zND ([((A 0), .inr (7, [za (A 1), za (A 4), za (A 24), za (A 27), zi kt, za (A 47), za (A 49), za (A 52), za (A 63), za (A 68), za (A 72)])), ((A 1), .inr (4, [za (A 2), za (A 3), zi (th : Int), zi (fx : Int), zi (d : Int), zi (w : Int)])), ((A 2), .inl (0, 13, .inl Y)), ((A 3), .inl (0, 3, .inl Q))]) := hD
  have q_8 := bt_lt fx p
  refine Zn.ifc (c := .ne) (off := 16) 52 (by decide +kernel) rfl ⟨by omega, by omega⟩ (fun c_9 => absurd (show (bt fx p : Int) ≠ 0 from c_9) (by omega)) (fun c_9 => ?_)
  have c_9 : ¬ ((bt fx p : Int) ≠ 0) := c_9
  refine Zn.seg (pc2 := 40) (ls2 := [some (za (A 0)), some (zi x), some (zi (p : Int))]) (st2 := [za (A 0)]) [(39, .aload_n 0)] (by decide +kernel) rfl ?_
  refine Zn.get (ix := 12) hD 0 (by decide +kernel) rfl rfl rfl ?_
  refine Zn.call (ins := .invokevirtual 103) [za (A 1)] [] (by decide +kernel) rfl rfl rfl ⟨rfl, rfl⟩ ⟨rfl, rfl, rfl⟩ rfl (zrecvV hD (p := 1) rfl rfl rfl) (sp_X4_mayFix (o := (A 1)) (ya := (A 2)) (qa := (A 3)) (th := th) (fx := fx) (d := d) (w := w) (zov_get hD 1 rfl) (hfx) (hd)) (fun v h2 hp => ?_)
  obtain ⟨rfl, hq_10⟩ := hp
  refine Zn.eq (pc2 := 46) (ls2 := [some (za (A 0)), some (zi x), some (zi (p : Int))]) (st2 := [zi (ltB (pop fx : Int) (d : Int))]) (h2 := zov ([((A 0), .inr (7, [za (A 1), za (A 4), za (A 24), za (A 27), zi kt, za (A 47), za (A 49), za (A 52), za (A 63), za (A 68), za (A 72)])), ((A 1), .inr (4, [za (A 2), za (A 3), zi (th : Int), zi (fx : Int), zi (d : Int), zi (w : Int)])), ((A 2), .inl (0, 13, .inl Y)), ((A 3), .inl (0, 3, .inl Q))]) h) rfl rfl rfl hq_10 ?_
  have hD : zND ([((A 0), .inr (7, [za (A 1), za (A 4), za (A 24), za (A 27), zi kt, za (A 47), za (A 49), za (A 52), za (A 63), za (A 68), za (A 72)])), ((A 1), .inr (4, [za (A 2), za (A 3), zi (th : Int), zi (fx : Int), zi (d : Int), zi (w : Int)])), ((A 2), .inl (0, 13, .inl Y)), ((A 3), .inl (0, 3, .inl Q))]) := hD
  have q_11 := ltB_spec (pop fx : Int) (d : Int)
  refine Zn.ifc (c := .ne) (off := 6) 52 (by decide +kernel) rfl ⟨by omega, by omega⟩ (fun c_12 => absurd (show ltB (pop fx : Int) (d : Int) ≠ 0 from c_12) (by omega)) (fun c_12 => ?_)
  have c_12 : ¬ (ltB (pop fx : Int) (d : Int) ≠ 0) := c_12
  refine Zn.seg (pc2 := 51) (ls2 := [some (za (A 0)), some (zi x), some (zi (p : Int))]) (st2 := [zi (-2)]) [(49, .bipush (-2))] (by decide +kernel) rfl ?_
  exact Zn.iret (by decide +kernel) rfl (⟨by first | rfl | (refine congrArg some (congrArg zi ?_); first | omega | (simp_all; done) | (simp_all; omega)), hh.symm⟩)
theorem sp_X7_fix_on {h : xH} {A : Nat → Nat} {kt st al sv : Int} {th fx d w : Nat} {Y Q : Nat → Int} {s k : Nat} {H : Nat → sn} {x : Int} {p : Nat} (hc0 : h (A 0) = zcE (.inr (7, [za (A 1), za (A 4), za (A 24), za (A 27), zi kt, za (A 47), za (A 49), za (A 52), za (A 63), za (A 68), za (A 72)]))) (hc1 : h (A 1) = zcE (.inr (4, [za (A 2), za (A 3), zi (th : Int), zi (fx : Int), zi (d : Int), zi (w : Int)]))) (hc2 : h (A 2) = zcE (.inl (0, 13, .inl Y))) (hc3 : h (A 3) = zcE (.inl (0, 3, .inl Q))) (hc4 : h (A 52) = zcE (.inr (0, [za (A 58), za (A 53), za (A 54), za (A 55), za (A 56), za (A 57), zi st, zi al, zi sv]))) (hD : [(A 0), (A 1), (A 2), (A 3), (A 52)].Nodup) (hA : AI A) (hs : s < 6) (hk : k ≤ 6) (hP : PBk h A 4 s k H) (hx : x = (p : Int) - 6) (hp : p < 13) (hth : th < 8192) (hfx : fx < 8192) (hd : d < 4) (h1 : bt th p = 1) (h2 : bt fx p = 0) (h3 : pop fx < d) : zEv k_X7_fix [za (A 0), zi x] h (fun v h2 => ∃ hb : xH, v = some (zi 1) ∧ h2 = zov [((A 0), .inr (7, [za (A 1), za (A 4), za (A 24), za (A 27), zi kt, za (A 47), za (A 49), za (A 52), za (A 63), za (A 68), za (A 72)])), ((A 1), .inr (4, [za (A 2), za (A 3), zi (th : Int), zi ((fx ^^^ 2 ^ p : Nat) : Int), zi (d : Int), zi (w : Int)])), ((A 2), .inl (0, 13, .inl Y)), ((A 3), .inl (0, 3, .inl Q)), ((A 52), .inr (0, [za (A 58), za (A 53), za (A 54), za (A 55), za (A 56), za (A 57), zi st, zi al, zi 0]))] hb ∧ PBk hb A 4 (nwS k s) (kpN k) (nwH k H (th, fx, d, w, Y, Q)) ∧ ∀ a, (∀ i, i < 24 → a ≠ A i) → a ≠ A 52 → hb a = h a) := by
  have hh : h = zov [((A 0), .inr (7, [za (A 1), za (A 4), za (A 24), za (A 27), zi kt, za (A 47), za (A 49), za (A 52), za (A 63), za (A 68), za (A 72)])), ((A 1), .inr (4, [za (A 2), za (A 3), zi (th : Int), zi (fx : Int), zi (d : Int), zi (w : Int)])), ((A 2), .inl (0, 13, .inl Y)), ((A 3), .inl (0, 3, .inl Q)), ((A 52), .inr (0, [za (A 58), za (A 53), za (A 54), za (A 55), za (A 56), za (A 57), zi st, zi al, zi sv]))] h := zov_self (List.forall_mem_cons.mpr ⟨hc0, List.forall_mem_cons.mpr ⟨hc1, List.forall_mem_cons.mpr ⟨hc2, List.forall_mem_cons.mpr ⟨hc3, List.forall_mem_cons.mpr ⟨hc4, fun _ q => absurd q List.not_mem_nil⟩⟩⟩⟩⟩)
  have hbx : bt (fx ^^^ 2 ^ p) p = 1 := by rw [bt_xor, bt_pow, if_pos rfl, if_neg (by omega)]
  have hfr0 : ∀ a, (∀ i, i < 24 → a ≠ A i) → a ≠ A 52 → h a = h a := fun _ _ _ => rfl
  refine zEv.body (I := (7, xI_X7_fix, 3, 4, 88, 0, 0, false)) (rt := (some .int)) [some (za (A 0)), some (zi x), none] rfl rfl rfl rfl ?_
  refine Zn.eq rfl rfl rfl hh ?_
  have hD : zND ([((A 0), .inr (7, [za (A 1), za (A 4), za (A 24), za (A 27), zi kt, za (A 47), za (A 49), za (A 52), za (A 63), za (A 68), za (A 72)])), ((A 1), .inr (4, [za (A 2), za (A 3), zi (th : Int), zi (fx : Int), zi (d : Int), zi (w : Int)])), ((A 2), .inl (0, 13, .inl Y)), ((A 3), .inl (0, 3, .inl Q)), ((A 52), .inr (0, [za (A 58), za (A 53), za (A 54), za (A 55), za (A 56), za (A 57), zi st, zi al, zi sv]))]) := hD
  refine Zn.seg (pc2 := 1) (ls2 := [some (za (A 0)), some (zi x), none]) (st2 := [zi x]) [(0, .iload_n 1)] (by decide +kernel) rfl ?_
  refine Zn.call (ins := .invokestatic 71) [zi x] [] (by decide +kernel) rfl rfl rfl ⟨rfl, rfl⟩ ⟨rfl, rfl, rfl⟩ rfl (zrecvS (by decide)) (sp_X7_isX (x := x) (by first | assumption | exact ⟨by omega, by omega⟩)) (fun v h2 hp => ?_)
  obtain ⟨rfl, hq_1⟩ := hp
  refine Zn.eq (pc2 := 4) (ls2 := [some (za (A 0)), some (zi x), none]) (st2 := [zi (inB (-6) 6 x)]) (h2 := zov ([((A 0), .inr (7, [za (A 1), za (A 4), za (A 24), za (A 27), zi kt, za (A 47), za (A 49), za (A 52), za (A 63), za (A 68), za (A 72)])), ((A 1), .inr (4, [za (A 2), za (A 3), zi (th : Int), zi (fx : Int), zi (d : Int), zi (w : Int)])), ((A 2), .inl (0, 13, .inl Y)), ((A 3), .inl (0, 3, .inl Q)), ((A 52), .inr (0, [za (A 58), za (A 53), za (A 54), za (A 55), za (A 56), za (A 57), zi st, zi al, zi sv]))]) h) rfl rfl rfl hq_1 ?_
  have hD : zND ([((A 0), .inr (7, [za (A 1), za (A 4), za (A 24), za (A 27), zi kt, za (A 47), za (A 49), za (A 52), za (A 63), za (A 68), za (A 72)])), ((A 1), .inr (4, [za (A 2), za (A 3), zi (th : Int), zi (fx : Int), zi (d : Int), zi (w : Int)])), ((A 2), .inl (0, 13, .inl Y)), ((A 3), .inl (0, 3, .inl Q)), ((A 52), .inr (0, [za (A 58), za (A 53), za (A 54), za (A 55), za (A 56), za (A 57), zi st, zi al, zi sv]))]) := hD
  have q_2 := inB_spec (-6) 6 x
  refine Zn.ifc (c := .ne) (off := 5) 9 (by decide +kernel) rfl ⟨by omega, by omega⟩ (fun c_3 => ?_) (fun c_3 => absurd (show inB (-6) 6 x ≠ 0 from by omega) c_3)
  have c_3 : inB (-6) 6 x ≠ 0 := c_3
  refine Zn.seg (pc2 := 13) (ls2 := [some (za (A 0)), some (zi x), none]) (st2 := [zi (x + 6)]) [(9, .iload_n 1), (10, .bipush 6), (12, .iadd)] (by decide +kernel) rfl ?_
  refine Zn.topi (y := (p : Int)) (by omega) ?_
  refine Zn.seg (pc2 := 15) (ls2 := [some (za (A 0)), some (zi x), some (zi (p : Int))]) (st2 := [za (A 0)]) [(13, .istore_n 2), (14, .aload_n 0)] (by decide +kernel) rfl ?_
  refine Zn.get (ix := 12) hD 0 (by decide +kernel) rfl rfl rfl ?_
  refine Zn.seg (pc2 := 19) (ls2 := [some (za (A 0)), some (zi x), some (zi (p : Int))]) (st2 := [zi (p : Int), za (A 1)]) [(18, .iload_n 2)] (by decide +kernel) rfl ?_
  refine Zn.call (ins := .invokevirtual 78) [za (A 1), zi (p : Int)] [] (by decide +kernel) rfl rfl rfl ⟨rfl, rfl⟩ ⟨rfl, rfl, rfl⟩ rfl (zrecvV hD (p := 1) rfl rfl rfl) (sp_X4_has (o := (A 1)) (ya := (A 2)) (qa := (A 3)) (th := th) (fx := fx) (d := d) (w := w) (p := p) (zov_get hD 1 rfl) (hth) (by omega)) (fun v h2 hp => ?_)
  obtain ⟨rfl, hq_4⟩ := hp
  refine Zn.eq (pc2 := 22) (ls2 := [some (za (A 0)), some (zi x), some (zi (p : Int))]) (st2 := [zi (bt th p : Int)]) (h2 := zov ([((A 0), .inr (7, [za (A 1), za (A 4), za (A 24), za (A 27), zi kt, za (A 47), za (A 49), za (A 52), za (A 63), za (A 68), za (A 72)])), ((A 1), .inr (4, [za (A 2), za (A 3), zi (th : Int), zi (fx : Int), zi (d : Int), zi (w : Int)])), ((A 2), .inl (0, 13, .inl Y)), ((A 3), .inl (0, 3, .inl Q)), ((A 52), .inr (0, [za (A 58), za (A 53), za (A 54), za (A 55), za (A 56), za (A 57), zi st, zi al, zi sv]))]) h) rfl rfl rfl hq_4 ?_
  have hD : zND ([((A 0), .inr (7, [za (A 1), za (A 4), za (A 24), za (A 27), zi kt, za (A 47), za (A 49), za (A 52), za (A 63), za (A 68), za (A 72)])), ((A 1), .inr (4, [za (A 2), za (A 3), zi (th : Int), zi (fx : Int), zi (d : Int), zi (w : Int)])), ((A 2), .inl (0, 13, .inl Y)), ((A 3), .inl (0, 3, .inl Q)), ((A 52), .inr (0, [za (A 58), za (A 53), za (A 54), za (A 55), za (A 56), za (A 57), zi st, zi al, zi sv]))]) := hD
  have q_5 := bt_lt th p
  refine Zn.ifc (c := .ne) (off := 6) 28 (by decide +kernel) rfl ⟨by omega, by omega⟩ (fun c_6 => ?_) (fun c_6 => absurd (show (bt th p : Int) ≠ 0 from by omega) c_6)
  have c_6 : (bt th p : Int) ≠ 0 := c_6
  refine Zn.seg (pc2 := 29) (ls2 := [some (za (A 0)), some (zi x), some (zi (p : Int))]) (st2 := [za (A 0)]) [(28, .aload_n 0)] (by decide +kernel) rfl ?_
  refine Zn.get (ix := 12) hD 0 (by decide +kernel) rfl rfl rfl ?_
  refine Zn.seg (pc2 := 33) (ls2 := [some (za (A 0)), some (zi x), some (zi (p : Int))]) (st2 := [zi (p : Int), za (A 1)]) [(32, .iload_n 2)] (by decide +kernel) rfl ?_
  refine Zn.call (ins := .invokevirtual 100) [za (A 1), zi (p : Int)] [] (by decide +kernel) rfl rfl rfl ⟨rfl, rfl⟩ ⟨rfl, rfl, rfl⟩ rfl (zrecvV hD (p := 1) rfl rfl rfl) (sp_X4_isFixed (o := (A 1)) (ya := (A 2)) (qa := (A 3)) (th := th) (fx := fx) (d := d) (w := w) (p := p) (zov_get hD 1 rfl) (hfx) (by omega)) (fun v h2 hp => ?_)
  obtain ⟨rfl, hq_7⟩ := hp
  refine Zn.eq (pc2 := 36) (ls2 := [some (za (A 0)), some (zi x), some (zi (p : Int))]) (st2 := [zi (bt fx p : Int)]) (h2 := zov ([((A 0), .inr (7, [za (A 1), za (A 4), za (A 24), za (A 27), zi kt, za (A 47), za (A 49), za (A 52), za (A 63), za (A 68), za (A 72)])), ((A 1), .inr (4, [za (A 2), za (A 3), zi (th : Int), zi (fx : Int), zi (d : Int), zi (w : Int)])), ((A 2), .inl (0, 13, .inl Y)), ((A 3), .inl (0, 3, .inl Q)), ((A 52), .inr (0, [za (A 58), za (A 53), za (A 54), za (A 55), za (A 56), za (A 57), zi st, zi al, zi sv]))]) h) rfl rfl rfl hq_7 ?_
  have hD : zND ([((A 0), .inr (7, [za (A 1), za (A 4), za (A 24), za (A 27), zi kt, za (A 47), za (A 49), za (A 52), za (A 63), za (A 68), za (A 72)])), ((A 1), .inr (4, [za (A 2), za (A 3), zi (th : Int), zi (fx : Int), zi (d : Int), zi (w : Int)])), ((A 2), .inl (0, 13, .inl Y)), ((A 3), .inl (0, 3, .inl Q)), ((A 52), .inr (0, [za (A 58), za (A 53), za (A 54), za (A 55), za (A 56), za (A 57), zi st, zi al, zi sv]))]) := hD
  have q_8 := bt_lt fx p
  refine Zn.ifc (c := .ne) (off := 16) 52 (by decide +kernel) rfl ⟨by omega, by omega⟩ (fun c_9 => absurd (show (bt fx p : Int) ≠ 0 from c_9) (by omega)) (fun c_9 => ?_)
  have c_9 : ¬ ((bt fx p : Int) ≠ 0) := c_9
  refine Zn.seg (pc2 := 40) (ls2 := [some (za (A 0)), some (zi x), some (zi (p : Int))]) (st2 := [za (A 0)]) [(39, .aload_n 0)] (by decide +kernel) rfl ?_
  refine Zn.get (ix := 12) hD 0 (by decide +kernel) rfl rfl rfl ?_
  refine Zn.call (ins := .invokevirtual 103) [za (A 1)] [] (by decide +kernel) rfl rfl rfl ⟨rfl, rfl⟩ ⟨rfl, rfl, rfl⟩ rfl (zrecvV hD (p := 1) rfl rfl rfl) (sp_X4_mayFix (o := (A 1)) (ya := (A 2)) (qa := (A 3)) (th := th) (fx := fx) (d := d) (w := w) (zov_get hD 1 rfl) (hfx) (hd)) (fun v h2 hp => ?_)
  obtain ⟨rfl, hq_10⟩ := hp
  refine Zn.eq (pc2 := 46) (ls2 := [some (za (A 0)), some (zi x), some (zi (p : Int))]) (st2 := [zi (ltB (pop fx : Int) (d : Int))]) (h2 := zov ([((A 0), .inr (7, [za (A 1), za (A 4), za (A 24), za (A 27), zi kt, za (A 47), za (A 49), za (A 52), za (A 63), za (A 68), za (A 72)])), ((A 1), .inr (4, [za (A 2), za (A 3), zi (th : Int), zi (fx : Int), zi (d : Int), zi (w : Int)])), ((A 2), .inl (0, 13, .inl Y)), ((A 3), .inl (0, 3, .inl Q)), ((A 52), .inr (0, [za (A 58), za (A 53), za (A 54), za (A 55), za (A 56), za (A 57), zi st, zi al, zi sv]))]) h) rfl rfl rfl hq_10 ?_
  have hD : zND ([((A 0), .inr (7, [za (A 1), za (A 4), za (A 24), za (A 27), zi kt, za (A 47), za (A 49), za (A 52), za (A 63), za (A 68), za (A 72)])), ((A 1), .inr (4, [za (A 2), za (A 3), zi (th : Int), zi (fx : Int), zi (d : Int), zi (w : Int)])), ((A 2), .inl (0, 13, .inl Y)), ((A 3), .inl (0, 3, .inl Q)), ((A 52), .inr (0, [za (A 58), za (A 53), za (A 54), za (A 55), za (A 56), za (A 57), zi st, zi al, zi sv]))]) := hD
  have q_11 := ltB_spec (pop fx : Int) (d : Int)
  refine Zn.ifc (c := .ne) (off := 6) 52 (by decide +kernel) rfl ⟨by omega, by omega⟩ (fun c_12 => ?_) (fun c_12 => absurd (show ltB (pop fx : Int) (d : Int) ≠ 0 from by omega) c_12)
  have c_12 : ltB (pop fx : Int) (d : Int) ≠ 0 := c_12
  refine Zn.seg (pc2 := 53) (ls2 := [some (za (A 0)), some (zi x), some (zi (p : Int))]) (st2 := [za (A 0)]) [(52, .aload_n 0)] (by decide +kernel) rfl ?_
  refine Zn.call (ins := .invokevirtual 89) [za (A 0)] [] (by decide +kernel) rfl rfl rfl ⟨rfl, rfl⟩ ⟨rfl, rfl, rfl⟩ rfl (zrecvV hD (p := 0) rfl rfl rfl) (sp_X7_rem (kt := kt) (st := st) (al := al) (sv := sv) (th := th) (fx := fx) (d := d) (w := w) (Y := Y) (Q := Q) (s := s) (k := k) (H := H) (zov_get hD 0 rfl) (zov_get hD 1 rfl) (zov_get hD 2 rfl) (zov_get hD 3 rfl) (zov_get hD 4 rfl) (nd_sub hD [0, 1, 2, 3, 4] rfl rfl) (hA) (hs) (hk) (by exact PBk_cg hP (fun i h1_ h2_ => A_out hA (i := i) [0, 1, 2, 3, 52] rfl (by simp only [List.mem_cons, List.not_mem_nil, or_false]; omega) (by omega) (by simp only [List.mem_cons, List.not_mem_nil, or_false, not_or]; omega)))) (fun v h2 hp => ?_)
  obtain ⟨h, rfl, hq_, hP, hfr_⟩ := hp
  have hfr0 : ∀ a, (∀ i, i < 24 → a ≠ A i) → a ≠ A 52 → h a = _ := fun a q1 q2 => (hfr_ a (fun j hj => q1 (4 + j) (by omega))).trans ((zov_out (by simp only [List.map_cons, List.map_nil, List.mem_cons, List.not_mem_nil, or_false, not_or]; exact ⟨q1 0 (by decide), q1 1 (by decide), q1 2 (by decide), q1 3 (by decide), q2⟩)).trans (hfr0 a q1 q2))
  refine Zn.eq (pc2 := 56) (ls2 := [some (za (A 0)), some (zi x), some (zi (p : Int))]) (st2 := []) (h2 := zov ([((A 0), .inr (7, [za (A 1), za (A 4), za (A 24), za (A 27), zi kt, za (A 47), za (A 49), za (A 52), za (A 63), za (A 68), za (A 72)])), ((A 1), .inr (4, [za (A 2), za (A 3), zi (th : Int), zi (fx : Int), zi (d : Int), zi (w : Int)])), ((A 2), .inl (0, 13, .inl Y)), ((A 3), .inl (0, 3, .inl Q)), ((A 52), .inr (0, [za (A 58), za (A 53), za (A 54), za (A 55), za (A 56), za (A 57), zi st, zi al, zi 0]))]) h) rfl rfl rfl hq_ ?_
  have hD : zND ([((A 0), .inr (7, [za (A 1), za (A 4), za (A 24), za (A 27), zi kt, za (A 47), za (A 49), za (A 52), za (A 63), za (A 68), za (A 72)])), ((A 1), .inr (4, [za (A 2), za (A 3), zi (th : Int), zi (fx : Int), zi (d : Int), zi (w : Int)])), ((A 2), .inl (0, 13, .inl Y)), ((A 3), .inl (0, 3, .inl Q)), ((A 52), .inr (0, [za (A 58), za (A 53), za (A 54), za (A 55), za (A 56), za (A 57), zi st, zi al, zi 0]))]) := hD
  have hD : zND ([((A 0), .inr (7, [za (A 1), za (A 4), za (A 24), za (A 27), zi kt, za (A 47), za (A 49), za (A 52), za (A 63), za (A 68), za (A 72)])), ((A 1), .inr (4, [za (A 2), za (A 3), zi (th : Int), zi (fx : Int), zi (d : Int), zi (w : Int)])), ((A 2), .inl (0, 13, .inl Y)), ((A 3), .inl (0, 3, .inl Q)), ((A 52), .inr (0, [za (A 58), za (A 53), za (A 54), za (A 55), za (A 56), za (A 57), zi st, zi al, zi 0]))]) := hD
  refine Zn.seg (pc2 := 57) (ls2 := [some (za (A 0)), some (zi x), some (zi (p : Int))]) (st2 := [za (A 0)]) [(56, .aload_n 0)] (by decide +kernel) rfl ?_
  refine Zn.get (ix := 12) hD 0 (by decide +kernel) rfl rfl rfl ?_
  refine Zn.seg (pc2 := 61) (ls2 := [some (za (A 0)), some (zi x), some (zi (p : Int))]) (st2 := [zi (p : Int), za (A 1)]) [(60, .iload_n 2)] (by decide +kernel) rfl ?_
  refine Zn.call (ins := .invokevirtual 107) [za (A 1), zi (p : Int)] [] (by decide +kernel) rfl rfl rfl ⟨rfl, rfl⟩ ⟨rfl, rfl, rfl⟩ rfl (zrecvV hD (p := 1) rfl rfl rfl) (sp_X4_turnFixed (o := (A 1)) (ya := (A 2)) (qa := (A 3)) (th := th) (fx := fx) (d := d) (w := w) (p := p) (zov_get hD 1 rfl) (hfx) (hp)) (fun v h2 hp => ?_)
  obtain ⟨rfl, hq_13⟩ := hp
  refine Zn.eq (pc2 := 64) (ls2 := [some (za (A 0)), some (zi x), some (zi (p : Int))]) (st2 := []) (h2 := zov ([((A 0), .inr (7, [za (A 1), za (A 4), za (A 24), za (A 27), zi kt, za (A 47), za (A 49), za (A 52), za (A 63), za (A 68), za (A 72)])), ((A 1), .inr (4, [za (A 2), za (A 3), zi (th : Int), zi ((fx ^^^ 2 ^ p : Nat) : Int), zi (d : Int), zi (w : Int)])), ((A 2), .inl (0, 13, .inl Y)), ((A 3), .inl (0, 3, .inl Q)), ((A 52), .inr (0, [za (A 58), za (A 53), za (A 54), za (A 55), za (A 56), za (A 57), zi st, zi al, zi 0]))]) h) rfl rfl rfl (hq_13.trans (zov_put hD [1] _ rfl)) ?_
  have hD : zND ([((A 0), .inr (7, [za (A 1), za (A 4), za (A 24), za (A 27), zi kt, za (A 47), za (A 49), za (A 52), za (A 63), za (A 68), za (A 72)])), ((A 1), .inr (4, [za (A 2), za (A 3), zi (th : Int), zi ((fx ^^^ 2 ^ p : Nat) : Int), zi (d : Int), zi (w : Int)])), ((A 2), .inl (0, 13, .inl Y)), ((A 3), .inl (0, 3, .inl Q)), ((A 52), .inr (0, [za (A 58), za (A 53), za (A 54), za (A 55), za (A 56), za (A 57), zi st, zi al, zi 0]))]) := hD
  refine Zn.seg (pc2 := 65) (ls2 := [some (za (A 0)), some (zi x), some (zi (p : Int))]) (st2 := [za (A 0)]) [(64, .aload_n 0)] (by decide +kernel) rfl ?_
  refine Zn.get (ix := 12) hD 0 (by decide +kernel) rfl rfl rfl ?_
  refine Zn.seg (pc2 := 69) (ls2 := [some (za (A 0)), some (zi x), some (zi (p : Int))]) (st2 := [zi (p : Int), za (A 1)]) [(68, .iload_n 2)] (by decide +kernel) rfl ?_
  refine Zn.call (ins := .invokevirtual 100) [za (A 1), zi (p : Int)] [] (by decide +kernel) rfl rfl rfl ⟨rfl, rfl⟩ ⟨rfl, rfl, rfl⟩ rfl (zrecvV hD (p := 1) rfl rfl rfl) (sp_X4_isFixed (o := (A 1)) (ya := (A 2)) (qa := (A 3)) (th := th) (fx := fx ^^^ 2 ^ p) (d := d) (w := w) (p := p) (zov_get hD 1 rfl) (xor_lt hfx (pw_lt hp)) (by omega)) (fun v h2 hp => ?_)
  obtain ⟨rfl, hq_14⟩ := hp
  refine Zn.eq (pc2 := 72) (ls2 := [some (za (A 0)), some (zi x), some (zi (p : Int))]) (st2 := [zi (bt (fx ^^^ 2 ^ p) p : Int)]) (h2 := zov ([((A 0), .inr (7, [za (A 1), za (A 4), za (A 24), za (A 27), zi kt, za (A 47), za (A 49), za (A 52), za (A 63), za (A 68), za (A 72)])), ((A 1), .inr (4, [za (A 2), za (A 3), zi (th : Int), zi ((fx ^^^ 2 ^ p : Nat) : Int), zi (d : Int), zi (w : Int)])), ((A 2), .inl (0, 13, .inl Y)), ((A 3), .inl (0, 3, .inl Q)), ((A 52), .inr (0, [za (A 58), za (A 53), za (A 54), za (A 55), za (A 56), za (A 57), zi st, zi al, zi 0]))]) h) rfl rfl rfl hq_14 ?_
  have hD : zND ([((A 0), .inr (7, [za (A 1), za (A 4), za (A 24), za (A 27), zi kt, za (A 47), za (A 49), za (A 52), za (A 63), za (A 68), za (A 72)])), ((A 1), .inr (4, [za (A 2), za (A 3), zi (th : Int), zi ((fx ^^^ 2 ^ p : Nat) : Int), zi (d : Int), zi (w : Int)])), ((A 2), .inl (0, 13, .inl Y)), ((A 3), .inl (0, 3, .inl Q)), ((A 52), .inr (0, [za (A 58), za (A 53), za (A 54), za (A 55), za (A 56), za (A 57), zi st, zi al, zi 0]))]) := hD
  have q_15 := bt_lt (fx ^^^ 2 ^ p) p
  refine Zn.ifc (c := .eq) (off := 7) 79 (by decide +kernel) rfl ⟨by omega, by omega⟩ (fun c_16 => absurd (show (bt (fx ^^^ 2 ^ p) p : Int) = 0 from c_16) (by omega)) (fun c_16 => ?_)
  have c_16 : ¬ ((bt (fx ^^^ 2 ^ p) p : Int) = 0) := c_16
  refine Zn.seg (pc2 := 80) (ls2 := [some (za (A 0)), some (zi x), some (zi (p : Int))]) (st2 := [zi 1]) [(75, .iconst 1), (76, .goto 4)] (by decide +kernel) rfl ?_
  exact Zn.iret (by decide +kernel) rfl (⟨h, by first | rfl | (refine congrArg some (congrArg zi ?_); first | omega | (simp_all; done) | (simp_all; omega)), rfl, hP, hfr0⟩)
theorem sp_X7_fix_off {h : xH} {A : Nat → Nat} {kt st al sv : Int} {th fx d w : Nat} {Y Q : Nat → Int} {s k : Nat} {H : Nat → sn} {x : Int} {p : Nat} (hc0 : h (A 0) = zcE (.inr (7, [za (A 1), za (A 4), za (A 24), za (A 27), zi kt, za (A 47), za (A 49), za (A 52), za (A 63), za (A 68), za (A 72)]))) (hc1 : h (A 1) = zcE (.inr (4, [za (A 2), za (A 3), zi (th : Int), zi (fx : Int), zi (d : Int), zi (w : Int)]))) (hc2 : h (A 2) = zcE (.inl (0, 13, .inl Y))) (hc3 : h (A 3) = zcE (.inl (0, 3, .inl Q))) (hc4 : h (A 52) = zcE (.inr (0, [za (A 58), za (A 53), za (A 54), za (A 55), za (A 56), za (A 57), zi st, zi al, zi sv]))) (hD : [(A 0), (A 1), (A 2), (A 3), (A 52)].Nodup) (hA : AI A) (hs : s < 6) (hk : k ≤ 6) (hP : PBk h A 4 s k H) (hx : x = (p : Int) - 6) (hp : p < 13) (hth : th < 8192) (hfx : fx < 8192) (hd : d < 4) (h1 : bt th p = 1) (h2 : bt fx p = 1) : zEv k_X7_fix [za (A 0), zi x] h (fun v h2 => ∃ hb : xH, v = some (zi 0) ∧ h2 = zov [((A 0), .inr (7, [za (A 1), za (A 4), za (A 24), za (A 27), zi kt, za (A 47), za (A 49), za (A 52), za (A 63), za (A 68), za (A 72)])), ((A 1), .inr (4, [za (A 2), za (A 3), zi (th : Int), zi ((fx ^^^ 2 ^ p : Nat) : Int), zi (d : Int), zi (w : Int)])), ((A 2), .inl (0, 13, .inl Y)), ((A 3), .inl (0, 3, .inl Q)), ((A 52), .inr (0, [za (A 58), za (A 53), za (A 54), za (A 55), za (A 56), za (A 57), zi st, zi al, zi 0]))] hb ∧ PBk hb A 4 (nwS k s) (kpN k) (nwH k H (th, fx, d, w, Y, Q)) ∧ ∀ a, (∀ i, i < 24 → a ≠ A i) → a ≠ A 52 → hb a = h a) := by
  have hh : h = zov [((A 0), .inr (7, [za (A 1), za (A 4), za (A 24), za (A 27), zi kt, za (A 47), za (A 49), za (A 52), za (A 63), za (A 68), za (A 72)])), ((A 1), .inr (4, [za (A 2), za (A 3), zi (th : Int), zi (fx : Int), zi (d : Int), zi (w : Int)])), ((A 2), .inl (0, 13, .inl Y)), ((A 3), .inl (0, 3, .inl Q)), ((A 52), .inr (0, [za (A 58), za (A 53), za (A 54), za (A 55), za (A 56), za (A 57), zi st, zi al, zi sv]))] h := zov_self (List.forall_mem_cons.mpr ⟨hc0, List.forall_mem_cons.mpr ⟨hc1, List.forall_mem_cons.mpr ⟨hc2, List.forall_mem_cons.mpr ⟨hc3, List.forall_mem_cons.mpr ⟨hc4, fun _ q => absurd q List.not_mem_nil⟩⟩⟩⟩⟩)
  have hbx : bt (fx ^^^ 2 ^ p) p = 0 := by rw [bt_xor, bt_pow, if_pos rfl, if_pos (by omega)]
  have hfr0 : ∀ a, (∀ i, i < 24 → a ≠ A i) → a ≠ A 52 → h a = h a := fun _ _ _ => rfl
  refine zEv.body (I := (7, xI_X7_fix, 3, 4, 88, 0, 0, false)) (rt := (some .int)) [some (za (A 0)), some (zi x), none] rfl rfl rfl rfl ?_
  refine Zn.eq rfl rfl rfl hh ?_
  have hD : zND ([((A 0), .inr (7, [za (A 1), za (A 4), za (A 24), za (A 27), zi kt, za (A 47), za (A 49), za (A 52), za (A 63), za (A 68), za (A 72)])), ((A 1), .inr (4, [za (A 2), za (A 3), zi (th : Int), zi (fx : Int), zi (d : Int), zi (w : Int)])), ((A 2), .inl (0, 13, .inl Y)), ((A 3), .inl (0, 3, .inl Q)), ((A 52), .inr (0, [za (A 58), za (A 53), za (A 54), za (A 55), za (A 56), za (A 57), zi st, zi al, zi sv]))]) := hD
  refine Zn.seg (pc2 := 1) (ls2 := [some (za (A 0)), some (zi x), none]) (st2 := [zi x]) [(0, .iload_n 1)] (by decide +kernel) rfl ?_
  refine Zn.call (ins := .invokestatic 71) [zi x] [] (by decide +kernel) rfl rfl rfl ⟨rfl, rfl⟩ ⟨rfl, rfl, rfl⟩ rfl (zrecvS (by decide)) (sp_X7_isX (x := x) (by first | assumption | exact ⟨by omega, by omega⟩)) (fun v h2 hp => ?_)
  obtain ⟨rfl, hq_1⟩ := hp
  refine Zn.eq (pc2 := 4) (ls2 := [some (za (A 0)), some (zi x), none]) (st2 := [zi (inB (-6) 6 x)]) (h2 := zov ([((A 0), .inr (7, [za (A 1), za (A 4), za (A 24), za (A 27), zi kt, za (A 47), za (A 49), za (A 52), za (A 63), za (A 68), za (A 72)])), ((A 1), .inr (4, [za (A 2), za (A 3), zi (th : Int), zi (fx : Int), zi (d : Int), zi (w : Int)])), ((A 2), .inl (0, 13, .inl Y)), ((A 3), .inl (0, 3, .inl Q)), ((A 52), .inr (0, [za (A 58), za (A 53), za (A 54), za (A 55), za (A 56), za (A 57), zi st, zi al, zi sv]))]) h) rfl rfl rfl hq_1 ?_
  have hD : zND ([((A 0), .inr (7, [za (A 1), za (A 4), za (A 24), za (A 27), zi kt, za (A 47), za (A 49), za (A 52), za (A 63), za (A 68), za (A 72)])), ((A 1), .inr (4, [za (A 2), za (A 3), zi (th : Int), zi (fx : Int), zi (d : Int), zi (w : Int)])), ((A 2), .inl (0, 13, .inl Y)), ((A 3), .inl (0, 3, .inl Q)), ((A 52), .inr (0, [za (A 58), za (A 53), za (A 54), za (A 55), za (A 56), za (A 57), zi st, zi al, zi sv]))]) := hD
  have q_2 := inB_spec (-6) 6 x
  refine Zn.ifc (c := .ne) (off := 5) 9 (by decide +kernel) rfl ⟨by omega, by omega⟩ (fun c_3 => ?_) (fun c_3 => absurd (show inB (-6) 6 x ≠ 0 from by omega) c_3)
  have c_3 : inB (-6) 6 x ≠ 0 := c_3
  refine Zn.seg (pc2 := 13) (ls2 := [some (za (A 0)), some (zi x), none]) (st2 := [zi (x + 6)]) [(9, .iload_n 1), (10, .bipush 6), (12, .iadd)] (by decide +kernel) rfl ?_
  refine Zn.topi (y := (p : Int)) (by omega) ?_
  refine Zn.seg (pc2 := 15) (ls2 := [some (za (A 0)), some (zi x), some (zi (p : Int))]) (st2 := [za (A 0)]) [(13, .istore_n 2), (14, .aload_n 0)] (by decide +kernel) rfl ?_
  refine Zn.get (ix := 12) hD 0 (by decide +kernel) rfl rfl rfl ?_
  refine Zn.seg (pc2 := 19) (ls2 := [some (za (A 0)), some (zi x), some (zi (p : Int))]) (st2 := [zi (p : Int), za (A 1)]) [(18, .iload_n 2)] (by decide +kernel) rfl ?_
  refine Zn.call (ins := .invokevirtual 78) [za (A 1), zi (p : Int)] [] (by decide +kernel) rfl rfl rfl ⟨rfl, rfl⟩ ⟨rfl, rfl, rfl⟩ rfl (zrecvV hD (p := 1) rfl rfl rfl) (sp_X4_has (o := (A 1)) (ya := (A 2)) (qa := (A 3)) (th := th) (fx := fx) (d := d) (w := w) (p := p) (zov_get hD 1 rfl) (hth) (by omega)) (fun v h2 hp => ?_)
  obtain ⟨rfl, hq_4⟩ := hp
  refine Zn.eq (pc2 := 22) (ls2 := [some (za (A 0)), some (zi x), some (zi (p : Int))]) (st2 := [zi (bt th p : Int)]) (h2 := zov ([((A 0), .inr (7, [za (A 1), za (A 4), za (A 24), za (A 27), zi kt, za (A 47), za (A 49), za (A 52), za (A 63), za (A 68), za (A 72)])), ((A 1), .inr (4, [za (A 2), za (A 3), zi (th : Int), zi (fx : Int), zi (d : Int), zi (w : Int)])), ((A 2), .inl (0, 13, .inl Y)), ((A 3), .inl (0, 3, .inl Q)), ((A 52), .inr (0, [za (A 58), za (A 53), za (A 54), za (A 55), za (A 56), za (A 57), zi st, zi al, zi sv]))]) h) rfl rfl rfl hq_4 ?_
  have hD : zND ([((A 0), .inr (7, [za (A 1), za (A 4), za (A 24), za (A 27), zi kt, za (A 47), za (A 49), za (A 52), za (A 63), za (A 68), za (A 72)])), ((A 1), .inr (4, [za (A 2), za (A 3), zi (th : Int), zi (fx : Int), zi (d : Int), zi (w : Int)])), ((A 2), .inl (0, 13, .inl Y)), ((A 3), .inl (0, 3, .inl Q)), ((A 52), .inr (0, [za (A 58), za (A 53), za (A 54), za (A 55), za (A 56), za (A 57), zi st, zi al, zi sv]))]) := hD
  have q_5 := bt_lt th p
  refine Zn.ifc (c := .ne) (off := 6) 28 (by decide +kernel) rfl ⟨by omega, by omega⟩ (fun c_6 => ?_) (fun c_6 => absurd (show (bt th p : Int) ≠ 0 from by omega) c_6)
  have c_6 : (bt th p : Int) ≠ 0 := c_6
  refine Zn.seg (pc2 := 29) (ls2 := [some (za (A 0)), some (zi x), some (zi (p : Int))]) (st2 := [za (A 0)]) [(28, .aload_n 0)] (by decide +kernel) rfl ?_
  refine Zn.get (ix := 12) hD 0 (by decide +kernel) rfl rfl rfl ?_
  refine Zn.seg (pc2 := 33) (ls2 := [some (za (A 0)), some (zi x), some (zi (p : Int))]) (st2 := [zi (p : Int), za (A 1)]) [(32, .iload_n 2)] (by decide +kernel) rfl ?_
  refine Zn.call (ins := .invokevirtual 100) [za (A 1), zi (p : Int)] [] (by decide +kernel) rfl rfl rfl ⟨rfl, rfl⟩ ⟨rfl, rfl, rfl⟩ rfl (zrecvV hD (p := 1) rfl rfl rfl) (sp_X4_isFixed (o := (A 1)) (ya := (A 2)) (qa := (A 3)) (th := th) (fx := fx) (d := d) (w := w) (p := p) (zov_get hD 1 rfl) (hfx) (by omega)) (fun v h2 hp => ?_)
  obtain ⟨rfl, hq_7⟩ := hp
  refine Zn.eq (pc2 := 36) (ls2 := [some (za (A 0)), some (zi x), some (zi (p : Int))]) (st2 := [zi (bt fx p : Int)]) (h2 := zov ([((A 0), .inr (7, [za (A 1), za (A 4), za (A 24), za (A 27), zi kt, za (A 47), za (A 49), za (A 52), za (A 63), za (A 68), za (A 72)])), ((A 1), .inr (4, [za (A 2), za (A 3), zi (th : Int), zi (fx : Int), zi (d : Int), zi (w : Int)])), ((A 2), .inl (0, 13, .inl Y)), ((A 3), .inl (0, 3, .inl Q)), ((A 52), .inr (0, [za (A 58), za (A 53), za (A 54), za (A 55), za (A 56), za (A 57), zi st, zi al, zi sv]))]) h) rfl rfl rfl hq_7 ?_
  have hD : zND ([((A 0), .inr (7, [za (A 1), za (A 4), za (A 24), za (A 27), zi kt, za (A 47), za (A 49), za (A 52), za (A 63), za (A 68), za (A 72)])), ((A 1), .inr (4, [za (A 2), za (A 3), zi (th : Int), zi (fx : Int), zi (d : Int), zi (w : Int)])), ((A 2), .inl (0, 13, .inl Y)), ((A 3), .inl (0, 3, .inl Q)), ((A 52), .inr (0, [za (A 58), za (A 53), za (A 54), za (A 55), za (A 56), za (A 57), zi st, zi al, zi sv]))]) := hD
  have q_8 := bt_lt fx p
  refine Zn.ifc (c := .ne) (off := 16) 52 (by decide +kernel) rfl ⟨by omega, by omega⟩ (fun c_9 => ?_) (fun c_9 => absurd (show (bt fx p : Int) ≠ 0 from by omega) c_9)
  have c_9 : (bt fx p : Int) ≠ 0 := c_9
  refine Zn.seg (pc2 := 53) (ls2 := [some (za (A 0)), some (zi x), some (zi (p : Int))]) (st2 := [za (A 0)]) [(52, .aload_n 0)] (by decide +kernel) rfl ?_
  refine Zn.call (ins := .invokevirtual 89) [za (A 0)] [] (by decide +kernel) rfl rfl rfl ⟨rfl, rfl⟩ ⟨rfl, rfl, rfl⟩ rfl (zrecvV hD (p := 0) rfl rfl rfl) (sp_X7_rem (kt := kt) (st := st) (al := al) (sv := sv) (th := th) (fx := fx) (d := d) (w := w) (Y := Y) (Q := Q) (s := s) (k := k) (H := H) (zov_get hD 0 rfl) (zov_get hD 1 rfl) (zov_get hD 2 rfl) (zov_get hD 3 rfl) (zov_get hD 4 rfl) (nd_sub hD [0, 1, 2, 3, 4] rfl rfl) (hA) (hs) (hk) (by exact PBk_cg hP (fun i h1_ h2_ => A_out hA (i := i) [0, 1, 2, 3, 52] rfl (by simp only [List.mem_cons, List.not_mem_nil, or_false]; omega) (by omega) (by simp only [List.mem_cons, List.not_mem_nil, or_false, not_or]; omega)))) (fun v h2 hp => ?_)
  obtain ⟨h, rfl, hq_, hP, hfr_⟩ := hp
  have hfr0 : ∀ a, (∀ i, i < 24 → a ≠ A i) → a ≠ A 52 → h a = _ := fun a q1 q2 => (hfr_ a (fun j hj => q1 (4 + j) (by omega))).trans ((zov_out (by simp only [List.map_cons, List.map_nil, List.mem_cons, List.not_mem_nil, or_false, not_or]; exact ⟨q1 0 (by decide), q1 1 (by decide), q1 2 (by decide), q1 3 (by decide), q2⟩)).trans (hfr0 a q1 q2))
  refine Zn.eq (pc2 := 56) (ls2 := [some (za (A 0)), some (zi x), some (zi (p : Int))]) (st2 := []) (h2 := zov ([((A 0), .inr (7, [za (A 1), za (A 4), za (A 24), za (A 27), zi kt, za (A 47), za (A 49), za (A 52), za (A 63), za (A 68), za (A 72)])), ((A 1), .inr (4, [za (A 2), za (A 3), zi (th : Int), zi (fx : Int), zi (d : Int), zi (w : Int)])), ((A 2), .inl (0, 13, .inl Y)), ((A 3), .inl (0, 3, .inl Q)), ((A 52), .inr (0, [za (A 58), za (A 53), za (A 54), za (A 55), za (A 56), za (A 57), zi st, zi al, zi 0]))]) h) rfl rfl rfl hq_ ?_
  have hD : zND ([((A 0), .inr (7, [za (A 1), za (A 4), za (A 24), za (A 27), zi kt, za (A 47), za (A 49), za (A 52), za (A 63), za (A 68), za (A 72)])), ((A 1), .inr (4, [za (A 2), za (A 3), zi (th : Int), zi (fx : Int), zi (d : Int), zi (w : Int)])), ((A 2), .inl (0, 13, .inl Y)), ((A 3), .inl (0, 3, .inl Q)), ((A 52), .inr (0, [za (A 58), za (A 53), za (A 54), za (A 55), za (A 56), za (A 57), zi st, zi al, zi 0]))]) := hD
  have hD : zND ([((A 0), .inr (7, [za (A 1), za (A 4), za (A 24), za (A 27), zi kt, za (A 47), za (A 49), za (A 52), za (A 63), za (A 68), za (A 72)])), ((A 1), .inr (4, [za (A 2), za (A 3), zi (th : Int), zi (fx : Int), zi (d : Int), zi (w : Int)])), ((A 2), .inl (0, 13, .inl Y)), ((A 3), .inl (0, 3, .inl Q)), ((A 52), .inr (0, [za (A 58), za (A 53), za (A 54), za (A 55), za (A 56), za (A 57), zi st, zi al, zi 0]))]) := hD
  refine Zn.seg (pc2 := 57) (ls2 := [some (za (A 0)), some (zi x), some (zi (p : Int))]) (st2 := [za (A 0)]) [(56, .aload_n 0)] (by decide +kernel) rfl ?_
  refine Zn.get (ix := 12) hD 0 (by decide +kernel) rfl rfl rfl ?_
  refine Zn.seg (pc2 := 61) (ls2 := [some (za (A 0)), some (zi x), some (zi (p : Int))]) (st2 := [zi (p : Int), za (A 1)]) [(60, .iload_n 2)] (by decide +kernel) rfl ?_
  refine Zn.call (ins := .invokevirtual 107) [za (A 1), zi (p : Int)] [] (by decide +kernel) rfl rfl rfl ⟨rfl, rfl⟩ ⟨rfl, rfl, rfl⟩ rfl (zrecvV hD (p := 1) rfl rfl rfl) (sp_X4_turnFixed (o := (A 1)) (ya := (A 2)) (qa := (A 3)) (th := th) (fx := fx) (d := d) (w := w) (p := p) (zov_get hD 1 rfl) (hfx) (hp)) (fun v h2 hp => ?_)
  obtain ⟨rfl, hq_10⟩ := hp
  refine Zn.eq (pc2 := 64) (ls2 := [some (za (A 0)), some (zi x), some (zi (p : Int))]) (st2 := []) (h2 := zov ([((A 0), .inr (7, [za (A 1), za (A 4), za (A 24), za (A 27), zi kt, za (A 47), za (A 49), za (A 52), za (A 63), za (A 68), za (A 72)])), ((A 1), .inr (4, [za (A 2), za (A 3), zi (th : Int), zi ((fx ^^^ 2 ^ p : Nat) : Int), zi (d : Int), zi (w : Int)])), ((A 2), .inl (0, 13, .inl Y)), ((A 3), .inl (0, 3, .inl Q)), ((A 52), .inr (0, [za (A 58), za (A 53), za (A 54), za (A 55), za (A 56), za (A 57), zi st, zi al, zi 0]))]) h) rfl rfl rfl (hq_10.trans (zov_put hD [1] _ rfl)) ?_
  have hD : zND ([((A 0), .inr (7, [za (A 1), za (A 4), za (A 24), za (A 27), zi kt, za (A 47), za (A 49), za (A 52), za (A 63), za (A 68), za (A 72)])), ((A 1), .inr (4, [za (A 2), za (A 3), zi (th : Int), zi ((fx ^^^ 2 ^ p : Nat) : Int), zi (d : Int), zi (w : Int)])), ((A 2), .inl (0, 13, .inl Y)), ((A 3), .inl (0, 3, .inl Q)), ((A 52), .inr (0, [za (A 58), za (A 53), za (A 54), za (A 55), za (A 56), za (A 57), zi st, zi al, zi 0]))]) := hD
  refine Zn.seg (pc2 := 65) (ls2 := [some (za (A 0)), some (zi x), some (zi (p : Int))]) (st2 := [za (A 0)]) [(64, .aload_n 0)] (by decide +kernel) rfl ?_
  refine Zn.get (ix := 12) hD 0 (by decide +kernel) rfl rfl rfl ?_
  refine Zn.seg (pc2 := 69) (ls2 := [some (za (A 0)), some (zi x), some (zi (p : Int))]) (st2 := [zi (p : Int), za (A 1)]) [(68, .iload_n 2)] (by decide +kernel) rfl ?_
  refine Zn.call (ins := .invokevirtual 100) [za (A 1), zi (p : Int)] [] (by decide +kernel) rfl rfl rfl ⟨rfl, rfl⟩ ⟨rfl, rfl, rfl⟩ rfl (zrecvV hD (p := 1) rfl rfl rfl) (sp_X4_isFixed (o := (A 1)) (ya := (A 2)) (qa := (A 3)) (th := th) (fx := fx ^^^ 2 ^ p) (d := d) (w := w) (p := p) (zov_get hD 1 rfl) (xor_lt hfx (pw_lt hp)) (by omega)) (fun v h2 hp => ?_)
  obtain ⟨rfl, hq_11⟩ := hp
  refine Zn.eq (pc2 := 72) (ls2 := [some (za (A 0)), some (zi x), some (zi (p : Int))]) (st2 := [zi (bt (fx ^^^ 2 ^ p) p : Int)]) (h2 := zov ([((A 0), .inr (7, [za (A 1), za (A 4), za (A 24), za (A 27), zi kt, za (A 47), za (A 49), za (A 52), za (A 63), za (A 68), za (A 72)])), ((A 1), .inr (4, [za (A 2), za (A 3), zi (th : Int), zi ((fx ^^^ 2 ^ p : Nat) : Int), zi (d : Int), zi (w : Int)])), ((A 2), .inl (0, 13, .inl Y)), ((A 3), .inl (0, 3, .inl Q)), ((A 52), .inr (0, [za (A 58), za (A 53), za (A 54), za (A 55), za (A 56), za (A 57), zi st, zi al, zi 0]))]) h) rfl rfl rfl hq_11 ?_
  have hD : zND ([((A 0), .inr (7, [za (A 1), za (A 4), za (A 24), za (A 27), zi kt, za (A 47), za (A 49), za (A 52), za (A 63), za (A 68), za (A 72)])), ((A 1), .inr (4, [za (A 2), za (A 3), zi (th : Int), zi ((fx ^^^ 2 ^ p : Nat) : Int), zi (d : Int), zi (w : Int)])), ((A 2), .inl (0, 13, .inl Y)), ((A 3), .inl (0, 3, .inl Q)), ((A 52), .inr (0, [za (A 58), za (A 53), za (A 54), za (A 55), za (A 56), za (A 57), zi st, zi al, zi 0]))]) := hD
  have q_12 := bt_lt (fx ^^^ 2 ^ p) p
  refine Zn.ifc (c := .eq) (off := 7) 79 (by decide +kernel) rfl ⟨by omega, by omega⟩ (fun c_13 => ?_) (fun c_13 => absurd (show (bt (fx ^^^ 2 ^ p) p : Int) = 0 from by omega) c_13)
  have c_13 : (bt (fx ^^^ 2 ^ p) p : Int) = 0 := c_13
  refine Zn.seg (pc2 := 80) (ls2 := [some (za (A 0)), some (zi x), some (zi (p : Int))]) (st2 := [zi 0]) [(79, .iconst 0)] (by decide +kernel) rfl ?_
  exact Zn.iret (by decide +kernel) rfl (⟨h, by first | rfl | (refine congrArg some (congrArg zi ?_); first | omega | (simp_all; done) | (simp_all; omega)), rfl, hP, hfr0⟩)
theorem sp_X7_degree_bad {h : xH} {A : Nat → Nat} {x : Int} (zx : zInI x) (hb : ¬ (0 ≤ x ∧ x ≤ 3)) : zEv k_X7_degree [za (A 0), zi x] h (fun v h2 => v = some (zi (-1)) ∧ h2 = h) := by
  have hD : ([] : List Nat).Nodup := List.nodup_nil
  have hh : h = zov [] h := zov_self (fun _ q => absurd q List.not_mem_nil)
  have zx1 := zx.1
  have zx2 := zx.2
  refine zEv.body (I := (7, xI_X7_degree, 3, 4, 88, 0, 0, false)) (rt := (some .int)) [some (za (A 0)), some (zi x), none] rfl rfl rfl rfl ?_
  refine Zn.eq rfl rfl rfl hh ?_
  have hD : zND ([]) := hD
  refine Zn.seg (pc2 := 1) (ls2 := [some (za (A 0)), some (zi x), none]) (st2 := [zi x]) [(0, .iload_n 1)] (by decide +kernel) rfl ?_
  refine Zn.ifc (c := .lt) (off := 8) 9 (by decide +kernel) rfl ⟨by omega, by omega⟩ (fun c_1 => ?_) (fun c_1 => ?_)
  · have c_1 : x < 0 := c_1
    refine Zn.seg (pc2 := 10) (ls2 := [some (za (A 0)), some (zi x), none]) (st2 := [zi (-1)]) [(9, .iconst (-1))] (by decide +kernel) rfl ?_
    exact Zn.iret (by decide +kernel) rfl (⟨by first | rfl | (refine congrArg some (congrArg zi ?_); first | omega | (simp_all; done) | (simp_all; omega)), hh.symm⟩)
  · have c_1 : ¬ (x < 0) := c_1
    refine Zn.seg (pc2 := 6) (ls2 := [some (za (A 0)), some (zi x), none]) (st2 := [zi 3, zi x]) [(4, .iload_n 1), (5, .iconst 3)] (by decide +kernel) rfl ?_
    refine Zn.icmp (c := .le) (off := 5) 11 (by decide +kernel) rfl ⟨by omega, by omega⟩ ⟨by decide, by decide⟩ (fun c_2 => absurd (show x ≤ 3 from c_2) (by omega)) (fun c_2 => ?_)
    have c_2 : ¬ (x ≤ 3) := c_2
    refine Zn.seg (pc2 := 10) (ls2 := [some (za (A 0)), some (zi x), none]) (st2 := [zi (-1)]) [(9, .iconst (-1))] (by decide +kernel) rfl ?_
    exact Zn.iret (by decide +kernel) rfl (⟨by first | rfl | (refine congrArg some (congrArg zi ?_); first | omega | (simp_all; done) | (simp_all; omega)), hh.symm⟩)
theorem sp_X7_degree_not {h : xH} {A : Nat → Nat} {kt : Int} {th fx d w : Nat} {Y Q : Nat → Int} {b : Nat} (hc0 : h (A 0) = zcE (.inr (7, [za (A 1), za (A 4), za (A 24), za (A 27), zi kt, za (A 47), za (A 49), za (A 52), za (A 63), za (A 68), za (A 72)]))) (hc1 : h (A 1) = zcE (.inr (4, [za (A 2), za (A 3), zi (th : Int), zi (fx : Int), zi (d : Int), zi (w : Int)]))) (hc2 : h (A 2) = zcE (.inl (0, 13, .inl Y))) (hc3 : h (A 3) = zcE (.inl (0, 3, .inl Q))) (hD : [(A 0), (A 1), (A 2), (A 3)].Nodup) (hb : b ≤ 3) (hfx : fx < 8192) (hd : d ≤ 3) (h1 : b = d ∨ b < pop fx) : zEv k_X7_degree [za (A 0), zi (b : Int)] h (fun v h2 => v = some (zi (-2)) ∧ h2 = h) := by
  have hh : h = zov [((A 0), .inr (7, [za (A 1), za (A 4), za (A 24), za (A 27), zi kt, za (A 47), za (A 49), za (A 52), za (A 63), za (A 68), za (A 72)])), ((A 1), .inr (4, [za (A 2), za (A 3), zi (th : Int), zi (fx : Int), zi (d : Int), zi (w : Int)])), ((A 2), .inl (0, 13, .inl Y)), ((A 3), .inl (0, 3, .inl Q))] h := zov_self (List.forall_mem_cons.mpr ⟨hc0, List.forall_mem_cons.mpr ⟨hc1, List.forall_mem_cons.mpr ⟨hc2, List.forall_mem_cons.mpr ⟨hc3, fun _ q => absurd q List.not_mem_nil⟩⟩⟩⟩)
  have hpf := pop_le fx
  refine zEv.body (I := (7, xI_X7_degree, 3, 4, 88, 0, 0, false)) (rt := (some .int)) [some (za (A 0)), some (zi (b : Int)), none] rfl rfl rfl rfl ?_
  refine Zn.eq rfl rfl rfl hh ?_
  have hD : zND ([((A 0), .inr (7, [za (A 1), za (A 4), za (A 24), za (A 27), zi kt, za (A 47), za (A 49), za (A 52), za (A 63), za (A 68), za (A 72)])), ((A 1), .inr (4, [za (A 2), za (A 3), zi (th : Int), zi (fx : Int), zi (d : Int), zi (w : Int)])), ((A 2), .inl (0, 13, .inl Y)), ((A 3), .inl (0, 3, .inl Q))]) := hD
  refine Zn.seg (pc2 := 1) (ls2 := [some (za (A 0)), some (zi (b : Int)), none]) (st2 := [zi (b : Int)]) [(0, .iload_n 1)] (by decide +kernel) rfl ?_
  refine Zn.ifc (c := .lt) (off := 8) 9 (by decide +kernel) rfl ⟨by omega, by omega⟩ (fun c_1 => absurd (show (b : Int) < 0 from c_1) (by omega)) (fun c_1 => ?_)
  have c_1 : ¬ ((b : Int) < 0) := c_1
  refine Zn.seg (pc2 := 6) (ls2 := [some (za (A 0)), some (zi (b : Int)), none]) (st2 := [zi 3, zi (b : Int)]) [(4, .iload_n 1), (5, .iconst 3)] (by decide +kernel) rfl ?_
  refine Zn.icmp (c := .le) (off := 5) 11 (by decide +kernel) rfl ⟨by omega, by omega⟩ ⟨by decide, by decide⟩ (fun c_2 => ?_) (fun c_2 => absurd (show (b : Int) ≤ 3 from by omega) c_2)
  have c_2 : (b : Int) ≤ 3 := c_2
  refine Zn.seg (pc2 := 13) (ls2 := [some (za (A 0)), some (zi (b : Int)), none]) (st2 := [za (A 0), zi (b : Int)]) [(11, .iload_n 1), (12, .aload_n 0)] (by decide +kernel) rfl ?_
  refine Zn.get (ix := 12) hD 0 (by decide +kernel) rfl rfl rfl ?_
  refine Zn.get (ix := 110) hD 1 (by decide +kernel) rfl rfl rfl ?_
  refine Zn.icmp (c := .eq) (off := 17) 36 (by decide +kernel) rfl ⟨by omega, by omega⟩ ⟨by omega, by omega⟩ (fun c_3 => ?_) (fun c_3 => ?_)
  · have c_3 : (b : Int) = (d : Int) := c_3
    refine Zn.seg (pc2 := 38) (ls2 := [some (za (A 0)), some (zi (b : Int)), none]) (st2 := [zi (-2)]) [(36, .bipush (-2))] (by decide +kernel) rfl ?_
    exact Zn.iret (by decide +kernel) rfl (⟨by first | rfl | (refine congrArg some (congrArg zi ?_); first | omega | (simp_all; done) | (simp_all; omega)), hh.symm⟩)
  · have c_3 : ¬ ((b : Int) = (d : Int)) := c_3
    refine Zn.seg (pc2 := 23) (ls2 := [some (za (A 0)), some (zi (b : Int)), none]) (st2 := [za (A 0)]) [(22, .aload_n 0)] (by decide +kernel) rfl ?_
    refine Zn.get (ix := 12) hD 0 (by decide +kernel) rfl rfl rfl ?_
    refine Zn.get (ix := 114) hD 1 (by decide +kernel) rfl rfl rfl ?_
    refine Zn.call (ins := .invokestatic 117) [zi (fx : Int)] [] (by decide +kernel) rfl rfl rfl ⟨rfl, rfl⟩ ⟨rfl, rfl, rfl⟩ rfl (zrecvS (by decide)) (sp_J6_bitCount_0f7a4 (n := fx) (hfx)) (fun v h2 hp => ?_)
    obtain ⟨rfl, hq_4⟩ := hp
    refine Zn.eq (pc2 := 32) (ls2 := [some (za (A 0)), some (zi (b : Int)), none]) (st2 := [zi (pop fx : Int)]) (h2 := zov ([((A 0), .inr (7, [za (A 1), za (A 4), za (A 24), za (A 27), zi kt, za (A 47), za (A 49), za (A 52), za (A 63), za (A 68), za (A 72)])), ((A 1), .inr (4, [za (A 2), za (A 3), zi (th : Int), zi (fx : Int), zi (d : Int), zi (w : Int)])), ((A 2), .inl (0, 13, .inl Y)), ((A 3), .inl (0, 3, .inl Q))]) h) rfl rfl rfl hq_4 ?_
    have hD : zND ([((A 0), .inr (7, [za (A 1), za (A 4), za (A 24), za (A 27), zi kt, za (A 47), za (A 49), za (A 52), za (A 63), za (A 68), za (A 72)])), ((A 1), .inr (4, [za (A 2), za (A 3), zi (th : Int), zi (fx : Int), zi (d : Int), zi (w : Int)])), ((A 2), .inl (0, 13, .inl Y)), ((A 3), .inl (0, 3, .inl Q))]) := hD
    have q_5 := pop_le fx
    refine Zn.seg (pc2 := 33) (ls2 := [some (za (A 0)), some (zi (b : Int)), none]) (st2 := [zi (b : Int), zi (pop fx : Int)]) [(32, .iload_n 1)] (by decide +kernel) rfl ?_
    refine Zn.icmp (c := .le) (off := 6) 39 (by decide +kernel) rfl ⟨by omega, by omega⟩ ⟨by omega, by omega⟩ (fun c_6 => absurd (show (pop fx : Int) ≤ (b : Int) from c_6) (by omega)) (fun c_6 => ?_)
    have c_6 : ¬ ((pop fx : Int) ≤ (b : Int)) := c_6
    refine Zn.seg (pc2 := 38) (ls2 := [some (za (A 0)), some (zi (b : Int)), none]) (st2 := [zi (-2)]) [(36, .bipush (-2))] (by decide +kernel) rfl ?_
    exact Zn.iret (by decide +kernel) rfl (⟨by first | rfl | (refine congrArg some (congrArg zi ?_); first | omega | (simp_all; done) | (simp_all; omega)), hh.symm⟩)
theorem sp_X7_degree_ok {h : xH} {A : Nat → Nat} {kt st al sv : Int} {th fx d w : Nat} {Y Q : Nat → Int} {s k : Nat} {H : Nat → sn} {b : Nat} (hc0 : h (A 0) = zcE (.inr (7, [za (A 1), za (A 4), za (A 24), za (A 27), zi kt, za (A 47), za (A 49), za (A 52), za (A 63), za (A 68), za (A 72)]))) (hc1 : h (A 1) = zcE (.inr (4, [za (A 2), za (A 3), zi (th : Int), zi (fx : Int), zi (d : Int), zi (w : Int)]))) (hc2 : h (A 2) = zcE (.inl (0, 13, .inl Y))) (hc3 : h (A 3) = zcE (.inl (0, 3, .inl Q))) (hc4 : h (A 52) = zcE (.inr (0, [za (A 58), za (A 53), za (A 54), za (A 55), za (A 56), za (A 57), zi st, zi al, zi sv]))) (hD : [(A 0), (A 1), (A 2), (A 3), (A 52)].Nodup) (hA : AI A) (hs : s < 6) (hk : k ≤ 6) (hP : PBk h A 4 s k H) (hb : b ≤ 3) (hfx : fx < 8192) (hd : d ≤ 3) (h1 : b ≠ d ∧ pop fx ≤ b) : zEv k_X7_degree [za (A 0), zi (b : Int)] h (fun v h2 => ∃ hb : xH, v = some (zi (d : Int)) ∧ h2 = zov [((A 0), .inr (7, [za (A 1), za (A 4), za (A 24), za (A 27), zi kt, za (A 47), za (A 49), za (A 52), za (A 63), za (A 68), za (A 72)])), ((A 1), .inr (4, [za (A 2), za (A 3), zi (th : Int), zi (fx : Int), zi (b : Int), zi (w : Int)])), ((A 2), .inl (0, 13, .inl Y)), ((A 3), .inl (0, 3, .inl Q)), ((A 52), .inr (0, [za (A 58), za (A 53), za (A 54), za (A 55), za (A 56), za (A 57), zi st, zi al, zi 0]))] hb ∧ PBk hb A 4 (nwS k s) (kpN k) (nwH k H (th, fx, d, w, Y, Q)) ∧ ∀ a, (∀ i, i < 24 → a ≠ A i) → a ≠ A 52 → hb a = h a) := by
  have hh : h = zov [((A 0), .inr (7, [za (A 1), za (A 4), za (A 24), za (A 27), zi kt, za (A 47), za (A 49), za (A 52), za (A 63), za (A 68), za (A 72)])), ((A 1), .inr (4, [za (A 2), za (A 3), zi (th : Int), zi (fx : Int), zi (d : Int), zi (w : Int)])), ((A 2), .inl (0, 13, .inl Y)), ((A 3), .inl (0, 3, .inl Q)), ((A 52), .inr (0, [za (A 58), za (A 53), za (A 54), za (A 55), za (A 56), za (A 57), zi st, zi al, zi sv]))] h := zov_self (List.forall_mem_cons.mpr ⟨hc0, List.forall_mem_cons.mpr ⟨hc1, List.forall_mem_cons.mpr ⟨hc2, List.forall_mem_cons.mpr ⟨hc3, List.forall_mem_cons.mpr ⟨hc4, fun _ q => absurd q List.not_mem_nil⟩⟩⟩⟩⟩)
  have hpf := pop_le fx
  have hfr0 : ∀ a, (∀ i, i < 24 → a ≠ A i) → a ≠ A 52 → h a = h a := fun _ _ _ => rfl
  refine zEv.body (I := (7, xI_X7_degree, 3, 4, 88, 0, 0, false)) (rt := (some .int)) [some (za (A 0)), some (zi (b : Int)), none] rfl rfl rfl rfl ?_
  refine Zn.eq rfl rfl rfl hh ?_
  have hD : zND ([((A 0), .inr (7, [za (A 1), za (A 4), za (A 24), za (A 27), zi kt, za (A 47), za (A 49), za (A 52), za (A 63), za (A 68), za (A 72)])), ((A 1), .inr (4, [za (A 2), za (A 3), zi (th : Int), zi (fx : Int), zi (d : Int), zi (w : Int)])), ((A 2), .inl (0, 13, .inl Y)), ((A 3), .inl (0, 3, .inl Q)), ((A 52), .inr (0, [za (A 58), za (A 53), za (A 54), za (A 55), za (A 56), za (A 57), zi st, zi al, zi sv]))]) := hD
  refine Zn.seg (pc2 := 1) (ls2 := [some (za (A 0)), some (zi (b : Int)), none]) (st2 := [zi (b : Int)]) [(0, .iload_n 1)] (by decide +kernel) rfl ?_
  refine Zn.ifc (c := .lt) (off := 8) 9 (by decide +kernel) rfl ⟨by omega, by omega⟩ (fun c_1 => absurd (show (b : Int) < 0 from c_1) (by omega)) (fun c_1 => ?_)
  have c_1 : ¬ ((b : Int) < 0) := c_1
  refine Zn.seg (pc2 := 6) (ls2 := [some (za (A 0)), some (zi (b : Int)), none]) (st2 := [zi 3, zi (b : Int)]) [(4, .iload_n 1), (5, .iconst 3)] (by decide +kernel) rfl ?_
  refine Zn.icmp (c := .le) (off := 5) 11 (by decide +kernel) rfl ⟨by omega, by omega⟩ ⟨by decide, by decide⟩ (fun c_2 => ?_) (fun c_2 => absurd (show (b : Int) ≤ 3 from by omega) c_2)
  have c_2 : (b : Int) ≤ 3 := c_2
  refine Zn.seg (pc2 := 13) (ls2 := [some (za (A 0)), some (zi (b : Int)), none]) (st2 := [za (A 0), zi (b : Int)]) [(11, .iload_n 1), (12, .aload_n 0)] (by decide +kernel) rfl ?_
  refine Zn.get (ix := 12) hD 0 (by decide +kernel) rfl rfl rfl ?_
  refine Zn.get (ix := 110) hD 1 (by decide +kernel) rfl rfl rfl ?_
  refine Zn.icmp (c := .eq) (off := 17) 36 (by decide +kernel) rfl ⟨by omega, by omega⟩ ⟨by omega, by omega⟩ (fun c_3 => absurd (show (b : Int) = (d : Int) from c_3) (by omega)) (fun c_3 => ?_)
  have c_3 : ¬ ((b : Int) = (d : Int)) := c_3
  refine Zn.seg (pc2 := 23) (ls2 := [some (za (A 0)), some (zi (b : Int)), none]) (st2 := [za (A 0)]) [(22, .aload_n 0)] (by decide +kernel) rfl ?_
  refine Zn.get (ix := 12) hD 0 (by decide +kernel) rfl rfl rfl ?_
  refine Zn.get (ix := 114) hD 1 (by decide +kernel) rfl rfl rfl ?_
  refine Zn.call (ins := .invokestatic 117) [zi (fx : Int)] [] (by decide +kernel) rfl rfl rfl ⟨rfl, rfl⟩ ⟨rfl, rfl, rfl⟩ rfl (zrecvS (by decide)) (sp_J6_bitCount_0f7a4 (n := fx) (hfx)) (fun v h2 hp => ?_)
  obtain ⟨rfl, hq_4⟩ := hp
  refine Zn.eq (pc2 := 32) (ls2 := [some (za (A 0)), some (zi (b : Int)), none]) (st2 := [zi (pop fx : Int)]) (h2 := zov ([((A 0), .inr (7, [za (A 1), za (A 4), za (A 24), za (A 27), zi kt, za (A 47), za (A 49), za (A 52), za (A 63), za (A 68), za (A 72)])), ((A 1), .inr (4, [za (A 2), za (A 3), zi (th : Int), zi (fx : Int), zi (d : Int), zi (w : Int)])), ((A 2), .inl (0, 13, .inl Y)), ((A 3), .inl (0, 3, .inl Q)), ((A 52), .inr (0, [za (A 58), za (A 53), za (A 54), za (A 55), za (A 56), za (A 57), zi st, zi al, zi sv]))]) h) rfl rfl rfl hq_4 ?_
  have hD : zND ([((A 0), .inr (7, [za (A 1), za (A 4), za (A 24), za (A 27), zi kt, za (A 47), za (A 49), za (A 52), za (A 63), za (A 68), za (A 72)])), ((A 1), .inr (4, [za (A 2), za (A 3), zi (th : Int), zi (fx : Int), zi (d : Int), zi (w : Int)])), ((A 2), .inl (0, 13, .inl Y)), ((A 3), .inl (0, 3, .inl Q)), ((A 52), .inr (0, [za (A 58), za (A 53), za (A 54), za (A 55), za (A 56), za (A 57), zi st, zi al, zi sv]))]) := hD
  have q_5 := pop_le fx
  refine Zn.seg (pc2 := 33) (ls2 := [some (za (A 0)), some (zi (b : Int)), none]) (st2 := [zi (b : Int), zi (pop fx : Int)]) [(32, .iload_n 1)] (by decide +kernel) rfl ?_
  refine Zn.icmp (c := .le) (off := 6) 39 (by decide +kernel) rfl ⟨by omega, by omega⟩ ⟨by omega, by omega⟩ (fun c_6 => ?_) (fun c_6 => absurd (show (pop fx : Int) ≤ (b : Int) from by omega) c_6)
  have c_6 : (pop fx : Int) ≤ (b : Int) := c_6
  refine Zn.seg (pc2 := 40) (ls2 := [some (za (A 0)), some (zi (b : Int)), none]) (st2 := [za (A 0)]) [(39, .aload_n 0)] (by decide +kernel) rfl ?_
  refine Zn.call (ins := .invokevirtual 89) [za (A 0)] [] (by decide +kernel) rfl rfl rfl ⟨rfl, rfl⟩ ⟨rfl, rfl, rfl⟩ rfl (zrecvV hD (p := 0) rfl rfl rfl) (sp_X7_rem (kt := kt) (st := st) (al := al) (sv := sv) (th := th) (fx := fx) (d := d) (w := w) (Y := Y) (Q := Q) (s := s) (k := k) (H := H) (zov_get hD 0 rfl) (zov_get hD 1 rfl) (zov_get hD 2 rfl) (zov_get hD 3 rfl) (zov_get hD 4 rfl) (nd_sub hD [0, 1, 2, 3, 4] rfl rfl) (hA) (hs) (hk) (by exact PBk_cg hP (fun i h1_ h2_ => A_out hA (i := i) [0, 1, 2, 3, 52] rfl (by simp only [List.mem_cons, List.not_mem_nil, or_false]; omega) (by omega) (by simp only [List.mem_cons, List.not_mem_nil, or_false, not_or]; omega)))) (fun v h2 hp => ?_)
  obtain ⟨h, rfl, hq_, hP, hfr_⟩ := hp
  have hfr0 : ∀ a, (∀ i, i < 24 → a ≠ A i) → a ≠ A 52 → h a = _ := fun a q1 q2 => (hfr_ a (fun j hj => q1 (4 + j) (by omega))).trans ((zov_out (by simp only [List.map_cons, List.map_nil, List.mem_cons, List.not_mem_nil, or_false, not_or]; exact ⟨q1 0 (by decide), q1 1 (by decide), q1 2 (by decide), q1 3 (by decide), q2⟩)).trans (hfr0 a q1 q2))
  refine Zn.eq (pc2 := 43) (ls2 := [some (za (A 0)), some (zi (b : Int)), none]) (st2 := []) (h2 := zov ([((A 0), .inr (7, [za (A 1), za (A 4), za (A 24), za (A 27), zi kt, za (A 47), za (A 49), za (A 52), za (A 63), za (A 68), za (A 72)])), ((A 1), .inr (4, [za (A 2), za (A 3), zi (th : Int), zi (fx : Int), zi (d : Int), zi (w : Int)])), ((A 2), .inl (0, 13, .inl Y)), ((A 3), .inl (0, 3, .inl Q)), ((A 52), .inr (0, [za (A 58), za (A 53), za (A 54), za (A 55), za (A 56), za (A 57), zi st, zi al, zi 0]))]) h) rfl rfl rfl hq_ ?_
  have hD : zND ([((A 0), .inr (7, [za (A 1), za (A 4), za (A 24), za (A 27), zi kt, za (A 47), za (A 49), za (A 52), za (A 63), za (A 68), za (A 72)])), ((A 1), .inr (4, [za (A 2), za (A 3), zi (th : Int), zi (fx : Int), zi (d : Int), zi (w : Int)])), ((A 2), .inl (0, 13, .inl Y)), ((A 3), .inl (0, 3, .inl Q)), ((A 52), .inr (0, [za (A 58), za (A 53), za (A 54), za (A 55), za (A 56), za (A 57), zi st, zi al, zi 0]))]) := hD
  have hD : zND ([((A 0), .inr (7, [za (A 1), za (A 4), za (A 24), za (A 27), zi kt, za (A 47), za (A 49), za (A 52), za (A 63), za (A 68), za (A 72)])), ((A 1), .inr (4, [za (A 2), za (A 3), zi (th : Int), zi (fx : Int), zi (d : Int), zi (w : Int)])), ((A 2), .inl (0, 13, .inl Y)), ((A 3), .inl (0, 3, .inl Q)), ((A 52), .inr (0, [za (A 58), za (A 53), za (A 54), za (A 55), za (A 56), za (A 57), zi st, zi al, zi 0]))]) := hD
  refine Zn.seg (pc2 := 44) (ls2 := [some (za (A 0)), some (zi (b : Int)), none]) (st2 := [za (A 0)]) [(43, .aload_n 0)] (by decide +kernel) rfl ?_
  refine Zn.get (ix := 12) hD 0 (by decide +kernel) rfl rfl rfl ?_
  refine Zn.get (ix := 110) hD 1 (by decide +kernel) rfl rfl rfl ?_
  refine Zn.seg (pc2 := 52) (ls2 := [some (za (A 0)), some (zi (b : Int)), some (zi (d : Int))]) (st2 := [za (A 0)]) [(50, .istore_n 2), (51, .aload_n 0)] (by decide +kernel) rfl ?_
  refine Zn.get (ix := 12) hD 0 (by decide +kernel) rfl rfl rfl ?_
  refine Zn.seg (pc2 := 56) (ls2 := [some (za (A 0)), some (zi (b : Int)), some (zi (d : Int))]) (st2 := [zi (b : Int), za (A 1)]) [(55, .iload_n 1)] (by decide +kernel) rfl ?_
  refine Zn.put (ix := 110) hD 1 (by decide +kernel) rfl rfl rfl rfl rfl ?_
  refine Zn.eq (h2 := zov ([((A 0), .inr (7, [za (A 1), za (A 4), za (A 24), za (A 27), zi kt, za (A 47), za (A 49), za (A 52), za (A 63), za (A 68), za (A 72)])), ((A 1), .inr (4, [za (A 2), za (A 3), zi (th : Int), zi (fx : Int), zi (b : Int), zi (w : Int)])), ((A 2), .inl (0, 13, .inl Y)), ((A 3), .inl (0, 3, .inl Q)), ((A 52), .inr (0, [za (A 58), za (A 53), za (A 54), za (A 55), za (A 56), za (A 57), zi st, zi al, zi 0]))]) h) rfl rfl rfl rfl ?_
  have hD : zND ([((A 0), .inr (7, [za (A 1), za (A 4), za (A 24), za (A 27), zi kt, za (A 47), za (A 49), za (A 52), za (A 63), za (A 68), za (A 72)])), ((A 1), .inr (4, [za (A 2), za (A 3), zi (th : Int), zi (fx : Int), zi (b : Int), zi (w : Int)])), ((A 2), .inl (0, 13, .inl Y)), ((A 3), .inl (0, 3, .inl Q)), ((A 52), .inr (0, [za (A 58), za (A 53), za (A 54), za (A 55), za (A 56), za (A 57), zi st, zi al, zi 0]))]) := hD
  refine Zn.seg (pc2 := 60) (ls2 := [some (za (A 0)), some (zi (b : Int)), some (zi (d : Int))]) (st2 := [zi (d : Int)]) [(59, .iload_n 2)] (by decide +kernel) rfl ?_
  exact Zn.iret (by decide +kernel) rfl (⟨h, by first | rfl | (refine congrArg some (congrArg zi ?_); first | omega | (simp_all; done) | (simp_all; omega)), rfl, hP, hfr0⟩)
theorem sp_X7_under_bad {h : xH} {A : Nat → Nat} {x y : Int} (zx : zInI x) (zy : zInI y) (hb : ¬ (0 ≤ x ∧ x ≤ 2) ∨ ¬ (-3 ≤ y ∧ y ≤ 3)) : zEv k_X7_under [za (A 0), zi x, zi y] h (fun v h2 => v = some (zi (-1)) ∧ h2 = h) := by
  have hD : ([] : List Nat).Nodup := List.nodup_nil
  have hh : h = zov [] h := zov_self (fun _ q => absurd q List.not_mem_nil)
  have zx1 := zx.1
  have zx2 := zx.2
  have zy1 := zy.1
  have zy2 := zy.2
  refine zEv.body (I := (7, xI_X7_under, 4, 4, 88, 0, 0, false)) (rt := (some .int)) [some (za (A 0)), some (zi x), some (zi y), none] rfl rfl rfl rfl ?_
  refine Zn.eq rfl rfl rfl hh ?_
  have hD : zND ([]) := hD
  refine Zn.seg (pc2 := 1) (ls2 := [some (za (A 0)), some (zi x), some (zi y), none]) (st2 := [zi x]) [(0, .iload_n 1)] (by decide +kernel) rfl ?_
  refine Zn.ifc (c := .lt) (off := 15) 16 (by decide +kernel) rfl ⟨by omega, by omega⟩ (fun c_1 => ?_) (fun c_1 => ?_)
  · have c_1 : x < 0 := c_1
    refine Zn.seg (pc2 := 17) (ls2 := [some (za (A 0)), some (zi x), some (zi y), none]) (st2 := [zi (-1)]) [(16, .iconst (-1))] (by decide +kernel) rfl ?_
    exact Zn.iret (by decide +kernel) rfl (⟨by first | rfl | (refine congrArg some (congrArg zi ?_); first | omega | (simp_all; done) | (simp_all; omega)), hh.symm⟩)
  · have c_1 : ¬ (x < 0) := c_1
    refine Zn.seg (pc2 := 6) (ls2 := [some (za (A 0)), some (zi x), some (zi y), none]) (st2 := [zi 3, zi x]) [(4, .iload_n 1), (5, .iconst 3)] (by decide +kernel) rfl ?_
    refine Zn.icmp (c := .ge) (off := 10) 16 (by decide +kernel) rfl ⟨by omega, by omega⟩ ⟨by decide, by decide⟩ (fun c_2 => ?_) (fun c_2 => ?_)
    · have c_2 : 3 ≤ x := c_2
      refine Zn.seg (pc2 := 17) (ls2 := [some (za (A 0)), some (zi x), some (zi y), none]) (st2 := [zi (-1)]) [(16, .iconst (-1))] (by decide +kernel) rfl ?_
      exact Zn.iret (by decide +kernel) rfl (⟨by first | rfl | (refine congrArg some (congrArg zi ?_); first | omega | (simp_all; done) | (simp_all; omega)), hh.symm⟩)
    · have c_2 : ¬ (3 ≤ x) := c_2
      refine Zn.seg (pc2 := 10) (ls2 := [some (za (A 0)), some (zi x), some (zi y), none]) (st2 := [zi y]) [(9, .iload_n 2)] (by decide +kernel) rfl ?_
      refine Zn.call (ins := .invokestatic 122) [zi y] [] (by decide +kernel) rfl rfl rfl ⟨rfl, rfl⟩ ⟨rfl, rfl, rfl⟩ rfl (zrecvS (by decide)) (sp_X7_isQ (x := y) (by first | assumption | exact ⟨by omega, by omega⟩)) (fun v h2 hp => ?_)
      obtain ⟨rfl, hq_3⟩ := hp
      refine Zn.eq (pc2 := 13) (ls2 := [some (za (A 0)), some (zi x), some (zi y), none]) (st2 := [zi (inB (-3) 3 y)]) (h2 := zov ([]) h) rfl rfl rfl hq_3 ?_
      have hD : zND ([]) := hD
      have q_4 := inB_spec (-3) 3 y
      refine Zn.ifc (c := .ne) (off := 5) 18 (by decide +kernel) rfl ⟨by omega, by omega⟩ (fun c_5 => absurd (show inB (-3) 3 y ≠ 0 from c_5) (by omega)) (fun c_5 => ?_)
      have c_5 : ¬ (inB (-3) 3 y ≠ 0) := c_5
      refine Zn.seg (pc2 := 17) (ls2 := [some (za (A 0)), some (zi x), some (zi y), none]) (st2 := [zi (-1)]) [(16, .iconst (-1))] (by decide +kernel) rfl ?_
      exact Zn.iret (by decide +kernel) rfl (⟨by first | rfl | (refine congrArg some (congrArg zi ?_); first | omega | (simp_all; done) | (simp_all; omega)), hh.symm⟩)
theorem sp_X7_under_not {h : xH} {A : Nat → Nat} {kt : Int} {th fx d w : Nat} {Y Q : Nat → Int} {j : Nat} {y : Int} (hc0 : h (A 0) = zcE (.inr (7, [za (A 1), za (A 4), za (A 24), za (A 27), zi kt, za (A 47), za (A 49), za (A 52), za (A 63), za (A 68), za (A 72)]))) (hc1 : h (A 1) = zcE (.inr (4, [za (A 2), za (A 3), zi (th : Int), zi (fx : Int), zi (d : Int), zi (w : Int)]))) (hc2 : h (A 2) = zcE (.inl (0, 13, .inl Y))) (hc3 : h (A 3) = zcE (.inl (0, 3, .inl Q))) (hD : [(A 0), (A 1), (A 2), (A 3)].Nodup) (hj : j < 3) (hyr : -3 ≤ y ∧ y ≤ 3) (hq : -3 ≤ Q j ∧ Q j ≤ 3) (h1 : Q j = y) : zEv k_X7_under [za (A 0), zi (j : Int), zi y] h (fun v h2 => v = some (zi (-2)) ∧ h2 = h) := by
  have hh : h = zov [((A 0), .inr (7, [za (A 1), za (A 4), za (A 24), za (A 27), zi kt, za (A 47), za (A 49), za (A 52), za (A 63), za (A 68), za (A 72)])), ((A 1), .inr (4, [za (A 2), za (A 3), zi (th : Int), zi (fx : Int), zi (d : Int), zi (w : Int)])), ((A 2), .inl (0, 13, .inl Y)), ((A 3), .inl (0, 3, .inl Q))] h := zov_self (List.forall_mem_cons.mpr ⟨hc0, List.forall_mem_cons.mpr ⟨hc1, List.forall_mem_cons.mpr ⟨hc2, List.forall_mem_cons.mpr ⟨hc3, fun _ q => absurd q List.not_mem_nil⟩⟩⟩⟩)
  refine zEv.body (I := (7, xI_X7_under, 4, 4, 88, 0, 0, false)) (rt := (some .int)) [some (za (A 0)), some (zi (j : Int)), some (zi y), none] rfl rfl rfl rfl ?_
  refine Zn.eq rfl rfl rfl hh ?_
  have hD : zND ([((A 0), .inr (7, [za (A 1), za (A 4), za (A 24), za (A 27), zi kt, za (A 47), za (A 49), za (A 52), za (A 63), za (A 68), za (A 72)])), ((A 1), .inr (4, [za (A 2), za (A 3), zi (th : Int), zi (fx : Int), zi (d : Int), zi (w : Int)])), ((A 2), .inl (0, 13, .inl Y)), ((A 3), .inl (0, 3, .inl Q))]) := hD
  refine Zn.seg (pc2 := 1) (ls2 := [some (za (A 0)), some (zi (j : Int)), some (zi y), none]) (st2 := [zi (j : Int)]) [(0, .iload_n 1)] (by decide +kernel) rfl ?_
  refine Zn.ifc (c := .lt) (off := 15) 16 (by decide +kernel) rfl ⟨by omega, by omega⟩ (fun c_1 => absurd (show (j : Int) < 0 from c_1) (by omega)) (fun c_1 => ?_)
  have c_1 : ¬ ((j : Int) < 0) := c_1
  refine Zn.seg (pc2 := 6) (ls2 := [some (za (A 0)), some (zi (j : Int)), some (zi y), none]) (st2 := [zi 3, zi (j : Int)]) [(4, .iload_n 1), (5, .iconst 3)] (by decide +kernel) rfl ?_
  refine Zn.icmp (c := .ge) (off := 10) 16 (by decide +kernel) rfl ⟨by omega, by omega⟩ ⟨by decide, by decide⟩ (fun c_2 => absurd (show 3 ≤ (j : Int) from c_2) (by omega)) (fun c_2 => ?_)
  have c_2 : ¬ (3 ≤ (j : Int)) := c_2
  refine Zn.seg (pc2 := 10) (ls2 := [some (za (A 0)), some (zi (j : Int)), some (zi y), none]) (st2 := [zi y]) [(9, .iload_n 2)] (by decide +kernel) rfl ?_
  refine Zn.call (ins := .invokestatic 122) [zi y] [] (by decide +kernel) rfl rfl rfl ⟨rfl, rfl⟩ ⟨rfl, rfl, rfl⟩ rfl (zrecvS (by decide)) (sp_X7_isQ (x := y) (by first | assumption | exact ⟨by omega, by omega⟩)) (fun v h2 hp => ?_)
  obtain ⟨rfl, hq_3⟩ := hp
  refine Zn.eq (pc2 := 13) (ls2 := [some (za (A 0)), some (zi (j : Int)), some (zi y), none]) (st2 := [zi (inB (-3) 3 y)]) (h2 := zov ([((A 0), .inr (7, [za (A 1), za (A 4), za (A 24), za (A 27), zi kt, za (A 47), za (A 49), za (A 52), za (A 63), za (A 68), za (A 72)])), ((A 1), .inr (4, [za (A 2), za (A 3), zi (th : Int), zi (fx : Int), zi (d : Int), zi (w : Int)])), ((A 2), .inl (0, 13, .inl Y)), ((A 3), .inl (0, 3, .inl Q))]) h) rfl rfl rfl hq_3 ?_
  have hD : zND ([((A 0), .inr (7, [za (A 1), za (A 4), za (A 24), za (A 27), zi kt, za (A 47), za (A 49), za (A 52), za (A 63), za (A 68), za (A 72)])), ((A 1), .inr (4, [za (A 2), za (A 3), zi (th : Int), zi (fx : Int), zi (d : Int), zi (w : Int)])), ((A 2), .inl (0, 13, .inl Y)), ((A 3), .inl (0, 3, .inl Q))]) := hD
  have q_4 := inB_spec (-3) 3 y
  refine Zn.ifc (c := .ne) (off := 5) 18 (by decide +kernel) rfl ⟨by omega, by omega⟩ (fun c_5 => ?_) (fun c_5 => absurd (show inB (-3) 3 y ≠ 0 from by omega) c_5)
  have c_5 : inB (-3) 3 y ≠ 0 := c_5
  refine Zn.seg (pc2 := 19) (ls2 := [some (za (A 0)), some (zi (j : Int)), some (zi y), none]) (st2 := [za (A 0)]) [(18, .aload_n 0)] (by decide +kernel) rfl ?_
  refine Zn.get (ix := 12) hD 0 (by decide +kernel) rfl rfl rfl ?_
  refine Zn.get (ix := 125) hD 1 (by decide +kernel) rfl rfl rfl ?_
  refine Zn.seg (pc2 := 26) (ls2 := [some (za (A 0)), some (zi (j : Int)), some (zi y), none]) (st2 := [zi (j : Int), za (A 3)]) [(25, .iload_n 1)] (by decide +kernel) rfl ?_
  refine Zn.iald hD 3 (j) (by decide +kernel) rfl (by omega) (by omega) rfl ?_
  refine Zn.seg (pc2 := 30) (ls2 := [some (za (A 0)), some (zi (j : Int)), some (zi y), some (zi (Q j))]) (st2 := [zi y, zi (Q j)]) [(27, .istore_n 3), (28, .iload_n 3), (29, .iload_n 2)] (by decide +kernel) rfl ?_
  refine Zn.icmp (c := .ne) (off := 6) 36 (by decide +kernel) rfl ⟨by omega, by omega⟩ ⟨by omega, by omega⟩ (fun c_6 => absurd (show Q j ≠ y from c_6) (by omega)) (fun c_6 => ?_)
  have c_6 : ¬ (Q j ≠ y) := c_6
  refine Zn.seg (pc2 := 35) (ls2 := [some (za (A 0)), some (zi (j : Int)), some (zi y), some (zi (Q j))]) (st2 := [zi (-2)]) [(33, .bipush (-2))] (by decide +kernel) rfl ?_
  exact Zn.iret (by decide +kernel) rfl (⟨by first | rfl | (refine congrArg some (congrArg zi ?_); first | omega | (simp_all; done) | (simp_all; omega)), hh.symm⟩)
theorem sp_X7_under_ok {h : xH} {A : Nat → Nat} {kt st al sv : Int} {th fx d w : Nat} {Y Q : Nat → Int} {s k : Nat} {H : Nat → sn} {j : Nat} {y : Int} (hc0 : h (A 0) = zcE (.inr (7, [za (A 1), za (A 4), za (A 24), za (A 27), zi kt, za (A 47), za (A 49), za (A 52), za (A 63), za (A 68), za (A 72)]))) (hc1 : h (A 1) = zcE (.inr (4, [za (A 2), za (A 3), zi (th : Int), zi (fx : Int), zi (d : Int), zi (w : Int)]))) (hc2 : h (A 2) = zcE (.inl (0, 13, .inl Y))) (hc3 : h (A 3) = zcE (.inl (0, 3, .inl Q))) (hc4 : h (A 52) = zcE (.inr (0, [za (A 58), za (A 53), za (A 54), za (A 55), za (A 56), za (A 57), zi st, zi al, zi sv]))) (hD : [(A 0), (A 1), (A 2), (A 3), (A 52)].Nodup) (hA : AI A) (hs : s < 6) (hk : k ≤ 6) (hP : PBk h A 4 s k H) (hj : j < 3) (hyr : -3 ≤ y ∧ y ≤ 3) (hq : -3 ≤ Q j ∧ Q j ≤ 3) (h1 : Q j ≠ y) : zEv k_X7_under [za (A 0), zi (j : Int), zi y] h (fun v h2 => ∃ hb : xH, v = some (zi (Q j + 3)) ∧ h2 = zov [((A 0), .inr (7, [za (A 1), za (A 4), za (A 24), za (A 27), zi kt, za (A 47), za (A 49), za (A 52), za (A 63), za (A 68), za (A 72)])), ((A 1), .inr (4, [za (A 2), za (A 3), zi (th : Int), zi (fx : Int), zi (d : Int), zi (w : Int)])), ((A 2), .inl (0, 13, .inl Y)), ((A 3), .inl (0, 3, .inl (va_up Q j y))), ((A 52), .inr (0, [za (A 58), za (A 53), za (A 54), za (A 55), za (A 56), za (A 57), zi st, zi al, zi 0]))] hb ∧ PBk hb A 4 (nwS k s) (kpN k) (nwH k H (th, fx, d, w, Y, Q)) ∧ ∀ a, (∀ i, i < 24 → a ≠ A i) → a ≠ A 52 → hb a = h a) := by
  have hh : h = zov [((A 0), .inr (7, [za (A 1), za (A 4), za (A 24), za (A 27), zi kt, za (A 47), za (A 49), za (A 52), za (A 63), za (A 68), za (A 72)])), ((A 1), .inr (4, [za (A 2), za (A 3), zi (th : Int), zi (fx : Int), zi (d : Int), zi (w : Int)])), ((A 2), .inl (0, 13, .inl Y)), ((A 3), .inl (0, 3, .inl Q)), ((A 52), .inr (0, [za (A 58), za (A 53), za (A 54), za (A 55), za (A 56), za (A 57), zi st, zi al, zi sv]))] h := zov_self (List.forall_mem_cons.mpr ⟨hc0, List.forall_mem_cons.mpr ⟨hc1, List.forall_mem_cons.mpr ⟨hc2, List.forall_mem_cons.mpr ⟨hc3, List.forall_mem_cons.mpr ⟨hc4, fun _ q => absurd q List.not_mem_nil⟩⟩⟩⟩⟩)
  have hfr0 : ∀ a, (∀ i, i < 24 → a ≠ A i) → a ≠ A 52 → h a = h a := fun _ _ _ => rfl
  refine zEv.body (I := (7, xI_X7_under, 4, 4, 88, 0, 0, false)) (rt := (some .int)) [some (za (A 0)), some (zi (j : Int)), some (zi y), none] rfl rfl rfl rfl ?_
  refine Zn.eq rfl rfl rfl hh ?_
  have hD : zND ([((A 0), .inr (7, [za (A 1), za (A 4), za (A 24), za (A 27), zi kt, za (A 47), za (A 49), za (A 52), za (A 63), za (A 68), za (A 72)])), ((A 1), .inr (4, [za (A 2), za (A 3), zi (th : Int), zi (fx : Int), zi (d : Int), zi (w : Int)])), ((A 2), .inl (0, 13, .inl Y)), ((A 3), .inl (0, 3, .inl Q)), ((A 52), .inr (0, [za (A 58), za (A 53), za (A 54), za (A 55), za (A 56), za (A 57), zi st, zi al, zi sv]))]) := hD
  refine Zn.seg (pc2 := 1) (ls2 := [some (za (A 0)), some (zi (j : Int)), some (zi y), none]) (st2 := [zi (j : Int)]) [(0, .iload_n 1)] (by decide +kernel) rfl ?_
  refine Zn.ifc (c := .lt) (off := 15) 16 (by decide +kernel) rfl ⟨by omega, by omega⟩ (fun c_1 => absurd (show (j : Int) < 0 from c_1) (by omega)) (fun c_1 => ?_)
  have c_1 : ¬ ((j : Int) < 0) := c_1
  refine Zn.seg (pc2 := 6) (ls2 := [some (za (A 0)), some (zi (j : Int)), some (zi y), none]) (st2 := [zi 3, zi (j : Int)]) [(4, .iload_n 1), (5, .iconst 3)] (by decide +kernel) rfl ?_
  refine Zn.icmp (c := .ge) (off := 10) 16 (by decide +kernel) rfl ⟨by omega, by omega⟩ ⟨by decide, by decide⟩ (fun c_2 => absurd (show 3 ≤ (j : Int) from c_2) (by omega)) (fun c_2 => ?_)
  have c_2 : ¬ (3 ≤ (j : Int)) := c_2
  refine Zn.seg (pc2 := 10) (ls2 := [some (za (A 0)), some (zi (j : Int)), some (zi y), none]) (st2 := [zi y]) [(9, .iload_n 2)] (by decide +kernel) rfl ?_
  refine Zn.call (ins := .invokestatic 122) [zi y] [] (by decide +kernel) rfl rfl rfl ⟨rfl, rfl⟩ ⟨rfl, rfl, rfl⟩ rfl (zrecvS (by decide)) (sp_X7_isQ (x := y) (by first | assumption | exact ⟨by omega, by omega⟩)) (fun v h2 hp => ?_)
  obtain ⟨rfl, hq_3⟩ := hp
  refine Zn.eq (pc2 := 13) (ls2 := [some (za (A 0)), some (zi (j : Int)), some (zi y), none]) (st2 := [zi (inB (-3) 3 y)]) (h2 := zov ([((A 0), .inr (7, [za (A 1), za (A 4), za (A 24), za (A 27), zi kt, za (A 47), za (A 49), za (A 52), za (A 63), za (A 68), za (A 72)])), ((A 1), .inr (4, [za (A 2), za (A 3), zi (th : Int), zi (fx : Int), zi (d : Int), zi (w : Int)])), ((A 2), .inl (0, 13, .inl Y)), ((A 3), .inl (0, 3, .inl Q)), ((A 52), .inr (0, [za (A 58), za (A 53), za (A 54), za (A 55), za (A 56), za (A 57), zi st, zi al, zi sv]))]) h) rfl rfl rfl hq_3 ?_
  have hD : zND ([((A 0), .inr (7, [za (A 1), za (A 4), za (A 24), za (A 27), zi kt, za (A 47), za (A 49), za (A 52), za (A 63), za (A 68), za (A 72)])), ((A 1), .inr (4, [za (A 2), za (A 3), zi (th : Int), zi (fx : Int), zi (d : Int), zi (w : Int)])), ((A 2), .inl (0, 13, .inl Y)), ((A 3), .inl (0, 3, .inl Q)), ((A 52), .inr (0, [za (A 58), za (A 53), za (A 54), za (A 55), za (A 56), za (A 57), zi st, zi al, zi sv]))]) := hD
  have q_4 := inB_spec (-3) 3 y
  refine Zn.ifc (c := .ne) (off := 5) 18 (by decide +kernel) rfl ⟨by omega, by omega⟩ (fun c_5 => ?_) (fun c_5 => absurd (show inB (-3) 3 y ≠ 0 from by omega) c_5)
  have c_5 : inB (-3) 3 y ≠ 0 := c_5
  refine Zn.seg (pc2 := 19) (ls2 := [some (za (A 0)), some (zi (j : Int)), some (zi y), none]) (st2 := [za (A 0)]) [(18, .aload_n 0)] (by decide +kernel) rfl ?_
  refine Zn.get (ix := 12) hD 0 (by decide +kernel) rfl rfl rfl ?_
  refine Zn.get (ix := 125) hD 1 (by decide +kernel) rfl rfl rfl ?_
  refine Zn.seg (pc2 := 26) (ls2 := [some (za (A 0)), some (zi (j : Int)), some (zi y), none]) (st2 := [zi (j : Int), za (A 3)]) [(25, .iload_n 1)] (by decide +kernel) rfl ?_
  refine Zn.iald hD 3 (j) (by decide +kernel) rfl (by omega) (by omega) rfl ?_
  refine Zn.seg (pc2 := 30) (ls2 := [some (za (A 0)), some (zi (j : Int)), some (zi y), some (zi (Q j))]) (st2 := [zi y, zi (Q j)]) [(27, .istore_n 3), (28, .iload_n 3), (29, .iload_n 2)] (by decide +kernel) rfl ?_
  refine Zn.icmp (c := .ne) (off := 6) 36 (by decide +kernel) rfl ⟨by omega, by omega⟩ ⟨by omega, by omega⟩ (fun c_6 => ?_) (fun c_6 => absurd (show Q j ≠ y from by omega) c_6)
  have c_6 : Q j ≠ y := c_6
  refine Zn.seg (pc2 := 37) (ls2 := [some (za (A 0)), some (zi (j : Int)), some (zi y), some (zi (Q j))]) (st2 := [za (A 0)]) [(36, .aload_n 0)] (by decide +kernel) rfl ?_
  refine Zn.call (ins := .invokevirtual 89) [za (A 0)] [] (by decide +kernel) rfl rfl rfl ⟨rfl, rfl⟩ ⟨rfl, rfl, rfl⟩ rfl (zrecvV hD (p := 0) rfl rfl rfl) (sp_X7_rem (kt := kt) (st := st) (al := al) (sv := sv) (th := th) (fx := fx) (d := d) (w := w) (Y := Y) (Q := Q) (s := s) (k := k) (H := H) (zov_get hD 0 rfl) (zov_get hD 1 rfl) (zov_get hD 2 rfl) (zov_get hD 3 rfl) (zov_get hD 4 rfl) (nd_sub hD [0, 1, 2, 3, 4] rfl rfl) (hA) (hs) (hk) (by exact PBk_cg hP (fun i h1_ h2_ => A_out hA (i := i) [0, 1, 2, 3, 52] rfl (by simp only [List.mem_cons, List.not_mem_nil, or_false]; omega) (by omega) (by simp only [List.mem_cons, List.not_mem_nil, or_false, not_or]; omega)))) (fun v h2 hp => ?_)
  obtain ⟨h, rfl, hq_, hP, hfr_⟩ := hp
  have hfr0 : ∀ a, (∀ i, i < 24 → a ≠ A i) → a ≠ A 52 → h a = _ := fun a q1 q2 => (hfr_ a (fun j hj => q1 (4 + j) (by omega))).trans ((zov_out (by simp only [List.map_cons, List.map_nil, List.mem_cons, List.not_mem_nil, or_false, not_or]; exact ⟨q1 0 (by decide), q1 1 (by decide), q1 2 (by decide), q1 3 (by decide), q2⟩)).trans (hfr0 a q1 q2))
  refine Zn.eq (pc2 := 40) (ls2 := [some (za (A 0)), some (zi (j : Int)), some (zi y), some (zi (Q j))]) (st2 := []) (h2 := zov ([((A 0), .inr (7, [za (A 1), za (A 4), za (A 24), za (A 27), zi kt, za (A 47), za (A 49), za (A 52), za (A 63), za (A 68), za (A 72)])), ((A 1), .inr (4, [za (A 2), za (A 3), zi (th : Int), zi (fx : Int), zi (d : Int), zi (w : Int)])), ((A 2), .inl (0, 13, .inl Y)), ((A 3), .inl (0, 3, .inl Q)), ((A 52), .inr (0, [za (A 58), za (A 53), za (A 54), za (A 55), za (A 56), za (A 57), zi st, zi al, zi 0]))]) h) rfl rfl rfl hq_ ?_
  have hD : zND ([((A 0), .inr (7, [za (A 1), za (A 4), za (A 24), za (A 27), zi kt, za (A 47), za (A 49), za (A 52), za (A 63), za (A 68), za (A 72)])), ((A 1), .inr (4, [za (A 2), za (A 3), zi (th : Int), zi (fx : Int), zi (d : Int), zi (w : Int)])), ((A 2), .inl (0, 13, .inl Y)), ((A 3), .inl (0, 3, .inl Q)), ((A 52), .inr (0, [za (A 58), za (A 53), za (A 54), za (A 55), za (A 56), za (A 57), zi st, zi al, zi 0]))]) := hD
  have hD : zND ([((A 0), .inr (7, [za (A 1), za (A 4), za (A 24), za (A 27), zi kt, za (A 47), za (A 49), za (A 52), za (A 63), za (A 68), za (A 72)])), ((A 1), .inr (4, [za (A 2), za (A 3), zi (th : Int), zi (fx : Int), zi (d : Int), zi (w : Int)])), ((A 2), .inl (0, 13, .inl Y)), ((A 3), .inl (0, 3, .inl Q)), ((A 52), .inr (0, [za (A 58), za (A 53), za (A 54), za (A 55), za (A 56), za (A 57), zi st, zi al, zi 0]))]) := hD
  refine Zn.seg (pc2 := 41) (ls2 := [some (za (A 0)), some (zi (j : Int)), some (zi y), some (zi (Q j))]) (st2 := [za (A 0)]) [(40, .aload_n 0)] (by decide +kernel) rfl ?_
  refine Zn.get (ix := 12) hD 0 (by decide +kernel) rfl rfl rfl ?_
  refine Zn.get (ix := 125) hD 1 (by decide +kernel) rfl rfl rfl ?_
  refine Zn.seg (pc2 := 49) (ls2 := [some (za (A 0)), some (zi (j : Int)), some (zi y), some (zi (Q j))]) (st2 := [zi y, zi (j : Int), za (A 3)]) [(47, .iload_n 1), (48, .iload_n 2)] (by decide +kernel) rfl ?_
  refine Zn.iast hD 3 (j) (by decide +kernel) rfl (by omega) (by omega) rfl ?_
  refine Zn.eq (h2 := zov ([((A 0), .inr (7, [za (A 1), za (A 4), za (A 24), za (A 27), zi kt, za (A 47), za (A 49), za (A 52), za (A 63), za (A 68), za (A 72)])), ((A 1), .inr (4, [za (A 2), za (A 3), zi (th : Int), zi (fx : Int), zi (d : Int), zi (w : Int)])), ((A 2), .inl (0, 13, .inl Y)), ((A 3), .inl (0, 3, .inl (va_up Q j y))), ((A 52), .inr (0, [za (A 58), za (A 53), za (A 54), za (A 55), za (A 56), za (A 57), zi st, zi al, zi 0]))]) h) rfl rfl rfl (rfl) ?_
  have hD : zND ([((A 0), .inr (7, [za (A 1), za (A 4), za (A 24), za (A 27), zi kt, za (A 47), za (A 49), za (A 52), za (A 63), za (A 68), za (A 72)])), ((A 1), .inr (4, [za (A 2), za (A 3), zi (th : Int), zi (fx : Int), zi (d : Int), zi (w : Int)])), ((A 2), .inl (0, 13, .inl Y)), ((A 3), .inl (0, 3, .inl (va_up Q j y))), ((A 52), .inr (0, [za (A 58), za (A 53), za (A 54), za (A 55), za (A 56), za (A 57), zi st, zi al, zi 0]))]) := hD
  refine Zn.seg (pc2 := 53) (ls2 := [some (za (A 0)), some (zi (j : Int)), some (zi y), some (zi (Q j))]) (st2 := [zi (Q j + 3)]) [(50, .iload_n 3), (51, .iconst 3), (52, .iadd)] (by decide +kernel) rfl ?_
  exact Zn.iret (by decide +kernel) rfl (⟨h, by first | rfl | (refine congrArg some (congrArg zi ?_); first | omega | (simp_all; done) | (simp_all; omega)), rfl, hP, hfr0⟩)
theorem sp_X7_told_bad {h : xH} {A : Nat → Nat} {x y : Int} (zx : zInI x) (zy : zInI y) (hb : ¬ (-6 ≤ x ∧ x ≤ 6) ∨ ¬ (0 ≤ y ∧ y ≤ 3)) : zEv k_X7_told [za (A 0), zi x, zi y] h (fun v h2 => v = some (zi (-1)) ∧ h2 = h) := by
  have hD : ([] : List Nat).Nodup := List.nodup_nil
  have hh : h = zov [] h := zov_self (fun _ q => absurd q List.not_mem_nil)
  have zx1 := zx.1
  have zx2 := zx.2
  have zy1 := zy.1
  have zy2 := zy.2
  refine zEv.body (I := (7, xI_X7_told, 4, 1, 21, 0, 0, false)) (rt := (some .int)) [some (za (A 0)), some (zi x), some (zi y), none] rfl rfl rfl rfl ?_
  refine Zn.eq rfl rfl rfl hh ?_
  have hD : zND ([]) := hD
  refine Zn.seg (pc2 := 1) (ls2 := [some (za (A 0)), some (zi x), some (zi y), none]) (st2 := [zi x]) [(0, .iload_n 1)] (by decide +kernel) rfl ?_
  refine Zn.call (ins := .invokestatic 71) [zi x] [] (by decide +kernel) rfl rfl rfl ⟨rfl, rfl⟩ ⟨rfl, rfl, rfl⟩ rfl (zrecvS (by decide)) (sp_X7_isX (x := x) (by first | assumption | exact ⟨by omega, by omega⟩)) (fun v h2 hp => ?_)
  obtain ⟨rfl, hq_1⟩ := hp
  refine Zn.eq (pc2 := 4) (ls2 := [some (za (A 0)), some (zi x), some (zi y), none]) (st2 := [zi (inB (-6) 6 x)]) (h2 := zov ([]) h) rfl rfl rfl hq_1 ?_
  have hD : zND ([]) := hD
  have q_2 := inB_spec (-6) 6 x
  refine Zn.ifc (c := .eq) (off := 12) 16 (by decide +kernel) rfl ⟨by omega, by omega⟩ (fun c_3 => ?_) (fun c_3 => ?_)
  · have c_3 : inB (-6) 6 x = 0 := c_3
    refine Zn.seg (pc2 := 17) (ls2 := [some (za (A 0)), some (zi x), some (zi y), none]) (st2 := [zi (-1)]) [(16, .iconst (-1))] (by decide +kernel) rfl ?_
    exact Zn.iret (by decide +kernel) rfl (⟨by first | rfl | (refine congrArg some (congrArg zi ?_); first | omega | (simp_all; done) | (simp_all; omega)), hh.symm⟩)
  · have c_3 : ¬ (inB (-6) 6 x = 0) := c_3
    refine Zn.seg (pc2 := 8) (ls2 := [some (za (A 0)), some (zi x), some (zi y), none]) (st2 := [zi y]) [(7, .iload_n 2)] (by decide +kernel) rfl ?_
    refine Zn.ifc (c := .lt) (off := 8) 16 (by decide +kernel) rfl ⟨by omega, by omega⟩ (fun c_4 => ?_) (fun c_4 => ?_)
    · have c_4 : y < 0 := c_4
      refine Zn.seg (pc2 := 17) (ls2 := [some (za (A 0)), some (zi x), some (zi y), none]) (st2 := [zi (-1)]) [(16, .iconst (-1))] (by decide +kernel) rfl ?_
      exact Zn.iret (by decide +kernel) rfl (⟨by first | rfl | (refine congrArg some (congrArg zi ?_); first | omega | (simp_all; done) | (simp_all; omega)), hh.symm⟩)
    · have c_4 : ¬ (y < 0) := c_4
      refine Zn.seg (pc2 := 13) (ls2 := [some (za (A 0)), some (zi x), some (zi y), none]) (st2 := [zi 3, zi y]) [(11, .iload_n 2), (12, .iconst 3)] (by decide +kernel) rfl ?_
      refine Zn.icmp (c := .le) (off := 5) 18 (by decide +kernel) rfl ⟨by omega, by omega⟩ ⟨by decide, by decide⟩ (fun c_5 => absurd (show y ≤ 3 from c_5) (by omega)) (fun c_5 => ?_)
      have c_5 : ¬ (y ≤ 3) := c_5
      refine Zn.seg (pc2 := 17) (ls2 := [some (za (A 0)), some (zi x), some (zi y), none]) (st2 := [zi (-1)]) [(16, .iconst (-1))] (by decide +kernel) rfl ?_
      exact Zn.iret (by decide +kernel) rfl (⟨by first | rfl | (refine congrArg some (congrArg zi ?_); first | omega | (simp_all; done) | (simp_all; omega)), hh.symm⟩)
theorem sp_X7_told_none {h : xH} {A : Nat → Nat} {kt : Int} {th fx d w : Nat} {Y Q : Nat → Int} {x y : Int} {p : Nat} (hc0 : h (A 0) = zcE (.inr (7, [za (A 1), za (A 4), za (A 24), za (A 27), zi kt, za (A 47), za (A 49), za (A 52), za (A 63), za (A 68), za (A 72)]))) (hc1 : h (A 1) = zcE (.inr (4, [za (A 2), za (A 3), zi (th : Int), zi (fx : Int), zi (d : Int), zi (w : Int)]))) (hc2 : h (A 2) = zcE (.inl (0, 13, .inl Y))) (hc3 : h (A 3) = zcE (.inl (0, 3, .inl Q))) (hD : [(A 0), (A 1), (A 2), (A 3)].Nodup) (hx : x = (p : Int) - 6) (hp : p < 13) (hyr : 0 ≤ y ∧ y ≤ 3) (hth : th < 8192) (h1 : bt th p = 0) : zEv k_X7_told [za (A 0), zi x, zi y] h (fun v h2 => v = some (zi (-4)) ∧ h2 = h) := by
  have hh : h = zov [((A 0), .inr (7, [za (A 1), za (A 4), za (A 24), za (A 27), zi kt, za (A 47), za (A 49), za (A 52), za (A 63), za (A 68), za (A 72)])), ((A 1), .inr (4, [za (A 2), za (A 3), zi (th : Int), zi (fx : Int), zi (d : Int), zi (w : Int)])), ((A 2), .inl (0, 13, .inl Y)), ((A 3), .inl (0, 3, .inl Q))] h := zov_self (List.forall_mem_cons.mpr ⟨hc0, List.forall_mem_cons.mpr ⟨hc1, List.forall_mem_cons.mpr ⟨hc2, List.forall_mem_cons.mpr ⟨hc3, fun _ q => absurd q List.not_mem_nil⟩⟩⟩⟩)
  refine zEv.body (I := (7, xI_X7_told, 4, 1, 21, 0, 0, false)) (rt := (some .int)) [some (za (A 0)), some (zi x), some (zi y), none] rfl rfl rfl rfl ?_
  refine Zn.eq rfl rfl rfl hh ?_
  have hD : zND ([((A 0), .inr (7, [za (A 1), za (A 4), za (A 24), za (A 27), zi kt, za (A 47), za (A 49), za (A 52), za (A 63), za (A 68), za (A 72)])), ((A 1), .inr (4, [za (A 2), za (A 3), zi (th : Int), zi (fx : Int), zi (d : Int), zi (w : Int)])), ((A 2), .inl (0, 13, .inl Y)), ((A 3), .inl (0, 3, .inl Q))]) := hD
  refine Zn.seg (pc2 := 1) (ls2 := [some (za (A 0)), some (zi x), some (zi y), none]) (st2 := [zi x]) [(0, .iload_n 1)] (by decide +kernel) rfl ?_
  refine Zn.call (ins := .invokestatic 71) [zi x] [] (by decide +kernel) rfl rfl rfl ⟨rfl, rfl⟩ ⟨rfl, rfl, rfl⟩ rfl (zrecvS (by decide)) (sp_X7_isX (x := x) (by first | assumption | exact ⟨by omega, by omega⟩)) (fun v h2 hp => ?_)
  obtain ⟨rfl, hq_1⟩ := hp
  refine Zn.eq (pc2 := 4) (ls2 := [some (za (A 0)), some (zi x), some (zi y), none]) (st2 := [zi (inB (-6) 6 x)]) (h2 := zov ([((A 0), .inr (7, [za (A 1), za (A 4), za (A 24), za (A 27), zi kt, za (A 47), za (A 49), za (A 52), za (A 63), za (A 68), za (A 72)])), ((A 1), .inr (4, [za (A 2), za (A 3), zi (th : Int), zi (fx : Int), zi (d : Int), zi (w : Int)])), ((A 2), .inl (0, 13, .inl Y)), ((A 3), .inl (0, 3, .inl Q))]) h) rfl rfl rfl hq_1 ?_
  have hD : zND ([((A 0), .inr (7, [za (A 1), za (A 4), za (A 24), za (A 27), zi kt, za (A 47), za (A 49), za (A 52), za (A 63), za (A 68), za (A 72)])), ((A 1), .inr (4, [za (A 2), za (A 3), zi (th : Int), zi (fx : Int), zi (d : Int), zi (w : Int)])), ((A 2), .inl (0, 13, .inl Y)), ((A 3), .inl (0, 3, .inl Q))]) := hD
  have q_2 := inB_spec (-6) 6 x
  refine Zn.ifc (c := .eq) (off := 12) 16 (by decide +kernel) rfl ⟨by omega, by omega⟩ (fun c_3 => absurd (show inB (-6) 6 x = 0 from c_3) (by omega)) (fun c_3 => ?_)
  have c_3 : ¬ (inB (-6) 6 x = 0) := c_3
  refine Zn.seg (pc2 := 8) (ls2 := [some (za (A 0)), some (zi x), some (zi y), none]) (st2 := [zi y]) [(7, .iload_n 2)] (by decide +kernel) rfl ?_
  refine Zn.ifc (c := .lt) (off := 8) 16 (by decide +kernel) rfl ⟨by omega, by omega⟩ (fun c_4 => absurd (show y < 0 from c_4) (by omega)) (fun c_4 => ?_)
  have c_4 : ¬ (y < 0) := c_4
  refine Zn.seg (pc2 := 13) (ls2 := [some (za (A 0)), some (zi x), some (zi y), none]) (st2 := [zi 3, zi y]) [(11, .iload_n 2), (12, .iconst 3)] (by decide +kernel) rfl ?_
  refine Zn.icmp (c := .le) (off := 5) 18 (by decide +kernel) rfl ⟨by omega, by omega⟩ ⟨by decide, by decide⟩ (fun c_5 => ?_) (fun c_5 => absurd (show y ≤ 3 from by omega) c_5)
  have c_5 : y ≤ 3 := c_5
  refine Zn.seg (pc2 := 22) (ls2 := [some (za (A 0)), some (zi x), some (zi y), none]) (st2 := [zi (x + 6)]) [(18, .iload_n 1), (19, .bipush 6), (21, .iadd)] (by decide +kernel) rfl ?_
  refine Zn.topi (y := (p : Int)) (by omega) ?_
  refine Zn.seg (pc2 := 24) (ls2 := [some (za (A 0)), some (zi x), some (zi y), some (zi (p : Int))]) (st2 := [za (A 0)]) [(22, .istore_n 3), (23, .aload_n 0)] (by decide +kernel) rfl ?_
  refine Zn.get (ix := 12) hD 0 (by decide +kernel) rfl rfl rfl ?_
  refine Zn.seg (pc2 := 28) (ls2 := [some (za (A 0)), some (zi x), some (zi y), some (zi (p : Int))]) (st2 := [zi (p : Int), za (A 1)]) [(27, .iload_n 3)] (by decide +kernel) rfl ?_
  refine Zn.call (ins := .invokevirtual 78) [za (A 1), zi (p : Int)] [] (by decide +kernel) rfl rfl rfl ⟨rfl, rfl⟩ ⟨rfl, rfl, rfl⟩ rfl (zrecvV hD (p := 1) rfl rfl rfl) (sp_X4_has (o := (A 1)) (ya := (A 2)) (qa := (A 3)) (th := th) (fx := fx) (d := d) (w := w) (p := p) (zov_get hD 1 rfl) (hth) (by omega)) (fun v h2 hp => ?_)
  obtain ⟨rfl, hq_6⟩ := hp
  refine Zn.eq (pc2 := 31) (ls2 := [some (za (A 0)), some (zi x), some (zi y), some (zi (p : Int))]) (st2 := [zi (bt th p : Int)]) (h2 := zov ([((A 0), .inr (7, [za (A 1), za (A 4), za (A 24), za (A 27), zi kt, za (A 47), za (A 49), za (A 52), za (A 63), za (A 68), za (A 72)])), ((A 1), .inr (4, [za (A 2), za (A 3), zi (th : Int), zi (fx : Int), zi (d : Int), zi (w : Int)])), ((A 2), .inl (0, 13, .inl Y)), ((A 3), .inl (0, 3, .inl Q))]) h) rfl rfl rfl hq_6 ?_
  have hD : zND ([((A 0), .inr (7, [za (A 1), za (A 4), za (A 24), za (A 27), zi kt, za (A 47), za (A 49), za (A 52), za (A 63), za (A 68), za (A 72)])), ((A 1), .inr (4, [za (A 2), za (A 3), zi (th : Int), zi (fx : Int), zi (d : Int), zi (w : Int)])), ((A 2), .inl (0, 13, .inl Y)), ((A 3), .inl (0, 3, .inl Q))]) := hD
  have q_7 := bt_lt th p
  refine Zn.ifc (c := .ne) (off := 6) 37 (by decide +kernel) rfl ⟨by omega, by omega⟩ (fun c_8 => absurd (show (bt th p : Int) ≠ 0 from c_8) (by omega)) (fun c_8 => ?_)
  have c_8 : ¬ ((bt th p : Int) ≠ 0) := c_8
  refine Zn.seg (pc2 := 36) (ls2 := [some (za (A 0)), some (zi x), some (zi y), some (zi (p : Int))]) (st2 := [zi (-4)]) [(34, .bipush (-4))] (by decide +kernel) rfl ?_
  exact Zn.iret (by decide +kernel) rfl (⟨by first | rfl | (refine congrArg some (congrArg zi ?_); first | omega | (simp_all; done) | (simp_all; omega)), hh.symm⟩)
theorem sp_X7_told_w0 {h : xH} {A : Nat → Nat} {kt : Int} {th fx d w : Nat} {Y Q : Nat → Int} {x : Int} {p : Nat} (hc0 : h (A 0) = zcE (.inr (7, [za (A 1), za (A 4), za (A 24), za (A 27), zi kt, za (A 47), za (A 49), za (A 52), za (A 63), za (A 68), za (A 72)]))) (hc1 : h (A 1) = zcE (.inr (4, [za (A 2), za (A 3), zi (th : Int), zi (fx : Int), zi (d : Int), zi (w : Int)]))) (hc2 : h (A 2) = zcE (.inl (0, 13, .inl Y))) (hc3 : h (A 3) = zcE (.inl (0, 3, .inl Q))) (hD : [(A 0), (A 1), (A 2), (A 3)].Nodup) (hx : x = (p : Int) - 6) (hp : p < 13) (hth : th < 8192) (h1 : bt th p = 1) : zEv k_X7_told [za (A 0), zi x, zi 0] h (fun v h2 => v = some (zi (Y p + 99)) ∧ h2 = h) := by
  have hh : h = zov [((A 0), .inr (7, [za (A 1), za (A 4), za (A 24), za (A 27), zi kt, za (A 47), za (A 49), za (A 52), za (A 63), za (A 68), za (A 72)])), ((A 1), .inr (4, [za (A 2), za (A 3), zi (th : Int), zi (fx : Int), zi (d : Int), zi (w : Int)])), ((A 2), .inl (0, 13, .inl Y)), ((A 3), .inl (0, 3, .inl Q))] h := zov_self (List.forall_mem_cons.mpr ⟨hc0, List.forall_mem_cons.mpr ⟨hc1, List.forall_mem_cons.mpr ⟨hc2, List.forall_mem_cons.mpr ⟨hc3, fun _ q => absurd q List.not_mem_nil⟩⟩⟩⟩)
  refine zEv.body (I := (7, xI_X7_told, 4, 1, 21, 0, 0, false)) (rt := (some .int)) [some (za (A 0)), some (zi x), some (zi 0), none] rfl rfl rfl rfl ?_
  refine Zn.eq rfl rfl rfl hh ?_
  have hD : zND ([((A 0), .inr (7, [za (A 1), za (A 4), za (A 24), za (A 27), zi kt, za (A 47), za (A 49), za (A 52), za (A 63), za (A 68), za (A 72)])), ((A 1), .inr (4, [za (A 2), za (A 3), zi (th : Int), zi (fx : Int), zi (d : Int), zi (w : Int)])), ((A 2), .inl (0, 13, .inl Y)), ((A 3), .inl (0, 3, .inl Q))]) := hD
  refine Zn.seg (pc2 := 1) (ls2 := [some (za (A 0)), some (zi x), some (zi 0), none]) (st2 := [zi x]) [(0, .iload_n 1)] (by decide +kernel) rfl ?_
  refine Zn.call (ins := .invokestatic 71) [zi x] [] (by decide +kernel) rfl rfl rfl ⟨rfl, rfl⟩ ⟨rfl, rfl, rfl⟩ rfl (zrecvS (by decide)) (sp_X7_isX (x := x) (by first | assumption | exact ⟨by omega, by omega⟩)) (fun v h2 hp => ?_)
  obtain ⟨rfl, hq_1⟩ := hp
  refine Zn.eq (pc2 := 4) (ls2 := [some (za (A 0)), some (zi x), some (zi 0), none]) (st2 := [zi (inB (-6) 6 x)]) (h2 := zov ([((A 0), .inr (7, [za (A 1), za (A 4), za (A 24), za (A 27), zi kt, za (A 47), za (A 49), za (A 52), za (A 63), za (A 68), za (A 72)])), ((A 1), .inr (4, [za (A 2), za (A 3), zi (th : Int), zi (fx : Int), zi (d : Int), zi (w : Int)])), ((A 2), .inl (0, 13, .inl Y)), ((A 3), .inl (0, 3, .inl Q))]) h) rfl rfl rfl hq_1 ?_
  have hD : zND ([((A 0), .inr (7, [za (A 1), za (A 4), za (A 24), za (A 27), zi kt, za (A 47), za (A 49), za (A 52), za (A 63), za (A 68), za (A 72)])), ((A 1), .inr (4, [za (A 2), za (A 3), zi (th : Int), zi (fx : Int), zi (d : Int), zi (w : Int)])), ((A 2), .inl (0, 13, .inl Y)), ((A 3), .inl (0, 3, .inl Q))]) := hD
  have q_2 := inB_spec (-6) 6 x
  refine Zn.ifc (c := .eq) (off := 12) 16 (by decide +kernel) rfl ⟨by omega, by omega⟩ (fun c_3 => absurd (show inB (-6) 6 x = 0 from c_3) (by omega)) (fun c_3 => ?_)
  have c_3 : ¬ (inB (-6) 6 x = 0) := c_3
  refine Zn.seg (pc2 := 8) (ls2 := [some (za (A 0)), some (zi x), some (zi 0), none]) (st2 := [zi 0]) [(7, .iload_n 2)] (by decide +kernel) rfl ?_
  refine Zn.ifc (c := .lt) (off := 8) 16 (by decide +kernel) rfl ⟨by decide, by decide⟩ (fun c_4 => absurd (show (0 : Int) < 0 from c_4) (by decide)) (fun c_4 => ?_)
  have c_4 : ¬ ((0 : Int) < 0) := c_4
  refine Zn.seg (pc2 := 13) (ls2 := [some (za (A 0)), some (zi x), some (zi 0), none]) (st2 := [zi 3, zi 0]) [(11, .iload_n 2), (12, .iconst 3)] (by decide +kernel) rfl ?_
  refine Zn.icmp (c := .le) (off := 5) 18 (by decide +kernel) rfl ⟨by decide, by decide⟩ ⟨by decide, by decide⟩ (fun c_5 => ?_) (fun c_5 => absurd (show (0 : Int) ≤ 3 from by decide) c_5)
  have c_5 : (0 : Int) ≤ 3 := c_5
  refine Zn.seg (pc2 := 22) (ls2 := [some (za (A 0)), some (zi x), some (zi 0), none]) (st2 := [zi (x + 6)]) [(18, .iload_n 1), (19, .bipush 6), (21, .iadd)] (by decide +kernel) rfl ?_
  refine Zn.topi (y := (p : Int)) (by omega) ?_
  refine Zn.seg (pc2 := 24) (ls2 := [some (za (A 0)), some (zi x), some (zi 0), some (zi (p : Int))]) (st2 := [za (A 0)]) [(22, .istore_n 3), (23, .aload_n 0)] (by decide +kernel) rfl ?_
  refine Zn.get (ix := 12) hD 0 (by decide +kernel) rfl rfl rfl ?_
  refine Zn.seg (pc2 := 28) (ls2 := [some (za (A 0)), some (zi x), some (zi 0), some (zi (p : Int))]) (st2 := [zi (p : Int), za (A 1)]) [(27, .iload_n 3)] (by decide +kernel) rfl ?_
  refine Zn.call (ins := .invokevirtual 78) [za (A 1), zi (p : Int)] [] (by decide +kernel) rfl rfl rfl ⟨rfl, rfl⟩ ⟨rfl, rfl, rfl⟩ rfl (zrecvV hD (p := 1) rfl rfl rfl) (sp_X4_has (o := (A 1)) (ya := (A 2)) (qa := (A 3)) (th := th) (fx := fx) (d := d) (w := w) (p := p) (zov_get hD 1 rfl) (hth) (by omega)) (fun v h2 hp => ?_)
  obtain ⟨rfl, hq_6⟩ := hp
  refine Zn.eq (pc2 := 31) (ls2 := [some (za (A 0)), some (zi x), some (zi 0), some (zi (p : Int))]) (st2 := [zi (bt th p : Int)]) (h2 := zov ([((A 0), .inr (7, [za (A 1), za (A 4), za (A 24), za (A 27), zi kt, za (A 47), za (A 49), za (A 52), za (A 63), za (A 68), za (A 72)])), ((A 1), .inr (4, [za (A 2), za (A 3), zi (th : Int), zi (fx : Int), zi (d : Int), zi (w : Int)])), ((A 2), .inl (0, 13, .inl Y)), ((A 3), .inl (0, 3, .inl Q))]) h) rfl rfl rfl hq_6 ?_
  have hD : zND ([((A 0), .inr (7, [za (A 1), za (A 4), za (A 24), za (A 27), zi kt, za (A 47), za (A 49), za (A 52), za (A 63), za (A 68), za (A 72)])), ((A 1), .inr (4, [za (A 2), za (A 3), zi (th : Int), zi (fx : Int), zi (d : Int), zi (w : Int)])), ((A 2), .inl (0, 13, .inl Y)), ((A 3), .inl (0, 3, .inl Q))]) := hD
  have q_7 := bt_lt th p
  refine Zn.ifc (c := .ne) (off := 6) 37 (by decide +kernel) rfl ⟨by omega, by omega⟩ (fun c_8 => ?_) (fun c_8 => absurd (show (bt th p : Int) ≠ 0 from by omega) c_8)
  have c_8 : (bt th p : Int) ≠ 0 := c_8
  refine Zn.seg (pc2 := 38) (ls2 := [some (za (A 0)), some (zi x), some (zi 0), some (zi (p : Int))]) (st2 := [zi 0]) [(37, .iload_n 2)] (by decide +kernel) rfl ?_
  refine Zn.tswIn (d := 71) (lo := 0) (hh := 2) (offs := #[26, 38, 55]) 64 0 (by decide +kernel) ⟨by decide, by decide⟩ (by decide) (by decide) rfl rfl ?_
  refine Zn.seg (pc2 := 65) (ls2 := [some (za (A 0)), some (zi x), some (zi 0), some (zi (p : Int))]) (st2 := [za (A 0)]) [(64, .aload_n 0)] (by decide +kernel) rfl ?_
  refine Zn.get (ix := 12) hD 0 (by decide +kernel) rfl rfl rfl ?_
  refine Zn.seg (pc2 := 69) (ls2 := [some (za (A 0)), some (zi x), some (zi 0), some (zi (p : Int))]) (st2 := [zi (p : Int), za (A 1)]) [(68, .iload_n 3)] (by decide +kernel) rfl ?_
  refine Zn.call (ins := .invokevirtual 81) [za (A 1), zi (p : Int)] [] (by decide +kernel) rfl rfl rfl ⟨rfl, rfl⟩ ⟨rfl, rfl, rfl⟩ rfl (zrecvV hD (p := 1) rfl rfl rfl) (sp_X4_yAt (o := (A 1)) (ya := (A 2)) (qa := (A 3)) (th := th) (fx := fx) (d := d) (w := w) (p := p) (Y := Y) (zov_get hD 1 rfl) (zov_get hD 2 rfl) (nd_sub hD [1, 2] rfl rfl) (hp)) (fun v h2 hp => ?_)
  obtain ⟨rfl, hq_10⟩ := hp
  refine Zn.eq (pc2 := 72) (ls2 := [some (za (A 0)), some (zi x), some (zi 0), some (zi (p : Int))]) (st2 := [zi (Y p)]) (h2 := zov ([((A 0), .inr (7, [za (A 1), za (A 4), za (A 24), za (A 27), zi kt, za (A 47), za (A 49), za (A 52), za (A 63), za (A 68), za (A 72)])), ((A 1), .inr (4, [za (A 2), za (A 3), zi (th : Int), zi (fx : Int), zi (d : Int), zi (w : Int)])), ((A 2), .inl (0, 13, .inl Y)), ((A 3), .inl (0, 3, .inl Q))]) h) rfl rfl rfl hq_10 ?_
  have hD : zND ([((A 0), .inr (7, [za (A 1), za (A 4), za (A 24), za (A 27), zi kt, za (A 47), za (A 49), za (A 52), za (A 63), za (A 68), za (A 72)])), ((A 1), .inr (4, [za (A 2), za (A 3), zi (th : Int), zi (fx : Int), zi (d : Int), zi (w : Int)])), ((A 2), .inl (0, 13, .inl Y)), ((A 3), .inl (0, 3, .inl Q))]) := hD
  refine Zn.seg (pc2 := 75) (ls2 := [some (za (A 0)), some (zi x), some (zi 0), some (zi (p : Int))]) (st2 := [zi (Y p + 99)]) [(72, .bipush 99), (74, .iadd)] (by decide +kernel) rfl ?_
  exact Zn.iret (by decide +kernel) rfl (⟨by first | rfl | (refine congrArg some (congrArg zi ?_); first | omega | (simp_all; done) | (simp_all; omega)), hh.symm⟩)
theorem sp_X7_told_w1 {h : xH} {A : Nat → Nat} {kt : Int} {th fx d w : Nat} {Y Q : Nat → Int} {x : Int} {p : Nat} (hc0 : h (A 0) = zcE (.inr (7, [za (A 1), za (A 4), za (A 24), za (A 27), zi kt, za (A 47), za (A 49), za (A 52), za (A 63), za (A 68), za (A 72)]))) (hc1 : h (A 1) = zcE (.inr (4, [za (A 2), za (A 3), zi (th : Int), zi (fx : Int), zi (d : Int), zi (w : Int)]))) (hc2 : h (A 2) = zcE (.inl (0, 13, .inl Y))) (hc3 : h (A 3) = zcE (.inl (0, 3, .inl Q))) (hD : [(A 0), (A 1), (A 2), (A 3)].Nodup) (hx : x = (p : Int) - 6) (hp : p < 13) (hth : th < 8192) (h1 : bt th p = 1) (hfx : fx < 8192) : zEv k_X7_told [za (A 0), zi x, zi 1] h (fun v h2 => v = some (zi (bt fx p : Int)) ∧ h2 = h) := by
  have hh : h = zov [((A 0), .inr (7, [za (A 1), za (A 4), za (A 24), za (A 27), zi kt, za (A 47), za (A 49), za (A 52), za (A 63), za (A 68), za (A 72)])), ((A 1), .inr (4, [za (A 2), za (A 3), zi (th : Int), zi (fx : Int), zi (d : Int), zi (w : Int)])), ((A 2), .inl (0, 13, .inl Y)), ((A 3), .inl (0, 3, .inl Q))] h := zov_self (List.forall_mem_cons.mpr ⟨hc0, List.forall_mem_cons.mpr ⟨hc1, List.forall_mem_cons.mpr ⟨hc2, List.forall_mem_cons.mpr ⟨hc3, fun _ q => absurd q List.not_mem_nil⟩⟩⟩⟩)
  have hbf := bt_lt fx p
  refine zEv.body (I := (7, xI_X7_told, 4, 1, 21, 0, 0, false)) (rt := (some .int)) [some (za (A 0)), some (zi x), some (zi 1), none] rfl rfl rfl rfl ?_
  refine Zn.eq rfl rfl rfl hh ?_
  have hD : zND ([((A 0), .inr (7, [za (A 1), za (A 4), za (A 24), za (A 27), zi kt, za (A 47), za (A 49), za (A 52), za (A 63), za (A 68), za (A 72)])), ((A 1), .inr (4, [za (A 2), za (A 3), zi (th : Int), zi (fx : Int), zi (d : Int), zi (w : Int)])), ((A 2), .inl (0, 13, .inl Y)), ((A 3), .inl (0, 3, .inl Q))]) := hD
  refine Zn.seg (pc2 := 1) (ls2 := [some (za (A 0)), some (zi x), some (zi 1), none]) (st2 := [zi x]) [(0, .iload_n 1)] (by decide +kernel) rfl ?_
  refine Zn.call (ins := .invokestatic 71) [zi x] [] (by decide +kernel) rfl rfl rfl ⟨rfl, rfl⟩ ⟨rfl, rfl, rfl⟩ rfl (zrecvS (by decide)) (sp_X7_isX (x := x) (by first | assumption | exact ⟨by omega, by omega⟩)) (fun v h2 hp => ?_)
  obtain ⟨rfl, hq_1⟩ := hp
  refine Zn.eq (pc2 := 4) (ls2 := [some (za (A 0)), some (zi x), some (zi 1), none]) (st2 := [zi (inB (-6) 6 x)]) (h2 := zov ([((A 0), .inr (7, [za (A 1), za (A 4), za (A 24), za (A 27), zi kt, za (A 47), za (A 49), za (A 52), za (A 63), za (A 68), za (A 72)])), ((A 1), .inr (4, [za (A 2), za (A 3), zi (th : Int), zi (fx : Int), zi (d : Int), zi (w : Int)])), ((A 2), .inl (0, 13, .inl Y)), ((A 3), .inl (0, 3, .inl Q))]) h) rfl rfl rfl hq_1 ?_
  have hD : zND ([((A 0), .inr (7, [za (A 1), za (A 4), za (A 24), za (A 27), zi kt, za (A 47), za (A 49), za (A 52), za (A 63), za (A 68), za (A 72)])), ((A 1), .inr (4, [za (A 2), za (A 3), zi (th : Int), zi (fx : Int), zi (d : Int), zi (w : Int)])), ((A 2), .inl (0, 13, .inl Y)), ((A 3), .inl (0, 3, .inl Q))]) := hD
  have q_2 := inB_spec (-6) 6 x
  refine Zn.ifc (c := .eq) (off := 12) 16 (by decide +kernel) rfl ⟨by omega, by omega⟩ (fun c_3 => absurd (show inB (-6) 6 x = 0 from c_3) (by omega)) (fun c_3 => ?_)
  have c_3 : ¬ (inB (-6) 6 x = 0) := c_3
  refine Zn.seg (pc2 := 8) (ls2 := [some (za (A 0)), some (zi x), some (zi 1), none]) (st2 := [zi 1]) [(7, .iload_n 2)] (by decide +kernel) rfl ?_
  refine Zn.ifc (c := .lt) (off := 8) 16 (by decide +kernel) rfl ⟨by decide, by decide⟩ (fun c_4 => absurd (show (1 : Int) < 0 from c_4) (by decide)) (fun c_4 => ?_)
  have c_4 : ¬ ((1 : Int) < 0) := c_4
  refine Zn.seg (pc2 := 13) (ls2 := [some (za (A 0)), some (zi x), some (zi 1), none]) (st2 := [zi 3, zi 1]) [(11, .iload_n 2), (12, .iconst 3)] (by decide +kernel) rfl ?_
  refine Zn.icmp (c := .le) (off := 5) 18 (by decide +kernel) rfl ⟨by decide, by decide⟩ ⟨by decide, by decide⟩ (fun c_5 => ?_) (fun c_5 => absurd (show (1 : Int) ≤ 3 from by decide) c_5)
  have c_5 : (1 : Int) ≤ 3 := c_5
  refine Zn.seg (pc2 := 22) (ls2 := [some (za (A 0)), some (zi x), some (zi 1), none]) (st2 := [zi (x + 6)]) [(18, .iload_n 1), (19, .bipush 6), (21, .iadd)] (by decide +kernel) rfl ?_
  refine Zn.topi (y := (p : Int)) (by omega) ?_
  refine Zn.seg (pc2 := 24) (ls2 := [some (za (A 0)), some (zi x), some (zi 1), some (zi (p : Int))]) (st2 := [za (A 0)]) [(22, .istore_n 3), (23, .aload_n 0)] (by decide +kernel) rfl ?_
  refine Zn.get (ix := 12) hD 0 (by decide +kernel) rfl rfl rfl ?_
  refine Zn.seg (pc2 := 28) (ls2 := [some (za (A 0)), some (zi x), some (zi 1), some (zi (p : Int))]) (st2 := [zi (p : Int), za (A 1)]) [(27, .iload_n 3)] (by decide +kernel) rfl ?_
  refine Zn.call (ins := .invokevirtual 78) [za (A 1), zi (p : Int)] [] (by decide +kernel) rfl rfl rfl ⟨rfl, rfl⟩ ⟨rfl, rfl, rfl⟩ rfl (zrecvV hD (p := 1) rfl rfl rfl) (sp_X4_has (o := (A 1)) (ya := (A 2)) (qa := (A 3)) (th := th) (fx := fx) (d := d) (w := w) (p := p) (zov_get hD 1 rfl) (hth) (by omega)) (fun v h2 hp => ?_)
  obtain ⟨rfl, hq_6⟩ := hp
  refine Zn.eq (pc2 := 31) (ls2 := [some (za (A 0)), some (zi x), some (zi 1), some (zi (p : Int))]) (st2 := [zi (bt th p : Int)]) (h2 := zov ([((A 0), .inr (7, [za (A 1), za (A 4), za (A 24), za (A 27), zi kt, za (A 47), za (A 49), za (A 52), za (A 63), za (A 68), za (A 72)])), ((A 1), .inr (4, [za (A 2), za (A 3), zi (th : Int), zi (fx : Int), zi (d : Int), zi (w : Int)])), ((A 2), .inl (0, 13, .inl Y)), ((A 3), .inl (0, 3, .inl Q))]) h) rfl rfl rfl hq_6 ?_
  have hD : zND ([((A 0), .inr (7, [za (A 1), za (A 4), za (A 24), za (A 27), zi kt, za (A 47), za (A 49), za (A 52), za (A 63), za (A 68), za (A 72)])), ((A 1), .inr (4, [za (A 2), za (A 3), zi (th : Int), zi (fx : Int), zi (d : Int), zi (w : Int)])), ((A 2), .inl (0, 13, .inl Y)), ((A 3), .inl (0, 3, .inl Q))]) := hD
  have q_7 := bt_lt th p
  refine Zn.ifc (c := .ne) (off := 6) 37 (by decide +kernel) rfl ⟨by omega, by omega⟩ (fun c_8 => ?_) (fun c_8 => absurd (show (bt th p : Int) ≠ 0 from by omega) c_8)
  have c_8 : (bt th p : Int) ≠ 0 := c_8
  refine Zn.seg (pc2 := 38) (ls2 := [some (za (A 0)), some (zi x), some (zi 1), some (zi (p : Int))]) (st2 := [zi 1]) [(37, .iload_n 2)] (by decide +kernel) rfl ?_
  refine Zn.tswIn (d := 71) (lo := 0) (hh := 2) (offs := #[26, 38, 55]) 76 1 (by decide +kernel) ⟨by decide, by decide⟩ (by decide) (by decide) rfl rfl ?_
  refine Zn.seg (pc2 := 77) (ls2 := [some (za (A 0)), some (zi x), some (zi 1), some (zi (p : Int))]) (st2 := [za (A 0)]) [(76, .aload_n 0)] (by decide +kernel) rfl ?_
  refine Zn.get (ix := 12) hD 0 (by decide +kernel) rfl rfl rfl ?_
  refine Zn.seg (pc2 := 81) (ls2 := [some (za (A 0)), some (zi x), some (zi 1), some (zi (p : Int))]) (st2 := [zi (p : Int), za (A 1)]) [(80, .iload_n 3)] (by decide +kernel) rfl ?_
  refine Zn.call (ins := .invokevirtual 100) [za (A 1), zi (p : Int)] [] (by decide +kernel) rfl rfl rfl ⟨rfl, rfl⟩ ⟨rfl, rfl, rfl⟩ rfl (zrecvV hD (p := 1) rfl rfl rfl) (sp_X4_isFixed (o := (A 1)) (ya := (A 2)) (qa := (A 3)) (th := th) (fx := fx) (d := d) (w := w) (p := p) (zov_get hD 1 rfl) (hfx) (by omega)) (fun v h2 hp => ?_)
  obtain ⟨rfl, hq_10⟩ := hp
  refine Zn.eq (pc2 := 84) (ls2 := [some (za (A 0)), some (zi x), some (zi 1), some (zi (p : Int))]) (st2 := [zi (bt fx p : Int)]) (h2 := zov ([((A 0), .inr (7, [za (A 1), za (A 4), za (A 24), za (A 27), zi kt, za (A 47), za (A 49), za (A 52), za (A 63), za (A 68), za (A 72)])), ((A 1), .inr (4, [za (A 2), za (A 3), zi (th : Int), zi (fx : Int), zi (d : Int), zi (w : Int)])), ((A 2), .inl (0, 13, .inl Y)), ((A 3), .inl (0, 3, .inl Q))]) h) rfl rfl rfl hq_10 ?_
  have hD : zND ([((A 0), .inr (7, [za (A 1), za (A 4), za (A 24), za (A 27), zi kt, za (A 47), za (A 49), za (A 52), za (A 63), za (A 68), za (A 72)])), ((A 1), .inr (4, [za (A 2), za (A 3), zi (th : Int), zi (fx : Int), zi (d : Int), zi (w : Int)])), ((A 2), .inl (0, 13, .inl Y)), ((A 3), .inl (0, 3, .inl Q))]) := hD
  have q_11 := bt_lt fx p
  refine Zn.ifc (c := .eq) (off := 7) 91 (by decide +kernel) rfl ⟨by omega, by omega⟩ (fun c_12 => ?_) (fun c_12 => ?_)
  · have c_12 : (bt fx p : Int) = 0 := c_12
    refine Zn.seg (pc2 := 92) (ls2 := [some (za (A 0)), some (zi x), some (zi 1), some (zi (p : Int))]) (st2 := [zi 0]) [(91, .iconst 0)] (by decide +kernel) rfl ?_
    exact Zn.iret (by decide +kernel) rfl (⟨by first | rfl | (refine congrArg some (congrArg zi ?_); first | omega | (simp_all; done) | (simp_all; omega)), hh.symm⟩)
  · have c_12 : ¬ ((bt fx p : Int) = 0) := c_12
    refine Zn.seg (pc2 := 92) (ls2 := [some (za (A 0)), some (zi x), some (zi 1), some (zi (p : Int))]) (st2 := [zi 1]) [(87, .iconst 1), (88, .goto 4)] (by decide +kernel) rfl ?_
    exact Zn.iret (by decide +kernel) rfl (⟨by first | rfl | (refine congrArg some (congrArg zi ?_); first | omega | (simp_all; done) | (simp_all; omega)), hh.symm⟩)
theorem sp_X7_told_w2 {h : xH} {A : Nat → Nat} {kt : Int} {th fx d w : Nat} {Y Q : Nat → Int} {x : Int} {p : Nat} (hc0 : h (A 0) = zcE (.inr (7, [za (A 1), za (A 4), za (A 24), za (A 27), zi kt, za (A 47), za (A 49), za (A 52), za (A 63), za (A 68), za (A 72)]))) (hc1 : h (A 1) = zcE (.inr (4, [za (A 2), za (A 3), zi (th : Int), zi (fx : Int), zi (d : Int), zi (w : Int)]))) (hc2 : h (A 2) = zcE (.inl (0, 13, .inl Y))) (hc3 : h (A 3) = zcE (.inl (0, 3, .inl Q))) (hD : [(A 0), (A 1), (A 2), (A 3)].Nodup) (hx : x = (p : Int) - 6) (hp : p < 13) (hth : th < 8192) (h1 : bt th p = 1) : zEv k_X7_told [za (A 0), zi x, zi 2] h (fun v h2 => v = some (zi (pop (th &&& (2 ^ p - 1)) : Int)) ∧ h2 = h) := by
  have hh : h = zov [((A 0), .inr (7, [za (A 1), za (A 4), za (A 24), za (A 27), zi kt, za (A 47), za (A 49), za (A 52), za (A 63), za (A 68), za (A 72)])), ((A 1), .inr (4, [za (A 2), za (A 3), zi (th : Int), zi (fx : Int), zi (d : Int), zi (w : Int)])), ((A 2), .inl (0, 13, .inl Y)), ((A 3), .inl (0, 3, .inl Q))] h := zov_self (List.forall_mem_cons.mpr ⟨hc0, List.forall_mem_cons.mpr ⟨hc1, List.forall_mem_cons.mpr ⟨hc2, List.forall_mem_cons.mpr ⟨hc3, fun _ q => absurd q List.not_mem_nil⟩⟩⟩⟩)
  refine zEv.body (I := (7, xI_X7_told, 4, 1, 21, 0, 0, false)) (rt := (some .int)) [some (za (A 0)), some (zi x), some (zi 2), none] rfl rfl rfl rfl ?_
  refine Zn.eq rfl rfl rfl hh ?_
  have hD : zND ([((A 0), .inr (7, [za (A 1), za (A 4), za (A 24), za (A 27), zi kt, za (A 47), za (A 49), za (A 52), za (A 63), za (A 68), za (A 72)])), ((A 1), .inr (4, [za (A 2), za (A 3), zi (th : Int), zi (fx : Int), zi (d : Int), zi (w : Int)])), ((A 2), .inl (0, 13, .inl Y)), ((A 3), .inl (0, 3, .inl Q))]) := hD
  refine Zn.seg (pc2 := 1) (ls2 := [some (za (A 0)), some (zi x), some (zi 2), none]) (st2 := [zi x]) [(0, .iload_n 1)] (by decide +kernel) rfl ?_
  refine Zn.call (ins := .invokestatic 71) [zi x] [] (by decide +kernel) rfl rfl rfl ⟨rfl, rfl⟩ ⟨rfl, rfl, rfl⟩ rfl (zrecvS (by decide)) (sp_X7_isX (x := x) (by first | assumption | exact ⟨by omega, by omega⟩)) (fun v h2 hp => ?_)
  obtain ⟨rfl, hq_1⟩ := hp
  refine Zn.eq (pc2 := 4) (ls2 := [some (za (A 0)), some (zi x), some (zi 2), none]) (st2 := [zi (inB (-6) 6 x)]) (h2 := zov ([((A 0), .inr (7, [za (A 1), za (A 4), za (A 24), za (A 27), zi kt, za (A 47), za (A 49), za (A 52), za (A 63), za (A 68), za (A 72)])), ((A 1), .inr (4, [za (A 2), za (A 3), zi (th : Int), zi (fx : Int), zi (d : Int), zi (w : Int)])), ((A 2), .inl (0, 13, .inl Y)), ((A 3), .inl (0, 3, .inl Q))]) h) rfl rfl rfl hq_1 ?_
  have hD : zND ([((A 0), .inr (7, [za (A 1), za (A 4), za (A 24), za (A 27), zi kt, za (A 47), za (A 49), za (A 52), za (A 63), za (A 68), za (A 72)])), ((A 1), .inr (4, [za (A 2), za (A 3), zi (th : Int), zi (fx : Int), zi (d : Int), zi (w : Int)])), ((A 2), .inl (0, 13, .inl Y)), ((A 3), .inl (0, 3, .inl Q))]) := hD
  have q_2 := inB_spec (-6) 6 x
  refine Zn.ifc (c := .eq) (off := 12) 16 (by decide +kernel) rfl ⟨by omega, by omega⟩ (fun c_3 => absurd (show inB (-6) 6 x = 0 from c_3) (by omega)) (fun c_3 => ?_)
  have c_3 : ¬ (inB (-6) 6 x = 0) := c_3
  refine Zn.seg (pc2 := 8) (ls2 := [some (za (A 0)), some (zi x), some (zi 2), none]) (st2 := [zi 2]) [(7, .iload_n 2)] (by decide +kernel) rfl ?_
  refine Zn.ifc (c := .lt) (off := 8) 16 (by decide +kernel) rfl ⟨by decide, by decide⟩ (fun c_4 => absurd (show (2 : Int) < 0 from c_4) (by decide)) (fun c_4 => ?_)
  have c_4 : ¬ ((2 : Int) < 0) := c_4
  refine Zn.seg (pc2 := 13) (ls2 := [some (za (A 0)), some (zi x), some (zi 2), none]) (st2 := [zi 3, zi 2]) [(11, .iload_n 2), (12, .iconst 3)] (by decide +kernel) rfl ?_
  refine Zn.icmp (c := .le) (off := 5) 18 (by decide +kernel) rfl ⟨by decide, by decide⟩ ⟨by decide, by decide⟩ (fun c_5 => ?_) (fun c_5 => absurd (show (2 : Int) ≤ 3 from by decide) c_5)
  have c_5 : (2 : Int) ≤ 3 := c_5
  refine Zn.seg (pc2 := 22) (ls2 := [some (za (A 0)), some (zi x), some (zi 2), none]) (st2 := [zi (x + 6)]) [(18, .iload_n 1), (19, .bipush 6), (21, .iadd)] (by decide +kernel) rfl ?_
  refine Zn.topi (y := (p : Int)) (by omega) ?_
  refine Zn.seg (pc2 := 24) (ls2 := [some (za (A 0)), some (zi x), some (zi 2), some (zi (p : Int))]) (st2 := [za (A 0)]) [(22, .istore_n 3), (23, .aload_n 0)] (by decide +kernel) rfl ?_
  refine Zn.get (ix := 12) hD 0 (by decide +kernel) rfl rfl rfl ?_
  refine Zn.seg (pc2 := 28) (ls2 := [some (za (A 0)), some (zi x), some (zi 2), some (zi (p : Int))]) (st2 := [zi (p : Int), za (A 1)]) [(27, .iload_n 3)] (by decide +kernel) rfl ?_
  refine Zn.call (ins := .invokevirtual 78) [za (A 1), zi (p : Int)] [] (by decide +kernel) rfl rfl rfl ⟨rfl, rfl⟩ ⟨rfl, rfl, rfl⟩ rfl (zrecvV hD (p := 1) rfl rfl rfl) (sp_X4_has (o := (A 1)) (ya := (A 2)) (qa := (A 3)) (th := th) (fx := fx) (d := d) (w := w) (p := p) (zov_get hD 1 rfl) (hth) (by omega)) (fun v h2 hp => ?_)
  obtain ⟨rfl, hq_6⟩ := hp
  refine Zn.eq (pc2 := 31) (ls2 := [some (za (A 0)), some (zi x), some (zi 2), some (zi (p : Int))]) (st2 := [zi (bt th p : Int)]) (h2 := zov ([((A 0), .inr (7, [za (A 1), za (A 4), za (A 24), za (A 27), zi kt, za (A 47), za (A 49), za (A 52), za (A 63), za (A 68), za (A 72)])), ((A 1), .inr (4, [za (A 2), za (A 3), zi (th : Int), zi (fx : Int), zi (d : Int), zi (w : Int)])), ((A 2), .inl (0, 13, .inl Y)), ((A 3), .inl (0, 3, .inl Q))]) h) rfl rfl rfl hq_6 ?_
  have hD : zND ([((A 0), .inr (7, [za (A 1), za (A 4), za (A 24), za (A 27), zi kt, za (A 47), za (A 49), za (A 52), za (A 63), za (A 68), za (A 72)])), ((A 1), .inr (4, [za (A 2), za (A 3), zi (th : Int), zi (fx : Int), zi (d : Int), zi (w : Int)])), ((A 2), .inl (0, 13, .inl Y)), ((A 3), .inl (0, 3, .inl Q))]) := hD
  have q_7 := bt_lt th p
  refine Zn.ifc (c := .ne) (off := 6) 37 (by decide +kernel) rfl ⟨by omega, by omega⟩ (fun c_8 => ?_) (fun c_8 => absurd (show (bt th p : Int) ≠ 0 from by omega) c_8)
  have c_8 : (bt th p : Int) ≠ 0 := c_8
  refine Zn.seg (pc2 := 38) (ls2 := [some (za (A 0)), some (zi x), some (zi 2), some (zi (p : Int))]) (st2 := [zi 2]) [(37, .iload_n 2)] (by decide +kernel) rfl ?_
  refine Zn.tswIn (d := 71) (lo := 0) (hh := 2) (offs := #[26, 38, 55]) 93 2 (by decide +kernel) ⟨by decide, by decide⟩ (by decide) (by decide) rfl rfl ?_
  refine Zn.seg (pc2 := 94) (ls2 := [some (za (A 0)), some (zi x), some (zi 2), some (zi (p : Int))]) (st2 := [za (A 0)]) [(93, .aload_n 0)] (by decide +kernel) rfl ?_
  refine Zn.get (ix := 12) hD 0 (by decide +kernel) rfl rfl rfl ?_
  refine Zn.get (ix := 129) hD 1 (by decide +kernel) rfl rfl rfl ?_
  refine Zn.seg (pc2 := 101) (ls2 := [some (za (A 0)), some (zi x), some (zi 2), some (zi (p : Int))]) (st2 := [zi (p : Int), zi (th : Int)]) [(100, .iload_n 3)] (by decide +kernel) rfl ?_
  refine Zn.call (ins := .invokestatic 132) [zi (p : Int)] [zi (th : Int)] (by decide +kernel) rfl rfl rfl ⟨rfl, rfl⟩ ⟨rfl, rfl, rfl⟩ rfl (zrecvS (by decide)) (sp_X7_placesBelow (p := p) (by omega)) (fun v h2 hp => ?_)
  obtain ⟨rfl, hq_10⟩ := hp
  refine Zn.eq (pc2 := 104) (ls2 := [some (za (A 0)), some (zi x), some (zi 2), some (zi (p : Int))]) (st2 := [zi (((2 ^ p : Nat) : Int) - 1), zi (th : Int)]) (h2 := zov ([((A 0), .inr (7, [za (A 1), za (A 4), za (A 24), za (A 27), zi kt, za (A 47), za (A 49), za (A 52), za (A 63), za (A 68), za (A 72)])), ((A 1), .inr (4, [za (A 2), za (A 3), zi (th : Int), zi (fx : Int), zi (d : Int), zi (w : Int)])), ((A 2), .inl (0, 13, .inl Y)), ((A 3), .inl (0, 3, .inl Q))]) h) rfl rfl rfl hq_10 ?_
  have hD : zND ([((A 0), .inr (7, [za (A 1), za (A 4), za (A 24), za (A 27), zi kt, za (A 47), za (A 49), za (A 52), za (A 63), za (A 68), za (A 72)])), ((A 1), .inr (4, [za (A 2), za (A 3), zi (th : Int), zi (fx : Int), zi (d : Int), zi (w : Int)])), ((A 2), .inl (0, 13, .inl Y)), ((A 3), .inl (0, 3, .inl Q))]) := hD
  refine Zn.topi (y := ((2 ^ p - 1 : Nat) : Int)) (pw_sub1 (Nat.two_pow_pos _)) ?_
  refine Zn.iand (((th &&& (2 ^ p - 1) : Nat) : Int)) (by decide +kernel) (zand (by omega) (Nat.lt_of_lt_of_le (pw_lt1 hp) (by decide))) ?_
  refine Zn.call (ins := .invokestatic 117) [zi ((th &&& (2 ^ p - 1) : Nat) : Int)] [] (by decide +kernel) rfl rfl rfl ⟨rfl, rfl⟩ ⟨rfl, rfl, rfl⟩ rfl (zrecvS (by decide)) (sp_J6_bitCount_0f7a4 (n := th &&& (2 ^ p - 1)) (and_lt hth)) (fun v h2 hp => ?_)
  obtain ⟨rfl, hq_11⟩ := hp
  refine Zn.eq (pc2 := 108) (ls2 := [some (za (A 0)), some (zi x), some (zi 2), some (zi (p : Int))]) (st2 := [zi (pop (th &&& (2 ^ p - 1)) : Int)]) (h2 := zov ([((A 0), .inr (7, [za (A 1), za (A 4), za (A 24), za (A 27), zi kt, za (A 47), za (A 49), za (A 52), za (A 63), za (A 68), za (A 72)])), ((A 1), .inr (4, [za (A 2), za (A 3), zi (th : Int), zi (fx : Int), zi (d : Int), zi (w : Int)])), ((A 2), .inl (0, 13, .inl Y)), ((A 3), .inl (0, 3, .inl Q))]) h) rfl rfl rfl hq_11 ?_
  have hD : zND ([((A 0), .inr (7, [za (A 1), za (A 4), za (A 24), za (A 27), zi kt, za (A 47), za (A 49), za (A 52), za (A 63), za (A 68), za (A 72)])), ((A 1), .inr (4, [za (A 2), za (A 3), zi (th : Int), zi (fx : Int), zi (d : Int), zi (w : Int)])), ((A 2), .inl (0, 13, .inl Y)), ((A 3), .inl (0, 3, .inl Q))]) := hD
  have q_12 := pop_le (th &&& (2 ^ p - 1))
  exact Zn.iret (by decide +kernel) rfl (⟨by first | rfl | (refine congrArg some (congrArg zi ?_); first | omega | (simp_all; done) | (simp_all; omega)), hh.symm⟩)
theorem sp_X7_told_w3 {h : xH} {A : Nat → Nat} {kt : Int} {th fx d w : Nat} {Y Q : Nat → Int} {x : Int} {p : Nat} (hc0 : h (A 0) = zcE (.inr (7, [za (A 1), za (A 4), za (A 24), za (A 27), zi kt, za (A 47), za (A 49), za (A 52), za (A 63), za (A 68), za (A 72)]))) (hc1 : h (A 1) = zcE (.inr (4, [za (A 2), za (A 3), zi (th : Int), zi (fx : Int), zi (d : Int), zi (w : Int)]))) (hc2 : h (A 2) = zcE (.inl (0, 13, .inl Y))) (hc3 : h (A 3) = zcE (.inl (0, 3, .inl Q))) (hD : [(A 0), (A 1), (A 2), (A 3)].Nodup) (hx : x = (p : Int) - 6) (hp : p < 13) (hth : th < 8192) (h1 : bt th p = 1) (hqb : -1000 ≤ qv Q x ∧ qv Q x ≤ 1000) : zEv k_X7_told [za (A 0), zi x, zi 3] h (fun v h2 => v = some (zi ((qv Q x).natAbs : Int)) ∧ h2 = h) := by
  have hh : h = zov [((A 0), .inr (7, [za (A 1), za (A 4), za (A 24), za (A 27), zi kt, za (A 47), za (A 49), za (A 52), za (A 63), za (A 68), za (A 72)])), ((A 1), .inr (4, [za (A 2), za (A 3), zi (th : Int), zi (fx : Int), zi (d : Int), zi (w : Int)])), ((A 2), .inl (0, 13, .inl Y)), ((A 3), .inl (0, 3, .inl Q))] h := zov_self (List.forall_mem_cons.mpr ⟨hc0, List.forall_mem_cons.mpr ⟨hc1, List.forall_mem_cons.mpr ⟨hc2, List.forall_mem_cons.mpr ⟨hc3, fun _ q => absurd q List.not_mem_nil⟩⟩⟩⟩)
  refine zEv.body (I := (7, xI_X7_told, 4, 1, 21, 0, 0, false)) (rt := (some .int)) [some (za (A 0)), some (zi x), some (zi 3), none] rfl rfl rfl rfl ?_
  refine Zn.eq rfl rfl rfl hh ?_
  have hD : zND ([((A 0), .inr (7, [za (A 1), za (A 4), za (A 24), za (A 27), zi kt, za (A 47), za (A 49), za (A 52), za (A 63), za (A 68), za (A 72)])), ((A 1), .inr (4, [za (A 2), za (A 3), zi (th : Int), zi (fx : Int), zi (d : Int), zi (w : Int)])), ((A 2), .inl (0, 13, .inl Y)), ((A 3), .inl (0, 3, .inl Q))]) := hD
  refine Zn.seg (pc2 := 1) (ls2 := [some (za (A 0)), some (zi x), some (zi 3), none]) (st2 := [zi x]) [(0, .iload_n 1)] (by decide +kernel) rfl ?_
  refine Zn.call (ins := .invokestatic 71) [zi x] [] (by decide +kernel) rfl rfl rfl ⟨rfl, rfl⟩ ⟨rfl, rfl, rfl⟩ rfl (zrecvS (by decide)) (sp_X7_isX (x := x) (by first | assumption | exact ⟨by omega, by omega⟩)) (fun v h2 hp => ?_)
  obtain ⟨rfl, hq_1⟩ := hp
  refine Zn.eq (pc2 := 4) (ls2 := [some (za (A 0)), some (zi x), some (zi 3), none]) (st2 := [zi (inB (-6) 6 x)]) (h2 := zov ([((A 0), .inr (7, [za (A 1), za (A 4), za (A 24), za (A 27), zi kt, za (A 47), za (A 49), za (A 52), za (A 63), za (A 68), za (A 72)])), ((A 1), .inr (4, [za (A 2), za (A 3), zi (th : Int), zi (fx : Int), zi (d : Int), zi (w : Int)])), ((A 2), .inl (0, 13, .inl Y)), ((A 3), .inl (0, 3, .inl Q))]) h) rfl rfl rfl hq_1 ?_
  have hD : zND ([((A 0), .inr (7, [za (A 1), za (A 4), za (A 24), za (A 27), zi kt, za (A 47), za (A 49), za (A 52), za (A 63), za (A 68), za (A 72)])), ((A 1), .inr (4, [za (A 2), za (A 3), zi (th : Int), zi (fx : Int), zi (d : Int), zi (w : Int)])), ((A 2), .inl (0, 13, .inl Y)), ((A 3), .inl (0, 3, .inl Q))]) := hD
  have q_2 := inB_spec (-6) 6 x
  refine Zn.ifc (c := .eq) (off := 12) 16 (by decide +kernel) rfl ⟨by omega, by omega⟩ (fun c_3 => absurd (show inB (-6) 6 x = 0 from c_3) (by omega)) (fun c_3 => ?_)
  have c_3 : ¬ (inB (-6) 6 x = 0) := c_3
  refine Zn.seg (pc2 := 8) (ls2 := [some (za (A 0)), some (zi x), some (zi 3), none]) (st2 := [zi 3]) [(7, .iload_n 2)] (by decide +kernel) rfl ?_
  refine Zn.ifc (c := .lt) (off := 8) 16 (by decide +kernel) rfl ⟨by decide, by decide⟩ (fun c_4 => absurd (show (3 : Int) < 0 from c_4) (by decide)) (fun c_4 => ?_)
  have c_4 : ¬ ((3 : Int) < 0) := c_4
  refine Zn.seg (pc2 := 13) (ls2 := [some (za (A 0)), some (zi x), some (zi 3), none]) (st2 := [zi 3, zi 3]) [(11, .iload_n 2), (12, .iconst 3)] (by decide +kernel) rfl ?_
  refine Zn.icmp (c := .le) (off := 5) 18 (by decide +kernel) rfl ⟨by decide, by decide⟩ ⟨by decide, by decide⟩ (fun c_5 => ?_) (fun c_5 => absurd (show (3 : Int) ≤ 3 from by decide) c_5)
  have c_5 : (3 : Int) ≤ 3 := c_5
  refine Zn.seg (pc2 := 22) (ls2 := [some (za (A 0)), some (zi x), some (zi 3), none]) (st2 := [zi (x + 6)]) [(18, .iload_n 1), (19, .bipush 6), (21, .iadd)] (by decide +kernel) rfl ?_
  refine Zn.topi (y := (p : Int)) (by omega) ?_
  refine Zn.seg (pc2 := 24) (ls2 := [some (za (A 0)), some (zi x), some (zi 3), some (zi (p : Int))]) (st2 := [za (A 0)]) [(22, .istore_n 3), (23, .aload_n 0)] (by decide +kernel) rfl ?_
  refine Zn.get (ix := 12) hD 0 (by decide +kernel) rfl rfl rfl ?_
  refine Zn.seg (pc2 := 28) (ls2 := [some (za (A 0)), some (zi x), some (zi 3), some (zi (p : Int))]) (st2 := [zi (p : Int), za (A 1)]) [(27, .iload_n 3)] (by decide +kernel) rfl ?_
  refine Zn.call (ins := .invokevirtual 78) [za (A 1), zi (p : Int)] [] (by decide +kernel) rfl rfl rfl ⟨rfl, rfl⟩ ⟨rfl, rfl, rfl⟩ rfl (zrecvV hD (p := 1) rfl rfl rfl) (sp_X4_has (o := (A 1)) (ya := (A 2)) (qa := (A 3)) (th := th) (fx := fx) (d := d) (w := w) (p := p) (zov_get hD 1 rfl) (hth) (by omega)) (fun v h2 hp => ?_)
  obtain ⟨rfl, hq_6⟩ := hp
  refine Zn.eq (pc2 := 31) (ls2 := [some (za (A 0)), some (zi x), some (zi 3), some (zi (p : Int))]) (st2 := [zi (bt th p : Int)]) (h2 := zov ([((A 0), .inr (7, [za (A 1), za (A 4), za (A 24), za (A 27), zi kt, za (A 47), za (A 49), za (A 52), za (A 63), za (A 68), za (A 72)])), ((A 1), .inr (4, [za (A 2), za (A 3), zi (th : Int), zi (fx : Int), zi (d : Int), zi (w : Int)])), ((A 2), .inl (0, 13, .inl Y)), ((A 3), .inl (0, 3, .inl Q))]) h) rfl rfl rfl hq_6 ?_
  have hD : zND ([((A 0), .inr (7, [za (A 1), za (A 4), za (A 24), za (A 27), zi kt, za (A 47), za (A 49), za (A 52), za (A 63), za (A 68), za (A 72)])), ((A 1), .inr (4, [za (A 2), za (A 3), zi (th : Int), zi (fx : Int), zi (d : Int), zi (w : Int)])), ((A 2), .inl (0, 13, .inl Y)), ((A 3), .inl (0, 3, .inl Q))]) := hD
  have q_7 := bt_lt th p
  refine Zn.ifc (c := .ne) (off := 6) 37 (by decide +kernel) rfl ⟨by omega, by omega⟩ (fun c_8 => ?_) (fun c_8 => absurd (show (bt th p : Int) ≠ 0 from by omega) c_8)
  have c_8 : (bt th p : Int) ≠ 0 := c_8
  refine Zn.seg (pc2 := 38) (ls2 := [some (za (A 0)), some (zi x), some (zi 3), some (zi (p : Int))]) (st2 := [zi 3]) [(37, .iload_n 2)] (by decide +kernel) rfl ?_
  refine Zn.tswOut (d := 71) (lo := 0) (hh := 2) (offs := #[26, 38, 55]) 109 (by decide +kernel) ⟨by decide, by decide⟩ (by decide) rfl ?_
  refine Zn.seg (pc2 := 110) (ls2 := [some (za (A 0)), some (zi x), some (zi 3), some (zi (p : Int))]) (st2 := [za (A 0)]) [(109, .aload_n 0)] (by decide +kernel) rfl ?_
  refine Zn.get (ix := 12) hD 0 (by decide +kernel) rfl rfl rfl ?_
  refine Zn.seg (pc2 := 114) (ls2 := [some (za (A 0)), some (zi x), some (zi 3), some (zi (p : Int))]) (st2 := [zi x, za (A 1)]) [(113, .iload_n 1)] (by decide +kernel) rfl ?_
  refine Zn.call (ins := .invokevirtual 135) [za (A 1), zi x] [] (by decide +kernel) rfl rfl rfl ⟨rfl, rfl⟩ ⟨rfl, rfl, rfl⟩ rfl (zrecvV hD (p := 1) rfl rfl rfl) (sp_X4_beneath (o := (A 1)) (ya := (A 2)) (qa := (A 3)) (th := th) (fx := fx) (d := d) (w := w) (qf := Q) (x := x) (zov_get hD 1 rfl) (zov_get hD 3 rfl) (nd_sub hD [1, 3] rfl rfl)) (fun v h2 hp => ?_)
  obtain ⟨rfl, hq_10⟩ := hp
  refine Zn.eq (pc2 := 117) (ls2 := [some (za (A 0)), some (zi x), some (zi 3), some (zi (p : Int))]) (st2 := [zi (qv Q x)]) (h2 := zov ([((A 0), .inr (7, [za (A 1), za (A 4), za (A 24), za (A 27), zi kt, za (A 47), za (A 49), za (A 52), za (A 63), za (A 68), za (A 72)])), ((A 1), .inr (4, [za (A 2), za (A 3), zi (th : Int), zi (fx : Int), zi (d : Int), zi (w : Int)])), ((A 2), .inl (0, 13, .inl Y)), ((A 3), .inl (0, 3, .inl Q))]) h) rfl rfl rfl hq_10 ?_
  have hD : zND ([((A 0), .inr (7, [za (A 1), za (A 4), za (A 24), za (A 27), zi kt, za (A 47), za (A 49), za (A 52), za (A 63), za (A 68), za (A 72)])), ((A 1), .inr (4, [za (A 2), za (A 3), zi (th : Int), zi (fx : Int), zi (d : Int), zi (w : Int)])), ((A 2), .inl (0, 13, .inl Y)), ((A 3), .inl (0, 3, .inl Q))]) := hD
  refine Zn.absi (ins := .invokestatic 138) (by decide +kernel) rfl rfl ⟨by omega, by omega⟩ ?_
  exact Zn.iret (by decide +kernel) rfl (⟨by first | rfl | (refine congrArg some (congrArg zi ?_); first | omega | (simp_all; done) | (simp_all; omega)), hh.symm⟩)
theorem sp_X7_why_x {h : xH} {A : Nat → Nat} {kt : Int} {th fx d w : Nat} {Y Q : Nat → Int} (hc0 : h (A 0) = zcE (.inr (7, [za (A 1), za (A 4), za (A 24), za (A 27), zi kt, za (A 47), za (A 49), za (A 52), za (A 63), za (A 68), za (A 72)]))) (hc1 : h (A 1) = zcE (.inr (4, [za (A 2), za (A 3), zi (th : Int), zi (fx : Int), zi (d : Int), zi (w : Int)]))) (hc2 : h (A 2) = zcE (.inl (0, 13, .inl Y))) (hc3 : h (A 3) = zcE (.inl (0, 3, .inl Q))) (hD : [(A 0), (A 1), (A 2), (A 3)].Nodup) (hth : th < 8192) (hq : ∀ p : Nat, p < 13 → zInI (qv Q ((p : Int) - 6))) (hd : d ≤ 3) : zEv k_X7_why [za (A 0)] h (fun v h2 => v = some (zi (whyV (mk (poleB th Q)) (pop th) (d : Int))) ∧ h2 = h) := by
  have hh : h = zov [((A 0), .inr (7, [za (A 1), za (A 4), za (A 24), za (A 27), zi kt, za (A 47), za (A 49), za (A 52), za (A 63), za (A 68), za (A 72)])), ((A 1), .inr (4, [za (A 2), za (A 3), zi (th : Int), zi (fx : Int), zi (d : Int), zi (w : Int)])), ((A 2), .inl (0, 13, .inl Y)), ((A 3), .inl (0, 3, .inl Q))] h := zov_self (List.forall_mem_cons.mpr ⟨hc0, List.forall_mem_cons.mpr ⟨hc1, List.forall_mem_cons.mpr ⟨hc2, List.forall_mem_cons.mpr ⟨hc3, fun _ q => absurd q List.not_mem_nil⟩⟩⟩⟩)
  have hmk := mk_lt (poleB th Q)
  have hpt := pop_le th
  refine zEv.body (I := (7, xI_X7_why, 1, 2, 43, 0, 0, false)) (rt := (some .int)) [some (za (A 0))] rfl rfl rfl rfl ?_
  refine Zn.eq rfl rfl rfl hh ?_
  have hD : zND ([((A 0), .inr (7, [za (A 1), za (A 4), za (A 24), za (A 27), zi kt, za (A 47), za (A 49), za (A 52), za (A 63), za (A 68), za (A 72)])), ((A 1), .inr (4, [za (A 2), za (A 3), zi (th : Int), zi (fx : Int), zi (d : Int), zi (w : Int)])), ((A 2), .inl (0, 13, .inl Y)), ((A 3), .inl (0, 3, .inl Q))]) := hD
  refine Zn.seg (pc2 := 1) (ls2 := [some (za (A 0))]) (st2 := [za (A 0)]) [(0, .aload_n 0)] (by decide +kernel) rfl ?_
  refine Zn.get (ix := 12) hD 0 (by decide +kernel) rfl rfl rfl ?_
  refine Zn.call (ins := .invokevirtual 143) [za (A 1)] [] (by decide +kernel) rfl rfl rfl ⟨rfl, rfl⟩ ⟨rfl, rfl, rfl⟩ rfl (zrecvV hD (p := 1) rfl rfl rfl) (sp_X4_poles (o := (A 1)) (ya := (A 2)) (qa := (A 3)) (th := th) (fx := fx) (d := d) (w := w) (qf := Q) (zov_get hD 1 rfl) (zov_get hD 3 rfl) (nd_sub hD [1, 3] rfl rfl) (hth) (hq)) (fun v h2 hp => ?_)
  obtain ⟨rfl, hq_1⟩ := hp
  refine Zn.eq (pc2 := 7) (ls2 := [some (za (A 0))]) (st2 := [zi (mk (poleB th Q) : Int)]) (h2 := zov ([((A 0), .inr (7, [za (A 1), za (A 4), za (A 24), za (A 27), zi kt, za (A 47), za (A 49), za (A 52), za (A 63), za (A 68), za (A 72)])), ((A 1), .inr (4, [za (A 2), za (A 3), zi (th : Int), zi (fx : Int), zi (d : Int), zi (w : Int)])), ((A 2), .inl (0, 13, .inl Y)), ((A 3), .inl (0, 3, .inl Q))]) h) rfl rfl rfl hq_1 ?_
  have hD : zND ([((A 0), .inr (7, [za (A 1), za (A 4), za (A 24), za (A 27), zi kt, za (A 47), za (A 49), za (A 52), za (A 63), za (A 68), za (A 72)])), ((A 1), .inr (4, [za (A 2), za (A 3), zi (th : Int), zi (fx : Int), zi (d : Int), zi (w : Int)])), ((A 2), .inl (0, 13, .inl Y)), ((A 3), .inl (0, 3, .inl Q))]) := hD
  refine Zn.ifc (c := .eq) (off := 5) 12 (by decide +kernel) rfl ⟨by omega, by omega⟩ (fun c_2 => ?_) (fun c_2 => ?_)
  · have c_2 : (mk (poleB th Q) : Int) = 0 := c_2
    refine Zn.seg (pc2 := 13) (ls2 := [some (za (A 0))]) (st2 := [za (A 0)]) [(12, .aload_n 0)] (by decide +kernel) rfl ?_
    refine Zn.get (ix := 12) hD 0 (by decide +kernel) rfl rfl rfl ?_
    refine Zn.call (ins := .invokevirtual 85) [za (A 1)] [] (by decide +kernel) rfl rfl rfl ⟨rfl, rfl⟩ ⟨rfl, rfl, rfl⟩ rfl (zrecvV hD (p := 1) rfl rfl rfl) (sp_X4_howMany (o := (A 1)) (ya := (A 2)) (qa := (A 3)) (th := th) (fx := fx) (d := d) (w := w) (zov_get hD 1 rfl) (by first | assumption | omega)) (fun v h2 hp => ?_)
    obtain ⟨rfl, hq_3⟩ := hp
    refine Zn.eq (pc2 := 19) (ls2 := [some (za (A 0))]) (st2 := [zi (pop th : Int)]) (h2 := zov ([((A 0), .inr (7, [za (A 1), za (A 4), za (A 24), za (A 27), zi kt, za (A 47), za (A 49), za (A 52), za (A 63), za (A 68), za (A 72)])), ((A 1), .inr (4, [za (A 2), za (A 3), zi (th : Int), zi (fx : Int), zi (d : Int), zi (w : Int)])), ((A 2), .inl (0, 13, .inl Y)), ((A 3), .inl (0, 3, .inl Q))]) h) rfl rfl rfl hq_3 ?_
    have hD : zND ([((A 0), .inr (7, [za (A 1), za (A 4), za (A 24), za (A 27), zi kt, za (A 47), za (A 49), za (A 52), za (A 63), za (A 68), za (A 72)])), ((A 1), .inr (4, [za (A 2), za (A 3), zi (th : Int), zi (fx : Int), zi (d : Int), zi (w : Int)])), ((A 2), .inl (0, 13, .inl Y)), ((A 3), .inl (0, 3, .inl Q))]) := hD
    have q_4 := pop_le th
    refine Zn.seg (pc2 := 20) (ls2 := [some (za (A 0))]) (st2 := [za (A 0), zi (pop th : Int)]) [(19, .aload_n 0)] (by decide +kernel) rfl ?_
    refine Zn.get (ix := 12) hD 0 (by decide +kernel) rfl rfl rfl ?_
    refine Zn.get (ix := 110) hD 1 (by decide +kernel) rfl rfl rfl ?_
    refine Zn.seg (pc2 := 28) (ls2 := [some (za (A 0))]) (st2 := [zi ((d : Int) + 2), zi (pop th : Int)]) [(26, .iconst 2), (27, .iadd)] (by decide +kernel) rfl ?_
    refine Zn.icmp (c := .ge) (off := 7) 35 (by decide +kernel) rfl ⟨by omega, by omega⟩ ⟨by omega, by omega⟩ (fun c_5 => ?_) (fun c_5 => ?_)
    · have c_5 : (d : Int) + 2 ≤ (pop th : Int) := c_5
      refine Zn.seg (pc2 := 36) (ls2 := [some (za (A 0))]) (st2 := [zi 0]) [(35, .iconst 0)] (by decide +kernel) rfl ?_
      exact Zn.iret (by decide +kernel) rfl (⟨by refine congrArg some (congrArg zi ?_); unfold whyV; first | (rw [if_neg (by omega)]; done) | (rw [if_pos (by omega), if_pos (by omega)]; done) | rw [if_pos (by omega), if_neg (by omega)], hh.symm⟩)
    · have c_5 : ¬ ((d : Int) + 2 ≤ (pop th : Int)) := c_5
      refine Zn.seg (pc2 := 36) (ls2 := [some (za (A 0))]) (st2 := [zi 2]) [(31, .iconst 2), (32, .goto 4)] (by decide +kernel) rfl ?_
      exact Zn.iret (by decide +kernel) rfl (⟨by refine congrArg some (congrArg zi ?_); unfold whyV; first | (rw [if_neg (by omega)]; done) | (rw [if_pos (by omega), if_pos (by omega)]; done) | rw [if_pos (by omega), if_neg (by omega)], hh.symm⟩)
  · have c_2 : ¬ ((mk (poleB th Q) : Int) = 0) := c_2
    refine Zn.seg (pc2 := 11) (ls2 := [some (za (A 0))]) (st2 := [zi 1]) [(10, .iconst 1)] (by decide +kernel) rfl ?_
    exact Zn.iret (by decide +kernel) rfl (⟨by refine congrArg some (congrArg zi ?_); unfold whyV; first | (rw [if_neg (by omega)]; done) | (rw [if_pos (by omega), if_pos (by omega)]; done) | rw [if_pos (by omega), if_neg (by omega)], hh.symm⟩)
theorem sp_X7_count_w0 {h : xH} {A : Nat → Nat} {kt : Int} {th fx d w : Nat} {Y Q : Nat → Int} (hc0 : h (A 0) = zcE (.inr (7, [za (A 1), za (A 4), za (A 24), za (A 27), zi kt, za (A 47), za (A 49), za (A 52), za (A 63), za (A 68), za (A 72)]))) (hc1 : h (A 1) = zcE (.inr (4, [za (A 2), za (A 3), zi (th : Int), zi (fx : Int), zi (d : Int), zi (w : Int)]))) (hc2 : h (A 2) = zcE (.inl (0, 13, .inl Y))) (hc3 : h (A 3) = zcE (.inl (0, 3, .inl Q))) (hD : [(A 0), (A 1), (A 2), (A 3)].Nodup) : zEv k_X7_count [za (A 0), zi 0] h (fun v h2 => v = some (zi (d : Int)) ∧ h2 = h) := by
  have hh : h = zov [((A 0), .inr (7, [za (A 1), za (A 4), za (A 24), za (A 27), zi kt, za (A 47), za (A 49), za (A 52), za (A 63), za (A 68), za (A 72)])), ((A 1), .inr (4, [za (A 2), za (A 3), zi (th : Int), zi (fx : Int), zi (d : Int), zi (w : Int)])), ((A 2), .inl (0, 13, .inl Y)), ((A 3), .inl (0, 3, .inl Q))] h := zov_self (List.forall_mem_cons.mpr ⟨hc0, List.forall_mem_cons.mpr ⟨hc1, List.forall_mem_cons.mpr ⟨hc2, List.forall_mem_cons.mpr ⟨hc3, fun _ q => absurd q List.not_mem_nil⟩⟩⟩⟩)
  refine zEv.body (I := (7, xI_X7_count, 2, 3, 63, 0, 0, false)) (rt := (some .int)) [some (za (A 0)), some (zi 0)] rfl rfl rfl rfl ?_
  refine Zn.eq rfl rfl rfl hh ?_
  have hD : zND ([((A 0), .inr (7, [za (A 1), za (A 4), za (A 24), za (A 27), zi kt, za (A 47), za (A 49), za (A 52), za (A 63), za (A 68), za (A 72)])), ((A 1), .inr (4, [za (A 2), za (A 3), zi (th : Int), zi (fx : Int), zi (d : Int), zi (w : Int)])), ((A 2), .inl (0, 13, .inl Y)), ((A 3), .inl (0, 3, .inl Q))]) := hD
  refine Zn.seg (pc2 := 1) (ls2 := [some (za (A 0)), some (zi 0)]) (st2 := [zi 0]) [(0, .iload_n 1)] (by decide +kernel) rfl ?_
  refine Zn.tswIn (d := 96) (lo := 0) (hh := 6) (offs := #[43, 51, 59, 67, 75, 83, 88]) 44 0 (by decide +kernel) ⟨by decide, by decide⟩ (by decide) (by decide) rfl rfl ?_
  refine Zn.seg (pc2 := 45) (ls2 := [some (za (A 0)), some (zi 0)]) (st2 := [za (A 0)]) [(44, .aload_n 0)] (by decide +kernel) rfl ?_
  refine Zn.get (ix := 12) hD 0 (by decide +kernel) rfl rfl rfl ?_
  refine Zn.get (ix := 110) hD 1 (by decide +kernel) rfl rfl rfl ?_
  exact Zn.iret (by decide +kernel) rfl (⟨by first | rfl | (refine congrArg some (congrArg zi ?_); first | omega | (simp_all; done) | (simp_all; omega)), hh.symm⟩)
theorem sp_X7_count_w1 {h : xH} {A : Nat → Nat} {kt : Int} {th fx d w : Nat} {Y Q : Nat → Int} (hc0 : h (A 0) = zcE (.inr (7, [za (A 1), za (A 4), za (A 24), za (A 27), zi kt, za (A 47), za (A 49), za (A 52), za (A 63), za (A 68), za (A 72)]))) (hc1 : h (A 1) = zcE (.inr (4, [za (A 2), za (A 3), zi (th : Int), zi (fx : Int), zi (d : Int), zi (w : Int)]))) (hc2 : h (A 2) = zcE (.inl (0, 13, .inl Y))) (hc3 : h (A 3) = zcE (.inl (0, 3, .inl Q))) (hD : [(A 0), (A 1), (A 2), (A 3)].Nodup) : zEv k_X7_count [za (A 0), zi 1] h (fun v h2 => v = some (zi (th : Int)) ∧ h2 = h) := by
  have hh : h = zov [((A 0), .inr (7, [za (A 1), za (A 4), za (A 24), za (A 27), zi kt, za (A 47), za (A 49), za (A 52), za (A 63), za (A 68), za (A 72)])), ((A 1), .inr (4, [za (A 2), za (A 3), zi (th : Int), zi (fx : Int), zi (d : Int), zi (w : Int)])), ((A 2), .inl (0, 13, .inl Y)), ((A 3), .inl (0, 3, .inl Q))] h := zov_self (List.forall_mem_cons.mpr ⟨hc0, List.forall_mem_cons.mpr ⟨hc1, List.forall_mem_cons.mpr ⟨hc2, List.forall_mem_cons.mpr ⟨hc3, fun _ q => absurd q List.not_mem_nil⟩⟩⟩⟩)
  refine zEv.body (I := (7, xI_X7_count, 2, 3, 63, 0, 0, false)) (rt := (some .int)) [some (za (A 0)), some (zi 1)] rfl rfl rfl rfl ?_
  refine Zn.eq rfl rfl rfl hh ?_
  have hD : zND ([((A 0), .inr (7, [za (A 1), za (A 4), za (A 24), za (A 27), zi kt, za (A 47), za (A 49), za (A 52), za (A 63), za (A 68), za (A 72)])), ((A 1), .inr (4, [za (A 2), za (A 3), zi (th : Int), zi (fx : Int), zi (d : Int), zi (w : Int)])), ((A 2), .inl (0, 13, .inl Y)), ((A 3), .inl (0, 3, .inl Q))]) := hD
  refine Zn.seg (pc2 := 1) (ls2 := [some (za (A 0)), some (zi 1)]) (st2 := [zi 1]) [(0, .iload_n 1)] (by decide +kernel) rfl ?_
  refine Zn.tswIn (d := 96) (lo := 0) (hh := 6) (offs := #[43, 51, 59, 67, 75, 83, 88]) 52 1 (by decide +kernel) ⟨by decide, by decide⟩ (by decide) (by decide) rfl rfl ?_
  refine Zn.seg (pc2 := 53) (ls2 := [some (za (A 0)), some (zi 1)]) (st2 := [za (A 0)]) [(52, .aload_n 0)] (by decide +kernel) rfl ?_
  refine Zn.get (ix := 12) hD 0 (by decide +kernel) rfl rfl rfl ?_
  refine Zn.get (ix := 129) hD 1 (by decide +kernel) rfl rfl rfl ?_
  exact Zn.iret (by decide +kernel) rfl (⟨by first | rfl | (refine congrArg some (congrArg zi ?_); first | omega | (simp_all; done) | (simp_all; omega)), hh.symm⟩)
theorem sp_X7_count_w2 {h : xH} {A : Nat → Nat} {kt : Int} {th fx d w : Nat} {Y Q : Nat → Int} (hc0 : h (A 0) = zcE (.inr (7, [za (A 1), za (A 4), za (A 24), za (A 27), zi kt, za (A 47), za (A 49), za (A 52), za (A 63), za (A 68), za (A 72)]))) (hc1 : h (A 1) = zcE (.inr (4, [za (A 2), za (A 3), zi (th : Int), zi (fx : Int), zi (d : Int), zi (w : Int)]))) (hc2 : h (A 2) = zcE (.inl (0, 13, .inl Y))) (hc3 : h (A 3) = zcE (.inl (0, 3, .inl Q))) (hD : [(A 0), (A 1), (A 2), (A 3)].Nodup) : zEv k_X7_count [za (A 0), zi 2] h (fun v h2 => v = some (zi (fx : Int)) ∧ h2 = h) := by
  have hh : h = zov [((A 0), .inr (7, [za (A 1), za (A 4), za (A 24), za (A 27), zi kt, za (A 47), za (A 49), za (A 52), za (A 63), za (A 68), za (A 72)])), ((A 1), .inr (4, [za (A 2), za (A 3), zi (th : Int), zi (fx : Int), zi (d : Int), zi (w : Int)])), ((A 2), .inl (0, 13, .inl Y)), ((A 3), .inl (0, 3, .inl Q))] h := zov_self (List.forall_mem_cons.mpr ⟨hc0, List.forall_mem_cons.mpr ⟨hc1, List.forall_mem_cons.mpr ⟨hc2, List.forall_mem_cons.mpr ⟨hc3, fun _ q => absurd q List.not_mem_nil⟩⟩⟩⟩)
  refine zEv.body (I := (7, xI_X7_count, 2, 3, 63, 0, 0, false)) (rt := (some .int)) [some (za (A 0)), some (zi 2)] rfl rfl rfl rfl ?_
  refine Zn.eq rfl rfl rfl hh ?_
  have hD : zND ([((A 0), .inr (7, [za (A 1), za (A 4), za (A 24), za (A 27), zi kt, za (A 47), za (A 49), za (A 52), za (A 63), za (A 68), za (A 72)])), ((A 1), .inr (4, [za (A 2), za (A 3), zi (th : Int), zi (fx : Int), zi (d : Int), zi (w : Int)])), ((A 2), .inl (0, 13, .inl Y)), ((A 3), .inl (0, 3, .inl Q))]) := hD
  refine Zn.seg (pc2 := 1) (ls2 := [some (za (A 0)), some (zi 2)]) (st2 := [zi 2]) [(0, .iload_n 1)] (by decide +kernel) rfl ?_
  refine Zn.tswIn (d := 96) (lo := 0) (hh := 6) (offs := #[43, 51, 59, 67, 75, 83, 88]) 60 2 (by decide +kernel) ⟨by decide, by decide⟩ (by decide) (by decide) rfl rfl ?_
  refine Zn.seg (pc2 := 61) (ls2 := [some (za (A 0)), some (zi 2)]) (st2 := [za (A 0)]) [(60, .aload_n 0)] (by decide +kernel) rfl ?_
  refine Zn.get (ix := 12) hD 0 (by decide +kernel) rfl rfl rfl ?_
  refine Zn.get (ix := 114) hD 1 (by decide +kernel) rfl rfl rfl ?_
  exact Zn.iret (by decide +kernel) rfl (⟨by first | rfl | (refine congrArg some (congrArg zi ?_); first | omega | (simp_all; done) | (simp_all; omega)), hh.symm⟩)
theorem sp_X7_count_w3 {h : xH} {A : Nat → Nat} {kt : Int} {th fx d w : Nat} {Y Q : Nat → Int} (hc0 : h (A 0) = zcE (.inr (7, [za (A 1), za (A 4), za (A 24), za (A 27), zi kt, za (A 47), za (A 49), za (A 52), za (A 63), za (A 68), za (A 72)]))) (hc1 : h (A 1) = zcE (.inr (4, [za (A 2), za (A 3), zi (th : Int), zi (fx : Int), zi (d : Int), zi (w : Int)]))) (hc2 : h (A 2) = zcE (.inl (0, 13, .inl Y))) (hc3 : h (A 3) = zcE (.inl (0, 3, .inl Q))) (hD : [(A 0), (A 1), (A 2), (A 3)].Nodup) (hth : th < 8192) (hq : ∀ p : Nat, p < 13 → zInI (qv Q ((p : Int) - 6))) : zEv k_X7_count [za (A 0), zi 3] h (fun v h2 => v = some (zi (mk (poleB th Q) : Int)) ∧ h2 = h) := by
  have hh : h = zov [((A 0), .inr (7, [za (A 1), za (A 4), za (A 24), za (A 27), zi kt, za (A 47), za (A 49), za (A 52), za (A 63), za (A 68), za (A 72)])), ((A 1), .inr (4, [za (A 2), za (A 3), zi (th : Int), zi (fx : Int), zi (d : Int), zi (w : Int)])), ((A 2), .inl (0, 13, .inl Y)), ((A 3), .inl (0, 3, .inl Q))] h := zov_self (List.forall_mem_cons.mpr ⟨hc0, List.forall_mem_cons.mpr ⟨hc1, List.forall_mem_cons.mpr ⟨hc2, List.forall_mem_cons.mpr ⟨hc3, fun _ q => absurd q List.not_mem_nil⟩⟩⟩⟩)
  refine zEv.body (I := (7, xI_X7_count, 2, 3, 63, 0, 0, false)) (rt := (some .int)) [some (za (A 0)), some (zi 3)] rfl rfl rfl rfl ?_
  refine Zn.eq rfl rfl rfl hh ?_
  have hD : zND ([((A 0), .inr (7, [za (A 1), za (A 4), za (A 24), za (A 27), zi kt, za (A 47), za (A 49), za (A 52), za (A 63), za (A 68), za (A 72)])), ((A 1), .inr (4, [za (A 2), za (A 3), zi (th : Int), zi (fx : Int), zi (d : Int), zi (w : Int)])), ((A 2), .inl (0, 13, .inl Y)), ((A 3), .inl (0, 3, .inl Q))]) := hD
  refine Zn.seg (pc2 := 1) (ls2 := [some (za (A 0)), some (zi 3)]) (st2 := [zi 3]) [(0, .iload_n 1)] (by decide +kernel) rfl ?_
  refine Zn.tswIn (d := 96) (lo := 0) (hh := 6) (offs := #[43, 51, 59, 67, 75, 83, 88]) 68 3 (by decide +kernel) ⟨by decide, by decide⟩ (by decide) (by decide) rfl rfl ?_
  refine Zn.seg (pc2 := 69) (ls2 := [some (za (A 0)), some (zi 3)]) (st2 := [za (A 0)]) [(68, .aload_n 0)] (by decide +kernel) rfl ?_
  refine Zn.get (ix := 12) hD 0 (by decide +kernel) rfl rfl rfl ?_
  refine Zn.call (ins := .invokevirtual 143) [za (A 1)] [] (by decide +kernel) rfl rfl rfl ⟨rfl, rfl⟩ ⟨rfl, rfl, rfl⟩ rfl (zrecvV hD (p := 1) rfl rfl rfl) (sp_X4_poles (o := (A 1)) (ya := (A 2)) (qa := (A 3)) (th := th) (fx := fx) (d := d) (w := w) (qf := Q) (zov_get hD 1 rfl) (zov_get hD 3 rfl) (nd_sub hD [1, 3] rfl rfl) (hth) (hq)) (fun v h2 hp => ?_)
  obtain ⟨rfl, hq_2⟩ := hp
  refine Zn.eq (pc2 := 75) (ls2 := [some (za (A 0)), some (zi 3)]) (st2 := [zi (mk (poleB th Q) : Int)]) (h2 := zov ([((A 0), .inr (7, [za (A 1), za (A 4), za (A 24), za (A 27), zi kt, za (A 47), za (A 49), za (A 52), za (A 63), za (A 68), za (A 72)])), ((A 1), .inr (4, [za (A 2), za (A 3), zi (th : Int), zi (fx : Int), zi (d : Int), zi (w : Int)])), ((A 2), .inl (0, 13, .inl Y)), ((A 3), .inl (0, 3, .inl Q))]) h) rfl rfl rfl hq_2 ?_
  have hD : zND ([((A 0), .inr (7, [za (A 1), za (A 4), za (A 24), za (A 27), zi kt, za (A 47), za (A 49), za (A 52), za (A 63), za (A 68), za (A 72)])), ((A 1), .inr (4, [za (A 2), za (A 3), zi (th : Int), zi (fx : Int), zi (d : Int), zi (w : Int)])), ((A 2), .inl (0, 13, .inl Y)), ((A 3), .inl (0, 3, .inl Q))]) := hD
  exact Zn.iret (by decide +kernel) rfl (⟨by first | rfl | (refine congrArg some (congrArg zi ?_); first | omega | (simp_all; done) | (simp_all; omega)), hh.symm⟩)
theorem sp_X7_count_w4 {h : xH} {A : Nat → Nat} {kt : Int} {th fx d w : Nat} {Y Q : Nat → Int} (hc0 : h (A 0) = zcE (.inr (7, [za (A 1), za (A 4), za (A 24), za (A 27), zi kt, za (A 47), za (A 49), za (A 52), za (A 63), za (A 68), za (A 72)]))) (hc1 : h (A 1) = zcE (.inr (4, [za (A 2), za (A 3), zi (th : Int), zi (fx : Int), zi (d : Int), zi (w : Int)]))) (hc2 : h (A 2) = zcE (.inl (0, 13, .inl Y))) (hc3 : h (A 3) = zcE (.inl (0, 3, .inl Q))) (hD : [(A 0), (A 1), (A 2), (A 3)].Nodup) (hfx : fx < 8192) : zEv k_X7_count [za (A 0), zi 4] h (fun v h2 => v = some (zi ((d : Int) + 2 - (pop fx : Int))) ∧ h2 = h) := by
  have hh : h = zov [((A 0), .inr (7, [za (A 1), za (A 4), za (A 24), za (A 27), zi kt, za (A 47), za (A 49), za (A 52), za (A 63), za (A 68), za (A 72)])), ((A 1), .inr (4, [za (A 2), za (A 3), zi (th : Int), zi (fx : Int), zi (d : Int), zi (w : Int)])), ((A 2), .inl (0, 13, .inl Y)), ((A 3), .inl (0, 3, .inl Q))] h := zov_self (List.forall_mem_cons.mpr ⟨hc0, List.forall_mem_cons.mpr ⟨hc1, List.forall_mem_cons.mpr ⟨hc2, List.forall_mem_cons.mpr ⟨hc3, fun _ q => absurd q List.not_mem_nil⟩⟩⟩⟩)
  refine zEv.body (I := (7, xI_X7_count, 2, 3, 63, 0, 0, false)) (rt := (some .int)) [some (za (A 0)), some (zi 4)] rfl rfl rfl rfl ?_
  refine Zn.eq rfl rfl rfl hh ?_
  have hD : zND ([((A 0), .inr (7, [za (A 1), za (A 4), za (A 24), za (A 27), zi kt, za (A 47), za (A 49), za (A 52), za (A 63), za (A 68), za (A 72)])), ((A 1), .inr (4, [za (A 2), za (A 3), zi (th : Int), zi (fx : Int), zi (d : Int), zi (w : Int)])), ((A 2), .inl (0, 13, .inl Y)), ((A 3), .inl (0, 3, .inl Q))]) := hD
  refine Zn.seg (pc2 := 1) (ls2 := [some (za (A 0)), some (zi 4)]) (st2 := [zi 4]) [(0, .iload_n 1)] (by decide +kernel) rfl ?_
  refine Zn.tswIn (d := 96) (lo := 0) (hh := 6) (offs := #[43, 51, 59, 67, 75, 83, 88]) 76 4 (by decide +kernel) ⟨by decide, by decide⟩ (by decide) (by decide) rfl rfl ?_
  refine Zn.seg (pc2 := 77) (ls2 := [some (za (A 0)), some (zi 4)]) (st2 := [za (A 0)]) [(76, .aload_n 0)] (by decide +kernel) rfl ?_
  refine Zn.get (ix := 12) hD 0 (by decide +kernel) rfl rfl rfl ?_
  refine Zn.call (ins := .invokevirtual 146) [za (A 1)] [] (by decide +kernel) rfl rfl rfl ⟨rfl, rfl⟩ ⟨rfl, rfl, rfl⟩ rfl (zrecvV hD (p := 1) rfl rfl rfl) (sp_X4_needed (o := (A 1)) (ya := (A 2)) (qa := (A 3)) (th := th) (fx := fx) (d := d) (w := w) (zov_get hD 1 rfl) (by first | assumption | omega)) (fun v h2 hp => ?_)
  obtain ⟨rfl, hq_2⟩ := hp
  refine Zn.eq (pc2 := 83) (ls2 := [some (za (A 0)), some (zi 4)]) (st2 := [zi ((d : Int) + 2 - (pop fx : Int))]) (h2 := zov ([((A 0), .inr (7, [za (A 1), za (A 4), za (A 24), za (A 27), zi kt, za (A 47), za (A 49), za (A 52), za (A 63), za (A 68), za (A 72)])), ((A 1), .inr (4, [za (A 2), za (A 3), zi (th : Int), zi (fx : Int), zi (d : Int), zi (w : Int)])), ((A 2), .inl (0, 13, .inl Y)), ((A 3), .inl (0, 3, .inl Q))]) h) rfl rfl rfl hq_2 ?_
  have hD : zND ([((A 0), .inr (7, [za (A 1), za (A 4), za (A 24), za (A 27), zi kt, za (A 47), za (A 49), za (A 52), za (A 63), za (A 68), za (A 72)])), ((A 1), .inr (4, [za (A 2), za (A 3), zi (th : Int), zi (fx : Int), zi (d : Int), zi (w : Int)])), ((A 2), .inl (0, 13, .inl Y)), ((A 3), .inl (0, 3, .inl Q))]) := hD
  exact Zn.iret (by decide +kernel) rfl (⟨by first | rfl | (refine congrArg some (congrArg zi ?_); first | omega | (simp_all; done) | (simp_all; omega)), hh.symm⟩)
theorem sp_X7_count_w5 {h : xH} {A : Nat → Nat} {kt : Int} {th fx d w : Nat} {Y Q : Nat → Int} (hc0 : h (A 0) = zcE (.inr (7, [za (A 1), za (A 4), za (A 24), za (A 27), zi kt, za (A 47), za (A 49), za (A 52), za (A 63), za (A 68), za (A 72)]))) (hc1 : h (A 1) = zcE (.inr (4, [za (A 2), za (A 3), zi (th : Int), zi (fx : Int), zi (d : Int), zi (w : Int)]))) (hc2 : h (A 2) = zcE (.inl (0, 13, .inl Y))) (hc3 : h (A 3) = zcE (.inl (0, 3, .inl Q))) (hD : [(A 0), (A 1), (A 2), (A 3)].Nodup) (hth : th < 8192) (hq : ∀ p : Nat, p < 13 → zInI (qv Q ((p : Int) - 6))) (hd : d ≤ 3) : zEv k_X7_count [za (A 0), zi 5] h (fun v h2 => v = some (zi (whyV (mk (poleB th Q)) (pop th) (d : Int))) ∧ h2 = h) := by
  have hh : h = zov [((A 0), .inr (7, [za (A 1), za (A 4), za (A 24), za (A 27), zi kt, za (A 47), za (A 49), za (A 52), za (A 63), za (A 68), za (A 72)])), ((A 1), .inr (4, [za (A 2), za (A 3), zi (th : Int), zi (fx : Int), zi (d : Int), zi (w : Int)])), ((A 2), .inl (0, 13, .inl Y)), ((A 3), .inl (0, 3, .inl Q))] h := zov_self (List.forall_mem_cons.mpr ⟨hc0, List.forall_mem_cons.mpr ⟨hc1, List.forall_mem_cons.mpr ⟨hc2, List.forall_mem_cons.mpr ⟨hc3, fun _ q => absurd q List.not_mem_nil⟩⟩⟩⟩)
  refine zEv.body (I := (7, xI_X7_count, 2, 3, 63, 0, 0, false)) (rt := (some .int)) [some (za (A 0)), some (zi 5)] rfl rfl rfl rfl ?_
  refine Zn.eq rfl rfl rfl hh ?_
  have hD : zND ([((A 0), .inr (7, [za (A 1), za (A 4), za (A 24), za (A 27), zi kt, za (A 47), za (A 49), za (A 52), za (A 63), za (A 68), za (A 72)])), ((A 1), .inr (4, [za (A 2), za (A 3), zi (th : Int), zi (fx : Int), zi (d : Int), zi (w : Int)])), ((A 2), .inl (0, 13, .inl Y)), ((A 3), .inl (0, 3, .inl Q))]) := hD
  refine Zn.seg (pc2 := 1) (ls2 := [some (za (A 0)), some (zi 5)]) (st2 := [zi 5]) [(0, .iload_n 1)] (by decide +kernel) rfl ?_
  refine Zn.tswIn (d := 96) (lo := 0) (hh := 6) (offs := #[43, 51, 59, 67, 75, 83, 88]) 84 5 (by decide +kernel) ⟨by decide, by decide⟩ (by decide) (by decide) rfl rfl ?_
  refine Zn.seg (pc2 := 85) (ls2 := [some (za (A 0)), some (zi 5)]) (st2 := [za (A 0)]) [(84, .aload_n 0)] (by decide +kernel) rfl ?_
  refine Zn.call (ins := .invokevirtual 149) [za (A 0)] [] (by decide +kernel) rfl rfl rfl ⟨rfl, rfl⟩ ⟨rfl, rfl, rfl⟩ rfl (zrecvV hD (p := 0) rfl rfl rfl) (sp_X7_why_x (kt := kt) (th := th) (fx := fx) (d := d) (w := w) (Y := Y) (Q := Q) (zov_get hD 0 rfl) (zov_get hD 1 rfl) (zov_get hD 2 rfl) (zov_get hD 3 rfl) (nd_sub hD [0, 1, 2, 3] rfl rfl) (hth) (hq) (hd)) (fun v h2 hp => ?_)
  obtain ⟨rfl, hq_2⟩ := hp
  refine Zn.eq (pc2 := 88) (ls2 := [some (za (A 0)), some (zi 5)]) (st2 := [zi (whyV (mk (poleB th Q)) (pop th) (d : Int))]) (h2 := zov ([((A 0), .inr (7, [za (A 1), za (A 4), za (A 24), za (A 27), zi kt, za (A 47), za (A 49), za (A 52), za (A 63), za (A 68), za (A 72)])), ((A 1), .inr (4, [za (A 2), za (A 3), zi (th : Int), zi (fx : Int), zi (d : Int), zi (w : Int)])), ((A 2), .inl (0, 13, .inl Y)), ((A 3), .inl (0, 3, .inl Q))]) h) rfl rfl rfl hq_2 ?_
  have hD : zND ([((A 0), .inr (7, [za (A 1), za (A 4), za (A 24), za (A 27), zi kt, za (A 47), za (A 49), za (A 52), za (A 63), za (A 68), za (A 72)])), ((A 1), .inr (4, [za (A 2), za (A 3), zi (th : Int), zi (fx : Int), zi (d : Int), zi (w : Int)])), ((A 2), .inl (0, 13, .inl Y)), ((A 3), .inl (0, 3, .inl Q))]) := hD
  exact Zn.iret (by decide +kernel) rfl (⟨by first | rfl | (refine congrArg some (congrArg zi ?_); first | omega | (simp_all; done) | (simp_all; omega)), hh.symm⟩)
theorem sp_X7_count_w6 {h : xH} {A : Nat → Nat} {kt k : Int} (hc0 : h (A 0) = zcE (.inr (7, [za (A 1), za (A 4), za (A 24), za (A 27), zi kt, za (A 47), za (A 49), za (A 52), za (A 63), za (A 68), za (A 72)]))) (hc1 : h (A 4) = zcE (.inr (3, [za (A 5), zi k]))) (hD : [(A 0), (A 4)].Nodup) : zEv k_X7_count [za (A 0), zi 6] h (fun v h2 => v = some (zi k) ∧ h2 = h) := by
  have hh : h = zov [((A 0), .inr (7, [za (A 1), za (A 4), za (A 24), za (A 27), zi kt, za (A 47), za (A 49), za (A 52), za (A 63), za (A 68), za (A 72)])), ((A 4), .inr (3, [za (A 5), zi k]))] h := zov_self (List.forall_mem_cons.mpr ⟨hc0, List.forall_mem_cons.mpr ⟨hc1, fun _ q => absurd q List.not_mem_nil⟩⟩)
  refine zEv.body (I := (7, xI_X7_count, 2, 3, 63, 0, 0, false)) (rt := (some .int)) [some (za (A 0)), some (zi 6)] rfl rfl rfl rfl ?_
  refine Zn.eq rfl rfl rfl hh ?_
  have hD : zND ([((A 0), .inr (7, [za (A 1), za (A 4), za (A 24), za (A 27), zi kt, za (A 47), za (A 49), za (A 52), za (A 63), za (A 68), za (A 72)])), ((A 4), .inr (3, [za (A 5), zi k]))]) := hD
  refine Zn.seg (pc2 := 1) (ls2 := [some (za (A 0)), some (zi 6)]) (st2 := [zi 6]) [(0, .iload_n 1)] (by decide +kernel) rfl ?_
  refine Zn.tswIn (d := 96) (lo := 0) (hh := 6) (offs := #[43, 51, 59, 67, 75, 83, 88]) 89 6 (by decide +kernel) ⟨by decide, by decide⟩ (by decide) (by decide) rfl rfl ?_
  refine Zn.seg (pc2 := 90) (ls2 := [some (za (A 0)), some (zi 6)]) (st2 := [za (A 0)]) [(89, .aload_n 0)] (by decide +kernel) rfl ?_
  refine Zn.get (ix := 19) hD 0 (by decide +kernel) rfl rfl rfl ?_
  refine Zn.get (ix := 152) hD 1 (by decide +kernel) rfl rfl rfl ?_
  exact Zn.iret (by decide +kernel) rfl (⟨by first | rfl | (refine congrArg some (congrArg zi ?_); first | omega | (simp_all; done) | (simp_all; omega)), hh.symm⟩)
theorem sp_X7_count_bad {h : xH} {A : Nat → Nat} {x : Int} (zx : zInI x) (hb : x < 0 ∨ 6 < x) : zEv k_X7_count [za (A 0), zi x] h (fun v h2 => v = some (zi (-1)) ∧ h2 = h) := by
  have hD : ([] : List Nat).Nodup := List.nodup_nil
  have hh : h = zov [] h := zov_self (fun _ q => absurd q List.not_mem_nil)
  have zx1 := zx.1
  have zx2 := zx.2
  refine zEv.body (I := (7, xI_X7_count, 2, 3, 63, 0, 0, false)) (rt := (some .int)) [some (za (A 0)), some (zi x)] rfl rfl rfl rfl ?_
  refine Zn.eq rfl rfl rfl hh ?_
  have hD : zND ([]) := hD
  refine Zn.seg (pc2 := 1) (ls2 := [some (za (A 0)), some (zi x)]) (st2 := [zi x]) [(0, .iload_n 1)] (by decide +kernel) rfl ?_
  refine Zn.tswOut (d := 96) (lo := 0) (hh := 6) (offs := #[43, 51, 59, 67, 75, 83, 88]) 97 (by decide +kernel) ⟨by omega, by omega⟩ (by omega) rfl ?_
  refine Zn.seg (pc2 := 98) (ls2 := [some (za (A 0)), some (zi x)]) (st2 := [zi (-1)]) [(97, .iconst (-1))] (by decide +kernel) rfl ?_
  exact Zn.iret (by decide +kernel) rfl (⟨by first | rfl | (refine congrArg some (congrArg zi ?_); first | omega | (simp_all; done) | (simp_all; omega)), hh.symm⟩)
theorem sp_X6_add {h : xH} {o la l : Nat} {x fl at_ nu na_ : Int} {T : Nat → Int} (hc0 : h o = zcE (.inr (6, [za la, zi (l : Int), zi fl, zi at_, zi nu, zi na_]))) (hc1 : h la = zcE (.inl (0, 90, .inl T))) (hD : [o, la].Nodup) (hl : l < 90) : zEv k_X6_add [za o, zi x] h (fun v h2 => v = none ∧ h2 = zov [(o, .inr (6, [za la, zi ((l : Int) + 1), zi fl, zi at_, zi nu, zi na_])), (la, .inl (0, 90, .inl (va_up T l x)))] h) := by
  have hh : h = zov [(o, .inr (6, [za la, zi (l : Int), zi fl, zi at_, zi nu, zi na_])), (la, .inl (0, 90, .inl T))] h := zov_self (List.forall_mem_cons.mpr ⟨hc0, List.forall_mem_cons.mpr ⟨hc1, fun _ q => absurd q List.not_mem_nil⟩⟩)
  refine zEv.body (I := (6, xI_X6_add, 2, 0, 0, 0, 0, false)) (rt := none) [some (za o), some (zi x)] rfl rfl rfl rfl ?_
  refine Zn.eq rfl rfl rfl hh ?_
  have hD : zND ([(o, .inr (6, [za la, zi (l : Int), zi fl, zi at_, zi nu, zi na_])), (la, .inl (0, 90, .inl T))]) := hD
  refine Zn.seg (pc2 := 1) (ls2 := [some (za o), some (zi x)]) (st2 := [za o]) [(0, .aload_n 0)] (by decide +kernel) rfl ?_
  refine Zn.get (ix := 15) hD 0 (by decide +kernel) rfl rfl rfl ?_
  refine Zn.seg (pc2 := 6) (ls2 := [some (za o), some (zi x)]) (st2 := [zi 90, zi (l : Int)]) [(4, .bipush 90)] (by decide +kernel) rfl ?_
  refine Zn.icmp (c := .ge) (off := 23) 29 (by decide +kernel) rfl ⟨by omega, by omega⟩ ⟨by decide, by decide⟩ (fun c_1 => absurd (show 90 ≤ (l : Int) from c_1) (by omega)) (fun c_1 => ?_)
  have c_1 : ¬ (90 ≤ (l : Int)) := c_1
  refine Zn.seg (pc2 := 10) (ls2 := [some (za o), some (zi x)]) (st2 := [za o]) [(9, .aload_n 0)] (by decide +kernel) rfl ?_
  refine Zn.get (ix := 9) hD 0 (by decide +kernel) rfl rfl rfl ?_
  refine Zn.seg (pc2 := 14) (ls2 := [some (za o), some (zi x)]) (st2 := [za o, za la]) [(13, .aload_n 0)] (by decide +kernel) rfl ?_
  refine Zn.get (ix := 15) hD 0 (by decide +kernel) rfl rfl rfl ?_
  refine Zn.seg (pc2 := 18) (ls2 := [some (za o), some (zi x)]) (st2 := [zi x, zi (l : Int), za la]) [(17, .iload_n 1)] (by decide +kernel) rfl ?_
  refine Zn.iast hD 1 (l) (by decide +kernel) rfl (by omega) (by omega) rfl ?_
  refine Zn.eq (h2 := zov ([(o, .inr (6, [za la, zi (l : Int), zi fl, zi at_, zi nu, zi na_])), (la, .inl (0, 90, .inl (va_up T l x)))]) h) rfl rfl rfl (rfl) ?_
  have hD : zND ([(o, .inr (6, [za la, zi (l : Int), zi fl, zi at_, zi nu, zi na_])), (la, .inl (0, 90, .inl (va_up T l x)))]) := hD
  refine Zn.seg (pc2 := 21) (ls2 := [some (za o), some (zi x)]) (st2 := [za o, za o]) [(19, .aload_n 0), (20, .dup)] (by decide +kernel) rfl ?_
  refine Zn.get (ix := 15) hD 0 (by decide +kernel) rfl rfl rfl ?_
  refine Zn.seg (pc2 := 26) (ls2 := [some (za o), some (zi x)]) (st2 := [zi ((l : Int) + 1), za o]) [(24, .iconst 1), (25, .iadd)] (by decide +kernel) rfl ?_
  refine Zn.put (ix := 15) hD 0 (by decide +kernel) rfl rfl rfl rfl rfl ?_
  refine Zn.eq (h2 := zov ([(o, .inr (6, [za la, zi ((l : Int) + 1), zi fl, zi at_, zi nu, zi na_])), (la, .inl (0, 90, .inl (va_up T l x)))]) h) rfl rfl rfl rfl ?_
  have hD : zND ([(o, .inr (6, [za la, zi ((l : Int) + 1), zi fl, zi at_, zi nu, zi na_])), (la, .inl (0, 90, .inl (va_up T l x)))]) := hD
  exact Zn.vret (by decide +kernel) rfl (⟨rfl, rfl⟩)
theorem sp_X7_type_bad {h : xH} {A : Nat → Nat} {x : Int} (zx : zInI x) (hb : ¬ (32 ≤ x ∧ x ≤ 126)) : zEv k_X7_type [za (A 0), zi x] h (fun v h2 => v = some (zi (-1)) ∧ h2 = h) := by
  have hD : ([] : List Nat).Nodup := List.nodup_nil
  have hh : h = zov [] h := zov_self (fun _ q => absurd q List.not_mem_nil)
  have zx1 := zx.1
  have zx2 := zx.2
  refine zEv.body (I := (7, xI_X7_type, 2, 1, 21, 0, 0, false)) (rt := (some .int)) [some (za (A 0)), some (zi x)] rfl rfl rfl rfl ?_
  refine Zn.eq rfl rfl rfl hh ?_
  have hD : zND ([]) := hD
  refine Zn.seg (pc2 := 3) (ls2 := [some (za (A 0)), some (zi x)]) (st2 := [zi 32, zi x]) [(0, .iload_n 1), (1, .bipush 32)] (by decide +kernel) rfl ?_
  refine Zn.icmp (c := .lt) (off := 9) 12 (by decide +kernel) rfl ⟨by omega, by omega⟩ ⟨by decide, by decide⟩ (fun c_1 => ?_) (fun c_1 => ?_)
  · have c_1 : x < 32 := c_1
    refine Zn.seg (pc2 := 13) (ls2 := [some (za (A 0)), some (zi x)]) (st2 := [zi (-1)]) [(12, .iconst (-1))] (by decide +kernel) rfl ?_
    exact Zn.iret (by decide +kernel) rfl (⟨by first | rfl | (refine congrArg some (congrArg zi ?_); first | omega | (simp_all; done) | (simp_all; omega)), hh.symm⟩)
  · have c_1 : ¬ (x < 32) := c_1
    refine Zn.seg (pc2 := 9) (ls2 := [some (za (A 0)), some (zi x)]) (st2 := [zi 126, zi x]) [(6, .iload_n 1), (7, .bipush 126)] (by decide +kernel) rfl ?_
    refine Zn.icmp (c := .le) (off := 5) 14 (by decide +kernel) rfl ⟨by omega, by omega⟩ ⟨by decide, by decide⟩ (fun c_2 => absurd (show x ≤ 126 from c_2) (by omega)) (fun c_2 => ?_)
    have c_2 : ¬ (x ≤ 126) := c_2
    refine Zn.seg (pc2 := 13) (ls2 := [some (za (A 0)), some (zi x)]) (st2 := [zi (-1)]) [(12, .iconst (-1))] (by decide +kernel) rfl ?_
    exact Zn.iret (by decide +kernel) rfl (⟨by first | rfl | (refine congrArg some (congrArg zi ?_); first | omega | (simp_all; done) | (simp_all; omega)), hh.symm⟩)
theorem sp_X7_type_full {h : xH} {A : Nat → Nat} {kt x : Int} {fl at_ nu na_ : Int} (hc0 : h (A 0) = zcE (.inr (7, [za (A 1), za (A 4), za (A 24), za (A 27), zi kt, za (A 47), za (A 49), za (A 52), za (A 63), za (A 68), za (A 72)]))) (hc1 : h (A 47) = zcE (.inr (6, [za (A 48), zi 90, zi fl, zi at_, zi nu, zi na_]))) (hD : [(A 0), (A 47)].Nodup) (hx : 32 ≤ x ∧ x ≤ 126) : zEv k_X7_type [za (A 0), zi x] h (fun v h2 => v = some (zi (-3)) ∧ h2 = h) := by
  have hh : h = zov [((A 0), .inr (7, [za (A 1), za (A 4), za (A 24), za (A 27), zi kt, za (A 47), za (A 49), za (A 52), za (A 63), za (A 68), za (A 72)])), ((A 47), .inr (6, [za (A 48), zi 90, zi fl, zi at_, zi nu, zi na_]))] h := zov_self (List.forall_mem_cons.mpr ⟨hc0, List.forall_mem_cons.mpr ⟨hc1, fun _ q => absurd q List.not_mem_nil⟩⟩)
  refine zEv.body (I := (7, xI_X7_type, 2, 1, 21, 0, 0, false)) (rt := (some .int)) [some (za (A 0)), some (zi x)] rfl rfl rfl rfl ?_
  refine Zn.eq rfl rfl rfl hh ?_
  have hD : zND ([((A 0), .inr (7, [za (A 1), za (A 4), za (A 24), za (A 27), zi kt, za (A 47), za (A 49), za (A 52), za (A 63), za (A 68), za (A 72)])), ((A 47), .inr (6, [za (A 48), zi 90, zi fl, zi at_, zi nu, zi na_]))]) := hD
  refine Zn.seg (pc2 := 3) (ls2 := [some (za (A 0)), some (zi x)]) (st2 := [zi 32, zi x]) [(0, .iload_n 1), (1, .bipush 32)] (by decide +kernel) rfl ?_
  refine Zn.icmp (c := .lt) (off := 9) 12 (by decide +kernel) rfl ⟨by omega, by omega⟩ ⟨by decide, by decide⟩ (fun c_1 => absurd (show x < 32 from c_1) (by omega)) (fun c_1 => ?_)
  have c_1 : ¬ (x < 32) := c_1
  refine Zn.seg (pc2 := 9) (ls2 := [some (za (A 0)), some (zi x)]) (st2 := [zi 126, zi x]) [(6, .iload_n 1), (7, .bipush 126)] (by decide +kernel) rfl ?_
  refine Zn.icmp (c := .le) (off := 5) 14 (by decide +kernel) rfl ⟨by omega, by omega⟩ ⟨by decide, by decide⟩ (fun c_2 => ?_) (fun c_2 => absurd (show x ≤ 126 from by omega) c_2)
  have c_2 : x ≤ 126 := c_2
  refine Zn.seg (pc2 := 15) (ls2 := [some (za (A 0)), some (zi x)]) (st2 := [za (A 0)]) [(14, .aload_n 0)] (by decide +kernel) rfl ?_
  refine Zn.get (ix := 36) hD 0 (by decide +kernel) rfl rfl rfl ?_
  refine Zn.get (ix := 155) hD 1 (by decide +kernel) rfl rfl rfl ?_
  refine Zn.seg (pc2 := 23) (ls2 := [some (za (A 0)), some (zi x)]) (st2 := [zi 90, zi 90]) [(21, .bipush 90)] (by decide +kernel) rfl ?_
  refine Zn.icmp (c := .lt) (off := 6) 29 (by decide +kernel) rfl ⟨by decide, by decide⟩ ⟨by decide, by decide⟩ (fun c_3 => absurd (show (90 : Int) < 90 from c_3) (by decide)) (fun c_3 => ?_)
  have c_3 : ¬ ((90 : Int) < 90) := c_3
  refine Zn.seg (pc2 := 28) (ls2 := [some (za (A 0)), some (zi x)]) (st2 := [zi (-3)]) [(26, .bipush (-3))] (by decide +kernel) rfl ?_
  exact Zn.iret (by decide +kernel) rfl (⟨by first | rfl | (refine congrArg some (congrArg zi ?_); first | omega | (simp_all; done) | (simp_all; omega)), hh.symm⟩)
theorem sp_X7_type_ok {h : xH} {A : Nat → Nat} {kt x : Int} {l : Nat} {fl at_ nu na_ : Int} {T : Nat → Int} (hc0 : h (A 0) = zcE (.inr (7, [za (A 1), za (A 4), za (A 24), za (A 27), zi kt, za (A 47), za (A 49), za (A 52), za (A 63), za (A 68), za (A 72)]))) (hc1 : h (A 47) = zcE (.inr (6, [za (A 48), zi (l : Int), zi fl, zi at_, zi nu, zi na_]))) (hc2 : h (A 48) = zcE (.inl (0, 90, .inl T))) (hD : [(A 0), (A 47), (A 48)].Nodup) (hx : 32 ≤ x ∧ x ≤ 126) (hl : l < 90) : zEv k_X7_type [za (A 0), zi x] h (fun v h2 => v = some (zi ((l : Int) + 1)) ∧ h2 = zov [((A 0), .inr (7, [za (A 1), za (A 4), za (A 24), za (A 27), zi kt, za (A 47), za (A 49), za (A 52), za (A 63), za (A 68), za (A 72)])), ((A 47), .inr (6, [za (A 48), zi ((l : Int) + 1), zi fl, zi at_, zi nu, zi na_])), ((A 48), .inl (0, 90, .inl (va_up T l x)))] h) := by
  have hh : h = zov [((A 0), .inr (7, [za (A 1), za (A 4), za (A 24), za (A 27), zi kt, za (A 47), za (A 49), za (A 52), za (A 63), za (A 68), za (A 72)])), ((A 47), .inr (6, [za (A 48), zi (l : Int), zi fl, zi at_, zi nu, zi na_])), ((A 48), .inl (0, 90, .inl T))] h := zov_self (List.forall_mem_cons.mpr ⟨hc0, List.forall_mem_cons.mpr ⟨hc1, List.forall_mem_cons.mpr ⟨hc2, fun _ q => absurd q List.not_mem_nil⟩⟩⟩)
  refine zEv.body (I := (7, xI_X7_type, 2, 1, 21, 0, 0, false)) (rt := (some .int)) [some (za (A 0)), some (zi x)] rfl rfl rfl rfl ?_
  refine Zn.eq rfl rfl rfl hh ?_
  have hD : zND ([((A 0), .inr (7, [za (A 1), za (A 4), za (A 24), za (A 27), zi kt, za (A 47), za (A 49), za (A 52), za (A 63), za (A 68), za (A 72)])), ((A 47), .inr (6, [za (A 48), zi (l : Int), zi fl, zi at_, zi nu, zi na_])), ((A 48), .inl (0, 90, .inl T))]) := hD
  refine Zn.seg (pc2 := 3) (ls2 := [some (za (A 0)), some (zi x)]) (st2 := [zi 32, zi x]) [(0, .iload_n 1), (1, .bipush 32)] (by decide +kernel) rfl ?_
  refine Zn.icmp (c := .lt) (off := 9) 12 (by decide +kernel) rfl ⟨by omega, by omega⟩ ⟨by decide, by decide⟩ (fun c_1 => absurd (show x < 32 from c_1) (by omega)) (fun c_1 => ?_)
  have c_1 : ¬ (x < 32) := c_1
  refine Zn.seg (pc2 := 9) (ls2 := [some (za (A 0)), some (zi x)]) (st2 := [zi 126, zi x]) [(6, .iload_n 1), (7, .bipush 126)] (by decide +kernel) rfl ?_
  refine Zn.icmp (c := .le) (off := 5) 14 (by decide +kernel) rfl ⟨by omega, by omega⟩ ⟨by decide, by decide⟩ (fun c_2 => ?_) (fun c_2 => absurd (show x ≤ 126 from by omega) c_2)
  have c_2 : x ≤ 126 := c_2
  refine Zn.seg (pc2 := 15) (ls2 := [some (za (A 0)), some (zi x)]) (st2 := [za (A 0)]) [(14, .aload_n 0)] (by decide +kernel) rfl ?_
  refine Zn.get (ix := 36) hD 0 (by decide +kernel) rfl rfl rfl ?_
  refine Zn.get (ix := 155) hD 1 (by decide +kernel) rfl rfl rfl ?_
  refine Zn.seg (pc2 := 23) (ls2 := [some (za (A 0)), some (zi x)]) (st2 := [zi 90, zi (l : Int)]) [(21, .bipush 90)] (by decide +kernel) rfl ?_
  refine Zn.icmp (c := .lt) (off := 6) 29 (by decide +kernel) rfl ⟨by omega, by omega⟩ ⟨by decide, by decide⟩ (fun c_3 => ?_) (fun c_3 => absurd (show (l : Int) < 90 from by omega) c_3)
  have c_3 : (l : Int) < 90 := c_3
  refine Zn.seg (pc2 := 30) (ls2 := [some (za (A 0)), some (zi x)]) (st2 := [za (A 0)]) [(29, .aload_n 0)] (by decide +kernel) rfl ?_
  refine Zn.get (ix := 36) hD 0 (by decide +kernel) rfl rfl rfl ?_
  refine Zn.seg (pc2 := 34) (ls2 := [some (za (A 0)), some (zi x)]) (st2 := [zi x, za (A 47)]) [(33, .iload_n 1)] (by decide +kernel) rfl ?_
  refine Zn.call (ins := .invokevirtual 158) [za (A 47), zi x] [] (by decide +kernel) rfl rfl rfl ⟨rfl, rfl⟩ ⟨rfl, rfl, rfl⟩ rfl (zrecvV hD (p := 1) rfl rfl rfl) (sp_X6_add (o := (A 47)) (la := (A 48)) (l := l) (x := x) (fl := fl) (at_ := at_) (nu := nu) (na_ := na_) (T := T) (zov_get hD 1 rfl) (zov_get hD 2 rfl) (nd_sub hD [1, 2] rfl rfl) (by first | assumption | omega)) (fun v h2 hp => ?_)
  obtain ⟨rfl, hq_4⟩ := hp
  refine Zn.eq (pc2 := 37) (ls2 := [some (za (A 0)), some (zi x)]) (st2 := []) (h2 := zov ([((A 0), .inr (7, [za (A 1), za (A 4), za (A 24), za (A 27), zi kt, za (A 47), za (A 49), za (A 52), za (A 63), za (A 68), za (A 72)])), ((A 47), .inr (6, [za (A 48), zi ((l : Int) + 1), zi fl, zi at_, zi nu, zi na_])), ((A 48), .inl (0, 90, .inl (va_up T l x)))]) h) rfl rfl rfl (hq_4.trans (zov_put hD [1, 2] _ rfl)) ?_
  have hD : zND ([((A 0), .inr (7, [za (A 1), za (A 4), za (A 24), za (A 27), zi kt, za (A 47), za (A 49), za (A 52), za (A 63), za (A 68), za (A 72)])), ((A 47), .inr (6, [za (A 48), zi ((l : Int) + 1), zi fl, zi at_, zi nu, zi na_])), ((A 48), .inl (0, 90, .inl (va_up T l x)))]) := hD
  refine Zn.seg (pc2 := 38) (ls2 := [some (za (A 0)), some (zi x)]) (st2 := [za (A 0)]) [(37, .aload_n 0)] (by decide +kernel) rfl ?_
  refine Zn.get (ix := 36) hD 0 (by decide +kernel) rfl rfl rfl ?_
  refine Zn.get (ix := 155) hD 1 (by decide +kernel) rfl rfl rfl ?_
  exact Zn.iret (by decide +kernel) rfl (⟨by first | rfl | (refine congrArg some (congrArg zi ?_); first | omega | (simp_all; done) | (simp_all; omega)), rfl⟩)
theorem sp_X7_seed_bad {h : xH} {A : Nat → Nat} {x : Int} (zx : zInI x) (hb : x < 0) : zEv k_X7_seed [za (A 0), zi x] h (fun v h2 => v = some (zi (-1)) ∧ h2 = h) := by
  have hD : ([] : List Nat).Nodup := List.nodup_nil
  have hh : h = zov [] h := zov_self (fun _ q => absurd q List.not_mem_nil)
  have zx1 := zx.1
  have zx2 := zx.2
  refine zEv.body (I := (7, xI_X7_seed, 3, 0, 0, 0, 0, false)) (rt := (some .int)) [some (za (A 0)), some (zi x), none] rfl rfl rfl rfl ?_
  refine Zn.eq rfl rfl rfl hh ?_
  have hD : zND ([]) := hD
  refine Zn.seg (pc2 := 1) (ls2 := [some (za (A 0)), some (zi x), none]) (st2 := [zi x]) [(0, .iload_n 1)] (by decide +kernel) rfl ?_
  refine Zn.ifc (c := .ge) (off := 5) 6 (by decide +kernel) rfl ⟨by omega, by omega⟩ (fun c_1 => absurd (show 0 ≤ x from c_1) (by omega)) (fun c_1 => ?_)
  have c_1 : ¬ (0 ≤ x) := c_1
  refine Zn.seg (pc2 := 5) (ls2 := [some (za (A 0)), some (zi x), none]) (st2 := [zi (-1)]) [(4, .iconst (-1))] (by decide +kernel) rfl ?_
  exact Zn.iret (by decide +kernel) rfl (⟨by first | rfl | (refine congrArg some (congrArg zi ?_); first | omega | (simp_all; done) | (simp_all; omega)), hh.symm⟩)
theorem sp_X7_seed_ok {h : xH} {A : Nat → Nat} {kt : Int} {th fx d w : Nat} {Y Q : Nat → Int} {b : Nat} (hc0 : h (A 0) = zcE (.inr (7, [za (A 1), za (A 4), za (A 24), za (A 27), zi kt, za (A 47), za (A 49), za (A 52), za (A 63), za (A 68), za (A 72)]))) (hc1 : h (A 1) = zcE (.inr (4, [za (A 2), za (A 3), zi (th : Int), zi (fx : Int), zi (d : Int), zi (w : Int)]))) (hc2 : h (A 2) = zcE (.inl (0, 13, .inl Y))) (hc3 : h (A 3) = zcE (.inl (0, 3, .inl Q))) (hD : [(A 0), (A 1), (A 2), (A 3)].Nodup) (hb : b < 2147483648) : zEv k_X7_seed [za (A 0), zi (b : Int)] h (fun v h2 => v = some (zi (w : Int)) ∧ h2 = zov [((A 0), .inr (7, [za (A 1), za (A 4), za (A 24), za (A 27), zi kt, za (A 47), za (A 49), za (A 52), za (A 63), za (A 68), za (A 72)])), ((A 1), .inr (4, [za (A 2), za (A 3), zi (th : Int), zi (fx : Int), zi (d : Int), zi (b : Int)])), ((A 2), .inl (0, 13, .inl Y)), ((A 3), .inl (0, 3, .inl Q))] h) := by
  have hh : h = zov [((A 0), .inr (7, [za (A 1), za (A 4), za (A 24), za (A 27), zi kt, za (A 47), za (A 49), za (A 52), za (A 63), za (A 68), za (A 72)])), ((A 1), .inr (4, [za (A 2), za (A 3), zi (th : Int), zi (fx : Int), zi (d : Int), zi (w : Int)])), ((A 2), .inl (0, 13, .inl Y)), ((A 3), .inl (0, 3, .inl Q))] h := zov_self (List.forall_mem_cons.mpr ⟨hc0, List.forall_mem_cons.mpr ⟨hc1, List.forall_mem_cons.mpr ⟨hc2, List.forall_mem_cons.mpr ⟨hc3, fun _ q => absurd q List.not_mem_nil⟩⟩⟩⟩)
  refine zEv.body (I := (7, xI_X7_seed, 3, 0, 0, 0, 0, false)) (rt := (some .int)) [some (za (A 0)), some (zi (b : Int)), none] rfl rfl rfl rfl ?_
  refine Zn.eq rfl rfl rfl hh ?_
  have hD : zND ([((A 0), .inr (7, [za (A 1), za (A 4), za (A 24), za (A 27), zi kt, za (A 47), za (A 49), za (A 52), za (A 63), za (A 68), za (A 72)])), ((A 1), .inr (4, [za (A 2), za (A 3), zi (th : Int), zi (fx : Int), zi (d : Int), zi (w : Int)])), ((A 2), .inl (0, 13, .inl Y)), ((A 3), .inl (0, 3, .inl Q))]) := hD
  refine Zn.seg (pc2 := 1) (ls2 := [some (za (A 0)), some (zi (b : Int)), none]) (st2 := [zi (b : Int)]) [(0, .iload_n 1)] (by decide +kernel) rfl ?_
  refine Zn.ifc (c := .ge) (off := 5) 6 (by decide +kernel) rfl ⟨by omega, by omega⟩ (fun c_1 => ?_) (fun c_1 => absurd (show 0 ≤ (b : Int) from by omega) c_1)
  have c_1 : 0 ≤ (b : Int) := c_1
  refine Zn.seg (pc2 := 7) (ls2 := [some (za (A 0)), some (zi (b : Int)), none]) (st2 := [za (A 0)]) [(6, .aload_n 0)] (by decide +kernel) rfl ?_
  refine Zn.get (ix := 12) hD 0 (by decide +kernel) rfl rfl rfl ?_
  refine Zn.get (ix := 168) hD 1 (by decide +kernel) rfl rfl rfl ?_
  refine Zn.seg (pc2 := 15) (ls2 := [some (za (A 0)), some (zi (b : Int)), some (zi (w : Int))]) (st2 := [za (A 0)]) [(13, .istore_n 2), (14, .aload_n 0)] (by decide +kernel) rfl ?_
  refine Zn.get (ix := 12) hD 0 (by decide +kernel) rfl rfl rfl ?_
  refine Zn.seg (pc2 := 19) (ls2 := [some (za (A 0)), some (zi (b : Int)), some (zi (w : Int))]) (st2 := [zi (b : Int), za (A 1)]) [(18, .iload_n 1)] (by decide +kernel) rfl ?_
  refine Zn.put (ix := 168) hD 1 (by decide +kernel) rfl rfl rfl rfl rfl ?_
  refine Zn.eq (h2 := zov ([((A 0), .inr (7, [za (A 1), za (A 4), za (A 24), za (A 27), zi kt, za (A 47), za (A 49), za (A 52), za (A 63), za (A 68), za (A 72)])), ((A 1), .inr (4, [za (A 2), za (A 3), zi (th : Int), zi (fx : Int), zi (d : Int), zi (b : Int)])), ((A 2), .inl (0, 13, .inl Y)), ((A 3), .inl (0, 3, .inl Q))]) h) rfl rfl rfl rfl ?_
  have hD : zND ([((A 0), .inr (7, [za (A 1), za (A 4), za (A 24), za (A 27), zi kt, za (A 47), za (A 49), za (A 52), za (A 63), za (A 68), za (A 72)])), ((A 1), .inr (4, [za (A 2), za (A 3), zi (th : Int), zi (fx : Int), zi (d : Int), zi (b : Int)])), ((A 2), .inl (0, 13, .inl Y)), ((A 3), .inl (0, 3, .inl Q))]) := hD
  refine Zn.seg (pc2 := 23) (ls2 := [some (za (A 0)), some (zi (b : Int)), some (zi (w : Int))]) (st2 := [zi (w : Int)]) [(22, .iload_n 2)] (by decide +kernel) rfl ?_
  exact Zn.iret (by decide +kernel) rfl (⟨by first | rfl | (refine congrArg some (congrArg zi ?_); first | omega | (simp_all; done) | (simp_all; omega)), rfl⟩)
theorem sp_X7_undo_none {h : xH} {A : Nat → Nat} {kt : Int} (hc0 : h (A 0) = zcE (.inr (7, [za (A 1), za (A 4), za (A 24), za (A 27), zi kt, za (A 47), za (A 49), za (A 52), za (A 63), za (A 68), za (A 72)]))) (hc1 : h (A 4) = zcE (.inr (3, [za (A 5), zi 0]))) (hD : [(A 0), (A 4)].Nodup) : zEv k_X7_undo [za (A 0)] h (fun v h2 => v = some (zi (-4)) ∧ h2 = h) := by
  have hh : h = zov [((A 0), .inr (7, [za (A 1), za (A 4), za (A 24), za (A 27), zi kt, za (A 47), za (A 49), za (A 52), za (A 63), za (A 68), za (A 72)])), ((A 4), .inr (3, [za (A 5), zi 0]))] h := zov_self (List.forall_mem_cons.mpr ⟨hc0, List.forall_mem_cons.mpr ⟨hc1, fun _ q => absurd q List.not_mem_nil⟩⟩)
  refine zEv.body (I := (7, xI_X7_undo, 1, 3, 68, 0, 0, false)) (rt := (some .int)) [some (za (A 0))] rfl rfl rfl rfl ?_
  refine Zn.eq rfl rfl rfl hh ?_
  have hD : zND ([((A 0), .inr (7, [za (A 1), za (A 4), za (A 24), za (A 27), zi kt, za (A 47), za (A 49), za (A 52), za (A 63), za (A 68), za (A 72)])), ((A 4), .inr (3, [za (A 5), zi 0]))]) := hD
  refine Zn.seg (pc2 := 1) (ls2 := [some (za (A 0))]) (st2 := [za (A 0)]) [(0, .aload_n 0)] (by decide +kernel) rfl ?_
  refine Zn.get (ix := 19) hD 0 (by decide +kernel) rfl rfl rfl ?_
  refine Zn.get (ix := 152) hD 1 (by decide +kernel) rfl rfl rfl ?_
  refine Zn.ifc (c := .ne) (off := 6) 13 (by decide +kernel) rfl ⟨by decide, by decide⟩ (fun c_1 => absurd (show (0 : Int) ≠ 0 from c_1) (by decide)) (fun c_1 => ?_)
  have c_1 : ¬ ((0 : Int) ≠ 0) := c_1
  refine Zn.seg (pc2 := 12) (ls2 := [some (za (A 0))]) (st2 := [zi (-4)]) [(10, .bipush (-4))] (by decide +kernel) rfl ?_
  exact Zn.iret (by decide +kernel) rfl (⟨by first | rfl | (refine congrArg some (congrArg zi ?_); first | omega | (simp_all; done) | (simp_all; omega)), hh.symm⟩)
theorem sp_X7_undo_ok {h : xH} {A : Nat → Nat} {kt st al sv : Int} {th fx d w : Nat} {Y Q : Nat → Int} {k rk : Nat} {f : Nat → Option Nat} {y1 q1 t1 f1 d1 w1 : Nat} {Y1 Q1 : Nat → Int} (hc0 : h (A 0) = zcE (.inr (7, [za (A 1), za (A 4), za (A 24), za (A 27), zi kt, za (A 47), za (A 49), za (A 52), za (A 63), za (A 68), za (A 72)]))) (hc1 : h (A 1) = zcE (.inr (4, [za (A 2), za (A 3), zi (th : Int), zi (fx : Int), zi (d : Int), zi (w : Int)]))) (hc2 : h (A 2) = zcE (.inl (0, 13, .inl Y))) (hc3 : h (A 3) = zcE (.inl (0, 3, .inl Q))) (hc4 : h (A 52) = zcE (.inr (0, [za (A 58), za (A 53), za (A 54), za (A 55), za (A 56), za (A 57), zi st, zi al, zi sv]))) (hc5 : h (A 4) = zcE (.inr (3, [za (A 5), zi ((k : Int) + 1)]))) (hc6 : h (A 5) = zcE (.inl (4, 6, .inr f))) (hc7 : h rk = zcE (.inr (4, [za y1, za q1, zi (t1 : Int), zi (f1 : Int), zi (d1 : Int), zi (w1 : Int)]))) (hc8 : h y1 = zcE (.inl (0, 13, .inl Y1))) (hc9 : h q1 = zcE (.inl (0, 3, .inl Q1))) (hD : [(A 0), (A 1), (A 2), (A 3), (A 52), (A 4), (A 5), rk, y1, q1].Nodup) (hk : k < 6) (hf : f k = some rk) : zEv k_X7_undo [za (A 0)] h (fun v h2 => v = some (zi (k : Int)) ∧ h2 = zov [((A 0), .inr (7, [za (A 1), za (A 4), za (A 24), za (A 27), zi kt, za (A 47), za (A 49), za (A 52), za (A 63), za (A 68), za (A 72)])), ((A 1), .inr (4, [za (A 2), za (A 3), zi (t1 : Int), zi (f1 : Int), zi (d1 : Int), zi (w1 : Int)])), ((A 2), .inl (0, 13, .inl (va_cpy Y1 Y 0 0 13))), ((A 3), .inl (0, 3, .inl (va_cpy Q1 Q 0 0 3))), ((A 52), .inr (0, [za (A 58), za (A 53), za (A 54), za (A 55), za (A 56), za (A 57), zi st, zi al, zi 0])), ((A 4), .inr (3, [za (A 5), zi (k : Int)])), ((A 5), .inl (4, 6, .inr f)), (rk, .inr (4, [za y1, za q1, zi (t1 : Int), zi (f1 : Int), zi (d1 : Int), zi (w1 : Int)])), (y1, .inl (0, 13, .inl Y1)), (q1, .inl (0, 3, .inl Q1))] h) := by
  have hh : h = zov [((A 0), .inr (7, [za (A 1), za (A 4), za (A 24), za (A 27), zi kt, za (A 47), za (A 49), za (A 52), za (A 63), za (A 68), za (A 72)])), ((A 1), .inr (4, [za (A 2), za (A 3), zi (th : Int), zi (fx : Int), zi (d : Int), zi (w : Int)])), ((A 2), .inl (0, 13, .inl Y)), ((A 3), .inl (0, 3, .inl Q)), ((A 52), .inr (0, [za (A 58), za (A 53), za (A 54), za (A 55), za (A 56), za (A 57), zi st, zi al, zi sv])), ((A 4), .inr (3, [za (A 5), zi ((k : Int) + 1)])), ((A 5), .inl (4, 6, .inr f)), (rk, .inr (4, [za y1, za q1, zi (t1 : Int), zi (f1 : Int), zi (d1 : Int), zi (w1 : Int)])), (y1, .inl (0, 13, .inl Y1)), (q1, .inl (0, 3, .inl Q1))] h := zov_self (List.forall_mem_cons.mpr ⟨hc0, List.forall_mem_cons.mpr ⟨hc1, List.forall_mem_cons.mpr ⟨hc2, List.forall_mem_cons.mpr ⟨hc3, List.forall_mem_cons.mpr ⟨hc4, List.forall_mem_cons.mpr ⟨hc5, List.forall_mem_cons.mpr ⟨hc6, List.forall_mem_cons.mpr ⟨hc7, List.forall_mem_cons.mpr ⟨hc8, List.forall_mem_cons.mpr ⟨hc9, fun _ q => absurd q List.not_mem_nil⟩⟩⟩⟩⟩⟩⟩⟩⟩⟩)
  refine zEv.body (I := (7, xI_X7_undo, 1, 3, 68, 0, 0, false)) (rt := (some .int)) [some (za (A 0))] rfl rfl rfl rfl ?_
  refine Zn.eq rfl rfl rfl hh ?_
  have hD : zND ([((A 0), .inr (7, [za (A 1), za (A 4), za (A 24), za (A 27), zi kt, za (A 47), za (A 49), za (A 52), za (A 63), za (A 68), za (A 72)])), ((A 1), .inr (4, [za (A 2), za (A 3), zi (th : Int), zi (fx : Int), zi (d : Int), zi (w : Int)])), ((A 2), .inl (0, 13, .inl Y)), ((A 3), .inl (0, 3, .inl Q)), ((A 52), .inr (0, [za (A 58), za (A 53), za (A 54), za (A 55), za (A 56), za (A 57), zi st, zi al, zi sv])), ((A 4), .inr (3, [za (A 5), zi ((k : Int) + 1)])), ((A 5), .inl (4, 6, .inr f)), (rk, .inr (4, [za y1, za q1, zi (t1 : Int), zi (f1 : Int), zi (d1 : Int), zi (w1 : Int)])), (y1, .inl (0, 13, .inl Y1)), (q1, .inl (0, 3, .inl Q1))]) := hD
  refine Zn.seg (pc2 := 1) (ls2 := [some (za (A 0))]) (st2 := [za (A 0)]) [(0, .aload_n 0)] (by decide +kernel) rfl ?_
  refine Zn.get (ix := 19) hD 0 (by decide +kernel) rfl rfl rfl ?_
  refine Zn.get (ix := 152) hD 5 (by decide +kernel) rfl rfl rfl ?_
  refine Zn.ifc (c := .ne) (off := 6) 13 (by decide +kernel) rfl ⟨by omega, by omega⟩ (fun c_1 => ?_) (fun c_1 => absurd (show (k : Int) + 1 ≠ 0 from by omega) c_1)
  have c_1 : (k : Int) + 1 ≠ 0 := c_1
  refine Zn.seg (pc2 := 14) (ls2 := [some (za (A 0))]) (st2 := [za (A 0)]) [(13, .aload_n 0)] (by decide +kernel) rfl ?_
  refine Zn.get (ix := 19) hD 0 (by decide +kernel) rfl rfl rfl ?_
  refine Zn.seg (pc2 := 18) (ls2 := [some (za (A 0))]) (st2 := [za (A 0), za (A 4)]) [(17, .aload_n 0)] (by decide +kernel) rfl ?_
  refine Zn.get (ix := 12) hD 0 (by decide +kernel) rfl rfl rfl ?_
  refine Zn.call (ins := .invokevirtual 282) [za (A 4), za (A 1)] [] (by decide +kernel) rfl rfl rfl ⟨rfl, rfl⟩ ⟨rfl, rfl, rfl⟩ rfl (zrecvV hD (p := 5) rfl rfl rfl) (sp_X3_giveBackF (o := (A 4)) (ra := (A 5)) (p := (A 1)) (k := k) (rk := rk) (f := f) (y1 := y1) (q1 := q1) (t1 := t1) (f1 := f1) (d1 := d1) (w1 := w1) (y2 := (A 2)) (q2 := (A 3)) (t2 := th) (f2 := fx) (d2 := d) (w2 := w) (Y1 := Y1) (Q1 := Q1) (Y2 := Y) (Q2 := Q) (zov_get hD 5 rfl) (zov_get hD 6 rfl) (zov_get hD 7 rfl) (zov_get hD 8 rfl) (zov_get hD 9 rfl) (zov_get hD 1 rfl) (zov_get hD 2 rfl) (zov_get hD 3 rfl) (nd_sub hD [5, 6, 7, 8, 9, 1, 2, 3] rfl rfl) (hk) (hf)) (fun v h2 hp => ?_)
  obtain ⟨rfl, hq_2⟩ := hp
  refine Zn.eq (pc2 := 24) (ls2 := [some (za (A 0))]) (st2 := []) (h2 := zov ([((A 0), .inr (7, [za (A 1), za (A 4), za (A 24), za (A 27), zi kt, za (A 47), za (A 49), za (A 52), za (A 63), za (A 68), za (A 72)])), ((A 1), .inr (4, [za (A 2), za (A 3), zi (t1 : Int), zi (f1 : Int), zi (d1 : Int), zi (w1 : Int)])), ((A 2), .inl (0, 13, .inl (va_cpy Y1 Y 0 0 13))), ((A 3), .inl (0, 3, .inl (va_cpy Q1 Q 0 0 3))), ((A 52), .inr (0, [za (A 58), za (A 53), za (A 54), za (A 55), za (A 56), za (A 57), zi st, zi al, zi sv])), ((A 4), .inr (3, [za (A 5), zi (k : Int)])), ((A 5), .inl (4, 6, .inr f)), (rk, .inr (4, [za y1, za q1, zi (t1 : Int), zi (f1 : Int), zi (d1 : Int), zi (w1 : Int)])), (y1, .inl (0, 13, .inl Y1)), (q1, .inl (0, 3, .inl Q1))]) h) rfl rfl rfl (hq_2.trans (zov_put hD [5, 6, 7, 8, 9, 1, 2, 3] _ rfl)) ?_
  have hD : zND ([((A 0), .inr (7, [za (A 1), za (A 4), za (A 24), za (A 27), zi kt, za (A 47), za (A 49), za (A 52), za (A 63), za (A 68), za (A 72)])), ((A 1), .inr (4, [za (A 2), za (A 3), zi (t1 : Int), zi (f1 : Int), zi (d1 : Int), zi (w1 : Int)])), ((A 2), .inl (0, 13, .inl (va_cpy Y1 Y 0 0 13))), ((A 3), .inl (0, 3, .inl (va_cpy Q1 Q 0 0 3))), ((A 52), .inr (0, [za (A 58), za (A 53), za (A 54), za (A 55), za (A 56), za (A 57), zi st, zi al, zi sv])), ((A 4), .inr (3, [za (A 5), zi (k : Int)])), ((A 5), .inl (4, 6, .inr f)), (rk, .inr (4, [za y1, za q1, zi (t1 : Int), zi (f1 : Int), zi (d1 : Int), zi (w1 : Int)])), (y1, .inl (0, 13, .inl Y1)), (q1, .inl (0, 3, .inl Q1))]) := hD
  refine Zn.seg (pc2 := 25) (ls2 := [some (za (A 0))]) (st2 := [za (A 0)]) [(24, .aload_n 0)] (by decide +kernel) rfl ?_
  refine Zn.get (ix := 46) hD 0 (by decide +kernel) rfl rfl rfl ?_
  refine Zn.seg (pc2 := 29) (ls2 := [some (za (A 0))]) (st2 := [zi 0, za (A 52)]) [(28, .iconst 0)] (by decide +kernel) rfl ?_
  refine Zn.put (ix := 285) hD 4 (by decide +kernel) rfl rfl rfl rfl rfl ?_
  refine Zn.eq (h2 := zov ([((A 0), .inr (7, [za (A 1), za (A 4), za (A 24), za (A 27), zi kt, za (A 47), za (A 49), za (A 52), za (A 63), za (A 68), za (A 72)])), ((A 1), .inr (4, [za (A 2), za (A 3), zi (t1 : Int), zi (f1 : Int), zi (d1 : Int), zi (w1 : Int)])), ((A 2), .inl (0, 13, .inl (va_cpy Y1 Y 0 0 13))), ((A 3), .inl (0, 3, .inl (va_cpy Q1 Q 0 0 3))), ((A 52), .inr (0, [za (A 58), za (A 53), za (A 54), za (A 55), za (A 56), za (A 57), zi st, zi al, zi 0])), ((A 4), .inr (3, [za (A 5), zi (k : Int)])), ((A 5), .inl (4, 6, .inr f)), (rk, .inr (4, [za y1, za q1, zi (t1 : Int), zi (f1 : Int), zi (d1 : Int), zi (w1 : Int)])), (y1, .inl (0, 13, .inl Y1)), (q1, .inl (0, 3, .inl Q1))]) h) rfl rfl rfl rfl ?_
  have hD : zND ([((A 0), .inr (7, [za (A 1), za (A 4), za (A 24), za (A 27), zi kt, za (A 47), za (A 49), za (A 52), za (A 63), za (A 68), za (A 72)])), ((A 1), .inr (4, [za (A 2), za (A 3), zi (t1 : Int), zi (f1 : Int), zi (d1 : Int), zi (w1 : Int)])), ((A 2), .inl (0, 13, .inl (va_cpy Y1 Y 0 0 13))), ((A 3), .inl (0, 3, .inl (va_cpy Q1 Q 0 0 3))), ((A 52), .inr (0, [za (A 58), za (A 53), za (A 54), za (A 55), za (A 56), za (A 57), zi st, zi al, zi 0])), ((A 4), .inr (3, [za (A 5), zi (k : Int)])), ((A 5), .inl (4, 6, .inr f)), (rk, .inr (4, [za y1, za q1, zi (t1 : Int), zi (f1 : Int), zi (d1 : Int), zi (w1 : Int)])), (y1, .inl (0, 13, .inl Y1)), (q1, .inl (0, 3, .inl Q1))]) := hD
  refine Zn.seg (pc2 := 33) (ls2 := [some (za (A 0))]) (st2 := [za (A 0)]) [(32, .aload_n 0)] (by decide +kernel) rfl ?_
  refine Zn.get (ix := 19) hD 0 (by decide +kernel) rfl rfl rfl ?_
  refine Zn.get (ix := 152) hD 5 (by decide +kernel) rfl rfl rfl ?_
  exact Zn.iret (by decide +kernel) rfl (⟨by first | rfl | (refine congrArg some (congrArg zi ?_); first | omega | (simp_all; done) | (simp_all; omega)), rfl⟩)
