/-! EvenErrors$Tape -/
def tkL (T : Nat → Int) (L a : Nat) (c f : Int) : Int := if cur T L (sk T L a) = c then f else (sk T L a : Int)
def okV (T : Nat → Int) (L a : Nat) : Int := if 48 ≤ cur T L (n1A T L a) ∧ cur T L (n1A T L a) ≤ 57 then 1 else 0
def okA (T : Nat → Int) (L a : Nat) : Nat := if 48 ≤ cur T L (n1A T L a) ∧ cur T L (n1A T L a) ≤ 57 then nEA T L a else n1A T L a
def okL (T : Nat → Int) (L a : Nat) (f : Int) : Int := if 48 ≤ cur T L (n1A T L a) ∧ cur T L (n1A T L a) ≤ 57 then f else (n1A T L a : Int)
def okN (T : Nat → Int) (L a : Nat) (o : Int) : Int := if 48 ≤ cur T L (n1A T L a) ∧ cur T L (n1A T L a) ≤ 57 then nVV T L a else o
theorem sp_X6_here {h : xH} {o la L a : Nat} {fl nu na : Int} {T : Nat → Int} (hc0 : h o = zcE (.inr (6, [za la, zi (L : Int), zi fl, zi (a : Int), zi nu, zi na]))) (hc1 : h la = zcE (.inl (0, 90, .inl T))) (hD : [o, la].Nodup) (hL9 : L ≤ 90) (haL : a ≤ L) (hT : ∀ j, j < L → 32 ≤ T j ∧ T j ≤ 126) : zEv k_X6_here [za o] h (fun v h2 => v = some (zi (cur T L a)) ∧ h2 = h) := by
  have hh : h = zov [(o, .inr (6, [za la, zi (L : Int), zi fl, zi (a : Int), zi nu, zi na])), (la, .inl (0, 90, .inl T))] h := zov_self (List.forall_mem_cons.mpr ⟨hc0, List.forall_mem_cons.mpr ⟨hc1, fun _ q => absurd q List.not_mem_nil⟩⟩)
  refine zEv.body (I := (6, xI_X6_here, 1, 0, 0, 0, 0, false)) (rt := (some .int)) [some (za o)] rfl rfl rfl rfl ?_
  refine Zn.eq rfl rfl rfl hh ?_
  have hD : zND ([(o, .inr (6, [za la, zi (L : Int), zi fl, zi (a : Int), zi nu, zi na])), (la, .inl (0, 90, .inl T))]) := hD
  refine Zn.seg (pc2 := 1) (ls2 := [some (za o)]) (st2 := [za o]) [(0, .aload_n 0)] (by decide +kernel) rfl ?_
  refine Zn.get (ix := 22) hD 0 (by decide +kernel) rfl rfl rfl ?_
  refine Zn.ifc (c := .lt) (off := 35) 39 (by decide +kernel) rfl ⟨by omega, by omega⟩ (fun c_1 => absurd (show (a : Int) < 0 from c_1) (by omega)) (fun c_1 => ?_)
  have c_1 : ¬ ((a : Int) < 0) := c_1
  refine Zn.seg (pc2 := 8) (ls2 := [some (za o)]) (st2 := [za o]) [(7, .aload_n 0)] (by decide +kernel) rfl ?_
  refine Zn.get (ix := 22) hD 0 (by decide +kernel) rfl rfl rfl ?_
  refine Zn.seg (pc2 := 12) (ls2 := [some (za o)]) (st2 := [za o, zi (a : Int)]) [(11, .aload_n 0)] (by decide +kernel) rfl ?_
  refine Zn.get (ix := 15) hD 0 (by decide +kernel) rfl rfl rfl ?_
  refine Zn.icmp (c := .ge) (off := 24) 39 (by decide +kernel) rfl ⟨by omega, by omega⟩ ⟨by omega, by omega⟩ (fun c_2 => ?_) (fun c_2 => ?_)
  · have c_2 : (L : Int) ≤ (a : Int) := c_2
    refine Zn.seg (pc2 := 40) (ls2 := [some (za o)]) (st2 := [zi 0]) [(39, .iconst 0)] (by decide +kernel) rfl ?_
    exact Zn.iret (by decide +kernel) rfl (⟨by refine congrArg some (congrArg zi ?_); rw [cur]; first | (rw [if_pos (by omega)]; done) | rw [if_neg (by omega)], hh.symm⟩)
  · have c_2 : ¬ ((L : Int) ≤ (a : Int)) := c_2
    refine Zn.seg (pc2 := 19) (ls2 := [some (za o)]) (st2 := [za o]) [(18, .aload_n 0)] (by decide +kernel) rfl ?_
    refine Zn.get (ix := 22) hD 0 (by decide +kernel) rfl rfl rfl ?_
    refine Zn.seg (pc2 := 24) (ls2 := [some (za o)]) (st2 := [zi 90, zi (a : Int)]) [(22, .bipush 90)] (by decide +kernel) rfl ?_
    refine Zn.icmp (c := .ge) (off := 15) 39 (by decide +kernel) rfl ⟨by omega, by omega⟩ ⟨by decide, by decide⟩ (fun c_3 => absurd (show 90 ≤ (a : Int) from c_3) (by omega)) (fun c_3 => ?_)
    have c_3 : ¬ (90 ≤ (a : Int)) := c_3
    refine Zn.seg (pc2 := 28) (ls2 := [some (za o)]) (st2 := [za o]) [(27, .aload_n 0)] (by decide +kernel) rfl ?_
    refine Zn.get (ix := 9) hD 0 (by decide +kernel) rfl rfl rfl ?_
    refine Zn.seg (pc2 := 32) (ls2 := [some (za o)]) (st2 := [za o, za la]) [(31, .aload_n 0)] (by decide +kernel) rfl ?_
    refine Zn.get (ix := 22) hD 0 (by decide +kernel) rfl rfl rfl ?_
    refine Zn.iald hD 1 (a) (by decide +kernel) rfl (by omega) (by omega) rfl ?_
    refine Zn.seg (pc2 := 40) (ls2 := [some (za o)]) (st2 := [zi (T a)]) [(36, .goto 4)] (by decide +kernel) rfl ?_
    exact Zn.iret (by decide +kernel) rfl (⟨by refine congrArg some (congrArg zi ?_); rw [cur]; first | (rw [if_pos (by omega)]; done) | rw [if_neg (by omega)], hh.symm⟩)
theorem sp_X6_next {h : xH} {o la L a : Nat} {fl nu na : Int} {T : Nat → Int} (hc0 : h o = zcE (.inr (6, [za la, zi (L : Int), zi fl, zi (a : Int), zi nu, zi na]))) (hc1 : h la = zcE (.inl (0, 90, .inl T))) (hD : [o, la].Nodup) (hL9 : L ≤ 90) (haL : a ≤ L) (hT : ∀ j, j < L → 32 ≤ T j ∧ T j ≤ 126) : zEv k_X6_next [za o] h (fun v h2 => v = some (zi (cur T L (sk T L a))) ∧ h2 = zov [(o, .inr (6, [za la, zi (L : Int), zi fl, zi (sk T L a : Int), zi nu, zi na])), (la, .inl (0, 90, .inl T))] h) := by
  have hh : h = zov [(o, .inr (6, [za la, zi (L : Int), zi fl, zi (a : Int), zi nu, zi na])), (la, .inl (0, 90, .inl T))] h := zov_self (List.forall_mem_cons.mpr ⟨hc0, List.forall_mem_cons.mpr ⟨hc1, fun _ q => absurd q List.not_mem_nil⟩⟩)
  refine zEv.body (I := (6, xI_X6_next, 2, 1, 20, 0, 0, false)) (rt := (some .int)) [some (za o), none] rfl rfl rfl rfl ?_
  refine Zn.eq rfl rfl rfl hh ?_
  have hD : zND ([(o, .inr (6, [za la, zi (L : Int), zi fl, zi (a : Int), zi nu, zi na])), (la, .inl (0, 90, .inl T))]) := hD
  refine Zn.seg (pc2 := 2) (ls2 := [some (za o), some (zi 0)]) (st2 := []) [(0, .iconst 0), (1, .istore_n 1)] (by decide +kernel) rfl ?_
  refine Zn.eq (pc2 := 2) (ls2 := [some (za o), some (zi (0 : Int))]) (st2 := []) (h2 := zov ([(o, .inr (6, [za la, zi (L : Int), zi fl, zi ((a + 0 : Nat) : Int), zi nu, zi na])), (la, .inl (0, 90, .inl T))]) h) rfl rfl rfl (rfl) ?_
  have hD : zND ([(o, .inr (6, [za la, zi (L : Int), zi fl, zi ((a + 0 : Nat) : Int), zi nu, zi na])), (la, .inl (0, 90, .inl T))]) := hD
  refine xloop (P := fun i_1 => (sk T L (a + i_1) = sk T L a ∧ a + i_1 ≤ L) → Zn (6, xI_X6_next, 2, 1, 20, 0, 0, false) (some .int) 2 [some (za o), some (zi (i_1 : Int))] [] (zov ([(o, .inr (6, [za la, zi (L : Int), zi fl, zi ((a + i_1 : Nat) : Int), zi nu, zi na])), (la, .inl (0, 90, .inl T))]) h) _) (91) (fun i_1 hi_2 ih_3 fa_4 => ?_) (fun fa_4 => ?_) (⟨rfl, haL⟩)
  · have hi_ : i_1 < 91 := hi_2
    have hD : zND ([(o, .inr (6, [za la, zi (L : Int), zi fl, zi ((a + i_1 : Nat) : Int), zi nu, zi na])), (la, .inl (0, 90, .inl T))]) := hD
    have hfa_ := fa_4
    have hcb := cur_b hT (a + i_1)
    refine Zn.seg (pc2 := 5) (ls2 := [some (za o), some (zi (i_1 : Int))]) (st2 := [zi 90, zi (i_1 : Int)]) [(2, .iload_n 1), (3, .bipush 90)] (by decide +kernel) rfl ?_
    refine Zn.icmp (c := .ge) (off := 28) 33 (by decide +kernel) rfl ⟨by omega, by omega⟩ ⟨by decide, by decide⟩ (fun c_5 => ?_) (fun c_5 => ?_)
    · have c_5 : 90 ≤ (i_1 : Int) := c_5
      refine Zn.seg (pc2 := 34) (ls2 := [some (za o), some (zi (i_1 : Int))]) (st2 := [za o]) [(33, .aload_n 0)] (by decide +kernel) rfl ?_
      refine Zn.call (ins := .invokevirtual 87) [za o] [] (by decide +kernel) rfl rfl rfl ⟨rfl, rfl⟩ ⟨rfl, rfl, rfl⟩ rfl (zrecvV hD (p := 0) rfl rfl rfl) (sp_X6_here (o := o) (la := la) (L := L) (a := (a + i_1)) (fl := fl) (nu := nu) (na := na) (T := T) (zov_get hD 0 rfl) (zov_get hD 1 rfl) (nd_sub hD [0, 1] rfl rfl) (hL9) (hfa_.2) (hT)) (fun v h2 hp => ?_)
      obtain ⟨rfl, hq_6⟩ := hp
      refine Zn.eq (pc2 := 37) (ls2 := [some (za o), some (zi (i_1 : Int))]) (st2 := [zi (cur T L (a + i_1))]) (h2 := zov ([(o, .inr (6, [za la, zi (L : Int), zi fl, zi ((a + i_1 : Nat) : Int), zi nu, zi na])), (la, .inl (0, 90, .inl T))]) h) rfl rfl rfl hq_6 ?_
      have hD : zND ([(o, .inr (6, [za la, zi (L : Int), zi fl, zi ((a + i_1 : Nat) : Int), zi nu, zi na])), (la, .inl (0, 90, .inl T))]) := hD
      exact Zn.iret (by decide +kernel) rfl (⟨by refine congrArg some (congrArg zi ?_); first | (exfalso; omega) | rw [← hfa_.1, sk_n (by omega)], by first | (exfalso; omega) | rw [← hfa_.1, sk_n (by omega)]⟩)
    · have c_5 : ¬ (90 ≤ (i_1 : Int)) := c_5
      refine Zn.seg (pc2 := 9) (ls2 := [some (za o), some (zi (i_1 : Int))]) (st2 := [za o]) [(8, .aload_n 0)] (by decide +kernel) rfl ?_
      refine Zn.call (ins := .invokevirtual 87) [za o] [] (by decide +kernel) rfl rfl rfl ⟨rfl, rfl⟩ ⟨rfl, rfl, rfl⟩ rfl (zrecvV hD (p := 0) rfl rfl rfl) (sp_X6_here (o := o) (la := la) (L := L) (a := (a + i_1)) (fl := fl) (nu := nu) (na := na) (T := T) (zov_get hD 0 rfl) (zov_get hD 1 rfl) (nd_sub hD [0, 1] rfl rfl) (hL9) (hfa_.2) (hT)) (fun v h2 hp => ?_)
      obtain ⟨rfl, hq_7⟩ := hp
      refine Zn.eq (pc2 := 12) (ls2 := [some (za o), some (zi (i_1 : Int))]) (st2 := [zi (cur T L (a + i_1))]) (h2 := zov ([(o, .inr (6, [za la, zi (L : Int), zi fl, zi ((a + i_1 : Nat) : Int), zi nu, zi na])), (la, .inl (0, 90, .inl T))]) h) rfl rfl rfl hq_7 ?_
      have hD : zND ([(o, .inr (6, [za la, zi (L : Int), zi fl, zi ((a + i_1 : Nat) : Int), zi nu, zi na])), (la, .inl (0, 90, .inl T))]) := hD
      refine Zn.seg (pc2 := 14) (ls2 := [some (za o), some (zi (i_1 : Int))]) (st2 := [zi 32, zi (cur T L (a + i_1))]) [(12, .bipush 32)] (by decide +kernel) rfl ?_
      refine Zn.icmp (c := .ne) (off := 19) 33 (by decide +kernel) rfl ⟨by omega, by omega⟩ ⟨by decide, by decide⟩ (fun c_8 => ?_) (fun c_8 => ?_)
      · have c_8 : cur T L (a + i_1) ≠ 32 := c_8
        refine Zn.seg (pc2 := 34) (ls2 := [some (za o), some (zi (i_1 : Int))]) (st2 := [za o]) [(33, .aload_n 0)] (by decide +kernel) rfl ?_
        refine Zn.call (ins := .invokevirtual 87) [za o] [] (by decide +kernel) rfl rfl rfl ⟨rfl, rfl⟩ ⟨rfl, rfl, rfl⟩ rfl (zrecvV hD (p := 0) rfl rfl rfl) (sp_X6_here (o := o) (la := la) (L := L) (a := (a + i_1)) (fl := fl) (nu := nu) (na := na) (T := T) (zov_get hD 0 rfl) (zov_get hD 1 rfl) (nd_sub hD [0, 1] rfl rfl) (hL9) (hfa_.2) (hT)) (fun v h2 hp => ?_)
        obtain ⟨rfl, hq_9⟩ := hp
        refine Zn.eq (pc2 := 37) (ls2 := [some (za o), some (zi (i_1 : Int))]) (st2 := [zi (cur T L (a + i_1))]) (h2 := zov ([(o, .inr (6, [za la, zi (L : Int), zi fl, zi ((a + i_1 : Nat) : Int), zi nu, zi na])), (la, .inl (0, 90, .inl T))]) h) rfl rfl rfl hq_9 ?_
        have hD : zND ([(o, .inr (6, [za la, zi (L : Int), zi fl, zi ((a + i_1 : Nat) : Int), zi nu, zi na])), (la, .inl (0, 90, .inl T))]) := hD
        exact Zn.iret (by decide +kernel) rfl (⟨by refine congrArg some (congrArg zi ?_); first | (exfalso; omega) | rw [← hfa_.1, sk_n (by omega)], by first | (exfalso; omega) | rw [← hfa_.1, sk_n (by omega)]⟩)
      · have c_8 : ¬ (cur T L (a + i_1) ≠ 32) := c_8
        refine Zn.seg (pc2 := 19) (ls2 := [some (za o), some (zi (i_1 : Int))]) (st2 := [za o, za o]) [(17, .aload_n 0), (18, .dup)] (by decide +kernel) rfl ?_
        refine Zn.get (ix := 22) hD 0 (by decide +kernel) rfl rfl rfl ?_
        refine Zn.seg (pc2 := 24) (ls2 := [some (za o), some (zi (i_1 : Int))]) (st2 := [zi (((a + i_1 : Nat) : Int) + 1), za o]) [(22, .iconst 1), (23, .iadd)] (by decide +kernel) rfl ?_
        refine Zn.put (ix := 22) hD 0 (by decide +kernel) rfl rfl rfl rfl rfl ?_
        refine Zn.eq (h2 := zov ([(o, .inr (6, [za la, zi (L : Int), zi fl, zi (((a + i_1 : Nat) : Int) + 1), zi nu, zi na])), (la, .inl (0, 90, .inl T))]) h) rfl rfl rfl rfl ?_
        have hD : zND ([(o, .inr (6, [za la, zi (L : Int), zi fl, zi (((a + i_1 : Nat) : Int) + 1), zi nu, zi na])), (la, .inl (0, 90, .inl T))]) := hD
        refine Zn.seg (pc2 := 2) (ls2 := [some (za o), some (zi ((i_1 : Int) + 1))]) (st2 := []) [(27, .iinc 1 1), (30, .goto (-28))] (by decide +kernel) rfl ?_
        exact Zn.eq rfl (zcons rfl (zcons (congrArg (fun z => some (zi z)) (by omega)) rfl)) rfl (by rw [show a + (i_1 + 1) = a + i_1 + 1 from rfl, Int.natCast_add (a + i_1) 1]; rfl) (ih_3 (⟨(sk_b (a := a + i_1) (by omega) (by omega)).symm.trans fa_4.1, by omega⟩))
  · exact absurd (show False from by (have := fa_4.2; omega)) (fun q_ => q_)
theorem sp_X6_isFigure {h : xH} {x : Int} (hx : zInI x) : zEv k_X6_isFigure [zi x] h (fun v h2 => v = some (zi (inB 48 57 x)) ∧ h2 = h) := by
  have hD : ([] : List Nat).Nodup := List.nodup_nil
  have hh : h = zov [] h := zov_self (fun _ q => absurd q List.not_mem_nil)
  have hx1 := hx.1
  have hx2 := hx.2
  have hin := inB_spec 48 57 x
  refine zEv.body (I := (6, xI_X6_isFigure, 1, 0, 0, 0, 0, false)) (rt := (some .boolean)) [some (zi x)] rfl rfl rfl rfl ?_
  refine Zn.eq rfl rfl rfl hh ?_
  have hD : zND ([]) := hD
  refine Zn.seg (pc2 := 3) (ls2 := [some (zi x)]) (st2 := [zi 48, zi x]) [(0, .iload_n 0), (1, .bipush 48)] (by decide +kernel) rfl ?_
  refine Zn.icmp (c := .lt) (off := 13) 16 (by decide +kernel) rfl ⟨by omega, by omega⟩ ⟨by decide, by decide⟩ (fun c_1 => ?_) (fun c_1 => ?_)
  · have c_1 : x < 48 := c_1
    refine Zn.seg (pc2 := 17) (ls2 := [some (zi x)]) (st2 := [zi 0]) [(16, .iconst 0)] (by decide +kernel) rfl ?_
    exact Zn.bret (by decide +kernel) rfl (by first | decide | omega) (⟨by first | rfl | (refine congrArg some (congrArg zi ?_); first | omega | (simp_all; done) | (simp_all; omega)), hh.symm⟩)
  · have c_1 : ¬ (x < 48) := c_1
    refine Zn.seg (pc2 := 9) (ls2 := [some (zi x)]) (st2 := [zi 57, zi x]) [(6, .iload_n 0), (7, .bipush 57)] (by decide +kernel) rfl ?_
    refine Zn.icmp (c := .gt) (off := 7) 16 (by decide +kernel) rfl ⟨by omega, by omega⟩ ⟨by decide, by decide⟩ (fun c_2 => ?_) (fun c_2 => ?_)
    · have c_2 : 57 < x := c_2
      refine Zn.seg (pc2 := 17) (ls2 := [some (zi x)]) (st2 := [zi 0]) [(16, .iconst 0)] (by decide +kernel) rfl ?_
      exact Zn.bret (by decide +kernel) rfl (by first | decide | omega) (⟨by first | rfl | (refine congrArg some (congrArg zi ?_); first | omega | (simp_all; done) | (simp_all; omega)), hh.symm⟩)
    · have c_2 : ¬ (57 < x) := c_2
      refine Zn.seg (pc2 := 17) (ls2 := [some (zi x)]) (st2 := [zi 1]) [(12, .iconst 1), (13, .goto 4)] (by decide +kernel) rfl ?_
      exact Zn.bret (by decide +kernel) rfl (by first | decide | omega) (⟨by first | rfl | (refine congrArg some (congrArg zi ?_); first | omega | (simp_all; done) | (simp_all; omega)), hh.symm⟩)
theorem sp_X6_failAt {h : xH} {o la L a : Nat} {fl nu na x : Int} (hc0 : h o = zcE (.inr (6, [za la, zi (L : Int), zi fl, zi (a : Int), zi nu, zi na]))) : zEv k_X6_failAt [za o, zi x] h (fun v h2 => v = some (zi 0) ∧ h2 = zov [(o, .inr (6, [za la, zi (L : Int), zi x, zi (a : Int), zi nu, zi na]))] h) := by
  have hD : [o].Nodup := by simp
  have hh : h = zov [(o, .inr (6, [za la, zi (L : Int), zi fl, zi (a : Int), zi nu, zi na]))] h := zov_self (List.forall_mem_cons.mpr ⟨hc0, fun _ q => absurd q List.not_mem_nil⟩)
  refine zEv.body (I := (6, xI_X6_failAt, 2, 0, 0, 0, 0, false)) (rt := (some .boolean)) [some (za o), some (zi x)] rfl rfl rfl rfl ?_
  refine Zn.eq rfl rfl rfl hh ?_
  have hD : zND ([(o, .inr (6, [za la, zi (L : Int), zi fl, zi (a : Int), zi nu, zi na]))]) := hD
  refine Zn.seg (pc2 := 2) (ls2 := [some (za o), some (zi x)]) (st2 := [zi x, za o]) [(0, .aload_n 0), (1, .iload_n 1)] (by decide +kernel) rfl ?_
  refine Zn.put (ix := 19) hD 0 (by decide +kernel) rfl rfl rfl rfl rfl ?_
  refine Zn.eq (h2 := zov ([(o, .inr (6, [za la, zi (L : Int), zi x, zi (a : Int), zi nu, zi na]))]) h) rfl rfl rfl rfl ?_
  have hD : zND ([(o, .inr (6, [za la, zi (L : Int), zi x, zi (a : Int), zi nu, zi na]))]) := hD
  refine Zn.seg (pc2 := 6) (ls2 := [some (za o), some (zi x)]) (st2 := [zi 0]) [(5, .iconst 0)] (by decide +kernel) rfl ?_
  exact Zn.bret (by decide +kernel) rfl (by first | decide | omega) (⟨by first | rfl | (refine congrArg some (congrArg zi ?_); first | omega | (simp_all; done) | (simp_all; omega)), rfl⟩)
theorem sp_X6_goPast {h : xH} {o la L a : Nat} {fl nu na x : Int} {T : Nat → Int} (hc0 : h o = zcE (.inr (6, [za la, zi (L : Int), zi fl, zi (a : Int), zi nu, zi na]))) (hc1 : h la = zcE (.inl (0, 90, .inl T))) (hD : [o, la].Nodup) (hL9 : L ≤ 90) (haL : a ≤ L) (hT : ∀ j, j < L → 32 ≤ T j ∧ T j ≤ 126) (hx : -1000 ≤ x ∧ x ≤ 1000) : zEv k_X6_goPast [za o, zi x] h (fun v h2 => v = some (zi (tkV T L a x)) ∧ h2 = zov [(o, .inr (6, [za la, zi (L : Int), zi (tkL T L a x fl), zi (tkA T L a x : Int), zi nu, zi na])), (la, .inl (0, 90, .inl T))] h) := by
  have hh : h = zov [(o, .inr (6, [za la, zi (L : Int), zi fl, zi (a : Int), zi nu, zi na])), (la, .inl (0, 90, .inl T))] h := zov_self (List.forall_mem_cons.mpr ⟨hc0, List.forall_mem_cons.mpr ⟨hc1, fun _ q => absurd q List.not_mem_nil⟩⟩)
  have htk := tk_c T L a x
  have hcb := cur_b hT (sk T L a)
  refine zEv.body (I := (6, xI_X6_goPast, 2, 2, 41, 0, 0, false)) (rt := (some .boolean)) [some (za o), some (zi x)] rfl rfl rfl rfl ?_
  refine Zn.eq rfl rfl rfl hh ?_
  have hD : zND ([(o, .inr (6, [za la, zi (L : Int), zi fl, zi (a : Int), zi nu, zi na])), (la, .inl (0, 90, .inl T))]) := hD
  refine Zn.seg (pc2 := 1) (ls2 := [some (za o), some (zi x)]) (st2 := [za o]) [(0, .aload_n 0)] (by decide +kernel) rfl ?_
  refine Zn.call (ins := .invokevirtual 31) [za o] [] (by decide +kernel) rfl rfl rfl ⟨rfl, rfl⟩ ⟨rfl, rfl, rfl⟩ rfl (zrecvV hD (p := 0) rfl rfl rfl) (sp_X6_next (o := o) (la := la) (L := L) (a := a) (fl := fl) (nu := nu) (na := na) (T := T) (zov_get hD 0 rfl) (zov_get hD 1 rfl) (nd_sub hD [0, 1] rfl rfl) (hL9) (by first | assumption | omega) (hT)) (fun v h2 hp => ?_)
  obtain ⟨rfl, hq_1⟩ := hp
  refine Zn.eq (pc2 := 4) (ls2 := [some (za o), some (zi x)]) (st2 := [zi (cur T L (sk T L a))]) (h2 := zov ([(o, .inr (6, [za la, zi (L : Int), zi fl, zi (sk T L a : Int), zi nu, zi na])), (la, .inl (0, 90, .inl T))]) h) rfl rfl rfl (hq_1.trans (zov_put hD [0, 1] _ rfl)) ?_
  have hD : zND ([(o, .inr (6, [za la, zi (L : Int), zi fl, zi (sk T L a : Int), zi nu, zi na])), (la, .inl (0, 90, .inl T))]) := hD
  refine Zn.seg (pc2 := 5) (ls2 := [some (za o), some (zi x)]) (st2 := [zi x, zi (cur T L (sk T L a))]) [(4, .iload_n 1)] (by decide +kernel) rfl ?_
  refine Zn.icmp (c := .eq) (off := 12) 17 (by decide +kernel) rfl ⟨by omega, by omega⟩ ⟨by omega, by omega⟩ (fun c_2 => ?_) (fun c_2 => ?_)
  · have c_2 : cur T L (sk T L a) = x := c_2
    refine Zn.seg (pc2 := 19) (ls2 := [some (za o), some (zi x)]) (st2 := [za o, za o]) [(17, .aload_n 0), (18, .dup)] (by decide +kernel) rfl ?_
    refine Zn.get (ix := 22) hD 0 (by decide +kernel) rfl rfl rfl ?_
    refine Zn.seg (pc2 := 24) (ls2 := [some (za o), some (zi x)]) (st2 := [zi ((sk T L a : Int) + 1), za o]) [(22, .iconst 1), (23, .iadd)] (by decide +kernel) rfl ?_
    refine Zn.put (ix := 22) hD 0 (by decide +kernel) rfl rfl rfl rfl rfl ?_
    refine Zn.eq (h2 := zov ([(o, .inr (6, [za la, zi (L : Int), zi fl, zi ((sk T L a : Int) + 1), zi nu, zi na])), (la, .inl (0, 90, .inl T))]) h) rfl rfl rfl rfl ?_
    have hD : zND ([(o, .inr (6, [za la, zi (L : Int), zi fl, zi ((sk T L a : Int) + 1), zi nu, zi na])), (la, .inl (0, 90, .inl T))]) := hD
    refine Zn.seg (pc2 := 28) (ls2 := [some (za o), some (zi x)]) (st2 := [zi 1]) [(27, .iconst 1)] (by decide +kernel) rfl ?_
    exact Zn.bret (by decide +kernel) rfl (by first | decide | omega) (⟨by refine congrArg some (congrArg zi ?_); omega, by rw [tkL]; first | (rw [if_pos (by omega), show (tkA T L a x : Int) = (sk T L a : Int) + 1 from by omega]; done) | rw [if_neg (by omega), show (tkA T L a x : Int) = (sk T L a : Int) from by omega]⟩)
  · have c_2 : ¬ (cur T L (sk T L a) = x) := c_2
    refine Zn.seg (pc2 := 10) (ls2 := [some (za o), some (zi x)]) (st2 := [za o, za o]) [(8, .aload_n 0), (9, .aload_n 0)] (by decide +kernel) rfl ?_
    refine Zn.get (ix := 22) hD 0 (by decide +kernel) rfl rfl rfl ?_
    refine Zn.call (ins := .invokevirtual 35) [za o, zi (sk T L a : Int)] [] (by decide +kernel) rfl rfl rfl ⟨rfl, rfl⟩ ⟨rfl, rfl, rfl⟩ rfl (zrecvV hD (p := 0) rfl rfl rfl) (sp_X6_failAt (o := o) (la := la) (L := L) (a := sk T L a) (fl := fl) (nu := nu) (na := na) (x := (sk T L a : Int)) (zov_get hD 0 rfl)) (fun v h2 hp => ?_)
    obtain ⟨rfl, hq_3⟩ := hp
    refine Zn.eq (pc2 := 16) (ls2 := [some (za o), some (zi x)]) (st2 := [zi 0]) (h2 := zov ([(o, .inr (6, [za la, zi (L : Int), zi (sk T L a : Int), zi ((sk T L a) : Int), zi nu, zi na])), (la, .inl (0, 90, .inl T))]) h) rfl rfl rfl (hq_3.trans (zov_put hD [0] _ rfl)) ?_
    have hD : zND ([(o, .inr (6, [za la, zi (L : Int), zi (sk T L a : Int), zi ((sk T L a) : Int), zi nu, zi na])), (la, .inl (0, 90, .inl T))]) := hD
    exact Zn.bret (by decide +kernel) rfl (by first | decide | omega) (⟨by refine congrArg some (congrArg zi ?_); omega, by rw [tkL]; first | (rw [if_pos (by omega), show (tkA T L a x : Int) = (sk T L a : Int) + 1 from by omega]; done) | rw [if_neg (by omega), show (tkA T L a x : Int) = (sk T L a : Int) from by omega]⟩)
