/-! EvenErrors$Tape -/
def tkL (T : Nat → Int) (L a : Nat) (c f : Int) : Int := if cur T L (sk T L a) = c then f else (sk T L a : Int)
def okV (T : Nat → Int) (L a : Nat) : Int := if 48 ≤ cur T L (n1A T L a) ∧ cur T L (n1A T L a) ≤ 57 then 1 else 0
def okA (T : Nat → Int) (L a : Nat) : Nat := if 48 ≤ cur T L (n1A T L a) ∧ cur T L (n1A T L a) ≤ 57 then nEA T L a else n1A T L a
def okL (T : Nat → Int) (L a : Nat) (f : Int) : Int := if 48 ≤ cur T L (n1A T L a) ∧ cur T L (n1A T L a) ≤ 57 then f else (n1A T L a : Int)
def okN (T : Nat → Int) (L a : Nat) (o : Int) : Int := if 48 ≤ cur T L (n1A T L a) ∧ cur T L (n1A T L a) ≤ 57 then nVV T L a else o
theorem sp_X6_here {h : xH} {o la L a : Nat} {fl nu na : Int} {T : Nat → Int} (hc0 : h o = zcE (.inr (6, [za la, zi (L : Int), zi fl, zi (a : Int), zi nu, zi na]))) (hc1 : h la = zcE (.inl (0, 90, .inl T))) (hD : [o, la].Nodup) (hL9 : L ≤ 90) (haL : a ≤ L) (hT : ∀ j, j < L → 32 ≤ T j ∧ T j ≤ 126) : zEv k_X6_here [za o] h (fun v h2 => v = some (zi (cur T L a)) ∧ h2 = h) := by
  have hh : h = zov [(o, .inr (6, [za la, zi (L : Int), zi fl, zi (a : Int), zi nu, zi na])), (la, .inl (0, 90, .inl T))] h := zov_self (List.forall_mem_cons.mpr ⟨hc0, List.forall_mem_cons.mpr ⟨hc1, fun _ q => absurd q List.not_mem_nil⟩⟩)
  refine zEv.body (I := (6, xI_X6_here, 1, 0, 0, 0, 0, false)) (rt := (some .int)) [some (za o)] rfl rfl rfl rfl ?_
  refine Zn.eq rfl rfl rfl hh ?_
  have hD : zND ([(o, .inr (6, [za la, zi (L : Int), zi fl, zi (a : Int), zi nu, zi na])), (la, .inl (0, 90, .inl T))]) := hD
  refine Zn.seg (pc2 := 1) (ls2 := [some (za o)]) (st2 := [za o]) [(0, .aload_n 0)] (by decide +kernel) rfl ?_
  refine Zn.get (ix := 22) hD 0 (by decide +kernel) rfl rfl rfl ?_
  refine Zn.ifc (c := .lt) (off := 35) 39 (by decide +kernel) rfl ⟨by omega, by omega⟩ (fun c_1 => absurd (show (a : Int) < 0 from c_1) (by omega)) (fun c_1 => ?_)
  have c_1 : ¬ ((a : Int) < 0) := c_1
  refine Zn.seg (pc2 := 8) (ls2 := [some (za o)]) (st2 := [za o]) [(7, .aload_n 0)] (by decide +kernel) rfl ?_
  refine Zn.get (ix := 22) hD 0 (by decide +kernel) rfl rfl rfl ?_
  refine Zn.seg (pc2 := 12) (ls2 := [some (za o)]) (st2 := [za o, zi (a : Int)]) [(11, .aload_n 0)] (by decide +kernel) rfl ?_
  refine Zn.get (ix := 15) hD 0 (by decide +kernel) rfl rfl rfl ?_
  refine Zn.icmp (c := .ge) (off := 24) 39 (by decide +kernel) rfl ⟨by omega, by omega⟩ ⟨by omega, by omega⟩ (fun c_2 => ?_) (fun c_2 => ?_)
  · have c_2 : (L : Int) ≤ (a : Int) := c_2
    refine Zn.seg (pc2 := 40) (ls2 := [some (za o)]) (st2 := [zi 0]) [(39, .iconst 0)] (by decide +kernel) rfl ?_
    exact Zn.iret (by decide +kernel) rfl (⟨by refine congrArg some (congrArg zi ?_); rw [cur]; first | (rw [if_pos (by omega)]; done) | rw [if_neg (by omega)], hh.symm⟩)
  · have c_2 : ¬ ((L : Int) ≤ (a : Int)) := c_2
    refine Zn.seg (pc2 := 19) (ls2 := [some (za o)]) (st2 := [za o]) [(18, .aload_n 0)] (by decide +kernel) rfl ?_
    refine Zn.get (ix := 22) hD 0 (by decide +kernel) rfl rfl rfl ?_
    refine Zn.seg (pc2 := 24) (ls2 := [some (za o)]) (st2 := [zi 90, zi (a : Int)]) [(22, .bipush 90)] (by decide +kernel) rfl ?_
    refine Zn.icmp (c := .ge) (off := 15) 39 (by decide +kernel) rfl ⟨by omega, by omega⟩ ⟨by decide, by decide⟩ (fun c_3 => absurd (show 90 ≤ (a : Int) from c_3) (by omega)) (fun c_3 => ?_)
    have c_3 : ¬ (90 ≤ (a : Int)) := c_3
    refine Zn.seg (pc2 := 28) (ls2 := [some (za o)]) (st2 := [za o]) [(27, .aload_n 0)] (by decide +kernel) rfl ?_
    refine Zn.get (ix := 9) hD 0 (by decide +kernel) rfl rfl rfl ?_
    refine Zn.seg (pc2 := 32) (ls2 := [some (za o)]) (st2 := [za o, za la]) [(31, .aload_n 0)] (by decide +kernel) rfl ?_
    refine Zn.get (ix := 22) hD 0 (by decide +kernel) rfl rfl rfl ?_
    refine Zn.iald hD 1 (a) (by decide +kernel) rfl (by omega) (by omega) rfl ?_
    refine Zn.seg (pc2 := 40) (ls2 := [some (za o)]) (st2 := [zi (T a)]) [(36, .goto 4)] (by decide +kernel) rfl ?_
    exact Zn.iret (by decide +kernel) rfl (⟨by refine congrArg some (congrArg zi ?_); rw [cur]; first | (rw [if_pos (by omega)]; done) | rw [if_neg (by omega)], hh.symm⟩)
theorem sp_X6_next {h : xH} {o la L a : Nat} {fl nu na : Int} {T : Nat → Int} (hc0 : h o = zcE (.inr (6, [za la, zi (L : Int), zi fl, zi (a : Int), zi nu, zi na]))) (hc1 : h la = zcE (.inl (0, 90, .inl T))) (hD : [o, la].Nodup) (hL9 : L ≤ 90) (haL : a ≤ L) (hT : ∀ j, j < L → 32 ≤ T j ∧ T j ≤ 126) : zEv k_X6_next [za o] h (fun v h2 => v = some (zi (cur T L (sk T L a))) ∧ h2 = zov [(o, .inr (6, [za la, zi (L : Int), zi fl, zi (sk T L a : Int), zi nu, zi na])), (la, .inl (0, 90, .inl T))] h) := by
  have hh : h = zov [(o, .inr (6, [za la, zi (L : Int), zi fl, zi (a : Int), zi nu, zi na])), (la, .inl (0, 90, .inl T))] h := zov_self (List.forall_mem_cons.mpr ⟨hc0, List.forall_mem_cons.mpr ⟨hc1, fun _ q => absurd q List.not_mem_nil⟩⟩)
  refine zEv.body (I := (6, xI_X6_next, 2, 1, 20, 0, 0, false)) (rt := (some .int)) [some (za o), none] rfl rfl rfl rfl ?_
  refine Zn.eq rfl rfl rfl hh ?_
  have hD : zND ([(o, .inr (6, [za la, zi (L : Int), zi fl, zi (a : Int), zi nu, zi na])), (la, .inl (0, 90, .inl T))]) := hD
  refine Zn.seg (pc2 := 2) (ls2 := [some (za o), some (zi 0)]) (st2 := []) [(0, .iconst 0), (1, .istore_n 1)] (by decide +kernel) rfl ?_
  refine Zn.eq (pc2 := 2) (ls2 := [some (za o), some (zi (0 : Int))]) (st2 := []) (h2 := zov ([(o, .inr (6, [za la, zi (L : Int), zi fl, zi ((a + 0 : Nat) : Int), zi nu, zi na])), (la, .inl (0, 90, .inl T))]) h) rfl rfl rfl (rfl) ?_
  have hD : zND ([(o, .inr (6, [za la, zi (L : Int), zi fl, zi ((a + 0 : Nat) : Int), zi nu, zi na])), (la, .inl (0, 90, .inl T))]) := hD
  refine xloop (P := fun i_1 => (sk T L (a + i_1) = sk T L a ∧ a + i_1 ≤ L) → Zn (6, xI_X6_next, 2, 1, 20, 0, 0, false) (some .int) 2 [some (za o), some (zi (i_1 : Int))] [] (zov ([(o, .inr (6, [za la, zi (L : Int), zi fl, zi ((a + i_1 : Nat) : Int), zi nu, zi na])), (la, .inl (0, 90, .inl T))]) h) _) (91) (fun i_1 hi_2 ih_3 fa_4 => ?_) (fun fa_4 => ?_) (⟨rfl, haL⟩)
  · have hi_ : i_1 < 91 := hi_2
    have hD : zND ([(o, .inr (6, [za la, zi (L : Int), zi fl, zi ((a + i_1 : Nat) : Int), zi nu, zi na])), (la, .inl (0, 90, .inl T))]) := hD
    have hfa_ := fa_4
    have hcb := cur_b hT (a + i_1)
    refine Zn.seg (pc2 := 5) (ls2 := [some (za o), some (zi (i_1 : Int))]) (st2 := [zi 90, zi (i_1 : Int)]) [(2, .iload_n 1), (3, .bipush 90)] (by decide +kernel) rfl ?_
    refine Zn.icmp (c := .ge) (off := 28) 33 (by decide +kernel) rfl ⟨by omega, by omega⟩ ⟨by decide, by decide⟩ (fun c_5 => ?_) (fun c_5 => ?_)
    · have c_5 : 90 ≤ (i_1 : Int) := c_5
      refine Zn.seg (pc2 := 34) (ls2 := [some (za o), some (zi (i_1 : Int))]) (st2 := [za o]) [(33, .aload_n 0)] (by decide +kernel) rfl ?_
      refine Zn.call (ins := .invokevirtual 87) [za o] [] (by decide +kernel) rfl rfl rfl ⟨rfl, rfl⟩ ⟨rfl, rfl, rfl⟩ rfl (zrecvV hD (p := 0) rfl rfl rfl) (sp_X6_here (o := o) (la := la) (L := L) (a := (a + i_1)) (fl := fl) (nu := nu) (na := na) (T := T) (zov_get hD 0 rfl) (zov_get hD 1 rfl) (nd_sub hD [0, 1] rfl rfl) (hL9) (hfa_.2) (hT)) (fun v h2 hp => ?_)
      obtain ⟨rfl, hq_6⟩ := hp
      refine Zn.eq (pc2 := 37) (ls2 := [some (za o), some (zi (i_1 : Int))]) (st2 := [zi (cur T L (a + i_1))]) (h2 := zov ([(o, .inr (6, [za la, zi (L : Int), zi fl, zi ((a + i_1 : Nat) : Int), zi nu, zi na])), (la, .inl (0, 90, .inl T))]) h) rfl rfl rfl hq_6 ?_
      have hD : zND ([(o, .inr (6, [za la, zi (L : Int), zi fl, zi ((a + i_1 : Nat) : Int), zi nu, zi na])), (la, .inl (0, 90, .inl T))]) := hD
      exact Zn.iret (by decide +kernel) rfl (⟨by refine congrArg some (congrArg zi ?_); first | (exfalso; omega) | rw [← hfa_.1, sk_n (by omega)], by first | (exfalso; omega) | rw [← hfa_.1, sk_n (by omega)]⟩)
    · have c_5 : ¬ (90 ≤ (i_1 : Int)) := c_5
      refine Zn.seg (pc2 := 9) (ls2 := [some (za o), some (zi (i_1 : Int))]) (st2 := [za o]) [(8, .aload_n 0)] (by decide +kernel) rfl ?_
      refine Zn.call (ins := .invokevirtual 87) [za o] [] (by decide +kernel) rfl rfl rfl ⟨rfl, rfl⟩ ⟨rfl, rfl, rfl⟩ rfl (zrecvV hD (p := 0) rfl rfl rfl) (sp_X6_here (o := o) (la := la) (L := L) (a := (a + i_1)) (fl := fl) (nu := nu) (na := na) (T := T) (zov_get hD 0 rfl) (zov_get hD 1 rfl) (nd_sub hD [0, 1] rfl rfl) (hL9) (hfa_.2) (hT)) (fun v h2 hp => ?_)
      obtain ⟨rfl, hq_7⟩ := hp
      refine Zn.eq (pc2 := 12) (ls2 := [some (za o), some (zi (i_1 : Int))]) (st2 := [zi (cur T L (a + i_1))]) (h2 := zov ([(o, .inr (6, [za la, zi (L : Int), zi fl, zi ((a + i_1 : Nat) : Int), zi nu, zi na])), (la, .inl (0, 90, .inl T))]) h) rfl rfl rfl hq_7 ?_
      have hD : zND ([(o, .inr (6, [za la, zi (L : Int), zi fl, zi ((a + i_1 : Nat) : Int), zi nu, zi na])), (la, .inl (0, 90, .inl T))]) := hD
      refine Zn.seg (pc2 := 14) (ls2 := [some (za o), some (zi (i_1 : Int))]) (st2 := [zi 32, zi (cur T L (a + i_1))]) [(12, .bipush 32)] (by decide +kernel) rfl ?_
      refine Zn.icmp (c := .ne) (off := 19) 33 (by decide +kernel) rfl ⟨by omega, by omega⟩ ⟨by decide, by decide⟩ (fun c_8 => ?_) (fun c_8 => ?_)
      · have c_8 : cur T L (a + i_1) ≠ 32 := c_8
        refine Zn.seg (pc2 := 34) (ls2 := [some (za o), some (zi (i_1 : Int))]) (st2 := [za o]) [(33, .aload_n 0)] (by decide +kernel) rfl ?_
        refine Zn.call (ins := .invokevirtual 87) [za o] [] (by decide +kernel) rfl rfl rfl ⟨rfl, rfl⟩ ⟨rfl, rfl, rfl⟩ rfl (zrecvV hD (p := 0) rfl rfl rfl) (sp_X6_here (o := o) (la := la) (L := L) (a := (a + i_1)) (fl := fl) (nu := nu) (na := na) (T := T) (zov_get hD 0 rfl) (zov_get hD 1 rfl) (nd_sub hD [0, 1] rfl rfl) (hL9) (hfa_.2) (hT)) (fun v h2 hp => ?_)
        obtain ⟨rfl, hq_9⟩ := hp
        refine Zn.eq (pc2 := 37) (ls2 := [some (za o), some (zi (i_1 : Int))]) (st2 := [zi (cur T L (a + i_1))]) (h2 := zov ([(o, .inr (6, [za la, zi (L : Int), zi fl, zi ((a + i_1 : Nat) : Int), zi nu, zi na])), (la, .inl (0, 90, .inl T))]) h) rfl rfl rfl hq_9 ?_
        have hD : zND ([(o, .inr (6, [za la, zi (L : Int), zi fl, zi ((a + i_1 : Nat) : Int), zi nu, zi na])), (la, .inl (0, 90, .inl T))]) := hD
        exact Zn.iret (by decide +kernel) rfl (⟨by refine congrArg some (congrArg zi ?_); first | (exfalso; omega) | rw [← hfa_.1, sk_n (by omega)], by first | (exfalso; omega) | rw [← hfa_.1, sk_n (by omega)]⟩)
      · have c_8 : ¬ (cur T L (a + i_1) ≠ 32) := c_8
        refine Zn.seg (pc2 := 19) (ls2 := [some (za o), some (zi (i_1 : Int))]) (st2 := [za o, za o]) [(17, .aload_n 0), (18, .dup)] (by decide +kernel) rfl ?_
        refine Zn.get (ix := 22) hD 0 (by decide +kernel) rfl rfl rfl ?_
        refine Zn.seg (pc2 := 24) (ls2 := [some (za o), some (zi (i_1 : Int))]) (st2 := [zi (((a + i_1 : Nat) : Int) + 1), za o]) [(22, .iconst 1), (23, .iadd)] (by decide +kernel) rfl ?_
        refine Zn.put (ix := 22) hD 0 (by decide +kernel) rfl rfl rfl rfl rfl ?_
        refine Zn.eq (h2 := zov ([(o, .inr (6, [za la, zi (L : Int), zi fl, zi (((a + i_1 : Nat) : Int) + 1), zi nu, zi na])), (la, .inl (0, 90, .inl T))]) h) rfl rfl rfl rfl ?_
        have hD : zND ([(o, .inr (6, [za la, zi (L : Int), zi fl, zi (((a + i_1 : Nat) : Int) + 1), zi nu, zi na])), (la, .inl (0, 90, .inl T))]) := hD
        refine Zn.seg (pc2 := 2) (ls2 := [some (za o), some (zi ((i_1 : Int) + 1))]) (st2 := []) [(27, .iinc 1 1), (30, .goto (-28))] (by decide +kernel) rfl ?_
        exact Zn.eq rfl (zcons rfl (zcons (congrArg (fun z => some (zi z)) (by omega)) rfl)) rfl (by rw [show a + (i_1 + 1) = a + i_1 + 1 from rfl, Int.natCast_add (a + i_1) 1]; rfl) (ih_3 (⟨(sk_b (a := a + i_1) (by omega) (by omega)).symm.trans fa_4.1, by omega⟩))
  · exact absurd (show False from by (have := fa_4.2; omega)) (fun q_ => q_)
theorem sp_X6_isFigure {h : xH} {x : Int} (hx : zInI x) : zEv k_X6_isFigure [zi x] h (fun v h2 => v = some (zi (inB 48 57 x)) ∧ h2 = h) := by
  have hD : ([] : List Nat).Nodup := List.nodup_nil
  have hh : h = zov [] h := zov_self (fun _ q => absurd q List.not_mem_nil)
  have hx1 := hx.1
  have hx2 := hx.2
  have hin := inB_spec 48 57 x
  refine zEv.body (I := (6, xI_X6_isFigure, 1, 0, 0, 0, 0, false)) (rt := (some .boolean)) [some (zi x)] rfl rfl rfl rfl ?_
  refine Zn.eq rfl rfl rfl hh ?_
  have hD : zND ([]) := hD
  refine Zn.seg (pc2 := 3) (ls2 := [some (zi x)]) (st2 := [zi 48, zi x]) [(0, .iload_n 0), (1, .bipush 48)] (by decide +kernel) rfl ?_
  refine Zn.icmp (c := .lt) (off := 13) 16 (by decide +kernel) rfl ⟨by omega, by omega⟩ ⟨by decide, by decide⟩ (fun c_1 => ?_) (fun c_1 => ?_)
  · have c_1 : x < 48 := c_1
    refine Zn.seg (pc2 := 17) (ls2 := [some (zi x)]) (st2 := [zi 0]) [(16, .iconst 0)] (by decide +kernel) rfl ?_
    exact Zn.bret (by decide +kernel) rfl (by first | decide | omega) (⟨by first | rfl | (refine congrArg some (congrArg zi ?_); first | omega | (simp_all; done) | (simp_all; omega)), hh.symm⟩)
  · have c_1 : ¬ (x < 48) := c_1
    refine Zn.seg (pc2 := 9) (ls2 := [some (zi x)]) (st2 := [zi 57, zi x]) [(6, .iload_n 0), (7, .bipush 57)] (by decide +kernel) rfl ?_
    refine Zn.icmp (c := .gt) (off := 7) 16 (by decide +kernel) rfl ⟨by omega, by omega⟩ ⟨by decide, by decide⟩ (fun c_2 => ?_) (fun c_2 => ?_)
    · have c_2 : 57 < x := c_2
      refine Zn.seg (pc2 := 17) (ls2 := [some (zi x)]) (st2 := [zi 0]) [(16, .iconst 0)] (by decide +kernel) rfl ?_
      exact Zn.bret (by decide +kernel) rfl (by first | decide | omega) (⟨by first | rfl | (refine congrArg some (congrArg zi ?_); first | omega | (simp_all; done) | (simp_all; omega)), hh.symm⟩)
    · have c_2 : ¬ (57 < x) := c_2
      refine Zn.seg (pc2 := 17) (ls2 := [some (zi x)]) (st2 := [zi 1]) [(12, .iconst 1), (13, .goto 4)] (by decide +kernel) rfl ?_
      exact Zn.bret (by decide +kernel) rfl (by first | decide | omega) (⟨by first | rfl | (refine congrArg some (congrArg zi ?_); first | omega | (simp_all; done) | (simp_all; omega)), hh.symm⟩)
theorem sp_X6_failAt {h : xH} {o la L a : Nat} {fl nu na x : Int} (hc0 : h o = zcE (.inr (6, [za la, zi (L : Int), zi fl, zi (a : Int), zi nu, zi na]))) : zEv k_X6_failAt [za o, zi x] h (fun v h2 => v = some (zi 0) ∧ h2 = zov [(o, .inr (6, [za la, zi (L : Int), zi x, zi (a : Int), zi nu, zi na]))] h) := by
  have hD : [o].Nodup := by simp
  have hh : h = zov [(o, .inr (6, [za la, zi (L : Int), zi fl, zi (a : Int), zi nu, zi na]))] h := zov_self (List.forall_mem_cons.mpr ⟨hc0, fun _ q => absurd q List.not_mem_nil⟩)
  refine zEv.body (I := (6, xI_X6_failAt, 2, 0, 0, 0, 0, false)) (rt := (some .boolean)) [some (za o), some (zi x)] rfl rfl rfl rfl ?_
  refine Zn.eq rfl rfl rfl hh ?_
  have hD : zND ([(o, .inr (6, [za la, zi (L : Int), zi fl, zi (a : Int), zi nu, zi na]))]) := hD
  refine Zn.seg (pc2 := 2) (ls2 := [some (za o), some (zi x)]) (st2 := [zi x, za o]) [(0, .aload_n 0), (1, .iload_n 1)] (by decide +kernel) rfl ?_
  refine Zn.put (ix := 19) hD 0 (by decide +kernel) rfl rfl rfl rfl rfl ?_
  refine Zn.eq (h2 := zov ([(o, .inr (6, [za la, zi (L : Int), zi x, zi (a : Int), zi nu, zi na]))]) h) rfl rfl rfl rfl ?_
  have hD : zND ([(o, .inr (6, [za la, zi (L : Int), zi x, zi (a : Int), zi nu, zi na]))]) := hD
  refine Zn.seg (pc2 := 6) (ls2 := [some (za o), some (zi x)]) (st2 := [zi 0]) [(5, .iconst 0)] (by decide +kernel) rfl ?_
  exact Zn.bret (by decide +kernel) rfl (by first | decide | omega) (⟨by first | rfl | (refine congrArg some (congrArg zi ?_); first | omega | (simp_all; done) | (simp_all; omega)), rfl⟩)
theorem sp_X6_goPast {h : xH} {o la L a : Nat} {fl nu na x : Int} {T : Nat → Int} (hc0 : h o = zcE (.inr (6, [za la, zi (L : Int), zi fl, zi (a : Int), zi nu, zi na]))) (hc1 : h la = zcE (.inl (0, 90, .inl T))) (hD : [o, la].Nodup) (hL9 : L ≤ 90) (haL : a ≤ L) (hT : ∀ j, j < L → 32 ≤ T j ∧ T j ≤ 126) (hx : -1000 ≤ x ∧ x ≤ 1000) : zEv k_X6_goPast [za o, zi x] h (fun v h2 => v = some (zi (tkV T L a x)) ∧ h2 = zov [(o, .inr (6, [za la, zi (L : Int), zi (tkL T L a x fl), zi (tkA T L a x : Int), zi nu, zi na])), (la, .inl (0, 90, .inl T))] h) := by
  have hh : h = zov [(o, .inr (6, [za la, zi (L : Int), zi fl, zi (a : Int), zi nu, zi na])), (la, .inl (0, 90, .inl T))] h := zov_self (List.forall_mem_cons.mpr ⟨hc0, List.forall_mem_cons.mpr ⟨hc1, fun _ q => absurd q List.not_mem_nil⟩⟩)
  have htk := tk_c T L a x
  have hcb := cur_b hT (sk T L a)
  refine zEv.body (I := (6, xI_X6_goPast, 2, 2, 41, 0, 0, false)) (rt := (some .boolean)) [some (za o), some (zi x)] rfl rfl rfl rfl ?_
  refine Zn.eq rfl rfl rfl hh ?_
  have hD : zND ([(o, .inr (6, [za la, zi (L : Int), zi fl, zi (a : Int), zi nu, zi na])), (la, .inl (0, 90, .inl T))]) := hD
  refine Zn.seg (pc2 := 1) (ls2 := [some (za o), some (zi x)]) (st2 := [za o]) [(0, .aload_n 0)] (by decide +kernel) rfl ?_
  refine Zn.call (ins := .invokevirtual 31) [za o] [] (by decide +kernel) rfl rfl rfl ⟨rfl, rfl⟩ ⟨rfl, rfl, rfl⟩ rfl (zrecvV hD (p := 0) rfl rfl rfl) (sp_X6_next (o := o) (la := la) (L := L) (a := a) (fl := fl) (nu := nu) (na := na) (T := T) (zov_get hD 0 rfl) (zov_get hD 1 rfl) (nd_sub hD [0, 1] rfl rfl) (hL9) (by first | assumption | omega) (hT)) (fun v h2 hp => ?_)
  obtain ⟨rfl, hq_1⟩ := hp
  refine Zn.eq (pc2 := 4) (ls2 := [some (za o), some (zi x)]) (st2 := [zi (cur T L (sk T L a))]) (h2 := zov ([(o, .inr (6, [za la, zi (L : Int), zi fl, zi (sk T L a : Int), zi nu, zi na])), (la, .inl (0, 90, .inl T))]) h) rfl rfl rfl (hq_1.trans (zov_put hD [0, 1] _ rfl)) ?_
  have hD : zND ([(o, .inr (6, [za la, zi (L : Int), zi fl, zi (sk T L a : Int), zi nu, zi na])), (la, .inl (0, 90, .inl T))]) := hD
  refine Zn.seg (pc2 := 5) (ls2 := [some (za o), some (zi x)]) (st2 := [zi x, zi (cur T L (sk T L a))]) [(4, .iload_n 1)] (by decide +kernel) rfl ?_
  refine Zn.icmp (c := .eq) (off := 12) 17 (by decide +kernel) rfl ⟨by omega, by omega⟩ ⟨by omega, by omega⟩ (fun c_2 => ?_) (fun c_2 => ?_)
  · have c_2 : cur T L (sk T L a) = x := c_2
    refine Zn.seg (pc2 := 19) (ls2 := [some (za o), some (zi x)]) (st2 := [za o, za o]) [(17, .aload_n 0), (18, .dup)] (by decide +kernel) rfl ?_
    refine Zn.get (ix := 22) hD 0 (by decide +kernel) rfl rfl rfl ?_
    refine Zn.seg (pc2 := 24) (ls2 := [some (za o), some (zi x)]) (st2 := [zi ((sk T L a : Int) + 1), za o]) [(22, .iconst 1), (23, .iadd)] (by decide +kernel) rfl ?_
    refine Zn.put (ix := 22) hD 0 (by decide +kernel) rfl rfl rfl rfl rfl ?_
    refine Zn.eq (h2 := zov ([(o, .inr (6, [za la, zi (L : Int), zi fl, zi ((sk T L a : Int) + 1), zi nu, zi na])), (la, .inl (0, 90, .inl T))]) h) rfl rfl rfl rfl ?_
    have hD : zND ([(o, .inr (6, [za la, zi (L : Int), zi fl, zi ((sk T L a : Int) + 1), zi nu, zi na])), (la, .inl (0, 90, .inl T))]) := hD
    refine Zn.seg (pc2 := 28) (ls2 := [some (za o), some (zi x)]) (st2 := [zi 1]) [(27, .iconst 1)] (by decide +kernel) rfl ?_
    exact Zn.bret (by decide +kernel) rfl (by first | decide | omega) (⟨by refine congrArg some (congrArg zi ?_); omega, by rw [tkL]; first | (rw [if_pos (by omega), show (tkA T L a x : Int) = (sk T L a : Int) + 1 from by omega]; done) | rw [if_neg (by omega), show (tkA T L a x : Int) = (sk T L a : Int) from by omega]⟩)
  · have c_2 : ¬ (cur T L (sk T L a) = x) := c_2
    refine Zn.seg (pc2 := 10) (ls2 := [some (za o), some (zi x)]) (st2 := [za o, za o]) [(8, .aload_n 0), (9, .aload_n 0)] (by decide +kernel) rfl ?_
    refine Zn.get (ix := 22) hD 0 (by decide +kernel) rfl rfl rfl ?_
    refine Zn.call (ins := .invokevirtual 35) [za o, zi (sk T L a : Int)] [] (by decide +kernel) rfl rfl rfl ⟨rfl, rfl⟩ ⟨rfl, rfl, rfl⟩ rfl (zrecvV hD (p := 0) rfl rfl rfl) (sp_X6_failAt (o := o) (la := la) (L := L) (a := sk T L a) (fl := fl) (nu := nu) (na := na) (x := (sk T L a : Int)) (zov_get hD 0 rfl)) (fun v h2 hp => ?_)
    obtain ⟨rfl, hq_3⟩ := hp
    refine Zn.eq (pc2 := 16) (ls2 := [some (za o), some (zi x)]) (st2 := [zi 0]) (h2 := zov ([(o, .inr (6, [za la, zi (L : Int), zi (sk T L a : Int), zi ((sk T L a) : Int), zi nu, zi na])), (la, .inl (0, 90, .inl T))]) h) rfl rfl rfl (hq_3.trans (zov_put hD [0] _ rfl)) ?_
    have hD : zND ([(o, .inr (6, [za la, zi (L : Int), zi (sk T L a : Int), zi ((sk T L a) : Int), zi nu, zi na])), (la, .inl (0, 90, .inl T))]) := hD
    exact Zn.bret (by decide +kernel) rfl (by first | decide | omega) (⟨by refine congrArg some (congrArg zi ?_); omega, by rw [tkL]; first | (rw [if_pos (by omega), show (tkA T L a x : Int) = (sk T L a : Int) + 1 from by omega]; done) | rw [if_neg (by omega), show (tkA T L a x : Int) = (sk T L a : Int) from by omega]⟩)
set_option maxHeartbeats 1000001 in
set_option maxRecDepth 20000 in
theorem sp_X6_parseNumber {h : xH} {o la L a : Nat} {fl nu na : Int} {T : Nat → Int} (hc0 : h o = zcE (.inr (6, [za la, zi (L : Int), zi fl, zi (a : Int), zi nu, zi na]))) (hc1 : h la = zcE (.inl (0, 90, .inl T))) (hD : [o, la].Nodup) (hL9 : L ≤ 90) (haL : a ≤ L) (hT : ∀ j, j < L → 32 ≤ T j ∧ T j ≤ 126) : zEv k_X6_parseNumber [za o] h (fun v h2 => v = some (zi (okV T L a)) ∧ h2 = zov [(o, .inr (6, [za la, zi (L : Int), zi (okL T L a fl), zi (okA T L a : Int), zi (okN T L a nu), zi (sk T L a : Int)])), (la, .inl (0, 90, .inl T))] h) := by
  have hh : h = zov [(o, .inr (6, [za la, zi (L : Int), zi fl, zi (a : Int), zi nu, zi na])), (la, .inl (0, 90, .inl T))] h := zov_self (List.forall_mem_cons.mpr ⟨hc0, List.forall_mem_cons.mpr ⟨hc1, fun _ q => absurd q List.not_mem_nil⟩⟩)
  have hsk := sk_r (T := T) haL
  have hcb := cur_b hT (sk T L a)
  have hn1 := n1_r hT haL
  have hni := sk_n hn1.2.2
  have hcn := cur_b hT (n1A T L a)
  have hcm := cur_b hT (n1A T L a + 1)
  have hnw := nWV_b T L a
  have hnv := nVV_c T L a
  have hne := nEA_c T L a
  have hngv := ngV_c T L a
  refine zEv.body (I := (6, xI_X6_parseNumber, 2, 2, 41, 0, 0, false)) (rt := (some .boolean)) [some (za o), none] rfl rfl rfl rfl ?_
  refine Zn.eq rfl rfl rfl hh ?_
  have hD : zND ([(o, .inr (6, [za la, zi (L : Int), zi fl, zi (a : Int), zi nu, zi na])), (la, .inl (0, 90, .inl T))]) := hD
  refine Zn.seg (pc2 := 1) (ls2 := [some (za o), none]) (st2 := [za o]) [(0, .aload_n 0)] (by decide +kernel) rfl ?_
  refine Zn.call (ins := .invokevirtual 31) [za o] [] (by decide +kernel) rfl rfl rfl ⟨rfl, rfl⟩ ⟨rfl, rfl, rfl⟩ rfl (zrecvV hD (p := 0) rfl rfl rfl) (sp_X6_next (o := o) (la := la) (L := L) (a := a) (fl := fl) (nu := nu) (na := na) (T := T) (zov_get hD 0 rfl) (zov_get hD 1 rfl) (nd_sub hD [0, 1] rfl rfl) (hL9) (by first | assumption | omega) (hT)) (fun v h2 hp => ?_)
  obtain ⟨rfl, hq_1⟩ := hp
  refine Zn.eq (pc2 := 4) (ls2 := [some (za o), none]) (st2 := [zi (cur T L (sk T L a))]) (h2 := zov ([(o, .inr (6, [za la, zi (L : Int), zi fl, zi (sk T L a : Int), zi nu, zi na])), (la, .inl (0, 90, .inl T))]) h) rfl rfl rfl (hq_1.trans (zov_put hD [0, 1] _ rfl)) ?_
  have hD : zND ([(o, .inr (6, [za la, zi (L : Int), zi fl, zi (sk T L a : Int), zi nu, zi na])), (la, .inl (0, 90, .inl T))]) := hD
  refine Zn.seg (pc2 := 6) (ls2 := [some (za o), none]) (st2 := [zi 45, zi (cur T L (sk T L a))]) [(4, .bipush 45)] (by decide +kernel) rfl ?_
  refine Zn.icmp (c := .ne) (off := 7) 13 (by decide +kernel) rfl ⟨by omega, by omega⟩ ⟨by decide, by decide⟩ (fun c_2 => ?_) (fun c_2 => ?_)
  · have c_2 : cur T L (sk T L a) ≠ 45 := c_2
    refine Zn.seg (pc2 := 17) (ls2 := [some (za o), some (zi 0)]) (st2 := [za o, za o]) [(13, .iconst 0), (14, .istore_n 1), (15, .aload_n 0), (16, .aload_n 0)] (by decide +kernel) rfl ?_
    refine Zn.get (ix := 22) hD 0 (by decide +kernel) rfl rfl rfl ?_
    refine Zn.put (ix := 28) hD 0 (by decide +kernel) rfl rfl rfl rfl rfl ?_
    refine Zn.eq (h2 := zov ([(o, .inr (6, [za la, zi (L : Int), zi fl, zi (sk T L a : Int), zi nu, zi (sk T L a : Int)])), (la, .inl (0, 90, .inl T))]) h) rfl rfl rfl rfl ?_
    have hD : zND ([(o, .inr (6, [za la, zi (L : Int), zi fl, zi (sk T L a : Int), zi nu, zi (sk T L a : Int)])), (la, .inl (0, 90, .inl T))]) := hD
    refine Zn.seg (pc2 := 24) (ls2 := [some (za o), some (zi 0)]) (st2 := [zi 0]) [(23, .iload_n 1)] (by decide +kernel) rfl ?_
    refine Zn.ifc (c := .eq) (off := 13) 37 (by decide +kernel) rfl ⟨by decide, by decide⟩ (fun c_3 => ?_) (fun c_3 => absurd (show (0 : Int) = 0 from by decide) c_3)
    have c_3 : (0 : Int) = 0 := c_3
    refine Zn.seg (pc2 := 38) (ls2 := [some (za o), some (zi 0)]) (st2 := [za o]) [(37, .aload_n 0)] (by decide +kernel) rfl ?_
    refine Zn.call (ins := .invokevirtual 31) [za o] [] (by decide +kernel) rfl rfl rfl ⟨rfl, rfl⟩ ⟨rfl, rfl, rfl⟩ rfl (zrecvV hD (p := 0) rfl rfl rfl) (sp_X6_next (o := o) (la := la) (L := L) (a := sk T L a) (fl := fl) (nu := nu) (na := (sk T L a : Int)) (T := T) (zov_get hD 0 rfl) (zov_get hD 1 rfl) (nd_sub hD [0, 1] rfl rfl) (hL9) (by first | assumption | omega) (hT)) (fun v h2 hp => ?_)
    obtain ⟨rfl, hq_4⟩ := hp
    refine Zn.eq (pc2 := 41) (ls2 := [some (za o), some (zi 0)]) (st2 := [zi (cur T L (sk T L (sk T L a)))]) (h2 := zov ([(o, .inr (6, [za la, zi (L : Int), zi fl, zi (sk T L (sk T L a) : Int), zi nu, zi (sk T L a : Int)])), (la, .inl (0, 90, .inl T))]) h) rfl rfl rfl (hq_4.trans (zov_put hD [0, 1] _ rfl)) ?_
    have hD : zND ([(o, .inr (6, [za la, zi (L : Int), zi fl, zi (sk T L (sk T L a) : Int), zi nu, zi (sk T L a : Int)])), (la, .inl (0, 90, .inl T))]) := hD
    refine Zn.topi (y := cur T L (n1A T L a)) (by first | (exfalso; omega) | (rw [n1_m (by omega)]; done) | (rw [n1_p (by omega), sk_i hsk]; done)) ?_
    refine Zn.eq (pc2 := 41) (ls2 := [some (za o), some (zi 0)]) (st2 := [zi (cur T L (n1A T L a))]) (h2 := zov ([(o, .inr (6, [za la, zi (L : Int), zi fl, zi (n1A T L a : Int), zi nu, zi (sk T L a : Int)])), (la, .inl (0, 90, .inl T))]) h) rfl rfl rfl (by first | (exfalso; omega) | (rw [n1_m (by omega)]; done) | (rw [n1_p (by omega), sk_i hsk]; done)) ?_
    have hD : zND ([(o, .inr (6, [za la, zi (L : Int), zi fl, zi (n1A T L a : Int), zi nu, zi (sk T L a : Int)])), (la, .inl (0, 90, .inl T))]) := hD
    refine Zn.call (ins := .invokestatic 84) [zi (cur T L (n1A T L a))] [] (by decide +kernel) rfl rfl rfl ⟨rfl, rfl⟩ ⟨rfl, rfl, rfl⟩ rfl (zrecvS (by decide)) (sp_X6_isFigure (x := cur T L (n1A T L a)) (⟨by omega, by omega⟩)) (fun v h2 hp => ?_)
    obtain ⟨rfl, hq_5⟩ := hp
    refine Zn.eq (pc2 := 44) (ls2 := [some (za o), some (zi 0)]) (st2 := [zi (inB 48 57 (cur T L (n1A T L a)))]) (h2 := zov ([(o, .inr (6, [za la, zi (L : Int), zi fl, zi (n1A T L a : Int), zi nu, zi (sk T L a : Int)])), (la, .inl (0, 90, .inl T))]) h) rfl rfl rfl hq_5 ?_
    have hD : zND ([(o, .inr (6, [za la, zi (L : Int), zi fl, zi (n1A T L a : Int), zi nu, zi (sk T L a : Int)])), (la, .inl (0, 90, .inl T))]) := hD
    have q_6 := inB_spec 48 57 (cur T L (n1A T L a))
    refine Zn.ifc (c := .ne) (off := 12) 56 (by decide +kernel) rfl ⟨by omega, by omega⟩ (fun c_7 => ?_) (fun c_7 => ?_)
    · have c_7 : inB 48 57 (cur T L (n1A T L a)) ≠ 0 := c_7
      refine Zn.seg (pc2 := 58) (ls2 := [some (za o), some (zi 0)]) (st2 := [za o, za o]) [(56, .aload_n 0), (57, .aload_n 0)] (by decide +kernel) rfl ?_
      refine Zn.call (ins := .invokevirtual 31) [za o] [za o] (by decide +kernel) rfl rfl rfl ⟨rfl, rfl⟩ ⟨rfl, rfl, rfl⟩ rfl (zrecvV hD (p := 0) rfl rfl rfl) (sp_X6_next (o := o) (la := la) (L := L) (a := (n1A T L a)) (fl := fl) (nu := nu) (na := (sk T L a : Int)) (T := T) (zov_get hD 0 rfl) (zov_get hD 1 rfl) (nd_sub hD [0, 1] rfl rfl) (hL9) (hn1.2.1) (hT)) (fun v h2 hp => ?_)
      obtain ⟨rfl, hq_8⟩ := hp
      refine Zn.eq (pc2 := 61) (ls2 := [some (za o), some (zi 0)]) (st2 := [zi (cur T L (sk T L (n1A T L a))), za o]) (h2 := zov ([(o, .inr (6, [za la, zi (L : Int), zi fl, zi (sk T L (n1A T L a) : Int), zi nu, zi (sk T L a : Int)])), (la, .inl (0, 90, .inl T))]) h) rfl rfl rfl (hq_8.trans (zov_put hD [0, 1] _ rfl)) ?_
      have hD : zND ([(o, .inr (6, [za la, zi (L : Int), zi fl, zi (sk T L (n1A T L a) : Int), zi nu, zi (sk T L a : Int)])), (la, .inl (0, 90, .inl T))]) := hD
      refine Zn.topi (y := cur T L (n1A T L a)) (by rw [hni]) ?_
      refine Zn.eq (pc2 := 61) (ls2 := [some (za o), some (zi 0)]) (st2 := [zi (cur T L (n1A T L a)), za o]) (h2 := zov ([(o, .inr (6, [za la, zi (L : Int), zi fl, zi (n1A T L a : Int), zi nu, zi (sk T L a : Int)])), (la, .inl (0, 90, .inl T))]) h) rfl rfl rfl (by rw [hni]) ?_
      have hD : zND ([(o, .inr (6, [za la, zi (L : Int), zi fl, zi (n1A T L a : Int), zi nu, zi (sk T L a : Int)])), (la, .inl (0, 90, .inl T))]) := hD
      refine Zn.seg (pc2 := 64) (ls2 := [some (za o), some (zi 0)]) (st2 := [zi (cur T L (n1A T L a) - 48), za o]) [(61, .bipush 48), (63, .isub)] (by decide +kernel) rfl ?_
      refine Zn.put (ix := 25) hD 0 (by decide +kernel) rfl rfl rfl rfl rfl ?_
      refine Zn.eq (h2 := zov ([(o, .inr (6, [za la, zi (L : Int), zi fl, zi (n1A T L a : Int), zi (cur T L (n1A T L a) - 48), zi (sk T L a : Int)])), (la, .inl (0, 90, .inl T))]) h) rfl rfl rfl rfl ?_
      have hD : zND ([(o, .inr (6, [za la, zi (L : Int), zi fl, zi (n1A T L a : Int), zi (cur T L (n1A T L a) - 48), zi (sk T L a : Int)])), (la, .inl (0, 90, .inl T))]) := hD
      refine Zn.seg (pc2 := 69) (ls2 := [some (za o), some (zi 0)]) (st2 := [za o, za o]) [(67, .aload_n 0), (68, .dup)] (by decide +kernel) rfl ?_
      refine Zn.get (ix := 22) hD 0 (by decide +kernel) rfl rfl rfl ?_
      refine Zn.seg (pc2 := 74) (ls2 := [some (za o), some (zi 0)]) (st2 := [zi ((n1A T L a : Int) + 1), za o]) [(72, .iconst 1), (73, .iadd)] (by decide +kernel) rfl ?_
      refine Zn.put (ix := 22) hD 0 (by decide +kernel) rfl rfl rfl rfl rfl ?_
      refine Zn.eq (h2 := zov ([(o, .inr (6, [za la, zi (L : Int), zi fl, zi ((n1A T L a : Int) + 1), zi (cur T L (n1A T L a) - 48), zi (sk T L a : Int)])), (la, .inl (0, 90, .inl T))]) h) rfl rfl rfl rfl ?_
      have hD : zND ([(o, .inr (6, [za la, zi (L : Int), zi fl, zi ((n1A T L a : Int) + 1), zi (cur T L (n1A T L a) - 48), zi (sk T L a : Int)])), (la, .inl (0, 90, .inl T))]) := hD
      refine Zn.seg (pc2 := 78) (ls2 := [some (za o), some (zi 0)]) (st2 := [za o]) [(77, .aload_n 0)] (by decide +kernel) rfl ?_
      refine Zn.call (ins := .invokevirtual 87) [za o] [] (by decide +kernel) rfl rfl rfl ⟨rfl, rfl⟩ ⟨rfl, rfl, rfl⟩ rfl (zrecvV hD (p := 0) rfl rfl rfl) (sp_X6_here (o := o) (la := la) (L := L) (a := (n1A T L a + 1)) (fl := fl) (nu := cur T L (n1A T L a) - 48) (na := (sk T L a : Int)) (T := T) (zov_get hD 0 rfl) (zov_get hD 1 rfl) (nd_sub hD [0, 1] rfl rfl) (hL9) (by omega) (hT)) (fun v h2 hp => ?_)
      obtain ⟨rfl, hq_9⟩ := hp
      refine Zn.eq (pc2 := 81) (ls2 := [some (za o), some (zi 0)]) (st2 := [zi (cur T L (n1A T L a + 1))]) (h2 := zov ([(o, .inr (6, [za la, zi (L : Int), zi fl, zi ((n1A T L a : Int) + 1), zi (cur T L (n1A T L a) - 48), zi (sk T L a : Int)])), (la, .inl (0, 90, .inl T))]) h) rfl rfl rfl hq_9 ?_
      have hD : zND ([(o, .inr (6, [za la, zi (L : Int), zi fl, zi ((n1A T L a : Int) + 1), zi (cur T L (n1A T L a) - 48), zi (sk T L a : Int)])), (la, .inl (0, 90, .inl T))]) := hD
      refine Zn.call (ins := .invokestatic 84) [zi (cur T L (n1A T L a + 1))] [] (by decide +kernel) rfl rfl rfl ⟨rfl, rfl⟩ ⟨rfl, rfl, rfl⟩ rfl (zrecvS (by decide)) (sp_X6_isFigure (x := cur T L (n1A T L a + 1)) (⟨by omega, by omega⟩)) (fun v h2 hp => ?_)
      obtain ⟨rfl, hq_10⟩ := hp
      refine Zn.eq (pc2 := 84) (ls2 := [some (za o), some (zi 0)]) (st2 := [zi (inB 48 57 (cur T L (n1A T L a + 1)))]) (h2 := zov ([(o, .inr (6, [za la, zi (L : Int), zi fl, zi ((n1A T L a : Int) + 1), zi (cur T L (n1A T L a) - 48), zi (sk T L a : Int)])), (la, .inl (0, 90, .inl T))]) h) rfl rfl rfl hq_10 ?_
      have hD : zND ([(o, .inr (6, [za la, zi (L : Int), zi fl, zi ((n1A T L a : Int) + 1), zi (cur T L (n1A T L a) - 48), zi (sk T L a : Int)])), (la, .inl (0, 90, .inl T))]) := hD
      have q_11 := inB_spec 48 57 (cur T L (n1A T L a + 1))
      refine Zn.ifc (c := .eq) (off := 32) 116 (by decide +kernel) rfl ⟨by omega, by omega⟩ (fun c_12 => ?_) (fun c_12 => ?_)
      · have c_12 : inB 48 57 (cur T L (n1A T L a + 1)) = 0 := c_12
        refine Zn.eq (pc2 := 116) (ls2 := [some (za o), some (zi 0)]) (st2 := []) (h2 := zov ([(o, .inr (6, [za la, zi (L : Int), zi fl, zi (nEA T L a : Int), zi (nWV T L a), zi (sk T L a : Int)])), (la, .inl (0, 90, .inl T))]) h) rfl rfl rfl (by rw [nWV]; first | (exfalso; omega) | (rw [if_pos (by omega), show (nEA T L a : Int) = (n1A T L a : Int) + 1 + 1 from by omega]; done) | (rw [if_neg (by omega), show (nEA T L a : Int) = (n1A T L a : Int) + 1 from by omega]; done)) ?_
        have hD : zND ([(o, .inr (6, [za la, zi (L : Int), zi fl, zi (nEA T L a : Int), zi (nWV T L a), zi (sk T L a : Int)])), (la, .inl (0, 90, .inl T))]) := hD
        refine Zn.seg (pc2 := 118) (ls2 := [some (za o), some (zi 0)]) (st2 := [zi 0, za o]) [(116, .aload_n 0), (117, .iload_n 1)] (by decide +kernel) rfl ?_
        refine Zn.ifc (c := .eq) (off := 11) 129 (by decide +kernel) rfl ⟨by decide, by decide⟩ (fun c_13 => ?_) (fun c_13 => absurd (show (0 : Int) = 0 from by decide) c_13)
        have c_13 : (0 : Int) = 0 := c_13
        refine Zn.seg (pc2 := 130) (ls2 := [some (za o), some (zi 0)]) (st2 := [za o, za o]) [(129, .aload_n 0)] (by decide +kernel) rfl ?_
        refine Zn.get (ix := 25) hD 0 (by decide +kernel) rfl rfl rfl ?_
        refine Zn.put (ix := 25) hD 0 (by decide +kernel) rfl rfl rfl rfl rfl ?_
        refine Zn.eq (h2 := zov ([(o, .inr (6, [za la, zi (L : Int), zi fl, zi (nEA T L a : Int), zi (nWV T L a), zi (sk T L a : Int)])), (la, .inl (0, 90, .inl T))]) h) rfl rfl rfl rfl ?_
        have hD : zND ([(o, .inr (6, [za la, zi (L : Int), zi fl, zi (nEA T L a : Int), zi (nWV T L a), zi (sk T L a : Int)])), (la, .inl (0, 90, .inl T))]) := hD
        refine Zn.seg (pc2 := 137) (ls2 := [some (za o), some (zi 0)]) (st2 := [zi 1]) [(136, .iconst 1)] (by decide +kernel) rfl ?_
        exact Zn.bret (by decide +kernel) rfl (by first | decide | omega) (⟨by refine congrArg some (congrArg zi ?_); rw [okV]; first | (rw [if_pos (by omega)]; done) | rw [if_neg (by omega)], by rw [okA, okL, okN, nVV]; first | (rw [if_pos (by omega), if_pos (by omega), if_pos (by omega), if_pos (by omega)]; done) | (rw [if_pos (by omega), if_pos (by omega), if_pos (by omega), if_neg (by omega)]; done) | rw [if_neg (by omega), if_neg (by omega), if_neg (by omega)]⟩)
      · have c_12 : ¬ (inB 48 57 (cur T L (n1A T L a + 1)) = 0) := c_12
        refine Zn.seg (pc2 := 91) (ls2 := [some (za o), some (zi 0)]) (st2 := [za o, zi 10, za o]) [(87, .aload_n 0), (88, .bipush 10), (90, .aload_n 0)] (by decide +kernel) rfl ?_
        refine Zn.get (ix := 25) hD 0 (by decide +kernel) rfl rfl rfl ?_
        refine Zn.seg (pc2 := 96) (ls2 := [some (za o), some (zi 0)]) (st2 := [za o, zi (10 * (cur T L (n1A T L a) - 48)), za o]) [(94, .imul), (95, .aload_n 0)] (by decide +kernel) rfl ?_
        refine Zn.call (ins := .invokevirtual 87) [za o] [zi (10 * (cur T L (n1A T L a) - 48)), za o] (by decide +kernel) rfl rfl rfl ⟨rfl, rfl⟩ ⟨rfl, rfl, rfl⟩ rfl (zrecvV hD (p := 0) rfl rfl rfl) (sp_X6_here (o := o) (la := la) (L := L) (a := (n1A T L a + 1)) (fl := fl) (nu := cur T L (n1A T L a) - 48) (na := (sk T L a : Int)) (T := T) (zov_get hD 0 rfl) (zov_get hD 1 rfl) (nd_sub hD [0, 1] rfl rfl) (hL9) (by omega) (hT)) (fun v h2 hp => ?_)
        obtain ⟨rfl, hq_14⟩ := hp
        refine Zn.eq (pc2 := 99) (ls2 := [some (za o), some (zi 0)]) (st2 := [zi (cur T L (n1A T L a + 1)), zi (10 * (cur T L (n1A T L a) - 48)), za o]) (h2 := zov ([(o, .inr (6, [za la, zi (L : Int), zi fl, zi ((n1A T L a : Int) + 1), zi (cur T L (n1A T L a) - 48), zi (sk T L a : Int)])), (la, .inl (0, 90, .inl T))]) h) rfl rfl rfl hq_14 ?_
        have hD : zND ([(o, .inr (6, [za la, zi (L : Int), zi fl, zi ((n1A T L a : Int) + 1), zi (cur T L (n1A T L a) - 48), zi (sk T L a : Int)])), (la, .inl (0, 90, .inl T))]) := hD
        refine Zn.seg (pc2 := 103) (ls2 := [some (za o), some (zi 0)]) (st2 := [zi (10 * (cur T L (n1A T L a) - 48) + (cur T L (n1A T L a + 1)) - 48), za o]) [(99, .iadd), (100, .bipush 48), (102, .isub)] (by decide +kernel) rfl ?_
        refine Zn.put (ix := 25) hD 0 (by decide +kernel) rfl rfl rfl rfl rfl ?_
        refine Zn.eq (h2 := zov ([(o, .inr (6, [za la, zi (L : Int), zi fl, zi ((n1A T L a : Int) + 1), zi (10 * (cur T L (n1A T L a) - 48) + (cur T L (n1A T L a + 1)) - 48), zi (sk T L a : Int)])), (la, .inl (0, 90, .inl T))]) h) rfl rfl rfl rfl ?_
        have hD : zND ([(o, .inr (6, [za la, zi (L : Int), zi fl, zi ((n1A T L a : Int) + 1), zi (10 * (cur T L (n1A T L a) - 48) + (cur T L (n1A T L a + 1)) - 48), zi (sk T L a : Int)])), (la, .inl (0, 90, .inl T))]) := hD
        refine Zn.seg (pc2 := 108) (ls2 := [some (za o), some (zi 0)]) (st2 := [za o, za o]) [(106, .aload_n 0), (107, .dup)] (by decide +kernel) rfl ?_
        refine Zn.get (ix := 22) hD 0 (by decide +kernel) rfl rfl rfl ?_
        refine Zn.seg (pc2 := 113) (ls2 := [some (za o), some (zi 0)]) (st2 := [zi ((n1A T L a : Int) + 1 + 1), za o]) [(111, .iconst 1), (112, .iadd)] (by decide +kernel) rfl ?_
        refine Zn.put (ix := 22) hD 0 (by decide +kernel) rfl rfl rfl rfl rfl ?_
        refine Zn.eq (h2 := zov ([(o, .inr (6, [za la, zi (L : Int), zi fl, zi ((n1A T L a : Int) + 1 + 1), zi (10 * (cur T L (n1A T L a) - 48) + (cur T L (n1A T L a + 1)) - 48), zi (sk T L a : Int)])), (la, .inl (0, 90, .inl T))]) h) rfl rfl rfl rfl ?_
        have hD : zND ([(o, .inr (6, [za la, zi (L : Int), zi fl, zi ((n1A T L a : Int) + 1 + 1), zi (10 * (cur T L (n1A T L a) - 48) + (cur T L (n1A T L a + 1)) - 48), zi (sk T L a : Int)])), (la, .inl (0, 90, .inl T))]) := hD
        refine Zn.eq (pc2 := 116) (ls2 := [some (za o), some (zi 0)]) (st2 := []) (h2 := zov ([(o, .inr (6, [za la, zi (L : Int), zi fl, zi (nEA T L a : Int), zi (nWV T L a), zi (sk T L a : Int)])), (la, .inl (0, 90, .inl T))]) h) rfl rfl rfl (by rw [nWV]; first | (exfalso; omega) | (rw [if_pos (by omega), show (nEA T L a : Int) = (n1A T L a : Int) + 1 + 1 from by omega]; done) | (rw [if_neg (by omega), show (nEA T L a : Int) = (n1A T L a : Int) + 1 from by omega]; done)) ?_
        have hD : zND ([(o, .inr (6, [za la, zi (L : Int), zi fl, zi (nEA T L a : Int), zi (nWV T L a), zi (sk T L a : Int)])), (la, .inl (0, 90, .inl T))]) := hD
        refine Zn.seg (pc2 := 118) (ls2 := [some (za o), some (zi 0)]) (st2 := [zi 0, za o]) [(116, .aload_n 0), (117, .iload_n 1)] (by decide +kernel) rfl ?_
        refine Zn.ifc (c := .eq) (off := 11) 129 (by decide +kernel) rfl ⟨by decide, by decide⟩ (fun c_15 => ?_) (fun c_15 => absurd (show (0 : Int) = 0 from by decide) c_15)
        have c_15 : (0 : Int) = 0 := c_15
        refine Zn.seg (pc2 := 130) (ls2 := [some (za o), some (zi 0)]) (st2 := [za o, za o]) [(129, .aload_n 0)] (by decide +kernel) rfl ?_
        refine Zn.get (ix := 25) hD 0 (by decide +kernel) rfl rfl rfl ?_
        refine Zn.put (ix := 25) hD 0 (by decide +kernel) rfl rfl rfl rfl rfl ?_
        refine Zn.eq (h2 := zov ([(o, .inr (6, [za la, zi (L : Int), zi fl, zi (nEA T L a : Int), zi (nWV T L a), zi (sk T L a : Int)])), (la, .inl (0, 90, .inl T))]) h) rfl rfl rfl rfl ?_
        have hD : zND ([(o, .inr (6, [za la, zi (L : Int), zi fl, zi (nEA T L a : Int), zi (nWV T L a), zi (sk T L a : Int)])), (la, .inl (0, 90, .inl T))]) := hD
        refine Zn.seg (pc2 := 137) (ls2 := [some (za o), some (zi 0)]) (st2 := [zi 1]) [(136, .iconst 1)] (by decide +kernel) rfl ?_
        exact Zn.bret (by decide +kernel) rfl (by first | decide | omega) (⟨by refine congrArg some (congrArg zi ?_); rw [okV]; first | (rw [if_pos (by omega)]; done) | rw [if_neg (by omega)], by rw [okA, okL, okN, nVV]; first | (rw [if_pos (by omega), if_pos (by omega), if_pos (by omega), if_pos (by omega)]; done) | (rw [if_pos (by omega), if_pos (by omega), if_pos (by omega), if_neg (by omega)]; done) | rw [if_neg (by omega), if_neg (by omega), if_neg (by omega)]⟩)
    · have c_7 : ¬ (inB 48 57 (cur T L (n1A T L a)) ≠ 0) := c_7
      refine Zn.seg (pc2 := 49) (ls2 := [some (za o), some (zi 0)]) (st2 := [za o, za o]) [(47, .aload_n 0), (48, .aload_n 0)] (by decide +kernel) rfl ?_
      refine Zn.get (ix := 22) hD 0 (by decide +kernel) rfl rfl rfl ?_
      refine Zn.call (ins := .invokevirtual 35) [za o, zi (n1A T L a : Int)] [] (by decide +kernel) rfl rfl rfl ⟨rfl, rfl⟩ ⟨rfl, rfl, rfl⟩ rfl (zrecvV hD (p := 0) rfl rfl rfl) (sp_X6_failAt (o := o) (la := la) (L := L) (a := n1A T L a) (fl := fl) (nu := nu) (na := (sk T L a : Int)) (x := (n1A T L a : Int)) (zov_get hD 0 rfl)) (fun v h2 hp => ?_)
      obtain ⟨rfl, hq_16⟩ := hp
      refine Zn.eq (pc2 := 55) (ls2 := [some (za o), some (zi 0)]) (st2 := [zi 0]) (h2 := zov ([(o, .inr (6, [za la, zi (L : Int), zi (n1A T L a : Int), zi ((n1A T L a) : Int), zi nu, zi (sk T L a : Int)])), (la, .inl (0, 90, .inl T))]) h) rfl rfl rfl (hq_16.trans (zov_put hD [0] _ rfl)) ?_
      have hD : zND ([(o, .inr (6, [za la, zi (L : Int), zi (n1A T L a : Int), zi ((n1A T L a) : Int), zi nu, zi (sk T L a : Int)])), (la, .inl (0, 90, .inl T))]) := hD
      exact Zn.bret (by decide +kernel) rfl (by first | decide | omega) (⟨by refine congrArg some (congrArg zi ?_); rw [okV]; first | (rw [if_pos (by omega)]; done) | rw [if_neg (by omega)], by rw [okA, okL, okN, nVV]; first | (rw [if_pos (by omega), if_pos (by omega), if_pos (by omega), if_pos (by omega)]; done) | (rw [if_pos (by omega), if_pos (by omega), if_pos (by omega), if_neg (by omega)]; done) | rw [if_neg (by omega), if_neg (by omega), if_neg (by omega)]⟩)
  · have c_2 : ¬ (cur T L (sk T L a) ≠ 45) := c_2
    refine Zn.seg (pc2 := 17) (ls2 := [some (za o), some (zi 1)]) (st2 := [za o, za o]) [(9, .iconst 1), (10, .goto 4), (14, .istore_n 1), (15, .aload_n 0), (16, .aload_n 0)] (by decide +kernel) rfl ?_
    refine Zn.get (ix := 22) hD 0 (by decide +kernel) rfl rfl rfl ?_
    refine Zn.put (ix := 28) hD 0 (by decide +kernel) rfl rfl rfl rfl rfl ?_
    refine Zn.eq (h2 := zov ([(o, .inr (6, [za la, zi (L : Int), zi fl, zi (sk T L a : Int), zi nu, zi (sk T L a : Int)])), (la, .inl (0, 90, .inl T))]) h) rfl rfl rfl rfl ?_
    have hD : zND ([(o, .inr (6, [za la, zi (L : Int), zi fl, zi (sk T L a : Int), zi nu, zi (sk T L a : Int)])), (la, .inl (0, 90, .inl T))]) := hD
    refine Zn.seg (pc2 := 24) (ls2 := [some (za o), some (zi 1)]) (st2 := [zi 1]) [(23, .iload_n 1)] (by decide +kernel) rfl ?_
    refine Zn.ifc (c := .eq) (off := 13) 37 (by decide +kernel) rfl ⟨by decide, by decide⟩ (fun c_17 => absurd (show (1 : Int) = 0 from c_17) (by decide)) (fun c_17 => ?_)
    have c_17 : ¬ ((1 : Int) = 0) := c_17
    refine Zn.seg (pc2 := 29) (ls2 := [some (za o), some (zi 1)]) (st2 := [za o, za o]) [(27, .aload_n 0), (28, .dup)] (by decide +kernel) rfl ?_
    refine Zn.get (ix := 22) hD 0 (by decide +kernel) rfl rfl rfl ?_
    refine Zn.seg (pc2 := 34) (ls2 := [some (za o), some (zi 1)]) (st2 := [zi ((sk T L a : Int) + 1), za o]) [(32, .iconst 1), (33, .iadd)] (by decide +kernel) rfl ?_
    refine Zn.put (ix := 22) hD 0 (by decide +kernel) rfl rfl rfl rfl rfl ?_
    refine Zn.eq (h2 := zov ([(o, .inr (6, [za la, zi (L : Int), zi fl, zi ((sk T L a : Int) + 1), zi nu, zi (sk T L a : Int)])), (la, .inl (0, 90, .inl T))]) h) rfl rfl rfl rfl ?_
    have hD : zND ([(o, .inr (6, [za la, zi (L : Int), zi fl, zi ((sk T L a : Int) + 1), zi nu, zi (sk T L a : Int)])), (la, .inl (0, 90, .inl T))]) := hD
    refine Zn.seg (pc2 := 38) (ls2 := [some (za o), some (zi 1)]) (st2 := [za o]) [(37, .aload_n 0)] (by decide +kernel) rfl ?_
    refine Zn.call (ins := .invokevirtual 31) [za o] [] (by decide +kernel) rfl rfl rfl ⟨rfl, rfl⟩ ⟨rfl, rfl, rfl⟩ rfl (zrecvV hD (p := 0) rfl rfl rfl) (sp_X6_next (o := o) (la := la) (L := L) (a := (sk T L a + 1)) (fl := fl) (nu := nu) (na := (sk T L a : Int)) (T := T) (zov_get hD 0 rfl) (zov_get hD 1 rfl) (nd_sub hD [0, 1] rfl rfl) (hL9) (by first | assumption | omega) (hT)) (fun v h2 hp => ?_)
    obtain ⟨rfl, hq_18⟩ := hp
    refine Zn.eq (pc2 := 41) (ls2 := [some (za o), some (zi 1)]) (st2 := [zi (cur T L (sk T L (sk T L a + 1)))]) (h2 := zov ([(o, .inr (6, [za la, zi (L : Int), zi fl, zi (sk T L (sk T L a + 1) : Int), zi nu, zi (sk T L a : Int)])), (la, .inl (0, 90, .inl T))]) h) rfl rfl rfl (hq_18.trans (zov_put hD [0, 1] _ rfl)) ?_
    have hD : zND ([(o, .inr (6, [za la, zi (L : Int), zi fl, zi (sk T L (sk T L a + 1) : Int), zi nu, zi (sk T L a : Int)])), (la, .inl (0, 90, .inl T))]) := hD
    refine Zn.topi (y := cur T L (n1A T L a)) (by first | (exfalso; omega) | (rw [n1_m (by omega)]; done) | (rw [n1_p (by omega), sk_i hsk]; done)) ?_
    refine Zn.eq (pc2 := 41) (ls2 := [some (za o), some (zi 1)]) (st2 := [zi (cur T L (n1A T L a))]) (h2 := zov ([(o, .inr (6, [za la, zi (L : Int), zi fl, zi (n1A T L a : Int), zi nu, zi (sk T L a : Int)])), (la, .inl (0, 90, .inl T))]) h) rfl rfl rfl (by first | (exfalso; omega) | (rw [n1_m (by omega)]; done) | (rw [n1_p (by omega), sk_i hsk]; done)) ?_
    have hD : zND ([(o, .inr (6, [za la, zi (L : Int), zi fl, zi (n1A T L a : Int), zi nu, zi (sk T L a : Int)])), (la, .inl (0, 90, .inl T))]) := hD
    refine Zn.call (ins := .invokestatic 84) [zi (cur T L (n1A T L a))] [] (by decide +kernel) rfl rfl rfl ⟨rfl, rfl⟩ ⟨rfl, rfl, rfl⟩ rfl (zrecvS (by decide)) (sp_X6_isFigure (x := cur T L (n1A T L a)) (⟨by omega, by omega⟩)) (fun v h2 hp => ?_)
    obtain ⟨rfl, hq_19⟩ := hp
    refine Zn.eq (pc2 := 44) (ls2 := [some (za o), some (zi 1)]) (st2 := [zi (inB 48 57 (cur T L (n1A T L a)))]) (h2 := zov ([(o, .inr (6, [za la, zi (L : Int), zi fl, zi (n1A T L a : Int), zi nu, zi (sk T L a : Int)])), (la, .inl (0, 90, .inl T))]) h) rfl rfl rfl hq_19 ?_
    have hD : zND ([(o, .inr (6, [za la, zi (L : Int), zi fl, zi (n1A T L a : Int), zi nu, zi (sk T L a : Int)])), (la, .inl (0, 90, .inl T))]) := hD
    have q_20 := inB_spec 48 57 (cur T L (n1A T L a))
    refine Zn.ifc (c := .ne) (off := 12) 56 (by decide +kernel) rfl ⟨by omega, by omega⟩ (fun c_21 => ?_) (fun c_21 => ?_)
    · have c_21 : inB 48 57 (cur T L (n1A T L a)) ≠ 0 := c_21
      refine Zn.seg (pc2 := 58) (ls2 := [some (za o), some (zi 1)]) (st2 := [za o, za o]) [(56, .aload_n 0), (57, .aload_n 0)] (by decide +kernel) rfl ?_
      refine Zn.call (ins := .invokevirtual 31) [za o] [za o] (by decide +kernel) rfl rfl rfl ⟨rfl, rfl⟩ ⟨rfl, rfl, rfl⟩ rfl (zrecvV hD (p := 0) rfl rfl rfl) (sp_X6_next (o := o) (la := la) (L := L) (a := (n1A T L a)) (fl := fl) (nu := nu) (na := (sk T L a : Int)) (T := T) (zov_get hD 0 rfl) (zov_get hD 1 rfl) (nd_sub hD [0, 1] rfl rfl) (hL9) (hn1.2.1) (hT)) (fun v h2 hp => ?_)
      obtain ⟨rfl, hq_22⟩ := hp
      refine Zn.eq (pc2 := 61) (ls2 := [some (za o), some (zi 1)]) (st2 := [zi (cur T L (sk T L (n1A T L a))), za o]) (h2 := zov ([(o, .inr (6, [za la, zi (L : Int), zi fl, zi (sk T L (n1A T L a) : Int), zi nu, zi (sk T L a : Int)])), (la, .inl (0, 90, .inl T))]) h) rfl rfl rfl (hq_22.trans (zov_put hD [0, 1] _ rfl)) ?_
      have hD : zND ([(o, .inr (6, [za la, zi (L : Int), zi fl, zi (sk T L (n1A T L a) : Int), zi nu, zi (sk T L a : Int)])), (la, .inl (0, 90, .inl T))]) := hD
      refine Zn.topi (y := cur T L (n1A T L a)) (by rw [hni]) ?_
      refine Zn.eq (pc2 := 61) (ls2 := [some (za o), some (zi 1)]) (st2 := [zi (cur T L (n1A T L a)), za o]) (h2 := zov ([(o, .inr (6, [za la, zi (L : Int), zi fl, zi (n1A T L a : Int), zi nu, zi (sk T L a : Int)])), (la, .inl (0, 90, .inl T))]) h) rfl rfl rfl (by rw [hni]) ?_
      have hD : zND ([(o, .inr (6, [za la, zi (L : Int), zi fl, zi (n1A T L a : Int), zi nu, zi (sk T L a : Int)])), (la, .inl (0, 90, .inl T))]) := hD
      refine Zn.seg (pc2 := 64) (ls2 := [some (za o), some (zi 1)]) (st2 := [zi (cur T L (n1A T L a) - 48), za o]) [(61, .bipush 48), (63, .isub)] (by decide +kernel) rfl ?_
      refine Zn.put (ix := 25) hD 0 (by decide +kernel) rfl rfl rfl rfl rfl ?_
      refine Zn.eq (h2 := zov ([(o, .inr (6, [za la, zi (L : Int), zi fl, zi (n1A T L a : Int), zi (cur T L (n1A T L a) - 48), zi (sk T L a : Int)])), (la, .inl (0, 90, .inl T))]) h) rfl rfl rfl rfl ?_
      have hD : zND ([(o, .inr (6, [za la, zi (L : Int), zi fl, zi (n1A T L a : Int), zi (cur T L (n1A T L a) - 48), zi (sk T L a : Int)])), (la, .inl (0, 90, .inl T))]) := hD
      refine Zn.seg (pc2 := 69) (ls2 := [some (za o), some (zi 1)]) (st2 := [za o, za o]) [(67, .aload_n 0), (68, .dup)] (by decide +kernel) rfl ?_
      refine Zn.get (ix := 22) hD 0 (by decide +kernel) rfl rfl rfl ?_
      refine Zn.seg (pc2 := 74) (ls2 := [some (za o), some (zi 1)]) (st2 := [zi ((n1A T L a : Int) + 1), za o]) [(72, .iconst 1), (73, .iadd)] (by decide +kernel) rfl ?_
      refine Zn.put (ix := 22) hD 0 (by decide +kernel) rfl rfl rfl rfl rfl ?_
      refine Zn.eq (h2 := zov ([(o, .inr (6, [za la, zi (L : Int), zi fl, zi ((n1A T L a : Int) + 1), zi (cur T L (n1A T L a) - 48), zi (sk T L a : Int)])), (la, .inl (0, 90, .inl T))]) h) rfl rfl rfl rfl ?_
      have hD : zND ([(o, .inr (6, [za la, zi (L : Int), zi fl, zi ((n1A T L a : Int) + 1), zi (cur T L (n1A T L a) - 48), zi (sk T L a : Int)])), (la, .inl (0, 90, .inl T))]) := hD
      refine Zn.seg (pc2 := 78) (ls2 := [some (za o), some (zi 1)]) (st2 := [za o]) [(77, .aload_n 0)] (by decide +kernel) rfl ?_
      refine Zn.call (ins := .invokevirtual 87) [za o] [] (by decide +kernel) rfl rfl rfl ⟨rfl, rfl⟩ ⟨rfl, rfl, rfl⟩ rfl (zrecvV hD (p := 0) rfl rfl rfl) (sp_X6_here (o := o) (la := la) (L := L) (a := (n1A T L a + 1)) (fl := fl) (nu := cur T L (n1A T L a) - 48) (na := (sk T L a : Int)) (T := T) (zov_get hD 0 rfl) (zov_get hD 1 rfl) (nd_sub hD [0, 1] rfl rfl) (hL9) (by omega) (hT)) (fun v h2 hp => ?_)
      obtain ⟨rfl, hq_23⟩ := hp
      refine Zn.eq (pc2 := 81) (ls2 := [some (za o), some (zi 1)]) (st2 := [zi (cur T L (n1A T L a + 1))]) (h2 := zov ([(o, .inr (6, [za la, zi (L : Int), zi fl, zi ((n1A T L a : Int) + 1), zi (cur T L (n1A T L a) - 48), zi (sk T L a : Int)])), (la, .inl (0, 90, .inl T))]) h) rfl rfl rfl hq_23 ?_
      have hD : zND ([(o, .inr (6, [za la, zi (L : Int), zi fl, zi ((n1A T L a : Int) + 1), zi (cur T L (n1A T L a) - 48), zi (sk T L a : Int)])), (la, .inl (0, 90, .inl T))]) := hD
      refine Zn.call (ins := .invokestatic 84) [zi (cur T L (n1A T L a + 1))] [] (by decide +kernel) rfl rfl rfl ⟨rfl, rfl⟩ ⟨rfl, rfl, rfl⟩ rfl (zrecvS (by decide)) (sp_X6_isFigure (x := cur T L (n1A T L a + 1)) (⟨by omega, by omega⟩)) (fun v h2 hp => ?_)
      obtain ⟨rfl, hq_24⟩ := hp
      refine Zn.eq (pc2 := 84) (ls2 := [some (za o), some (zi 1)]) (st2 := [zi (inB 48 57 (cur T L (n1A T L a + 1)))]) (h2 := zov ([(o, .inr (6, [za la, zi (L : Int), zi fl, zi ((n1A T L a : Int) + 1), zi (cur T L (n1A T L a) - 48), zi (sk T L a : Int)])), (la, .inl (0, 90, .inl T))]) h) rfl rfl rfl hq_24 ?_
      have hD : zND ([(o, .inr (6, [za la, zi (L : Int), zi fl, zi ((n1A T L a : Int) + 1), zi (cur T L (n1A T L a) - 48), zi (sk T L a : Int)])), (la, .inl (0, 90, .inl T))]) := hD
      have q_25 := inB_spec 48 57 (cur T L (n1A T L a + 1))
      refine Zn.ifc (c := .eq) (off := 32) 116 (by decide +kernel) rfl ⟨by omega, by omega⟩ (fun c_26 => ?_) (fun c_26 => ?_)
      · have c_26 : inB 48 57 (cur T L (n1A T L a + 1)) = 0 := c_26
        refine Zn.eq (pc2 := 116) (ls2 := [some (za o), some (zi 1)]) (st2 := []) (h2 := zov ([(o, .inr (6, [za la, zi (L : Int), zi fl, zi (nEA T L a : Int), zi (nWV T L a), zi (sk T L a : Int)])), (la, .inl (0, 90, .inl T))]) h) rfl rfl rfl (by rw [nWV]; first | (exfalso; omega) | (rw [if_pos (by omega), show (nEA T L a : Int) = (n1A T L a : Int) + 1 + 1 from by omega]; done) | (rw [if_neg (by omega), show (nEA T L a : Int) = (n1A T L a : Int) + 1 from by omega]; done)) ?_
        have hD : zND ([(o, .inr (6, [za la, zi (L : Int), zi fl, zi (nEA T L a : Int), zi (nWV T L a), zi (sk T L a : Int)])), (la, .inl (0, 90, .inl T))]) := hD
        refine Zn.seg (pc2 := 118) (ls2 := [some (za o), some (zi 1)]) (st2 := [zi 1, za o]) [(116, .aload_n 0), (117, .iload_n 1)] (by decide +kernel) rfl ?_
        refine Zn.ifc (c := .eq) (off := 11) 129 (by decide +kernel) rfl ⟨by decide, by decide⟩ (fun c_27 => absurd (show (1 : Int) = 0 from c_27) (by decide)) (fun c_27 => ?_)
        have c_27 : ¬ ((1 : Int) = 0) := c_27
        refine Zn.seg (pc2 := 122) (ls2 := [some (za o), some (zi 1)]) (st2 := [za o, za o]) [(121, .aload_n 0)] (by decide +kernel) rfl ?_
        refine Zn.get (ix := 25) hD 0 (by decide +kernel) rfl rfl rfl ?_
        refine Zn.seg (pc2 := 133) (ls2 := [some (za o), some (zi 1)]) (st2 := [zi (-(nWV T L a)), za o]) [(125, .ineg), (126, .goto 7)] (by decide +kernel) rfl ?_
        refine Zn.put (ix := 25) hD 0 (by decide +kernel) rfl rfl rfl rfl rfl ?_
        refine Zn.eq (h2 := zov ([(o, .inr (6, [za la, zi (L : Int), zi fl, zi (nEA T L a : Int), zi (-(nWV T L a)), zi (sk T L a : Int)])), (la, .inl (0, 90, .inl T))]) h) rfl rfl rfl rfl ?_
        have hD : zND ([(o, .inr (6, [za la, zi (L : Int), zi fl, zi (nEA T L a : Int), zi (-(nWV T L a)), zi (sk T L a : Int)])), (la, .inl (0, 90, .inl T))]) := hD
        refine Zn.seg (pc2 := 137) (ls2 := [some (za o), some (zi 1)]) (st2 := [zi 1]) [(136, .iconst 1)] (by decide +kernel) rfl ?_
        exact Zn.bret (by decide +kernel) rfl (by first | decide | omega) (⟨by refine congrArg some (congrArg zi ?_); rw [okV]; first | (rw [if_pos (by omega)]; done) | rw [if_neg (by omega)], by rw [okA, okL, okN, nVV]; first | (rw [if_pos (by omega), if_pos (by omega), if_pos (by omega), if_pos (by omega)]; done) | (rw [if_pos (by omega), if_pos (by omega), if_pos (by omega), if_neg (by omega)]; done) | rw [if_neg (by omega), if_neg (by omega), if_neg (by omega)]⟩)
      · have c_26 : ¬ (inB 48 57 (cur T L (n1A T L a + 1)) = 0) := c_26
        refine Zn.seg (pc2 := 91) (ls2 := [some (za o), some (zi 1)]) (st2 := [za o, zi 10, za o]) [(87, .aload_n 0), (88, .bipush 10), (90, .aload_n 0)] (by decide +kernel) rfl ?_
        refine Zn.get (ix := 25) hD 0 (by decide +kernel) rfl rfl rfl ?_
        refine Zn.seg (pc2 := 96) (ls2 := [some (za o), some (zi 1)]) (st2 := [za o, zi (10 * (cur T L (n1A T L a) - 48)), za o]) [(94, .imul), (95, .aload_n 0)] (by decide +kernel) rfl ?_
        refine Zn.call (ins := .invokevirtual 87) [za o] [zi (10 * (cur T L (n1A T L a) - 48)), za o] (by decide +kernel) rfl rfl rfl ⟨rfl, rfl⟩ ⟨rfl, rfl, rfl⟩ rfl (zrecvV hD (p := 0) rfl rfl rfl) (sp_X6_here (o := o) (la := la) (L := L) (a := (n1A T L a + 1)) (fl := fl) (nu := cur T L (n1A T L a) - 48) (na := (sk T L a : Int)) (T := T) (zov_get hD 0 rfl) (zov_get hD 1 rfl) (nd_sub hD [0, 1] rfl rfl) (hL9) (by omega) (hT)) (fun v h2 hp => ?_)
        obtain ⟨rfl, hq_28⟩ := hp
        refine Zn.eq (pc2 := 99) (ls2 := [some (za o), some (zi 1)]) (st2 := [zi (cur T L (n1A T L a + 1)), zi (10 * (cur T L (n1A T L a) - 48)), za o]) (h2 := zov ([(o, .inr (6, [za la, zi (L : Int), zi fl, zi ((n1A T L a : Int) + 1), zi (cur T L (n1A T L a) - 48), zi (sk T L a : Int)])), (la, .inl (0, 90, .inl T))]) h) rfl rfl rfl hq_28 ?_
        have hD : zND ([(o, .inr (6, [za la, zi (L : Int), zi fl, zi ((n1A T L a : Int) + 1), zi (cur T L (n1A T L a) - 48), zi (sk T L a : Int)])), (la, .inl (0, 90, .inl T))]) := hD
        refine Zn.seg (pc2 := 103) (ls2 := [some (za o), some (zi 1)]) (st2 := [zi (10 * (cur T L (n1A T L a) - 48) + (cur T L (n1A T L a + 1)) - 48), za o]) [(99, .iadd), (100, .bipush 48), (102, .isub)] (by decide +kernel) rfl ?_
        refine Zn.put (ix := 25) hD 0 (by decide +kernel) rfl rfl rfl rfl rfl ?_
        refine Zn.eq (h2 := zov ([(o, .inr (6, [za la, zi (L : Int), zi fl, zi ((n1A T L a : Int) + 1), zi (10 * (cur T L (n1A T L a) - 48) + (cur T L (n1A T L a + 1)) - 48), zi (sk T L a : Int)])), (la, .inl (0, 90, .inl T))]) h) rfl rfl rfl rfl ?_
        have hD : zND ([(o, .inr (6, [za la, zi (L : Int), zi fl, zi ((n1A T L a : Int) + 1), zi (10 * (cur T L (n1A T L a) - 48) + (cur T L (n1A T L a + 1)) - 48), zi (sk T L a : Int)])), (la, .inl (0, 90, .inl T))]) := hD
        refine Zn.seg (pc2 := 108) (ls2 := [some (za o), some (zi 1)]) (st2 := [za o, za o]) [(106, .aload_n 0), (107, .dup)] (by decide +kernel) rfl ?_
        refine Zn.get (ix := 22) hD 0 (by decide +kernel) rfl rfl rfl ?_
        refine Zn.seg (pc2 := 113) (ls2 := [some (za o), some (zi 1)]) (st2 := [zi ((n1A T L a : Int) + 1 + 1), za o]) [(111, .iconst 1), (112, .iadd)] (by decide +kernel) rfl ?_
        refine Zn.put (ix := 22) hD 0 (by decide +kernel) rfl rfl rfl rfl rfl ?_
        refine Zn.eq (h2 := zov ([(o, .inr (6, [za la, zi (L : Int), zi fl, zi ((n1A T L a : Int) + 1 + 1), zi (10 * (cur T L (n1A T L a) - 48) + (cur T L (n1A T L a + 1)) - 48), zi (sk T L a : Int)])), (la, .inl (0, 90, .inl T))]) h) rfl rfl rfl rfl ?_
        have hD : zND ([(o, .inr (6, [za la, zi (L : Int), zi fl, zi ((n1A T L a : Int) + 1 + 1), zi (10 * (cur T L (n1A T L a) - 48) + (cur T L (n1A T L a + 1)) - 48), zi (sk T L a : Int)])), (la, .inl (0, 90, .inl T))]) := hD
        refine Zn.eq (pc2 := 116) (ls2 := [some (za o), some (zi 1)]) (st2 := []) (h2 := zov ([(o, .inr (6, [za la, zi (L : Int), zi fl, zi (nEA T L a : Int), zi (nWV T L a), zi (sk T L a : Int)])), (la, .inl (0, 90, .inl T))]) h) rfl rfl rfl (by rw [nWV]; first | (exfalso; omega) | (rw [if_pos (by omega), show (nEA T L a : Int) = (n1A T L a : Int) + 1 + 1 from by omega]; done) | (rw [if_neg (by omega), show (nEA T L a : Int) = (n1A T L a : Int) + 1 from by omega]; done)) ?_
        have hD : zND ([(o, .inr (6, [za la, zi (L : Int), zi fl, zi (nEA T L a : Int), zi (nWV T L a), zi (sk T L a : Int)])), (la, .inl (0, 90, .inl T))]) := hD
        refine Zn.seg (pc2 := 118) (ls2 := [some (za o), some (zi 1)]) (st2 := [zi 1, za o]) [(116, .aload_n 0), (117, .iload_n 1)] (by decide +kernel) rfl ?_
        refine Zn.ifc (c := .eq) (off := 11) 129 (by decide +kernel) rfl ⟨by decide, by decide⟩ (fun c_29 => absurd (show (1 : Int) = 0 from c_29) (by decide)) (fun c_29 => ?_)
        have c_29 : ¬ ((1 : Int) = 0) := c_29
        refine Zn.seg (pc2 := 122) (ls2 := [some (za o), some (zi 1)]) (st2 := [za o, za o]) [(121, .aload_n 0)] (by decide +kernel) rfl ?_
        refine Zn.get (ix := 25) hD 0 (by decide +kernel) rfl rfl rfl ?_
        refine Zn.seg (pc2 := 133) (ls2 := [some (za o), some (zi 1)]) (st2 := [zi (-(nWV T L a)), za o]) [(125, .ineg), (126, .goto 7)] (by decide +kernel) rfl ?_
        refine Zn.put (ix := 25) hD 0 (by decide +kernel) rfl rfl rfl rfl rfl ?_
        refine Zn.eq (h2 := zov ([(o, .inr (6, [za la, zi (L : Int), zi fl, zi (nEA T L a : Int), zi (-(nWV T L a)), zi (sk T L a : Int)])), (la, .inl (0, 90, .inl T))]) h) rfl rfl rfl rfl ?_
        have hD : zND ([(o, .inr (6, [za la, zi (L : Int), zi fl, zi (nEA T L a : Int), zi (-(nWV T L a)), zi (sk T L a : Int)])), (la, .inl (0, 90, .inl T))]) := hD
        refine Zn.seg (pc2 := 137) (ls2 := [some (za o), some (zi 1)]) (st2 := [zi 1]) [(136, .iconst 1)] (by decide +kernel) rfl ?_
        exact Zn.bret (by decide +kernel) rfl (by first | decide | omega) (⟨by refine congrArg some (congrArg zi ?_); rw [okV]; first | (rw [if_pos (by omega)]; done) | rw [if_neg (by omega)], by rw [okA, okL, okN, nVV]; first | (rw [if_pos (by omega), if_pos (by omega), if_pos (by omega), if_pos (by omega)]; done) | (rw [if_pos (by omega), if_pos (by omega), if_pos (by omega), if_neg (by omega)]; done) | rw [if_neg (by omega), if_neg (by omega), if_neg (by omega)]⟩)
    · have c_21 : ¬ (inB 48 57 (cur T L (n1A T L a)) ≠ 0) := c_21
      refine Zn.seg (pc2 := 49) (ls2 := [some (za o), some (zi 1)]) (st2 := [za o, za o]) [(47, .aload_n 0), (48, .aload_n 0)] (by decide +kernel) rfl ?_
      refine Zn.get (ix := 22) hD 0 (by decide +kernel) rfl rfl rfl ?_
      refine Zn.call (ins := .invokevirtual 35) [za o, zi (n1A T L a : Int)] [] (by decide +kernel) rfl rfl rfl ⟨rfl, rfl⟩ ⟨rfl, rfl, rfl⟩ rfl (zrecvV hD (p := 0) rfl rfl rfl) (sp_X6_failAt (o := o) (la := la) (L := L) (a := n1A T L a) (fl := fl) (nu := nu) (na := (sk T L a : Int)) (x := (n1A T L a : Int)) (zov_get hD 0 rfl)) (fun v h2 hp => ?_)
      obtain ⟨rfl, hq_30⟩ := hp
      refine Zn.eq (pc2 := 55) (ls2 := [some (za o), some (zi 1)]) (st2 := [zi 0]) (h2 := zov ([(o, .inr (6, [za la, zi (L : Int), zi (n1A T L a : Int), zi ((n1A T L a) : Int), zi nu, zi (sk T L a : Int)])), (la, .inl (0, 90, .inl T))]) h) rfl rfl rfl (hq_30.trans (zov_put hD [0] _ rfl)) ?_
      have hD : zND ([(o, .inr (6, [za la, zi (L : Int), zi (n1A T L a : Int), zi ((n1A T L a) : Int), zi nu, zi (sk T L a : Int)])), (la, .inl (0, 90, .inl T))]) := hD
      exact Zn.bret (by decide +kernel) rfl (by first | decide | omega) (⟨by refine congrArg some (congrArg zi ?_); rw [okV]; first | (rw [if_pos (by omega)]; done) | rw [if_neg (by omega)], by rw [okA, okL, okN, nVV]; first | (rw [if_pos (by omega), if_pos (by omega), if_pos (by omega), if_pos (by omega)]; done) | (rw [if_pos (by omega), if_pos (by omega), if_pos (by omega), if_neg (by omega)]; done) | rw [if_neg (by omega), if_neg (by omega), if_neg (by omega)]⟩)
