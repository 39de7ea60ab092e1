/-! EvenErrors$Sheet -/
def rcV (sz i n : Int) : Int := if 0 ≤ i ∧ 0 ≤ n ∧ i ≤ sz ∧ n ≤ sz - i then 1 else 0
theorem rcV_c (sz i n : Int) : (rcV sz i n = 1 ∧ 0 ≤ i ∧ 0 ≤ n ∧ i ≤ sz ∧ n ≤ sz - i) ∨ (rcV sz i n = 0 ∧ ¬ (0 ≤ i ∧ 0 ≤ n ∧ i ≤ sz ∧ n ≤ sz - i)) := by
  unfold rcV
  split
  · exact Or.inl ⟨rfl, by assumption⟩
  · exact Or.inr ⟨rfl, by assumption⟩
/-- what refuses n items of a sheet from i on -/
def rfV (he la sz l i n : Int) : Int := if he = 0 then -11 else if la ≠ l then -12 else if rcV sz i n = 1 then 0 else -13
theorem rfV_c (he la sz l i n : Int) : (rfV he la sz l i n = -11 ∧ he = 0) ∨ (rfV he la sz l i n = -12 ∧ he ≠ 0 ∧ la ≠ l) ∨ (rfV he la sz l i n = 0 ∧ he ≠ 0 ∧ la = l ∧ rcV sz i n = 1) ∨ (rfV he la sz l i n = -13 ∧ he ≠ 0 ∧ la = l ∧ rcV sz i n ≠ 1) := by
  unfold rfV
  split
  · exact Or.inl ⟨rfl, by assumption⟩
  · split
    · exact Or.inr (Or.inl ⟨rfl, by assumption, by assumption⟩)
    · split
      · exact Or.inr (Or.inr (Or.inl ⟨rfl, by assumption, by omega, by assumption⟩))
      · exact Or.inr (Or.inr (Or.inr ⟨rfl, by assumption, by omega, by assumption⟩))
/-- x of the first pairs, as a set -/
def smN (X : Nat → Int) : Nat → Nat
  | 0 => 0
  | k + 1 => smN X k ||| 2 ^ (X k + 6).toNat % 8192
theorem smN_b (X : Nat → Int) : ∀ k, smN X k < 8192
  | 0 => show 0 < 8192 by decide
  | k + 1 => or_lt (smN_b X k) (Nat.mod_lt _ (by decide))
theorem bt_and2 (a p : Nat) : (a &&& 2 ^ p = 0 ↔ bt a p = 0) := by
  constructor
  · intro h
    have h2 := bt_and a (2 ^ p) p
    rw [h, bt_pow, if_pos rfl] at h2
    have h3 : bt 0 p = 0 := by simp [bt]
    have := bt_lt a p
    omega
  · intro h
    apply Nat.eq_of_testBit_eq
    intro j
    rw [bt_testBit, bt_and, bt_pow, Nat.zero_testBit]
    by_cases e : p = j
    · subst e
      rw [h]
      simp
    · rw [if_neg e]
      simp
theorem sp_X5_begin {h : xH} {o ia : Nat} {he la sz l n : Int} {it : Nat → Int} (hc0 : h o = zcE (.inr (5, [za ia, zi he, zi la, zi sz]))) (hc1 : h ia = zcE (.inl (1, 24, .inl it))) (hD : [o, ia].Nodup) : zEv k_X5_begin [za o, zi l, zi n] h (fun v h2 => v = none ∧ h2 = zov [(o, .inr (5, [za ia, zi 1, zi l, zi n])), (ia, .inl (1, 24, .inl (cpF zF it 24)))] h) := by
  have hh : h = zov [(o, .inr (5, [za ia, zi he, zi la, zi sz])), (ia, .inl (1, 24, .inl it))] h := zov_self (List.forall_mem_cons.mpr ⟨hc0, List.forall_mem_cons.mpr ⟨hc1, fun _ q => absurd q List.not_mem_nil⟩⟩)
  refine zEv.body (I := (5, xI_X5_begin, 4, 0, 0, 0, 0, false)) (rt := none) [some (za o), some (zi l), some (zi n), none] rfl rfl rfl rfl ?_
  refine Zn.eq rfl rfl rfl hh ?_
  have hD : zND ([(o, .inr (5, [za ia, zi he, zi la, zi sz])), (ia, .inl (1, 24, .inl it))]) := hD
  refine Zn.seg (pc2 := 2) (ls2 := [some (za o), some (zi l), some (zi n), none]) (st2 := [zi 1, za o]) [(0, .aload_n 0), (1, .iconst 1)] (by decide +kernel) rfl ?_
  refine Zn.put (ix := 15) hD 0 (by decide +kernel) rfl rfl rfl rfl rfl ?_
  refine Zn.eq (h2 := zov ([(o, .inr (5, [za ia, zi 1, zi la, zi sz])), (ia, .inl (1, 24, .inl it))]) h) rfl rfl rfl rfl ?_
  have hD : zND ([(o, .inr (5, [za ia, zi 1, zi la, zi sz])), (ia, .inl (1, 24, .inl it))]) := hD
  refine Zn.seg (pc2 := 7) (ls2 := [some (za o), some (zi l), some (zi n), none]) (st2 := [zi l, za o]) [(5, .aload_n 0), (6, .iload_n 1)] (by decide +kernel) rfl ?_
  refine Zn.put (ix := 19) hD 0 (by decide +kernel) rfl rfl rfl rfl rfl ?_
  refine Zn.eq (h2 := zov ([(o, .inr (5, [za ia, zi 1, zi l, zi sz])), (ia, .inl (1, 24, .inl it))]) h) rfl rfl rfl rfl ?_
  have hD : zND ([(o, .inr (5, [za ia, zi 1, zi l, zi sz])), (ia, .inl (1, 24, .inl it))]) := hD
  refine Zn.seg (pc2 := 12) (ls2 := [some (za o), some (zi l), some (zi n), none]) (st2 := [zi n, za o]) [(10, .aload_n 0), (11, .iload_n 2)] (by decide +kernel) rfl ?_
  refine Zn.put (ix := 23) hD 0 (by decide +kernel) rfl rfl rfl rfl rfl ?_
  refine Zn.eq (h2 := zov ([(o, .inr (5, [za ia, zi 1, zi l, zi n])), (ia, .inl (1, 24, .inl it))]) h) rfl rfl rfl rfl ?_
  have hD : zND ([(o, .inr (5, [za ia, zi 1, zi l, zi n])), (ia, .inl (1, 24, .inl it))]) := hD
  refine Zn.seg (pc2 := 17) (ls2 := [some (za o), some (zi l), some (zi n), some (zi 0)]) (st2 := []) [(15, .iconst 0), (16, .istore_n 3)] (by decide +kernel) rfl ?_
  refine Zn.eq (pc2 := 17) (ls2 := [some (za o), some (zi l), some (zi n), some (zi (0 : Int))]) (st2 := []) (h2 := zov ([(o, .inr (5, [za ia, zi 1, zi l, zi n])), (ia, .inl (1, 24, .inl (cpF zF it 0)))]) h) rfl rfl rfl (by rw [cpF_zero]) ?_
  have hD : zND ([(o, .inr (5, [za ia, zi 1, zi l, zi n])), (ia, .inl (1, 24, .inl (cpF zF it 0)))]) := hD
  refine xloop (P := fun i_1 => Zn (5, xI_X5_begin, 4, 0, 0, 0, 0, false) none 17 [some (za o), some (zi l), some (zi n), some (zi (i_1 : Int))] [] (zov ([(o, .inr (5, [za ia, zi 1, zi l, zi n])), (ia, .inl (1, 24, .inl (cpF zF it i_1)))]) h) _) (24) (fun i_1 hi_2 ih_3 => ?_) ?_
  · have hi_ : i_1 < 24 := hi_2
    refine Zn.seg (pc2 := 20) (ls2 := [some (za o), some (zi l), some (zi n), some (zi (i_1 : Int))]) (st2 := [zi 24, zi (i_1 : Int)]) [(17, .iload_n 3), (18, .bipush 24)] (by decide +kernel) rfl ?_
    refine Zn.icmp (c := .ge) (off := 16) 36 (by decide +kernel) rfl ⟨by omega, by omega⟩ ⟨by decide, by decide⟩ (fun c_4 => absurd (show 24 ≤ (i_1 : Int) from c_4) (by omega)) (fun c_4 => ?_)
    have c_4 : ¬ (24 ≤ (i_1 : Int)) := c_4
    refine Zn.seg (pc2 := 24) (ls2 := [some (za o), some (zi l), some (zi n), some (zi (i_1 : Int))]) (st2 := [za o]) [(23, .aload_n 0)] (by decide +kernel) rfl ?_
    refine Zn.get (ix := 9) hD 0 (by decide +kernel) rfl rfl rfl ?_
    refine Zn.seg (pc2 := 29) (ls2 := [some (za o), some (zi l), some (zi n), some (zi (i_1 : Int))]) (st2 := [zj 0, zi (i_1 : Int), za ia]) [(27, .iload_n 3), (28, .lconst 0)] (by decide +kernel) rfl ?_
    refine Zn.last hD 1 (i_1) (by decide +kernel) rfl (by omega) (by omega) rfl ?_
    refine Zn.eq (h2 := zov ([(o, .inr (5, [za ia, zi 1, zi l, zi n])), (ia, .inl (1, 24, .inl (va_up (cpF zF it i_1) i_1 0)))]) h) rfl rfl rfl (rfl) ?_
    have hD : zND ([(o, .inr (5, [za ia, zi 1, zi l, zi n])), (ia, .inl (1, 24, .inl (va_up (cpF zF it i_1) i_1 0)))]) := hD
    refine Zn.seg (pc2 := 17) (ls2 := [some (za o), some (zi l), some (zi n), some (zi ((i_1 : Int) + 1))]) (st2 := []) [(30, .iinc 3 1), (33, .goto (-16))] (by decide +kernel) rfl ?_
    exact Zn.eq rfl (zcons rfl (zcons rfl (zcons rfl (zcons (congrArg (fun z => some (zi z)) (by omega)) rfl)))) rfl (by rw [cpF_st (f := zF) (by rfl)]) (ih_3)
  · skip
    refine Zn.seg (pc2 := 20) (ls2 := [some (za o), some (zi l), some (zi n), some (zi (24 : Int))]) (st2 := [zi 24, zi (24 : Int)]) [(17, .iload_n 3), (18, .bipush 24)] (by decide +kernel) rfl ?_
    refine Zn.icmp (c := .ge) (off := 16) 36 (by decide +kernel) rfl ⟨by omega, by omega⟩ ⟨by decide, by decide⟩ (fun c_5 => ?_) (fun c_5 => absurd (show 24 ≤ (24 : Int) from by decide) c_5)
    have c_5 : 24 ≤ (24 : Int) := c_5
    exact Zn.vret (by decide +kernel) rfl (⟨rfl, rfl⟩)
theorem sp_X5_reaches {h : xH} {o ia : Nat} {he la sz i n : Int} (hc0 : h o = zcE (.inr (5, [za ia, zi he, zi la, zi sz]))) (hsz : 0 ≤ sz ∧ sz ≤ 24) (hi : zInI i) (hn : zInI n) : zEv k_X5_reaches [za o, zi i, zi n] h (fun v h2 => v = some (zi (rcV sz i n)) ∧ h2 = h) := by
  have hD : [o].Nodup := by simp
  have hh : h = zov [(o, .inr (5, [za ia, zi he, zi la, zi sz]))] h := zov_self (List.forall_mem_cons.mpr ⟨hc0, fun _ q => absurd q List.not_mem_nil⟩)
  have hi1 := hi.1
  have hi2 := hi.2
  have hn1 := hn.1
  have hn2 := hn.2
  refine zEv.body (I := (5, xI_X5_reaches, 3, 0, 0, 0, 0, false)) (rt := (some .boolean)) [some (za o), some (zi i), some (zi n)] rfl rfl rfl rfl ?_
  refine Zn.eq rfl rfl rfl hh ?_
  have hD : zND ([(o, .inr (5, [za ia, zi he, zi la, zi sz]))]) := hD
  refine Zn.seg (pc2 := 1) (ls2 := [some (za o), some (zi i), some (zi n)]) (st2 := [zi i]) [(0, .iload_n 1)] (by decide +kernel) rfl ?_
  refine Zn.ifc (c := .lt) (off := 29) 30 (by decide +kernel) rfl ⟨by omega, by omega⟩ (fun c_1 => ?_) (fun c_1 => ?_)
  · have c_1 : i < 0 := c_1
    refine Zn.seg (pc2 := 31) (ls2 := [some (za o), some (zi i), some (zi n)]) (st2 := [zi 0]) [(30, .iconst 0)] (by decide +kernel) rfl ?_
    exact Zn.bret (by decide +kernel) rfl (by first | decide | omega) (⟨by refine congrArg some (congrArg zi ?_); rw [rcV]; first | (rw [if_pos (by omega)]; done) | rw [if_neg (by omega)], hh.symm⟩)
  · have c_1 : ¬ (i < 0) := c_1
    refine Zn.seg (pc2 := 5) (ls2 := [some (za o), some (zi i), some (zi n)]) (st2 := [zi n]) [(4, .iload_n 2)] (by decide +kernel) rfl ?_
    refine Zn.ifc (c := .lt) (off := 25) 30 (by decide +kernel) rfl ⟨by omega, by omega⟩ (fun c_2 => ?_) (fun c_2 => ?_)
    · have c_2 : n < 0 := c_2
      refine Zn.seg (pc2 := 31) (ls2 := [some (za o), some (zi i), some (zi n)]) (st2 := [zi 0]) [(30, .iconst 0)] (by decide +kernel) rfl ?_
      exact Zn.bret (by decide +kernel) rfl (by first | decide | omega) (⟨by refine congrArg some (congrArg zi ?_); rw [rcV]; first | (rw [if_pos (by omega)]; done) | rw [if_neg (by omega)], hh.symm⟩)
    · have c_2 : ¬ (n < 0) := c_2
      refine Zn.seg (pc2 := 10) (ls2 := [some (za o), some (zi i), some (zi n)]) (st2 := [za o, zi i]) [(8, .iload_n 1), (9, .aload_n 0)] (by decide +kernel) rfl ?_
      refine Zn.get (ix := 23) hD 0 (by decide +kernel) rfl rfl rfl ?_
      refine Zn.icmp (c := .gt) (off := 17) 30 (by decide +kernel) rfl ⟨by omega, by omega⟩ ⟨by omega, by omega⟩ (fun c_3 => ?_) (fun c_3 => ?_)
      · have c_3 : sz < i := c_3
        refine Zn.seg (pc2 := 31) (ls2 := [some (za o), some (zi i), some (zi n)]) (st2 := [zi 0]) [(30, .iconst 0)] (by decide +kernel) rfl ?_
        exact Zn.bret (by decide +kernel) rfl (by first | decide | omega) (⟨by refine congrArg some (congrArg zi ?_); rw [rcV]; first | (rw [if_pos (by omega)]; done) | rw [if_neg (by omega)], hh.symm⟩)
      · have c_3 : ¬ (sz < i) := c_3
        refine Zn.seg (pc2 := 18) (ls2 := [some (za o), some (zi i), some (zi n)]) (st2 := [za o, zi n]) [(16, .iload_n 2), (17, .aload_n 0)] (by decide +kernel) rfl ?_
        refine Zn.get (ix := 23) hD 0 (by decide +kernel) rfl rfl rfl ?_
        refine Zn.seg (pc2 := 23) (ls2 := [some (za o), some (zi i), some (zi n)]) (st2 := [zi (sz - i), zi n]) [(21, .iload_n 1), (22, .isub)] (by decide +kernel) rfl ?_
        refine Zn.icmp (c := .gt) (off := 7) 30 (by decide +kernel) rfl ⟨by omega, by omega⟩ ⟨by omega, by omega⟩ (fun c_4 => ?_) (fun c_4 => ?_)
        · have c_4 : sz - i < n := c_4
          refine Zn.seg (pc2 := 31) (ls2 := [some (za o), some (zi i), some (zi n)]) (st2 := [zi 0]) [(30, .iconst 0)] (by decide +kernel) rfl ?_
          exact Zn.bret (by decide +kernel) rfl (by first | decide | omega) (⟨by refine congrArg some (congrArg zi ?_); rw [rcV]; first | (rw [if_pos (by omega)]; done) | rw [if_neg (by omega)], hh.symm⟩)
        · have c_4 : ¬ (sz - i < n) := c_4
          refine Zn.seg (pc2 := 31) (ls2 := [some (za o), some (zi i), some (zi n)]) (st2 := [zi 1]) [(26, .iconst 1), (27, .goto 4)] (by decide +kernel) rfl ?_
          exact Zn.bret (by decide +kernel) rfl (by first | decide | omega) (⟨by refine congrArg some (congrArg zi ?_); rw [rcV]; first | (rw [if_pos (by omega)]; done) | rw [if_neg (by omega)], hh.symm⟩)
theorem sp_X5_refusal {h : xH} {o ia : Nat} {he la sz l i n : Int} (hc0 : h o = zcE (.inr (5, [za ia, zi he, zi la, zi sz]))) (hhe : he = 0 ∨ he = 1) (hla : 0 ≤ la ∧ la ≤ 3) (hsz : 0 ≤ sz ∧ sz ≤ 24) (hl : zInI l) (hi : zInI i) (hn : zInI n) : zEv k_X5_refusal [za o, zi l, zi i, zi n] h (fun v h2 => v = some (zi (rfV he la sz l i n)) ∧ h2 = h) := by
  have hD : [o].Nodup := by simp
  have hh : h = zov [(o, .inr (5, [za ia, zi he, zi la, zi sz]))] h := zov_self (List.forall_mem_cons.mpr ⟨hc0, fun _ q => absurd q List.not_mem_nil⟩)
  have hl1 := hl.1
  have hl2 := hl.2
  refine zEv.body (I := (5, xI_X5_refusal, 4, 1, 22, 0, 0, false)) (rt := (some .int)) [some (za o), some (zi l), some (zi i), some (zi n)] rfl rfl rfl rfl ?_
  refine Zn.eq rfl rfl rfl hh ?_
  have hD : zND ([(o, .inr (5, [za ia, zi he, zi la, zi sz]))]) := hD
  refine Zn.seg (pc2 := 1) (ls2 := [some (za o), some (zi l), some (zi i), some (zi n)]) (st2 := [za o]) [(0, .aload_n 0)] (by decide +kernel) rfl ?_
  refine Zn.get (ix := 15) hD 0 (by decide +kernel) rfl rfl rfl ?_
  refine Zn.ifc (c := .ne) (off := 6) 10 (by decide +kernel) rfl ⟨by omega, by omega⟩ (fun c_1 => ?_) (fun c_1 => ?_)
  · have c_1 : he ≠ 0 := c_1
    refine Zn.seg (pc2 := 11) (ls2 := [some (za o), some (zi l), some (zi i), some (zi n)]) (st2 := [za o]) [(10, .aload_n 0)] (by decide +kernel) rfl ?_
    refine Zn.get (ix := 19) hD 0 (by decide +kernel) rfl rfl rfl ?_
    refine Zn.seg (pc2 := 15) (ls2 := [some (za o), some (zi l), some (zi i), some (zi n)]) (st2 := [zi l, zi la]) [(14, .iload_n 1)] (by decide +kernel) rfl ?_
    refine Zn.icmp (c := .eq) (off := 6) 21 (by decide +kernel) rfl ⟨by omega, by omega⟩ ⟨by omega, by omega⟩ (fun c_2 => ?_) (fun c_2 => ?_)
    · have c_2 : la = l := c_2
      refine Zn.seg (pc2 := 24) (ls2 := [some (za o), some (zi l), some (zi i), some (zi n)]) (st2 := [zi n, zi i, za o]) [(21, .aload_n 0), (22, .iload_n 2), (23, .iload_n 3)] (by decide +kernel) rfl ?_
      refine Zn.call (ins := .invokevirtual 26) [za o, zi i, zi n] [] (by decide +kernel) rfl rfl rfl ⟨rfl, rfl⟩ ⟨rfl, rfl, rfl⟩ rfl (zrecvV hD (p := 0) rfl rfl rfl) (sp_X5_reaches (o := o) (ia := ia) (he := he) (la := la) (sz := sz) (i := i) (n := n) (zov_get hD 0 rfl) (by first | assumption | omega) (by first | assumption | omega) (by first | assumption | omega)) (fun v h2 hp => ?_)
      obtain ⟨rfl, hq_3⟩ := hp
      refine Zn.eq (pc2 := 27) (ls2 := [some (za o), some (zi l), some (zi i), some (zi n)]) (st2 := [zi (rcV sz i n)]) (h2 := zov ([(o, .inr (5, [za ia, zi he, zi la, zi sz]))]) h) rfl rfl rfl hq_3 ?_
      have hD : zND ([(o, .inr (5, [za ia, zi he, zi la, zi sz]))]) := hD
      have q_4 := rcV_c sz i n
      refine Zn.ifc (c := .eq) (off := 7) 34 (by decide +kernel) rfl ⟨by omega, by omega⟩ (fun c_5 => ?_) (fun c_5 => ?_)
      · have c_5 : rcV sz i n = 0 := c_5
        refine Zn.seg (pc2 := 36) (ls2 := [some (za o), some (zi l), some (zi i), some (zi n)]) (st2 := [zi (-13)]) [(34, .bipush (-13))] (by decide +kernel) rfl ?_
        exact Zn.iret (by decide +kernel) rfl (⟨by refine congrArg some (congrArg zi ?_); rw [rfV]; first | (rw [if_pos (by omega)]; done) | (rw [if_neg (by omega), if_pos (by omega)]; done) | (rw [if_neg (by omega), if_neg (by omega), if_pos (by omega)]; done) | rw [if_neg (by omega), if_neg (by omega), if_neg (by omega)], hh.symm⟩)
      · have c_5 : ¬ (rcV sz i n = 0) := c_5
        refine Zn.seg (pc2 := 36) (ls2 := [some (za o), some (zi l), some (zi i), some (zi n)]) (st2 := [zi 0]) [(30, .iconst 0), (31, .goto 5)] (by decide +kernel) rfl ?_
        exact Zn.iret (by decide +kernel) rfl (⟨by refine congrArg some (congrArg zi ?_); rw [rfV]; first | (rw [if_pos (by omega)]; done) | (rw [if_neg (by omega), if_pos (by omega)]; done) | (rw [if_neg (by omega), if_neg (by omega), if_pos (by omega)]; done) | rw [if_neg (by omega), if_neg (by omega), if_neg (by omega)], hh.symm⟩)
    · have c_2 : ¬ (la = l) := c_2
      refine Zn.seg (pc2 := 20) (ls2 := [some (za o), some (zi l), some (zi i), some (zi n)]) (st2 := [zi (-12)]) [(18, .bipush (-12))] (by decide +kernel) rfl ?_
      exact Zn.iret (by decide +kernel) rfl (⟨by refine congrArg some (congrArg zi ?_); rw [rfV]; first | (rw [if_pos (by omega)]; done) | (rw [if_neg (by omega), if_pos (by omega)]; done) | (rw [if_neg (by omega), if_neg (by omega), if_pos (by omega)]; done) | rw [if_neg (by omega), if_neg (by omega), if_neg (by omega)], hh.symm⟩)
  · have c_1 : ¬ (he ≠ 0) := c_1
    refine Zn.seg (pc2 := 9) (ls2 := [some (za o), some (zi l), some (zi i), some (zi n)]) (st2 := [zi (-11)]) [(7, .bipush (-11))] (by decide +kernel) rfl ?_
    exact Zn.iret (by decide +kernel) rfl (⟨by refine congrArg some (congrArg zi ?_); rw [rfV]; first | (rw [if_pos (by omega)]; done) | (rw [if_neg (by omega), if_pos (by omega)]; done) | (rw [if_neg (by omega), if_neg (by omega), if_pos (by omega)]; done) | rw [if_neg (by omega), if_neg (by omega), if_neg (by omega)], hh.symm⟩)
theorem sp_X5_at {h : xH} {o ia i : Nat} {he la sz : Int} {it : Nat → Int} (hc0 : h o = zcE (.inr (5, [za ia, zi he, zi la, zi sz]))) (hc1 : h ia = zcE (.inl (1, 24, .inl it))) (hD : [o, ia].Nodup) (hsz : 0 ≤ sz ∧ sz ≤ 24) (hi : (i : Int) < sz) : zEv k_X5_at [za o, zi (i : Int)] h (fun v h2 => v = some (zj (it i)) ∧ h2 = h) := by
  have hh : h = zov [(o, .inr (5, [za ia, zi he, zi la, zi sz])), (ia, .inl (1, 24, .inl it))] h := zov_self (List.forall_mem_cons.mpr ⟨hc0, List.forall_mem_cons.mpr ⟨hc1, fun _ q => absurd q List.not_mem_nil⟩⟩)
  refine zEv.body (I := (5, xI_X5_at, 2, 0, 0, 0, 0, false)) (rt := (some .long)) [some (za o), some (zi (i : Int))] rfl rfl rfl rfl ?_
  refine Zn.eq rfl rfl rfl hh ?_
  have hD : zND ([(o, .inr (5, [za ia, zi he, zi la, zi sz])), (ia, .inl (1, 24, .inl it))]) := hD
  refine Zn.seg (pc2 := 1) (ls2 := [some (za o), some (zi (i : Int))]) (st2 := [zi (i : Int)]) [(0, .iload_n 1)] (by decide +kernel) rfl ?_
  refine Zn.ifc (c := .lt) (off := 26) 27 (by decide +kernel) rfl ⟨by omega, by omega⟩ (fun c_1 => absurd (show (i : Int) < 0 from c_1) (by omega)) (fun c_1 => ?_)
  have c_1 : ¬ ((i : Int) < 0) := c_1
  refine Zn.seg (pc2 := 6) (ls2 := [some (za o), some (zi (i : Int))]) (st2 := [za o, zi (i : Int)]) [(4, .iload_n 1), (5, .aload_n 0)] (by decide +kernel) rfl ?_
  refine Zn.get (ix := 23) hD 0 (by decide +kernel) rfl rfl rfl ?_
  refine Zn.icmp (c := .ge) (off := 18) 27 (by decide +kernel) rfl ⟨by omega, by omega⟩ ⟨by omega, by omega⟩ (fun c_2 => absurd (show sz ≤ (i : Int) from c_2) (by omega)) (fun c_2 => ?_)
  have c_2 : ¬ (sz ≤ (i : Int)) := c_2
  refine Zn.seg (pc2 := 15) (ls2 := [some (za o), some (zi (i : Int))]) (st2 := [zi 24, zi (i : Int)]) [(12, .iload_n 1), (13, .bipush 24)] (by decide +kernel) rfl ?_
  refine Zn.icmp (c := .ge) (off := 12) 27 (by decide +kernel) rfl ⟨by omega, by omega⟩ ⟨by decide, by decide⟩ (fun c_3 => absurd (show 24 ≤ (i : Int) from c_3) (by omega)) (fun c_3 => ?_)
  have c_3 : ¬ (24 ≤ (i : Int)) := c_3
  refine Zn.seg (pc2 := 19) (ls2 := [some (za o), some (zi (i : Int))]) (st2 := [za o]) [(18, .aload_n 0)] (by decide +kernel) rfl ?_
  refine Zn.get (ix := 9) hD 0 (by decide +kernel) rfl rfl rfl ?_
  refine Zn.seg (pc2 := 23) (ls2 := [some (za o), some (zi (i : Int))]) (st2 := [zi (i : Int), za ia]) [(22, .iload_n 1)] (by decide +kernel) rfl ?_
  refine Zn.lald hD 1 (i) (by decide +kernel) rfl (by omega) (by omega) rfl ?_
  refine Zn.seg (pc2 := 28) (ls2 := [some (za o), some (zi (i : Int))]) (st2 := [zj (it i)]) [(24, .goto 4)] (by decide +kernel) rfl ?_
  exact Zn.lret (by decide +kernel) rfl (⟨by first | rfl | (refine congrArg some (congrArg zj ?_); first | omega | (simp_all; done) | (simp_all; omega)), hh.symm⟩)
theorem sp_X5_put {h : xH} {o ia i : Nat} {he la sz z : Int} {it : Nat → Int} (hc0 : h o = zcE (.inr (5, [za ia, zi he, zi la, zi sz]))) (hc1 : h ia = zcE (.inl (1, 24, .inl it))) (hD : [o, ia].Nodup) (hsz : 0 ≤ sz ∧ sz ≤ 24) (hla : 0 ≤ la ∧ la ≤ 3) (hi : (i : Int) < sz) : zEv k_X5_put [za o, zi (i : Int), zj z] h (fun v h2 => v = none ∧ h2 = zov [(o, .inr (5, [za ia, zi he, zi la, zi sz])), (ia, .inl (1, 24, .inl (va_up it i (castV la z))))] h) := by
  have hh : h = zov [(o, .inr (5, [za ia, zi he, zi la, zi sz])), (ia, .inl (1, 24, .inl it))] h := zov_self (List.forall_mem_cons.mpr ⟨hc0, List.forall_mem_cons.mpr ⟨hc1, fun _ q => absurd q List.not_mem_nil⟩⟩)
  have hs8 := s8_in z
  have hs16 := s16_in z
  have hs32 := s32_in z
  refine zEv.body (I := (5, xI_X5_put, 4, 0, 0, 0, 0, false)) (rt := none) [some (za o), some (zi (i : Int)), some (zj z), none] rfl rfl rfl rfl ?_
  refine Zn.eq rfl rfl rfl hh ?_
  have hD : zND ([(o, .inr (5, [za ia, zi he, zi la, zi sz])), (ia, .inl (1, 24, .inl it))]) := hD
  refine Zn.seg (pc2 := 1) (ls2 := [some (za o), some (zi (i : Int)), some (zj z), none]) (st2 := [zi (i : Int)]) [(0, .iload_n 1)] (by decide +kernel) rfl ?_
  refine Zn.ifc (c := .lt) (off := 17) 18 (by decide +kernel) rfl ⟨by omega, by omega⟩ (fun c_1 => absurd (show (i : Int) < 0 from c_1) (by omega)) (fun c_1 => ?_)
  have c_1 : ¬ ((i : Int) < 0) := c_1
  refine Zn.seg (pc2 := 6) (ls2 := [some (za o), some (zi (i : Int)), some (zj z), none]) (st2 := [za o, zi (i : Int)]) [(4, .iload_n 1), (5, .aload_n 0)] (by decide +kernel) rfl ?_
  refine Zn.get (ix := 23) hD 0 (by decide +kernel) rfl rfl rfl ?_
  refine Zn.icmp (c := .ge) (off := 9) 18 (by decide +kernel) rfl ⟨by omega, by omega⟩ ⟨by omega, by omega⟩ (fun c_2 => absurd (show sz ≤ (i : Int) from c_2) (by omega)) (fun c_2 => ?_)
  have c_2 : ¬ (sz ≤ (i : Int)) := c_2
  refine Zn.seg (pc2 := 15) (ls2 := [some (za o), some (zi (i : Int)), some (zj z), none]) (st2 := [zi 24, zi (i : Int)]) [(12, .iload_n 1), (13, .bipush 24)] (by decide +kernel) rfl ?_
  refine Zn.icmp (c := .lt) (off := 4) 19 (by decide +kernel) rfl ⟨by omega, by omega⟩ ⟨by decide, by decide⟩ (fun c_3 => ?_) (fun c_3 => absurd (show (i : Int) < 24 from by omega) c_3)
  have c_3 : (i : Int) < 24 := c_3
  refine Zn.seg (pc2 := 20) (ls2 := [some (za o), some (zi (i : Int)), some (zj z), none]) (st2 := [za o]) [(19, .aload_n 0)] (by decide +kernel) rfl ?_
  refine Zn.get (ix := 19) hD 0 (by decide +kernel) rfl rfl rfl ?_
  rcases (show la = 0 ∨ la = 1 ∨ la = 2 ∨ (la < 0 ∨ 2 < la) by omega) with w_4 | w_4 | w_4 | w_4
  · refine Zn.tswIn (d := 63) (lo := 0) (hh := 2) (offs := #[25, 38, 51]) 48 0 (by decide +kernel) ⟨by omega, by omega⟩ (by omega) (by omega) rfl rfl ?_
    refine Zn.seg (pc2 := 49) (ls2 := [some (za o), some (zi (i : Int)), some (zj z), none]) (st2 := [za o]) [(48, .aload_n 0)] (by decide +kernel) rfl ?_
    refine Zn.get (ix := 9) hD 0 (by decide +kernel) rfl rfl rfl ?_
    refine Zn.seg (pc2 := 55) (ls2 := [some (za o), some (zi (i : Int)), some (zj z), none]) (st2 := [zi z, zi (i : Int), za ia]) [(52, .iload_n 1), (53, .lload_n 2), (54, .l2i)] (by decide +kernel) rfl ?_
    refine Zn.i2b (s8 z) (by decide +kernel) (zs8 z) ?_
    refine Zn.i2l (by decide +kernel) ⟨by omega, by omega⟩ ?_
    refine Zn.last hD 1 (i) (by decide +kernel) rfl (by omega) (by omega) rfl ?_
    refine Zn.eq (h2 := zov ([(o, .inr (5, [za ia, zi he, zi la, zi sz])), (ia, .inl (1, 24, .inl (va_up it i (s8 z))))]) h) rfl rfl rfl (rfl) ?_
    have hD : zND ([(o, .inr (5, [za ia, zi he, zi la, zi sz])), (ia, .inl (1, 24, .inl (va_up it i (s8 z))))]) := hD
    refine Zn.seg (pc2 := 93) (ls2 := [some (za o), some (zi (i : Int)), some (zj z), none]) (st2 := []) [(58, .goto 35)] (by decide +kernel) rfl ?_
    exact Zn.vret (by decide +kernel) rfl (⟨rfl, by unfold castV; first | (rw [if_pos (by omega)]; done) | (rw [if_neg (by omega), if_pos (by omega)]; done) | (rw [if_neg (by omega), if_neg (by omega), if_pos (by omega)]; done) | rw [if_neg (by omega), if_neg (by omega), if_neg (by omega)]⟩)
  · refine Zn.tswIn (d := 63) (lo := 0) (hh := 2) (offs := #[25, 38, 51]) 61 1 (by decide +kernel) ⟨by omega, by omega⟩ (by omega) (by omega) rfl rfl ?_
    refine Zn.seg (pc2 := 62) (ls2 := [some (za o), some (zi (i : Int)), some (zj z), none]) (st2 := [za o]) [(61, .aload_n 0)] (by decide +kernel) rfl ?_
    refine Zn.get (ix := 9) hD 0 (by decide +kernel) rfl rfl rfl ?_
    refine Zn.seg (pc2 := 68) (ls2 := [some (za o), some (zi (i : Int)), some (zj z), none]) (st2 := [zi z, zi (i : Int), za ia]) [(65, .iload_n 1), (66, .lload_n 2), (67, .l2i)] (by decide +kernel) rfl ?_
    refine Zn.i2s (s16 z) (by decide +kernel) (zs16 z) ?_
    refine Zn.i2l (by decide +kernel) ⟨by omega, by omega⟩ ?_
    refine Zn.last hD 1 (i) (by decide +kernel) rfl (by omega) (by omega) rfl ?_
    refine Zn.eq (h2 := zov ([(o, .inr (5, [za ia, zi he, zi la, zi sz])), (ia, .inl (1, 24, .inl (va_up it i (s16 z))))]) h) rfl rfl rfl (rfl) ?_
    have hD : zND ([(o, .inr (5, [za ia, zi he, zi la, zi sz])), (ia, .inl (1, 24, .inl (va_up it i (s16 z))))]) := hD
    refine Zn.seg (pc2 := 93) (ls2 := [some (za o), some (zi (i : Int)), some (zj z), none]) (st2 := []) [(71, .goto 22)] (by decide +kernel) rfl ?_
    exact Zn.vret (by decide +kernel) rfl (⟨rfl, by unfold castV; first | (rw [if_pos (by omega)]; done) | (rw [if_neg (by omega), if_pos (by omega)]; done) | (rw [if_neg (by omega), if_neg (by omega), if_pos (by omega)]; done) | rw [if_neg (by omega), if_neg (by omega), if_neg (by omega)]⟩)
  · refine Zn.tswIn (d := 63) (lo := 0) (hh := 2) (offs := #[25, 38, 51]) 74 2 (by decide +kernel) ⟨by omega, by omega⟩ (by omega) (by omega) rfl rfl ?_
    refine Zn.seg (pc2 := 75) (ls2 := [some (za o), some (zi (i : Int)), some (zj z), none]) (st2 := [za o]) [(74, .aload_n 0)] (by decide +kernel) rfl ?_
    refine Zn.get (ix := 9) hD 0 (by decide +kernel) rfl rfl rfl ?_
    refine Zn.seg (pc2 := 81) (ls2 := [some (za o), some (zi (i : Int)), some (zj z), none]) (st2 := [zi z, zi (i : Int), za ia]) [(78, .iload_n 1), (79, .lload_n 2), (80, .l2i)] (by decide +kernel) rfl ?_
    refine Zn.topI (y := s32 z) (zs32 z) ?_
    refine Zn.i2l (by decide +kernel) ⟨by omega, by omega⟩ ?_
    refine Zn.last hD 1 (i) (by decide +kernel) rfl (by omega) (by omega) rfl ?_
    refine Zn.eq (h2 := zov ([(o, .inr (5, [za ia, zi he, zi la, zi sz])), (ia, .inl (1, 24, .inl (va_up it i (s32 z))))]) h) rfl rfl rfl (rfl) ?_
    have hD : zND ([(o, .inr (5, [za ia, zi he, zi la, zi sz])), (ia, .inl (1, 24, .inl (va_up it i (s32 z))))]) := hD
    refine Zn.seg (pc2 := 93) (ls2 := [some (za o), some (zi (i : Int)), some (zj z), none]) (st2 := []) [(83, .goto 10)] (by decide +kernel) rfl ?_
    exact Zn.vret (by decide +kernel) rfl (⟨rfl, by unfold castV; first | (rw [if_pos (by omega)]; done) | (rw [if_neg (by omega), if_pos (by omega)]; done) | (rw [if_neg (by omega), if_neg (by omega), if_pos (by omega)]; done) | rw [if_neg (by omega), if_neg (by omega), if_neg (by omega)]⟩)
  · refine Zn.tswOut (d := 63) (lo := 0) (hh := 2) (offs := #[25, 38, 51]) 86 (by decide +kernel) ⟨by omega, by omega⟩ w_4 rfl ?_
    refine Zn.seg (pc2 := 87) (ls2 := [some (za o), some (zi (i : Int)), some (zj z), none]) (st2 := [za o]) [(86, .aload_n 0)] (by decide +kernel) rfl ?_
    refine Zn.get (ix := 9) hD 0 (by decide +kernel) rfl rfl rfl ?_
    refine Zn.seg (pc2 := 92) (ls2 := [some (za o), some (zi (i : Int)), some (zj z), none]) (st2 := [zj z, zi (i : Int), za ia]) [(90, .iload_n 1), (91, .lload_n 2)] (by decide +kernel) rfl ?_
    refine Zn.last hD 1 (i) (by decide +kernel) rfl (by omega) (by omega) rfl ?_
    refine Zn.eq (h2 := zov ([(o, .inr (5, [za ia, zi he, zi la, zi sz])), (ia, .inl (1, 24, .inl (va_up it i z)))]) h) rfl rfl rfl (rfl) ?_
    have hD : zND ([(o, .inr (5, [za ia, zi he, zi la, zi sz])), (ia, .inl (1, 24, .inl (va_up it i z)))]) := hD
    exact Zn.vret (by decide +kernel) rfl (⟨rfl, by unfold castV; first | (rw [if_pos (by omega)]; done) | (rw [if_neg (by omega), if_pos (by omega)]; done) | (rw [if_neg (by omega), if_neg (by omega), if_pos (by omega)]; done) | rw [if_neg (by omega), if_neg (by omega), if_neg (by omega)]⟩)
theorem sp_X5_tellsPoints_yes {h : xH} {o ia i n : Nat} {he la sz : Int} {it : Nat → Int} (hc0 : h o = zcE (.inr (5, [za ia, zi he, zi la, zi sz]))) (hc1 : h ia = zcE (.inl (1, 24, .inl it))) (hD : [o, ia].Nodup) (hsz : 0 ≤ sz ∧ sz ≤ 24) (hin : (i : Int) + 2 * (n : Int) ≤ sz) (hz : ∀ j, j < n → zInL ((shf2 it i) j) ∧ zInL ((shf2 it (i + 1)) j)) (hg : ∀ j, j < n → -6 ≤ (shf2 it i) j ∧ (shf2 it i) j ≤ 6 ∧ -99 ≤ (shf2 it (i + 1)) j ∧ (shf2 it (i + 1)) j ≤ 99 ∧ bt (smN (shf2 it i) j) ((shf2 it i) j + 6).toNat = 0) : zEv k_X5_tellsPoints [za o, zi (i : Int), zi (n : Int)] h (fun v h2 => v = some (zi 1) ∧ h2 = h) := by
  have hh : h = zov [(o, .inr (5, [za ia, zi he, zi la, zi sz])), (ia, .inl (1, 24, .inl it))] h := zov_self (List.forall_mem_cons.mpr ⟨hc0, List.forall_mem_cons.mpr ⟨hc1, fun _ q => absurd q List.not_mem_nil⟩⟩)
  refine zEv.body (I := (5, xI_X5_tellsPoints, 10, 1, 21, 0, 0, false)) (rt := (some .boolean)) [some (za o), some (zi (i : Int)), some (zi (n : Int)), none, none, none, none, none, none, none] rfl rfl rfl rfl ?_
  refine Zn.eq rfl rfl rfl hh ?_
  have hD : zND ([(o, .inr (5, [za ia, zi he, zi la, zi sz])), (ia, .inl (1, 24, .inl it))]) := hD
  refine Zn.seg (pc2 := 5) (ls2 := [some (za o), some (zi (i : Int)), some (zi (n : Int)), some (zi 0), some (zi 0), none, none, none, none, none]) (st2 := []) [(0, .iconst 0), (1, .istore_n 3), (2, .iconst 0), (3, .istore 4)] (by decide +kernel) rfl ?_
  refine Zn.eq (pc2 := 5) (ls2 := [some (za o), some (zi (i : Int)), some (zi (n : Int)), some (zi (smN (shf2 it i) 0 : Int)), some (zi (0 : Int)), none, none, none, none, none]) (st2 := []) (h2 := zov ([(o, .inr (5, [za ia, zi he, zi la, zi sz])), (ia, .inl (1, 24, .inl it))]) h) rfl rfl rfl (rfl) ?_
  have hD : zND ([(o, .inr (5, [za ia, zi he, zi la, zi sz])), (ia, .inl (1, 24, .inl it))]) := hD
  refine xloop (P := fun i_1 => ∀ j_2 j_3 j_4 j_5 j_6 : Option zV, Zn (5, xI_X5_tellsPoints, 10, 1, 21, 0, 0, false) (some .boolean) 5 [some (za o), some (zi (i : Int)), some (zi (n : Int)), some (zi (smN (shf2 it i) i_1 : Int)), some (zi (i_1 : Int)), j_2, j_3, j_4, j_5, j_6] [] (zov ([(o, .inr (5, [za ia, zi he, zi la, zi sz])), (ia, .inl (1, 24, .inl it))]) h) _) (n) (fun i_1 hi_7 ih_8 j_2 j_3 j_4 j_5 j_6 => ?_) (fun j_2 j_3 j_4 j_5 j_6 => ?_) none none none none none
  · have hi_ : i_1 < n := hi_7
    have hsm := smN_b (shf2 it i) i_1
    have hzi := hz i_1 hi_
    have hpw : -6 ≤ (shf2 it i) i_1 → (shf2 it i) i_1 ≤ 6 → 2 ^ ((shf2 it i) i_1 + 6).toNat < 8192 := fun q1 q2 => pw_lt (by omega)
    have hal := and_lt (b := 2 ^ ((shf2 it i) i_1 + 6).toNat) hsm
    have hba := bt_and2 (smN (shf2 it i) i_1) ((shf2 it i) i_1 + 6).toNat
    have hgj := hg i_1 hi_
    refine Zn.seg (pc2 := 8) (ls2 := [some (za o), some (zi (i : Int)), some (zi (n : Int)), some (zi (smN (shf2 it i) i_1 : Int)), some (zi (i_1 : Int)), j_2, j_3, j_4, j_5, j_6]) (st2 := [zi (n : Int), zi (i_1 : Int)]) [(5, .iload 4), (7, .iload_n 2)] (by decide +kernel) rfl ?_
    refine Zn.icmp (c := .ge) (off := 97) 105 (by decide +kernel) rfl ⟨by omega, by omega⟩ ⟨by omega, by omega⟩ (fun c_9 => absurd (show (n : Int) ≤ (i_1 : Int) from c_9) (by omega)) (fun c_9 => ?_)
    have c_9 : ¬ ((n : Int) ≤ (i_1 : Int)) := c_9
    refine Zn.seg (pc2 := 18) (ls2 := [some (za o), some (zi (i : Int)), some (zi (n : Int)), some (zi (smN (shf2 it i) i_1 : Int)), some (zi (i_1 : Int)), j_2, j_3, j_4, j_5, j_6]) (st2 := [zi ((i : Int) + (2 * (i_1 : Int))), za o]) [(11, .aload_n 0), (12, .iload_n 1), (13, .iconst 2), (14, .iload 4), (16, .imul), (17, .iadd)] (by decide +kernel) rfl ?_
    refine Zn.call (ins := .invokevirtual 30) [za o, zi ((i : Int) + (2 * (i_1 : Int)))] [] (by decide +kernel) rfl rfl rfl ⟨rfl, rfl⟩ ⟨rfl, rfl, rfl⟩ rfl (zrecvV hD (p := 0) rfl rfl rfl) (sp_X5_at (o := o) (ia := ia) (i := (i + 2 * i_1)) (he := he) (la := la) (sz := sz) (it := it) (zov_get hD 0 rfl) (zov_get hD 1 rfl) (nd_sub hD [0, 1] rfl rfl) (by first | assumption | omega) (by omega)) (fun v h2 hp => ?_)
    obtain ⟨rfl, hq_10⟩ := hp
    refine Zn.eq (pc2 := 21) (ls2 := [some (za o), some (zi (i : Int)), some (zi (n : Int)), some (zi (smN (shf2 it i) i_1 : Int)), some (zi (i_1 : Int)), j_2, j_3, j_4, j_5, j_6]) (st2 := [zj (it (i + 2 * i_1))]) (h2 := zov ([(o, .inr (5, [za ia, zi he, zi la, zi sz])), (ia, .inl (1, 24, .inl it))]) h) rfl rfl rfl hq_10 ?_
    have hD : zND ([(o, .inr (5, [za ia, zi he, zi la, zi sz])), (ia, .inl (1, 24, .inl it))]) := hD
    refine Zn.topj (y := (shf2 it i) i_1) (congrArg zJ (rfl)) ?_
    refine Zn.seg (pc2 := 32) (ls2 := [some (za o), some (zi (i : Int)), some (zi (n : Int)), some (zi (smN (shf2 it i) i_1 : Int)), some (zi (i_1 : Int)), some (zj ((shf2 it i) i_1)), none, j_4, j_5, j_6]) (st2 := [zi ((i : Int) + (2 * (i_1 : Int)) + 1), za o]) [(21, .lstore 5), (23, .aload_n 0), (24, .iload_n 1), (25, .iconst 2), (26, .iload 4), (28, .imul), (29, .iadd), (30, .iconst 1), (31, .iadd)] (by decide +kernel) rfl ?_
    refine Zn.call (ins := .invokevirtual 30) [za o, zi ((i : Int) + (2 * (i_1 : Int)) + 1)] [] (by decide +kernel) rfl rfl rfl ⟨rfl, rfl⟩ ⟨rfl, rfl, rfl⟩ rfl (zrecvV hD (p := 0) rfl rfl rfl) (sp_X5_at (o := o) (ia := ia) (i := (i + 2 * i_1 + 1)) (he := he) (la := la) (sz := sz) (it := it) (zov_get hD 0 rfl) (zov_get hD 1 rfl) (nd_sub hD [0, 1] rfl rfl) (by first | assumption | omega) (by omega)) (fun v h2 hp => ?_)
    obtain ⟨rfl, hq_11⟩ := hp
    refine Zn.eq (pc2 := 35) (ls2 := [some (za o), some (zi (i : Int)), some (zi (n : Int)), some (zi (smN (shf2 it i) i_1 : Int)), some (zi (i_1 : Int)), some (zj ((shf2 it i) i_1)), none, j_4, j_5, j_6]) (st2 := [zj (it (i + 2 * i_1 + 1))]) (h2 := zov ([(o, .inr (5, [za ia, zi he, zi la, zi sz])), (ia, .inl (1, 24, .inl it))]) h) rfl rfl rfl hq_11 ?_
    have hD : zND ([(o, .inr (5, [za ia, zi he, zi la, zi sz])), (ia, .inl (1, 24, .inl it))]) := hD
    refine Zn.topj (y := (shf2 it (i + 1)) i_1) (congrArg zJ (by show it _ = it _; congr 1; omega)) ?_
    refine Zn.seg (pc2 := 42) (ls2 := [some (za o), some (zi (i : Int)), some (zi (n : Int)), some (zi (smN (shf2 it i) i_1 : Int)), some (zi (i_1 : Int)), some (zj ((shf2 it i) i_1)), none, some (zj ((shf2 it (i + 1)) i_1)), none, j_6]) (st2 := [zj (-6), zj ((shf2 it i) i_1)]) [(35, .lstore 7), (37, .lload 5), (39, .ldc2_w 34)] (by decide +kernel) rfl ?_
    refine Zn.lcmpif (c := .lt) (off := (30)) 73 (by decide +kernel) (by decide +kernel) rfl hzi.1 ⟨by decide, by decide⟩ (fun c_12 => absurd (show (shf2 it i) i_1 < (-6) from c_12) (by omega)) (fun c_12 => ?_)
    have c_12 : ¬ ((shf2 it i) i_1 < (-6)) := c_12
    refine Zn.seg (pc2 := 51) (ls2 := [some (za o), some (zi (i : Int)), some (zi (n : Int)), some (zi (smN (shf2 it i) i_1 : Int)), some (zi (i_1 : Int)), some (zj ((shf2 it i) i_1)), none, some (zj ((shf2 it (i + 1)) i_1)), none, j_6]) (st2 := [zj 6, zj ((shf2 it i) i_1)]) [(46, .lload 5), (48, .ldc2_w 36)] (by decide +kernel) rfl ?_
    refine Zn.lcmpif (c := .gt) (off := (21)) 73 (by decide +kernel) (by decide +kernel) rfl hzi.1 ⟨by decide, by decide⟩ (fun c_13 => absurd (show 6 < (shf2 it i) i_1 from c_13) (by omega)) (fun c_13 => ?_)
    have c_13 : ¬ (6 < (shf2 it i) i_1) := c_13
    refine Zn.seg (pc2 := 60) (ls2 := [some (za o), some (zi (i : Int)), some (zi (n : Int)), some (zi (smN (shf2 it i) i_1 : Int)), some (zi (i_1 : Int)), some (zj ((shf2 it i) i_1)), none, some (zj ((shf2 it (i + 1)) i_1)), none, j_6]) (st2 := [zj (-99), zj ((shf2 it (i + 1)) i_1)]) [(55, .lload 7), (57, .ldc2_w 38)] (by decide +kernel) rfl ?_
    refine Zn.lcmpif (c := .lt) (off := (12)) 73 (by decide +kernel) (by decide +kernel) rfl hzi.2 ⟨by decide, by decide⟩ (fun c_14 => absurd (show (shf2 it (i + 1)) i_1 < (-99) from c_14) (by omega)) (fun c_14 => ?_)
    have c_14 : ¬ ((shf2 it (i + 1)) i_1 < (-99)) := c_14
    refine Zn.seg (pc2 := 69) (ls2 := [some (za o), some (zi (i : Int)), some (zi (n : Int)), some (zi (smN (shf2 it i) i_1 : Int)), some (zi (i_1 : Int)), some (zj ((shf2 it i) i_1)), none, some (zj ((shf2 it (i + 1)) i_1)), none, j_6]) (st2 := [zj 99, zj ((shf2 it (i + 1)) i_1)]) [(64, .lload 7), (66, .ldc2_w 40)] (by decide +kernel) rfl ?_
    refine Zn.lcmpif (c := .le) (off := (5)) 75 (by decide +kernel) (by decide +kernel) rfl hzi.2 ⟨by decide, by decide⟩ (fun c_15 => ?_) (fun c_15 => absurd (show (shf2 it (i + 1)) i_1 ≤ 99 from by omega) c_15)
    have c_15 : (shf2 it (i + 1)) i_1 ≤ 99 := c_15
    refine Zn.seg (pc2 := 82) (ls2 := [some (za o), some (zi (i : Int)), some (zi (n : Int)), some (zi (smN (shf2 it i) i_1 : Int)), some (zi (i_1 : Int)), some (zj ((shf2 it i) i_1)), none, some (zj ((shf2 it (i + 1)) i_1)), none, j_6]) (st2 := [zi ((shf2 it i) i_1 + 6), zi 1]) [(75, .iconst 1), (76, .lload 5), (78, .l2i), (79, .bipush 6), (81, .iadd)] (by decide +kernel) rfl ?_
    refine Zn.ishl (((2 ^ ((shf2 it i) i_1 + 6).toNat : Nat) : Int)) (by decide +kernel) (zshl1z (p := ((shf2 it i) i_1 + 6).toNat) (by omega) (by omega)) ?_
    refine Zn.seg (pc2 := 88) (ls2 := [some (za o), some (zi (i : Int)), some (zi (n : Int)), some (zi (smN (shf2 it i) i_1 : Int)), some (zi (i_1 : Int)), some (zj ((shf2 it i) i_1)), none, some (zj ((shf2 it (i + 1)) i_1)), none, some (zi ((2 ^ ((shf2 it i) i_1 + 6).toNat : Nat) : Int))]) (st2 := [zi ((2 ^ ((shf2 it i) i_1 + 6).toNat : Nat) : Int), zi (smN (shf2 it i) i_1 : Int)]) [(83, .istore 9), (85, .iload_n 3), (86, .iload 9)] (by decide +kernel) rfl ?_
    refine Zn.iand ((((smN (shf2 it i) i_1) &&& (2 ^ ((shf2 it i) i_1 + 6).toNat) : Nat) : Int)) (by decide +kernel) (zand (by omega) (by omega)) ?_
    refine Zn.ifc (c := .eq) (off := 5) 94 (by decide +kernel) rfl ⟨by omega, by omega⟩ (fun c_16 => ?_) (fun c_16 => absurd (show (((smN (shf2 it i) i_1) &&& (2 ^ ((shf2 it i) i_1 + 6).toNat) : Nat) : Int) = 0 from by omega) c_16)
    have c_16 : (((smN (shf2 it i) i_1) &&& (2 ^ ((shf2 it i) i_1 + 6).toNat) : Nat) : Int) = 0 := c_16
    refine Zn.seg (pc2 := 97) (ls2 := [some (za o), some (zi (i : Int)), some (zi (n : Int)), some (zi (smN (shf2 it i) i_1 : Int)), some (zi (i_1 : Int)), some (zj ((shf2 it i) i_1)), none, some (zj ((shf2 it (i + 1)) i_1)), none, some (zi ((2 ^ ((shf2 it i) i_1 + 6).toNat : Nat) : Int))]) (st2 := [zi ((2 ^ ((shf2 it i) i_1 + 6).toNat : Nat) : Int), zi (smN (shf2 it i) i_1 : Int)]) [(94, .iload_n 3), (95, .iload 9)] (by decide +kernel) rfl ?_
    refine Zn.ior ((((smN (shf2 it i) i_1) ||| (2 ^ ((shf2 it i) i_1 + 6).toNat) : Nat) : Int)) (by decide +kernel) (zor (by omega) (by omega)) ?_
    refine Zn.seg (pc2 := 5) (ls2 := [some (za o), some (zi (i : Int)), some (zi (n : Int)), some (zi (((smN (shf2 it i) i_1) ||| (2 ^ ((shf2 it i) i_1 + 6).toNat) : Nat) : Int)), some (zi ((i_1 : Int) + 1)), some (zj ((shf2 it i) i_1)), none, some (zj ((shf2 it (i + 1)) i_1)), none, some (zi ((2 ^ ((shf2 it i) i_1 + 6).toNat : Nat) : Int))]) (st2 := []) [(98, .istore_n 3), (99, .iinc 4 1), (102, .goto (-97))] (by decide +kernel) rfl ?_
    exact Zn.eq rfl (zcons rfl (zcons rfl (zcons rfl (zcons (congrArg (fun z => some (zi z)) (by rw [smN, Nat.mod_eq_of_lt (hpw (by omega) (by omega))])) (zcons (congrArg (fun z => some (zi z)) (by omega)) rfl))))) rfl (rfl) (ih_8 (some (zj ((shf2 it i) i_1))) none (some (zj ((shf2 it (i + 1)) i_1))) none (some (zi ((2 ^ ((shf2 it i) i_1 + 6).toNat : Nat) : Int))))
  · skip
    refine Zn.seg (pc2 := 8) (ls2 := [some (za o), some (zi (i : Int)), some (zi (n : Int)), some (zi (smN (shf2 it i) n : Int)), some (zi (n : Int)), j_2, j_3, j_4, j_5, j_6]) (st2 := [zi (n : Int), zi (n : Int)]) [(5, .iload 4), (7, .iload_n 2)] (by decide +kernel) rfl ?_
    refine Zn.icmp (c := .ge) (off := 97) 105 (by decide +kernel) rfl ⟨by omega, by omega⟩ ⟨by omega, by omega⟩ (fun c_17 => ?_) (fun c_17 => absurd (show (n : Int) ≤ (n : Int) from by omega) c_17)
    have c_17 : (n : Int) ≤ (n : Int) := c_17
    refine Zn.seg (pc2 := 106) (ls2 := [some (za o), some (zi (i : Int)), some (zi (n : Int)), some (zi (smN (shf2 it i) n : Int)), some (zi (n : Int)), j_2, j_3, j_4, j_5, j_6]) (st2 := [zi 1]) [(105, .iconst 1)] (by decide +kernel) rfl ?_
    exact Zn.bret (by decide +kernel) rfl (by first | decide | omega) (⟨by first | rfl | (refine congrArg some (congrArg zi ?_); first | omega | (simp_all; done) | (simp_all; omega)), hh.symm⟩)
theorem sp_X5_tellsPoints_no {h : xH} {o ia i n : Nat} {he la sz : Int} {it : Nat → Int} (hc0 : h o = zcE (.inr (5, [za ia, zi he, zi la, zi sz]))) (hc1 : h ia = zcE (.inl (1, 24, .inl it))) (hD : [o, ia].Nodup) (hsz : 0 ≤ sz ∧ sz ≤ 24) (hin : (i : Int) + 2 * (n : Int) ≤ sz) (hz : ∀ j, j < n → zInL ((shf2 it i) j) ∧ zInL ((shf2 it (i + 1)) j)) (hbad : ∃ j, j < n ∧ ¬ (-6 ≤ (shf2 it i) j ∧ (shf2 it i) j ≤ 6 ∧ -99 ≤ (shf2 it (i + 1)) j ∧ (shf2 it (i + 1)) j ≤ 99 ∧ bt (smN (shf2 it i) j) ((shf2 it i) j + 6).toNat = 0)) : zEv k_X5_tellsPoints [za o, zi (i : Int), zi (n : Int)] h (fun v h2 => v = some (zi 0) ∧ h2 = h) := by
  have hh : h = zov [(o, .inr (5, [za ia, zi he, zi la, zi sz])), (ia, .inl (1, 24, .inl it))] h := zov_self (List.forall_mem_cons.mpr ⟨hc0, List.forall_mem_cons.mpr ⟨hc1, fun _ q => absurd q List.not_mem_nil⟩⟩)
  refine zEv.body (I := (5, xI_X5_tellsPoints, 10, 1, 21, 0, 0, false)) (rt := (some .boolean)) [some (za o), some (zi (i : Int)), some (zi (n : Int)), none, none, none, none, none, none, none] rfl rfl rfl rfl ?_
  refine Zn.eq rfl rfl rfl hh ?_
  have hD : zND ([(o, .inr (5, [za ia, zi he, zi la, zi sz])), (ia, .inl (1, 24, .inl it))]) := hD
  refine Zn.seg (pc2 := 5) (ls2 := [some (za o), some (zi (i : Int)), some (zi (n : Int)), some (zi 0), some (zi 0), none, none, none, none, none]) (st2 := []) [(0, .iconst 0), (1, .istore_n 3), (2, .iconst 0), (3, .istore 4)] (by decide +kernel) rfl ?_
  refine Zn.eq (pc2 := 5) (ls2 := [some (za o), some (zi (i : Int)), some (zi (n : Int)), some (zi (smN (shf2 it i) 0 : Int)), some (zi (0 : Int)), none, none, none, none, none]) (st2 := []) (h2 := zov ([(o, .inr (5, [za ia, zi he, zi la, zi sz])), (ia, .inl (1, 24, .inl it))]) h) rfl rfl rfl (rfl) ?_
  have hD : zND ([(o, .inr (5, [za ia, zi he, zi la, zi sz])), (ia, .inl (1, 24, .inl it))]) := hD
  refine xloop (P := fun i_1 => ∀ j_2 j_3 j_4 j_5 j_6 : Option zV, (∀ j, j < i_1 → -6 ≤ (shf2 it i) j ∧ (shf2 it i) j ≤ 6 ∧ -99 ≤ (shf2 it (i + 1)) j ∧ (shf2 it (i + 1)) j ≤ 99 ∧ bt (smN (shf2 it i) j) ((shf2 it i) j + 6).toNat = 0) → Zn (5, xI_X5_tellsPoints, 10, 1, 21, 0, 0, false) (some .boolean) 5 [some (za o), some (zi (i : Int)), some (zi (n : Int)), some (zi (smN (shf2 it i) i_1 : Int)), some (zi (i_1 : Int)), j_2, j_3, j_4, j_5, j_6] [] (zov ([(o, .inr (5, [za ia, zi he, zi la, zi sz])), (ia, .inl (1, 24, .inl it))]) h) _) (n) (fun i_1 hi_7 ih_8 j_2 j_3 j_4 j_5 j_6 fa_9 => ?_) (fun j_2 j_3 j_4 j_5 j_6 fa_9 => ?_) none none none none none (fun j hj => absurd hj (Nat.not_lt_zero j))
  · have hi_ : i_1 < n := hi_7
    have hsm := smN_b (shf2 it i) i_1
    have hzi := hz i_1 hi_
    have hpw : -6 ≤ (shf2 it i) i_1 → (shf2 it i) i_1 ≤ 6 → 2 ^ ((shf2 it i) i_1 + 6).toNat < 8192 := fun q1 q2 => pw_lt (by omega)
    have hal := and_lt (b := 2 ^ ((shf2 it i) i_1 + 6).toNat) hsm
    have hba := bt_and2 (smN (shf2 it i) i_1) ((shf2 it i) i_1 + 6).toNat
    refine Zn.seg (pc2 := 8) (ls2 := [some (za o), some (zi (i : Int)), some (zi (n : Int)), some (zi (smN (shf2 it i) i_1 : Int)), some (zi (i_1 : Int)), j_2, j_3, j_4, j_5, j_6]) (st2 := [zi (n : Int), zi (i_1 : Int)]) [(5, .iload 4), (7, .iload_n 2)] (by decide +kernel) rfl ?_
    refine Zn.icmp (c := .ge) (off := 97) 105 (by decide +kernel) rfl ⟨by omega, by omega⟩ ⟨by omega, by omega⟩ (fun c_10 => absurd (show (n : Int) ≤ (i_1 : Int) from c_10) (by omega)) (fun c_10 => ?_)
    have c_10 : ¬ ((n : Int) ≤ (i_1 : Int)) := c_10
    refine Zn.seg (pc2 := 18) (ls2 := [some (za o), some (zi (i : Int)), some (zi (n : Int)), some (zi (smN (shf2 it i) i_1 : Int)), some (zi (i_1 : Int)), j_2, j_3, j_4, j_5, j_6]) (st2 := [zi ((i : Int) + (2 * (i_1 : Int))), za o]) [(11, .aload_n 0), (12, .iload_n 1), (13, .iconst 2), (14, .iload 4), (16, .imul), (17, .iadd)] (by decide +kernel) rfl ?_
    refine Zn.call (ins := .invokevirtual 30) [za o, zi ((i : Int) + (2 * (i_1 : Int)))] [] (by decide +kernel) rfl rfl rfl ⟨rfl, rfl⟩ ⟨rfl, rfl, rfl⟩ rfl (zrecvV hD (p := 0) rfl rfl rfl) (sp_X5_at (o := o) (ia := ia) (i := (i + 2 * i_1)) (he := he) (la := la) (sz := sz) (it := it) (zov_get hD 0 rfl) (zov_get hD 1 rfl) (nd_sub hD [0, 1] rfl rfl) (by first | assumption | omega) (by omega)) (fun v h2 hp => ?_)
    obtain ⟨rfl, hq_11⟩ := hp
    refine Zn.eq (pc2 := 21) (ls2 := [some (za o), some (zi (i : Int)), some (zi (n : Int)), some (zi (smN (shf2 it i) i_1 : Int)), some (zi (i_1 : Int)), j_2, j_3, j_4, j_5, j_6]) (st2 := [zj (it (i + 2 * i_1))]) (h2 := zov ([(o, .inr (5, [za ia, zi he, zi la, zi sz])), (ia, .inl (1, 24, .inl it))]) h) rfl rfl rfl hq_11 ?_
    have hD : zND ([(o, .inr (5, [za ia, zi he, zi la, zi sz])), (ia, .inl (1, 24, .inl it))]) := hD
    refine Zn.topj (y := (shf2 it i) i_1) (congrArg zJ (rfl)) ?_
    refine Zn.seg (pc2 := 32) (ls2 := [some (za o), some (zi (i : Int)), some (zi (n : Int)), some (zi (smN (shf2 it i) i_1 : Int)), some (zi (i_1 : Int)), some (zj ((shf2 it i) i_1)), none, j_4, j_5, j_6]) (st2 := [zi ((i : Int) + (2 * (i_1 : Int)) + 1), za o]) [(21, .lstore 5), (23, .aload_n 0), (24, .iload_n 1), (25, .iconst 2), (26, .iload 4), (28, .imul), (29, .iadd), (30, .iconst 1), (31, .iadd)] (by decide +kernel) rfl ?_
    refine Zn.call (ins := .invokevirtual 30) [za o, zi ((i : Int) + (2 * (i_1 : Int)) + 1)] [] (by decide +kernel) rfl rfl rfl ⟨rfl, rfl⟩ ⟨rfl, rfl, rfl⟩ rfl (zrecvV hD (p := 0) rfl rfl rfl) (sp_X5_at (o := o) (ia := ia) (i := (i + 2 * i_1 + 1)) (he := he) (la := la) (sz := sz) (it := it) (zov_get hD 0 rfl) (zov_get hD 1 rfl) (nd_sub hD [0, 1] rfl rfl) (by first | assumption | omega) (by omega)) (fun v h2 hp => ?_)
    obtain ⟨rfl, hq_12⟩ := hp
    refine Zn.eq (pc2 := 35) (ls2 := [some (za o), some (zi (i : Int)), some (zi (n : Int)), some (zi (smN (shf2 it i) i_1 : Int)), some (zi (i_1 : Int)), some (zj ((shf2 it i) i_1)), none, j_4, j_5, j_6]) (st2 := [zj (it (i + 2 * i_1 + 1))]) (h2 := zov ([(o, .inr (5, [za ia, zi he, zi la, zi sz])), (ia, .inl (1, 24, .inl it))]) h) rfl rfl rfl hq_12 ?_
    have hD : zND ([(o, .inr (5, [za ia, zi he, zi la, zi sz])), (ia, .inl (1, 24, .inl it))]) := hD
    refine Zn.topj (y := (shf2 it (i + 1)) i_1) (congrArg zJ (by show it _ = it _; congr 1; omega)) ?_
    refine Zn.seg (pc2 := 42) (ls2 := [some (za o), some (zi (i : Int)), some (zi (n : Int)), some (zi (smN (shf2 it i) i_1 : Int)), some (zi (i_1 : Int)), some (zj ((shf2 it i) i_1)), none, some (zj ((shf2 it (i + 1)) i_1)), none, j_6]) (st2 := [zj (-6), zj ((shf2 it i) i_1)]) [(35, .lstore 7), (37, .lload 5), (39, .ldc2_w 34)] (by decide +kernel) rfl ?_
    refine Zn.lcmpif (c := .lt) (off := (30)) 73 (by decide +kernel) (by decide +kernel) rfl hzi.1 ⟨by decide, by decide⟩ (fun c_13 => ?_) (fun c_13 => ?_)
    · have c_13 : (shf2 it i) i_1 < (-6) := c_13
      refine Zn.seg (pc2 := 74) (ls2 := [some (za o), some (zi (i : Int)), some (zi (n : Int)), some (zi (smN (shf2 it i) i_1 : Int)), some (zi (i_1 : Int)), some (zj ((shf2 it i) i_1)), none, some (zj ((shf2 it (i + 1)) i_1)), none, j_6]) (st2 := [zi 0]) [(73, .iconst 0)] (by decide +kernel) rfl ?_
      exact Zn.bret (by decide +kernel) rfl (by first | decide | omega) (⟨by first | rfl | (refine congrArg some (congrArg zi ?_); first | omega | (simp_all; done) | (simp_all; omega)), hh.symm⟩)
    · have c_13 : ¬ ((shf2 it i) i_1 < (-6)) := c_13
      refine Zn.seg (pc2 := 51) (ls2 := [some (za o), some (zi (i : Int)), some (zi (n : Int)), some (zi (smN (shf2 it i) i_1 : Int)), some (zi (i_1 : Int)), some (zj ((shf2 it i) i_1)), none, some (zj ((shf2 it (i + 1)) i_1)), none, j_6]) (st2 := [zj 6, zj ((shf2 it i) i_1)]) [(46, .lload 5), (48, .ldc2_w 36)] (by decide +kernel) rfl ?_
      refine Zn.lcmpif (c := .gt) (off := (21)) 73 (by decide +kernel) (by decide +kernel) rfl hzi.1 ⟨by decide, by decide⟩ (fun c_14 => ?_) (fun c_14 => ?_)
      · have c_14 : 6 < (shf2 it i) i_1 := c_14
        refine Zn.seg (pc2 := 74) (ls2 := [some (za o), some (zi (i : Int)), some (zi (n : Int)), some (zi (smN (shf2 it i) i_1 : Int)), some (zi (i_1 : Int)), some (zj ((shf2 it i) i_1)), none, some (zj ((shf2 it (i + 1)) i_1)), none, j_6]) (st2 := [zi 0]) [(73, .iconst 0)] (by decide +kernel) rfl ?_
        exact Zn.bret (by decide +kernel) rfl (by first | decide | omega) (⟨by first | rfl | (refine congrArg some (congrArg zi ?_); first | omega | (simp_all; done) | (simp_all; omega)), hh.symm⟩)
      · have c_14 : ¬ (6 < (shf2 it i) i_1) := c_14
        refine Zn.seg (pc2 := 60) (ls2 := [some (za o), some (zi (i : Int)), some (zi (n : Int)), some (zi (smN (shf2 it i) i_1 : Int)), some (zi (i_1 : Int)), some (zj ((shf2 it i) i_1)), none, some (zj ((shf2 it (i + 1)) i_1)), none, j_6]) (st2 := [zj (-99), zj ((shf2 it (i + 1)) i_1)]) [(55, .lload 7), (57, .ldc2_w 38)] (by decide +kernel) rfl ?_
        refine Zn.lcmpif (c := .lt) (off := (12)) 73 (by decide +kernel) (by decide +kernel) rfl hzi.2 ⟨by decide, by decide⟩ (fun c_15 => ?_) (fun c_15 => ?_)
        · have c_15 : (shf2 it (i + 1)) i_1 < (-99) := c_15
          refine Zn.seg (pc2 := 74) (ls2 := [some (za o), some (zi (i : Int)), some (zi (n : Int)), some (zi (smN (shf2 it i) i_1 : Int)), some (zi (i_1 : Int)), some (zj ((shf2 it i) i_1)), none, some (zj ((shf2 it (i + 1)) i_1)), none, j_6]) (st2 := [zi 0]) [(73, .iconst 0)] (by decide +kernel) rfl ?_
          exact Zn.bret (by decide +kernel) rfl (by first | decide | omega) (⟨by first | rfl | (refine congrArg some (congrArg zi ?_); first | omega | (simp_all; done) | (simp_all; omega)), hh.symm⟩)
        · have c_15 : ¬ ((shf2 it (i + 1)) i_1 < (-99)) := c_15
          refine Zn.seg (pc2 := 69) (ls2 := [some (za o), some (zi (i : Int)), some (zi (n : Int)), some (zi (smN (shf2 it i) i_1 : Int)), some (zi (i_1 : Int)), some (zj ((shf2 it i) i_1)), none, some (zj ((shf2 it (i + 1)) i_1)), none, j_6]) (st2 := [zj 99, zj ((shf2 it (i + 1)) i_1)]) [(64, .lload 7), (66, .ldc2_w 40)] (by decide +kernel) rfl ?_
          refine Zn.lcmpif (c := .le) (off := (5)) 75 (by decide +kernel) (by decide +kernel) rfl hzi.2 ⟨by decide, by decide⟩ (fun c_16 => ?_) (fun c_16 => ?_)
          · have c_16 : (shf2 it (i + 1)) i_1 ≤ 99 := c_16
            refine Zn.seg (pc2 := 82) (ls2 := [some (za o), some (zi (i : Int)), some (zi (n : Int)), some (zi (smN (shf2 it i) i_1 : Int)), some (zi (i_1 : Int)), some (zj ((shf2 it i) i_1)), none, some (zj ((shf2 it (i + 1)) i_1)), none, j_6]) (st2 := [zi ((shf2 it i) i_1 + 6), zi 1]) [(75, .iconst 1), (76, .lload 5), (78, .l2i), (79, .bipush 6), (81, .iadd)] (by decide +kernel) rfl ?_
            refine Zn.ishl (((2 ^ ((shf2 it i) i_1 + 6).toNat : Nat) : Int)) (by decide +kernel) (zshl1z (p := ((shf2 it i) i_1 + 6).toNat) (by omega) (by omega)) ?_
            refine Zn.seg (pc2 := 88) (ls2 := [some (za o), some (zi (i : Int)), some (zi (n : Int)), some (zi (smN (shf2 it i) i_1 : Int)), some (zi (i_1 : Int)), some (zj ((shf2 it i) i_1)), none, some (zj ((shf2 it (i + 1)) i_1)), none, some (zi ((2 ^ ((shf2 it i) i_1 + 6).toNat : Nat) : Int))]) (st2 := [zi ((2 ^ ((shf2 it i) i_1 + 6).toNat : Nat) : Int), zi (smN (shf2 it i) i_1 : Int)]) [(83, .istore 9), (85, .iload_n 3), (86, .iload 9)] (by decide +kernel) rfl ?_
            refine Zn.iand ((((smN (shf2 it i) i_1) &&& (2 ^ ((shf2 it i) i_1 + 6).toNat) : Nat) : Int)) (by decide +kernel) (zand (by omega) (by omega)) ?_
            refine Zn.ifc (c := .eq) (off := 5) 94 (by decide +kernel) rfl ⟨by omega, by omega⟩ (fun c_17 => ?_) (fun c_17 => ?_)
            · have c_17 : (((smN (shf2 it i) i_1) &&& (2 ^ ((shf2 it i) i_1 + 6).toNat) : Nat) : Int) = 0 := c_17
              refine Zn.seg (pc2 := 97) (ls2 := [some (za o), some (zi (i : Int)), some (zi (n : Int)), some (zi (smN (shf2 it i) i_1 : Int)), some (zi (i_1 : Int)), some (zj ((shf2 it i) i_1)), none, some (zj ((shf2 it (i + 1)) i_1)), none, some (zi ((2 ^ ((shf2 it i) i_1 + 6).toNat : Nat) : Int))]) (st2 := [zi ((2 ^ ((shf2 it i) i_1 + 6).toNat : Nat) : Int), zi (smN (shf2 it i) i_1 : Int)]) [(94, .iload_n 3), (95, .iload 9)] (by decide +kernel) rfl ?_
              refine Zn.ior ((((smN (shf2 it i) i_1) ||| (2 ^ ((shf2 it i) i_1 + 6).toNat) : Nat) : Int)) (by decide +kernel) (zor (by omega) (by omega)) ?_
              refine Zn.seg (pc2 := 5) (ls2 := [some (za o), some (zi (i : Int)), some (zi (n : Int)), some (zi (((smN (shf2 it i) i_1) ||| (2 ^ ((shf2 it i) i_1 + 6).toNat) : Nat) : Int)), some (zi ((i_1 : Int) + 1)), some (zj ((shf2 it i) i_1)), none, some (zj ((shf2 it (i + 1)) i_1)), none, some (zi ((2 ^ ((shf2 it i) i_1 + 6).toNat : Nat) : Int))]) (st2 := []) [(98, .istore_n 3), (99, .iinc 4 1), (102, .goto (-97))] (by decide +kernel) rfl ?_
              exact Zn.eq rfl (zcons rfl (zcons rfl (zcons rfl (zcons (congrArg (fun z => some (zi z)) (by rw [smN, Nat.mod_eq_of_lt (hpw (by omega) (by omega))])) (zcons (congrArg (fun z => some (zi z)) (by omega)) rfl))))) rfl (rfl) (ih_8 (some (zj ((shf2 it i) i_1))) none (some (zj ((shf2 it (i + 1)) i_1))) none (some (zi ((2 ^ ((shf2 it i) i_1 + 6).toNat : Nat) : Int))) (ball_s fa_9 (by omega)))
            · have c_17 : ¬ ((((smN (shf2 it i) i_1) &&& (2 ^ ((shf2 it i) i_1 + 6).toNat) : Nat) : Int) = 0) := c_17
              refine Zn.seg (pc2 := 93) (ls2 := [some (za o), some (zi (i : Int)), some (zi (n : Int)), some (zi (smN (shf2 it i) i_1 : Int)), some (zi (i_1 : Int)), some (zj ((shf2 it i) i_1)), none, some (zj ((shf2 it (i + 1)) i_1)), none, some (zi ((2 ^ ((shf2 it i) i_1 + 6).toNat : Nat) : Int))]) (st2 := [zi 0]) [(92, .iconst 0)] (by decide +kernel) rfl ?_
              exact Zn.bret (by decide +kernel) rfl (by first | decide | omega) (⟨by first | rfl | (refine congrArg some (congrArg zi ?_); first | omega | (simp_all; done) | (simp_all; omega)), hh.symm⟩)
          · have c_16 : ¬ ((shf2 it (i + 1)) i_1 ≤ 99) := c_16
            refine Zn.seg (pc2 := 74) (ls2 := [some (za o), some (zi (i : Int)), some (zi (n : Int)), some (zi (smN (shf2 it i) i_1 : Int)), some (zi (i_1 : Int)), some (zj ((shf2 it i) i_1)), none, some (zj ((shf2 it (i + 1)) i_1)), none, j_6]) (st2 := [zi 0]) [(73, .iconst 0)] (by decide +kernel) rfl ?_
            exact Zn.bret (by decide +kernel) rfl (by first | decide | omega) (⟨by first | rfl | (refine congrArg some (congrArg zi ?_); first | omega | (simp_all; done) | (simp_all; omega)), hh.symm⟩)
  · skip
    obtain ⟨j_, hj1, hj2⟩ := hbad
    exact absurd (fa_9 j_ hj1) hj2
