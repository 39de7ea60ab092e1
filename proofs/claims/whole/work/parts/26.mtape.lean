/-! the reference's tape -/
def skF (T : Nat → Int) (L : Nat) : Nat → Nat → Nat
  | 0, a => a
  | n + 1, a => if a < L ∧ T a = 32 then skF T L n (a + 1) else a
/-- behind blanks -/
def sk (T : Nat → Int) (L a : Nat) : Nat := skF T L (L - a) a
theorem sk_b {T : Nat → Int} {L a : Nat} (h : a < L) (hb : T a = 32) : sk T L a = sk T L (a + 1) := by
  unfold sk
  rw [show L - a = L - (a + 1) + 1 from by omega, skF, if_pos ⟨h, hb⟩]
theorem sk_n {T : Nat → Int} {L a : Nat} (h : ¬ (a < L ∧ T a = 32)) : sk T L a = a := by
  unfold sk
  cases L - a with
  | zero => rfl
  | succ n => rw [skF, if_neg h]
theorem skF_r {T : Nat → Int} {L : Nat} : ∀ n a, a + n = L → a ≤ skF T L n a ∧ skF T L n a ≤ L ∧ ¬ (skF T L n a < L ∧ T (skF T L n a) = 32)
  | 0, a, h => ⟨Nat.le_refl _, by rw [skF]; omega, by rw [skF]; omega⟩
  | n + 1, a, h => by
    rw [skF]
    split
    · have := skF_r (T := T) (L := L) n (a + 1) (by omega)
      exact ⟨by omega, this.2.1, this.2.2⟩
    · exact ⟨Nat.le_refl _, by omega, by assumption⟩
theorem sk_r {T : Nat → Int} {L a : Nat} (h : a ≤ L) : a ≤ sk T L a ∧ sk T L a ≤ L ∧ ¬ (sk T L a < L ∧ T (sk T L a) = 32) := skF_r (L - a) a (by omega)
/-- the letter at a place; 0: the end -/
def cur (T : Nat → Int) (L a : Nat) : Int := if a < L then T a else 0
theorem cur_b {T : Nat → Int} {L : Nat} (hT : ∀ j, j < L → 32 ≤ T j ∧ T j ≤ 126) (a : Nat) : (a < L ∧ cur T L a = T a ∧ 32 ≤ cur T L a ∧ cur T L a ≤ 126) ∨ (¬ a < L ∧ cur T L a = 0) := by
  unfold cur
  split
  · have := hT a (by assumption)
    exact Or.inl ⟨by assumption, rfl, this.1, this.2⟩
  · exact Or.inr ⟨by assumption, rfl⟩
def tkV (T : Nat → Int) (L a : Nat) (c : Int) : Int := if cur T L (sk T L a) = c then 1 else 0
def tkA (T : Nat → Int) (L a : Nat) (c : Int) : Nat := if cur T L (sk T L a) = c then sk T L a + 1 else sk T L a
theorem sp_X8_letter {h : xH} {A : Nat → Nat} {m : Nat → Int} {r : Nat → Nat → Int} {L a : Nat} (hL : ∀ q ∈ LM A m r, h q.1 = zcE q.2) (hD : zND (LM A m r)) (hm5 : m 5 = (L : Int)) (hL9 : L ≤ 90) (hm9 : m 9 = (a : Int)) (haL : a ≤ L) (hT : ∀ j, j < L → 32 ≤ r 3 j ∧ r 3 j ≤ 126) : zEv k_X8_letter [za (A 0)] h (fun v h2 => v = some (zi (cur (r 3) L (sk (r 3) L a))) ∧ h2 = zov (LM A (va_up m 9 ((sk (r 3) L a) : Int)) r) h) := by
  have hh : h = zov (LM A m r) h := zov_self hL
  refine zEv.body (I := (8, xI_X8_letter, 1, 0, 0, 0, 0, false)) (rt := (some .int)) [some (za (A 0))] rfl rfl rfl rfl ?_
  refine Zn.eq rfl rfl rfl hh ?_
  have hD : zND (LM A m r) := hD
  refine Zn.eq (pc2 := 0) (ls2 := [some (za (A 0))]) (st2 := []) (h2 := zov (LM A (va_up m 9 ((a + 0 : Nat) : Int)) r) h) rfl rfl rfl (by rw [show a + 0 = a from rfl, va_eta m 9 hm9.symm]) ?_
  have hD : zND (LM A (va_up m 9 ((a + 0 : Nat) : Int)) r) := hD
  refine xloop (P := fun i_1 => (sk (r 3) L (a + i_1) = sk (r 3) L a ∧ a + i_1 ≤ L) → Zn (8, xI_X8_letter, 1, 0, 0, 0, 0, false) (some .int) 0 [some (za (A 0))] [] (zov (LM A (va_up m 9 ((a + i_1 : Nat) : Int)) r) h) _) ((L - a + 1)) (fun i_1 hi_2 ih_3 fa_4 => ?_) (fun fa_4 => ?_) (⟨rfl, haL⟩)
  · have hi_ : i_1 < (L - a + 1) := hi_2
    have hfa_ := fa_4
    have hTa := hT (a + i_1)
    refine Zn.seg (pc2 := 1) (ls2 := [some (za (A 0))]) (st2 := [za (A 0)]) [(0, .aload_n 0)] (by decide +kernel) rfl ?_
    refine Zn.get (ix := 142) hD 0 (by decide +kernel) rfl rfl rfl ?_
    refine Zn.eq (st2 := [zi ((a + i_1 : Nat) : Int)]) rfl rfl rfl rfl ?_
    refine Zn.seg (pc2 := 5) (ls2 := [some (za (A 0))]) (st2 := [za (A 0), zi ((a + i_1 : Nat) : Int)]) [(4, .aload_n 0)] (by decide +kernel) rfl ?_
    refine Zn.get (ix := 139) hD 0 (by decide +kernel) rfl rfl rfl ?_
    refine Zn.eq (st2 := [zi (m 5), zi ((a + i_1 : Nat) : Int)]) rfl rfl rfl rfl ?_
    refine Zn.topi (y := (L : Int)) (hm5) ?_
    refine Zn.icmp (c := .ge) (off := 30) 38 (by decide +kernel) rfl ⟨by omega, by omega⟩ ⟨by omega, by omega⟩ (fun c_5 => ?_) (fun c_5 => ?_)
    · have c_5 : (L : Int) ≤ ((a + i_1 : Nat) : Int) := c_5
      refine Zn.seg (pc2 := 39) (ls2 := [some (za (A 0))]) (st2 := [za (A 0)]) [(38, .aload_n 0)] (by decide +kernel) rfl ?_
      refine Zn.get (ix := 142) hD 0 (by decide +kernel) rfl rfl rfl ?_
      refine Zn.eq (st2 := [zi ((a + i_1 : Nat) : Int)]) rfl rfl rfl rfl ?_
      refine Zn.seg (pc2 := 43) (ls2 := [some (za (A 0))]) (st2 := [za (A 0), zi ((a + i_1 : Nat) : Int)]) [(42, .aload_n 0)] (by decide +kernel) rfl ?_
      refine Zn.get (ix := 139) hD 0 (by decide +kernel) rfl rfl rfl ?_
      refine Zn.eq (st2 := [zi (m 5), zi ((a + i_1 : Nat) : Int)]) rfl rfl rfl rfl ?_
      refine Zn.topi (y := (L : Int)) (hm5) ?_
      refine Zn.icmp (c := .ge) (off := 15) 61 (by decide +kernel) rfl ⟨by omega, by omega⟩ ⟨by omega, by omega⟩ (fun c_6 => ?_) (fun c_6 => ?_)
      · have c_6 : (L : Int) ≤ ((a + i_1 : Nat) : Int) := c_6
        refine Zn.seg (pc2 := 62) (ls2 := [some (za (A 0))]) (st2 := [zi 0]) [(61, .iconst 0)] (by decide +kernel) rfl ?_
        exact Zn.iret (by decide +kernel) rfl (⟨by refine congrArg some (congrArg zi ?_); first | (exfalso; omega) | (rw [← hfa_.1, sk_n (by omega), cur]; first | rw [if_pos (by omega)] | rw [if_neg (by omega)]), by first | (exfalso; omega) | rw [← hfa_.1, sk_n (by omega)]⟩)
      · have c_6 : ¬ ((L : Int) ≤ ((a + i_1 : Nat) : Int)) := c_6
        refine Zn.seg (pc2 := 50) (ls2 := [some (za (A 0))]) (st2 := [za (A 0)]) [(49, .aload_n 0)] (by decide +kernel) rfl ?_
        refine Zn.get (ix := 20) hD 0 (by decide +kernel) rfl rfl rfl ?_
        refine Zn.seg (pc2 := 54) (ls2 := [some (za (A 0))]) (st2 := [za (A 0), za (A 3)]) [(53, .aload_n 0)] (by decide +kernel) rfl ?_
        refine Zn.get (ix := 142) hD 0 (by decide +kernel) rfl rfl rfl ?_
        refine Zn.eq (st2 := [zi ((a + i_1 : Nat) : Int), za (A 3)]) rfl rfl rfl rfl ?_
        refine Zn.iald hD 3 ((a + i_1)) (by decide +kernel) rfl (by omega) (by omega) rfl ?_
        refine Zn.seg (pc2 := 62) (ls2 := [some (za (A 0))]) (st2 := [zi ((r 3) (a + i_1))]) [(58, .goto 4)] (by decide +kernel) rfl ?_
        exact Zn.iret (by decide +kernel) rfl (⟨by refine congrArg some (congrArg zi ?_); first | (exfalso; omega) | (rw [← hfa_.1, sk_n (by omega), cur]; first | rw [if_pos (by omega)] | rw [if_neg (by omega)]), by first | (exfalso; omega) | rw [← hfa_.1, sk_n (by omega)]⟩)
    · have c_5 : ¬ ((L : Int) ≤ ((a + i_1 : Nat) : Int)) := c_5
      refine Zn.seg (pc2 := 12) (ls2 := [some (za (A 0))]) (st2 := [za (A 0)]) [(11, .aload_n 0)] (by decide +kernel) rfl ?_
      refine Zn.get (ix := 20) hD 0 (by decide +kernel) rfl rfl rfl ?_
      refine Zn.seg (pc2 := 16) (ls2 := [some (za (A 0))]) (st2 := [za (A 0), za (A 3)]) [(15, .aload_n 0)] (by decide +kernel) rfl ?_
      refine Zn.get (ix := 142) hD 0 (by decide +kernel) rfl rfl rfl ?_
      refine Zn.eq (st2 := [zi ((a + i_1 : Nat) : Int), za (A 3)]) rfl rfl rfl rfl ?_
      refine Zn.iald hD 3 ((a + i_1)) (by decide +kernel) rfl (by omega) (by omega) rfl ?_
      refine Zn.seg (pc2 := 22) (ls2 := [some (za (A 0))]) (st2 := [zi 32, zi ((r 3) (a + i_1))]) [(20, .bipush 32)] (by decide +kernel) rfl ?_
      refine Zn.icmp (c := .ne) (off := 16) 38 (by decide +kernel) rfl ⟨by omega, by omega⟩ ⟨by decide, by decide⟩ (fun c_7 => ?_) (fun c_7 => ?_)
      · have c_7 : (r 3) (a + i_1) ≠ 32 := c_7
        refine Zn.seg (pc2 := 39) (ls2 := [some (za (A 0))]) (st2 := [za (A 0)]) [(38, .aload_n 0)] (by decide +kernel) rfl ?_
        refine Zn.get (ix := 142) hD 0 (by decide +kernel) rfl rfl rfl ?_
        refine Zn.eq (st2 := [zi ((a + i_1 : Nat) : Int)]) rfl rfl rfl rfl ?_
        refine Zn.seg (pc2 := 43) (ls2 := [some (za (A 0))]) (st2 := [za (A 0), zi ((a + i_1 : Nat) : Int)]) [(42, .aload_n 0)] (by decide +kernel) rfl ?_
        refine Zn.get (ix := 139) hD 0 (by decide +kernel) rfl rfl rfl ?_
        refine Zn.eq (st2 := [zi (m 5), zi ((a + i_1 : Nat) : Int)]) rfl rfl rfl rfl ?_
        refine Zn.topi (y := (L : Int)) (hm5) ?_
        refine Zn.icmp (c := .ge) (off := 15) 61 (by decide +kernel) rfl ⟨by omega, by omega⟩ ⟨by omega, by omega⟩ (fun c_8 => ?_) (fun c_8 => ?_)
        · have c_8 : (L : Int) ≤ ((a + i_1 : Nat) : Int) := c_8
          refine Zn.seg (pc2 := 62) (ls2 := [some (za (A 0))]) (st2 := [zi 0]) [(61, .iconst 0)] (by decide +kernel) rfl ?_
          exact Zn.iret (by decide +kernel) rfl (⟨by refine congrArg some (congrArg zi ?_); first | (exfalso; omega) | (rw [← hfa_.1, sk_n (by omega), cur]; first | rw [if_pos (by omega)] | rw [if_neg (by omega)]), by first | (exfalso; omega) | rw [← hfa_.1, sk_n (by omega)]⟩)
        · have c_8 : ¬ ((L : Int) ≤ ((a + i_1 : Nat) : Int)) := c_8
          refine Zn.seg (pc2 := 50) (ls2 := [some (za (A 0))]) (st2 := [za (A 0)]) [(49, .aload_n 0)] (by decide +kernel) rfl ?_
          refine Zn.get (ix := 20) hD 0 (by decide +kernel) rfl rfl rfl ?_
          refine Zn.seg (pc2 := 54) (ls2 := [some (za (A 0))]) (st2 := [za (A 0), za (A 3)]) [(53, .aload_n 0)] (by decide +kernel) rfl ?_
          refine Zn.get (ix := 142) hD 0 (by decide +kernel) rfl rfl rfl ?_
          refine Zn.eq (st2 := [zi ((a + i_1 : Nat) : Int), za (A 3)]) rfl rfl rfl rfl ?_
          refine Zn.iald hD 3 ((a + i_1)) (by decide +kernel) rfl (by omega) (by omega) rfl ?_
          refine Zn.seg (pc2 := 62) (ls2 := [some (za (A 0))]) (st2 := [zi ((r 3) (a + i_1))]) [(58, .goto 4)] (by decide +kernel) rfl ?_
          exact Zn.iret (by decide +kernel) rfl (⟨by refine congrArg some (congrArg zi ?_); first | (exfalso; omega) | (rw [← hfa_.1, sk_n (by omega), cur]; first | rw [if_pos (by omega)] | rw [if_neg (by omega)]), by first | (exfalso; omega) | rw [← hfa_.1, sk_n (by omega)]⟩)
      · have c_7 : ¬ ((r 3) (a + i_1) ≠ 32) := c_7
        refine Zn.seg (pc2 := 27) (ls2 := [some (za (A 0))]) (st2 := [za (A 0), za (A 0)]) [(25, .aload_n 0), (26, .dup)] (by decide +kernel) rfl ?_
        refine Zn.get (ix := 142) hD 0 (by decide +kernel) rfl rfl rfl ?_
        refine Zn.eq (st2 := [zi ((a + i_1 : Nat) : Int), za (A 0)]) rfl rfl rfl rfl ?_
        refine Zn.seg (pc2 := 32) (ls2 := [some (za (A 0))]) (st2 := [zi (((a + i_1 : Nat) : Int) + 1), za (A 0)]) [(30, .iconst 1), (31, .iadd)] (by decide +kernel) rfl ?_
        refine Zn.put (ix := 142) hD 0 (by decide +kernel) rfl rfl rfl rfl rfl ?_
        refine Zn.eq (h2 := zov (LM A (va_up m 9 (((a + i_1 : Nat) : Int) + 1)) r) h) rfl rfl rfl rfl ?_
        have hD : zND (LM A (va_up m 9 (((a + i_1 : Nat) : Int) + 1)) r) := hD
        refine Zn.seg (pc2 := 0) (ls2 := [some (za (A 0))]) (st2 := []) [(35, .goto (-35))] (by decide +kernel) rfl ?_
        exact Zn.eq rfl rfl rfl (by rw [show a + (i_1 + 1) = a + i_1 + 1 from rfl, Int.natCast_add (a + i_1) 1]; rfl) (ih_3 (⟨(sk_b (a := a + i_1) (by omega) (by omega)).symm.trans fa_4.1, by omega⟩))
  · exact absurd (show False from by (have := fa_4.2; omega)) (fun q_ => q_)
theorem sp_X8_takes {h : xH} {A : Nat → Nat} {m : Nat → Int} {r : Nat → Nat → Int} {x : Int} {L a : Nat} (hL : ∀ q ∈ LM A m r, h q.1 = zcE q.2) (hD : zND (LM A m r)) (hm5 : m 5 = (L : Int)) (hL9 : L ≤ 90) (hm9 : m 9 = (a : Int)) (haL : a ≤ L) (hT : ∀ j, j < L → 32 ≤ r 3 j ∧ r 3 j ≤ 126) (hx : -1000 ≤ x ∧ x ≤ 1000) : zEv k_X8_takes [za (A 0), zi x] h (fun v h2 => v = some (zi (tkV (r 3) L a x)) ∧ h2 = zov (LM A (va_up m 9 (tkA (r 3) L a x : Int)) r) h) := by
  have hh : h = zov (LM A m r) h := zov_self hL
  refine zEv.body (I := (8, xI_X8_takes, 3, 1, 20, 0, 0, false)) (rt := (some .boolean)) [some (za (A 0)), some (zi x), none] rfl rfl rfl rfl ?_
  refine Zn.eq rfl rfl rfl hh ?_
  have hD : zND (LM A m r) := hD
  refine Zn.seg (pc2 := 1) (ls2 := [some (za (A 0)), some (zi x), none]) (st2 := [za (A 0)]) [(0, .aload_n 0)] (by decide +kernel) rfl ?_
  refine Zn.call (ins := .invokevirtual 145) [za (A 0)] [] (by decide +kernel) rfl rfl rfl ⟨rfl, rfl⟩ ⟨rfl, rfl, rfl⟩ rfl (zrecvV hD (p := 0) rfl rfl rfl) (sp_X8_letter (A := A) (m := m) (r := r) (L := L) (a := a) (zov_all hD) hD (by first | rfl | exact hm5) (hL9) (by first | rfl | exact hm9) (by first | assumption | omega) (hT)) (fun v h2 hp => ?_)
  obtain ⟨rfl, hq_1⟩ := hp
  refine Zn.eq (pc2 := 4) (ls2 := [some (za (A 0)), some (zi x), none]) (st2 := [zi (cur (r 3) L (sk (r 3) L a))]) (h2 := zov (LM A (va_up m 9 ((sk (r 3) L a) : Int)) r) h) rfl rfl rfl (hq_1.trans (LM_over _ _ _ _ _ _)) ?_
  have hD : zND (LM A (va_up m 9 ((sk (r 3) L a) : Int)) r) := hD
  have hsk := sk_r (T := r 3) haL
  have hcb := cur_b hT (sk (r 3) L a)
  refine Zn.seg (pc2 := 5) (ls2 := [some (za (A 0)), some (zi x), none]) (st2 := [zi x, zi (cur (r 3) L (sk (r 3) L a))]) [(4, .iload_n 1)] (by decide +kernel) rfl ?_
  refine Zn.icmp (c := .ne) (off := 7) 12 (by decide +kernel) rfl ⟨by omega, by omega⟩ ⟨by omega, by omega⟩ (fun c_2 => ?_) (fun c_2 => ?_)
  · have c_2 : cur (r 3) L (sk (r 3) L a) ≠ x := c_2
    refine Zn.seg (pc2 := 16) (ls2 := [some (za (A 0)), some (zi x), some (zi 0)]) (st2 := [za (A 0), za (A 0)]) [(12, .iconst 0), (13, .istore_n 2), (14, .aload_n 0), (15, .dup)] (by decide +kernel) rfl ?_
    refine Zn.get (ix := 142) hD 0 (by decide +kernel) rfl rfl rfl ?_
    refine Zn.eq (st2 := [zi ((sk (r 3) L a) : Int), za (A 0)]) rfl rfl rfl rfl ?_
    refine Zn.seg (pc2 := 20) (ls2 := [some (za (A 0)), some (zi x), some (zi 0)]) (st2 := [zi 0, zi ((sk (r 3) L a) : Int), za (A 0)]) [(19, .iload_n 2)] (by decide +kernel) rfl ?_
    refine Zn.ifc (c := .eq) (off := 7) 27 (by decide +kernel) rfl ⟨by decide, by decide⟩ (fun c_3 => ?_) (fun c_3 => absurd (show (0 : Int) = 0 from by decide) c_3)
    have c_3 : (0 : Int) = 0 := c_3
    refine Zn.seg (pc2 := 29) (ls2 := [some (za (A 0)), some (zi x), some (zi 0)]) (st2 := [zi (((sk (r 3) L a) : Int) + 0), za (A 0)]) [(27, .iconst 0), (28, .iadd)] (by decide +kernel) rfl ?_
    refine Zn.put (ix := 142) hD 0 (by decide +kernel) rfl rfl rfl rfl rfl ?_
    refine Zn.eq (h2 := zov (LM A (va_up m 9 (((sk (r 3) L a) : Int) + 0)) r) h) rfl rfl rfl rfl ?_
    have hD : zND (LM A (va_up m 9 (((sk (r 3) L a) : Int) + 0)) r) := hD
    refine Zn.seg (pc2 := 33) (ls2 := [some (za (A 0)), some (zi x), some (zi 0)]) (st2 := [zi 0]) [(32, .iload_n 2)] (by decide +kernel) rfl ?_
    exact Zn.bret (by decide +kernel) rfl (by first | decide | omega) (⟨by refine congrArg some (congrArg zi ?_); rw [tkV]; first | rw [if_pos (by omega)] | rw [if_neg (by omega)], by rw [tkA]; first | (rw [if_pos (by omega)]; rfl) | (rw [if_neg (by omega)]; simp)⟩)
  · have c_2 : ¬ (cur (r 3) L (sk (r 3) L a) ≠ x) := c_2
    refine Zn.seg (pc2 := 16) (ls2 := [some (za (A 0)), some (zi x), some (zi 1)]) (st2 := [za (A 0), za (A 0)]) [(8, .iconst 1), (9, .goto 4), (13, .istore_n 2), (14, .aload_n 0), (15, .dup)] (by decide +kernel) rfl ?_
    refine Zn.get (ix := 142) hD 0 (by decide +kernel) rfl rfl rfl ?_
    refine Zn.eq (st2 := [zi ((sk (r 3) L a) : Int), za (A 0)]) rfl rfl rfl rfl ?_
    refine Zn.seg (pc2 := 20) (ls2 := [some (za (A 0)), some (zi x), some (zi 1)]) (st2 := [zi 1, zi ((sk (r 3) L a) : Int), za (A 0)]) [(19, .iload_n 2)] (by decide +kernel) rfl ?_
    refine Zn.ifc (c := .eq) (off := 7) 27 (by decide +kernel) rfl ⟨by decide, by decide⟩ (fun c_4 => absurd (show (1 : Int) = 0 from c_4) (by decide)) (fun c_4 => ?_)
    have c_4 : ¬ ((1 : Int) = 0) := c_4
    refine Zn.seg (pc2 := 29) (ls2 := [some (za (A 0)), some (zi x), some (zi 1)]) (st2 := [zi (((sk (r 3) L a) : Int) + 1), za (A 0)]) [(23, .iconst 1), (24, .goto 4), (28, .iadd)] (by decide +kernel) rfl ?_
    refine Zn.put (ix := 142) hD 0 (by decide +kernel) rfl rfl rfl rfl rfl ?_
    refine Zn.eq (h2 := zov (LM A (va_up m 9 (((sk (r 3) L a) : Int) + 1)) r) h) rfl rfl rfl rfl ?_
    have hD : zND (LM A (va_up m 9 (((sk (r 3) L a) : Int) + 1)) r) := hD
    refine Zn.seg (pc2 := 33) (ls2 := [some (za (A 0)), some (zi x), some (zi 1)]) (st2 := [zi 1]) [(32, .iload_n 2)] (by decide +kernel) rfl ?_
    exact Zn.bret (by decide +kernel) rfl (by first | decide | omega) (⟨by refine congrArg some (congrArg zi ?_); rw [tkV]; first | rw [if_pos (by omega)] | rw [if_neg (by omega)], by rw [tkA]; first | (rw [if_pos (by omega)]; rfl) | (rw [if_neg (by omega)]; simp)⟩)
theorem sp_X8_isFigure {h : xH} {x : Int} (hx : zInI x) : zEv k_X8_isFigure [zi x] h (fun v h2 => v = some (zi (inB 48 57 x)) ∧ h2 = h) := by
  have hD : ([] : List Nat).Nodup := List.nodup_nil
  have hh : h = zov [] h := zov_self (fun _ q => absurd q List.not_mem_nil)
  have hx1 := hx.1
  have hx2 := hx.2
  refine zEv.body (I := (8, xI_X8_isFigure, 1, 1, 25, 0, 0, false)) (rt := (some .boolean)) [some (zi x)] rfl rfl rfl rfl ?_
  refine Zn.eq rfl rfl rfl hh ?_
  have hD : zND ([]) := hD
  refine Zn.seg (pc2 := 1) (ls2 := [some (zi x)]) (st2 := [zi x]) [(0, .iload_n 0)] (by decide +kernel) rfl ?_
  refine Zn.i2l (by decide +kernel) ⟨by omega, by omega⟩ ?_
  refine Zn.seg (pc2 := 8) (ls2 := [some (zi x)]) (st2 := [zj 57, zj 48, zj x]) [(2, .ldc2_w 148), (5, .ldc2_w 150)] (by decide +kernel) rfl ?_
  refine Zn.call (ins := .invokestatic 77) [zj x, zj 48, zj 57] [] (by decide +kernel) rfl rfl rfl ⟨rfl, rfl⟩ ⟨rfl, rfl, rfl⟩ rfl (zrecvS (by decide)) (sp_X8_in (x := x) (lo := 48) (hi := 57) (⟨by have := hx.1; omega, by have := hx.2; omega⟩) (⟨by decide, by decide⟩) (⟨by decide, by decide⟩)) (fun v h2 hp => ?_)
  obtain ⟨rfl, hq_1⟩ := hp
  refine Zn.eq (pc2 := 11) (ls2 := [some (zi x)]) (st2 := [zi (inB 48 57 x)]) (h2 := zov ([]) h) rfl rfl rfl hq_1 ?_
  have hD : zND ([]) := hD
  have q_2 := inB_spec 48 57 x
  exact Zn.bret (by decide +kernel) rfl (by first | decide | omega) (⟨by first | rfl | (refine congrArg some (congrArg zi ?_); first | omega | (simp_all; done) | (simp_all; omega)), hh.symm⟩)
