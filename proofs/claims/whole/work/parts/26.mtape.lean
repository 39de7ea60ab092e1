/-! the reference's tape -/
def skF (T : Nat → Int) (L : Nat) : Nat → Nat → Nat
  | 0, a => a
  | n + 1, a => if a < L ∧ T a = 32 then skF T L n (a + 1) else a
/-- behind blanks -/
def sk (T : Nat → Int) (L a : Nat) : Nat := skF T L (L - a) a
theorem sk_b {T : Nat → Int} {L a : Nat} (h : a < L) (hb : T a = 32) : sk T L a = sk T L (a + 1) := by
  unfold sk
  rw [show L - a = L - (a + 1) + 1 from by omega, skF, if_pos ⟨h, hb⟩]
theorem sk_n {T : Nat → Int} {L a : Nat} (h : ¬ (a < L ∧ T a = 32)) : sk T L a = a := by
  unfold sk
  cases L - a with
  | zero => rfl
  | succ n => rw [skF, if_neg h]
theorem skF_r {T : Nat → Int} {L : Nat} : ∀ n a, a + n = L → a ≤ skF T L n a ∧ skF T L n a ≤ L ∧ ¬ (skF T L n a < L ∧ T (skF T L n a) = 32)
  | 0, a, h => ⟨Nat.le_refl _, by rw [skF]; omega, by rw [skF]; omega⟩
  | n + 1, a, h => by
    rw [skF]
    split
    · have := skF_r (T := T) (L := L) n (a + 1) (by omega)
      exact ⟨by omega, this.2.1, this.2.2⟩
    · exact ⟨Nat.le_refl _, by omega, by assumption⟩
theorem sk_r {T : Nat → Int} {L a : Nat} (h : a ≤ L) : a ≤ sk T L a ∧ sk T L a ≤ L ∧ ¬ (sk T L a < L ∧ T (sk T L a) = 32) := skF_r (L - a) a (by omega)
/-- the letter at a place; 0: the end -/
def cur (T : Nat → Int) (L a : Nat) : Int := if a < L then T a else 0
theorem cur_b {T : Nat → Int} {L : Nat} (hT : ∀ j, j < L → 32 ≤ T j ∧ T j ≤ 126) (a : Nat) : (a < L ∧ cur T L a = T a ∧ 32 ≤ cur T L a ∧ cur T L a ≤ 126) ∨ (¬ a < L ∧ cur T L a = 0) := by
  unfold cur
  split
  · have := hT a (by assumption)
    exact Or.inl ⟨by assumption, rfl, this.1, this.2⟩
  · exact Or.inr ⟨by assumption, rfl⟩
def tkV (T : Nat → Int) (L a : Nat) (c : Int) : Int := if cur T L (sk T L a) = c then 1 else 0
def tkA (T : Nat → Int) (L a : Nat) (c : Int) : Nat := if cur T L (sk T L a) = c then sk T L a + 1 else sk T L a
theorem tk_c (T : Nat → Int) (L a : Nat) (c : Int) : (cur T L (sk T L a) = c ∧ tkV T L a c = 1 ∧ tkA T L a c = sk T L a + 1) ∨ (cur T L (sk T L a) ≠ c ∧ tkV T L a c = 0 ∧ tkA T L a c = sk T L a) := by
  unfold tkV tkA
  split
  · exact Or.inl ⟨by assumption, rfl, rfl⟩
  · exact Or.inr ⟨by assumption, rfl, rfl⟩
/-- a number: where its figures begin, whether it is below 0, where it ends, what it is -/
def n1A (T : Nat → Int) (L a : Nat) : Nat := if cur T L (sk T L a) = 45 then sk T L (sk T L a + 1) else sk T L a
def ngV (T : Nat → Int) (L a : Nat) : Int := if cur T L (sk T L a) = 45 then 1 else 0
theorem n1_m {T : Nat → Int} {L a : Nat} (h : cur T L (sk T L a) = 45) : n1A T L a = sk T L (sk T L a + 1) := if_pos h
theorem n1_p {T : Nat → Int} {L a : Nat} (h : ¬ cur T L (sk T L a) = 45) : n1A T L a = sk T L a := if_neg h
theorem ngV_c (T : Nat → Int) (L a : Nat) : (ngV T L a = 1 ∧ cur T L (sk T L a) = 45) ∨ (ngV T L a = 0 ∧ cur T L (sk T L a) ≠ 45) := by
  unfold ngV
  split
  · exact Or.inl ⟨rfl, by assumption⟩
  · exact Or.inr ⟨rfl, by assumption⟩
theorem n1_r {T : Nat → Int} {L a : Nat} (hT : ∀ j, j < L → 32 ≤ T j ∧ T j ≤ 126) (h : a ≤ L) : a ≤ n1A T L a ∧ n1A T L a ≤ L ∧ ¬ (n1A T L a < L ∧ T (n1A T L a) = 32) := by
  have h1 := sk_r (T := T) h
  have hc := cur_b hT (sk T L a)
  unfold n1A
  split
  · have h2 := sk_r (T := T) (show sk T L a + 1 ≤ L by omega)
    exact ⟨by omega, h2.2⟩
  · exact h1
def nWV (T : Nat → Int) (L a : Nat) : Int := if 48 ≤ cur T L (n1A T L a + 1) ∧ cur T L (n1A T L a + 1) ≤ 57 then 10 * (cur T L (n1A T L a) - 48) + cur T L (n1A T L a + 1) - 48 else cur T L (n1A T L a) - 48
def nEA (T : Nat → Int) (L a : Nat) : Nat := if 48 ≤ cur T L (n1A T L a + 1) ∧ cur T L (n1A T L a + 1) ≤ 57 then n1A T L a + 2 else n1A T L a + 1
def nVV (T : Nat → Int) (L a : Nat) : Int := if cur T L (sk T L a) = 45 then -nWV T L a else nWV T L a
theorem nWV_b (T : Nat → Int) (L a : Nat) : 48 ≤ cur T L (n1A T L a) ∧ cur T L (n1A T L a) ≤ 57 → 0 ≤ nWV T L a ∧ nWV T L a ≤ 99 := fun h => by
  unfold nWV
  split <;> omega
theorem nVV_c (T : Nat → Int) (L a : Nat) : (nVV T L a = -nWV T L a ∧ cur T L (sk T L a) = 45) ∨ (nVV T L a = nWV T L a ∧ cur T L (sk T L a) ≠ 45) := by
  unfold nVV
  split
  · exact Or.inl ⟨rfl, by assumption⟩
  · exact Or.inr ⟨rfl, by assumption⟩
theorem nEA_c (T : Nat → Int) (L a : Nat) : (nEA T L a = n1A T L a + 2 ∧ 48 ≤ cur T L (n1A T L a + 1) ∧ cur T L (n1A T L a + 1) ≤ 57) ∨ (nEA T L a = n1A T L a + 1 ∧ ¬ (48 ≤ cur T L (n1A T L a + 1) ∧ cur T L (n1A T L a + 1) ≤ 57)) := by
  unfold nEA
  split
  · exact Or.inl ⟨rfl, by assumption⟩
  · exact Or.inr ⟨rfl, by assumption⟩
def rdV (T K : Nat → Int) (L a : Nat) (x y e : Int) : Int := if 48 ≤ cur T L (n1A T L a) ∧ cur T L (n1A T L a) ≤ 57 then (if x ≤ nVV T L a ∧ nVV T L a ≤ y ∧ ¬ (e = 1 ∧ 0 < K (nVV T L a + 6).toNat) then 1 else 0) else 0
def rdA (T K : Nat → Int) (L a : Nat) (x y e : Int) : Nat := if 48 ≤ cur T L (n1A T L a) ∧ cur T L (n1A T L a) ≤ 57 then (if x ≤ nVV T L a ∧ nVV T L a ≤ y ∧ ¬ (e = 1 ∧ 0 < K (nVV T L a + 6).toNat) then nEA T L a else sk T L a) else n1A T L a
def rdN (T : Nat → Int) (L a : Nat) (o : Int) : Int := if 48 ≤ cur T L (n1A T L a) ∧ cur T L (n1A T L a) ≤ 57 then nVV T L a else o
theorem rd_c (T K : Nat → Int) (L a : Nat) (x y e o : Int) : (rdV T K L a x y e = 1 ∧ rdA T K L a x y e = nEA T L a ∧ rdN T L a o = nVV T L a ∧ (48 ≤ cur T L (n1A T L a) ∧ cur T L (n1A T L a) ≤ 57) ∧ x ≤ nVV T L a ∧ nVV T L a ≤ y ∧ ¬ (e = 1 ∧ 0 < K (nVV T L a + 6).toNat)) ∨
    (rdV T K L a x y e = 0 ∧ rdA T K L a x y e = sk T L a ∧ (48 ≤ cur T L (n1A T L a) ∧ cur T L (n1A T L a) ≤ 57) ∧ ¬ (x ≤ nVV T L a ∧ nVV T L a ≤ y ∧ ¬ (e = 1 ∧ 0 < K (nVV T L a + 6).toNat))) ∨
    (rdV T K L a x y e = 0 ∧ rdA T K L a x y e = n1A T L a ∧ ¬ (48 ≤ cur T L (n1A T L a) ∧ cur T L (n1A T L a) ≤ 57)) := by
  unfold rdV rdA rdN
  split
  · split
    · exact Or.inl ⟨rfl, rfl, rfl, by assumption, by assumption⟩
    · exact Or.inr (Or.inl ⟨rfl, rfl, by assumption, by assumption⟩)
  · exact Or.inr (Or.inr ⟨rfl, rfl, by assumption⟩)
theorem rd_le {T K : Nat → Int} {L a : Nat} {x y e : Int} (hT : ∀ j, j < L → 32 ≤ T j ∧ T j ≤ 126) (h : a ≤ L) : a ≤ rdA T K L a x y e ∧ rdA T K L a x y e ≤ L := by
  have h1 := sk_r (T := T) h
  have h2 := n1_r hT h
  have h3 := rd_c T K L a x y e 0
  have h4 := nEA_c T L a
  have h5 := cur_b hT (n1A T L a)
  have h6 := cur_b hT (n1A T L a + 1)
  omega
theorem tk_le {T : Nat → Int} {L a : Nat} {c : Int} (hT : ∀ j, j < L → 32 ≤ T j ∧ T j ≤ 126) (h : a ≤ L) (hc : c ≠ 0) : a ≤ tkA T L a c ∧ tkA T L a c ≤ L := by
  have h1 := sk_r (T := T) h
  have h2 := tk_c T L a c
  have h3 := cur_b hT (sk T L a)
  omega
theorem sp_X8_letter {h : xH} {A : Nat → Nat} {m : Nat → Int} {r : Nat → Nat → Int} {L a : Nat} (hL : ∀ q ∈ LM A m r, h q.1 = zcE q.2) (hD : zND (LM A m r)) (hm5 : m 5 = (L : Int)) (hL9 : L ≤ 90) (hm9 : m 9 = (a : Int)) (haL : a ≤ L) (hT : ∀ j, j < L → 32 ≤ r 3 j ∧ r 3 j ≤ 126) : zEv k_X8_letter [za (A 0)] h (fun v h2 => v = some (zi (cur (r 3) L (sk (r 3) L a))) ∧ h2 = zov (LM A (va_up m 9 ((sk (r 3) L a) : Int)) r) h) := by
  have hh : h = zov (LM A m r) h := zov_self hL
  refine zEv.body (I := (8, xI_X8_letter, 1, 0, 0, 0, 0, false)) (rt := (some .int)) [some (za (A 0))] rfl rfl rfl rfl ?_
  refine Zn.eq rfl rfl rfl hh ?_
  have hD : zND (LM A m r) := hD
  refine Zn.eq (pc2 := 0) (ls2 := [some (za (A 0))]) (st2 := []) (h2 := zov (LM A (va_up m 9 ((a + 0 : Nat) : Int)) r) h) rfl rfl rfl (by rw [show a + 0 = a from rfl, va_eta m 9 hm9.symm]) ?_
  have hD : zND (LM A (va_up m 9 ((a + 0 : Nat) : Int)) r) := hD
  refine xloop (P := fun i_1 => (sk (r 3) L (a + i_1) = sk (r 3) L a ∧ a + i_1 ≤ L) → Zn (8, xI_X8_letter, 1, 0, 0, 0, 0, false) (some .int) 0 [some (za (A 0))] [] (zov (LM A (va_up m 9 ((a + i_1 : Nat) : Int)) r) h) _) ((L - a + 1)) (fun i_1 hi_2 ih_3 fa_4 => ?_) (fun fa_4 => ?_) (⟨rfl, haL⟩)
  · have hi_ : i_1 < (L - a + 1) := hi_2
    have hfa_ := fa_4
    have hTa := hT (a + i_1)
    refine Zn.seg (pc2 := 1) (ls2 := [some (za (A 0))]) (st2 := [za (A 0)]) [(0, .aload_n 0)] (by decide +kernel) rfl ?_
    refine Zn.get (ix := 142) hD 0 (by decide +kernel) rfl rfl rfl ?_
    refine Zn.eq (st2 := [zi ((a + i_1 : Nat) : Int)]) rfl rfl rfl rfl ?_
    refine Zn.seg (pc2 := 5) (ls2 := [some (za (A 0))]) (st2 := [za (A 0), zi ((a + i_1 : Nat) : Int)]) [(4, .aload_n 0)] (by decide +kernel) rfl ?_
    refine Zn.get (ix := 139) hD 0 (by decide +kernel) rfl rfl rfl ?_
    refine Zn.eq (st2 := [zi (m 5), zi ((a + i_1 : Nat) : Int)]) rfl rfl rfl rfl ?_
    refine Zn.topi (y := (L : Int)) (hm5) ?_
    refine Zn.icmp (c := .ge) (off := 30) 38 (by decide +kernel) rfl ⟨by omega, by omega⟩ ⟨by omega, by omega⟩ (fun c_5 => ?_) (fun c_5 => ?_)
    · have c_5 : (L : Int) ≤ ((a + i_1 : Nat) : Int) := c_5
      refine Zn.seg (pc2 := 39) (ls2 := [some (za (A 0))]) (st2 := [za (A 0)]) [(38, .aload_n 0)] (by decide +kernel) rfl ?_
      refine Zn.get (ix := 142) hD 0 (by decide +kernel) rfl rfl rfl ?_
      refine Zn.eq (st2 := [zi ((a + i_1 : Nat) : Int)]) rfl rfl rfl rfl ?_
      refine Zn.seg (pc2 := 43) (ls2 := [some (za (A 0))]) (st2 := [za (A 0), zi ((a + i_1 : Nat) : Int)]) [(42, .aload_n 0)] (by decide +kernel) rfl ?_
      refine Zn.get (ix := 139) hD 0 (by decide +kernel) rfl rfl rfl ?_
      refine Zn.eq (st2 := [zi (m 5), zi ((a + i_1 : Nat) : Int)]) rfl rfl rfl rfl ?_
      refine Zn.topi (y := (L : Int)) (hm5) ?_
      refine Zn.icmp (c := .ge) (off := 15) 61 (by decide +kernel) rfl ⟨by omega, by omega⟩ ⟨by omega, by omega⟩ (fun c_6 => ?_) (fun c_6 => ?_)
      · have c_6 : (L : Int) ≤ ((a + i_1 : Nat) : Int) := c_6
        refine Zn.seg (pc2 := 62) (ls2 := [some (za (A 0))]) (st2 := [zi 0]) [(61, .iconst 0)] (by decide +kernel) rfl ?_
        exact Zn.iret (by decide +kernel) rfl (⟨by refine congrArg some (congrArg zi ?_); first | (exfalso; omega) | (rw [← hfa_.1, sk_n (by omega), cur]; first | rw [if_pos (by omega)] | rw [if_neg (by omega)]), by first | (exfalso; omega) | rw [← hfa_.1, sk_n (by omega)]⟩)
      · have c_6 : ¬ ((L : Int) ≤ ((a + i_1 : Nat) : Int)) := c_6
        refine Zn.seg (pc2 := 50) (ls2 := [some (za (A 0))]) (st2 := [za (A 0)]) [(49, .aload_n 0)] (by decide +kernel) rfl ?_
        refine Zn.get (ix := 20) hD 0 (by decide +kernel) rfl rfl rfl ?_
        refine Zn.seg (pc2 := 54) (ls2 := [some (za (A 0))]) (st2 := [za (A 0), za (A 3)]) [(53, .aload_n 0)] (by decide +kernel) rfl ?_
        refine Zn.get (ix := 142) hD 0 (by decide +kernel) rfl rfl rfl ?_
        refine Zn.eq (st2 := [zi ((a + i_1 : Nat) : Int), za (A 3)]) rfl rfl rfl rfl ?_
        refine Zn.iald hD 3 ((a + i_1)) (by decide +kernel) rfl (by omega) (by omega) rfl ?_
        refine Zn.seg (pc2 := 62) (ls2 := [some (za (A 0))]) (st2 := [zi ((r 3) (a + i_1))]) [(58, .goto 4)] (by decide +kernel) rfl ?_
        exact Zn.iret (by decide +kernel) rfl (⟨by refine congrArg some (congrArg zi ?_); first | (exfalso; omega) | (rw [← hfa_.1, sk_n (by omega), cur]; first | rw [if_pos (by omega)] | rw [if_neg (by omega)]), by first | (exfalso; omega) | rw [← hfa_.1, sk_n (by omega)]⟩)
    · have c_5 : ¬ ((L : Int) ≤ ((a + i_1 : Nat) : Int)) := c_5
      refine Zn.seg (pc2 := 12) (ls2 := [some (za (A 0))]) (st2 := [za (A 0)]) [(11, .aload_n 0)] (by decide +kernel) rfl ?_
      refine Zn.get (ix := 20) hD 0 (by decide +kernel) rfl rfl rfl ?_
      refine Zn.seg (pc2 := 16) (ls2 := [some (za (A 0))]) (st2 := [za (A 0), za (A 3)]) [(15, .aload_n 0)] (by decide +kernel) rfl ?_
      refine Zn.get (ix := 142) hD 0 (by decide +kernel) rfl rfl rfl ?_
      refine Zn.eq (st2 := [zi ((a + i_1 : Nat) : Int), za (A 3)]) rfl rfl rfl rfl ?_
      refine Zn.iald hD 3 ((a + i_1)) (by decide +kernel) rfl (by omega) (by omega) rfl ?_
      refine Zn.seg (pc2 := 22) (ls2 := [some (za (A 0))]) (st2 := [zi 32, zi ((r 3) (a + i_1))]) [(20, .bipush 32)] (by decide +kernel) rfl ?_
      refine Zn.icmp (c := .ne) (off := 16) 38 (by decide +kernel) rfl ⟨by omega, by omega⟩ ⟨by decide, by decide⟩ (fun c_7 => ?_) (fun c_7 => ?_)
      · have c_7 : (r 3) (a + i_1) ≠ 32 := c_7
        refine Zn.seg (pc2 := 39) (ls2 := [some (za (A 0))]) (st2 := [za (A 0)]) [(38, .aload_n 0)] (by decide +kernel) rfl ?_
        refine Zn.get (ix := 142) hD 0 (by decide +kernel) rfl rfl rfl ?_
        refine Zn.eq (st2 := [zi ((a + i_1 : Nat) : Int)]) rfl rfl rfl rfl ?_
        refine Zn.seg (pc2 := 43) (ls2 := [some (za (A 0))]) (st2 := [za (A 0), zi ((a + i_1 : Nat) : Int)]) [(42, .aload_n 0)] (by decide +kernel) rfl ?_
        refine Zn.get (ix := 139) hD 0 (by decide +kernel) rfl rfl rfl ?_
        refine Zn.eq (st2 := [zi (m 5), zi ((a + i_1 : Nat) : Int)]) rfl rfl rfl rfl ?_
        refine Zn.topi (y := (L : Int)) (hm5) ?_
        refine Zn.icmp (c := .ge) (off := 15) 61 (by decide +kernel) rfl ⟨by omega, by omega⟩ ⟨by omega, by omega⟩ (fun c_8 => ?_) (fun c_8 => ?_)
        · have c_8 : (L : Int) ≤ ((a + i_1 : Nat) : Int) := c_8
          refine Zn.seg (pc2 := 62) (ls2 := [some (za (A 0))]) (st2 := [zi 0]) [(61, .iconst 0)] (by decide +kernel) rfl ?_
          exact Zn.iret (by decide +kernel) rfl (⟨by refine congrArg some (congrArg zi ?_); first | (exfalso; omega) | (rw [← hfa_.1, sk_n (by omega), cur]; first | rw [if_pos (by omega)] | rw [if_neg (by omega)]), by first | (exfalso; omega) | rw [← hfa_.1, sk_n (by omega)]⟩)
        · have c_8 : ¬ ((L : Int) ≤ ((a + i_1 : Nat) : Int)) := c_8
          refine Zn.seg (pc2 := 50) (ls2 := [some (za (A 0))]) (st2 := [za (A 0)]) [(49, .aload_n 0)] (by decide +kernel) rfl ?_
          refine Zn.get (ix := 20) hD 0 (by decide +kernel) rfl rfl rfl ?_
          refine Zn.seg (pc2 := 54) (ls2 := [some (za (A 0))]) (st2 := [za (A 0), za (A 3)]) [(53, .aload_n 0)] (by decide +kernel) rfl ?_
          refine Zn.get (ix := 142) hD 0 (by decide +kernel) rfl rfl rfl ?_
          refine Zn.eq (st2 := [zi ((a + i_1 : Nat) : Int), za (A 3)]) rfl rfl rfl rfl ?_
          refine Zn.iald hD 3 ((a + i_1)) (by decide +kernel) rfl (by omega) (by omega) rfl ?_
          refine Zn.seg (pc2 := 62) (ls2 := [some (za (A 0))]) (st2 := [zi ((r 3) (a + i_1))]) [(58, .goto 4)] (by decide +kernel) rfl ?_
          exact Zn.iret (by decide +kernel) rfl (⟨by refine congrArg some (congrArg zi ?_); first | (exfalso; omega) | (rw [← hfa_.1, sk_n (by omega), cur]; first | rw [if_pos (by omega)] | rw [if_neg (by omega)]), by first | (exfalso; omega) | rw [← hfa_.1, sk_n (by omega)]⟩)
      · have c_7 : ¬ ((r 3) (a + i_1) ≠ 32) := c_7
        refine Zn.seg (pc2 := 27) (ls2 := [some (za (A 0))]) (st2 := [za (A 0), za (A 0)]) [(25, .aload_n 0), (26, .dup)] (by decide +kernel) rfl ?_
        refine Zn.get (ix := 142) hD 0 (by decide +kernel) rfl rfl rfl ?_
        refine Zn.eq (st2 := [zi ((a + i_1 : Nat) : Int), za (A 0)]) rfl rfl rfl rfl ?_
        refine Zn.seg (pc2 := 32) (ls2 := [some (za (A 0))]) (st2 := [zi (((a + i_1 : Nat) : Int) + 1), za (A 0)]) [(30, .iconst 1), (31, .iadd)] (by decide +kernel) rfl ?_
        refine Zn.put (ix := 142) hD 0 (by decide +kernel) rfl rfl rfl rfl rfl ?_
        refine Zn.eq (h2 := zov (LM A (va_up m 9 (((a + i_1 : Nat) : Int) + 1)) r) h) rfl rfl rfl rfl ?_
        have hD : zND (LM A (va_up m 9 (((a + i_1 : Nat) : Int) + 1)) r) := hD
        refine Zn.seg (pc2 := 0) (ls2 := [some (za (A 0))]) (st2 := []) [(35, .goto (-35))] (by decide +kernel) rfl ?_
        exact Zn.eq rfl rfl rfl (by rw [show a + (i_1 + 1) = a + i_1 + 1 from rfl, Int.natCast_add (a + i_1) 1]; rfl) (ih_3 (⟨(sk_b (a := a + i_1) (by omega) (by omega)).symm.trans fa_4.1, by omega⟩))
  · exact absurd (show False from by (have := fa_4.2; omega)) (fun q_ => q_)
theorem sp_X8_takes {h : xH} {A : Nat → Nat} {m : Nat → Int} {r : Nat → Nat → Int} {x : Int} {L a : Nat} (hL : ∀ q ∈ LM A m r, h q.1 = zcE q.2) (hD : zND (LM A m r)) (hm5 : m 5 = (L : Int)) (hL9 : L ≤ 90) (hm9 : m 9 = (a : Int)) (haL : a ≤ L) (hT : ∀ j, j < L → 32 ≤ r 3 j ∧ r 3 j ≤ 126) (hx : -1000 ≤ x ∧ x ≤ 1000) : zEv k_X8_takes [za (A 0), zi x] h (fun v h2 => v = some (zi (tkV (r 3) L a x)) ∧ h2 = zov (LM A (va_up m 9 (tkA (r 3) L a x : Int)) r) h) := by
  have hh : h = zov (LM A m r) h := zov_self hL
  refine zEv.body (I := (8, xI_X8_takes, 3, 1, 20, 0, 0, false)) (rt := (some .boolean)) [some (za (A 0)), some (zi x), none] rfl rfl rfl rfl ?_
  refine Zn.eq rfl rfl rfl hh ?_
  have hD : zND (LM A m r) := hD
  refine Zn.seg (pc2 := 1) (ls2 := [some (za (A 0)), some (zi x), none]) (st2 := [za (A 0)]) [(0, .aload_n 0)] (by decide +kernel) rfl ?_
  refine Zn.call (ins := .invokevirtual 145) [za (A 0)] [] (by decide +kernel) rfl rfl rfl ⟨rfl, rfl⟩ ⟨rfl, rfl, rfl⟩ rfl (zrecvV hD (p := 0) rfl rfl rfl) (sp_X8_letter (A := A) (m := m) (r := r) (L := L) (a := a) (zov_all hD) hD (by first | rfl | exact hm5) (hL9) (by first | rfl | exact hm9) (by first | assumption | omega) (hT)) (fun v h2 hp => ?_)
  obtain ⟨rfl, hq_1⟩ := hp
  refine Zn.eq (pc2 := 4) (ls2 := [some (za (A 0)), some (zi x), none]) (st2 := [zi (cur (r 3) L (sk (r 3) L a))]) (h2 := zov (LM A (va_up m 9 ((sk (r 3) L a) : Int)) r) h) rfl rfl rfl (hq_1.trans (LM_over _ _ _ _ _ _)) ?_
  have hD : zND (LM A (va_up m 9 ((sk (r 3) L a) : Int)) r) := hD
  have hsk := sk_r (T := r 3) haL
  have hcb := cur_b hT (sk (r 3) L a)
  refine Zn.seg (pc2 := 5) (ls2 := [some (za (A 0)), some (zi x), none]) (st2 := [zi x, zi (cur (r 3) L (sk (r 3) L a))]) [(4, .iload_n 1)] (by decide +kernel) rfl ?_
  refine Zn.icmp (c := .ne) (off := 7) 12 (by decide +kernel) rfl ⟨by omega, by omega⟩ ⟨by omega, by omega⟩ (fun c_2 => ?_) (fun c_2 => ?_)
  · have c_2 : cur (r 3) L (sk (r 3) L a) ≠ x := c_2
    refine Zn.seg (pc2 := 16) (ls2 := [some (za (A 0)), some (zi x), some (zi 0)]) (st2 := [za (A 0), za (A 0)]) [(12, .iconst 0), (13, .istore_n 2), (14, .aload_n 0), (15, .dup)] (by decide +kernel) rfl ?_
    refine Zn.get (ix := 142) hD 0 (by decide +kernel) rfl rfl rfl ?_
    refine Zn.eq (st2 := [zi ((sk (r 3) L a) : Int), za (A 0)]) rfl rfl rfl rfl ?_
    refine Zn.seg (pc2 := 20) (ls2 := [some (za (A 0)), some (zi x), some (zi 0)]) (st2 := [zi 0, zi ((sk (r 3) L a) : Int), za (A 0)]) [(19, .iload_n 2)] (by decide +kernel) rfl ?_
    refine Zn.ifc (c := .eq) (off := 7) 27 (by decide +kernel) rfl ⟨by decide, by decide⟩ (fun c_3 => ?_) (fun c_3 => absurd (show (0 : Int) = 0 from by decide) c_3)
    have c_3 : (0 : Int) = 0 := c_3
    refine Zn.seg (pc2 := 29) (ls2 := [some (za (A 0)), some (zi x), some (zi 0)]) (st2 := [zi (((sk (r 3) L a) : Int) + 0), za (A 0)]) [(27, .iconst 0), (28, .iadd)] (by decide +kernel) rfl ?_
    refine Zn.put (ix := 142) hD 0 (by decide +kernel) rfl rfl rfl rfl rfl ?_
    refine Zn.eq (h2 := zov (LM A (va_up m 9 (((sk (r 3) L a) : Int) + 0)) r) h) rfl rfl rfl rfl ?_
    have hD : zND (LM A (va_up m 9 (((sk (r 3) L a) : Int) + 0)) r) := hD
    refine Zn.seg (pc2 := 33) (ls2 := [some (za (A 0)), some (zi x), some (zi 0)]) (st2 := [zi 0]) [(32, .iload_n 2)] (by decide +kernel) rfl ?_
    exact Zn.bret (by decide +kernel) rfl (by first | decide | omega) (⟨by refine congrArg some (congrArg zi ?_); rw [tkV]; first | rw [if_pos (by omega)] | rw [if_neg (by omega)], by rw [tkA]; first | (rw [if_pos (by omega)]; rfl) | (rw [if_neg (by omega)]; simp)⟩)
  · have c_2 : ¬ (cur (r 3) L (sk (r 3) L a) ≠ x) := c_2
    refine Zn.seg (pc2 := 16) (ls2 := [some (za (A 0)), some (zi x), some (zi 1)]) (st2 := [za (A 0), za (A 0)]) [(8, .iconst 1), (9, .goto 4), (13, .istore_n 2), (14, .aload_n 0), (15, .dup)] (by decide +kernel) rfl ?_
    refine Zn.get (ix := 142) hD 0 (by decide +kernel) rfl rfl rfl ?_
    refine Zn.eq (st2 := [zi ((sk (r 3) L a) : Int), za (A 0)]) rfl rfl rfl rfl ?_
    refine Zn.seg (pc2 := 20) (ls2 := [some (za (A 0)), some (zi x), some (zi 1)]) (st2 := [zi 1, zi ((sk (r 3) L a) : Int), za (A 0)]) [(19, .iload_n 2)] (by decide +kernel) rfl ?_
    refine Zn.ifc (c := .eq) (off := 7) 27 (by decide +kernel) rfl ⟨by decide, by decide⟩ (fun c_4 => absurd (show (1 : Int) = 0 from c_4) (by decide)) (fun c_4 => ?_)
    have c_4 : ¬ ((1 : Int) = 0) := c_4
    refine Zn.seg (pc2 := 29) (ls2 := [some (za (A 0)), some (zi x), some (zi 1)]) (st2 := [zi (((sk (r 3) L a) : Int) + 1), za (A 0)]) [(23, .iconst 1), (24, .goto 4), (28, .iadd)] (by decide +kernel) rfl ?_
    refine Zn.put (ix := 142) hD 0 (by decide +kernel) rfl rfl rfl rfl rfl ?_
    refine Zn.eq (h2 := zov (LM A (va_up m 9 (((sk (r 3) L a) : Int) + 1)) r) h) rfl rfl rfl rfl ?_
    have hD : zND (LM A (va_up m 9 (((sk (r 3) L a) : Int) + 1)) r) := hD
    refine Zn.seg (pc2 := 33) (ls2 := [some (za (A 0)), some (zi x), some (zi 1)]) (st2 := [zi 1]) [(32, .iload_n 2)] (by decide +kernel) rfl ?_
    exact Zn.bret (by decide +kernel) rfl (by first | decide | omega) (⟨by refine congrArg some (congrArg zi ?_); rw [tkV]; first | rw [if_pos (by omega)] | rw [if_neg (by omega)], by rw [tkA]; first | (rw [if_pos (by omega)]; rfl) | (rw [if_neg (by omega)]; simp)⟩)
theorem sp_X8_isFigure {h : xH} {x : Int} (hx : zInI x) : zEv k_X8_isFigure [zi x] h (fun v h2 => v = some (zi (inB 48 57 x)) ∧ h2 = h) := by
  have hD : ([] : List Nat).Nodup := List.nodup_nil
  have hh : h = zov [] h := zov_self (fun _ q => absurd q List.not_mem_nil)
  have hx1 := hx.1
  have hx2 := hx.2
  refine zEv.body (I := (8, xI_X8_isFigure, 1, 1, 25, 0, 0, false)) (rt := (some .boolean)) [some (zi x)] rfl rfl rfl rfl ?_
  refine Zn.eq rfl rfl rfl hh ?_
  have hD : zND ([]) := hD
  refine Zn.seg (pc2 := 1) (ls2 := [some (zi x)]) (st2 := [zi x]) [(0, .iload_n 0)] (by decide +kernel) rfl ?_
  refine Zn.i2l (by decide +kernel) ⟨by omega, by omega⟩ ?_
  refine Zn.seg (pc2 := 8) (ls2 := [some (zi x)]) (st2 := [zj 57, zj 48, zj x]) [(2, .ldc2_w 148), (5, .ldc2_w 150)] (by decide +kernel) rfl ?_
  refine Zn.call (ins := .invokestatic 77) [zj x, zj 48, zj 57] [] (by decide +kernel) rfl rfl rfl ⟨rfl, rfl⟩ ⟨rfl, rfl, rfl⟩ rfl (zrecvS (by decide)) (sp_X8_in (x := x) (lo := 48) (hi := 57) (⟨by have := hx.1; omega, by have := hx.2; omega⟩) (⟨by decide, by decide⟩) (⟨by decide, by decide⟩)) (fun v h2 hp => ?_)
  obtain ⟨rfl, hq_1⟩ := hp
  refine Zn.eq (pc2 := 11) (ls2 := [some (zi x)]) (st2 := [zi (inB 48 57 x)]) (h2 := zov ([]) h) rfl rfl rfl hq_1 ?_
  have hD : zND ([]) := hD
  have q_2 := inB_spec 48 57 x
  exact Zn.bret (by decide +kernel) rfl (by first | decide | omega) (⟨by first | rfl | (refine congrArg some (congrArg zi ?_); first | omega | (simp_all; done) | (simp_all; omega)), hh.symm⟩)
set_option maxHeartbeats 1000000 in
theorem sp_X8_reads {h : xH} {A : Nat → Nat} {m : Nat → Int} {r : Nat → Nat → Int} {x y e : Int} {L a : Nat} (hL : ∀ q ∈ LM A m r, h q.1 = zcE q.2) (hD : zND (LM A m r)) (hm5 : m 5 = (L : Int)) (hL9 : L ≤ 90) (hm9 : m 9 = (a : Int)) (haL : a ≤ L) (hT : ∀ j, j < L → 32 ≤ r 3 j ∧ r 3 j ≤ 126) (hxy : (-99 ≤ x ∧ x ≤ 99) ∧ (-99 ≤ y ∧ y ≤ 99)) (he : e = 0 ∨ (e = 1 ∧ -6 ≤ x ∧ y ≤ 6)) (hK : ∀ p, p < 13 → 0 ≤ r 9 p ∧ r 9 p ≤ 2) : zEv k_X8_reads [za (A 0), zi x, zi y, zi e] h (fun v h2 => v = some (zi (rdV (r 3) (r 9) L a x y e)) ∧ h2 = zov (LM A (va_up (va_up m 9 (rdA (r 3) (r 9) L a x y e : Int)) 14 (rdN (r 3) L a (m 14))) r) h) := by
  have hh : h = zov (LM A m r) h := zov_self hL
  have hsk := sk_r (T := r 3) haL
  have hcb := cur_b hT (sk (r 3) L a)
  have hn1 := n1_r hT haL
  have hcn := cur_b hT (n1A (r 3) L a)
  have hcm := cur_b hT (n1A (r 3) L a + 1)
  have hnw := nWV_b (r 3) L a
  have hnv := nVV_c (r 3) L a
  have hne := nEA_c (r 3) L a
  have hkk := hK (nVV (r 3) L a + 6).toNat
  refine zEv.body (I := (8, xI_X8_reads, 8, 2, 45, 0, 0, false)) (rt := (some .boolean)) [some (za (A 0)), some (zi x), some (zi y), some (zi e), none, none, none, none] rfl rfl rfl rfl ?_
  refine Zn.eq rfl rfl rfl hh ?_
  have hD : zND (LM A m r) := hD
  refine Zn.seg (pc2 := 1) (ls2 := [some (za (A 0)), some (zi x), some (zi y), some (zi e), none, none, none, none]) (st2 := [za (A 0)]) [(0, .aload_n 0)] (by decide +kernel) rfl ?_
  refine Zn.call (ins := .invokevirtual 145) [za (A 0)] [] (by decide +kernel) rfl rfl rfl ⟨rfl, rfl⟩ ⟨rfl, rfl, rfl⟩ rfl (zrecvV hD (p := 0) rfl rfl rfl) (sp_X8_letter (A := A) (m := m) (r := r) (L := L) (a := a) (zov_all hD) hD (by first | rfl | exact hm5) (hL9) (by first | rfl | exact hm9) (by first | assumption | omega) (hT)) (fun v h2 hp => ?_)
  obtain ⟨rfl, hq_1⟩ := hp
  refine Zn.eq (pc2 := 4) (ls2 := [some (za (A 0)), some (zi x), some (zi y), some (zi e), none, none, none, none]) (st2 := [zi (cur (r 3) L (sk (r 3) L a))]) (h2 := zov (LM A (va_up m 9 ((sk (r 3) L a) : Int)) r) h) rfl rfl rfl (hq_1.trans (LM_over _ _ _ _ _ _)) ?_
  have hD : zND (LM A (va_up m 9 ((sk (r 3) L a) : Int)) r) := hD
  refine Zn.seg (pc2 := 7) (ls2 := [some (za (A 0)), some (zi x), some (zi y), some (zi e), some (zi (cur (r 3) L (sk (r 3) L a))), none, none, none]) (st2 := [za (A 0)]) [(4, .istore 4), (6, .aload_n 0)] (by decide +kernel) rfl ?_
  refine Zn.get (ix := 142) hD 0 (by decide +kernel) rfl rfl rfl ?_
  refine Zn.eq (st2 := [zi ((sk (r 3) L a) : Int)]) rfl rfl rfl rfl ?_
  refine Zn.seg (pc2 := 16) (ls2 := [some (za (A 0)), some (zi x), some (zi y), some (zi e), some (zi (cur (r 3) L (sk (r 3) L a))), some (zi ((sk (r 3) L a) : Int)), none, none]) (st2 := [zi 45, zi (cur (r 3) L (sk (r 3) L a))]) [(10, .istore 5), (12, .iload 4), (14, .bipush 45)] (by decide +kernel) rfl ?_
  refine Zn.icmp (c := .ne) (off := 7) 23 (by decide +kernel) rfl ⟨by omega, by omega⟩ ⟨by decide, by decide⟩ (fun c_2 => ?_) (fun c_2 => ?_)
  · have c_2 : cur (r 3) L (sk (r 3) L a) ≠ 45 := c_2
    refine Zn.seg (pc2 := 28) (ls2 := [some (za (A 0)), some (zi x), some (zi y), some (zi e), some (zi (cur (r 3) L (sk (r 3) L a))), some (zi ((sk (r 3) L a) : Int)), some (zi 0), none]) (st2 := [zi 0]) [(23, .iconst 0), (24, .istore 6), (26, .iload 6)] (by decide +kernel) rfl ?_
    refine Zn.ifc (c := .eq) (off := 19) 47 (by decide +kernel) rfl ⟨by decide, by decide⟩ (fun c_3 => ?_) (fun c_3 => absurd (show (0 : Int) = 0 from by decide) c_3)
    have c_3 : (0 : Int) = 0 := c_3
    refine Zn.eq (pc2 := 47) (ls2 := [some (za (A 0)), some (zi x), some (zi y), some (zi e), some (zi (cur (r 3) L (n1A (r 3) L a))), some (zi ((sk (r 3) L a) : Int)), some (zi (ngV (r 3) L a)), none]) (st2 := []) (h2 := zov (LM A (va_up m 9 (n1A (r 3) L a : Int)) r) h) rfl (zcons rfl (zcons rfl (zcons rfl (zcons rfl (zcons (congrArg (fun z => some (zi z)) (by first | rw [n1_m (by omega)] | rw [n1_p (by omega)])) (zcons rfl (zcons (congrArg (fun z => some (zi z)) (by first | rw [ngV, if_pos (by omega)] | rw [ngV, if_neg (by omega)])) rfl))))))) rfl (by first | rw [n1_m (by omega)] | rw [n1_p (by omega)]) ?_
    have hD : zND (LM A (va_up m 9 (n1A (r 3) L a : Int)) r) := hD
    have hngv := ngV_c (r 3) L a
    refine Zn.seg (pc2 := 49) (ls2 := [some (za (A 0)), some (zi x), some (zi y), some (zi e), some (zi (cur (r 3) L (n1A (r 3) L a))), some (zi ((sk (r 3) L a) : Int)), some (zi (ngV (r 3) L a)), none]) (st2 := [zi (cur (r 3) L (n1A (r 3) L a))]) [(47, .iload 4)] (by decide +kernel) rfl ?_
    refine Zn.call (ins := .invokestatic 152) [zi (cur (r 3) L (n1A (r 3) L a))] [] (by decide +kernel) rfl rfl rfl ⟨rfl, rfl⟩ ⟨rfl, rfl, rfl⟩ rfl (zrecvS (by decide)) (sp_X8_isFigure (x := cur (r 3) L (n1A (r 3) L a)) (⟨by omega, by omega⟩)) (fun v h2 hp => ?_)
    obtain ⟨rfl, hq_4⟩ := hp
    refine Zn.eq (pc2 := 52) (ls2 := [some (za (A 0)), some (zi x), some (zi y), some (zi e), some (zi (cur (r 3) L (n1A (r 3) L a))), some (zi ((sk (r 3) L a) : Int)), some (zi (ngV (r 3) L a)), none]) (st2 := [zi (inB 48 57 (cur (r 3) L (n1A (r 3) L a)))]) (h2 := zov (LM A (va_up m 9 (n1A (r 3) L a : Int)) r) h) rfl rfl rfl hq_4 ?_
    have hD : zND (LM A (va_up m 9 (n1A (r 3) L a : Int)) r) := hD
    have q_5 := inB_spec 48 57 (cur (r 3) L (n1A (r 3) L a))
    refine Zn.ifc (c := .ne) (off := 5) 57 (by decide +kernel) rfl ⟨by omega, by omega⟩ (fun c_6 => ?_) (fun c_6 => ?_)
    · have c_6 : inB 48 57 (cur (r 3) L (n1A (r 3) L a)) ≠ 0 := c_6
      refine Zn.seg (pc2 := 66) (ls2 := [some (za (A 0)), some (zi x), some (zi y), some (zi e), some (zi (cur (r 3) L (n1A (r 3) L a))), some (zi ((sk (r 3) L a) : Int)), some (zi (ngV (r 3) L a)), some (zi (cur (r 3) L (n1A (r 3) L a) - 48))]) (st2 := [za (A 0), za (A 0)]) [(57, .iload 4), (59, .bipush 48), (61, .isub), (62, .istore 7), (64, .aload_n 0), (65, .dup)] (by decide +kernel) rfl ?_
      refine Zn.get (ix := 142) hD 0 (by decide +kernel) rfl rfl rfl ?_
      refine Zn.eq (st2 := [zi (n1A (r 3) L a : Int), za (A 0)]) rfl rfl rfl rfl ?_
      refine Zn.seg (pc2 := 71) (ls2 := [some (za (A 0)), some (zi x), some (zi y), some (zi e), some (zi (cur (r 3) L (n1A (r 3) L a))), some (zi ((sk (r 3) L a) : Int)), some (zi (ngV (r 3) L a)), some (zi (cur (r 3) L (n1A (r 3) L a) - 48))]) (st2 := [zi ((n1A (r 3) L a : Int) + 1), za (A 0)]) [(69, .iconst 1), (70, .iadd)] (by decide +kernel) rfl ?_
      refine Zn.put (ix := 142) hD 0 (by decide +kernel) rfl rfl rfl rfl rfl ?_
      refine Zn.eq (h2 := zov (LM A (va_up m 9 ((n1A (r 3) L a : Int) + 1)) r) h) rfl rfl rfl rfl ?_
      have hD : zND (LM A (va_up m 9 ((n1A (r 3) L a : Int) + 1)) r) := hD
      refine Zn.seg (pc2 := 75) (ls2 := [some (za (A 0)), some (zi x), some (zi y), some (zi e), some (zi (cur (r 3) L (n1A (r 3) L a))), some (zi ((sk (r 3) L a) : Int)), some (zi (ngV (r 3) L a)), some (zi (cur (r 3) L (n1A (r 3) L a) - 48))]) (st2 := [za (A 0)]) [(74, .aload_n 0)] (by decide +kernel) rfl ?_
      refine Zn.get (ix := 142) hD 0 (by decide +kernel) rfl rfl rfl ?_
      refine Zn.eq (st2 := [zi ((n1A (r 3) L a : Int) + 1)]) rfl rfl rfl rfl ?_
      refine Zn.seg (pc2 := 79) (ls2 := [some (za (A 0)), some (zi x), some (zi y), some (zi e), some (zi (cur (r 3) L (n1A (r 3) L a))), some (zi ((sk (r 3) L a) : Int)), some (zi (ngV (r 3) L a)), some (zi (cur (r 3) L (n1A (r 3) L a) - 48))]) (st2 := [za (A 0), zi ((n1A (r 3) L a : Int) + 1)]) [(78, .aload_n 0)] (by decide +kernel) rfl ?_
      refine Zn.get (ix := 139) hD 0 (by decide +kernel) rfl rfl rfl ?_
      refine Zn.eq (st2 := [zi (m 5), zi ((n1A (r 3) L a : Int) + 1)]) rfl rfl rfl rfl ?_
      refine Zn.topi (y := (L : Int)) (hm5) ?_
      refine Zn.icmp (c := .ge) (off := 48) 130 (by decide +kernel) rfl ⟨by omega, by omega⟩ ⟨by omega, by omega⟩ (fun c_7 => ?_) (fun c_7 => ?_)
      · have c_7 : (L : Int) ≤ (n1A (r 3) L a : Int) + 1 := c_7
        refine Zn.eq (pc2 := 130) (ls2 := [some (za (A 0)), some (zi x), some (zi y), some (zi e), some (zi (cur (r 3) L (n1A (r 3) L a))), some (zi ((sk (r 3) L a) : Int)), some (zi (ngV (r 3) L a)), some (zi (nWV (r 3) L a))]) (st2 := []) (h2 := zov (LM A (va_up m 9 (nEA (r 3) L a : Int)) r) h) rfl (zcons rfl (zcons rfl (zcons rfl (zcons rfl (zcons rfl (zcons rfl (zcons rfl (zcons (congrArg (fun z => some (zi z)) (by first | (rw [nWV, if_pos (by omega)]; omega) | (rw [nWV, if_neg (by omega)]))) rfl)))))))) rfl (by first | (rw [show (nEA (r 3) L a : Int) = (n1A (r 3) L a : Int) + 1 + 1 from by omega]; done) | (rw [show (nEA (r 3) L a : Int) = (n1A (r 3) L a : Int) + 1 from by omega]; done)) ?_
        have hD : zND (LM A (va_up m 9 (nEA (r 3) L a : Int)) r) := hD
        refine Zn.seg (pc2 := 133) (ls2 := [some (za (A 0)), some (zi x), some (zi y), some (zi e), some (zi (cur (r 3) L (n1A (r 3) L a))), some (zi ((sk (r 3) L a) : Int)), some (zi (ngV (r 3) L a)), some (zi (nWV (r 3) L a))]) (st2 := [zi (ngV (r 3) L a), za (A 0)]) [(130, .aload_n 0), (131, .iload 6)] (by decide +kernel) rfl ?_
        refine Zn.ifc (c := .eq) (off := 9) 142 (by decide +kernel) rfl ⟨by omega, by omega⟩ (fun c_8 => ?_) (fun c_8 => ?_)
        · have c_8 : ngV (r 3) L a = 0 := c_8
          refine Zn.seg (pc2 := 144) (ls2 := [some (za (A 0)), some (zi x), some (zi y), some (zi e), some (zi (cur (r 3) L (n1A (r 3) L a))), some (zi ((sk (r 3) L a) : Int)), some (zi (ngV (r 3) L a)), some (zi (nWV (r 3) L a))]) (st2 := [zi (nWV (r 3) L a), za (A 0)]) [(142, .iload 7)] (by decide +kernel) rfl ?_
          refine Zn.put (ix := 156) hD 0 (by decide +kernel) rfl rfl rfl rfl rfl ?_
          refine Zn.eq (h2 := zov (LM A (va_up (va_up m 9 (nEA (r 3) L a : Int)) 14 (nWV (r 3) L a)) r) h) rfl rfl rfl rfl ?_
          have hD : zND (LM A (va_up (va_up m 9 (nEA (r 3) L a : Int)) 14 (nWV (r 3) L a)) r) := hD
          refine Zn.eq (pc2 := 147) (ls2 := [some (za (A 0)), some (zi x), some (zi y), some (zi e), some (zi (cur (r 3) L (n1A (r 3) L a))), some (zi ((sk (r 3) L a) : Int)), some (zi (ngV (r 3) L a)), some (zi (nWV (r 3) L a))]) (st2 := []) (h2 := zov (LM A (va_up (va_up m 9 (nEA (r 3) L a : Int)) 14 (nVV (r 3) L a)) r) h) rfl rfl rfl (by first | (exfalso; omega) | (rw [nVV, if_neg (by omega)]; done) | (rw [nVV, if_pos (by omega)]; done)) ?_
          have hD : zND (LM A (va_up (va_up m 9 (nEA (r 3) L a : Int)) 14 (nVV (r 3) L a)) r) := hD
          refine Zn.seg (pc2 := 148) (ls2 := [some (za (A 0)), some (zi x), some (zi y), some (zi e), some (zi (cur (r 3) L (n1A (r 3) L a))), some (zi ((sk (r 3) L a) : Int)), some (zi (ngV (r 3) L a)), some (zi (nWV (r 3) L a))]) (st2 := [za (A 0)]) [(147, .aload_n 0)] (by decide +kernel) rfl ?_
          refine Zn.get (ix := 156) hD 0 (by decide +kernel) rfl rfl rfl ?_
          refine Zn.eq (st2 := [zi (nVV (r 3) L a)]) rfl rfl rfl rfl ?_
          refine Zn.i2l (by decide +kernel) ⟨by omega, by omega⟩ ?_
          refine Zn.seg (pc2 := 153) (ls2 := [some (za (A 0)), some (zi x), some (zi y), some (zi e), some (zi (cur (r 3) L (n1A (r 3) L a))), some (zi ((sk (r 3) L a) : Int)), some (zi (ngV (r 3) L a)), some (zi (nWV (r 3) L a))]) (st2 := [zi x, zj (nVV (r 3) L a)]) [(152, .iload_n 1)] (by decide +kernel) rfl ?_
          refine Zn.i2l (by decide +kernel) ⟨by omega, by omega⟩ ?_
          refine Zn.seg (pc2 := 155) (ls2 := [some (za (A 0)), some (zi x), some (zi y), some (zi e), some (zi (cur (r 3) L (n1A (r 3) L a))), some (zi ((sk (r 3) L a) : Int)), some (zi (ngV (r 3) L a)), some (zi (nWV (r 3) L a))]) (st2 := [zi y, zj x, zj (nVV (r 3) L a)]) [(154, .iload_n 2)] (by decide +kernel) rfl ?_
          refine Zn.i2l (by decide +kernel) ⟨by omega, by omega⟩ ?_
          refine Zn.call (ins := .invokestatic 77) [zj (nVV (r 3) L a), zj x, zj y] [] (by decide +kernel) rfl rfl rfl ⟨rfl, rfl⟩ ⟨rfl, rfl, rfl⟩ rfl (zrecvS (by decide)) (sp_X8_in (x := nVV (r 3) L a) (lo := x) (hi := y) (⟨by omega, by omega⟩) (⟨by omega, by omega⟩) (⟨by omega, by omega⟩)) (fun v h2 hp => ?_)
          obtain ⟨rfl, hq_9⟩ := hp
          refine Zn.eq (pc2 := 159) (ls2 := [some (za (A 0)), some (zi x), some (zi y), some (zi e), some (zi (cur (r 3) L (n1A (r 3) L a))), some (zi ((sk (r 3) L a) : Int)), some (zi (ngV (r 3) L a)), some (zi (nWV (r 3) L a))]) (st2 := [zi (inB x y (nVV (r 3) L a))]) (h2 := zov (LM A (va_up (va_up m 9 (nEA (r 3) L a : Int)) 14 (nVV (r 3) L a)) r) h) rfl rfl rfl hq_9 ?_
          have hD : zND (LM A (va_up (va_up m 9 (nEA (r 3) L a : Int)) 14 (nVV (r 3) L a)) r) := hD
          have q_10 := inB_spec x y (nVV (r 3) L a)
          refine Zn.ifc (c := .eq) (off := 22) 181 (by decide +kernel) rfl ⟨by omega, by omega⟩ (fun c_11 => ?_) (fun c_11 => ?_)
          · have c_11 : inB x y (nVV (r 3) L a) = 0 := c_11
            refine Zn.seg (pc2 := 184) (ls2 := [some (za (A 0)), some (zi x), some (zi y), some (zi e), some (zi (cur (r 3) L (n1A (r 3) L a))), some (zi ((sk (r 3) L a) : Int)), some (zi (ngV (r 3) L a)), some (zi (nWV (r 3) L a))]) (st2 := [zi ((sk (r 3) L a) : Int), za (A 0)]) [(181, .aload_n 0), (182, .iload 5)] (by decide +kernel) rfl ?_
            refine Zn.put (ix := 142) hD 0 (by decide +kernel) rfl rfl rfl rfl rfl ?_
            refine Zn.eq (h2 := zov (LM A (va_up (va_up m 9 ((sk (r 3) L a) : Int)) 14 (nVV (r 3) L a)) r) h) rfl rfl rfl rfl ?_
            have hD : zND (LM A (va_up (va_up m 9 ((sk (r 3) L a) : Int)) 14 (nVV (r 3) L a)) r) := hD
            refine Zn.seg (pc2 := 188) (ls2 := [some (za (A 0)), some (zi x), some (zi y), some (zi e), some (zi (cur (r 3) L (n1A (r 3) L a))), some (zi ((sk (r 3) L a) : Int)), some (zi (ngV (r 3) L a)), some (zi (nWV (r 3) L a))]) (st2 := [zi 0]) [(187, .iconst 0)] (by decide +kernel) rfl ?_
            exact Zn.bret (by decide +kernel) rfl (by first | decide | omega) (⟨by refine congrArg some (congrArg zi ?_); rw [rdV, if_pos (by omega), if_neg (by omega)], by rw [rdA, if_pos (by omega), if_neg (by omega), rdN, if_pos (by omega)]⟩)
          · have c_11 : ¬ (inB x y (nVV (r 3) L a) = 0) := c_11
            refine Zn.seg (pc2 := 163) (ls2 := [some (za (A 0)), some (zi x), some (zi y), some (zi e), some (zi (cur (r 3) L (n1A (r 3) L a))), some (zi ((sk (r 3) L a) : Int)), some (zi (ngV (r 3) L a)), some (zi (nWV (r 3) L a))]) (st2 := [zi e]) [(162, .iload_n 3)] (by decide +kernel) rfl ?_
            refine Zn.ifc (c := .eq) (off := 26) 189 (by decide +kernel) rfl ⟨by omega, by omega⟩ (fun c_12 => ?_) (fun c_12 => ?_)
            · have c_12 : e = 0 := c_12
              refine Zn.seg (pc2 := 190) (ls2 := [some (za (A 0)), some (zi x), some (zi y), some (zi e), some (zi (cur (r 3) L (n1A (r 3) L a))), some (zi ((sk (r 3) L a) : Int)), some (zi (ngV (r 3) L a)), some (zi (nWV (r 3) L a))]) (st2 := [zi 1]) [(189, .iconst 1)] (by decide +kernel) rfl ?_
              exact Zn.bret (by decide +kernel) rfl (by first | decide | omega) (⟨by refine congrArg some (congrArg zi ?_); rw [rdV, if_pos (by omega), if_pos (by omega)], by rw [rdA, if_pos (by omega), if_pos (by omega), rdN, if_pos (by omega)]⟩)
            · have c_12 : ¬ (e = 0) := c_12
              refine Zn.seg (pc2 := 167) (ls2 := [some (za (A 0)), some (zi x), some (zi y), some (zi e), some (zi (cur (r 3) L (n1A (r 3) L a))), some (zi ((sk (r 3) L a) : Int)), some (zi (ngV (r 3) L a)), some (zi (nWV (r 3) L a))]) (st2 := [za (A 0)]) [(166, .aload_n 0)] (by decide +kernel) rfl ?_
              refine Zn.get (ix := 39) hD 0 (by decide +kernel) rfl rfl rfl ?_
              refine Zn.seg (pc2 := 171) (ls2 := [some (za (A 0)), some (zi x), some (zi y), some (zi e), some (zi (cur (r 3) L (n1A (r 3) L a))), some (zi ((sk (r 3) L a) : Int)), some (zi (ngV (r 3) L a)), some (zi (nWV (r 3) L a))]) (st2 := [za (A 0), za (A 9)]) [(170, .aload_n 0)] (by decide +kernel) rfl ?_
              refine Zn.get (ix := 156) hD 0 (by decide +kernel) rfl rfl rfl ?_
              refine Zn.eq (st2 := [zi (nVV (r 3) L a), za (A 9)]) rfl rfl rfl rfl ?_
              refine Zn.seg (pc2 := 177) (ls2 := [some (za (A 0)), some (zi x), some (zi y), some (zi e), some (zi (cur (r 3) L (n1A (r 3) L a))), some (zi ((sk (r 3) L a) : Int)), some (zi (ngV (r 3) L a)), some (zi (nWV (r 3) L a))]) (st2 := [zi (nVV (r 3) L a + 6), za (A 9)]) [(174, .bipush 6), (176, .iadd)] (by decide +kernel) rfl ?_
              refine Zn.iald hD 9 ((nVV (r 3) L a + 6).toNat) (by decide +kernel) rfl (by omega) (by omega) rfl ?_
              refine Zn.ifc (c := .le) (off := 11) 189 (by decide +kernel) rfl ⟨by omega, by omega⟩ (fun c_13 => ?_) (fun c_13 => ?_)
              · have c_13 : (r 9) ((nVV (r 3) L a + 6).toNat) ≤ 0 := c_13
                refine Zn.seg (pc2 := 190) (ls2 := [some (za (A 0)), some (zi x), some (zi y), some (zi e), some (zi (cur (r 3) L (n1A (r 3) L a))), some (zi ((sk (r 3) L a) : Int)), some (zi (ngV (r 3) L a)), some (zi (nWV (r 3) L a))]) (st2 := [zi 1]) [(189, .iconst 1)] (by decide +kernel) rfl ?_
                exact Zn.bret (by decide +kernel) rfl (by first | decide | omega) (⟨by refine congrArg some (congrArg zi ?_); rw [rdV, if_pos (by omega), if_pos (by omega)], by rw [rdA, if_pos (by omega), if_pos (by omega), rdN, if_pos (by omega)]⟩)
              · have c_13 : ¬ ((r 9) ((nVV (r 3) L a + 6).toNat) ≤ 0) := c_13
                refine Zn.seg (pc2 := 184) (ls2 := [some (za (A 0)), some (zi x), some (zi y), some (zi e), some (zi (cur (r 3) L (n1A (r 3) L a))), some (zi ((sk (r 3) L a) : Int)), some (zi (ngV (r 3) L a)), some (zi (nWV (r 3) L a))]) (st2 := [zi ((sk (r 3) L a) : Int), za (A 0)]) [(181, .aload_n 0), (182, .iload 5)] (by decide +kernel) rfl ?_
                refine Zn.put (ix := 142) hD 0 (by decide +kernel) rfl rfl rfl rfl rfl ?_
                refine Zn.eq (h2 := zov (LM A (va_up (va_up m 9 ((sk (r 3) L a) : Int)) 14 (nVV (r 3) L a)) r) h) rfl rfl rfl rfl ?_
                have hD : zND (LM A (va_up (va_up m 9 ((sk (r 3) L a) : Int)) 14 (nVV (r 3) L a)) r) := hD
                refine Zn.seg (pc2 := 188) (ls2 := [some (za (A 0)), some (zi x), some (zi y), some (zi e), some (zi (cur (r 3) L (n1A (r 3) L a))), some (zi ((sk (r 3) L a) : Int)), some (zi (ngV (r 3) L a)), some (zi (nWV (r 3) L a))]) (st2 := [zi 0]) [(187, .iconst 0)] (by decide +kernel) rfl ?_
                exact Zn.bret (by decide +kernel) rfl (by first | decide | omega) (⟨by refine congrArg some (congrArg zi ?_); rw [rdV, if_pos (by omega), if_neg (by omega)], by rw [rdA, if_pos (by omega), if_neg (by omega), rdN, if_pos (by omega)]⟩)
        · have c_8 : ¬ (ngV (r 3) L a = 0) := c_8
          refine Zn.seg (pc2 := 144) (ls2 := [some (za (A 0)), some (zi x), some (zi y), some (zi e), some (zi (cur (r 3) L (n1A (r 3) L a))), some (zi ((sk (r 3) L a) : Int)), some (zi (ngV (r 3) L a)), some (zi (nWV (r 3) L a))]) (st2 := [zi (-(nWV (r 3) L a)), za (A 0)]) [(136, .iload 7), (138, .ineg), (139, .goto 5)] (by decide +kernel) rfl ?_
          refine Zn.put (ix := 156) hD 0 (by decide +kernel) rfl rfl rfl rfl rfl ?_
          refine Zn.eq (h2 := zov (LM A (va_up (va_up m 9 (nEA (r 3) L a : Int)) 14 (-(nWV (r 3) L a))) r) h) rfl rfl rfl rfl ?_
          have hD : zND (LM A (va_up (va_up m 9 (nEA (r 3) L a : Int)) 14 (-(nWV (r 3) L a))) r) := hD
          refine Zn.eq (pc2 := 147) (ls2 := [some (za (A 0)), some (zi x), some (zi y), some (zi e), some (zi (cur (r 3) L (n1A (r 3) L a))), some (zi ((sk (r 3) L a) : Int)), some (zi (ngV (r 3) L a)), some (zi (nWV (r 3) L a))]) (st2 := []) (h2 := zov (LM A (va_up (va_up m 9 (nEA (r 3) L a : Int)) 14 (nVV (r 3) L a)) r) h) rfl rfl rfl (by first | (exfalso; omega) | (rw [nVV, if_neg (by omega)]; done) | (rw [nVV, if_pos (by omega)]; done)) ?_
          have hD : zND (LM A (va_up (va_up m 9 (nEA (r 3) L a : Int)) 14 (nVV (r 3) L a)) r) := hD
          refine Zn.seg (pc2 := 148) (ls2 := [some (za (A 0)), some (zi x), some (zi y), some (zi e), some (zi (cur (r 3) L (n1A (r 3) L a))), some (zi ((sk (r 3) L a) : Int)), some (zi (ngV (r 3) L a)), some (zi (nWV (r 3) L a))]) (st2 := [za (A 0)]) [(147, .aload_n 0)] (by decide +kernel) rfl ?_
          refine Zn.get (ix := 156) hD 0 (by decide +kernel) rfl rfl rfl ?_
          refine Zn.eq (st2 := [zi (nVV (r 3) L a)]) rfl rfl rfl rfl ?_
          refine Zn.i2l (by decide +kernel) ⟨by omega, by omega⟩ ?_
          refine Zn.seg (pc2 := 153) (ls2 := [some (za (A 0)), some (zi x), some (zi y), some (zi e), some (zi (cur (r 3) L (n1A (r 3) L a))), some (zi ((sk (r 3) L a) : Int)), some (zi (ngV (r 3) L a)), some (zi (nWV (r 3) L a))]) (st2 := [zi x, zj (nVV (r 3) L a)]) [(152, .iload_n 1)] (by decide +kernel) rfl ?_
          refine Zn.i2l (by decide +kernel) ⟨by omega, by omega⟩ ?_
          refine Zn.seg (pc2 := 155) (ls2 := [some (za (A 0)), some (zi x), some (zi y), some (zi e), some (zi (cur (r 3) L (n1A (r 3) L a))), some (zi ((sk (r 3) L a) : Int)), some (zi (ngV (r 3) L a)), some (zi (nWV (r 3) L a))]) (st2 := [zi y, zj x, zj (nVV (r 3) L a)]) [(154, .iload_n 2)] (by decide +kernel) rfl ?_
          refine Zn.i2l (by decide +kernel) ⟨by omega, by omega⟩ ?_
          refine Zn.call (ins := .invokestatic 77) [zj (nVV (r 3) L a), zj x, zj y] [] (by decide +kernel) rfl rfl rfl ⟨rfl, rfl⟩ ⟨rfl, rfl, rfl⟩ rfl (zrecvS (by decide)) (sp_X8_in (x := nVV (r 3) L a) (lo := x) (hi := y) (⟨by omega, by omega⟩) (⟨by omega, by omega⟩) (⟨by omega, by omega⟩)) (fun v h2 hp => ?_)
          obtain ⟨rfl, hq_14⟩ := hp
          refine Zn.eq (pc2 := 159) (ls2 := [some (za (A 0)), some (zi x), some (zi y), some (zi e), some (zi (cur (r 3) L (n1A (r 3) L a))), some (zi ((sk (r 3) L a) : Int)), some (zi (ngV (r 3) L a)), some (zi (nWV (r 3) L a))]) (st2 := [zi (inB x y (nVV (r 3) L a))]) (h2 := zov (LM A (va_up (va_up m 9 (nEA (r 3) L a : Int)) 14 (nVV (r 3) L a)) r) h) rfl rfl rfl hq_14 ?_
          have hD : zND (LM A (va_up (va_up m 9 (nEA (r 3) L a : Int)) 14 (nVV (r 3) L a)) r) := hD
          have q_15 := inB_spec x y (nVV (r 3) L a)
          refine Zn.ifc (c := .eq) (off := 22) 181 (by decide +kernel) rfl ⟨by omega, by omega⟩ (fun c_16 => ?_) (fun c_16 => ?_)
          · have c_16 : inB x y (nVV (r 3) L a) = 0 := c_16
            refine Zn.seg (pc2 := 184) (ls2 := [some (za (A 0)), some (zi x), some (zi y), some (zi e), some (zi (cur (r 3) L (n1A (r 3) L a))), some (zi ((sk (r 3) L a) : Int)), some (zi (ngV (r 3) L a)), some (zi (nWV (r 3) L a))]) (st2 := [zi ((sk (r 3) L a) : Int), za (A 0)]) [(181, .aload_n 0), (182, .iload 5)] (by decide +kernel) rfl ?_
            refine Zn.put (ix := 142) hD 0 (by decide +kernel) rfl rfl rfl rfl rfl ?_
            refine Zn.eq (h2 := zov (LM A (va_up (va_up m 9 ((sk (r 3) L a) : Int)) 14 (nVV (r 3) L a)) r) h) rfl rfl rfl rfl ?_
            have hD : zND (LM A (va_up (va_up m 9 ((sk (r 3) L a) : Int)) 14 (nVV (r 3) L a)) r) := hD
            refine Zn.seg (pc2 := 188) (ls2 := [some (za (A 0)), some (zi x), some (zi y), some (zi e), some (zi (cur (r 3) L (n1A (r 3) L a))), some (zi ((sk (r 3) L a) : Int)), some (zi (ngV (r 3) L a)), some (zi (nWV (r 3) L a))]) (st2 := [zi 0]) [(187, .iconst 0)] (by decide +kernel) rfl ?_
            exact Zn.bret (by decide +kernel) rfl (by first | decide | omega) (⟨by refine congrArg some (congrArg zi ?_); rw [rdV, if_pos (by omega), if_neg (by omega)], by rw [rdA, if_pos (by omega), if_neg (by omega), rdN, if_pos (by omega)]⟩)
          · have c_16 : ¬ (inB x y (nVV (r 3) L a) = 0) := c_16
            refine Zn.seg (pc2 := 163) (ls2 := [some (za (A 0)), some (zi x), some (zi y), some (zi e), some (zi (cur (r 3) L (n1A (r 3) L a))), some (zi ((sk (r 3) L a) : Int)), some (zi (ngV (r 3) L a)), some (zi (nWV (r 3) L a))]) (st2 := [zi e]) [(162, .iload_n 3)] (by decide +kernel) rfl ?_
            refine Zn.ifc (c := .eq) (off := 26) 189 (by decide +kernel) rfl ⟨by omega, by omega⟩ (fun c_17 => ?_) (fun c_17 => ?_)
            · have c_17 : e = 0 := c_17
              refine Zn.seg (pc2 := 190) (ls2 := [some (za (A 0)), some (zi x), some (zi y), some (zi e), some (zi (cur (r 3) L (n1A (r 3) L a))), some (zi ((sk (r 3) L a) : Int)), some (zi (ngV (r 3) L a)), some (zi (nWV (r 3) L a))]) (st2 := [zi 1]) [(189, .iconst 1)] (by decide +kernel) rfl ?_
              exact Zn.bret (by decide +kernel) rfl (by first | decide | omega) (⟨by refine congrArg some (congrArg zi ?_); rw [rdV, if_pos (by omega), if_pos (by omega)], by rw [rdA, if_pos (by omega), if_pos (by omega), rdN, if_pos (by omega)]⟩)
            · have c_17 : ¬ (e = 0) := c_17
              refine Zn.seg (pc2 := 167) (ls2 := [some (za (A 0)), some (zi x), some (zi y), some (zi e), some (zi (cur (r 3) L (n1A (r 3) L a))), some (zi ((sk (r 3) L a) : Int)), some (zi (ngV (r 3) L a)), some (zi (nWV (r 3) L a))]) (st2 := [za (A 0)]) [(166, .aload_n 0)] (by decide +kernel) rfl ?_
              refine Zn.get (ix := 39) hD 0 (by decide +kernel) rfl rfl rfl ?_
              refine Zn.seg (pc2 := 171) (ls2 := [some (za (A 0)), some (zi x), some (zi y), some (zi e), some (zi (cur (r 3) L (n1A (r 3) L a))), some (zi ((sk (r 3) L a) : Int)), some (zi (ngV (r 3) L a)), some (zi (nWV (r 3) L a))]) (st2 := [za (A 0), za (A 9)]) [(170, .aload_n 0)] (by decide +kernel) rfl ?_
              refine Zn.get (ix := 156) hD 0 (by decide +kernel) rfl rfl rfl ?_
              refine Zn.eq (st2 := [zi (nVV (r 3) L a), za (A 9)]) rfl rfl rfl rfl ?_
              refine Zn.seg (pc2 := 177) (ls2 := [some (za (A 0)), some (zi x), some (zi y), some (zi e), some (zi (cur (r 3) L (n1A (r 3) L a))), some (zi ((sk (r 3) L a) : Int)), some (zi (ngV (r 3) L a)), some (zi (nWV (r 3) L a))]) (st2 := [zi (nVV (r 3) L a + 6), za (A 9)]) [(174, .bipush 6), (176, .iadd)] (by decide +kernel) rfl ?_
              refine Zn.iald hD 9 ((nVV (r 3) L a + 6).toNat) (by decide +kernel) rfl (by omega) (by omega) rfl ?_
              refine Zn.ifc (c := .le) (off := 11) 189 (by decide +kernel) rfl ⟨by omega, by omega⟩ (fun c_18 => ?_) (fun c_18 => ?_)
              · have c_18 : (r 9) ((nVV (r 3) L a + 6).toNat) ≤ 0 := c_18
                refine Zn.seg (pc2 := 190) (ls2 := [some (za (A 0)), some (zi x), some (zi y), some (zi e), some (zi (cur (r 3) L (n1A (r 3) L a))), some (zi ((sk (r 3) L a) : Int)), some (zi (ngV (r 3) L a)), some (zi (nWV (r 3) L a))]) (st2 := [zi 1]) [(189, .iconst 1)] (by decide +kernel) rfl ?_
                exact Zn.bret (by decide +kernel) rfl (by first | decide | omega) (⟨by refine congrArg some (congrArg zi ?_); rw [rdV, if_pos (by omega), if_pos (by omega)], by rw [rdA, if_pos (by omega), if_pos (by omega), rdN, if_pos (by omega)]⟩)
              · have c_18 : ¬ ((r 9) ((nVV (r 3) L a + 6).toNat) ≤ 0) := c_18
                refine Zn.seg (pc2 := 184) (ls2 := [some (za (A 0)), some (zi x), some (zi y), some (zi e), some (zi (cur (r 3) L (n1A (r 3) L a))), some (zi ((sk (r 3) L a) : Int)), some (zi (ngV (r 3) L a)), some (zi (nWV (r 3) L a))]) (st2 := [zi ((sk (r 3) L a) : Int), za (A 0)]) [(181, .aload_n 0), (182, .iload 5)] (by decide +kernel) rfl ?_
                refine Zn.put (ix := 142) hD 0 (by decide +kernel) rfl rfl rfl rfl rfl ?_
                refine Zn.eq (h2 := zov (LM A (va_up (va_up m 9 ((sk (r 3) L a) : Int)) 14 (nVV (r 3) L a)) r) h) rfl rfl rfl rfl ?_
                have hD : zND (LM A (va_up (va_up m 9 ((sk (r 3) L a) : Int)) 14 (nVV (r 3) L a)) r) := hD
                refine Zn.seg (pc2 := 188) (ls2 := [some (za (A 0)), some (zi x), some (zi y), some (zi e), some (zi (cur (r 3) L (n1A (r 3) L a))), some (zi ((sk (r 3) L a) : Int)), some (zi (ngV (r 3) L a)), some (zi (nWV (r 3) L a))]) (st2 := [zi 0]) [(187, .iconst 0)] (by decide +kernel) rfl ?_
                exact Zn.bret (by decide +kernel) rfl (by first | decide | omega) (⟨by refine congrArg some (congrArg zi ?_); rw [rdV, if_pos (by omega), if_neg (by omega)], by rw [rdA, if_pos (by omega), if_neg (by omega), rdN, if_pos (by omega)]⟩)
      · have c_7 : ¬ ((L : Int) ≤ (n1A (r 3) L a : Int) + 1) := c_7
        refine Zn.seg (pc2 := 86) (ls2 := [some (za (A 0)), some (zi x), some (zi y), some (zi e), some (zi (cur (r 3) L (n1A (r 3) L a))), some (zi ((sk (r 3) L a) : Int)), some (zi (ngV (r 3) L a)), some (zi (cur (r 3) L (n1A (r 3) L a) - 48))]) (st2 := [za (A 0)]) [(85, .aload_n 0)] (by decide +kernel) rfl ?_
        refine Zn.get (ix := 20) hD 0 (by decide +kernel) rfl rfl rfl ?_
        refine Zn.seg (pc2 := 90) (ls2 := [some (za (A 0)), some (zi x), some (zi y), some (zi e), some (zi (cur (r 3) L (n1A (r 3) L a))), some (zi ((sk (r 3) L a) : Int)), some (zi (ngV (r 3) L a)), some (zi (cur (r 3) L (n1A (r 3) L a) - 48))]) (st2 := [za (A 0), za (A 3)]) [(89, .aload_n 0)] (by decide +kernel) rfl ?_
        refine Zn.get (ix := 142) hD 0 (by decide +kernel) rfl rfl rfl ?_
        refine Zn.eq (st2 := [zi ((n1A (r 3) L a : Int) + 1), za (A 3)]) rfl rfl rfl rfl ?_
        refine Zn.iald hD 3 (n1A ( r 3 ) L a + 1) (by decide +kernel) rfl (by omega) (by omega) rfl ?_
        refine Zn.call (ins := .invokestatic 152) [zi ((r 3) (n1A ( r 3 ) L a + 1))] [] (by decide +kernel) rfl rfl rfl ⟨rfl, rfl⟩ ⟨rfl, rfl, rfl⟩ rfl (zrecvS (by decide)) (sp_X8_isFigure (x := (r 3) (n1A ( r 3 ) L a + 1)) (⟨by omega, by omega⟩)) (fun v h2 hp => ?_)
        obtain ⟨rfl, hq_19⟩ := hp
        refine Zn.eq (pc2 := 97) (ls2 := [some (za (A 0)), some (zi x), some (zi y), some (zi e), some (zi (cur (r 3) L (n1A (r 3) L a))), some (zi ((sk (r 3) L a) : Int)), some (zi (ngV (r 3) L a)), some (zi (cur (r 3) L (n1A (r 3) L a) - 48))]) (st2 := [zi (inB 48 57 ((r 3) (n1A ( r 3 ) L a + 1)))]) (h2 := zov (LM A (va_up m 9 ((n1A (r 3) L a : Int) + 1)) r) h) rfl rfl rfl hq_19 ?_
        have hD : zND (LM A (va_up m 9 ((n1A (r 3) L a : Int) + 1)) r) := hD
        have q_20 := inB_spec 48 57 ((r 3) (n1A ( r 3 ) L a + 1))
        refine Zn.ifc (c := .eq) (off := 33) 130 (by decide +kernel) rfl ⟨by omega, by omega⟩ (fun c_21 => ?_) (fun c_21 => ?_)
        · have c_21 : inB 48 57 ((r 3) (n1A ( r 3 ) L a + 1)) = 0 := c_21
          refine Zn.eq (pc2 := 130) (ls2 := [some (za (A 0)), some (zi x), some (zi y), some (zi e), some (zi (cur (r 3) L (n1A (r 3) L a))), some (zi ((sk (r 3) L a) : Int)), some (zi (ngV (r 3) L a)), some (zi (nWV (r 3) L a))]) (st2 := []) (h2 := zov (LM A (va_up m 9 (nEA (r 3) L a : Int)) r) h) rfl (zcons rfl (zcons rfl (zcons rfl (zcons rfl (zcons rfl (zcons rfl (zcons rfl (zcons (congrArg (fun z => some (zi z)) (by first | (rw [nWV, if_pos (by omega)]; omega) | (rw [nWV, if_neg (by omega)]))) rfl)))))))) rfl (by first | (rw [show (nEA (r 3) L a : Int) = (n1A (r 3) L a : Int) + 1 + 1 from by omega]; done) | (rw [show (nEA (r 3) L a : Int) = (n1A (r 3) L a : Int) + 1 from by omega]; done)) ?_
          have hD : zND (LM A (va_up m 9 (nEA (r 3) L a : Int)) r) := hD
          refine Zn.seg (pc2 := 133) (ls2 := [some (za (A 0)), some (zi x), some (zi y), some (zi e), some (zi (cur (r 3) L (n1A (r 3) L a))), some (zi ((sk (r 3) L a) : Int)), some (zi (ngV (r 3) L a)), some (zi (nWV (r 3) L a))]) (st2 := [zi (ngV (r 3) L a), za (A 0)]) [(130, .aload_n 0), (131, .iload 6)] (by decide +kernel) rfl ?_
          refine Zn.ifc (c := .eq) (off := 9) 142 (by decide +kernel) rfl ⟨by omega, by omega⟩ (fun c_22 => ?_) (fun c_22 => ?_)
          · have c_22 : ngV (r 3) L a = 0 := c_22
            refine Zn.seg (pc2 := 144) (ls2 := [some (za (A 0)), some (zi x), some (zi y), some (zi e), some (zi (cur (r 3) L (n1A (r 3) L a))), some (zi ((sk (r 3) L a) : Int)), some (zi (ngV (r 3) L a)), some (zi (nWV (r 3) L a))]) (st2 := [zi (nWV (r 3) L a), za (A 0)]) [(142, .iload 7)] (by decide +kernel) rfl ?_
            refine Zn.put (ix := 156) hD 0 (by decide +kernel) rfl rfl rfl rfl rfl ?_
            refine Zn.eq (h2 := zov (LM A (va_up (va_up m 9 (nEA (r 3) L a : Int)) 14 (nWV (r 3) L a)) r) h) rfl rfl rfl rfl ?_
            have hD : zND (LM A (va_up (va_up m 9 (nEA (r 3) L a : Int)) 14 (nWV (r 3) L a)) r) := hD
            refine Zn.eq (pc2 := 147) (ls2 := [some (za (A 0)), some (zi x), some (zi y), some (zi e), some (zi (cur (r 3) L (n1A (r 3) L a))), some (zi ((sk (r 3) L a) : Int)), some (zi (ngV (r 3) L a)), some (zi (nWV (r 3) L a))]) (st2 := []) (h2 := zov (LM A (va_up (va_up m 9 (nEA (r 3) L a : Int)) 14 (nVV (r 3) L a)) r) h) rfl rfl rfl (by first | (exfalso; omega) | (rw [nVV, if_neg (by omega)]; done) | (rw [nVV, if_pos (by omega)]; done)) ?_
            have hD : zND (LM A (va_up (va_up m 9 (nEA (r 3) L a : Int)) 14 (nVV (r 3) L a)) r) := hD
            refine Zn.seg (pc2 := 148) (ls2 := [some (za (A 0)), some (zi x), some (zi y), some (zi e), some (zi (cur (r 3) L (n1A (r 3) L a))), some (zi ((sk (r 3) L a) : Int)), some (zi (ngV (r 3) L a)), some (zi (nWV (r 3) L a))]) (st2 := [za (A 0)]) [(147, .aload_n 0)] (by decide +kernel) rfl ?_
            refine Zn.get (ix := 156) hD 0 (by decide +kernel) rfl rfl rfl ?_
            refine Zn.eq (st2 := [zi (nVV (r 3) L a)]) rfl rfl rfl rfl ?_
            refine Zn.i2l (by decide +kernel) ⟨by omega, by omega⟩ ?_
            refine Zn.seg (pc2 := 153) (ls2 := [some (za (A 0)), some (zi x), some (zi y), some (zi e), some (zi (cur (r 3) L (n1A (r 3) L a))), some (zi ((sk (r 3) L a) : Int)), some (zi (ngV (r 3) L a)), some (zi (nWV (r 3) L a))]) (st2 := [zi x, zj (nVV (r 3) L a)]) [(152, .iload_n 1)] (by decide +kernel) rfl ?_
            refine Zn.i2l (by decide +kernel) ⟨by omega, by omega⟩ ?_
            refine Zn.seg (pc2 := 155) (ls2 := [some (za (A 0)), some (zi x), some (zi y), some (zi e), some (zi (cur (r 3) L (n1A (r 3) L a))), some (zi ((sk (r 3) L a) : Int)), some (zi (ngV (r 3) L a)), some (zi (nWV (r 3) L a))]) (st2 := [zi y, zj x, zj (nVV (r 3) L a)]) [(154, .iload_n 2)] (by decide +kernel) rfl ?_
            refine Zn.i2l (by decide +kernel) ⟨by omega, by omega⟩ ?_
            refine Zn.call (ins := .invokestatic 77) [zj (nVV (r 3) L a), zj x, zj y] [] (by decide +kernel) rfl rfl rfl ⟨rfl, rfl⟩ ⟨rfl, rfl, rfl⟩ rfl (zrecvS (by decide)) (sp_X8_in (x := nVV (r 3) L a) (lo := x) (hi := y) (⟨by omega, by omega⟩) (⟨by omega, by omega⟩) (⟨by omega, by omega⟩)) (fun v h2 hp => ?_)
            obtain ⟨rfl, hq_23⟩ := hp
            refine Zn.eq (pc2 := 159) (ls2 := [some (za (A 0)), some (zi x), some (zi y), some (zi e), some (zi (cur (r 3) L (n1A (r 3) L a))), some (zi ((sk (r 3) L a) : Int)), some (zi (ngV (r 3) L a)), some (zi (nWV (r 3) L a))]) (st2 := [zi (inB x y (nVV (r 3) L a))]) (h2 := zov (LM A (va_up (va_up m 9 (nEA (r 3) L a : Int)) 14 (nVV (r 3) L a)) r) h) rfl rfl rfl hq_23 ?_
            have hD : zND (LM A (va_up (va_up m 9 (nEA (r 3) L a : Int)) 14 (nVV (r 3) L a)) r) := hD
            have q_24 := inB_spec x y (nVV (r 3) L a)
            refine Zn.ifc (c := .eq) (off := 22) 181 (by decide +kernel) rfl ⟨by omega, by omega⟩ (fun c_25 => ?_) (fun c_25 => ?_)
            · have c_25 : inB x y (nVV (r 3) L a) = 0 := c_25
              refine Zn.seg (pc2 := 184) (ls2 := [some (za (A 0)), some (zi x), some (zi y), some (zi e), some (zi (cur (r 3) L (n1A (r 3) L a))), some (zi ((sk (r 3) L a) : Int)), some (zi (ngV (r 3) L a)), some (zi (nWV (r 3) L a))]) (st2 := [zi ((sk (r 3) L a) : Int), za (A 0)]) [(181, .aload_n 0), (182, .iload 5)] (by decide +kernel) rfl ?_
              refine Zn.put (ix := 142) hD 0 (by decide +kernel) rfl rfl rfl rfl rfl ?_
              refine Zn.eq (h2 := zov (LM A (va_up (va_up m 9 ((sk (r 3) L a) : Int)) 14 (nVV (r 3) L a)) r) h) rfl rfl rfl rfl ?_
              have hD : zND (LM A (va_up (va_up m 9 ((sk (r 3) L a) : Int)) 14 (nVV (r 3) L a)) r) := hD
              refine Zn.seg (pc2 := 188) (ls2 := [some (za (A 0)), some (zi x), some (zi y), some (zi e), some (zi (cur (r 3) L (n1A (r 3) L a))), some (zi ((sk (r 3) L a) : Int)), some (zi (ngV (r 3) L a)), some (zi (nWV (r 3) L a))]) (st2 := [zi 0]) [(187, .iconst 0)] (by decide +kernel) rfl ?_
              exact Zn.bret (by decide +kernel) rfl (by first | decide | omega) (⟨by refine congrArg some (congrArg zi ?_); rw [rdV, if_pos (by omega), if_neg (by omega)], by rw [rdA, if_pos (by omega), if_neg (by omega), rdN, if_pos (by omega)]⟩)
            · have c_25 : ¬ (inB x y (nVV (r 3) L a) = 0) := c_25
              refine Zn.seg (pc2 := 163) (ls2 := [some (za (A 0)), some (zi x), some (zi y), some (zi e), some (zi (cur (r 3) L (n1A (r 3) L a))), some (zi ((sk (r 3) L a) : Int)), some (zi (ngV (r 3) L a)), some (zi (nWV (r 3) L a))]) (st2 := [zi e]) [(162, .iload_n 3)] (by decide +kernel) rfl ?_
              refine Zn.ifc (c := .eq) (off := 26) 189 (by decide +kernel) rfl ⟨by omega, by omega⟩ (fun c_26 => ?_) (fun c_26 => ?_)
              · have c_26 : e = 0 := c_26
                refine Zn.seg (pc2 := 190) (ls2 := [some (za (A 0)), some (zi x), some (zi y), some (zi e), some (zi (cur (r 3) L (n1A (r 3) L a))), some (zi ((sk (r 3) L a) : Int)), some (zi (ngV (r 3) L a)), some (zi (nWV (r 3) L a))]) (st2 := [zi 1]) [(189, .iconst 1)] (by decide +kernel) rfl ?_
                exact Zn.bret (by decide +kernel) rfl (by first | decide | omega) (⟨by refine congrArg some (congrArg zi ?_); rw [rdV, if_pos (by omega), if_pos (by omega)], by rw [rdA, if_pos (by omega), if_pos (by omega), rdN, if_pos (by omega)]⟩)
              · have c_26 : ¬ (e = 0) := c_26
                refine Zn.seg (pc2 := 167) (ls2 := [some (za (A 0)), some (zi x), some (zi y), some (zi e), some (zi (cur (r 3) L (n1A (r 3) L a))), some (zi ((sk (r 3) L a) : Int)), some (zi (ngV (r 3) L a)), some (zi (nWV (r 3) L a))]) (st2 := [za (A 0)]) [(166, .aload_n 0)] (by decide +kernel) rfl ?_
                refine Zn.get (ix := 39) hD 0 (by decide +kernel) rfl rfl rfl ?_
                refine Zn.seg (pc2 := 171) (ls2 := [some (za (A 0)), some (zi x), some (zi y), some (zi e), some (zi (cur (r 3) L (n1A (r 3) L a))), some (zi ((sk (r 3) L a) : Int)), some (zi (ngV (r 3) L a)), some (zi (nWV (r 3) L a))]) (st2 := [za (A 0), za (A 9)]) [(170, .aload_n 0)] (by decide +kernel) rfl ?_
                refine Zn.get (ix := 156) hD 0 (by decide +kernel) rfl rfl rfl ?_
                refine Zn.eq (st2 := [zi (nVV (r 3) L a), za (A 9)]) rfl rfl rfl rfl ?_
                refine Zn.seg (pc2 := 177) (ls2 := [some (za (A 0)), some (zi x), some (zi y), some (zi e), some (zi (cur (r 3) L (n1A (r 3) L a))), some (zi ((sk (r 3) L a) : Int)), some (zi (ngV (r 3) L a)), some (zi (nWV (r 3) L a))]) (st2 := [zi (nVV (r 3) L a + 6), za (A 9)]) [(174, .bipush 6), (176, .iadd)] (by decide +kernel) rfl ?_
                refine Zn.iald hD 9 ((nVV (r 3) L a + 6).toNat) (by decide +kernel) rfl (by omega) (by omega) rfl ?_
                refine Zn.ifc (c := .le) (off := 11) 189 (by decide +kernel) rfl ⟨by omega, by omega⟩ (fun c_27 => ?_) (fun c_27 => ?_)
                · have c_27 : (r 9) ((nVV (r 3) L a + 6).toNat) ≤ 0 := c_27
                  refine Zn.seg (pc2 := 190) (ls2 := [some (za (A 0)), some (zi x), some (zi y), some (zi e), some (zi (cur (r 3) L (n1A (r 3) L a))), some (zi ((sk (r 3) L a) : Int)), some (zi (ngV (r 3) L a)), some (zi (nWV (r 3) L a))]) (st2 := [zi 1]) [(189, .iconst 1)] (by decide +kernel) rfl ?_
                  exact Zn.bret (by decide +kernel) rfl (by first | decide | omega) (⟨by refine congrArg some (congrArg zi ?_); rw [rdV, if_pos (by omega), if_pos (by omega)], by rw [rdA, if_pos (by omega), if_pos (by omega), rdN, if_pos (by omega)]⟩)
                · have c_27 : ¬ ((r 9) ((nVV (r 3) L a + 6).toNat) ≤ 0) := c_27
                  refine Zn.seg (pc2 := 184) (ls2 := [some (za (A 0)), some (zi x), some (zi y), some (zi e), some (zi (cur (r 3) L (n1A (r 3) L a))), some (zi ((sk (r 3) L a) : Int)), some (zi (ngV (r 3) L a)), some (zi (nWV (r 3) L a))]) (st2 := [zi ((sk (r 3) L a) : Int), za (A 0)]) [(181, .aload_n 0), (182, .iload 5)] (by decide +kernel) rfl ?_
                  refine Zn.put (ix := 142) hD 0 (by decide +kernel) rfl rfl rfl rfl rfl ?_
                  refine Zn.eq (h2 := zov (LM A (va_up (va_up m 9 ((sk (r 3) L a) : Int)) 14 (nVV (r 3) L a)) r) h) rfl rfl rfl rfl ?_
                  have hD : zND (LM A (va_up (va_up m 9 ((sk (r 3) L a) : Int)) 14 (nVV (r 3) L a)) r) := hD
                  refine Zn.seg (pc2 := 188) (ls2 := [some (za (A 0)), some (zi x), some (zi y), some (zi e), some (zi (cur (r 3) L (n1A (r 3) L a))), some (zi ((sk (r 3) L a) : Int)), some (zi (ngV (r 3) L a)), some (zi (nWV (r 3) L a))]) (st2 := [zi 0]) [(187, .iconst 0)] (by decide +kernel) rfl ?_
                  exact Zn.bret (by decide +kernel) rfl (by first | decide | omega) (⟨by refine congrArg some (congrArg zi ?_); rw [rdV, if_pos (by omega), if_neg (by omega)], by rw [rdA, if_pos (by omega), if_neg (by omega), rdN, if_pos (by omega)]⟩)
          · have c_22 : ¬ (ngV (r 3) L a = 0) := c_22
            refine Zn.seg (pc2 := 144) (ls2 := [some (za (A 0)), some (zi x), some (zi y), some (zi e), some (zi (cur (r 3) L (n1A (r 3) L a))), some (zi ((sk (r 3) L a) : Int)), some (zi (ngV (r 3) L a)), some (zi (nWV (r 3) L a))]) (st2 := [zi (-(nWV (r 3) L a)), za (A 0)]) [(136, .iload 7), (138, .ineg), (139, .goto 5)] (by decide +kernel) rfl ?_
            refine Zn.put (ix := 156) hD 0 (by decide +kernel) rfl rfl rfl rfl rfl ?_
            refine Zn.eq (h2 := zov (LM A (va_up (va_up m 9 (nEA (r 3) L a : Int)) 14 (-(nWV (r 3) L a))) r) h) rfl rfl rfl rfl ?_
            have hD : zND (LM A (va_up (va_up m 9 (nEA (r 3) L a : Int)) 14 (-(nWV (r 3) L a))) r) := hD
            refine Zn.eq (pc2 := 147) (ls2 := [some (za (A 0)), some (zi x), some (zi y), some (zi e), some (zi (cur (r 3) L (n1A (r 3) L a))), some (zi ((sk (r 3) L a) : Int)), some (zi (ngV (r 3) L a)), some (zi (nWV (r 3) L a))]) (st2 := []) (h2 := zov (LM A (va_up (va_up m 9 (nEA (r 3) L a : Int)) 14 (nVV (r 3) L a)) r) h) rfl rfl rfl (by first | (exfalso; omega) | (rw [nVV, if_neg (by omega)]; done) | (rw [nVV, if_pos (by omega)]; done)) ?_
            have hD : zND (LM A (va_up (va_up m 9 (nEA (r 3) L a : Int)) 14 (nVV (r 3) L a)) r) := hD
            refine Zn.seg (pc2 := 148) (ls2 := [some (za (A 0)), some (zi x), some (zi y), some (zi e), some (zi (cur (r 3) L (n1A (r 3) L a))), some (zi ((sk (r 3) L a) : Int)), some (zi (ngV (r 3) L a)), some (zi (nWV (r 3) L a))]) (st2 := [za (A 0)]) [(147, .aload_n 0)] (by decide +kernel) rfl ?_
            refine Zn.get (ix := 156) hD 0 (by decide +kernel) rfl rfl rfl ?_
            refine Zn.eq (st2 := [zi (nVV (r 3) L a)]) rfl rfl rfl rfl ?_
            refine Zn.i2l (by decide +kernel) ⟨by omega, by omega⟩ ?_
            refine Zn.seg (pc2 := 153) (ls2 := [some (za (A 0)), some (zi x), some (zi y), some (zi e), some (zi (cur (r 3) L (n1A (r 3) L a))), some (zi ((sk (r 3) L a) : Int)), some (zi (ngV (r 3) L a)), some (zi (nWV (r 3) L a))]) (st2 := [zi x, zj (nVV (r 3) L a)]) [(152, .iload_n 1)] (by decide +kernel) rfl ?_
            refine Zn.i2l (by decide +kernel) ⟨by omega, by omega⟩ ?_
            refine Zn.seg (pc2 := 155) (ls2 := [some (za (A 0)), some (zi x), some (zi y), some (zi e), some (zi (cur (r 3) L (n1A (r 3) L a))), some (zi ((sk (r 3) L a) : Int)), some (zi (ngV (r 3) L a)), some (zi (nWV (r 3) L a))]) (st2 := [zi y, zj x, zj (nVV (r 3) L a)]) [(154, .iload_n 2)] (by decide +kernel) rfl ?_
            refine Zn.i2l (by decide +kernel) ⟨by omega, by omega⟩ ?_
            refine Zn.call (ins := .invokestatic 77) [zj (nVV (r 3) L a), zj x, zj y] [] (by decide +kernel) rfl rfl rfl ⟨rfl, rfl⟩ ⟨rfl, rfl, rfl⟩ rfl (zrecvS (by decide)) (sp_X8_in (x := nVV (r 3) L a) (lo := x) (hi := y) (⟨by omega, by omega⟩) (⟨by omega, by omega⟩) (⟨by omega, by omega⟩)) (fun v h2 hp => ?_)
            obtain ⟨rfl, hq_28⟩ := hp
            refine Zn.eq (pc2 := 159) (ls2 := [some (za (A 0)), some (zi x), some (zi y), some (zi e), some (zi (cur (r 3) L (n1A (r 3) L a))), some (zi ((sk (r 3) L a) : Int)), some (zi (ngV (r 3) L a)), some (zi (nWV (r 3) L a))]) (st2 := [zi (inB x y (nVV (r 3) L a))]) (h2 := zov (LM A (va_up (va_up m 9 (nEA (r 3) L a : Int)) 14 (nVV (r 3) L a)) r) h) rfl rfl rfl hq_28 ?_
            have hD : zND (LM A (va_up (va_up m 9 (nEA (r 3) L a : Int)) 14 (nVV (r 3) L a)) r) := hD
            have q_29 := inB_spec x y (nVV (r 3) L a)
            refine Zn.ifc (c := .eq) (off := 22) 181 (by decide +kernel) rfl ⟨by omega, by omega⟩ (fun c_30 => ?_) (fun c_30 => ?_)
            · have c_30 : inB x y (nVV (r 3) L a) = 0 := c_30
              refine Zn.seg (pc2 := 184) (ls2 := [some (za (A 0)), some (zi x), some (zi y), some (zi e), some (zi (cur (r 3) L (n1A (r 3) L a))), some (zi ((sk (r 3) L a) : Int)), some (zi (ngV (r 3) L a)), some (zi (nWV (r 3) L a))]) (st2 := [zi ((sk (r 3) L a) : Int), za (A 0)]) [(181, .aload_n 0), (182, .iload 5)] (by decide +kernel) rfl ?_
              refine Zn.put (ix := 142) hD 0 (by decide +kernel) rfl rfl rfl rfl rfl ?_
              refine Zn.eq (h2 := zov (LM A (va_up (va_up m 9 ((sk (r 3) L a) : Int)) 14 (nVV (r 3) L a)) r) h) rfl rfl rfl rfl ?_
              have hD : zND (LM A (va_up (va_up m 9 ((sk (r 3) L a) : Int)) 14 (nVV (r 3) L a)) r) := hD
              refine Zn.seg (pc2 := 188) (ls2 := [some (za (A 0)), some (zi x), some (zi y), some (zi e), some (zi (cur (r 3) L (n1A (r 3) L a))), some (zi ((sk (r 3) L a) : Int)), some (zi (ngV (r 3) L a)), some (zi (nWV (r 3) L a))]) (st2 := [zi 0]) [(187, .iconst 0)] (by decide +kernel) rfl ?_
              exact Zn.bret (by decide +kernel) rfl (by first | decide | omega) (⟨by refine congrArg some (congrArg zi ?_); rw [rdV, if_pos (by omega), if_neg (by omega)], by rw [rdA, if_pos (by omega), if_neg (by omega), rdN, if_pos (by omega)]⟩)
            · have c_30 : ¬ (inB x y (nVV (r 3) L a) = 0) := c_30
              refine Zn.seg (pc2 := 163) (ls2 := [some (za (A 0)), some (zi x), some (zi y), some (zi e), some (zi (cur (r 3) L (n1A (r 3) L a))), some (zi ((sk (r 3) L a) : Int)), some (zi (ngV (r 3) L a)), some (zi (nWV (r 3) L a))]) (st2 := [zi e]) [(162, .iload_n 3)] (by decide +kernel) rfl ?_
              refine Zn.ifc (c := .eq) (off := 26) 189 (by decide +kernel) rfl ⟨by omega, by omega⟩ (fun c_31 => ?_) (fun c_31 => ?_)
              · have c_31 : e = 0 := c_31
                refine Zn.seg (pc2 := 190) (ls2 := [some (za (A 0)), some (zi x), some (zi y), some (zi e), some (zi (cur (r 3) L (n1A (r 3) L a))), some (zi ((sk (r 3) L a) : Int)), some (zi (ngV (r 3) L a)), some (zi (nWV (r 3) L a))]) (st2 := [zi 1]) [(189, .iconst 1)] (by decide +kernel) rfl ?_
                exact Zn.bret (by decide +kernel) rfl (by first | decide | omega) (⟨by refine congrArg some (congrArg zi ?_); rw [rdV, if_pos (by omega), if_pos (by omega)], by rw [rdA, if_pos (by omega), if_pos (by omega), rdN, if_pos (by omega)]⟩)
              · have c_31 : ¬ (e = 0) := c_31
                refine Zn.seg (pc2 := 167) (ls2 := [some (za (A 0)), some (zi x), some (zi y), some (zi e), some (zi (cur (r 3) L (n1A (r 3) L a))), some (zi ((sk (r 3) L a) : Int)), some (zi (ngV (r 3) L a)), some (zi (nWV (r 3) L a))]) (st2 := [za (A 0)]) [(166, .aload_n 0)] (by decide +kernel) rfl ?_
                refine Zn.get (ix := 39) hD 0 (by decide +kernel) rfl rfl rfl ?_
                refine Zn.seg (pc2 := 171) (ls2 := [some (za (A 0)), some (zi x), some (zi y), some (zi e), some (zi (cur (r 3) L (n1A (r 3) L a))), some (zi ((sk (r 3) L a) : Int)), some (zi (ngV (r 3) L a)), some (zi (nWV (r 3) L a))]) (st2 := [za (A 0), za (A 9)]) [(170, .aload_n 0)] (by decide +kernel) rfl ?_
                refine Zn.get (ix := 156) hD 0 (by decide +kernel) rfl rfl rfl ?_
                refine Zn.eq (st2 := [zi (nVV (r 3) L a), za (A 9)]) rfl rfl rfl rfl ?_
                refine Zn.seg (pc2 := 177) (ls2 := [some (za (A 0)), some (zi x), some (zi y), some (zi e), some (zi (cur (r 3) L (n1A (r 3) L a))), some (zi ((sk (r 3) L a) : Int)), some (zi (ngV (r 3) L a)), some (zi (nWV (r 3) L a))]) (st2 := [zi (nVV (r 3) L a + 6), za (A 9)]) [(174, .bipush 6), (176, .iadd)] (by decide +kernel) rfl ?_
                refine Zn.iald hD 9 ((nVV (r 3) L a + 6).toNat) (by decide +kernel) rfl (by omega) (by omega) rfl ?_
                refine Zn.ifc (c := .le) (off := 11) 189 (by decide +kernel) rfl ⟨by omega, by omega⟩ (fun c_32 => ?_) (fun c_32 => ?_)
                · have c_32 : (r 9) ((nVV (r 3) L a + 6).toNat) ≤ 0 := c_32
                  refine Zn.seg (pc2 := 190) (ls2 := [some (za (A 0)), some (zi x), some (zi y), some (zi e), some (zi (cur (r 3) L (n1A (r 3) L a))), some (zi ((sk (r 3) L a) : Int)), some (zi (ngV (r 3) L a)), some (zi (nWV (r 3) L a))]) (st2 := [zi 1]) [(189, .iconst 1)] (by decide +kernel) rfl ?_
                  exact Zn.bret (by decide +kernel) rfl (by first | decide | omega) (⟨by refine congrArg some (congrArg zi ?_); rw [rdV, if_pos (by omega), if_pos (by omega)], by rw [rdA, if_pos (by omega), if_pos (by omega), rdN, if_pos (by omega)]⟩)
                · have c_32 : ¬ ((r 9) ((nVV (r 3) L a + 6).toNat) ≤ 0) := c_32
                  refine Zn.seg (pc2 := 184) (ls2 := [some (za (A 0)), some (zi x), some (zi y), some (zi e), some (zi (cur (r 3) L (n1A (r 3) L a))), some (zi ((sk (r 3) L a) : Int)), some (zi (ngV (r 3) L a)), some (zi (nWV (r 3) L a))]) (st2 := [zi ((sk (r 3) L a) : Int), za (A 0)]) [(181, .aload_n 0), (182, .iload 5)] (by decide +kernel) rfl ?_
                  refine Zn.put (ix := 142) hD 0 (by decide +kernel) rfl rfl rfl rfl rfl ?_
                  refine Zn.eq (h2 := zov (LM A (va_up (va_up m 9 ((sk (r 3) L a) : Int)) 14 (nVV (r 3) L a)) r) h) rfl rfl rfl rfl ?_
                  have hD : zND (LM A (va_up (va_up m 9 ((sk (r 3) L a) : Int)) 14 (nVV (r 3) L a)) r) := hD
                  refine Zn.seg (pc2 := 188) (ls2 := [some (za (A 0)), some (zi x), some (zi y), some (zi e), some (zi (cur (r 3) L (n1A (r 3) L a))), some (zi ((sk (r 3) L a) : Int)), some (zi (ngV (r 3) L a)), some (zi (nWV (r 3) L a))]) (st2 := [zi 0]) [(187, .iconst 0)] (by decide +kernel) rfl ?_
                  exact Zn.bret (by decide +kernel) rfl (by first | decide | omega) (⟨by refine congrArg some (congrArg zi ?_); rw [rdV, if_pos (by omega), if_neg (by omega)], by rw [rdA, if_pos (by omega), if_neg (by omega), rdN, if_pos (by omega)]⟩)
        · have c_21 : ¬ (inB 48 57 ((r 3) (n1A ( r 3 ) L a + 1)) = 0) := c_21
          refine Zn.seg (pc2 := 106) (ls2 := [some (za (A 0)), some (zi x), some (zi y), some (zi e), some (zi (cur (r 3) L (n1A (r 3) L a))), some (zi ((sk (r 3) L a) : Int)), some (zi (ngV (r 3) L a)), some (zi (cur (r 3) L (n1A (r 3) L a) - 48))]) (st2 := [za (A 0), zi (10 * (cur (r 3) L (n1A (r 3) L a) - 48))]) [(100, .bipush 10), (102, .iload 7), (104, .imul), (105, .aload_n 0)] (by decide +kernel) rfl ?_
          refine Zn.get (ix := 20) hD 0 (by decide +kernel) rfl rfl rfl ?_
          refine Zn.seg (pc2 := 110) (ls2 := [some (za (A 0)), some (zi x), some (zi y), some (zi e), some (zi (cur (r 3) L (n1A (r 3) L a))), some (zi ((sk (r 3) L a) : Int)), some (zi (ngV (r 3) L a)), some (zi (cur (r 3) L (n1A (r 3) L a) - 48))]) (st2 := [za (A 0), za (A 3), zi (10 * (cur (r 3) L (n1A (r 3) L a) - 48))]) [(109, .aload_n 0)] (by decide +kernel) rfl ?_
          refine Zn.get (ix := 142) hD 0 (by decide +kernel) rfl rfl rfl ?_
          refine Zn.eq (st2 := [zi ((n1A (r 3) L a : Int) + 1), za (A 3), zi (10 * (cur (r 3) L (n1A (r 3) L a) - 48))]) rfl rfl rfl rfl ?_
          refine Zn.iald hD 3 (n1A ( r 3 ) L a + 1) (by decide +kernel) rfl (by omega) (by omega) rfl ?_
          refine Zn.seg (pc2 := 122) (ls2 := [some (za (A 0)), some (zi x), some (zi y), some (zi e), some (zi (cur (r 3) L (n1A (r 3) L a))), some (zi ((sk (r 3) L a) : Int)), some (zi (ngV (r 3) L a)), some (zi (10 * (cur (r 3) L (n1A (r 3) L a) - 48) + ((r 3) (n1A ( r 3 ) L a + 1)) - 48))]) (st2 := [za (A 0), za (A 0)]) [(114, .iadd), (115, .bipush 48), (117, .isub), (118, .istore 7), (120, .aload_n 0), (121, .dup)] (by decide +kernel) rfl ?_
          refine Zn.get (ix := 142) hD 0 (by decide +kernel) rfl rfl rfl ?_
          refine Zn.eq (st2 := [zi ((n1A (r 3) L a : Int) + 1), za (A 0)]) rfl rfl rfl rfl ?_
          refine Zn.seg (pc2 := 127) (ls2 := [some (za (A 0)), some (zi x), some (zi y), some (zi e), some (zi (cur (r 3) L (n1A (r 3) L a))), some (zi ((sk (r 3) L a) : Int)), some (zi (ngV (r 3) L a)), some (zi (10 * (cur (r 3) L (n1A (r 3) L a) - 48) + ((r 3) (n1A ( r 3 ) L a + 1)) - 48))]) (st2 := [zi ((n1A (r 3) L a : Int) + 1 + 1), za (A 0)]) [(125, .iconst 1), (126, .iadd)] (by decide +kernel) rfl ?_
          refine Zn.put (ix := 142) hD 0 (by decide +kernel) rfl rfl rfl rfl rfl ?_
          refine Zn.eq (h2 := zov (LM A (va_up m 9 ((n1A (r 3) L a : Int) + 1 + 1)) r) h) rfl rfl rfl rfl ?_
          have hD : zND (LM A (va_up m 9 ((n1A (r 3) L a : Int) + 1 + 1)) r) := hD
          refine Zn.eq (pc2 := 130) (ls2 := [some (za (A 0)), some (zi x), some (zi y), some (zi e), some (zi (cur (r 3) L (n1A (r 3) L a))), some (zi ((sk (r 3) L a) : Int)), some (zi (ngV (r 3) L a)), some (zi (nWV (r 3) L a))]) (st2 := []) (h2 := zov (LM A (va_up m 9 (nEA (r 3) L a : Int)) r) h) rfl (zcons rfl (zcons rfl (zcons rfl (zcons rfl (zcons rfl (zcons rfl (zcons rfl (zcons (congrArg (fun z => some (zi z)) (by first | (rw [nWV, if_pos (by omega)]; omega) | (rw [nWV, if_neg (by omega)]))) rfl)))))))) rfl (by first | (rw [show (nEA (r 3) L a : Int) = (n1A (r 3) L a : Int) + 1 + 1 from by omega]; done) | (rw [show (nEA (r 3) L a : Int) = (n1A (r 3) L a : Int) + 1 from by omega]; done)) ?_
          have hD : zND (LM A (va_up m 9 (nEA (r 3) L a : Int)) r) := hD
          refine Zn.seg (pc2 := 133) (ls2 := [some (za (A 0)), some (zi x), some (zi y), some (zi e), some (zi (cur (r 3) L (n1A (r 3) L a))), some (zi ((sk (r 3) L a) : Int)), some (zi (ngV (r 3) L a)), some (zi (nWV (r 3) L a))]) (st2 := [zi (ngV (r 3) L a), za (A 0)]) [(130, .aload_n 0), (131, .iload 6)] (by decide +kernel) rfl ?_
          refine Zn.ifc (c := .eq) (off := 9) 142 (by decide +kernel) rfl ⟨by omega, by omega⟩ (fun c_33 => ?_) (fun c_33 => ?_)
          · have c_33 : ngV (r 3) L a = 0 := c_33
            refine Zn.seg (pc2 := 144) (ls2 := [some (za (A 0)), some (zi x), some (zi y), some (zi e), some (zi (cur (r 3) L (n1A (r 3) L a))), some (zi ((sk (r 3) L a) : Int)), some (zi (ngV (r 3) L a)), some (zi (nWV (r 3) L a))]) (st2 := [zi (nWV (r 3) L a), za (A 0)]) [(142, .iload 7)] (by decide +kernel) rfl ?_
            refine Zn.put (ix := 156) hD 0 (by decide +kernel) rfl rfl rfl rfl rfl ?_
            refine Zn.eq (h2 := zov (LM A (va_up (va_up m 9 (nEA (r 3) L a : Int)) 14 (nWV (r 3) L a)) r) h) rfl rfl rfl rfl ?_
            have hD : zND (LM A (va_up (va_up m 9 (nEA (r 3) L a : Int)) 14 (nWV (r 3) L a)) r) := hD
            refine Zn.eq (pc2 := 147) (ls2 := [some (za (A 0)), some (zi x), some (zi y), some (zi e), some (zi (cur (r 3) L (n1A (r 3) L a))), some (zi ((sk (r 3) L a) : Int)), some (zi (ngV (r 3) L a)), some (zi (nWV (r 3) L a))]) (st2 := []) (h2 := zov (LM A (va_up (va_up m 9 (nEA (r 3) L a : Int)) 14 (nVV (r 3) L a)) r) h) rfl rfl rfl (by first | (exfalso; omega) | (rw [nVV, if_neg (by omega)]; done) | (rw [nVV, if_pos (by omega)]; done)) ?_
            have hD : zND (LM A (va_up (va_up m 9 (nEA (r 3) L a : Int)) 14 (nVV (r 3) L a)) r) := hD
            refine Zn.seg (pc2 := 148) (ls2 := [some (za (A 0)), some (zi x), some (zi y), some (zi e), some (zi (cur (r 3) L (n1A (r 3) L a))), some (zi ((sk (r 3) L a) : Int)), some (zi (ngV (r 3) L a)), some (zi (nWV (r 3) L a))]) (st2 := [za (A 0)]) [(147, .aload_n 0)] (by decide +kernel) rfl ?_
            refine Zn.get (ix := 156) hD 0 (by decide +kernel) rfl rfl rfl ?_
            refine Zn.eq (st2 := [zi (nVV (r 3) L a)]) rfl rfl rfl rfl ?_
            refine Zn.i2l (by decide +kernel) ⟨by omega, by omega⟩ ?_
            refine Zn.seg (pc2 := 153) (ls2 := [some (za (A 0)), some (zi x), some (zi y), some (zi e), some (zi (cur (r 3) L (n1A (r 3) L a))), some (zi ((sk (r 3) L a) : Int)), some (zi (ngV (r 3) L a)), some (zi (nWV (r 3) L a))]) (st2 := [zi x, zj (nVV (r 3) L a)]) [(152, .iload_n 1)] (by decide +kernel) rfl ?_
            refine Zn.i2l (by decide +kernel) ⟨by omega, by omega⟩ ?_
            refine Zn.seg (pc2 := 155) (ls2 := [some (za (A 0)), some (zi x), some (zi y), some (zi e), some (zi (cur (r 3) L (n1A (r 3) L a))), some (zi ((sk (r 3) L a) : Int)), some (zi (ngV (r 3) L a)), some (zi (nWV (r 3) L a))]) (st2 := [zi y, zj x, zj (nVV (r 3) L a)]) [(154, .iload_n 2)] (by decide +kernel) rfl ?_
            refine Zn.i2l (by decide +kernel) ⟨by omega, by omega⟩ ?_
            refine Zn.call (ins := .invokestatic 77) [zj (nVV (r 3) L a), zj x, zj y] [] (by decide +kernel) rfl rfl rfl ⟨rfl, rfl⟩ ⟨rfl, rfl, rfl⟩ rfl (zrecvS (by decide)) (sp_X8_in (x := nVV (r 3) L a) (lo := x) (hi := y) (⟨by omega, by omega⟩) (⟨by omega, by omega⟩) (⟨by omega, by omega⟩)) (fun v h2 hp => ?_)
            obtain ⟨rfl, hq_34⟩ := hp
            refine Zn.eq (pc2 := 159) (ls2 := [some (za (A 0)), some (zi x), some (zi y), some (zi e), some (zi (cur (r 3) L (n1A (r 3) L a))), some (zi ((sk (r 3) L a) : Int)), some (zi (ngV (r 3) L a)), some (zi (nWV (r 3) L a))]) (st2 := [zi (inB x y (nVV (r 3) L a))]) (h2 := zov (LM A (va_up (va_up m 9 (nEA (r 3) L a : Int)) 14 (nVV (r 3) L a)) r) h) rfl rfl rfl hq_34 ?_
            have hD : zND (LM A (va_up (va_up m 9 (nEA (r 3) L a : Int)) 14 (nVV (r 3) L a)) r) := hD
            have q_35 := inB_spec x y (nVV (r 3) L a)
            refine Zn.ifc (c := .eq) (off := 22) 181 (by decide +kernel) rfl ⟨by omega, by omega⟩ (fun c_36 => ?_) (fun c_36 => ?_)
            · have c_36 : inB x y (nVV (r 3) L a) = 0 := c_36
              refine Zn.seg (pc2 := 184) (ls2 := [some (za (A 0)), some (zi x), some (zi y), some (zi e), some (zi (cur (r 3) L (n1A (r 3) L a))), some (zi ((sk (r 3) L a) : Int)), some (zi (ngV (r 3) L a)), some (zi (nWV (r 3) L a))]) (st2 := [zi ((sk (r 3) L a) : Int), za (A 0)]) [(181, .aload_n 0), (182, .iload 5)] (by decide +kernel) rfl ?_
              refine Zn.put (ix := 142) hD 0 (by decide +kernel) rfl rfl rfl rfl rfl ?_
              refine Zn.eq (h2 := zov (LM A (va_up (va_up m 9 ((sk (r 3) L a) : Int)) 14 (nVV (r 3) L a)) r) h) rfl rfl rfl rfl ?_
              have hD : zND (LM A (va_up (va_up m 9 ((sk (r 3) L a) : Int)) 14 (nVV (r 3) L a)) r) := hD
              refine Zn.seg (pc2 := 188) (ls2 := [some (za (A 0)), some (zi x), some (zi y), some (zi e), some (zi (cur (r 3) L (n1A (r 3) L a))), some (zi ((sk (r 3) L a) : Int)), some (zi (ngV (r 3) L a)), some (zi (nWV (r 3) L a))]) (st2 := [zi 0]) [(187, .iconst 0)] (by decide +kernel) rfl ?_
              exact Zn.bret (by decide +kernel) rfl (by first | decide | omega) (⟨by refine congrArg some (congrArg zi ?_); rw [rdV, if_pos (by omega), if_neg (by omega)], by rw [rdA, if_pos (by omega), if_neg (by omega), rdN, if_pos (by omega)]⟩)
            · have c_36 : ¬ (inB x y (nVV (r 3) L a) = 0) := c_36
              refine Zn.seg (pc2 := 163) (ls2 := [some (za (A 0)), some (zi x), some (zi y), some (zi e), some (zi (cur (r 3) L (n1A (r 3) L a))), some (zi ((sk (r 3) L a) : Int)), some (zi (ngV (r 3) L a)), some (zi (nWV (r 3) L a))]) (st2 := [zi e]) [(162, .iload_n 3)] (by decide +kernel) rfl ?_
              refine Zn.ifc (c := .eq) (off := 26) 189 (by decide +kernel) rfl ⟨by omega, by omega⟩ (fun c_37 => ?_) (fun c_37 => ?_)
              · have c_37 : e = 0 := c_37
                refine Zn.seg (pc2 := 190) (ls2 := [some (za (A 0)), some (zi x), some (zi y), some (zi e), some (zi (cur (r 3) L (n1A (r 3) L a))), some (zi ((sk (r 3) L a) : Int)), some (zi (ngV (r 3) L a)), some (zi (nWV (r 3) L a))]) (st2 := [zi 1]) [(189, .iconst 1)] (by decide +kernel) rfl ?_
                exact Zn.bret (by decide +kernel) rfl (by first | decide | omega) (⟨by refine congrArg some (congrArg zi ?_); rw [rdV, if_pos (by omega), if_pos (by omega)], by rw [rdA, if_pos (by omega), if_pos (by omega), rdN, if_pos (by omega)]⟩)
              · have c_37 : ¬ (e = 0) := c_37
                refine Zn.seg (pc2 := 167) (ls2 := [some (za (A 0)), some (zi x), some (zi y), some (zi e), some (zi (cur (r 3) L (n1A (r 3) L a))), some (zi ((sk (r 3) L a) : Int)), some (zi (ngV (r 3) L a)), some (zi (nWV (r 3) L a))]) (st2 := [za (A 0)]) [(166, .aload_n 0)] (by decide +kernel) rfl ?_
                refine Zn.get (ix := 39) hD 0 (by decide +kernel) rfl rfl rfl ?_
                refine Zn.seg (pc2 := 171) (ls2 := [some (za (A 0)), some (zi x), some (zi y), some (zi e), some (zi (cur (r 3) L (n1A (r 3) L a))), some (zi ((sk (r 3) L a) : Int)), some (zi (ngV (r 3) L a)), some (zi (nWV (r 3) L a))]) (st2 := [za (A 0), za (A 9)]) [(170, .aload_n 0)] (by decide +kernel) rfl ?_
                refine Zn.get (ix := 156) hD 0 (by decide +kernel) rfl rfl rfl ?_
                refine Zn.eq (st2 := [zi (nVV (r 3) L a), za (A 9)]) rfl rfl rfl rfl ?_
                refine Zn.seg (pc2 := 177) (ls2 := [some (za (A 0)), some (zi x), some (zi y), some (zi e), some (zi (cur (r 3) L (n1A (r 3) L a))), some (zi ((sk (r 3) L a) : Int)), some (zi (ngV (r 3) L a)), some (zi (nWV (r 3) L a))]) (st2 := [zi (nVV (r 3) L a + 6), za (A 9)]) [(174, .bipush 6), (176, .iadd)] (by decide +kernel) rfl ?_
                refine Zn.iald hD 9 ((nVV (r 3) L a + 6).toNat) (by decide +kernel) rfl (by omega) (by omega) rfl ?_
                refine Zn.ifc (c := .le) (off := 11) 189 (by decide +kernel) rfl ⟨by omega, by omega⟩ (fun c_38 => ?_) (fun c_38 => ?_)
                · have c_38 : (r 9) ((nVV (r 3) L a + 6).toNat) ≤ 0 := c_38
                  refine Zn.seg (pc2 := 190) (ls2 := [some (za (A 0)), some (zi x), some (zi y), some (zi e), some (zi (cur (r 3) L (n1A (r 3) L a))), some (zi ((sk (r 3) L a) : Int)), some (zi (ngV (r 3) L a)), some (zi (nWV (r 3) L a))]) (st2 := [zi 1]) [(189, .iconst 1)] (by decide +kernel) rfl ?_
                  exact Zn.bret (by decide +kernel) rfl (by first | decide | omega) (⟨by refine congrArg some (congrArg zi ?_); rw [rdV, if_pos (by omega), if_pos (by omega)], by rw [rdA, if_pos (by omega), if_pos (by omega), rdN, if_pos (by omega)]⟩)
                · have c_38 : ¬ ((r 9) ((nVV (r 3) L a + 6).toNat) ≤ 0) := c_38
                  refine Zn.seg (pc2 := 184) (ls2 := [some (za (A 0)), some (zi x), some (zi y), some (zi e), some (zi (cur (r 3) L (n1A (r 3) L a))), some (zi ((sk (r 3) L a) : Int)), some (zi (ngV (r 3) L a)), some (zi (nWV (r 3) L a))]) (st2 := [zi ((sk (r 3) L a) : Int), za (A 0)]) [(181, .aload_n 0), (182, .iload 5)] (by decide +kernel) rfl ?_
                  refine Zn.put (ix := 142) hD 0 (by decide +kernel) rfl rfl rfl rfl rfl ?_
                  refine Zn.eq (h2 := zov (LM A (va_up (va_up m 9 ((sk (r 3) L a) : Int)) 14 (nVV (r 3) L a)) r) h) rfl rfl rfl rfl ?_
                  have hD : zND (LM A (va_up (va_up m 9 ((sk (r 3) L a) : Int)) 14 (nVV (r 3) L a)) r) := hD
                  refine Zn.seg (pc2 := 188) (ls2 := [some (za (A 0)), some (zi x), some (zi y), some (zi e), some (zi (cur (r 3) L (n1A (r 3) L a))), some (zi ((sk (r 3) L a) : Int)), some (zi (ngV (r 3) L a)), some (zi (nWV (r 3) L a))]) (st2 := [zi 0]) [(187, .iconst 0)] (by decide +kernel) rfl ?_
                  exact Zn.bret (by decide +kernel) rfl (by first | decide | omega) (⟨by refine congrArg some (congrArg zi ?_); rw [rdV, if_pos (by omega), if_neg (by omega)], by rw [rdA, if_pos (by omega), if_neg (by omega), rdN, if_pos (by omega)]⟩)
          · have c_33 : ¬ (ngV (r 3) L a = 0) := c_33
            refine Zn.seg (pc2 := 144) (ls2 := [some (za (A 0)), some (zi x), some (zi y), some (zi e), some (zi (cur (r 3) L (n1A (r 3) L a))), some (zi ((sk (r 3) L a) : Int)), some (zi (ngV (r 3) L a)), some (zi (nWV (r 3) L a))]) (st2 := [zi (-(nWV (r 3) L a)), za (A 0)]) [(136, .iload 7), (138, .ineg), (139, .goto 5)] (by decide +kernel) rfl ?_
            refine Zn.put (ix := 156) hD 0 (by decide +kernel) rfl rfl rfl rfl rfl ?_
            refine Zn.eq (h2 := zov (LM A (va_up (va_up m 9 (nEA (r 3) L a : Int)) 14 (-(nWV (r 3) L a))) r) h) rfl rfl rfl rfl ?_
            have hD : zND (LM A (va_up (va_up m 9 (nEA (r 3) L a : Int)) 14 (-(nWV (r 3) L a))) r) := hD
            refine Zn.eq (pc2 := 147) (ls2 := [some (za (A 0)), some (zi x), some (zi y), some (zi e), some (zi (cur (r 3) L (n1A (r 3) L a))), some (zi ((sk (r 3) L a) : Int)), some (zi (ngV (r 3) L a)), some (zi (nWV (r 3) L a))]) (st2 := []) (h2 := zov (LM A (va_up (va_up m 9 (nEA (r 3) L a : Int)) 14 (nVV (r 3) L a)) r) h) rfl rfl rfl (by first | (exfalso; omega) | (rw [nVV, if_neg (by omega)]; done) | (rw [nVV, if_pos (by omega)]; done)) ?_
            have hD : zND (LM A (va_up (va_up m 9 (nEA (r 3) L a : Int)) 14 (nVV (r 3) L a)) r) := hD
            refine Zn.seg (pc2 := 148) (ls2 := [some (za (A 0)), some (zi x), some (zi y), some (zi e), some (zi (cur (r 3) L (n1A (r 3) L a))), some (zi ((sk (r 3) L a) : Int)), some (zi (ngV (r 3) L a)), some (zi (nWV (r 3) L a))]) (st2 := [za (A 0)]) [(147, .aload_n 0)] (by decide +kernel) rfl ?_
            refine Zn.get (ix := 156) hD 0 (by decide +kernel) rfl rfl rfl ?_
            refine Zn.eq (st2 := [zi (nVV (r 3) L a)]) rfl rfl rfl rfl ?_
            refine Zn.i2l (by decide +kernel) ⟨by omega, by omega⟩ ?_
            refine Zn.seg (pc2 := 153) (ls2 := [some (za (A 0)), some (zi x), some (zi y), some (zi e), some (zi (cur (r 3) L (n1A (r 3) L a))), some (zi ((sk (r 3) L a) : Int)), some (zi (ngV (r 3) L a)), some (zi (nWV (r 3) L a))]) (st2 := [zi x, zj (nVV (r 3) L a)]) [(152, .iload_n 1)] (by decide +kernel) rfl ?_
            refine Zn.i2l (by decide +kernel) ⟨by omega, by omega⟩ ?_
            refine Zn.seg (pc2 := 155) (ls2 := [some (za (A 0)), some (zi x), some (zi y), some (zi e), some (zi (cur (r 3) L (n1A (r 3) L a))), some (zi ((sk (r 3) L a) : Int)), some (zi (ngV (r 3) L a)), some (zi (nWV (r 3) L a))]) (st2 := [zi y, zj x, zj (nVV (r 3) L a)]) [(154, .iload_n 2)] (by decide +kernel) rfl ?_
            refine Zn.i2l (by decide +kernel) ⟨by omega, by omega⟩ ?_
            refine Zn.call (ins := .invokestatic 77) [zj (nVV (r 3) L a), zj x, zj y] [] (by decide +kernel) rfl rfl rfl ⟨rfl, rfl⟩ ⟨rfl, rfl, rfl⟩ rfl (zrecvS (by decide)) (sp_X8_in (x := nVV (r 3) L a) (lo := x) (hi := y) (⟨by omega, by omega⟩) (⟨by omega, by omega⟩) (⟨by omega, by omega⟩)) (fun v h2 hp => ?_)
            obtain ⟨rfl, hq_39⟩ := hp
            refine Zn.eq (pc2 := 159) (ls2 := [some (za (A 0)), some (zi x), some (zi y), some (zi e), some (zi (cur (r 3) L (n1A (r 3) L a))), some (zi ((sk (r 3) L a) : Int)), some (zi (ngV (r 3) L a)), some (zi (nWV (r 3) L a))]) (st2 := [zi (inB x y (nVV (r 3) L a))]) (h2 := zov (LM A (va_up (va_up m 9 (nEA (r 3) L a : Int)) 14 (nVV (r 3) L a)) r) h) rfl rfl rfl hq_39 ?_
            have hD : zND (LM A (va_up (va_up m 9 (nEA (r 3) L a : Int)) 14 (nVV (r 3) L a)) r) := hD
            have q_40 := inB_spec x y (nVV (r 3) L a)
            refine Zn.ifc (c := .eq) (off := 22) 181 (by decide +kernel) rfl ⟨by omega, by omega⟩ (fun c_41 => ?_) (fun c_41 => ?_)
            · have c_41 : inB x y (nVV (r 3) L a) = 0 := c_41
              refine Zn.seg (pc2 := 184) (ls2 := [some (za (A 0)), some (zi x), some (zi y), some (zi e), some (zi (cur (r 3) L (n1A (r 3) L a))), some (zi ((sk (r 3) L a) : Int)), some (zi (ngV (r 3) L a)), some (zi (nWV (r 3) L a))]) (st2 := [zi ((sk (r 3) L a) : Int), za (A 0)]) [(181, .aload_n 0), (182, .iload 5)] (by decide +kernel) rfl ?_
              refine Zn.put (ix := 142) hD 0 (by decide +kernel) rfl rfl rfl rfl rfl ?_
              refine Zn.eq (h2 := zov (LM A (va_up (va_up m 9 ((sk (r 3) L a) : Int)) 14 (nVV (r 3) L a)) r) h) rfl rfl rfl rfl ?_
              have hD : zND (LM A (va_up (va_up m 9 ((sk (r 3) L a) : Int)) 14 (nVV (r 3) L a)) r) := hD
              refine Zn.seg (pc2 := 188) (ls2 := [some (za (A 0)), some (zi x), some (zi y), some (zi e), some (zi (cur (r 3) L (n1A (r 3) L a))), some (zi ((sk (r 3) L a) : Int)), some (zi (ngV (r 3) L a)), some (zi (nWV (r 3) L a))]) (st2 := [zi 0]) [(187, .iconst 0)] (by decide +kernel) rfl ?_
              exact Zn.bret (by decide +kernel) rfl (by first | decide | omega) (⟨by refine congrArg some (congrArg zi ?_); rw [rdV, if_pos (by omega), if_neg (by omega)], by rw [rdA, if_pos (by omega), if_neg (by omega), rdN, if_pos (by omega)]⟩)
            · have c_41 : ¬ (inB x y (nVV (r 3) L a) = 0) := c_41
              refine Zn.seg (pc2 := 163) (ls2 := [some (za (A 0)), some (zi x), some (zi y), some (zi e), some (zi (cur (r 3) L (n1A (r 3) L a))), some (zi ((sk (r 3) L a) : Int)), some (zi (ngV (r 3) L a)), some (zi (nWV (r 3) L a))]) (st2 := [zi e]) [(162, .iload_n 3)] (by decide +kernel) rfl ?_
              refine Zn.ifc (c := .eq) (off := 26) 189 (by decide +kernel) rfl ⟨by omega, by omega⟩ (fun c_42 => ?_) (fun c_42 => ?_)
              · have c_42 : e = 0 := c_42
                refine Zn.seg (pc2 := 190) (ls2 := [some (za (A 0)), some (zi x), some (zi y), some (zi e), some (zi (cur (r 3) L (n1A (r 3) L a))), some (zi ((sk (r 3) L a) : Int)), some (zi (ngV (r 3) L a)), some (zi (nWV (r 3) L a))]) (st2 := [zi 1]) [(189, .iconst 1)] (by decide +kernel) rfl ?_
                exact Zn.bret (by decide +kernel) rfl (by first | decide | omega) (⟨by refine congrArg some (congrArg zi ?_); rw [rdV, if_pos (by omega), if_pos (by omega)], by rw [rdA, if_pos (by omega), if_pos (by omega), rdN, if_pos (by omega)]⟩)
              · have c_42 : ¬ (e = 0) := c_42
                refine Zn.seg (pc2 := 167) (ls2 := [some (za (A 0)), some (zi x), some (zi y), some (zi e), some (zi (cur (r 3) L (n1A (r 3) L a))), some (zi ((sk (r 3) L a) : Int)), some (zi (ngV (r 3) L a)), some (zi (nWV (r 3) L a))]) (st2 := [za (A 0)]) [(166, .aload_n 0)] (by decide +kernel) rfl ?_
                refine Zn.get (ix := 39) hD 0 (by decide +kernel) rfl rfl rfl ?_
                refine Zn.seg (pc2 := 171) (ls2 := [some (za (A 0)), some (zi x), some (zi y), some (zi e), some (zi (cur (r 3) L (n1A (r 3) L a))), some (zi ((sk (r 3) L a) : Int)), some (zi (ngV (r 3) L a)), some (zi (nWV (r 3) L a))]) (st2 := [za (A 0), za (A 9)]) [(170, .aload_n 0)] (by decide +kernel) rfl ?_
                refine Zn.get (ix := 156) hD 0 (by decide +kernel) rfl rfl rfl ?_
                refine Zn.eq (st2 := [zi (nVV (r 3) L a), za (A 9)]) rfl rfl rfl rfl ?_
                refine Zn.seg (pc2 := 177) (ls2 := [some (za (A 0)), some (zi x), some (zi y), some (zi e), some (zi (cur (r 3) L (n1A (r 3) L a))), some (zi ((sk (r 3) L a) : Int)), some (zi (ngV (r 3) L a)), some (zi (nWV (r 3) L a))]) (st2 := [zi (nVV (r 3) L a + 6), za (A 9)]) [(174, .bipush 6), (176, .iadd)] (by decide +kernel) rfl ?_
                refine Zn.iald hD 9 ((nVV (r 3) L a + 6).toNat) (by decide +kernel) rfl (by omega) (by omega) rfl ?_
                refine Zn.ifc (c := .le) (off := 11) 189 (by decide +kernel) rfl ⟨by omega, by omega⟩ (fun c_43 => ?_) (fun c_43 => ?_)
                · have c_43 : (r 9) ((nVV (r 3) L a + 6).toNat) ≤ 0 := c_43
                  refine Zn.seg (pc2 := 190) (ls2 := [some (za (A 0)), some (zi x), some (zi y), some (zi e), some (zi (cur (r 3) L (n1A (r 3) L a))), some (zi ((sk (r 3) L a) : Int)), some (zi (ngV (r 3) L a)), some (zi (nWV (r 3) L a))]) (st2 := [zi 1]) [(189, .iconst 1)] (by decide +kernel) rfl ?_
                  exact Zn.bret (by decide +kernel) rfl (by first | decide | omega) (⟨by refine congrArg some (congrArg zi ?_); rw [rdV, if_pos (by omega), if_pos (by omega)], by rw [rdA, if_pos (by omega), if_pos (by omega), rdN, if_pos (by omega)]⟩)
                · have c_43 : ¬ ((r 9) ((nVV (r 3) L a + 6).toNat) ≤ 0) := c_43
                  refine Zn.seg (pc2 := 184) (ls2 := [some (za (A 0)), some (zi x), some (zi y), some (zi e), some (zi (cur (r 3) L (n1A (r 3) L a))), some (zi ((sk (r 3) L a) : Int)), some (zi (ngV (r 3) L a)), some (zi (nWV (r 3) L a))]) (st2 := [zi ((sk (r 3) L a) : Int), za (A 0)]) [(181, .aload_n 0), (182, .iload 5)] (by decide +kernel) rfl ?_
                  refine Zn.put (ix := 142) hD 0 (by decide +kernel) rfl rfl rfl rfl rfl ?_
                  refine Zn.eq (h2 := zov (LM A (va_up (va_up m 9 ((sk (r 3) L a) : Int)) 14 (nVV (r 3) L a)) r) h) rfl rfl rfl rfl ?_
                  have hD : zND (LM A (va_up (va_up m 9 ((sk (r 3) L a) : Int)) 14 (nVV (r 3) L a)) r) := hD
                  refine Zn.seg (pc2 := 188) (ls2 := [some (za (A 0)), some (zi x), some (zi y), some (zi e), some (zi (cur (r 3) L (n1A (r 3) L a))), some (zi ((sk (r 3) L a) : Int)), some (zi (ngV (r 3) L a)), some (zi (nWV (r 3) L a))]) (st2 := [zi 0]) [(187, .iconst 0)] (by decide +kernel) rfl ?_
                  exact Zn.bret (by decide +kernel) rfl (by first | decide | omega) (⟨by refine congrArg some (congrArg zi ?_); rw [rdV, if_pos (by omega), if_neg (by omega)], by rw [rdA, if_pos (by omega), if_neg (by omega), rdN, if_pos (by omega)]⟩)
    · have c_6 : ¬ (inB 48 57 (cur (r 3) L (n1A (r 3) L a)) ≠ 0) := c_6
      refine Zn.seg (pc2 := 56) (ls2 := [some (za (A 0)), some (zi x), some (zi y), some (zi e), some (zi (cur (r 3) L (n1A (r 3) L a))), some (zi ((sk (r 3) L a) : Int)), some (zi (ngV (r 3) L a)), none]) (st2 := [zi 0]) [(55, .iconst 0)] (by decide +kernel) rfl ?_
      exact Zn.bret (by decide +kernel) rfl (by first | decide | omega) (⟨by refine congrArg some (congrArg zi ?_); rw [rdV, if_neg (by omega)], by rw [rdA, if_neg (by omega), rdN, if_neg (by omega), va_eta (v := m 14) _ 14 (by rfl)]⟩)
  · have c_2 : ¬ (cur (r 3) L (sk (r 3) L a) ≠ 45) := c_2
    refine Zn.seg (pc2 := 28) (ls2 := [some (za (A 0)), some (zi x), some (zi y), some (zi e), some (zi (cur (r 3) L (sk (r 3) L a))), some (zi ((sk (r 3) L a) : Int)), some (zi 1), none]) (st2 := [zi 1]) [(19, .iconst 1), (20, .goto 4), (24, .istore 6), (26, .iload 6)] (by decide +kernel) rfl ?_
    refine Zn.ifc (c := .eq) (off := 19) 47 (by decide +kernel) rfl ⟨by decide, by decide⟩ (fun c_44 => absurd (show (1 : Int) = 0 from c_44) (by decide)) (fun c_44 => ?_)
    have c_44 : ¬ ((1 : Int) = 0) := c_44
    refine Zn.seg (pc2 := 33) (ls2 := [some (za (A 0)), some (zi x), some (zi y), some (zi e), some (zi (cur (r 3) L (sk (r 3) L a))), some (zi ((sk (r 3) L a) : Int)), some (zi 1), none]) (st2 := [za (A 0), za (A 0)]) [(31, .aload_n 0), (32, .dup)] (by decide +kernel) rfl ?_
    refine Zn.get (ix := 142) hD 0 (by decide +kernel) rfl rfl rfl ?_
    refine Zn.eq (st2 := [zi ((sk (r 3) L a) : Int), za (A 0)]) rfl rfl rfl rfl ?_
    refine Zn.seg (pc2 := 38) (ls2 := [some (za (A 0)), some (zi x), some (zi y), some (zi e), some (zi (cur (r 3) L (sk (r 3) L a))), some (zi ((sk (r 3) L a) : Int)), some (zi 1), none]) (st2 := [zi (((sk (r 3) L a) : Int) + 1), za (A 0)]) [(36, .iconst 1), (37, .iadd)] (by decide +kernel) rfl ?_
    refine Zn.put (ix := 142) hD 0 (by decide +kernel) rfl rfl rfl rfl rfl ?_
    refine Zn.eq (h2 := zov (LM A (va_up m 9 (((sk (r 3) L a) : Int) + 1)) r) h) rfl rfl rfl rfl ?_
    have hD : zND (LM A (va_up m 9 (((sk (r 3) L a) : Int) + 1)) r) := hD
    refine Zn.seg (pc2 := 42) (ls2 := [some (za (A 0)), some (zi x), some (zi y), some (zi e), some (zi (cur (r 3) L (sk (r 3) L a))), some (zi ((sk (r 3) L a) : Int)), some (zi 1), none]) (st2 := [za (A 0)]) [(41, .aload_n 0)] (by decide +kernel) rfl ?_
    refine Zn.call (ins := .invokevirtual 145) [za (A 0)] [] (by decide +kernel) rfl rfl rfl ⟨rfl, rfl⟩ ⟨rfl, rfl, rfl⟩ rfl (zrecvV hD (p := 0) rfl rfl rfl) (sp_X8_letter (A := A) (m := va_up m 9 (((sk (r 3) L a) : Int) + 1)) (r := r) (L := L) (a := (sk (r 3) L a + 1)) (zov_all hD) hD (by first | rfl | exact hm5) (hL9) (by first | rfl | exact hm9) (by omega) (hT)) (fun v h2 hp => ?_)
    obtain ⟨rfl, hq_45⟩ := hp
    refine Zn.eq (pc2 := 45) (ls2 := [some (za (A 0)), some (zi x), some (zi y), some (zi e), some (zi (cur (r 3) L (sk (r 3) L a))), some (zi ((sk (r 3) L a) : Int)), some (zi 1), none]) (st2 := [zi (cur (r 3) L (sk (r 3) L (sk (r 3) L a + 1)))]) (h2 := zov (LM A (va_up m 9 ((sk (r 3) L (sk (r 3) L a + 1)) : Int)) r) h) rfl rfl rfl (hq_45.trans ((LM_over _ _ _ _ _ _).trans rfl)) ?_
    have hD : zND (LM A (va_up m 9 ((sk (r 3) L (sk (r 3) L a + 1)) : Int)) r) := hD
    refine Zn.seg (pc2 := 47) (ls2 := [some (za (A 0)), some (zi x), some (zi y), some (zi e), some (zi (cur (r 3) L (sk (r 3) L (sk (r 3) L a + 1)))), some (zi ((sk (r 3) L a) : Int)), some (zi 1), none]) (st2 := []) [(45, .istore 4)] (by decide +kernel) rfl ?_
    refine Zn.eq (pc2 := 47) (ls2 := [some (za (A 0)), some (zi x), some (zi y), some (zi e), some (zi (cur (r 3) L (n1A (r 3) L a))), some (zi ((sk (r 3) L a) : Int)), some (zi (ngV (r 3) L a)), none]) (st2 := []) (h2 := zov (LM A (va_up m 9 (n1A (r 3) L a : Int)) r) h) rfl (zcons rfl (zcons rfl (zcons rfl (zcons rfl (zcons (congrArg (fun z => some (zi z)) (by first | rw [n1_m (by omega)] | rw [n1_p (by omega)])) (zcons rfl (zcons (congrArg (fun z => some (zi z)) (by first | rw [ngV, if_pos (by omega)] | rw [ngV, if_neg (by omega)])) rfl))))))) rfl (by first | rw [n1_m (by omega)] | rw [n1_p (by omega)]) ?_
    have hD : zND (LM A (va_up m 9 (n1A (r 3) L a : Int)) r) := hD
    have hngv := ngV_c (r 3) L a
    refine Zn.seg (pc2 := 49) (ls2 := [some (za (A 0)), some (zi x), some (zi y), some (zi e), some (zi (cur (r 3) L (n1A (r 3) L a))), some (zi ((sk (r 3) L a) : Int)), some (zi (ngV (r 3) L a)), none]) (st2 := [zi (cur (r 3) L (n1A (r 3) L a))]) [(47, .iload 4)] (by decide +kernel) rfl ?_
    refine Zn.call (ins := .invokestatic 152) [zi (cur (r 3) L (n1A (r 3) L a))] [] (by decide +kernel) rfl rfl rfl ⟨rfl, rfl⟩ ⟨rfl, rfl, rfl⟩ rfl (zrecvS (by decide)) (sp_X8_isFigure (x := cur (r 3) L (n1A (r 3) L a)) (⟨by omega, by omega⟩)) (fun v h2 hp => ?_)
    obtain ⟨rfl, hq_46⟩ := hp
    refine Zn.eq (pc2 := 52) (ls2 := [some (za (A 0)), some (zi x), some (zi y), some (zi e), some (zi (cur (r 3) L (n1A (r 3) L a))), some (zi ((sk (r 3) L a) : Int)), some (zi (ngV (r 3) L a)), none]) (st2 := [zi (inB 48 57 (cur (r 3) L (n1A (r 3) L a)))]) (h2 := zov (LM A (va_up m 9 (n1A (r 3) L a : Int)) r) h) rfl rfl rfl hq_46 ?_
    have hD : zND (LM A (va_up m 9 (n1A (r 3) L a : Int)) r) := hD
    have q_47 := inB_spec 48 57 (cur (r 3) L (n1A (r 3) L a))
    refine Zn.ifc (c := .ne) (off := 5) 57 (by decide +kernel) rfl ⟨by omega, by omega⟩ (fun c_48 => ?_) (fun c_48 => ?_)
    · have c_48 : inB 48 57 (cur (r 3) L (n1A (r 3) L a)) ≠ 0 := c_48
      refine Zn.seg (pc2 := 66) (ls2 := [some (za (A 0)), some (zi x), some (zi y), some (zi e), some (zi (cur (r 3) L (n1A (r 3) L a))), some (zi ((sk (r 3) L a) : Int)), some (zi (ngV (r 3) L a)), some (zi (cur (r 3) L (n1A (r 3) L a) - 48))]) (st2 := [za (A 0), za (A 0)]) [(57, .iload 4), (59, .bipush 48), (61, .isub), (62, .istore 7), (64, .aload_n 0), (65, .dup)] (by decide +kernel) rfl ?_
      refine Zn.get (ix := 142) hD 0 (by decide +kernel) rfl rfl rfl ?_
      refine Zn.eq (st2 := [zi (n1A (r 3) L a : Int), za (A 0)]) rfl rfl rfl rfl ?_
      refine Zn.seg (pc2 := 71) (ls2 := [some (za (A 0)), some (zi x), some (zi y), some (zi e), some (zi (cur (r 3) L (n1A (r 3) L a))), some (zi ((sk (r 3) L a) : Int)), some (zi (ngV (r 3) L a)), some (zi (cur (r 3) L (n1A (r 3) L a) - 48))]) (st2 := [zi ((n1A (r 3) L a : Int) + 1), za (A 0)]) [(69, .iconst 1), (70, .iadd)] (by decide +kernel) rfl ?_
      refine Zn.put (ix := 142) hD 0 (by decide +kernel) rfl rfl rfl rfl rfl ?_
      refine Zn.eq (h2 := zov (LM A (va_up m 9 ((n1A (r 3) L a : Int) + 1)) r) h) rfl rfl rfl rfl ?_
      have hD : zND (LM A (va_up m 9 ((n1A (r 3) L a : Int) + 1)) r) := hD
      refine Zn.seg (pc2 := 75) (ls2 := [some (za (A 0)), some (zi x), some (zi y), some (zi e), some (zi (cur (r 3) L (n1A (r 3) L a))), some (zi ((sk (r 3) L a) : Int)), some (zi (ngV (r 3) L a)), some (zi (cur (r 3) L (n1A (r 3) L a) - 48))]) (st2 := [za (A 0)]) [(74, .aload_n 0)] (by decide +kernel) rfl ?_
      refine Zn.get (ix := 142) hD 0 (by decide +kernel) rfl rfl rfl ?_
      refine Zn.eq (st2 := [zi ((n1A (r 3) L a : Int) + 1)]) rfl rfl rfl rfl ?_
      refine Zn.seg (pc2 := 79) (ls2 := [some (za (A 0)), some (zi x), some (zi y), some (zi e), some (zi (cur (r 3) L (n1A (r 3) L a))), some (zi ((sk (r 3) L a) : Int)), some (zi (ngV (r 3) L a)), some (zi (cur (r 3) L (n1A (r 3) L a) - 48))]) (st2 := [za (A 0), zi ((n1A (r 3) L a : Int) + 1)]) [(78, .aload_n 0)] (by decide +kernel) rfl ?_
      refine Zn.get (ix := 139) hD 0 (by decide +kernel) rfl rfl rfl ?_
      refine Zn.eq (st2 := [zi (m 5), zi ((n1A (r 3) L a : Int) + 1)]) rfl rfl rfl rfl ?_
      refine Zn.topi (y := (L : Int)) (hm5) ?_
      refine Zn.icmp (c := .ge) (off := 48) 130 (by decide +kernel) rfl ⟨by omega, by omega⟩ ⟨by omega, by omega⟩ (fun c_49 => ?_) (fun c_49 => ?_)
      · have c_49 : (L : Int) ≤ (n1A (r 3) L a : Int) + 1 := c_49
        refine Zn.eq (pc2 := 130) (ls2 := [some (za (A 0)), some (zi x), some (zi y), some (zi e), some (zi (cur (r 3) L (n1A (r 3) L a))), some (zi ((sk (r 3) L a) : Int)), some (zi (ngV (r 3) L a)), some (zi (nWV (r 3) L a))]) (st2 := []) (h2 := zov (LM A (va_up m 9 (nEA (r 3) L a : Int)) r) h) rfl (zcons rfl (zcons rfl (zcons rfl (zcons rfl (zcons rfl (zcons rfl (zcons rfl (zcons (congrArg (fun z => some (zi z)) (by first | (rw [nWV, if_pos (by omega)]; omega) | (rw [nWV, if_neg (by omega)]))) rfl)))))))) rfl (by first | (rw [show (nEA (r 3) L a : Int) = (n1A (r 3) L a : Int) + 1 + 1 from by omega]; done) | (rw [show (nEA (r 3) L a : Int) = (n1A (r 3) L a : Int) + 1 from by omega]; done)) ?_
        have hD : zND (LM A (va_up m 9 (nEA (r 3) L a : Int)) r) := hD
        refine Zn.seg (pc2 := 133) (ls2 := [some (za (A 0)), some (zi x), some (zi y), some (zi e), some (zi (cur (r 3) L (n1A (r 3) L a))), some (zi ((sk (r 3) L a) : Int)), some (zi (ngV (r 3) L a)), some (zi (nWV (r 3) L a))]) (st2 := [zi (ngV (r 3) L a), za (A 0)]) [(130, .aload_n 0), (131, .iload 6)] (by decide +kernel) rfl ?_
        refine Zn.ifc (c := .eq) (off := 9) 142 (by decide +kernel) rfl ⟨by omega, by omega⟩ (fun c_50 => ?_) (fun c_50 => ?_)
        · have c_50 : ngV (r 3) L a = 0 := c_50
          refine Zn.seg (pc2 := 144) (ls2 := [some (za (A 0)), some (zi x), some (zi y), some (zi e), some (zi (cur (r 3) L (n1A (r 3) L a))), some (zi ((sk (r 3) L a) : Int)), some (zi (ngV (r 3) L a)), some (zi (nWV (r 3) L a))]) (st2 := [zi (nWV (r 3) L a), za (A 0)]) [(142, .iload 7)] (by decide +kernel) rfl ?_
          refine Zn.put (ix := 156) hD 0 (by decide +kernel) rfl rfl rfl rfl rfl ?_
          refine Zn.eq (h2 := zov (LM A (va_up (va_up m 9 (nEA (r 3) L a : Int)) 14 (nWV (r 3) L a)) r) h) rfl rfl rfl rfl ?_
          have hD : zND (LM A (va_up (va_up m 9 (nEA (r 3) L a : Int)) 14 (nWV (r 3) L a)) r) := hD
          refine Zn.eq (pc2 := 147) (ls2 := [some (za (A 0)), some (zi x), some (zi y), some (zi e), some (zi (cur (r 3) L (n1A (r 3) L a))), some (zi ((sk (r 3) L a) : Int)), some (zi (ngV (r 3) L a)), some (zi (nWV (r 3) L a))]) (st2 := []) (h2 := zov (LM A (va_up (va_up m 9 (nEA (r 3) L a : Int)) 14 (nVV (r 3) L a)) r) h) rfl rfl rfl (by first | (exfalso; omega) | (rw [nVV, if_neg (by omega)]; done) | (rw [nVV, if_pos (by omega)]; done)) ?_
          have hD : zND (LM A (va_up (va_up m 9 (nEA (r 3) L a : Int)) 14 (nVV (r 3) L a)) r) := hD
          refine Zn.seg (pc2 := 148) (ls2 := [some (za (A 0)), some (zi x), some (zi y), some (zi e), some (zi (cur (r 3) L (n1A (r 3) L a))), some (zi ((sk (r 3) L a) : Int)), some (zi (ngV (r 3) L a)), some (zi (nWV (r 3) L a))]) (st2 := [za (A 0)]) [(147, .aload_n 0)] (by decide +kernel) rfl ?_
          refine Zn.get (ix := 156) hD 0 (by decide +kernel) rfl rfl rfl ?_
          refine Zn.eq (st2 := [zi (nVV (r 3) L a)]) rfl rfl rfl rfl ?_
          refine Zn.i2l (by decide +kernel) ⟨by omega, by omega⟩ ?_
          refine Zn.seg (pc2 := 153) (ls2 := [some (za (A 0)), some (zi x), some (zi y), some (zi e), some (zi (cur (r 3) L (n1A (r 3) L a))), some (zi ((sk (r 3) L a) : Int)), some (zi (ngV (r 3) L a)), some (zi (nWV (r 3) L a))]) (st2 := [zi x, zj (nVV (r 3) L a)]) [(152, .iload_n 1)] (by decide +kernel) rfl ?_
          refine Zn.i2l (by decide +kernel) ⟨by omega, by omega⟩ ?_
          refine Zn.seg (pc2 := 155) (ls2 := [some (za (A 0)), some (zi x), some (zi y), some (zi e), some (zi (cur (r 3) L (n1A (r 3) L a))), some (zi ((sk (r 3) L a) : Int)), some (zi (ngV (r 3) L a)), some (zi (nWV (r 3) L a))]) (st2 := [zi y, zj x, zj (nVV (r 3) L a)]) [(154, .iload_n 2)] (by decide +kernel) rfl ?_
          refine Zn.i2l (by decide +kernel) ⟨by omega, by omega⟩ ?_
          refine Zn.call (ins := .invokestatic 77) [zj (nVV (r 3) L a), zj x, zj y] [] (by decide +kernel) rfl rfl rfl ⟨rfl, rfl⟩ ⟨rfl, rfl, rfl⟩ rfl (zrecvS (by decide)) (sp_X8_in (x := nVV (r 3) L a) (lo := x) (hi := y) (⟨by omega, by omega⟩) (⟨by omega, by omega⟩) (⟨by omega, by omega⟩)) (fun v h2 hp => ?_)
          obtain ⟨rfl, hq_51⟩ := hp
          refine Zn.eq (pc2 := 159) (ls2 := [some (za (A 0)), some (zi x), some (zi y), some (zi e), some (zi (cur (r 3) L (n1A (r 3) L a))), some (zi ((sk (r 3) L a) : Int)), some (zi (ngV (r 3) L a)), some (zi (nWV (r 3) L a))]) (st2 := [zi (inB x y (nVV (r 3) L a))]) (h2 := zov (LM A (va_up (va_up m 9 (nEA (r 3) L a : Int)) 14 (nVV (r 3) L a)) r) h) rfl rfl rfl hq_51 ?_
          have hD : zND (LM A (va_up (va_up m 9 (nEA (r 3) L a : Int)) 14 (nVV (r 3) L a)) r) := hD
          have q_52 := inB_spec x y (nVV (r 3) L a)
          refine Zn.ifc (c := .eq) (off := 22) 181 (by decide +kernel) rfl ⟨by omega, by omega⟩ (fun c_53 => ?_) (fun c_53 => ?_)
          · have c_53 : inB x y (nVV (r 3) L a) = 0 := c_53
            refine Zn.seg (pc2 := 184) (ls2 := [some (za (A 0)), some (zi x), some (zi y), some (zi e), some (zi (cur (r 3) L (n1A (r 3) L a))), some (zi ((sk (r 3) L a) : Int)), some (zi (ngV (r 3) L a)), some (zi (nWV (r 3) L a))]) (st2 := [zi ((sk (r 3) L a) : Int), za (A 0)]) [(181, .aload_n 0), (182, .iload 5)] (by decide +kernel) rfl ?_
            refine Zn.put (ix := 142) hD 0 (by decide +kernel) rfl rfl rfl rfl rfl ?_
            refine Zn.eq (h2 := zov (LM A (va_up (va_up m 9 ((sk (r 3) L a) : Int)) 14 (nVV (r 3) L a)) r) h) rfl rfl rfl rfl ?_
            have hD : zND (LM A (va_up (va_up m 9 ((sk (r 3) L a) : Int)) 14 (nVV (r 3) L a)) r) := hD
            refine Zn.seg (pc2 := 188) (ls2 := [some (za (A 0)), some (zi x), some (zi y), some (zi e), some (zi (cur (r 3) L (n1A (r 3) L a))), some (zi ((sk (r 3) L a) : Int)), some (zi (ngV (r 3) L a)), some (zi (nWV (r 3) L a))]) (st2 := [zi 0]) [(187, .iconst 0)] (by decide +kernel) rfl ?_
            exact Zn.bret (by decide +kernel) rfl (by first | decide | omega) (⟨by refine congrArg some (congrArg zi ?_); rw [rdV, if_pos (by omega), if_neg (by omega)], by rw [rdA, if_pos (by omega), if_neg (by omega), rdN, if_pos (by omega)]⟩)
          · have c_53 : ¬ (inB x y (nVV (r 3) L a) = 0) := c_53
            refine Zn.seg (pc2 := 163) (ls2 := [some (za (A 0)), some (zi x), some (zi y), some (zi e), some (zi (cur (r 3) L (n1A (r 3) L a))), some (zi ((sk (r 3) L a) : Int)), some (zi (ngV (r 3) L a)), some (zi (nWV (r 3) L a))]) (st2 := [zi e]) [(162, .iload_n 3)] (by decide +kernel) rfl ?_
            refine Zn.ifc (c := .eq) (off := 26) 189 (by decide +kernel) rfl ⟨by omega, by omega⟩ (fun c_54 => ?_) (fun c_54 => ?_)
            · have c_54 : e = 0 := c_54
              refine Zn.seg (pc2 := 190) (ls2 := [some (za (A 0)), some (zi x), some (zi y), some (zi e), some (zi (cur (r 3) L (n1A (r 3) L a))), some (zi ((sk (r 3) L a) : Int)), some (zi (ngV (r 3) L a)), some (zi (nWV (r 3) L a))]) (st2 := [zi 1]) [(189, .iconst 1)] (by decide +kernel) rfl ?_
              exact Zn.bret (by decide +kernel) rfl (by first | decide | omega) (⟨by refine congrArg some (congrArg zi ?_); rw [rdV, if_pos (by omega), if_pos (by omega)], by rw [rdA, if_pos (by omega), if_pos (by omega), rdN, if_pos (by omega)]⟩)
            · have c_54 : ¬ (e = 0) := c_54
              refine Zn.seg (pc2 := 167) (ls2 := [some (za (A 0)), some (zi x), some (zi y), some (zi e), some (zi (cur (r 3) L (n1A (r 3) L a))), some (zi ((sk (r 3) L a) : Int)), some (zi (ngV (r 3) L a)), some (zi (nWV (r 3) L a))]) (st2 := [za (A 0)]) [(166, .aload_n 0)] (by decide +kernel) rfl ?_
              refine Zn.get (ix := 39) hD 0 (by decide +kernel) rfl rfl rfl ?_
              refine Zn.seg (pc2 := 171) (ls2 := [some (za (A 0)), some (zi x), some (zi y), some (zi e), some (zi (cur (r 3) L (n1A (r 3) L a))), some (zi ((sk (r 3) L a) : Int)), some (zi (ngV (r 3) L a)), some (zi (nWV (r 3) L a))]) (st2 := [za (A 0), za (A 9)]) [(170, .aload_n 0)] (by decide +kernel) rfl ?_
              refine Zn.get (ix := 156) hD 0 (by decide +kernel) rfl rfl rfl ?_
              refine Zn.eq (st2 := [zi (nVV (r 3) L a), za (A 9)]) rfl rfl rfl rfl ?_
              refine Zn.seg (pc2 := 177) (ls2 := [some (za (A 0)), some (zi x), some (zi y), some (zi e), some (zi (cur (r 3) L (n1A (r 3) L a))), some (zi ((sk (r 3) L a) : Int)), some (zi (ngV (r 3) L a)), some (zi (nWV (r 3) L a))]) (st2 := [zi (nVV (r 3) L a + 6), za (A 9)]) [(174, .bipush 6), (176, .iadd)] (by decide +kernel) rfl ?_
              refine Zn.iald hD 9 ((nVV (r 3) L a + 6).toNat) (by decide +kernel) rfl (by omega) (by omega) rfl ?_
              refine Zn.ifc (c := .le) (off := 11) 189 (by decide +kernel) rfl ⟨by omega, by omega⟩ (fun c_55 => ?_) (fun c_55 => ?_)
              · have c_55 : (r 9) ((nVV (r 3) L a + 6).toNat) ≤ 0 := c_55
                refine Zn.seg (pc2 := 190) (ls2 := [some (za (A 0)), some (zi x), some (zi y), some (zi e), some (zi (cur (r 3) L (n1A (r 3) L a))), some (zi ((sk (r 3) L a) : Int)), some (zi (ngV (r 3) L a)), some (zi (nWV (r 3) L a))]) (st2 := [zi 1]) [(189, .iconst 1)] (by decide +kernel) rfl ?_
                exact Zn.bret (by decide +kernel) rfl (by first | decide | omega) (⟨by refine congrArg some (congrArg zi ?_); rw [rdV, if_pos (by omega), if_pos (by omega)], by rw [rdA, if_pos (by omega), if_pos (by omega), rdN, if_pos (by omega)]⟩)
              · have c_55 : ¬ ((r 9) ((nVV (r 3) L a + 6).toNat) ≤ 0) := c_55
                refine Zn.seg (pc2 := 184) (ls2 := [some (za (A 0)), some (zi x), some (zi y), some (zi e), some (zi (cur (r 3) L (n1A (r 3) L a))), some (zi ((sk (r 3) L a) : Int)), some (zi (ngV (r 3) L a)), some (zi (nWV (r 3) L a))]) (st2 := [zi ((sk (r 3) L a) : Int), za (A 0)]) [(181, .aload_n 0), (182, .iload 5)] (by decide +kernel) rfl ?_
                refine Zn.put (ix := 142) hD 0 (by decide +kernel) rfl rfl rfl rfl rfl ?_
                refine Zn.eq (h2 := zov (LM A (va_up (va_up m 9 ((sk (r 3) L a) : Int)) 14 (nVV (r 3) L a)) r) h) rfl rfl rfl rfl ?_
                have hD : zND (LM A (va_up (va_up m 9 ((sk (r 3) L a) : Int)) 14 (nVV (r 3) L a)) r) := hD
                refine Zn.seg (pc2 := 188) (ls2 := [some (za (A 0)), some (zi x), some (zi y), some (zi e), some (zi (cur (r 3) L (n1A (r 3) L a))), some (zi ((sk (r 3) L a) : Int)), some (zi (ngV (r 3) L a)), some (zi (nWV (r 3) L a))]) (st2 := [zi 0]) [(187, .iconst 0)] (by decide +kernel) rfl ?_
                exact Zn.bret (by decide +kernel) rfl (by first | decide | omega) (⟨by refine congrArg some (congrArg zi ?_); rw [rdV, if_pos (by omega), if_neg (by omega)], by rw [rdA, if_pos (by omega), if_neg (by omega), rdN, if_pos (by omega)]⟩)
        · have c_50 : ¬ (ngV (r 3) L a = 0) := c_50
          refine Zn.seg (pc2 := 144) (ls2 := [some (za (A 0)), some (zi x), some (zi y), some (zi e), some (zi (cur (r 3) L (n1A (r 3) L a))), some (zi ((sk (r 3) L a) : Int)), some (zi (ngV (r 3) L a)), some (zi (nWV (r 3) L a))]) (st2 := [zi (-(nWV (r 3) L a)), za (A 0)]) [(136, .iload 7), (138, .ineg), (139, .goto 5)] (by decide +kernel) rfl ?_
          refine Zn.put (ix := 156) hD 0 (by decide +kernel) rfl rfl rfl rfl rfl ?_
          refine Zn.eq (h2 := zov (LM A (va_up (va_up m 9 (nEA (r 3) L a : Int)) 14 (-(nWV (r 3) L a))) r) h) rfl rfl rfl rfl ?_
          have hD : zND (LM A (va_up (va_up m 9 (nEA (r 3) L a : Int)) 14 (-(nWV (r 3) L a))) r) := hD
          refine Zn.eq (pc2 := 147) (ls2 := [some (za (A 0)), some (zi x), some (zi y), some (zi e), some (zi (cur (r 3) L (n1A (r 3) L a))), some (zi ((sk (r 3) L a) : Int)), some (zi (ngV (r 3) L a)), some (zi (nWV (r 3) L a))]) (st2 := []) (h2 := zov (LM A (va_up (va_up m 9 (nEA (r 3) L a : Int)) 14 (nVV (r 3) L a)) r) h) rfl rfl rfl (by first | (exfalso; omega) | (rw [nVV, if_neg (by omega)]; done) | (rw [nVV, if_pos (by omega)]; done)) ?_
          have hD : zND (LM A (va_up (va_up m 9 (nEA (r 3) L a : Int)) 14 (nVV (r 3) L a)) r) := hD
          refine Zn.seg (pc2 := 148) (ls2 := [some (za (A 0)), some (zi x), some (zi y), some (zi e), some (zi (cur (r 3) L (n1A (r 3) L a))), some (zi ((sk (r 3) L a) : Int)), some (zi (ngV (r 3) L a)), some (zi (nWV (r 3) L a))]) (st2 := [za (A 0)]) [(147, .aload_n 0)] (by decide +kernel) rfl ?_
          refine Zn.get (ix := 156) hD 0 (by decide +kernel) rfl rfl rfl ?_
          refine Zn.eq (st2 := [zi (nVV (r 3) L a)]) rfl rfl rfl rfl ?_
          refine Zn.i2l (by decide +kernel) ⟨by omega, by omega⟩ ?_
          refine Zn.seg (pc2 := 153) (ls2 := [some (za (A 0)), some (zi x), some (zi y), some (zi e), some (zi (cur (r 3) L (n1A (r 3) L a))), some (zi ((sk (r 3) L a) : Int)), some (zi (ngV (r 3) L a)), some (zi (nWV (r 3) L a))]) (st2 := [zi x, zj (nVV (r 3) L a)]) [(152, .iload_n 1)] (by decide +kernel) rfl ?_
          refine Zn.i2l (by decide +kernel) ⟨by omega, by omega⟩ ?_
          refine Zn.seg (pc2 := 155) (ls2 := [some (za (A 0)), some (zi x), some (zi y), some (zi e), some (zi (cur (r 3) L (n1A (r 3) L a))), some (zi ((sk (r 3) L a) : Int)), some (zi (ngV (r 3) L a)), some (zi (nWV (r 3) L a))]) (st2 := [zi y, zj x, zj (nVV (r 3) L a)]) [(154, .iload_n 2)] (by decide +kernel) rfl ?_
          refine Zn.i2l (by decide +kernel) ⟨by omega, by omega⟩ ?_
          refine Zn.call (ins := .invokestatic 77) [zj (nVV (r 3) L a), zj x, zj y] [] (by decide +kernel) rfl rfl rfl ⟨rfl, rfl⟩ ⟨rfl, rfl, rfl⟩ rfl (zrecvS (by decide)) (sp_X8_in (x := nVV (r 3) L a) (lo := x) (hi := y) (⟨by omega, by omega⟩) (⟨by omega, by omega⟩) (⟨by omega, by omega⟩)) (fun v h2 hp => ?_)
          obtain ⟨rfl, hq_56⟩ := hp
          refine Zn.eq (pc2 := 159) (ls2 := [some (za (A 0)), some (zi x), some (zi y), some (zi e), some (zi (cur (r 3) L (n1A (r 3) L a))), some (zi ((sk (r 3) L a) : Int)), some (zi (ngV (r 3) L a)), some (zi (nWV (r 3) L a))]) (st2 := [zi (inB x y (nVV (r 3) L a))]) (h2 := zov (LM A (va_up (va_up m 9 (nEA (r 3) L a : Int)) 14 (nVV (r 3) L a)) r) h) rfl rfl rfl hq_56 ?_
          have hD : zND (LM A (va_up (va_up m 9 (nEA (r 3) L a : Int)) 14 (nVV (r 3) L a)) r) := hD
          have q_57 := inB_spec x y (nVV (r 3) L a)
          refine Zn.ifc (c := .eq) (off := 22) 181 (by decide +kernel) rfl ⟨by omega, by omega⟩ (fun c_58 => ?_) (fun c_58 => ?_)
          · have c_58 : inB x y (nVV (r 3) L a) = 0 := c_58
            refine Zn.seg (pc2 := 184) (ls2 := [some (za (A 0)), some (zi x), some (zi y), some (zi e), some (zi (cur (r 3) L (n1A (r 3) L a))), some (zi ((sk (r 3) L a) : Int)), some (zi (ngV (r 3) L a)), some (zi (nWV (r 3) L a))]) (st2 := [zi ((sk (r 3) L a) : Int), za (A 0)]) [(181, .aload_n 0), (182, .iload 5)] (by decide +kernel) rfl ?_
            refine Zn.put (ix := 142) hD 0 (by decide +kernel) rfl rfl rfl rfl rfl ?_
            refine Zn.eq (h2 := zov (LM A (va_up (va_up m 9 ((sk (r 3) L a) : Int)) 14 (nVV (r 3) L a)) r) h) rfl rfl rfl rfl ?_
            have hD : zND (LM A (va_up (va_up m 9 ((sk (r 3) L a) : Int)) 14 (nVV (r 3) L a)) r) := hD
            refine Zn.seg (pc2 := 188) (ls2 := [some (za (A 0)), some (zi x), some (zi y), some (zi e), some (zi (cur (r 3) L (n1A (r 3) L a))), some (zi ((sk (r 3) L a) : Int)), some (zi (ngV (r 3) L a)), some (zi (nWV (r 3) L a))]) (st2 := [zi 0]) [(187, .iconst 0)] (by decide +kernel) rfl ?_
            exact Zn.bret (by decide +kernel) rfl (by first | decide | omega) (⟨by refine congrArg some (congrArg zi ?_); rw [rdV, if_pos (by omega), if_neg (by omega)], by rw [rdA, if_pos (by omega), if_neg (by omega), rdN, if_pos (by omega)]⟩)
          · have c_58 : ¬ (inB x y (nVV (r 3) L a) = 0) := c_58
            refine Zn.seg (pc2 := 163) (ls2 := [some (za (A 0)), some (zi x), some (zi y), some (zi e), some (zi (cur (r 3) L (n1A (r 3) L a))), some (zi ((sk (r 3) L a) : Int)), some (zi (ngV (r 3) L a)), some (zi (nWV (r 3) L a))]) (st2 := [zi e]) [(162, .iload_n 3)] (by decide +kernel) rfl ?_
            refine Zn.ifc (c := .eq) (off := 26) 189 (by decide +kernel) rfl ⟨by omega, by omega⟩ (fun c_59 => ?_) (fun c_59 => ?_)
            · have c_59 : e = 0 := c_59
              refine Zn.seg (pc2 := 190) (ls2 := [some (za (A 0)), some (zi x), some (zi y), some (zi e), some (zi (cur (r 3) L (n1A (r 3) L a))), some (zi ((sk (r 3) L a) : Int)), some (zi (ngV (r 3) L a)), some (zi (nWV (r 3) L a))]) (st2 := [zi 1]) [(189, .iconst 1)] (by decide +kernel) rfl ?_
              exact Zn.bret (by decide +kernel) rfl (by first | decide | omega) (⟨by refine congrArg some (congrArg zi ?_); rw [rdV, if_pos (by omega), if_pos (by omega)], by rw [rdA, if_pos (by omega), if_pos (by omega), rdN, if_pos (by omega)]⟩)
            · have c_59 : ¬ (e = 0) := c_59
              refine Zn.seg (pc2 := 167) (ls2 := [some (za (A 0)), some (zi x), some (zi y), some (zi e), some (zi (cur (r 3) L (n1A (r 3) L a))), some (zi ((sk (r 3) L a) : Int)), some (zi (ngV (r 3) L a)), some (zi (nWV (r 3) L a))]) (st2 := [za (A 0)]) [(166, .aload_n 0)] (by decide +kernel) rfl ?_
              refine Zn.get (ix := 39) hD 0 (by decide +kernel) rfl rfl rfl ?_
              refine Zn.seg (pc2 := 171) (ls2 := [some (za (A 0)), some (zi x), some (zi y), some (zi e), some (zi (cur (r 3) L (n1A (r 3) L a))), some (zi ((sk (r 3) L a) : Int)), some (zi (ngV (r 3) L a)), some (zi (nWV (r 3) L a))]) (st2 := [za (A 0), za (A 9)]) [(170, .aload_n 0)] (by decide +kernel) rfl ?_
              refine Zn.get (ix := 156) hD 0 (by decide +kernel) rfl rfl rfl ?_
              refine Zn.eq (st2 := [zi (nVV (r 3) L a), za (A 9)]) rfl rfl rfl rfl ?_
              refine Zn.seg (pc2 := 177) (ls2 := [some (za (A 0)), some (zi x), some (zi y), some (zi e), some (zi (cur (r 3) L (n1A (r 3) L a))), some (zi ((sk (r 3) L a) : Int)), some (zi (ngV (r 3) L a)), some (zi (nWV (r 3) L a))]) (st2 := [zi (nVV (r 3) L a + 6), za (A 9)]) [(174, .bipush 6), (176, .iadd)] (by decide +kernel) rfl ?_
              refine Zn.iald hD 9 ((nVV (r 3) L a + 6).toNat) (by decide +kernel) rfl (by omega) (by omega) rfl ?_
              refine Zn.ifc (c := .le) (off := 11) 189 (by decide +kernel) rfl ⟨by omega, by omega⟩ (fun c_60 => ?_) (fun c_60 => ?_)
              · have c_60 : (r 9) ((nVV (r 3) L a + 6).toNat) ≤ 0 := c_60
                refine Zn.seg (pc2 := 190) (ls2 := [some (za (A 0)), some (zi x), some (zi y), some (zi e), some (zi (cur (r 3) L (n1A (r 3) L a))), some (zi ((sk (r 3) L a) : Int)), some (zi (ngV (r 3) L a)), some (zi (nWV (r 3) L a))]) (st2 := [zi 1]) [(189, .iconst 1)] (by decide +kernel) rfl ?_
                exact Zn.bret (by decide +kernel) rfl (by first | decide | omega) (⟨by refine congrArg some (congrArg zi ?_); rw [rdV, if_pos (by omega), if_pos (by omega)], by rw [rdA, if_pos (by omega), if_pos (by omega), rdN, if_pos (by omega)]⟩)
              · have c_60 : ¬ ((r 9) ((nVV (r 3) L a + 6).toNat) ≤ 0) := c_60
                refine Zn.seg (pc2 := 184) (ls2 := [some (za (A 0)), some (zi x), some (zi y), some (zi e), some (zi (cur (r 3) L (n1A (r 3) L a))), some (zi ((sk (r 3) L a) : Int)), some (zi (ngV (r 3) L a)), some (zi (nWV (r 3) L a))]) (st2 := [zi ((sk (r 3) L a) : Int), za (A 0)]) [(181, .aload_n 0), (182, .iload 5)] (by decide +kernel) rfl ?_
                refine Zn.put (ix := 142) hD 0 (by decide +kernel) rfl rfl rfl rfl rfl ?_
                refine Zn.eq (h2 := zov (LM A (va_up (va_up m 9 ((sk (r 3) L a) : Int)) 14 (nVV (r 3) L a)) r) h) rfl rfl rfl rfl ?_
                have hD : zND (LM A (va_up (va_up m 9 ((sk (r 3) L a) : Int)) 14 (nVV (r 3) L a)) r) := hD
                refine Zn.seg (pc2 := 188) (ls2 := [some (za (A 0)), some (zi x), some (zi y), some (zi e), some (zi (cur (r 3) L (n1A (r 3) L a))), some (zi ((sk (r 3) L a) : Int)), some (zi (ngV (r 3) L a)), some (zi (nWV (r 3) L a))]) (st2 := [zi 0]) [(187, .iconst 0)] (by decide +kernel) rfl ?_
                exact Zn.bret (by decide +kernel) rfl (by first | decide | omega) (⟨by refine congrArg some (congrArg zi ?_); rw [rdV, if_pos (by omega), if_neg (by omega)], by rw [rdA, if_pos (by omega), if_neg (by omega), rdN, if_pos (by omega)]⟩)
      · have c_49 : ¬ ((L : Int) ≤ (n1A (r 3) L a : Int) + 1) := c_49
        refine Zn.seg (pc2 := 86) (ls2 := [some (za (A 0)), some (zi x), some (zi y), some (zi e), some (zi (cur (r 3) L (n1A (r 3) L a))), some (zi ((sk (r 3) L a) : Int)), some (zi (ngV (r 3) L a)), some (zi (cur (r 3) L (n1A (r 3) L a) - 48))]) (st2 := [za (A 0)]) [(85, .aload_n 0)] (by decide +kernel) rfl ?_
        refine Zn.get (ix := 20) hD 0 (by decide +kernel) rfl rfl rfl ?_
        refine Zn.seg (pc2 := 90) (ls2 := [some (za (A 0)), some (zi x), some (zi y), some (zi e), some (zi (cur (r 3) L (n1A (r 3) L a))), some (zi ((sk (r 3) L a) : Int)), some (zi (ngV (r 3) L a)), some (zi (cur (r 3) L (n1A (r 3) L a) - 48))]) (st2 := [za (A 0), za (A 3)]) [(89, .aload_n 0)] (by decide +kernel) rfl ?_
        refine Zn.get (ix := 142) hD 0 (by decide +kernel) rfl rfl rfl ?_
        refine Zn.eq (st2 := [zi ((n1A (r 3) L a : Int) + 1), za (A 3)]) rfl rfl rfl rfl ?_
        refine Zn.iald hD 3 (n1A ( r 3 ) L a + 1) (by decide +kernel) rfl (by omega) (by omega) rfl ?_
        refine Zn.call (ins := .invokestatic 152) [zi ((r 3) (n1A ( r 3 ) L a + 1))] [] (by decide +kernel) rfl rfl rfl ⟨rfl, rfl⟩ ⟨rfl, rfl, rfl⟩ rfl (zrecvS (by decide)) (sp_X8_isFigure (x := (r 3) (n1A ( r 3 ) L a + 1)) (⟨by omega, by omega⟩)) (fun v h2 hp => ?_)
        obtain ⟨rfl, hq_61⟩ := hp
        refine Zn.eq (pc2 := 97) (ls2 := [some (za (A 0)), some (zi x), some (zi y), some (zi e), some (zi (cur (r 3) L (n1A (r 3) L a))), some (zi ((sk (r 3) L a) : Int)), some (zi (ngV (r 3) L a)), some (zi (cur (r 3) L (n1A (r 3) L a) - 48))]) (st2 := [zi (inB 48 57 ((r 3) (n1A ( r 3 ) L a + 1)))]) (h2 := zov (LM A (va_up m 9 ((n1A (r 3) L a : Int) + 1)) r) h) rfl rfl rfl hq_61 ?_
        have hD : zND (LM A (va_up m 9 ((n1A (r 3) L a : Int) + 1)) r) := hD
        have q_62 := inB_spec 48 57 ((r 3) (n1A ( r 3 ) L a + 1))
        refine Zn.ifc (c := .eq) (off := 33) 130 (by decide +kernel) rfl ⟨by omega, by omega⟩ (fun c_63 => ?_) (fun c_63 => ?_)
        · have c_63 : inB 48 57 ((r 3) (n1A ( r 3 ) L a + 1)) = 0 := c_63
          refine Zn.eq (pc2 := 130) (ls2 := [some (za (A 0)), some (zi x), some (zi y), some (zi e), some (zi (cur (r 3) L (n1A (r 3) L a))), some (zi ((sk (r 3) L a) : Int)), some (zi (ngV (r 3) L a)), some (zi (nWV (r 3) L a))]) (st2 := []) (h2 := zov (LM A (va_up m 9 (nEA (r 3) L a : Int)) r) h) rfl (zcons rfl (zcons rfl (zcons rfl (zcons rfl (zcons rfl (zcons rfl (zcons rfl (zcons (congrArg (fun z => some (zi z)) (by first | (rw [nWV, if_pos (by omega)]; omega) | (rw [nWV, if_neg (by omega)]))) rfl)))))))) rfl (by first | (rw [show (nEA (r 3) L a : Int) = (n1A (r 3) L a : Int) + 1 + 1 from by omega]; done) | (rw [show (nEA (r 3) L a : Int) = (n1A (r 3) L a : Int) + 1 from by omega]; done)) ?_
          have hD : zND (LM A (va_up m 9 (nEA (r 3) L a : Int)) r) := hD
          refine Zn.seg (pc2 := 133) (ls2 := [some (za (A 0)), some (zi x), some (zi y), some (zi e), some (zi (cur (r 3) L (n1A (r 3) L a))), some (zi ((sk (r 3) L a) : Int)), some (zi (ngV (r 3) L a)), some (zi (nWV (r 3) L a))]) (st2 := [zi (ngV (r 3) L a), za (A 0)]) [(130, .aload_n 0), (131, .iload 6)] (by decide +kernel) rfl ?_
          refine Zn.ifc (c := .eq) (off := 9) 142 (by decide +kernel) rfl ⟨by omega, by omega⟩ (fun c_64 => ?_) (fun c_64 => ?_)
          · have c_64 : ngV (r 3) L a = 0 := c_64
            refine Zn.seg (pc2 := 144) (ls2 := [some (za (A 0)), some (zi x), some (zi y), some (zi e), some (zi (cur (r 3) L (n1A (r 3) L a))), some (zi ((sk (r 3) L a) : Int)), some (zi (ngV (r 3) L a)), some (zi (nWV (r 3) L a))]) (st2 := [zi (nWV (r 3) L a), za (A 0)]) [(142, .iload 7)] (by decide +kernel) rfl ?_
            refine Zn.put (ix := 156) hD 0 (by decide +kernel) rfl rfl rfl rfl rfl ?_
            refine Zn.eq (h2 := zov (LM A (va_up (va_up m 9 (nEA (r 3) L a : Int)) 14 (nWV (r 3) L a)) r) h) rfl rfl rfl rfl ?_
            have hD : zND (LM A (va_up (va_up m 9 (nEA (r 3) L a : Int)) 14 (nWV (r 3) L a)) r) := hD
            refine Zn.eq (pc2 := 147) (ls2 := [some (za (A 0)), some (zi x), some (zi y), some (zi e), some (zi (cur (r 3) L (n1A (r 3) L a))), some (zi ((sk (r 3) L a) : Int)), some (zi (ngV (r 3) L a)), some (zi (nWV (r 3) L a))]) (st2 := []) (h2 := zov (LM A (va_up (va_up m 9 (nEA (r 3) L a : Int)) 14 (nVV (r 3) L a)) r) h) rfl rfl rfl (by first | (exfalso; omega) | (rw [nVV, if_neg (by omega)]; done) | (rw [nVV, if_pos (by omega)]; done)) ?_
            have hD : zND (LM A (va_up (va_up m 9 (nEA (r 3) L a : Int)) 14 (nVV (r 3) L a)) r) := hD
            refine Zn.seg (pc2 := 148) (ls2 := [some (za (A 0)), some (zi x), some (zi y), some (zi e), some (zi (cur (r 3) L (n1A (r 3) L a))), some (zi ((sk (r 3) L a) : Int)), some (zi (ngV (r 3) L a)), some (zi (nWV (r 3) L a))]) (st2 := [za (A 0)]) [(147, .aload_n 0)] (by decide +kernel) rfl ?_
            refine Zn.get (ix := 156) hD 0 (by decide +kernel) rfl rfl rfl ?_
            refine Zn.eq (st2 := [zi (nVV (r 3) L a)]) rfl rfl rfl rfl ?_
            refine Zn.i2l (by decide +kernel) ⟨by omega, by omega⟩ ?_
            refine Zn.seg (pc2 := 153) (ls2 := [some (za (A 0)), some (zi x), some (zi y), some (zi e), some (zi (cur (r 3) L (n1A (r 3) L a))), some (zi ((sk (r 3) L a) : Int)), some (zi (ngV (r 3) L a)), some (zi (nWV (r 3) L a))]) (st2 := [zi x, zj (nVV (r 3) L a)]) [(152, .iload_n 1)] (by decide +kernel) rfl ?_
            refine Zn.i2l (by decide +kernel) ⟨by omega, by omega⟩ ?_
            refine Zn.seg (pc2 := 155) (ls2 := [some (za (A 0)), some (zi x), some (zi y), some (zi e), some (zi (cur (r 3) L (n1A (r 3) L a))), some (zi ((sk (r 3) L a) : Int)), some (zi (ngV (r 3) L a)), some (zi (nWV (r 3) L a))]) (st2 := [zi y, zj x, zj (nVV (r 3) L a)]) [(154, .iload_n 2)] (by decide +kernel) rfl ?_
            refine Zn.i2l (by decide +kernel) ⟨by omega, by omega⟩ ?_
            refine Zn.call (ins := .invokestatic 77) [zj (nVV (r 3) L a), zj x, zj y] [] (by decide +kernel) rfl rfl rfl ⟨rfl, rfl⟩ ⟨rfl, rfl, rfl⟩ rfl (zrecvS (by decide)) (sp_X8_in (x := nVV (r 3) L a) (lo := x) (hi := y) (⟨by omega, by omega⟩) (⟨by omega, by omega⟩) (⟨by omega, by omega⟩)) (fun v h2 hp => ?_)
            obtain ⟨rfl, hq_65⟩ := hp
            refine Zn.eq (pc2 := 159) (ls2 := [some (za (A 0)), some (zi x), some (zi y), some (zi e), some (zi (cur (r 3) L (n1A (r 3) L a))), some (zi ((sk (r 3) L a) : Int)), some (zi (ngV (r 3) L a)), some (zi (nWV (r 3) L a))]) (st2 := [zi (inB x y (nVV (r 3) L a))]) (h2 := zov (LM A (va_up (va_up m 9 (nEA (r 3) L a : Int)) 14 (nVV (r 3) L a)) r) h) rfl rfl rfl hq_65 ?_
            have hD : zND (LM A (va_up (va_up m 9 (nEA (r 3) L a : Int)) 14 (nVV (r 3) L a)) r) := hD
            have q_66 := inB_spec x y (nVV (r 3) L a)
            refine Zn.ifc (c := .eq) (off := 22) 181 (by decide +kernel) rfl ⟨by omega, by omega⟩ (fun c_67 => ?_) (fun c_67 => ?_)
            · have c_67 : inB x y (nVV (r 3) L a) = 0 := c_67
              refine Zn.seg (pc2 := 184) (ls2 := [some (za (A 0)), some (zi x), some (zi y), some (zi e), some (zi (cur (r 3) L (n1A (r 3) L a))), some (zi ((sk (r 3) L a) : Int)), some (zi (ngV (r 3) L a)), some (zi (nWV (r 3) L a))]) (st2 := [zi ((sk (r 3) L a) : Int), za (A 0)]) [(181, .aload_n 0), (182, .iload 5)] (by decide +kernel) rfl ?_
              refine Zn.put (ix := 142) hD 0 (by decide +kernel) rfl rfl rfl rfl rfl ?_
              refine Zn.eq (h2 := zov (LM A (va_up (va_up m 9 ((sk (r 3) L a) : Int)) 14 (nVV (r 3) L a)) r) h) rfl rfl rfl rfl ?_
              have hD : zND (LM A (va_up (va_up m 9 ((sk (r 3) L a) : Int)) 14 (nVV (r 3) L a)) r) := hD
              refine Zn.seg (pc2 := 188) (ls2 := [some (za (A 0)), some (zi x), some (zi y), some (zi e), some (zi (cur (r 3) L (n1A (r 3) L a))), some (zi ((sk (r 3) L a) : Int)), some (zi (ngV (r 3) L a)), some (zi (nWV (r 3) L a))]) (st2 := [zi 0]) [(187, .iconst 0)] (by decide +kernel) rfl ?_
              exact Zn.bret (by decide +kernel) rfl (by first | decide | omega) (⟨by refine congrArg some (congrArg zi ?_); rw [rdV, if_pos (by omega), if_neg (by omega)], by rw [rdA, if_pos (by omega), if_neg (by omega), rdN, if_pos (by omega)]⟩)
            · have c_67 : ¬ (inB x y (nVV (r 3) L a) = 0) := c_67
              refine Zn.seg (pc2 := 163) (ls2 := [some (za (A 0)), some (zi x), some (zi y), some (zi e), some (zi (cur (r 3) L (n1A (r 3) L a))), some (zi ((sk (r 3) L a) : Int)), some (zi (ngV (r 3) L a)), some (zi (nWV (r 3) L a))]) (st2 := [zi e]) [(162, .iload_n 3)] (by decide +kernel) rfl ?_
              refine Zn.ifc (c := .eq) (off := 26) 189 (by decide +kernel) rfl ⟨by omega, by omega⟩ (fun c_68 => ?_) (fun c_68 => ?_)
              · have c_68 : e = 0 := c_68
                refine Zn.seg (pc2 := 190) (ls2 := [some (za (A 0)), some (zi x), some (zi y), some (zi e), some (zi (cur (r 3) L (n1A (r 3) L a))), some (zi ((sk (r 3) L a) : Int)), some (zi (ngV (r 3) L a)), some (zi (nWV (r 3) L a))]) (st2 := [zi 1]) [(189, .iconst 1)] (by decide +kernel) rfl ?_
                exact Zn.bret (by decide +kernel) rfl (by first | decide | omega) (⟨by refine congrArg some (congrArg zi ?_); rw [rdV, if_pos (by omega), if_pos (by omega)], by rw [rdA, if_pos (by omega), if_pos (by omega), rdN, if_pos (by omega)]⟩)
              · have c_68 : ¬ (e = 0) := c_68
                refine Zn.seg (pc2 := 167) (ls2 := [some (za (A 0)), some (zi x), some (zi y), some (zi e), some (zi (cur (r 3) L (n1A (r 3) L a))), some (zi ((sk (r 3) L a) : Int)), some (zi (ngV (r 3) L a)), some (zi (nWV (r 3) L a))]) (st2 := [za (A 0)]) [(166, .aload_n 0)] (by decide +kernel) rfl ?_
                refine Zn.get (ix := 39) hD 0 (by decide +kernel) rfl rfl rfl ?_
                refine Zn.seg (pc2 := 171) (ls2 := [some (za (A 0)), some (zi x), some (zi y), some (zi e), some (zi (cur (r 3) L (n1A (r 3) L a))), some (zi ((sk (r 3) L a) : Int)), some (zi (ngV (r 3) L a)), some (zi (nWV (r 3) L a))]) (st2 := [za (A 0), za (A 9)]) [(170, .aload_n 0)] (by decide +kernel) rfl ?_
                refine Zn.get (ix := 156) hD 0 (by decide +kernel) rfl rfl rfl ?_
                refine Zn.eq (st2 := [zi (nVV (r 3) L a), za (A 9)]) rfl rfl rfl rfl ?_
                refine Zn.seg (pc2 := 177) (ls2 := [some (za (A 0)), some (zi x), some (zi y), some (zi e), some (zi (cur (r 3) L (n1A (r 3) L a))), some (zi ((sk (r 3) L a) : Int)), some (zi (ngV (r 3) L a)), some (zi (nWV (r 3) L a))]) (st2 := [zi (nVV (r 3) L a + 6), za (A 9)]) [(174, .bipush 6), (176, .iadd)] (by decide +kernel) rfl ?_
                refine Zn.iald hD 9 ((nVV (r 3) L a + 6).toNat) (by decide +kernel) rfl (by omega) (by omega) rfl ?_
                refine Zn.ifc (c := .le) (off := 11) 189 (by decide +kernel) rfl ⟨by omega, by omega⟩ (fun c_69 => ?_) (fun c_69 => ?_)
                · have c_69 : (r 9) ((nVV (r 3) L a + 6).toNat) ≤ 0 := c_69
                  refine Zn.seg (pc2 := 190) (ls2 := [some (za (A 0)), some (zi x), some (zi y), some (zi e), some (zi (cur (r 3) L (n1A (r 3) L a))), some (zi ((sk (r 3) L a) : Int)), some (zi (ngV (r 3) L a)), some (zi (nWV (r 3) L a))]) (st2 := [zi 1]) [(189, .iconst 1)] (by decide +kernel) rfl ?_
                  exact Zn.bret (by decide +kernel) rfl (by first | decide | omega) (⟨by refine congrArg some (congrArg zi ?_); rw [rdV, if_pos (by omega), if_pos (by omega)], by rw [rdA, if_pos (by omega), if_pos (by omega), rdN, if_pos (by omega)]⟩)
                · have c_69 : ¬ ((r 9) ((nVV (r 3) L a + 6).toNat) ≤ 0) := c_69
                  refine Zn.seg (pc2 := 184) (ls2 := [some (za (A 0)), some (zi x), some (zi y), some (zi e), some (zi (cur (r 3) L (n1A (r 3) L a))), some (zi ((sk (r 3) L a) : Int)), some (zi (ngV (r 3) L a)), some (zi (nWV (r 3) L a))]) (st2 := [zi ((sk (r 3) L a) : Int), za (A 0)]) [(181, .aload_n 0), (182, .iload 5)] (by decide +kernel) rfl ?_
                  refine Zn.put (ix := 142) hD 0 (by decide +kernel) rfl rfl rfl rfl rfl ?_
                  refine Zn.eq (h2 := zov (LM A (va_up (va_up m 9 ((sk (r 3) L a) : Int)) 14 (nVV (r 3) L a)) r) h) rfl rfl rfl rfl ?_
                  have hD : zND (LM A (va_up (va_up m 9 ((sk (r 3) L a) : Int)) 14 (nVV (r 3) L a)) r) := hD
                  refine Zn.seg (pc2 := 188) (ls2 := [some (za (A 0)), some (zi x), some (zi y), some (zi e), some (zi (cur (r 3) L (n1A (r 3) L a))), some (zi ((sk (r 3) L a) : Int)), some (zi (ngV (r 3) L a)), some (zi (nWV (r 3) L a))]) (st2 := [zi 0]) [(187, .iconst 0)] (by decide +kernel) rfl ?_
                  exact Zn.bret (by decide +kernel) rfl (by first | decide | omega) (⟨by refine congrArg some (congrArg zi ?_); rw [rdV, if_pos (by omega), if_neg (by omega)], by rw [rdA, if_pos (by omega), if_neg (by omega), rdN, if_pos (by omega)]⟩)
          · have c_64 : ¬ (ngV (r 3) L a = 0) := c_64
            refine Zn.seg (pc2 := 144) (ls2 := [some (za (A 0)), some (zi x), some (zi y), some (zi e), some (zi (cur (r 3) L (n1A (r 3) L a))), some (zi ((sk (r 3) L a) : Int)), some (zi (ngV (r 3) L a)), some (zi (nWV (r 3) L a))]) (st2 := [zi (-(nWV (r 3) L a)), za (A 0)]) [(136, .iload 7), (138, .ineg), (139, .goto 5)] (by decide +kernel) rfl ?_
            refine Zn.put (ix := 156) hD 0 (by decide +kernel) rfl rfl rfl rfl rfl ?_
            refine Zn.eq (h2 := zov (LM A (va_up (va_up m 9 (nEA (r 3) L a : Int)) 14 (-(nWV (r 3) L a))) r) h) rfl rfl rfl rfl ?_
            have hD : zND (LM A (va_up (va_up m 9 (nEA (r 3) L a : Int)) 14 (-(nWV (r 3) L a))) r) := hD
            refine Zn.eq (pc2 := 147) (ls2 := [some (za (A 0)), some (zi x), some (zi y), some (zi e), some (zi (cur (r 3) L (n1A (r 3) L a))), some (zi ((sk (r 3) L a) : Int)), some (zi (ngV (r 3) L a)), some (zi (nWV (r 3) L a))]) (st2 := []) (h2 := zov (LM A (va_up (va_up m 9 (nEA (r 3) L a : Int)) 14 (nVV (r 3) L a)) r) h) rfl rfl rfl (by first | (exfalso; omega) | (rw [nVV, if_neg (by omega)]; done) | (rw [nVV, if_pos (by omega)]; done)) ?_
            have hD : zND (LM A (va_up (va_up m 9 (nEA (r 3) L a : Int)) 14 (nVV (r 3) L a)) r) := hD
            refine Zn.seg (pc2 := 148) (ls2 := [some (za (A 0)), some (zi x), some (zi y), some (zi e), some (zi (cur (r 3) L (n1A (r 3) L a))), some (zi ((sk (r 3) L a) : Int)), some (zi (ngV (r 3) L a)), some (zi (nWV (r 3) L a))]) (st2 := [za (A 0)]) [(147, .aload_n 0)] (by decide +kernel) rfl ?_
            refine Zn.get (ix := 156) hD 0 (by decide +kernel) rfl rfl rfl ?_
            refine Zn.eq (st2 := [zi (nVV (r 3) L a)]) rfl rfl rfl rfl ?_
            refine Zn.i2l (by decide +kernel) ⟨by omega, by omega⟩ ?_
            refine Zn.seg (pc2 := 153) (ls2 := [some (za (A 0)), some (zi x), some (zi y), some (zi e), some (zi (cur (r 3) L (n1A (r 3) L a))), some (zi ((sk (r 3) L a) : Int)), some (zi (ngV (r 3) L a)), some (zi (nWV (r 3) L a))]) (st2 := [zi x, zj (nVV (r 3) L a)]) [(152, .iload_n 1)] (by decide +kernel) rfl ?_
            refine Zn.i2l (by decide +kernel) ⟨by omega, by omega⟩ ?_
            refine Zn.seg (pc2 := 155) (ls2 := [some (za (A 0)), some (zi x), some (zi y), some (zi e), some (zi (cur (r 3) L (n1A (r 3) L a))), some (zi ((sk (r 3) L a) : Int)), some (zi (ngV (r 3) L a)), some (zi (nWV (r 3) L a))]) (st2 := [zi y, zj x, zj (nVV (r 3) L a)]) [(154, .iload_n 2)] (by decide +kernel) rfl ?_
            refine Zn.i2l (by decide +kernel) ⟨by omega, by omega⟩ ?_
            refine Zn.call (ins := .invokestatic 77) [zj (nVV (r 3) L a), zj x, zj y] [] (by decide +kernel) rfl rfl rfl ⟨rfl, rfl⟩ ⟨rfl, rfl, rfl⟩ rfl (zrecvS (by decide)) (sp_X8_in (x := nVV (r 3) L a) (lo := x) (hi := y) (⟨by omega, by omega⟩) (⟨by omega, by omega⟩) (⟨by omega, by omega⟩)) (fun v h2 hp => ?_)
            obtain ⟨rfl, hq_70⟩ := hp
            refine Zn.eq (pc2 := 159) (ls2 := [some (za (A 0)), some (zi x), some (zi y), some (zi e), some (zi (cur (r 3) L (n1A (r 3) L a))), some (zi ((sk (r 3) L a) : Int)), some (zi (ngV (r 3) L a)), some (zi (nWV (r 3) L a))]) (st2 := [zi (inB x y (nVV (r 3) L a))]) (h2 := zov (LM A (va_up (va_up m 9 (nEA (r 3) L a : Int)) 14 (nVV (r 3) L a)) r) h) rfl rfl rfl hq_70 ?_
            have hD : zND (LM A (va_up (va_up m 9 (nEA (r 3) L a : Int)) 14 (nVV (r 3) L a)) r) := hD
            have q_71 := inB_spec x y (nVV (r 3) L a)
            refine Zn.ifc (c := .eq) (off := 22) 181 (by decide +kernel) rfl ⟨by omega, by omega⟩ (fun c_72 => ?_) (fun c_72 => ?_)
            · have c_72 : inB x y (nVV (r 3) L a) = 0 := c_72
              refine Zn.seg (pc2 := 184) (ls2 := [some (za (A 0)), some (zi x), some (zi y), some (zi e), some (zi (cur (r 3) L (n1A (r 3) L a))), some (zi ((sk (r 3) L a) : Int)), some (zi (ngV (r 3) L a)), some (zi (nWV (r 3) L a))]) (st2 := [zi ((sk (r 3) L a) : Int), za (A 0)]) [(181, .aload_n 0), (182, .iload 5)] (by decide +kernel) rfl ?_
              refine Zn.put (ix := 142) hD 0 (by decide +kernel) rfl rfl rfl rfl rfl ?_
              refine Zn.eq (h2 := zov (LM A (va_up (va_up m 9 ((sk (r 3) L a) : Int)) 14 (nVV (r 3) L a)) r) h) rfl rfl rfl rfl ?_
              have hD : zND (LM A (va_up (va_up m 9 ((sk (r 3) L a) : Int)) 14 (nVV (r 3) L a)) r) := hD
              refine Zn.seg (pc2 := 188) (ls2 := [some (za (A 0)), some (zi x), some (zi y), some (zi e), some (zi (cur (r 3) L (n1A (r 3) L a))), some (zi ((sk (r 3) L a) : Int)), some (zi (ngV (r 3) L a)), some (zi (nWV (r 3) L a))]) (st2 := [zi 0]) [(187, .iconst 0)] (by decide +kernel) rfl ?_
              exact Zn.bret (by decide +kernel) rfl (by first | decide | omega) (⟨by refine congrArg some (congrArg zi ?_); rw [rdV, if_pos (by omega), if_neg (by omega)], by rw [rdA, if_pos (by omega), if_neg (by omega), rdN, if_pos (by omega)]⟩)
            · have c_72 : ¬ (inB x y (nVV (r 3) L a) = 0) := c_72
              refine Zn.seg (pc2 := 163) (ls2 := [some (za (A 0)), some (zi x), some (zi y), some (zi e), some (zi (cur (r 3) L (n1A (r 3) L a))), some (zi ((sk (r 3) L a) : Int)), some (zi (ngV (r 3) L a)), some (zi (nWV (r 3) L a))]) (st2 := [zi e]) [(162, .iload_n 3)] (by decide +kernel) rfl ?_
              refine Zn.ifc (c := .eq) (off := 26) 189 (by decide +kernel) rfl ⟨by omega, by omega⟩ (fun c_73 => ?_) (fun c_73 => ?_)
              · have c_73 : e = 0 := c_73
                refine Zn.seg (pc2 := 190) (ls2 := [some (za (A 0)), some (zi x), some (zi y), some (zi e), some (zi (cur (r 3) L (n1A (r 3) L a))), some (zi ((sk (r 3) L a) : Int)), some (zi (ngV (r 3) L a)), some (zi (nWV (r 3) L a))]) (st2 := [zi 1]) [(189, .iconst 1)] (by decide +kernel) rfl ?_
                exact Zn.bret (by decide +kernel) rfl (by first | decide | omega) (⟨by refine congrArg some (congrArg zi ?_); rw [rdV, if_pos (by omega), if_pos (by omega)], by rw [rdA, if_pos (by omega), if_pos (by omega), rdN, if_pos (by omega)]⟩)
              · have c_73 : ¬ (e = 0) := c_73
                refine Zn.seg (pc2 := 167) (ls2 := [some (za (A 0)), some (zi x), some (zi y), some (zi e), some (zi (cur (r 3) L (n1A (r 3) L a))), some (zi ((sk (r 3) L a) : Int)), some (zi (ngV (r 3) L a)), some (zi (nWV (r 3) L a))]) (st2 := [za (A 0)]) [(166, .aload_n 0)] (by decide +kernel) rfl ?_
                refine Zn.get (ix := 39) hD 0 (by decide +kernel) rfl rfl rfl ?_
                refine Zn.seg (pc2 := 171) (ls2 := [some (za (A 0)), some (zi x), some (zi y), some (zi e), some (zi (cur (r 3) L (n1A (r 3) L a))), some (zi ((sk (r 3) L a) : Int)), some (zi (ngV (r 3) L a)), some (zi (nWV (r 3) L a))]) (st2 := [za (A 0), za (A 9)]) [(170, .aload_n 0)] (by decide +kernel) rfl ?_
                refine Zn.get (ix := 156) hD 0 (by decide +kernel) rfl rfl rfl ?_
                refine Zn.eq (st2 := [zi (nVV (r 3) L a), za (A 9)]) rfl rfl rfl rfl ?_
                refine Zn.seg (pc2 := 177) (ls2 := [some (za (A 0)), some (zi x), some (zi y), some (zi e), some (zi (cur (r 3) L (n1A (r 3) L a))), some (zi ((sk (r 3) L a) : Int)), some (zi (ngV (r 3) L a)), some (zi (nWV (r 3) L a))]) (st2 := [zi (nVV (r 3) L a + 6), za (A 9)]) [(174, .bipush 6), (176, .iadd)] (by decide +kernel) rfl ?_
                refine Zn.iald hD 9 ((nVV (r 3) L a + 6).toNat) (by decide +kernel) rfl (by omega) (by omega) rfl ?_
                refine Zn.ifc (c := .le) (off := 11) 189 (by decide +kernel) rfl ⟨by omega, by omega⟩ (fun c_74 => ?_) (fun c_74 => ?_)
                · have c_74 : (r 9) ((nVV (r 3) L a + 6).toNat) ≤ 0 := c_74
                  refine Zn.seg (pc2 := 190) (ls2 := [some (za (A 0)), some (zi x), some (zi y), some (zi e), some (zi (cur (r 3) L (n1A (r 3) L a))), some (zi ((sk (r 3) L a) : Int)), some (zi (ngV (r 3) L a)), some (zi (nWV (r 3) L a))]) (st2 := [zi 1]) [(189, .iconst 1)] (by decide +kernel) rfl ?_
                  exact Zn.bret (by decide +kernel) rfl (by first | decide | omega) (⟨by refine congrArg some (congrArg zi ?_); rw [rdV, if_pos (by omega), if_pos (by omega)], by rw [rdA, if_pos (by omega), if_pos (by omega), rdN, if_pos (by omega)]⟩)
                · have c_74 : ¬ ((r 9) ((nVV (r 3) L a + 6).toNat) ≤ 0) := c_74
                  refine Zn.seg (pc2 := 184) (ls2 := [some (za (A 0)), some (zi x), some (zi y), some (zi e), some (zi (cur (r 3) L (n1A (r 3) L a))), some (zi ((sk (r 3) L a) : Int)), some (zi (ngV (r 3) L a)), some (zi (nWV (r 3) L a))]) (st2 := [zi ((sk (r 3) L a) : Int), za (A 0)]) [(181, .aload_n 0), (182, .iload 5)] (by decide +kernel) rfl ?_
                  refine Zn.put (ix := 142) hD 0 (by decide +kernel) rfl rfl rfl rfl rfl ?_
                  refine Zn.eq (h2 := zov (LM A (va_up (va_up m 9 ((sk (r 3) L a) : Int)) 14 (nVV (r 3) L a)) r) h) rfl rfl rfl rfl ?_
                  have hD : zND (LM A (va_up (va_up m 9 ((sk (r 3) L a) : Int)) 14 (nVV (r 3) L a)) r) := hD
                  refine Zn.seg (pc2 := 188) (ls2 := [some (za (A 0)), some (zi x), some (zi y), some (zi e), some (zi (cur (r 3) L (n1A (r 3) L a))), some (zi ((sk (r 3) L a) : Int)), some (zi (ngV (r 3) L a)), some (zi (nWV (r 3) L a))]) (st2 := [zi 0]) [(187, .iconst 0)] (by decide +kernel) rfl ?_
                  exact Zn.bret (by decide +kernel) rfl (by first | decide | omega) (⟨by refine congrArg some (congrArg zi ?_); rw [rdV, if_pos (by omega), if_neg (by omega)], by rw [rdA, if_pos (by omega), if_neg (by omega), rdN, if_pos (by omega)]⟩)
        · have c_63 : ¬ (inB 48 57 ((r 3) (n1A ( r 3 ) L a + 1)) = 0) := c_63
          refine Zn.seg (pc2 := 106) (ls2 := [some (za (A 0)), some (zi x), some (zi y), some (zi e), some (zi (cur (r 3) L (n1A (r 3) L a))), some (zi ((sk (r 3) L a) : Int)), some (zi (ngV (r 3) L a)), some (zi (cur (r 3) L (n1A (r 3) L a) - 48))]) (st2 := [za (A 0), zi (10 * (cur (r 3) L (n1A (r 3) L a) - 48))]) [(100, .bipush 10), (102, .iload 7), (104, .imul), (105, .aload_n 0)] (by decide +kernel) rfl ?_
          refine Zn.get (ix := 20) hD 0 (by decide +kernel) rfl rfl rfl ?_
          refine Zn.seg (pc2 := 110) (ls2 := [some (za (A 0)), some (zi x), some (zi y), some (zi e), some (zi (cur (r 3) L (n1A (r 3) L a))), some (zi ((sk (r 3) L a) : Int)), some (zi (ngV (r 3) L a)), some (zi (cur (r 3) L (n1A (r 3) L a) - 48))]) (st2 := [za (A 0), za (A 3), zi (10 * (cur (r 3) L (n1A (r 3) L a) - 48))]) [(109, .aload_n 0)] (by decide +kernel) rfl ?_
          refine Zn.get (ix := 142) hD 0 (by decide +kernel) rfl rfl rfl ?_
          refine Zn.eq (st2 := [zi ((n1A (r 3) L a : Int) + 1), za (A 3), zi (10 * (cur (r 3) L (n1A (r 3) L a) - 48))]) rfl rfl rfl rfl ?_
          refine Zn.iald hD 3 (n1A ( r 3 ) L a + 1) (by decide +kernel) rfl (by omega) (by omega) rfl ?_
          refine Zn.seg (pc2 := 122) (ls2 := [some (za (A 0)), some (zi x), some (zi y), some (zi e), some (zi (cur (r 3) L (n1A (r 3) L a))), some (zi ((sk (r 3) L a) : Int)), some (zi (ngV (r 3) L a)), some (zi (10 * (cur (r 3) L (n1A (r 3) L a) - 48) + ((r 3) (n1A ( r 3 ) L a + 1)) - 48))]) (st2 := [za (A 0), za (A 0)]) [(114, .iadd), (115, .bipush 48), (117, .isub), (118, .istore 7), (120, .aload_n 0), (121, .dup)] (by decide +kernel) rfl ?_
          refine Zn.get (ix := 142) hD 0 (by decide +kernel) rfl rfl rfl ?_
          refine Zn.eq (st2 := [zi ((n1A (r 3) L a : Int) + 1), za (A 0)]) rfl rfl rfl rfl ?_
          refine Zn.seg (pc2 := 127) (ls2 := [some (za (A 0)), some (zi x), some (zi y), some (zi e), some (zi (cur (r 3) L (n1A (r 3) L a))), some (zi ((sk (r 3) L a) : Int)), some (zi (ngV (r 3) L a)), some (zi (10 * (cur (r 3) L (n1A (r 3) L a) - 48) + ((r 3) (n1A ( r 3 ) L a + 1)) - 48))]) (st2 := [zi ((n1A (r 3) L a : Int) + 1 + 1), za (A 0)]) [(125, .iconst 1), (126, .iadd)] (by decide +kernel) rfl ?_
          refine Zn.put (ix := 142) hD 0 (by decide +kernel) rfl rfl rfl rfl rfl ?_
          refine Zn.eq (h2 := zov (LM A (va_up m 9 ((n1A (r 3) L a : Int) + 1 + 1)) r) h) rfl rfl rfl rfl ?_
          have hD : zND (LM A (va_up m 9 ((n1A (r 3) L a : Int) + 1 + 1)) r) := hD
          refine Zn.eq (pc2 := 130) (ls2 := [some (za (A 0)), some (zi x), some (zi y), some (zi e), some (zi (cur (r 3) L (n1A (r 3) L a))), some (zi ((sk (r 3) L a) : Int)), some (zi (ngV (r 3) L a)), some (zi (nWV (r 3) L a))]) (st2 := []) (h2 := zov (LM A (va_up m 9 (nEA (r 3) L a : Int)) r) h) rfl (zcons rfl (zcons rfl (zcons rfl (zcons rfl (zcons rfl (zcons rfl (zcons rfl (zcons (congrArg (fun z => some (zi z)) (by first | (rw [nWV, if_pos (by omega)]; omega) | (rw [nWV, if_neg (by omega)]))) rfl)))))))) rfl (by first | (rw [show (nEA (r 3) L a : Int) = (n1A (r 3) L a : Int) + 1 + 1 from by omega]; done) | (rw [show (nEA (r 3) L a : Int) = (n1A (r 3) L a : Int) + 1 from by omega]; done)) ?_
          have hD : zND (LM A (va_up m 9 (nEA (r 3) L a : Int)) r) := hD
          refine Zn.seg (pc2 := 133) (ls2 := [some (za (A 0)), some (zi x), some (zi y), some (zi e), some (zi (cur (r 3) L (n1A (r 3) L a))), some (zi ((sk (r 3) L a) : Int)), some (zi (ngV (r 3) L a)), some (zi (nWV (r 3) L a))]) (st2 := [zi (ngV (r 3) L a), za (A 0)]) [(130, .aload_n 0), (131, .iload 6)] (by decide +kernel) rfl ?_
          refine Zn.ifc (c := .eq) (off := 9) 142 (by decide +kernel) rfl ⟨by omega, by omega⟩ (fun c_75 => ?_) (fun c_75 => ?_)
          · have c_75 : ngV (r 3) L a = 0 := c_75
            refine Zn.seg (pc2 := 144) (ls2 := [some (za (A 0)), some (zi x), some (zi y), some (zi e), some (zi (cur (r 3) L (n1A (r 3) L a))), some (zi ((sk (r 3) L a) : Int)), some (zi (ngV (r 3) L a)), some (zi (nWV (r 3) L a))]) (st2 := [zi (nWV (r 3) L a), za (A 0)]) [(142, .iload 7)] (by decide +kernel) rfl ?_
            refine Zn.put (ix := 156) hD 0 (by decide +kernel) rfl rfl rfl rfl rfl ?_
            refine Zn.eq (h2 := zov (LM A (va_up (va_up m 9 (nEA (r 3) L a : Int)) 14 (nWV (r 3) L a)) r) h) rfl rfl rfl rfl ?_
            have hD : zND (LM A (va_up (va_up m 9 (nEA (r 3) L a : Int)) 14 (nWV (r 3) L a)) r) := hD
            refine Zn.eq (pc2 := 147) (ls2 := [some (za (A 0)), some (zi x), some (zi y), some (zi e), some (zi (cur (r 3) L (n1A (r 3) L a))), some (zi ((sk (r 3) L a) : Int)), some (zi (ngV (r 3) L a)), some (zi (nWV (r 3) L a))]) (st2 := []) (h2 := zov (LM A (va_up (va_up m 9 (nEA (r 3) L a : Int)) 14 (nVV (r 3) L a)) r) h) rfl rfl rfl (by first | (exfalso; omega) | (rw [nVV, if_neg (by omega)]; done) | (rw [nVV, if_pos (by omega)]; done)) ?_
            have hD : zND (LM A (va_up (va_up m 9 (nEA (r 3) L a : Int)) 14 (nVV (r 3) L a)) r) := hD
            refine Zn.seg (pc2 := 148) (ls2 := [some (za (A 0)), some (zi x), some (zi y), some (zi e), some (zi (cur (r 3) L (n1A (r 3) L a))), some (zi ((sk (r 3) L a) : Int)), some (zi (ngV (r 3) L a)), some (zi (nWV (r 3) L a))]) (st2 := [za (A 0)]) [(147, .aload_n 0)] (by decide +kernel) rfl ?_
            refine Zn.get (ix := 156) hD 0 (by decide +kernel) rfl rfl rfl ?_
            refine Zn.eq (st2 := [zi (nVV (r 3) L a)]) rfl rfl rfl rfl ?_
            refine Zn.i2l (by decide +kernel) ⟨by omega, by omega⟩ ?_
            refine Zn.seg (pc2 := 153) (ls2 := [some (za (A 0)), some (zi x), some (zi y), some (zi e), some (zi (cur (r 3) L (n1A (r 3) L a))), some (zi ((sk (r 3) L a) : Int)), some (zi (ngV (r 3) L a)), some (zi (nWV (r 3) L a))]) (st2 := [zi x, zj (nVV (r 3) L a)]) [(152, .iload_n 1)] (by decide +kernel) rfl ?_
            refine Zn.i2l (by decide +kernel) ⟨by omega, by omega⟩ ?_
            refine Zn.seg (pc2 := 155) (ls2 := [some (za (A 0)), some (zi x), some (zi y), some (zi e), some (zi (cur (r 3) L (n1A (r 3) L a))), some (zi ((sk (r 3) L a) : Int)), some (zi (ngV (r 3) L a)), some (zi (nWV (r 3) L a))]) (st2 := [zi y, zj x, zj (nVV (r 3) L a)]) [(154, .iload_n 2)] (by decide +kernel) rfl ?_
            refine Zn.i2l (by decide +kernel) ⟨by omega, by omega⟩ ?_
            refine Zn.call (ins := .invokestatic 77) [zj (nVV (r 3) L a), zj x, zj y] [] (by decide +kernel) rfl rfl rfl ⟨rfl, rfl⟩ ⟨rfl, rfl, rfl⟩ rfl (zrecvS (by decide)) (sp_X8_in (x := nVV (r 3) L a) (lo := x) (hi := y) (⟨by omega, by omega⟩) (⟨by omega, by omega⟩) (⟨by omega, by omega⟩)) (fun v h2 hp => ?_)
            obtain ⟨rfl, hq_76⟩ := hp
            refine Zn.eq (pc2 := 159) (ls2 := [some (za (A 0)), some (zi x), some (zi y), some (zi e), some (zi (cur (r 3) L (n1A (r 3) L a))), some (zi ((sk (r 3) L a) : Int)), some (zi (ngV (r 3) L a)), some (zi (nWV (r 3) L a))]) (st2 := [zi (inB x y (nVV (r 3) L a))]) (h2 := zov (LM A (va_up (va_up m 9 (nEA (r 3) L a : Int)) 14 (nVV (r 3) L a)) r) h) rfl rfl rfl hq_76 ?_
            have hD : zND (LM A (va_up (va_up m 9 (nEA (r 3) L a : Int)) 14 (nVV (r 3) L a)) r) := hD
            have q_77 := inB_spec x y (nVV (r 3) L a)
            refine Zn.ifc (c := .eq) (off := 22) 181 (by decide +kernel) rfl ⟨by omega, by omega⟩ (fun c_78 => ?_) (fun c_78 => ?_)
            · have c_78 : inB x y (nVV (r 3) L a) = 0 := c_78
              refine Zn.seg (pc2 := 184) (ls2 := [some (za (A 0)), some (zi x), some (zi y), some (zi e), some (zi (cur (r 3) L (n1A (r 3) L a))), some (zi ((sk (r 3) L a) : Int)), some (zi (ngV (r 3) L a)), some (zi (nWV (r 3) L a))]) (st2 := [zi ((sk (r 3) L a) : Int), za (A 0)]) [(181, .aload_n 0), (182, .iload 5)] (by decide +kernel) rfl ?_
              refine Zn.put (ix := 142) hD 0 (by decide +kernel) rfl rfl rfl rfl rfl ?_
              refine Zn.eq (h2 := zov (LM A (va_up (va_up m 9 ((sk (r 3) L a) : Int)) 14 (nVV (r 3) L a)) r) h) rfl rfl rfl rfl ?_
              have hD : zND (LM A (va_up (va_up m 9 ((sk (r 3) L a) : Int)) 14 (nVV (r 3) L a)) r) := hD
              refine Zn.seg (pc2 := 188) (ls2 := [some (za (A 0)), some (zi x), some (zi y), some (zi e), some (zi (cur (r 3) L (n1A (r 3) L a))), some (zi ((sk (r 3) L a) : Int)), some (zi (ngV (r 3) L a)), some (zi (nWV (r 3) L a))]) (st2 := [zi 0]) [(187, .iconst 0)] (by decide +kernel) rfl ?_
              exact Zn.bret (by decide +kernel) rfl (by first | decide | omega) (⟨by refine congrArg some (congrArg zi ?_); rw [rdV, if_pos (by omega), if_neg (by omega)], by rw [rdA, if_pos (by omega), if_neg (by omega), rdN, if_pos (by omega)]⟩)
            · have c_78 : ¬ (inB x y (nVV (r 3) L a) = 0) := c_78
              refine Zn.seg (pc2 := 163) (ls2 := [some (za (A 0)), some (zi x), some (zi y), some (zi e), some (zi (cur (r 3) L (n1A (r 3) L a))), some (zi ((sk (r 3) L a) : Int)), some (zi (ngV (r 3) L a)), some (zi (nWV (r 3) L a))]) (st2 := [zi e]) [(162, .iload_n 3)] (by decide +kernel) rfl ?_
              refine Zn.ifc (c := .eq) (off := 26) 189 (by decide +kernel) rfl ⟨by omega, by omega⟩ (fun c_79 => ?_) (fun c_79 => ?_)
              · have c_79 : e = 0 := c_79
                refine Zn.seg (pc2 := 190) (ls2 := [some (za (A 0)), some (zi x), some (zi y), some (zi e), some (zi (cur (r 3) L (n1A (r 3) L a))), some (zi ((sk (r 3) L a) : Int)), some (zi (ngV (r 3) L a)), some (zi (nWV (r 3) L a))]) (st2 := [zi 1]) [(189, .iconst 1)] (by decide +kernel) rfl ?_
                exact Zn.bret (by decide +kernel) rfl (by first | decide | omega) (⟨by refine congrArg some (congrArg zi ?_); rw [rdV, if_pos (by omega), if_pos (by omega)], by rw [rdA, if_pos (by omega), if_pos (by omega), rdN, if_pos (by omega)]⟩)
              · have c_79 : ¬ (e = 0) := c_79
                refine Zn.seg (pc2 := 167) (ls2 := [some (za (A 0)), some (zi x), some (zi y), some (zi e), some (zi (cur (r 3) L (n1A (r 3) L a))), some (zi ((sk (r 3) L a) : Int)), some (zi (ngV (r 3) L a)), some (zi (nWV (r 3) L a))]) (st2 := [za (A 0)]) [(166, .aload_n 0)] (by decide +kernel) rfl ?_
                refine Zn.get (ix := 39) hD 0 (by decide +kernel) rfl rfl rfl ?_
                refine Zn.seg (pc2 := 171) (ls2 := [some (za (A 0)), some (zi x), some (zi y), some (zi e), some (zi (cur (r 3) L (n1A (r 3) L a))), some (zi ((sk (r 3) L a) : Int)), some (zi (ngV (r 3) L a)), some (zi (nWV (r 3) L a))]) (st2 := [za (A 0), za (A 9)]) [(170, .aload_n 0)] (by decide +kernel) rfl ?_
                refine Zn.get (ix := 156) hD 0 (by decide +kernel) rfl rfl rfl ?_
                refine Zn.eq (st2 := [zi (nVV (r 3) L a), za (A 9)]) rfl rfl rfl rfl ?_
                refine Zn.seg (pc2 := 177) (ls2 := [some (za (A 0)), some (zi x), some (zi y), some (zi e), some (zi (cur (r 3) L (n1A (r 3) L a))), some (zi ((sk (r 3) L a) : Int)), some (zi (ngV (r 3) L a)), some (zi (nWV (r 3) L a))]) (st2 := [zi (nVV (r 3) L a + 6), za (A 9)]) [(174, .bipush 6), (176, .iadd)] (by decide +kernel) rfl ?_
                refine Zn.iald hD 9 ((nVV (r 3) L a + 6).toNat) (by decide +kernel) rfl (by omega) (by omega) rfl ?_
                refine Zn.ifc (c := .le) (off := 11) 189 (by decide +kernel) rfl ⟨by omega, by omega⟩ (fun c_80 => ?_) (fun c_80 => ?_)
                · have c_80 : (r 9) ((nVV (r 3) L a + 6).toNat) ≤ 0 := c_80
                  refine Zn.seg (pc2 := 190) (ls2 := [some (za (A 0)), some (zi x), some (zi y), some (zi e), some (zi (cur (r 3) L (n1A (r 3) L a))), some (zi ((sk (r 3) L a) : Int)), some (zi (ngV (r 3) L a)), some (zi (nWV (r 3) L a))]) (st2 := [zi 1]) [(189, .iconst 1)] (by decide +kernel) rfl ?_
                  exact Zn.bret (by decide +kernel) rfl (by first | decide | omega) (⟨by refine congrArg some (congrArg zi ?_); rw [rdV, if_pos (by omega), if_pos (by omega)], by rw [rdA, if_pos (by omega), if_pos (by omega), rdN, if_pos (by omega)]⟩)
                · have c_80 : ¬ ((r 9) ((nVV (r 3) L a + 6).toNat) ≤ 0) := c_80
                  refine Zn.seg (pc2 := 184) (ls2 := [some (za (A 0)), some (zi x), some (zi y), some (zi e), some (zi (cur (r 3) L (n1A (r 3) L a))), some (zi ((sk (r 3) L a) : Int)), some (zi (ngV (r 3) L a)), some (zi (nWV (r 3) L a))]) (st2 := [zi ((sk (r 3) L a) : Int), za (A 0)]) [(181, .aload_n 0), (182, .iload 5)] (by decide +kernel) rfl ?_
                  refine Zn.put (ix := 142) hD 0 (by decide +kernel) rfl rfl rfl rfl rfl ?_
                  refine Zn.eq (h2 := zov (LM A (va_up (va_up m 9 ((sk (r 3) L a) : Int)) 14 (nVV (r 3) L a)) r) h) rfl rfl rfl rfl ?_
                  have hD : zND (LM A (va_up (va_up m 9 ((sk (r 3) L a) : Int)) 14 (nVV (r 3) L a)) r) := hD
                  refine Zn.seg (pc2 := 188) (ls2 := [some (za (A 0)), some (zi x), some (zi y), some (zi e), some (zi (cur (r 3) L (n1A (r 3) L a))), some (zi ((sk (r 3) L a) : Int)), some (zi (ngV (r 3) L a)), some (zi (nWV (r 3) L a))]) (st2 := [zi 0]) [(187, .iconst 0)] (by decide +kernel) rfl ?_
                  exact Zn.bret (by decide +kernel) rfl (by first | decide | omega) (⟨by refine congrArg some (congrArg zi ?_); rw [rdV, if_pos (by omega), if_neg (by omega)], by rw [rdA, if_pos (by omega), if_neg (by omega), rdN, if_pos (by omega)]⟩)
          · have c_75 : ¬ (ngV (r 3) L a = 0) := c_75
            refine Zn.seg (pc2 := 144) (ls2 := [some (za (A 0)), some (zi x), some (zi y), some (zi e), some (zi (cur (r 3) L (n1A (r 3) L a))), some (zi ((sk (r 3) L a) : Int)), some (zi (ngV (r 3) L a)), some (zi (nWV (r 3) L a))]) (st2 := [zi (-(nWV (r 3) L a)), za (A 0)]) [(136, .iload 7), (138, .ineg), (139, .goto 5)] (by decide +kernel) rfl ?_
            refine Zn.put (ix := 156) hD 0 (by decide +kernel) rfl rfl rfl rfl rfl ?_
            refine Zn.eq (h2 := zov (LM A (va_up (va_up m 9 (nEA (r 3) L a : Int)) 14 (-(nWV (r 3) L a))) r) h) rfl rfl rfl rfl ?_
            have hD : zND (LM A (va_up (va_up m 9 (nEA (r 3) L a : Int)) 14 (-(nWV (r 3) L a))) r) := hD
            refine Zn.eq (pc2 := 147) (ls2 := [some (za (A 0)), some (zi x), some (zi y), some (zi e), some (zi (cur (r 3) L (n1A (r 3) L a))), some (zi ((sk (r 3) L a) : Int)), some (zi (ngV (r 3) L a)), some (zi (nWV (r 3) L a))]) (st2 := []) (h2 := zov (LM A (va_up (va_up m 9 (nEA (r 3) L a : Int)) 14 (nVV (r 3) L a)) r) h) rfl rfl rfl (by first | (exfalso; omega) | (rw [nVV, if_neg (by omega)]; done) | (rw [nVV, if_pos (by omega)]; done)) ?_
            have hD : zND (LM A (va_up (va_up m 9 (nEA (r 3) L a : Int)) 14 (nVV (r 3) L a)) r) := hD
            refine Zn.seg (pc2 := 148) (ls2 := [some (za (A 0)), some (zi x), some (zi y), some (zi e), some (zi (cur (r 3) L (n1A (r 3) L a))), some (zi ((sk (r 3) L a) : Int)), some (zi (ngV (r 3) L a)), some (zi (nWV (r 3) L a))]) (st2 := [za (A 0)]) [(147, .aload_n 0)] (by decide +kernel) rfl ?_
            refine Zn.get (ix := 156) hD 0 (by decide +kernel) rfl rfl rfl ?_
            refine Zn.eq (st2 := [zi (nVV (r 3) L a)]) rfl rfl rfl rfl ?_
            refine Zn.i2l (by decide +kernel) ⟨by omega, by omega⟩ ?_
            refine Zn.seg (pc2 := 153) (ls2 := [some (za (A 0)), some (zi x), some (zi y), some (zi e), some (zi (cur (r 3) L (n1A (r 3) L a))), some (zi ((sk (r 3) L a) : Int)), some (zi (ngV (r 3) L a)), some (zi (nWV (r 3) L a))]) (st2 := [zi x, zj (nVV (r 3) L a)]) [(152, .iload_n 1)] (by decide +kernel) rfl ?_
            refine Zn.i2l (by decide +kernel) ⟨by omega, by omega⟩ ?_
            refine Zn.seg (pc2 := 155) (ls2 := [some (za (A 0)), some (zi x), some (zi y), some (zi e), some (zi (cur (r 3) L (n1A (r 3) L a))), some (zi ((sk (r 3) L a) : Int)), some (zi (ngV (r 3) L a)), some (zi (nWV (r 3) L a))]) (st2 := [zi y, zj x, zj (nVV (r 3) L a)]) [(154, .iload_n 2)] (by decide +kernel) rfl ?_
            refine Zn.i2l (by decide +kernel) ⟨by omega, by omega⟩ ?_
            refine Zn.call (ins := .invokestatic 77) [zj (nVV (r 3) L a), zj x, zj y] [] (by decide +kernel) rfl rfl rfl ⟨rfl, rfl⟩ ⟨rfl, rfl, rfl⟩ rfl (zrecvS (by decide)) (sp_X8_in (x := nVV (r 3) L a) (lo := x) (hi := y) (⟨by omega, by omega⟩) (⟨by omega, by omega⟩) (⟨by omega, by omega⟩)) (fun v h2 hp => ?_)
            obtain ⟨rfl, hq_81⟩ := hp
            refine Zn.eq (pc2 := 159) (ls2 := [some (za (A 0)), some (zi x), some (zi y), some (zi e), some (zi (cur (r 3) L (n1A (r 3) L a))), some (zi ((sk (r 3) L a) : Int)), some (zi (ngV (r 3) L a)), some (zi (nWV (r 3) L a))]) (st2 := [zi (inB x y (nVV (r 3) L a))]) (h2 := zov (LM A (va_up (va_up m 9 (nEA (r 3) L a : Int)) 14 (nVV (r 3) L a)) r) h) rfl rfl rfl hq_81 ?_
            have hD : zND (LM A (va_up (va_up m 9 (nEA (r 3) L a : Int)) 14 (nVV (r 3) L a)) r) := hD
            have q_82 := inB_spec x y (nVV (r 3) L a)
            refine Zn.ifc (c := .eq) (off := 22) 181 (by decide +kernel) rfl ⟨by omega, by omega⟩ (fun c_83 => ?_) (fun c_83 => ?_)
            · have c_83 : inB x y (nVV (r 3) L a) = 0 := c_83
              refine Zn.seg (pc2 := 184) (ls2 := [some (za (A 0)), some (zi x), some (zi y), some (zi e), some (zi (cur (r 3) L (n1A (r 3) L a))), some (zi ((sk (r 3) L a) : Int)), some (zi (ngV (r 3) L a)), some (zi (nWV (r 3) L a))]) (st2 := [zi ((sk (r 3) L a) : Int), za (A 0)]) [(181, .aload_n 0), (182, .iload 5)] (by decide +kernel) rfl ?_
              refine Zn.put (ix := 142) hD 0 (by decide +kernel) rfl rfl rfl rfl rfl ?_
              refine Zn.eq (h2 := zov (LM A (va_up (va_up m 9 ((sk (r 3) L a) : Int)) 14 (nVV (r 3) L a)) r) h) rfl rfl rfl rfl ?_
              have hD : zND (LM A (va_up (va_up m 9 ((sk (r 3) L a) : Int)) 14 (nVV (r 3) L a)) r) := hD
              refine Zn.seg (pc2 := 188) (ls2 := [some (za (A 0)), some (zi x), some (zi y), some (zi e), some (zi (cur (r 3) L (n1A (r 3) L a))), some (zi ((sk (r 3) L a) : Int)), some (zi (ngV (r 3) L a)), some (zi (nWV (r 3) L a))]) (st2 := [zi 0]) [(187, .iconst 0)] (by decide +kernel) rfl ?_
              exact Zn.bret (by decide +kernel) rfl (by first | decide | omega) (⟨by refine congrArg some (congrArg zi ?_); rw [rdV, if_pos (by omega), if_neg (by omega)], by rw [rdA, if_pos (by omega), if_neg (by omega), rdN, if_pos (by omega)]⟩)
            · have c_83 : ¬ (inB x y (nVV (r 3) L a) = 0) := c_83
              refine Zn.seg (pc2 := 163) (ls2 := [some (za (A 0)), some (zi x), some (zi y), some (zi e), some (zi (cur (r 3) L (n1A (r 3) L a))), some (zi ((sk (r 3) L a) : Int)), some (zi (ngV (r 3) L a)), some (zi (nWV (r 3) L a))]) (st2 := [zi e]) [(162, .iload_n 3)] (by decide +kernel) rfl ?_
              refine Zn.ifc (c := .eq) (off := 26) 189 (by decide +kernel) rfl ⟨by omega, by omega⟩ (fun c_84 => ?_) (fun c_84 => ?_)
              · have c_84 : e = 0 := c_84
                refine Zn.seg (pc2 := 190) (ls2 := [some (za (A 0)), some (zi x), some (zi y), some (zi e), some (zi (cur (r 3) L (n1A (r 3) L a))), some (zi ((sk (r 3) L a) : Int)), some (zi (ngV (r 3) L a)), some (zi (nWV (r 3) L a))]) (st2 := [zi 1]) [(189, .iconst 1)] (by decide +kernel) rfl ?_
                exact Zn.bret (by decide +kernel) rfl (by first | decide | omega) (⟨by refine congrArg some (congrArg zi ?_); rw [rdV, if_pos (by omega), if_pos (by omega)], by rw [rdA, if_pos (by omega), if_pos (by omega), rdN, if_pos (by omega)]⟩)
              · have c_84 : ¬ (e = 0) := c_84
                refine Zn.seg (pc2 := 167) (ls2 := [some (za (A 0)), some (zi x), some (zi y), some (zi e), some (zi (cur (r 3) L (n1A (r 3) L a))), some (zi ((sk (r 3) L a) : Int)), some (zi (ngV (r 3) L a)), some (zi (nWV (r 3) L a))]) (st2 := [za (A 0)]) [(166, .aload_n 0)] (by decide +kernel) rfl ?_
                refine Zn.get (ix := 39) hD 0 (by decide +kernel) rfl rfl rfl ?_
                refine Zn.seg (pc2 := 171) (ls2 := [some (za (A 0)), some (zi x), some (zi y), some (zi e), some (zi (cur (r 3) L (n1A (r 3) L a))), some (zi ((sk (r 3) L a) : Int)), some (zi (ngV (r 3) L a)), some (zi (nWV (r 3) L a))]) (st2 := [za (A 0), za (A 9)]) [(170, .aload_n 0)] (by decide +kernel) rfl ?_
                refine Zn.get (ix := 156) hD 0 (by decide +kernel) rfl rfl rfl ?_
                refine Zn.eq (st2 := [zi (nVV (r 3) L a), za (A 9)]) rfl rfl rfl rfl ?_
                refine Zn.seg (pc2 := 177) (ls2 := [some (za (A 0)), some (zi x), some (zi y), some (zi e), some (zi (cur (r 3) L (n1A (r 3) L a))), some (zi ((sk (r 3) L a) : Int)), some (zi (ngV (r 3) L a)), some (zi (nWV (r 3) L a))]) (st2 := [zi (nVV (r 3) L a + 6), za (A 9)]) [(174, .bipush 6), (176, .iadd)] (by decide +kernel) rfl ?_
                refine Zn.iald hD 9 ((nVV (r 3) L a + 6).toNat) (by decide +kernel) rfl (by omega) (by omega) rfl ?_
                refine Zn.ifc (c := .le) (off := 11) 189 (by decide +kernel) rfl ⟨by omega, by omega⟩ (fun c_85 => ?_) (fun c_85 => ?_)
                · have c_85 : (r 9) ((nVV (r 3) L a + 6).toNat) ≤ 0 := c_85
                  refine Zn.seg (pc2 := 190) (ls2 := [some (za (A 0)), some (zi x), some (zi y), some (zi e), some (zi (cur (r 3) L (n1A (r 3) L a))), some (zi ((sk (r 3) L a) : Int)), some (zi (ngV (r 3) L a)), some (zi (nWV (r 3) L a))]) (st2 := [zi 1]) [(189, .iconst 1)] (by decide +kernel) rfl ?_
                  exact Zn.bret (by decide +kernel) rfl (by first | decide | omega) (⟨by refine congrArg some (congrArg zi ?_); rw [rdV, if_pos (by omega), if_pos (by omega)], by rw [rdA, if_pos (by omega), if_pos (by omega), rdN, if_pos (by omega)]⟩)
                · have c_85 : ¬ ((r 9) ((nVV (r 3) L a + 6).toNat) ≤ 0) := c_85
                  refine Zn.seg (pc2 := 184) (ls2 := [some (za (A 0)), some (zi x), some (zi y), some (zi e), some (zi (cur (r 3) L (n1A (r 3) L a))), some (zi ((sk (r 3) L a) : Int)), some (zi (ngV (r 3) L a)), some (zi (nWV (r 3) L a))]) (st2 := [zi ((sk (r 3) L a) : Int), za (A 0)]) [(181, .aload_n 0), (182, .iload 5)] (by decide +kernel) rfl ?_
                  refine Zn.put (ix := 142) hD 0 (by decide +kernel) rfl rfl rfl rfl rfl ?_
                  refine Zn.eq (h2 := zov (LM A (va_up (va_up m 9 ((sk (r 3) L a) : Int)) 14 (nVV (r 3) L a)) r) h) rfl rfl rfl rfl ?_
                  have hD : zND (LM A (va_up (va_up m 9 ((sk (r 3) L a) : Int)) 14 (nVV (r 3) L a)) r) := hD
                  refine Zn.seg (pc2 := 188) (ls2 := [some (za (A 0)), some (zi x), some (zi y), some (zi e), some (zi (cur (r 3) L (n1A (r 3) L a))), some (zi ((sk (r 3) L a) : Int)), some (zi (ngV (r 3) L a)), some (zi (nWV (r 3) L a))]) (st2 := [zi 0]) [(187, .iconst 0)] (by decide +kernel) rfl ?_
                  exact Zn.bret (by decide +kernel) rfl (by first | decide | omega) (⟨by refine congrArg some (congrArg zi ?_); rw [rdV, if_pos (by omega), if_neg (by omega)], by rw [rdA, if_pos (by omega), if_neg (by omega), rdN, if_pos (by omega)]⟩)
    · have c_48 : ¬ (inB 48 57 (cur (r 3) L (n1A (r 3) L a)) ≠ 0) := c_48
      refine Zn.seg (pc2 := 56) (ls2 := [some (za (A 0)), some (zi x), some (zi y), some (zi e), some (zi (cur (r 3) L (n1A (r 3) L a))), some (zi ((sk (r 3) L a) : Int)), some (zi (ngV (r 3) L a)), none]) (st2 := [zi 0]) [(55, .iconst 0)] (by decide +kernel) rfl ?_
      exact Zn.bret (by decide +kernel) rfl (by first | decide | omega) (⟨by refine congrArg some (congrArg zi ?_); rw [rdV, if_neg (by omega)], by rw [rdA, if_neg (by omega), rdN, if_neg (by omega), va_eta (v := m 14) _ 14 (by rfl)]⟩)
