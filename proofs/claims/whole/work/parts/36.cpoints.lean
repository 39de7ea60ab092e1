/-! points on the class's tape -/
theorem cpV_b (T : Nat → Int) (L a th fx d : Nat) : 0 ≤ cpV T L a th fx d ∧ cpV T L a th fx d ≤ 1 := by
  unfold cpV
  split <;> omega
theorem rp_ge {T K : Nat → Int} {L a dg f : Nat} (h : 6 ≤ rpS T K L a dg f) : rdV T K L a (-6) 6 1 ≠ 0 ∧ (rpS T K L a dg f = 7 → f ≠ dg) := by
  constructor
  · intro q
    rw [rpS, if_pos q] at h
    omega
  · intro q e
    unfold rpS at q
    (repeat' split at q) <;> omega
theorem pop_x {n p : Nat} (h : bt n p = 0) : ∀ k, popN (n ^^^ 2 ^ p) k = popN n k + (if p < k then 1 else 0)
  | 0 => rfl
  | k + 1 => by
    rw [popN, popN, pop_x h k, bt_xor, bt_pow]
    have := bt_lt n k
    by_cases e : p = k
    · subst e
      rw [if_pos rfl, h, if_neg (by omega), if_neg (by omega), if_pos (by omega)]
    · rw [if_neg e]
      by_cases q : p < k
      · rw [if_pos q, if_pos (show p < k + 1 by omega)]
        split <;> omega
      · rw [if_neg q, if_neg (show ¬ p < k + 1 by omega)]
        split <;> omega
theorem cp_inv {T : Nat → Int} {L a th fx d : Nat} (hT : ∀ j, j < L → 32 ≤ T j ∧ T j ≤ 126) (ha : a ≤ L) (hi : th < 8192 ∧ fx < 8192 ∧ (∀ j, bt fx j ≤ bt th j) ∧ pop fx ≤ d) (h : cpV T L a th fx d = 1) : rpA T (tk2 th fx) L (tkA T L a 40) d (pop fx) ≤ L ∧ th ||| 2 ^ rpX T L (tkA T L a 40) < 8192 ∧ cpX T L a th fx d < 8192 ∧ (∀ j, bt (cpX T L a th fx d) j ≤ bt (th ||| 2 ^ rpX T L (tkA T L a 40)) j) ∧ pop (cpX T L a th fx d) ≤ d := by
  obtain ⟨h1, h2, h3, h4⟩ := hi
  have hX := rpX_b T L (tkA T L a 40)
  have hp := pw_lt hX
  have htl := tk_le (T := T) (a := a) (c := 40) hT ha (by decide)
  have hrp := rp_c (T := T) (K := tk2 th fx) (L := L) (a := tkA T L a 40) (dg := d) (f := pop fx) hT htl.2
  have hS : 6 ≤ rpS T (tk2 th fx) L (tkA T L a 40) d (pop fx) := by
    unfold cpV at h
    split at h
    · rename_i q
      unfold cpS at q
      split at q
      · omega
      · exact q
    · omega
  have hg := rp_ge hS
  have hr := rd_c T (tk2 th fx) L (tkA T L a 40) (-6) 6 1 0
  have hr2 : -6 ≤ nVV T L (tkA T L a 40) ∧ nVV T L (tkA T L a 40) ≤ 6 ∧ ¬ 0 < tk2 th fx (nVV T L (tkA T L a 40) + 6).toNat := by
    rcases hr with q | q | q
    · exact ⟨q.2.2.2.2.1, q.2.2.2.2.2.1, fun z => q.2.2.2.2.2.2 ⟨rfl, z⟩⟩
    · exact absurd q.1 hg.1
    · exact absurd q.1 hg.1
  have hk := tk2_c (th := th) (fx := fx) (T := T) (L := L) (a := tkA T L a 40) h3 hr2.1 hr2.2.1
  have hb := bt_lt th (rpX T L (tkA T L a 40))
  have hb0 : bt th (rpX T L (tkA T L a 40)) = 0 := by
    rcases (show bt th (rpX T L (tkA T L a 40)) = 0 ∨ bt th (rpX T L (tkA T L a 40)) = 1 by omega) with q | q
    · exact q
    · exact absurd (hk.mpr q) hr2.2.2
  have hf0 := h3 (rpX T L (tkA T L a 40))
  refine ⟨hrp.2.1, or_lt h1 hp, ?_, fun j => ?_, ?_⟩
  · unfold cpX
    split
    · exact xor_lt h2 hp
    · exact h2
  · have q1 := h3 j
    have q2 := bt_lt th j
    rw [bt_or, bt_pow]
    unfold cpX
    split
    · rw [bt_xor, bt_pow]
      split <;> split <;> omega
    · omega
  · unfold cpX
    split
    · rename_i q
      have q2 := hg.2 q
      have q3 := pop_x (n := fx) (p := rpX T L (tkA T L a 40)) (by omega) 13
      rw [if_pos hX] at q3
      have q4 : pop (fx ^^^ 2 ^ rpX T L (tkA T L a 40)) = pop fx + 1 := q3
      omega
    · exact h4
/-- points, as many as there may be, on the class's tape -/
def cqR (T : Nat → Int) (L d : Nat) : Nat → Nat → Nat → Nat → (Nat → Int) → Int × Nat × Nat × (Nat → Int) × Nat
  | 0, a, th, fx, Y => if cur T L (sk T L a) = 0 then (1, th, fx, Y, 0) else (0, th, fx, Y, sk T L a)
  | n + 1, a, th, fx, Y => if cur T L (sk T L a) = 0 then (1, th, fx, Y, 0) else if cpV T L (sk T L a) th fx d = 0 then (0, th, fx, Y, cpL T L (sk T L a) th fx d) else cqR T L d n (rpA T (tk2 th fx) L (tkA T L (sk T L a) 40) d (pop fx)) (th ||| 2 ^ rpX T L (tkA T L (sk T L a) 40)) (cpX T L (sk T L a) th fx d) (va_up Y (rpX T L (tkA T L (sk T L a) 40)) (nVV T L (p2A T (tk2 th fx) L (tkA T L (sk T L a) 40))))
section
variable {T : Nat → Int} {L d n a th fx : Nat} {Y : Nat → Int}
theorem cqR_e (h : cur T L (sk T L a) = 0) : cqR T L d n a th fx Y = (1, th, fx, Y, 0) := by
  cases n with
  | zero => exact if_pos h
  | succ n => rw [cqR, if_pos h]
theorem cqR_o (h : n = 0) (h1 : cur T L (sk T L a) ≠ 0) : cqR T L d n a th fx Y = (0, th, fx, Y, sk T L a) := by
  subst h
  exact if_neg h1
theorem cqR_f (h : n ≠ 0) (h1 : cur T L (sk T L a) ≠ 0) (h2 : cpV T L (sk T L a) th fx d = 0) : cqR T L d n a th fx Y = (0, th, fx, Y, cpL T L (sk T L a) th fx d) := by
  cases n with
  | zero => exact absurd rfl h
  | succ n => rw [cqR, if_neg h1, if_pos h2]
theorem cqR_s {i : Nat} (h : i < 8) (h1 : cur T L (sk T L a) ≠ 0) (h2 : cpV T L (sk T L a) th fx d ≠ 0) : cqR T L d (8 - i) a th fx Y = cqR T L d (8 - (i + 1)) (rpA T (tk2 th fx) L (tkA T L (sk T L a) 40) d (pop fx)) (th ||| 2 ^ rpX T L (tkA T L (sk T L a) 40)) (cpX T L (sk T L a) th fx d) (va_up Y (rpX T L (tkA T L (sk T L a) 40)) (nVV T L (p2A T (tk2 th fx) L (tkA T L (sk T L a) 40)))) := by
  rw [show 8 - i = 8 - (i + 1) + 1 from by omega, cqR, if_neg h1, if_neg h2]
end
set_option maxHeartbeats 4000000 in
set_option maxRecDepth 20000 in
theorem sp_X6_parsePoints {h : xH} {o la L a p ya qa th fx d w : Nat} {fl nu na : Int} {T Y : Nat → Int} (hc0 : h o = zcE (.inr (6, [za la, zi (L : Int), zi fl, zi (a : Int), zi nu, zi na]))) (hc1 : h la = zcE (.inl (0, 90, .inl T))) (hc2 : h p = zcE (.inr (4, [za ya, za qa, zi (th : Int), zi (fx : Int), zi (d : Int), zi (w : Int)]))) (hc3 : h ya = zcE (.inl (0, 13, .inl Y))) (hD : [o, la, p, ya].Nodup) (hL9 : L ≤ 90) (haL : a ≤ L) (hT : ∀ j, j < L → 32 ≤ T j ∧ T j ≤ 126) (hth : th < 8192) (hfx : fx < 8192) (hd : d < 4) (hsub : ∀ j, bt fx j ≤ bt th j) (hfd : pop fx ≤ d) : zEv k_X6_parsePoints [za o, za p] h (fun v h2 => ∃ at2 : Int, ∃ nu2 : Int, ∃ na2 : Int, ∃ fl2 : Int, ∃ th2 : Nat, ∃ fx2 : Nat, ∃ Y2 : Nat → Int, v = some (zi ((cqR T L d 8 a th fx Y).1)) ∧ h2 = zov [(o, .inr (6, [za la, zi (L : Int), zi fl2, zi at2, zi nu2, zi na2])), (la, .inl (0, 90, .inl T)), (p, .inr (4, [za ya, za qa, zi (th2 : Int), zi (fx2 : Int), zi (d : Int), zi (w : Int)])), (ya, .inl (0, 13, .inl Y2))] h ∧ ((cqR T L d 8 a th fx Y).1 = 1 → th2 = (cqR T L d 8 a th fx Y).2.1 ∧ fx2 = (cqR T L d 8 a th fx Y).2.2.1 ∧ Y2 = (cqR T L d 8 a th fx Y).2.2.2.1) ∧ ((cqR T L d 8 a th fx Y).1 = 0 → fl2 = ((cqR T L d 8 a th fx Y).2.2.2.2 : Int))) := by
  have hh : h = zov [(o, .inr (6, [za la, zi (L : Int), zi fl, zi (a : Int), zi nu, zi na])), (la, .inl (0, 90, .inl T)), (p, .inr (4, [za ya, za qa, zi (th : Int), zi (fx : Int), zi (d : Int), zi (w : Int)])), (ya, .inl (0, 13, .inl Y))] h := zov_self (List.forall_mem_cons.mpr ⟨hc0, List.forall_mem_cons.mpr ⟨hc1, List.forall_mem_cons.mpr ⟨hc2, List.forall_mem_cons.mpr ⟨hc3, fun _ q => absurd q List.not_mem_nil⟩⟩⟩⟩)
  refine zEv.body (I := (6, xI_X6_parsePoints, 3, 4, 84, 0, 0, false)) (rt := (some .boolean)) [some (za o), some (za p), none] rfl rfl rfl rfl ?_
  refine Zn.eq rfl rfl rfl hh ?_
  have hD : zND ([(o, .inr (6, [za la, zi (L : Int), zi fl, zi (a : Int), zi nu, zi na])), (la, .inl (0, 90, .inl T)), (p, .inr (4, [za ya, za qa, zi (th : Int), zi (fx : Int), zi (d : Int), zi (w : Int)])), (ya, .inl (0, 13, .inl Y))]) := hD
  refine Zn.seg (pc2 := 2) (ls2 := [some (za o), some (za p), some (zi 0)]) (st2 := []) [(0, .iconst 0), (1, .istore_n 2)] (by decide +kernel) rfl ?_
  refine Zn.eq (pc2 := 2) (ls2 := [some (za o), some (za p), some (zi (0 : Int))]) (st2 := []) (h2 := zov ([(o, .inr (6, [za la, zi (L : Int), zi fl, zi (a : Int), zi nu, zi na])), (la, .inl (0, 90, .inl T)), (p, .inr (4, [za ya, za qa, zi (th : Int), zi (fx : Int), zi (d : Int), zi (w : Int)])), (ya, .inl (0, 13, .inl Y))]) h) rfl rfl rfl (rfl) ?_
  have hD : zND ([(o, .inr (6, [za la, zi (L : Int), zi fl, zi (a : Int), zi nu, zi na])), (la, .inl (0, 90, .inl T)), (p, .inr (4, [za ya, za qa, zi (th : Int), zi (fx : Int), zi (d : Int), zi (w : Int)])), (ya, .inl (0, 13, .inl Y))]) := hD
  refine xloop (P := fun i_1 => ∀ (a_ : Nat), ∀ (th_ : Nat), ∀ (fx_ : Nat), ∀ (Y_ : Nat → Int), ∀ (m_ : Int), ∀ (k_ : Int), ∀ (l_ : Int), (True ∧ a_ ≤ L ∧ i_1 ≤ 8 ∧ (th_ < 8192 ∧ fx_ < 8192 ∧ (∀ j, bt fx_ j ≤ bt th_ j) ∧ pop fx_ ≤ d) ∧ True ∧ True ∧ cqR T L d 8 a th fx Y = cqR T L d (8 - i_1) a_ th_ fx_ Y_) → Zn (6, xI_X6_parsePoints, 3, 4, 84, 0, 0, false) (some .boolean) 2 [some (za o), some (za p), some (zi (i_1 : Int))] [] (zov ([(o, .inr (6, [za la, zi (L : Int), zi l_, zi (a_ : Int), zi m_, zi k_])), (la, .inl (0, 90, .inl T)), (p, .inr (4, [za ya, za qa, zi (th_ : Int), zi (fx_ : Int), zi (d : Int), zi (w : Int)])), (ya, .inl (0, 13, .inl Y_))]) h) _) (9) (fun i_1 hi_2 ih_3 a_ th_ fx_ Y_ m_ k_ l_ fa_4 => ?_) (fun a_ th_ fx_ Y_ m_ k_ l_ fa_4 => ?_) a th fx Y nu na fl (⟨trivial, haL, by decide, ⟨hth, hfx, hsub, hfd⟩, trivial, trivial, rfl⟩)
  · have hi_ : i_1 < 9 := hi_2
    have hD : zND ([(o, .inr (6, [za la, zi (L : Int), zi l_, zi (a_ : Int), zi m_, zi k_])), (la, .inl (0, 90, .inl T)), (p, .inr (4, [za ya, za qa, zi (th_ : Int), zi (fx_ : Int), zi (d : Int), zi (w : Int)])), (ya, .inl (0, 13, .inl Y_))]) := hD
    have hfa_ := fa_4
    have hsk := sk_r (T := T) hfa_.2.1
    have hcb := cur_b hT (sk T L a_)
    have hcv := cpV_b T L (sk T L a_) th_ fx_ d
    refine Zn.seg (pc2 := 5) (ls2 := [some (za o), some (za p), some (zi (i_1 : Int))]) (st2 := [zi 8, zi (i_1 : Int)]) [(2, .iload_n 2), (3, .bipush 8)] (by decide +kernel) rfl ?_
    refine Zn.icmp (c := .gt) (off := 41) 46 (by decide +kernel) rfl ⟨by omega, by omega⟩ ⟨by decide, by decide⟩ (fun c_5 => ?_) (fun c_5 => ?_)
    · have c_5 : 8 < (i_1 : Int) := c_5
      refine Zn.seg (pc2 := 47) (ls2 := [some (za o), some (za p), some (zi (i_1 : Int))]) (st2 := [zi 1]) [(46, .iconst 1)] (by decide +kernel) rfl ?_
      exact Zn.bret (by decide +kernel) rfl (by first | decide | omega) ((by first | (exfalso; omega) | (have e_ := hfa_.2.2.2.2.2.2.trans (cqR_e (T := T) (L := L) (d := d) (n := 8 - i_1) (a := a_) (th := th_) (fx := fx_) (Y := Y_) (by omega)); exact ⟨(a_ : Int), m_, k_, l_, th_, fx_, Y_, (by refine congrArg some (congrArg zi ?_); rw [e_]), rfl, (fun _ => by rw [e_]; exact ⟨rfl, rfl, rfl⟩), (fun q_ => absurd (show (1 : Int) = 0 by rw [e_] at q_; exact q_) (by decide))⟩)))
    · have c_5 : ¬ (8 < (i_1 : Int)) := c_5
      refine Zn.seg (pc2 := 9) (ls2 := [some (za o), some (za p), some (zi (i_1 : Int))]) (st2 := [za o]) [(8, .aload_n 0)] (by decide +kernel) rfl ?_
      refine Zn.call (ins := .invokevirtual 31) [za o] [] (by decide +kernel) rfl rfl rfl ⟨rfl, rfl⟩ ⟨rfl, rfl, rfl⟩ rfl (zrecvV hD (p := 0) rfl rfl rfl) (sp_X6_next (o := o) (la := la) (L := L) (a := a_) (fl := l_) (nu := m_) (na := k_) (T := T) (zov_get hD 0 rfl) (zov_get hD 1 rfl) (nd_sub hD [0, 1] rfl rfl) (hL9) (hfa_.2.1) (hT)) (fun v h2 hp => ?_)
      obtain ⟨rfl, hq_6⟩ := hp
      refine Zn.eq (pc2 := 12) (ls2 := [some (za o), some (za p), some (zi (i_1 : Int))]) (st2 := [zi (cur T L (sk T L a_))]) (h2 := zov ([(o, .inr (6, [za la, zi (L : Int), zi l_, zi (sk T L a_ : Int), zi m_, zi k_])), (la, .inl (0, 90, .inl T)), (p, .inr (4, [za ya, za qa, zi (th_ : Int), zi (fx_ : Int), zi (d : Int), zi (w : Int)])), (ya, .inl (0, 13, .inl Y_))]) h) rfl rfl rfl (hq_6.trans (zov_put hD [0, 1] _ rfl)) ?_
      have hD : zND ([(o, .inr (6, [za la, zi (L : Int), zi l_, zi (sk T L a_ : Int), zi m_, zi k_])), (la, .inl (0, 90, .inl T)), (p, .inr (4, [za ya, za qa, zi (th_ : Int), zi (fx_ : Int), zi (d : Int), zi (w : Int)])), (ya, .inl (0, 13, .inl Y_))]) := hD
      refine Zn.ifc (c := .eq) (off := 34) 46 (by decide +kernel) rfl ⟨by omega, by omega⟩ (fun c_7 => ?_) (fun c_7 => ?_)
      · have c_7 : cur T L (sk T L a_) = 0 := c_7
        refine Zn.seg (pc2 := 47) (ls2 := [some (za o), some (za p), some (zi (i_1 : Int))]) (st2 := [zi 1]) [(46, .iconst 1)] (by decide +kernel) rfl ?_
        exact Zn.bret (by decide +kernel) rfl (by first | decide | omega) ((by first | (exfalso; omega) | (have e_ := hfa_.2.2.2.2.2.2.trans (cqR_e (T := T) (L := L) (d := d) (n := 8 - i_1) (a := a_) (th := th_) (fx := fx_) (Y := Y_) (by omega)); exact ⟨(sk T L a_ : Int), m_, k_, l_, th_, fx_, Y_, (by refine congrArg some (congrArg zi ?_); rw [e_]), rfl, (fun _ => by rw [e_]; exact ⟨rfl, rfl, rfl⟩), (fun q_ => absurd (show (1 : Int) = 0 by rw [e_] at q_; exact q_) (by decide))⟩)))
      · have c_7 : ¬ (cur T L (sk T L a_) = 0) := c_7
        refine Zn.seg (pc2 := 18) (ls2 := [some (za o), some (za p), some (zi (i_1 : Int))]) (st2 := [zi 8, zi (i_1 : Int)]) [(15, .iload_n 2), (16, .bipush 8)] (by decide +kernel) rfl ?_
        refine Zn.icmp (c := .ne) (off := 12) 30 (by decide +kernel) rfl ⟨by omega, by omega⟩ ⟨by decide, by decide⟩ (fun c_8 => ?_) (fun c_8 => ?_)
        · have c_8 : (i_1 : Int) ≠ 8 := c_8
          refine Zn.seg (pc2 := 32) (ls2 := [some (za o), some (za p), some (zi (i_1 : Int))]) (st2 := [za p, za o]) [(30, .aload_n 0), (31, .aload_n 1)] (by decide +kernel) rfl ?_
          refine Zn.call (ins := .invokevirtual 65) [za o, za p] [] (by decide +kernel) rfl rfl rfl ⟨rfl, rfl⟩ ⟨rfl, rfl, rfl⟩ rfl (zrecvV hD (p := 0) rfl rfl rfl) (sp_X6_parsePoint (o := o) (la := la) (L := L) (a := (sk T L a_)) (p := p) (ya := ya) (qa := qa) (th := th_) (fx := fx_) (d := d) (w := w) (fl := l_) (nu := m_) (na := k_) (T := T) (Y := Y_) (zov_get hD 0 rfl) (zov_get hD 1 rfl) (zov_get hD 2 rfl) (zov_get hD 3 rfl) (nd_sub hD [0, 1, 2, 3] rfl rfl) (hL9) (hsk.2.1) (hT) (hfa_.2.2.2.1.1) (hfa_.2.2.2.1.2.1) (hd) (hfa_.2.2.2.1.2.2.1) (hfa_.2.2.2.1.2.2.2)) (fun v h2 hp => ?_)
          obtain ⟨at_, nu_, na_, fl_, tn_, fn_, Yn_, rfl, hq_9, hf1_, hf2_⟩ := hp
          refine Zn.eq (pc2 := 35) (ls2 := [some (za o), some (za p), some (zi (i_1 : Int))]) (st2 := [zi (cpV T L (sk T L a_) th_ fx_ d)]) (h2 := zov ([(o, .inr (6, [za la, zi (L : Int), zi fl_, zi at_, zi nu_, zi na_])), (la, .inl (0, 90, .inl T)), (p, .inr (4, [za ya, za qa, zi (tn_ : Int), zi (fn_ : Int), zi (d : Int), zi (w : Int)])), (ya, .inl (0, 13, .inl Yn_))]) h) rfl rfl rfl (hq_9.trans (zov_put hD [0, 1, 2, 3] _ rfl)) ?_
          have hD : zND ([(o, .inr (6, [za la, zi (L : Int), zi fl_, zi at_, zi nu_, zi na_])), (la, .inl (0, 90, .inl T)), (p, .inr (4, [za ya, za qa, zi (tn_ : Int), zi (fn_ : Int), zi (d : Int), zi (w : Int)])), (ya, .inl (0, 13, .inl Yn_))]) := hD
          refine Zn.ifc (c := .ne) (off := 5) 40 (by decide +kernel) rfl ⟨by omega, by omega⟩ (fun c_10 => ?_) (fun c_10 => ?_)
          · have c_10 : cpV T L (sk T L a_) th_ fx_ d ≠ 0 := c_10
            refine Zn.seg (pc2 := 2) (ls2 := [some (za o), some (za p), some (zi ((i_1 : Int) + 1))]) (st2 := []) [(40, .iinc 2 1), (43, .goto (-41))] (by decide +kernel) rfl ?_
            exact Zn.eq rfl (zcons rfl (zcons rfl (zcons (congrArg (fun z => some (zi z)) (by omega)) rfl))) rfl (by rw [(hf1_ (by omega)).1]) (ih_3 (rpA T (tk2 th_ fx_) L (tkA T L (sk T L a_) 40) d (pop fx_)) tn_ fn_ Yn_ nu_ na_ fl_ ((by have hs_ := hf1_ (by omega); have hi2_ := cp_inv (a := (sk T L a_)) hT (show (sk T L a_) ≤ L by omega) hfa_.2.2.2.1 (show cpV T L (sk T L a_) th_ fx_ d = 1 by omega); exact ⟨trivial, hi2_.1, by omega, by rw [hs_.2.1, hs_.2.2.1]; exact hi2_.2, trivial, trivial, by rw [hfa_.2.2.2.2.2.2, hs_.2.1, hs_.2.2.1, hs_.2.2.2.1]; exact cqR_s (by omega) (by omega) (by omega)⟩)))
          · have c_10 : ¬ (cpV T L (sk T L a_) th_ fx_ d ≠ 0) := c_10
            refine Zn.seg (pc2 := 39) (ls2 := [some (za o), some (za p), some (zi (i_1 : Int))]) (st2 := [zi 0]) [(38, .iconst 0)] (by decide +kernel) rfl ?_
            exact Zn.bret (by decide +kernel) rfl (by first | decide | omega) ((by first | (exfalso; omega) | (have e_ := hfa_.2.2.2.2.2.2.trans (cqR_f (T := T) (L := L) (d := d) (n := 8 - i_1) (a := a_) (th := th_) (fx := fx_) (Y := Y_) (by omega) (by omega) (by omega)); exact ⟨at_, nu_, na_, fl_, tn_, fn_, Yn_, (by refine congrArg some (congrArg zi ?_); rw [e_]), rfl, (fun q_ => absurd (show (0 : Int) = 1 by rw [e_] at q_; exact q_) (by decide)), (fun _ => by rw [e_]; exact hf2_ (by omega))⟩)))
        · have c_8 : ¬ ((i_1 : Int) ≠ 8) := c_8
          refine Zn.seg (pc2 := 23) (ls2 := [some (za o), some (za p), some (zi (i_1 : Int))]) (st2 := [za o, za o]) [(21, .aload_n 0), (22, .aload_n 0)] (by decide +kernel) rfl ?_
          refine Zn.get (ix := 22) hD 0 (by decide +kernel) rfl rfl rfl ?_
          refine Zn.call (ins := .invokevirtual 35) [za o, zi (sk T L a_ : Int)] [] (by decide +kernel) rfl rfl rfl ⟨rfl, rfl⟩ ⟨rfl, rfl, rfl⟩ rfl (zrecvV hD (p := 0) rfl rfl rfl) (sp_X6_failAt (o := o) (la := la) (L := L) (a := sk T L a_) (fl := l_) (nu := m_) (na := k_) (x := (sk T L a_ : Int)) (zov_get hD 0 rfl)) (fun v h2 hp => ?_)
          obtain ⟨rfl, hq_11⟩ := hp
          refine Zn.eq (pc2 := 29) (ls2 := [some (za o), some (za p), some (zi (i_1 : Int))]) (st2 := [zi 0]) (h2 := zov ([(o, .inr (6, [za la, zi (L : Int), zi (sk T L a_ : Int), zi ((sk T L a_) : Int), zi m_, zi k_])), (la, .inl (0, 90, .inl T)), (p, .inr (4, [za ya, za qa, zi (th_ : Int), zi (fx_ : Int), zi (d : Int), zi (w : Int)])), (ya, .inl (0, 13, .inl Y_))]) h) rfl rfl rfl (hq_11.trans (zov_put hD [0] _ rfl)) ?_
          have hD : zND ([(o, .inr (6, [za la, zi (L : Int), zi (sk T L a_ : Int), zi ((sk T L a_) : Int), zi m_, zi k_])), (la, .inl (0, 90, .inl T)), (p, .inr (4, [za ya, za qa, zi (th_ : Int), zi (fx_ : Int), zi (d : Int), zi (w : Int)])), (ya, .inl (0, 13, .inl Y_))]) := hD
          exact Zn.bret (by decide +kernel) rfl (by first | decide | omega) ((by first | (exfalso; omega) | (have e_ := hfa_.2.2.2.2.2.2.trans (cqR_o (T := T) (L := L) (d := d) (n := 8 - i_1) (a := a_) (th := th_) (fx := fx_) (Y := Y_) (by omega) (by omega)); exact ⟨((sk T L a_) : Int), m_, k_, (sk T L a_ : Int), th_, fx_, Y_, (by refine congrArg some (congrArg zi ?_); rw [e_]), rfl, (fun q_ => absurd (show (0 : Int) = 1 by rw [e_] at q_; exact q_) (by decide)), (fun _ => by rw [e_])⟩)))
  · exact absurd (show False from by (have := fa_4.2.2.1; omega)) (fun q_ => q_)
