/-! the reference's text, whole -/
theorem kz_b (g : Nat → Int) : ∀ p, p < 13 → 0 ≤ cpF zF g 13 p ∧ cpF zF g 13 p ≤ 2 := fun p hp => by
  rw [cpF_lt hp]
  show (0 : Int) ≤ 0 ∧ (0 : Int) ≤ 2
  decide
/-- the numbers of what is beneath -/
def bnR (T K : Nat → Int) (L : Nat) : Nat → Nat → (Nat → Int) → Nat → Int × Nat × (Nat → Int)
  | 0, a, Q, _ => (0, a, Q)
  | n + 1, a, Q, j => if rdV T K L a (-3) 3 0 = 0 then (0, rdA T K L a (-3) 3 0, Q) else if n = 0 then (tkV T L (rdA T K L a (-3) 3 0) 59, tkA T L (rdA T K L a (-3) 3 0) 59, va_up Q j (nVV T L a)) else if tkV T L (rdA T K L a (-3) 3 0) 44 = 0 then (tkV T L (tkA T L (rdA T K L a (-3) 3 0) 44) 59, tkA T L (tkA T L (rdA T K L a (-3) 3 0) 44) 59, va_up Q j (nVV T L a)) else bnR T K L n (tkA T L (rdA T K L a (-3) 3 0) 44) (va_up Q j (nVV T L a)) (j + 1)
section
variable {T K : Nat → Int} {L n a : Nat} {Q : Nat → Int} {j : Nat}
theorem bn_f (h : n ≠ 0) (h1 : rdV T K L a (-3) 3 0 = 0) : bnR T K L n a Q j = (0, rdA T K L a (-3) 3 0, Q) := by
  cases n with
  | zero => exact absurd rfl h
  | succ n => rw [bnR, if_pos h1]
theorem bn_l (h : n = 1) (h1 : rdV T K L a (-3) 3 0 ≠ 0) : bnR T K L n a Q j = (tkV T L (rdA T K L a (-3) 3 0) 59, tkA T L (rdA T K L a (-3) 3 0) 59, va_up Q j (nVV T L a)) := by
  subst h
  rw [bnR, if_neg h1, if_pos rfl]
theorem bn_k (h : 2 ≤ n) (h1 : rdV T K L a (-3) 3 0 ≠ 0) (h2 : tkV T L (rdA T K L a (-3) 3 0) 44 = 0) : bnR T K L n a Q j = (tkV T L (tkA T L (rdA T K L a (-3) 3 0) 44) 59, tkA T L (tkA T L (rdA T K L a (-3) 3 0) 44) 59, va_up Q j (nVV T L a)) := by
  cases n with
  | zero => exact absurd h (by decide)
  | succ n => rw [bnR, if_neg h1, if_neg (by omega), if_pos h2]
theorem bn_s (h : 2 ≤ n) (h1 : rdV T K L a (-3) 3 0 ≠ 0) (h2 : tkV T L (rdA T K L a (-3) 3 0) 44 ≠ 0) : bnR T K L n a Q j = bnR T K L (n - 1) (tkA T L (rdA T K L a (-3) 3 0) 44) (va_up Q j (nVV T L a)) (j + 1) := by
  cases n with
  | zero => exact absurd h (by decide)
  | succ n => rw [bnR, if_neg h1, if_neg (by omega), if_neg h2]; rfl
theorem bn_s3 {i : Nat} (h : i + 1 < 3) (h1 : rdV T K L a (-3) 3 0 ≠ 0) (h2 : tkV T L (rdA T K L a (-3) 3 0) 44 ≠ 0) : bnR T K L (3 - i) a Q i = bnR T K L (3 - (i + 1)) (tkA T L (rdA T K L a (-3) 3 0) 44) (va_up Q i (nVV T L a)) (i + 1) := bn_s (by omega) h1 h2
end
def bbV (T : Nat → Int) (L dg a : Nat) (Q Y K : Nat → Int) : Int := if (bnR T K L 3 a Q 0).1 = 0 then 0 else (ptR T L dg 8 (bnR T K L 3 a Q 0).2.1 Y K 0).1
def bbA (T : Nat → Int) (L dg a : Nat) (Q Y K : Nat → Int) : Nat := if (bnR T K L 3 a Q 0).1 = 0 then (bnR T K L 3 a Q 0).2.1 else (ptR T L dg 8 (bnR T K L 3 a Q 0).2.1 Y K 0).2.1
def txV (T : Nat → Int) (L : Nat) (Q Y K : Nat → Int) : Int := if ¬ (48 ≤ cur T L (sk T L 0) ∧ cur T L (sk T L 0) ≤ 51) then 0 else if tkV T L (sk T L 0 + 1) 59 = 0 then 0 else bbV T L (cur T L (sk T L 0) - 48).toNat (tkA T L (sk T L 0 + 1) 59) Q Y K
def txA (T : Nat → Int) (L : Nat) (Q Y K : Nat → Int) : Nat := if ¬ (48 ≤ cur T L (sk T L 0) ∧ cur T L (sk T L 0) ≤ 51) then sk T L 0 else if tkV T L (sk T L 0 + 1) 59 = 0 then tkA T L (sk T L 0 + 1) 59 else bbA T L (cur T L (sk T L 0) - 48).toNat (tkA T L (sk T L 0 + 1) 59) Q Y K
set_option maxHeartbeats 2000000 in
theorem sp_X8_readsAll_B {h : xH} {A : Nat → Nat} {m : Nat → Int} {r : Nat → Nat → Int} {L a dg : Nat} {j3 : Option zV} (hL : ∀ q ∈ LM A m r, h q.1 = zcE q.2) (hD : zND (LM A m r)) (hm5 : m 5 = (L : Int)) (hL9 : L ≤ 90) (hm9 : m 9 = (a : Int)) (haL : a ≤ L) (hT : ∀ j, j < L → 32 ≤ r 3 j ∧ r 3 j ≤ 126) (hK : ∀ p, p < 13 → 0 ≤ r 9 p ∧ r 9 p ≤ 2) (hdg : m 10 = (dg : Int)) (hdg3 : dg ≤ 3) (hf0 : r 10 0 = 0) : Zn (8, xI_X8_readsAll, 4, 4, 94, 0, 0, false) (some .boolean) 115 [some (za (A 0)), some (zi 0), some (zi 1), j3] [] h (fun v h2 => ∃ e1 : Int, ∃ x7 : Nat → Int, ∃ x8 : Nat → Int, ∃ x9 : Nat → Int, ∃ x10 : Nat → Int, v = some (zi (bbV (r 3) L dg a (r 7) (r 8) (r 9))) ∧ h2 = zov (LM A (va_up (va_up m 9 (bbA (r 3) L dg a (r 7) (r 8) (r 9) : Int)) 14 e1) (va_up (va_up (va_up (va_up r 7 x7) 8 x8) 9 x9) 10 x10)) h ∧ (bbV (r 3) L dg a (r 7) (r 8) (r 9) = 1 → x7 = (bnR (r 3) (r 9) L 3 a (r 7) 0).2.2 ∧ x8 = (ptR (r 3) L dg 8 (bnR (r 3) (r 9) L 3 a (r 7) 0).2.1 (r 8) (r 9) 0).2.2.1 ∧ x9 = (ptR (r 3) L dg 8 (bnR (r 3) (r 9) L 3 a (r 7) 0).2.1 (r 8) (r 9) 0).2.2.2.1)) := by
  have hh : h = zov (LM A m r) h := zov_self hL
  refine Zn.eq rfl rfl rfl hh ?_
  have hD : zND (LM A m r) := hD
  refine Zn.eq (pc2 := 115) (ls2 := [some (za (A 0)), some (zi (0 : Int)), some (zi 1), j3]) (st2 := []) (h2 := zov (LM A (va_up (va_up m 9 (a : Int)) 14 (m 14)) (va_up r 7 (r 7))) h) rfl rfl rfl (by rw [← hm9, va_self, va_self, va_self]) ?_
  have hD : zND (LM A (va_up (va_up m 9 (a : Int)) 14 (m 14)) (va_up r 7 (r 7))) := hD
  refine xloop (P := fun i_1 => ∀ (a_ : Nat), ∀ (o_ : Int), ∀ (Q_ : Nat → Int), ∀ (c_ : Int), ∀ j_2 : Option zV, (a_ ≤ L ∧ i_1 ≤ 3 ∧ ((o_ = 1 ∧ i_1 < 3 ∧ bnR (r 3) (r 9) L 3 a (r 7) 0 = bnR (r 3) (r 9) L (3 - i_1) a_ Q_ i_1) ∨ (o_ = 0 ∧ bnR (r 3) (r 9) L 3 a (r 7) 0 = (tkV (r 3) L a_ 59, tkA (r 3) L a_ 59, Q_)))) → Zn (8, xI_X8_readsAll, 4, 4, 94, 0, 0, false) (some .boolean) 115 [some (za (A 0)), some (zi (i_1 : Int)), some (zi o_), j_2] [] (zov (LM A (va_up (va_up m 9 (a_ : Int)) 14 c_) (va_up r 7 Q_)) h) _) (4) (fun i_1 hi_3 ih_4 a_ o_ Q_ c_ j_2 fa_5 => ?_) (fun a_ o_ Q_ c_ j_2 fa_5 => ?_) a 1 (r 7) (m 14) j3 (⟨haL, by decide, Or.inl ⟨rfl, by decide, rfl⟩⟩)
  · have hi_ : i_1 < 4 := hi_3
    have hfa_ := fa_5
    have hrc := rd_c (r 3) (r 9) L a_ (-3) 3 0 c_
    have hrl := rd_le (T := r 3) (K := r 9) (x := -3) (y := 3) (e := 0) hT hfa_.1
    have htc := tk_c (r 3) L (rdA (r 3) (r 9) L a_ (-3) 3 0) 44
    have htl := tk_le (T := r 3) (a := rdA (r 3) (r 9) L a_ (-3) 3 0) (c := 44) hT hrl.2 (by decide)
    have htd := tk_c (r 3) L a_ 59
    have htd2 := tk_le (T := r 3) (a := a_) (c := 59) hT hfa_.1 (by decide)
    refine Zn.seg (pc2 := 116) (ls2 := [some (za (A 0)), some (zi (i_1 : Int)), some (zi o_), j_2]) (st2 := [zi o_]) [(115, .iload_n 2)] (by decide +kernel) rfl ?_
    refine Zn.ifc (c := .eq) (off := 52) 168 (by decide +kernel) rfl ⟨by omega, by omega⟩ (fun c_6 => ?_) (fun c_6 => ?_)
    · have c_6 : o_ = 0 := c_6
      refine Zn.seg (pc2 := 171) (ls2 := [some (za (A 0)), some (zi (i_1 : Int)), some (zi o_), j_2]) (st2 := [zi 59, za (A 0)]) [(168, .aload_n 0), (169, .bipush 59)] (by decide +kernel) rfl ?_
      refine Zn.call (ins := .invokevirtual 163) [za (A 0), zi 59] [] (by decide +kernel) rfl rfl rfl ⟨rfl, rfl⟩ ⟨rfl, rfl, rfl⟩ rfl (zrecvV hD (p := 0) rfl rfl rfl) (sp_X8_takes (A := A) (m := va_up (va_up m 9 (a_ : Int)) 14 c_) (r := va_up r 7 Q_) (x := 59) (L := L) (a := a_) (zov_all hD) hD (by first | rfl | exact hm5) (hL9) (by first | rfl | exact hm9) (hfa_.1) (hT) (by decide)) (fun v h2 hp => ?_)
      obtain ⟨rfl, hq_7⟩ := hp
      refine Zn.eq (pc2 := 174) (ls2 := [some (za (A 0)), some (zi (i_1 : Int)), some (zi o_), j_2]) (st2 := [zi (tkV ((r 3)) L a_ 59)]) (h2 := zov (LM A (va_up (va_up m 9 (tkA ((r 3)) L a_ 59 : Int)) 14 c_) (va_up r 7 Q_)) h) rfl rfl rfl (hq_7.trans ((LM_over _ _ _ _ _ _).trans rfl)) ?_
      have hD : zND (LM A (va_up (va_up m 9 (tkA ((r 3)) L a_ 59 : Int)) 14 c_) (va_up r 7 Q_)) := hD
      refine Zn.ifc (c := .ne) (off := 5) 179 (by decide +kernel) rfl ⟨by omega, by omega⟩ (fun c_8 => ?_) (fun c_8 => ?_)
      · have c_8 : tkV ((r 3)) L a_ 59 ≠ 0 := c_8
        refine Zn.seg (pc2 := 181) (ls2 := [some (za (A 0)), some (zi (i_1 : Int)), some (zi o_), some (zi 0)]) (st2 := []) [(179, .iconst 0), (180, .istore_n 3)] (by decide +kernel) rfl ?_
        refine Zn.mono (sp_X8_readsAll_C (m := (va_up (va_up m 9 (tkA ((r 3)) L a_ 59 : Int)) 14 c_)) (r := (va_up r 7 Q_)) (L := L) (a := (tkA (r 3) L a_ 59)) (dg := dg) (zov_all hD) hD (by first | rfl | exact hm5) hL9 (by rfl) htd2.2 hT hK (by first | rfl | exact hdg) hdg3 hf0) (fun v h2 hp => ?_)
        obtain ⟨e1_, x8_, x9_, x10_, hv_, hq_, hf_⟩ := hp
        have hb_ : bnR (r 3) (r 9) L 3 a (r 7) 0 = (tkV (r 3) L a_ 59, tkA (r 3) L a_ 59, Q_) := by rcases hfa_.2.2 with q_ | q_; (exfalso; omega); exact q_.2
        have hn_ : tkV (r 3) L a_ 59 ≠ 0 := by omega
        have hv2 : v = some (zi ((ptR (r 3) L dg 8 (tkA (r 3) L a_ 59) (r 8) (r 9) 0).1)) := hv_
        have hf2 : (ptR (r 3) L dg 8 (tkA (r 3) L a_ 59) (r 8) (r 9) 0).1 = 1 → x8_ = (ptR (r 3) L dg 8 (tkA (r 3) L a_ 59) (r 8) (r 9) 0).2.2.1 ∧ x9_ = (ptR (r 3) L dg 8 (tkA (r 3) L a_ 59) (r 8) (r 9) 0).2.2.2.1 := hf_
        exact ⟨e1_, Q_, x8_, x9_, x10_, (by rw [hv2, bbV, hb_, if_neg hn_]), (by rw [bbA, hb_, if_neg hn_]; exact hq_.trans ((LM_over _ _ _ _ _ _).trans rfl)), (by rw [bbV, hb_, if_neg hn_]; exact fun q_ => ⟨rfl, (hf2 q_).1, (hf2 q_).2⟩)⟩
      · have c_8 : ¬ (tkV ((r 3)) L a_ 59 ≠ 0) := c_8
        refine Zn.seg (pc2 := 178) (ls2 := [some (za (A 0)), some (zi (i_1 : Int)), some (zi o_), j_2]) (st2 := [zi 0]) [(177, .iconst 0)] (by decide +kernel) rfl ?_
        exact Zn.bret (by decide +kernel) rfl (by first | decide | omega) (⟨c_, Q_, (r 8), (r 9), (r 10), (by refine congrArg some (congrArg zi ?_); have hb_ : bnR (r 3) (r 9) L 3 a (r 7) 0 = (tkV (r 3) L a_ 59, tkA (r 3) L a_ 59, Q_) := (by rcases hfa_.2.2 with q_ | q_; (exfalso; omega); exact q_.2); have hz_ : tkV (r 3) L a_ 59 = 0 := (by omega); rw [bbV, hb_, if_pos hz_]), (by have hb_ : bnR (r 3) (r 9) L 3 a (r 7) 0 = (tkV (r 3) L a_ 59, tkA (r 3) L a_ 59, Q_) := (by rcases hfa_.2.2 with q_ | q_; (exfalso; omega); exact q_.2); have hz_ : tkV (r 3) L a_ 59 = 0 := (by omega); rw [bbA, hb_, if_pos hz_]; congr 2; funext k_; simp only [va_up]; (repeat' split) <;> first | rfl | (exfalso; omega) | (subst_vars; rfl)), (by have hb_ : bnR (r 3) (r 9) L 3 a (r 7) 0 = (tkV (r 3) L a_ 59, tkA (r 3) L a_ 59, Q_) := (by rcases hfa_.2.2 with q_ | q_; (exfalso; omega); exact q_.2); have hz_ : tkV (r 3) L a_ 59 = 0 := (by omega); rw [bbV, hb_, if_pos hz_]; exact fun q_ => absurd q_ (by decide))⟩)
    · have c_6 : ¬ (o_ = 0) := c_6
      refine Zn.seg (pc2 := 124) (ls2 := [some (za (A 0)), some (zi (i_1 : Int)), some (zi o_), j_2]) (st2 := [zi 0, zi 3, zi (-3), za (A 0)]) [(119, .aload_n 0), (120, .bipush (-3)), (122, .iconst 3), (123, .iconst 0)] (by decide +kernel) rfl ?_
      refine Zn.call (ins := .invokevirtual 159) [za (A 0), zi (-3), zi 3, zi 0] [] (by decide +kernel) rfl rfl rfl ⟨rfl, rfl⟩ ⟨rfl, rfl, rfl⟩ rfl (zrecvV hD (p := 0) rfl rfl rfl) (sp_X8_reads (A := A) (m := va_up (va_up m 9 (a_ : Int)) 14 c_) (r := va_up r 7 Q_) (x := (-3)) (y := 3) (e := 0) (L := L) (a := a_) (zov_all hD) hD (by first | rfl | exact hm5) (hL9) (by first | rfl | exact hm9) (hfa_.1) (hT) (by decide) (Or.inl rfl) (hK)) (fun v h2 hp => ?_)
      obtain ⟨rfl, hq_9⟩ := hp
      refine Zn.eq (pc2 := 127) (ls2 := [some (za (A 0)), some (zi (i_1 : Int)), some (zi o_), j_2]) (st2 := [zi (rdV ((r 3)) ((r 9)) L a_ (-3) 3 0)]) (h2 := zov (LM A (va_up (va_up m 9 (rdA ((r 3)) ((r 9)) L a_ (-3) 3 0 : Int)) 14 (rdN ((r 3)) L a_ (c_))) (va_up r 7 Q_)) h) rfl rfl rfl (hq_9.trans ((LM_over _ _ _ _ _ _).trans rfl)) ?_
      have hD : zND (LM A (va_up (va_up m 9 (rdA ((r 3)) ((r 9)) L a_ (-3) 3 0 : Int)) 14 (rdN ((r 3)) L a_ (c_))) (va_up r 7 Q_)) := hD
      refine Zn.ifc (c := .ne) (off := 5) 132 (by decide +kernel) rfl ⟨by omega, by omega⟩ (fun c_10 => ?_) (fun c_10 => ?_)
      · have c_10 : rdV ((r 3)) ((r 9)) L a_ (-3) 3 0 ≠ 0 := c_10
        refine Zn.seg (pc2 := 133) (ls2 := [some (za (A 0)), some (zi (i_1 : Int)), some (zi o_), j_2]) (st2 := [za (A 0)]) [(132, .aload_n 0)] (by decide +kernel) rfl ?_
        refine Zn.get (ix := 33) hD 0 (by decide +kernel) rfl rfl rfl ?_
        refine Zn.seg (pc2 := 138) (ls2 := [some (za (A 0)), some (zi (i_1 : Int)), some (zi o_), j_2]) (st2 := [za (A 0), zi (i_1 : Int), za (A 7)]) [(136, .iload_n 1), (137, .aload_n 0)] (by decide +kernel) rfl ?_
        refine Zn.get (ix := 156) hD 0 (by decide +kernel) rfl rfl rfl ?_
        refine Zn.eq (st2 := [zi (rdN ((r 3)) L a_ (c_)), zi (i_1 : Int), za (A 7)]) rfl rfl rfl rfl ?_
        refine Zn.topi (y := nVV (r 3) L a_) (by omega) ?_
        refine Zn.iast hD 7 (i_1) (by decide +kernel) rfl (by omega) (by omega) rfl ?_
        refine Zn.eq (h2 := zov (LM A (va_up (va_up m 9 (rdA ((r 3)) ((r 9)) L a_ (-3) 3 0 : Int)) 14 (rdN ((r 3)) L a_ (c_))) (va_up r 7 (va_up Q_ i_1 (nVV (r 3) L a_)))) h) rfl rfl rfl (rfl) ?_
        have hD : zND (LM A (va_up (va_up m 9 (rdA ((r 3)) ((r 9)) L a_ (-3) 3 0 : Int)) 14 (rdN ((r 3)) L a_ (c_))) (va_up r 7 (va_up Q_ i_1 (nVV (r 3) L a_)))) := hD
        refine Zn.seg (pc2 := 147) (ls2 := [some (za (A 0)), some (zi ((i_1 : Int) + 1)), some (zi o_), j_2]) (st2 := [zi 3, zi ((i_1 : Int) + 1)]) [(142, .iinc 1 1), (145, .iload_n 1), (146, .iconst 3)] (by decide +kernel) rfl ?_
        refine Zn.icmp (c := .ge) (off := 16) 163 (by decide +kernel) rfl ⟨by omega, by omega⟩ ⟨by decide, by decide⟩ (fun c_11 => ?_) (fun c_11 => ?_)
        · have c_11 : 3 ≤ (i_1 : Int) + 1 := c_11
          refine Zn.seg (pc2 := 115) (ls2 := [some (za (A 0)), some (zi ((i_1 : Int) + 1)), some (zi 0), j_2]) (st2 := []) [(163, .iconst 0), (164, .istore_n 2), (165, .goto (-50))] (by decide +kernel) rfl ?_
          exact Zn.eq rfl (zcons rfl (zcons (congrArg (fun z => some (zi z)) (by omega)) rfl)) rfl (rfl) (ih_4 (rdA ((r 3)) ((r 9)) L a_ (-3) 3 0) 0 (va_up Q_ i_1 (nVV (r 3) L a_)) (rdN ((r 3)) L a_ (c_)) j_2 (⟨by omega, by omega, by rcases hfa_.2.2 with q_ | q_; (first | (exfalso; omega) | (exact Or.inl ⟨rfl, by omega, q_.2.2.trans (bn_s3 (by omega) (by omega) (by omega))⟩) | (refine Or.inr ⟨rfl, ?_⟩; rw [q_.2.2]; first | exact bn_l (by omega) (by omega) | exact bn_k (by omega) (by omega) (by omega))); (exfalso; omega)⟩))
        · have c_11 : ¬ (3 ≤ (i_1 : Int) + 1) := c_11
          refine Zn.seg (pc2 := 153) (ls2 := [some (za (A 0)), some (zi ((i_1 : Int) + 1)), some (zi o_), j_2]) (st2 := [zi 44, za (A 0)]) [(150, .aload_n 0), (151, .bipush 44)] (by decide +kernel) rfl ?_
          refine Zn.call (ins := .invokevirtual 163) [za (A 0), zi 44] [] (by decide +kernel) rfl rfl rfl ⟨rfl, rfl⟩ ⟨rfl, rfl, rfl⟩ rfl (zrecvV hD (p := 0) rfl rfl rfl) (sp_X8_takes (A := A) (m := va_up (va_up m 9 (rdA ((r 3)) ((r 9)) L a_ (-3) 3 0 : Int)) 14 (rdN ((r 3)) L a_ (c_))) (r := va_up r 7 (va_up Q_ i_1 (nVV (r 3) L a_))) (x := 44) (L := L) (a := (rdA (r 3) (r 9) L a_ (-3) 3 0)) (zov_all hD) hD (by first | rfl | exact hm5) (hL9) (by first | rfl | exact hm9) (hrl.2) (hT) (by decide)) (fun v h2 hp => ?_)
          obtain ⟨rfl, hq_12⟩ := hp
          refine Zn.eq (pc2 := 156) (ls2 := [some (za (A 0)), some (zi ((i_1 : Int) + 1)), some (zi o_), j_2]) (st2 := [zi (tkV ((r 3)) L (rdA (r 3) (r 9) L a_ (-3) 3 0) 44)]) (h2 := zov (LM A (va_up (va_up m 9 (tkA ((r 3)) L (rdA (r 3) (r 9) L a_ (-3) 3 0) 44 : Int)) 14 (rdN ((r 3)) L a_ (c_))) (va_up r 7 (va_up Q_ i_1 (nVV (r 3) L a_)))) h) rfl rfl rfl (hq_12.trans ((LM_over _ _ _ _ _ _).trans rfl)) ?_
          have hD : zND (LM A (va_up (va_up m 9 (tkA ((r 3)) L (rdA (r 3) (r 9) L a_ (-3) 3 0) 44 : Int)) 14 (rdN ((r 3)) L a_ (c_))) (va_up r 7 (va_up Q_ i_1 (nVV (r 3) L a_)))) := hD
          refine Zn.ifc (c := .eq) (off := 7) 163 (by decide +kernel) rfl ⟨by omega, by omega⟩ (fun c_13 => ?_) (fun c_13 => ?_)
          · have c_13 : tkV ((r 3)) L (rdA (r 3) (r 9) L a_ (-3) 3 0) 44 = 0 := c_13
            refine Zn.seg (pc2 := 115) (ls2 := [some (za (A 0)), some (zi ((i_1 : Int) + 1)), some (zi 0), j_2]) (st2 := []) [(163, .iconst 0), (164, .istore_n 2), (165, .goto (-50))] (by decide +kernel) rfl ?_
            exact Zn.eq rfl (zcons rfl (zcons (congrArg (fun z => some (zi z)) (by omega)) rfl)) rfl (rfl) (ih_4 (tkA ((r 3)) L (rdA (r 3) (r 9) L a_ (-3) 3 0) 44) 0 (va_up Q_ i_1 (nVV (r 3) L a_)) (rdN ((r 3)) L a_ (c_)) j_2 (⟨by omega, by omega, by rcases hfa_.2.2 with q_ | q_; (first | (exfalso; omega) | (exact Or.inl ⟨rfl, by omega, q_.2.2.trans (bn_s3 (by omega) (by omega) (by omega))⟩) | (refine Or.inr ⟨rfl, ?_⟩; rw [q_.2.2]; first | exact bn_l (by omega) (by omega) | exact bn_k (by omega) (by omega) (by omega))); (exfalso; omega)⟩))
          · have c_13 : ¬ (tkV ((r 3)) L (rdA (r 3) (r 9) L a_ (-3) 3 0) 44 = 0) := c_13
            refine Zn.seg (pc2 := 115) (ls2 := [some (za (A 0)), some (zi ((i_1 : Int) + 1)), some (zi 1), j_2]) (st2 := []) [(159, .iconst 1), (160, .goto 4), (164, .istore_n 2), (165, .goto (-50))] (by decide +kernel) rfl ?_
            exact Zn.eq rfl (zcons rfl (zcons (congrArg (fun z => some (zi z)) (by omega)) rfl)) rfl (rfl) (ih_4 (tkA ((r 3)) L (rdA (r 3) (r 9) L a_ (-3) 3 0) 44) 1 (va_up Q_ i_1 (nVV (r 3) L a_)) (rdN ((r 3)) L a_ (c_)) j_2 (⟨by omega, by omega, by rcases hfa_.2.2 with q_ | q_; (first | (exfalso; omega) | (exact Or.inl ⟨rfl, by omega, q_.2.2.trans (bn_s3 (by omega) (by omega) (by omega))⟩) | (refine Or.inr ⟨rfl, ?_⟩; rw [q_.2.2]; first | exact bn_l (by omega) (by omega) | exact bn_k (by omega) (by omega) (by omega))); (exfalso; omega)⟩))
      · have c_10 : ¬ (rdV ((r 3)) ((r 9)) L a_ (-3) 3 0 ≠ 0) := c_10
        refine Zn.seg (pc2 := 131) (ls2 := [some (za (A 0)), some (zi (i_1 : Int)), some (zi o_), j_2]) (st2 := [zi 0]) [(130, .iconst 0)] (by decide +kernel) rfl ?_
        exact Zn.bret (by decide +kernel) rfl (by first | decide | omega) (⟨(rdN ((r 3)) L a_ (c_)), Q_, (r 8), (r 9), (r 10), (by refine congrArg some (congrArg zi ?_); have hb_ : bnR (r 3) (r 9) L 3 a (r 7) 0 = (0, rdA (r 3) (r 9) L a_ (-3) 3 0, Q_) := (by rcases hfa_.2.2 with q_ | q_; (rw [q_.2.2]; exact bn_f (by omega) (by omega)); (exfalso; omega)); have hz_ : (0 : Int) = 0 := rfl; rw [bbV, hb_, if_pos hz_]), (by have hb_ : bnR (r 3) (r 9) L 3 a (r 7) 0 = (0, rdA (r 3) (r 9) L a_ (-3) 3 0, Q_) := (by rcases hfa_.2.2 with q_ | q_; (rw [q_.2.2]; exact bn_f (by omega) (by omega)); (exfalso; omega)); have hz_ : (0 : Int) = 0 := rfl; rw [bbA, hb_, if_pos hz_]; congr 2; funext k_; simp only [va_up]; (repeat' split) <;> first | rfl | (exfalso; omega) | (subst_vars; rfl)), (by have hb_ : bnR (r 3) (r 9) L 3 a (r 7) 0 = (0, rdA (r 3) (r 9) L a_ (-3) 3 0, Q_) := (by rcases hfa_.2.2 with q_ | q_; (rw [q_.2.2]; exact bn_f (by omega) (by omega)); (exfalso; omega)); have hz_ : (0 : Int) = 0 := rfl; rw [bbV, hb_, if_pos hz_]; exact fun q_ => absurd q_ (by decide))⟩)
  · exact absurd (show False from by (have := fa_5.2.1; omega)) (fun q_ => q_)
set_option maxHeartbeats 2000000 in
theorem sp_X8_readsAll_A {h : xH} {A : Nat → Nat} {m : Nat → Int} {r : Nat → Nat → Int} {L : Nat} (hL : ∀ q ∈ LM A m r, h q.1 = zcE q.2) (hD : zND (LM A m r)) (hm5 : m 5 = (L : Int)) (hL9 : L ≤ 90) (hT : ∀ j, j < L → 32 ≤ r 3 j ∧ r 3 j ≤ 126) : zEv k_X8_readsAll [za (A 0)] h (fun v h2 => ∃ c1 : Int, ∃ e1 : Int, ∃ x7 : Nat → Int, ∃ x8 : Nat → Int, ∃ x9 : Nat → Int, ∃ x10 : Nat → Int, v = some (zi (txV (r 3) L (cpF zF (r 7) 3) (cpF zF (r 8) 13) (cpF zF (r 9) 13))) ∧ h2 = zov (LM A (va_up (va_up (va_up m 9 (txA (r 3) L (cpF zF (r 7) 3) (cpF zF (r 8) 13) (cpF zF (r 9) 13) : Int)) 10 c1) 14 e1) (va_up (va_up (va_up (va_up r 7 x7) 8 x8) 9 x9) 10 x10)) h ∧ (txV (r 3) L (cpF zF (r 7) 3) (cpF zF (r 8) 13) (cpF zF (r 9) 13) = 1 → c1 = (((cur (r 3) L (sk (r 3) L 0) - 48)).toNat : Int) ∧ x7 = (bnR (r 3) (cpF zF (r 9) 13) L 3 (tkA (r 3) L ((sk (r 3) L 0) + 1) 59) (cpF zF (r 7) 3) 0).2.2 ∧ x8 = (ptR (r 3) L (cur (r 3) L (sk (r 3) L 0) - 48).toNat 8 (bnR (r 3) (cpF zF (r 9) 13) L 3 (tkA (r 3) L ((sk (r 3) L 0) + 1) 59) (cpF zF (r 7) 3) 0).2.1 (cpF zF (r 8) 13) (cpF zF (r 9) 13) 0).2.2.1 ∧ x9 = (ptR (r 3) L (cur (r 3) L (sk (r 3) L 0) - 48).toNat 8 (bnR (r 3) (cpF zF (r 9) 13) L 3 (tkA (r 3) L ((sk (r 3) L 0) + 1) 59) (cpF zF (r 7) 3) 0).2.1 (cpF zF (r 8) 13) (cpF zF (r 9) 13) 0).2.2.2.1)) := by
  have hh : h = zov (LM A m r) h := zov_self hL
  have hs0 := sk_r (T := r 3) (Nat.zero_le L)
  have hc0 := cur_b hT (sk (r 3) L 0)
  have hss := sk_i hs0
  have ht0 := tk_c (r 3) L ((sk (r 3) L 0) + 1) 59
  refine zEv.body (I := (8, xI_X8_readsAll, 4, 4, 94, 0, 0, false)) (rt := (some .boolean)) [some (za (A 0)), none, none, none] rfl rfl rfl rfl ?_
  refine Zn.eq rfl rfl rfl hh ?_
  have hD : zND (LM A m r) := hD
  refine Zn.seg (pc2 := 2) (ls2 := [some (za (A 0)), none, none, none]) (st2 := [zi 0, za (A 0)]) [(0, .aload_n 0), (1, .iconst 0)] (by decide +kernel) rfl ?_
  refine Zn.put (ix := 142) hD 0 (by decide +kernel) rfl rfl rfl rfl rfl ?_
  refine Zn.eq (h2 := zov (LM A (va_up m 9 0) r) h) rfl rfl rfl rfl ?_
  have hD : zND (LM A (va_up m 9 0) r) := hD
  refine Zn.seg (pc2 := 6) (ls2 := [some (za (A 0)), none, none, none]) (st2 := [za (A 0)]) [(5, .aload_n 0)] (by decide +kernel) rfl ?_
  refine Zn.get (ix := 42) hD 0 (by decide +kernel) rfl rfl rfl ?_
  refine Zn.seg (pc2 := 11) (ls2 := [some (za (A 0)), none, none, none]) (st2 := [zi 0, zi 0, za (A 10)]) [(9, .iconst 0), (10, .iconst 0)] (by decide +kernel) rfl ?_
  refine Zn.iast hD 10 (0) (by decide +kernel) rfl (rfl) (by decide) rfl ?_
  refine Zn.eq (h2 := zov (LM A (va_up m 9 0) (va_up r 10 (va_up (r 10) 0 0))) h) rfl rfl rfl (rfl) ?_
  have hD : zND (LM A (va_up m 9 0) (va_up r 10 (va_up (r 10) 0 0))) := hD
  refine Zn.seg (pc2 := 14) (ls2 := [some (za (A 0)), some (zi 0), none, none]) (st2 := []) [(12, .iconst 0), (13, .istore_n 1)] (by decide +kernel) rfl ?_
  refine Zn.eq (pc2 := 14) (ls2 := [some (za (A 0)), some (zi (0 : Int)), none, none]) (st2 := []) (h2 := zov (LM A (va_up m 9 0) (va_up (va_up (va_up r 8 (cpF zF (r 8) 0)) 9 (cpF zF (r 9) 0)) 10 (va_up (r 10) 0 0))) h) rfl rfl rfl (by rw [cpF_zero, cpF_zero]; congr 2; funext k_; simp only [va_up]; (repeat' split) <;> first | rfl | (exfalso; omega) | (subst_vars; rfl)) ?_
  have hD : zND (LM A (va_up m 9 0) (va_up (va_up (va_up r 8 (cpF zF (r 8) 0)) 9 (cpF zF (r 9) 0)) 10 (va_up (r 10) 0 0))) := hD
  refine xloop (P := fun i_1 => ∀ j_2 j_3 : Option zV, Zn (8, xI_X8_readsAll, 4, 4, 94, 0, 0, false) (some .boolean) 14 [some (za (A 0)), some (zi (i_1 : Int)), j_2, j_3] [] (zov (LM A (va_up m 9 0) (va_up (va_up (va_up r 8 (cpF zF (r 8) i_1)) 9 (cpF zF (r 9) i_1)) 10 (va_up (r 10) 0 0))) h) _) (13) (fun i_1 hi_4 ih_5 j_2 j_3 => ?_) (fun j_2 j_3 => ?_) none none
  · have hi_ : i_1 < 13 := hi_4
    refine Zn.seg (pc2 := 17) (ls2 := [some (za (A 0)), some (zi (i_1 : Int)), j_2, j_3]) (st2 := [zi 13, zi (i_1 : Int)]) [(14, .iload_n 1), (15, .bipush 13)] (by decide +kernel) rfl ?_
    refine Zn.icmp (c := .ge) (off := 23) 40 (by decide +kernel) rfl ⟨by omega, by omega⟩ ⟨by decide, by decide⟩ (fun c_6 => absurd (show 13 ≤ (i_1 : Int) from c_6) (by omega)) (fun c_6 => ?_)
    have c_6 : ¬ (13 ≤ (i_1 : Int)) := c_6
    refine Zn.seg (pc2 := 21) (ls2 := [some (za (A 0)), some (zi (i_1 : Int)), j_2, j_3]) (st2 := [za (A 0)]) [(20, .aload_n 0)] (by decide +kernel) rfl ?_
    refine Zn.get (ix := 36) hD 0 (by decide +kernel) rfl rfl rfl ?_
    refine Zn.seg (pc2 := 26) (ls2 := [some (za (A 0)), some (zi (i_1 : Int)), j_2, j_3]) (st2 := [zi 0, zi (i_1 : Int), za (A 8)]) [(24, .iload_n 1), (25, .iconst 0)] (by decide +kernel) rfl ?_
    refine Zn.iast hD 8 (i_1) (by decide +kernel) rfl (by omega) (by omega) rfl ?_
    refine Zn.eq (h2 := zov (LM A (va_up m 9 0) (va_up (va_up (va_up r 8 (va_up (cpF zF (r 8) i_1) i_1 0)) 9 (cpF zF (r 9) i_1)) 10 (va_up (r 10) 0 0))) h) rfl rfl rfl (rfl) ?_
    have hD : zND (LM A (va_up m 9 0) (va_up (va_up (va_up r 8 (va_up (cpF zF (r 8) i_1) i_1 0)) 9 (cpF zF (r 9) i_1)) 10 (va_up (r 10) 0 0))) := hD
    refine Zn.seg (pc2 := 28) (ls2 := [some (za (A 0)), some (zi (i_1 : Int)), j_2, j_3]) (st2 := [za (A 0)]) [(27, .aload_n 0)] (by decide +kernel) rfl ?_
    refine Zn.get (ix := 39) hD 0 (by decide +kernel) rfl rfl rfl ?_
    refine Zn.seg (pc2 := 33) (ls2 := [some (za (A 0)), some (zi (i_1 : Int)), j_2, j_3]) (st2 := [zi 0, zi (i_1 : Int), za (A 9)]) [(31, .iload_n 1), (32, .iconst 0)] (by decide +kernel) rfl ?_
    refine Zn.iast hD 9 (i_1) (by decide +kernel) rfl (by omega) (by omega) rfl ?_
    refine Zn.eq (h2 := zov (LM A (va_up m 9 0) (va_up (va_up (va_up r 8 (va_up (cpF zF (r 8) i_1) i_1 0)) 9 (va_up (cpF zF (r 9) i_1) i_1 0)) 10 (va_up (r 10) 0 0))) h) rfl rfl rfl (rfl) ?_
    have hD : zND (LM A (va_up m 9 0) (va_up (va_up (va_up r 8 (va_up (cpF zF (r 8) i_1) i_1 0)) 9 (va_up (cpF zF (r 9) i_1) i_1 0)) 10 (va_up (r 10) 0 0))) := hD
    refine Zn.seg (pc2 := 14) (ls2 := [some (za (A 0)), some (zi ((i_1 : Int) + 1)), j_2, j_3]) (st2 := []) [(34, .iinc 1 1), (37, .goto (-23))] (by decide +kernel) rfl ?_
    exact Zn.eq rfl (zcons rfl (zcons (congrArg (fun z => some (zi z)) (by omega)) rfl)) rfl (by rw [cpF_st (f := zF) (by rfl), cpF_st (f := zF) (by rfl)]) (ih_5 j_2 j_3)
  · skip
    refine Zn.seg (pc2 := 17) (ls2 := [some (za (A 0)), some (zi (13 : Int)), j_2, j_3]) (st2 := [zi 13, zi (13 : Int)]) [(14, .iload_n 1), (15, .bipush 13)] (by decide +kernel) rfl ?_
    refine Zn.icmp (c := .ge) (off := 23) 40 (by decide +kernel) rfl ⟨by omega, by omega⟩ ⟨by decide, by decide⟩ (fun c_7 => ?_) (fun c_7 => absurd (show 13 ≤ (13 : Int) from by decide) c_7)
    have c_7 : 13 ≤ (13 : Int) := c_7
    refine Zn.seg (pc2 := 41) (ls2 := [some (za (A 0)), some (zi (13 : Int)), j_2, j_3]) (st2 := [za (A 0)]) [(40, .aload_n 0)] (by decide +kernel) rfl ?_
    refine Zn.call (ins := .invokevirtual 145) [za (A 0)] [] (by decide +kernel) rfl rfl rfl ⟨rfl, rfl⟩ ⟨rfl, rfl, rfl⟩ rfl (zrecvV hD (p := 0) rfl rfl rfl) (sp_X8_letter (A := A) (m := va_up m 9 0) (r := va_up (va_up (va_up r 8 (cpF zF (r 8) 13)) 9 (cpF zF (r 9) 13)) 10 (va_up (r 10) 0 0)) (L := L) (a := 0) (zov_all hD) hD (by first | rfl | exact hm5) (hL9) (by rfl) (Nat.zero_le L) (hT)) (fun v h2 hp => ?_)
    obtain ⟨rfl, hq_8⟩ := hp
    refine Zn.eq (pc2 := 44) (ls2 := [some (za (A 0)), some (zi (13 : Int)), j_2, j_3]) (st2 := [zi (cur ((r 3)) L (sk ((r 3)) L 0))]) (h2 := zov (LM A (va_up m 9 ((sk ((r 3)) L 0) : Int)) (va_up (va_up (va_up r 8 (cpF zF (r 8) 13)) 9 (cpF zF (r 9) 13)) 10 (va_up (r 10) 0 0))) h) rfl rfl rfl (hq_8.trans ((LM_over _ _ _ _ _ _).trans rfl)) ?_
    have hD : zND (LM A (va_up m 9 ((sk ((r 3)) L 0) : Int)) (va_up (va_up (va_up r 8 (cpF zF (r 8) 13)) 9 (cpF zF (r 9) 13)) 10 (va_up (r 10) 0 0))) := hD
    refine Zn.i2l (by decide +kernel) ⟨by omega, by omega⟩ ?_
    refine Zn.seg (pc2 := 51) (ls2 := [some (za (A 0)), some (zi (13 : Int)), j_2, j_3]) (st2 := [zj 51, zj 48, zj (cur ((r 3)) L (sk ((r 3)) L 0))]) [(45, .ldc2_w 148), (48, .ldc2_w 169)] (by decide +kernel) rfl ?_
    refine Zn.call (ins := .invokestatic 77) [zj (cur ((r 3)) L (sk ((r 3)) L 0)), zj 48, zj 51] [] (by decide +kernel) rfl rfl rfl ⟨rfl, rfl⟩ ⟨rfl, rfl, rfl⟩ rfl (zrecvS (by decide)) (sp_X8_in (x := cur ((r 3)) L (sk ((r 3)) L 0)) (lo := 48) (hi := 51) (⟨by omega, by omega⟩) (⟨by decide, by decide⟩) (⟨by decide, by decide⟩)) (fun v h2 hp => ?_)
    obtain ⟨rfl, hq_9⟩ := hp
    refine Zn.eq (pc2 := 54) (ls2 := [some (za (A 0)), some (zi (13 : Int)), j_2, j_3]) (st2 := [zi (inB 48 51 (cur ((r 3)) L (sk ((r 3)) L 0)))]) (h2 := zov (LM A (va_up m 9 ((sk ((r 3)) L 0) : Int)) (va_up (va_up (va_up r 8 (cpF zF (r 8) 13)) 9 (cpF zF (r 9) 13)) 10 (va_up (r 10) 0 0))) h) rfl rfl rfl hq_9 ?_
    have hD : zND (LM A (va_up m 9 ((sk ((r 3)) L 0) : Int)) (va_up (va_up (va_up r 8 (cpF zF (r 8) 13)) 9 (cpF zF (r 9) 13)) 10 (va_up (r 10) 0 0))) := hD
    have q_10 := inB_spec 48 51 (cur ((r 3)) L (sk ((r 3)) L 0))
    refine Zn.ifc (c := .ne) (off := 5) 59 (by decide +kernel) rfl ⟨by omega, by omega⟩ (fun c_11 => ?_) (fun c_11 => ?_)
    · have c_11 : inB 48 51 (cur ((r 3)) L (sk ((r 3)) L 0)) ≠ 0 := c_11
      refine Zn.seg (pc2 := 61) (ls2 := [some (za (A 0)), some (zi (13 : Int)), j_2, j_3]) (st2 := [za (A 0), za (A 0)]) [(59, .aload_n 0), (60, .aload_n 0)] (by decide +kernel) rfl ?_
      refine Zn.call (ins := .invokevirtual 145) [za (A 0)] [za (A 0)] (by decide +kernel) rfl rfl rfl ⟨rfl, rfl⟩ ⟨rfl, rfl, rfl⟩ rfl (zrecvV hD (p := 0) rfl rfl rfl) (sp_X8_letter (A := A) (m := va_up m 9 ((sk ((r 3)) L 0) : Int)) (r := va_up (va_up (va_up r 8 (cpF zF (r 8) 13)) 9 (cpF zF (r 9) 13)) 10 (va_up (r 10) 0 0)) (L := L) (a := (sk (r 3) L 0)) (zov_all hD) hD (by first | rfl | exact hm5) (hL9) (by first | rfl | exact hm9) (hs0.2.1) (hT)) (fun v h2 hp => ?_)
      obtain ⟨rfl, hq_12⟩ := hp
      refine Zn.eq (pc2 := 64) (ls2 := [some (za (A 0)), some (zi (13 : Int)), j_2, j_3]) (st2 := [zi (cur ((r 3)) L (sk ((r 3)) L (sk (r 3) L 0))), za (A 0)]) (h2 := zov (LM A (va_up m 9 ((sk ((r 3)) L (sk (r 3) L 0)) : Int)) (va_up (va_up (va_up r 8 (cpF zF (r 8) 13)) 9 (cpF zF (r 9) 13)) 10 (va_up (r 10) 0 0))) h) rfl rfl rfl (hq_12.trans ((LM_over _ _ _ _ _ _).trans rfl)) ?_
      have hD : zND (LM A (va_up m 9 ((sk ((r 3)) L (sk (r 3) L 0)) : Int)) (va_up (va_up (va_up r 8 (cpF zF (r 8) 13)) 9 (cpF zF (r 9) 13)) 10 (va_up (r 10) 0 0))) := hD
      refine Zn.topi (y := cur (r 3) L (sk (r 3) L 0)) (by rw [hss]) ?_
      refine Zn.eq (pc2 := 64) (ls2 := [some (za (A 0)), some (zi (13 : Int)), j_2, j_3]) (st2 := [zi (cur (r 3) L (sk (r 3) L 0)), za (A 0)]) (h2 := zov (LM A (va_up m 9 (sk (r 3) L 0 : Int)) (va_up (va_up (va_up r 8 (cpF zF (r 8) 13)) 9 (cpF zF (r 9) 13)) 10 (va_up (r 10) 0 0))) h) rfl rfl rfl (by rw [hss]) ?_
      have hD : zND (LM A (va_up m 9 (sk (r 3) L 0 : Int)) (va_up (va_up (va_up r 8 (cpF zF (r 8) 13)) 9 (cpF zF (r 9) 13)) 10 (va_up (r 10) 0 0))) := hD
      refine Zn.seg (pc2 := 67) (ls2 := [some (za (A 0)), some (zi (13 : Int)), j_2, j_3]) (st2 := [zi (cur (r 3) L (sk (r 3) L 0) - 48), za (A 0)]) [(64, .bipush 48), (66, .isub)] (by decide +kernel) rfl ?_
      refine Zn.put (ix := 166) hD 0 (by decide +kernel) rfl rfl rfl rfl rfl ?_
      refine Zn.eq (h2 := zov (LM A (va_up (va_up m 9 (sk (r 3) L 0 : Int)) 10 (cur (r 3) L (sk (r 3) L 0) - 48)) (va_up (va_up (va_up r 8 (cpF zF (r 8) 13)) 9 (cpF zF (r 9) 13)) 10 (va_up (r 10) 0 0))) h) rfl rfl rfl rfl ?_
      have hD : zND (LM A (va_up (va_up m 9 (sk (r 3) L 0 : Int)) 10 (cur (r 3) L (sk (r 3) L 0) - 48)) (va_up (va_up (va_up r 8 (cpF zF (r 8) 13)) 9 (cpF zF (r 9) 13)) 10 (va_up (r 10) 0 0))) := hD
      refine Zn.seg (pc2 := 72) (ls2 := [some (za (A 0)), some (zi (13 : Int)), j_2, j_3]) (st2 := [za (A 0), za (A 0)]) [(70, .aload_n 0), (71, .dup)] (by decide +kernel) rfl ?_
      refine Zn.get (ix := 142) hD 0 (by decide +kernel) rfl rfl rfl ?_
      refine Zn.eq (st2 := [zi (sk (r 3) L 0 : Int), za (A 0)]) rfl rfl rfl rfl ?_
      refine Zn.seg (pc2 := 77) (ls2 := [some (za (A 0)), some (zi (13 : Int)), j_2, j_3]) (st2 := [zi ((sk (r 3) L 0 : Int) + 1), za (A 0)]) [(75, .iconst 1), (76, .iadd)] (by decide +kernel) rfl ?_
      refine Zn.put (ix := 142) hD 0 (by decide +kernel) rfl rfl rfl rfl rfl ?_
      refine Zn.eq (h2 := zov (LM A (va_up (va_up m 9 ((sk (r 3) L 0 : Int) + 1)) 10 (cur (r 3) L (sk (r 3) L 0) - 48)) (va_up (va_up (va_up r 8 (cpF zF (r 8) 13)) 9 (cpF zF (r 9) 13)) 10 (va_up (r 10) 0 0))) h) rfl rfl rfl rfl ?_
      have hD : zND (LM A (va_up (va_up m 9 ((sk (r 3) L 0 : Int) + 1)) 10 (cur (r 3) L (sk (r 3) L 0) - 48)) (va_up (va_up (va_up r 8 (cpF zF (r 8) 13)) 9 (cpF zF (r 9) 13)) 10 (va_up (r 10) 0 0))) := hD
      refine Zn.seg (pc2 := 83) (ls2 := [some (za (A 0)), some (zi (13 : Int)), j_2, j_3]) (st2 := [zi 59, za (A 0)]) [(80, .aload_n 0), (81, .bipush 59)] (by decide +kernel) rfl ?_
      refine Zn.call (ins := .invokevirtual 163) [za (A 0), zi 59] [] (by decide +kernel) rfl rfl rfl ⟨rfl, rfl⟩ ⟨rfl, rfl, rfl⟩ rfl (zrecvV hD (p := 0) rfl rfl rfl) (sp_X8_takes (A := A) (m := va_up (va_up m 9 ((sk (r 3) L 0 : Int) + 1)) 10 (cur (r 3) L (sk (r 3) L 0) - 48)) (r := va_up (va_up (va_up r 8 (cpF zF (r 8) 13)) 9 (cpF zF (r 9) 13)) 10 (va_up (r 10) 0 0)) (x := 59) (L := L) (a := ((sk (r 3) L 0) + 1)) (zov_all hD) hD (by first | rfl | exact hm5) (hL9) (by rfl) (by omega) (hT) (by decide)) (fun v h2 hp => ?_)
      obtain ⟨rfl, hq_13⟩ := hp
      refine Zn.eq (pc2 := 86) (ls2 := [some (za (A 0)), some (zi (13 : Int)), j_2, j_3]) (st2 := [zi (tkV ((r 3)) L ((sk (r 3) L 0) + 1) 59)]) (h2 := zov (LM A (va_up (va_up m 9 (tkA ((r 3)) L ((sk (r 3) L 0) + 1) 59 : Int)) 10 (cur (r 3) L (sk (r 3) L 0) - 48)) (va_up (va_up (va_up r 8 (cpF zF (r 8) 13)) 9 (cpF zF (r 9) 13)) 10 (va_up (r 10) 0 0))) h) rfl rfl rfl (hq_13.trans ((LM_over _ _ _ _ _ _).trans rfl)) ?_
      have hD : zND (LM A (va_up (va_up m 9 (tkA ((r 3)) L ((sk (r 3) L 0) + 1) 59 : Int)) 10 (cur (r 3) L (sk (r 3) L 0) - 48)) (va_up (va_up (va_up r 8 (cpF zF (r 8) 13)) 9 (cpF zF (r 9) 13)) 10 (va_up (r 10) 0 0))) := hD
      refine Zn.ifc (c := .ne) (off := 5) 91 (by decide +kernel) rfl ⟨by omega, by omega⟩ (fun c_14 => ?_) (fun c_14 => ?_)
      · have c_14 : tkV ((r 3)) L ((sk (r 3) L 0) + 1) 59 ≠ 0 := c_14
        refine Zn.seg (pc2 := 93) (ls2 := [some (za (A 0)), some (zi 0), j_2, j_3]) (st2 := []) [(91, .iconst 0), (92, .istore_n 1)] (by decide +kernel) rfl ?_
        refine Zn.eq (pc2 := 93) (ls2 := [some (za (A 0)), some (zi (0 : Int)), j_2, j_3]) (st2 := []) (h2 := zov (LM A (va_up (va_up m 9 (tkA (r 3) L ((sk (r 3) L 0) + 1) 59 : Int)) 10 (cur (r 3) L (sk (r 3) L 0) - 48)) (va_up (va_up (va_up (va_up r 7 (cpF zF (r 7) 0)) 8 (cpF zF (r 8) 13)) 9 (cpF zF (r 9) 13)) 10 (va_up (r 10) 0 0))) h) rfl rfl rfl (by rw [cpF_zero]; congr 2; funext k_; simp only [va_up]; (repeat' split) <;> first | rfl | (exfalso; omega) | (subst_vars; rfl)) ?_
        have hD : zND (LM A (va_up (va_up m 9 (tkA (r 3) L ((sk (r 3) L 0) + 1) 59 : Int)) 10 (cur (r 3) L (sk (r 3) L 0) - 48)) (va_up (va_up (va_up (va_up r 7 (cpF zF (r 7) 0)) 8 (cpF zF (r 8) 13)) 9 (cpF zF (r 9) 13)) 10 (va_up (r 10) 0 0))) := hD
        refine xloop (P := fun i_15 => ∀ j_16 j_17 : Option zV, Zn (8, xI_X8_readsAll, 4, 4, 94, 0, 0, false) (some .boolean) 93 [some (za (A 0)), some (zi (i_15 : Int)), j_16, j_17] [] (zov (LM A (va_up (va_up m 9 (tkA (r 3) L ((sk (r 3) L 0) + 1) 59 : Int)) 10 (cur (r 3) L (sk (r 3) L 0) - 48)) (va_up (va_up (va_up (va_up r 7 (cpF zF (r 7) i_15)) 8 (cpF zF (r 8) 13)) 9 (cpF zF (r 9) 13)) 10 (va_up (r 10) 0 0))) h) _) (3) (fun i_15 hi_18 ih_19 j_16 j_17 => ?_) (fun j_16 j_17 => ?_) j_2 j_3
        · have hi_ : i_15 < 3 := hi_18
          refine Zn.seg (pc2 := 95) (ls2 := [some (za (A 0)), some (zi (i_15 : Int)), j_16, j_17]) (st2 := [zi 3, zi (i_15 : Int)]) [(93, .iload_n 1), (94, .iconst 3)] (by decide +kernel) rfl ?_
          refine Zn.icmp (c := .ge) (off := 16) 111 (by decide +kernel) rfl ⟨by omega, by omega⟩ ⟨by decide, by decide⟩ (fun c_20 => absurd (show 3 ≤ (i_15 : Int) from c_20) (by omega)) (fun c_20 => ?_)
          have c_20 : ¬ (3 ≤ (i_15 : Int)) := c_20
          refine Zn.seg (pc2 := 99) (ls2 := [some (za (A 0)), some (zi (i_15 : Int)), j_16, j_17]) (st2 := [za (A 0)]) [(98, .aload_n 0)] (by decide +kernel) rfl ?_
          refine Zn.get (ix := 33) hD 0 (by decide +kernel) rfl rfl rfl ?_
          refine Zn.seg (pc2 := 104) (ls2 := [some (za (A 0)), some (zi (i_15 : Int)), j_16, j_17]) (st2 := [zi 0, zi (i_15 : Int), za (A 7)]) [(102, .iload_n 1), (103, .iconst 0)] (by decide +kernel) rfl ?_
          refine Zn.iast hD 7 (i_15) (by decide +kernel) rfl (by omega) (by omega) rfl ?_
          refine Zn.eq (h2 := zov (LM A (va_up (va_up m 9 (tkA (r 3) L ((sk (r 3) L 0) + 1) 59 : Int)) 10 (cur (r 3) L (sk (r 3) L 0) - 48)) (va_up (va_up (va_up (va_up r 7 (va_up (cpF zF (r 7) i_15) i_15 0)) 8 (cpF zF (r 8) 13)) 9 (cpF zF (r 9) 13)) 10 (va_up (r 10) 0 0))) h) rfl rfl rfl (rfl) ?_
          have hD : zND (LM A (va_up (va_up m 9 (tkA (r 3) L ((sk (r 3) L 0) + 1) 59 : Int)) 10 (cur (r 3) L (sk (r 3) L 0) - 48)) (va_up (va_up (va_up (va_up r 7 (va_up (cpF zF (r 7) i_15) i_15 0)) 8 (cpF zF (r 8) 13)) 9 (cpF zF (r 9) 13)) 10 (va_up (r 10) 0 0))) := hD
          refine Zn.seg (pc2 := 93) (ls2 := [some (za (A 0)), some (zi ((i_15 : Int) + 1)), j_16, j_17]) (st2 := []) [(105, .iinc 1 1), (108, .goto (-15))] (by decide +kernel) rfl ?_
          exact Zn.eq rfl (zcons rfl (zcons (congrArg (fun z => some (zi z)) (by omega)) rfl)) rfl (by rw [cpF_st (f := zF) (by rfl)]) (ih_19 j_16 j_17)
        · skip
          have hA1 := tk_le (T := r 3) (L := L) (a := (sk (r 3) L 0) + 1) (c := 59) hT (by omega) (by decide)
          refine Zn.seg (pc2 := 95) (ls2 := [some (za (A 0)), some (zi (3 : Int)), j_16, j_17]) (st2 := [zi 3, zi (3 : Int)]) [(93, .iload_n 1), (94, .iconst 3)] (by decide +kernel) rfl ?_
          refine Zn.icmp (c := .ge) (off := 16) 111 (by decide +kernel) rfl ⟨by omega, by omega⟩ ⟨by decide, by decide⟩ (fun c_21 => ?_) (fun c_21 => absurd (show 3 ≤ (3 : Int) from by decide) c_21)
          have c_21 : 3 ≤ (3 : Int) := c_21
          refine Zn.seg (pc2 := 115) (ls2 := [some (za (A 0)), some (zi 0), some (zi 1), j_17]) (st2 := []) [(111, .iconst 0), (112, .istore_n 1), (113, .iconst 1), (114, .istore_n 2)] (by decide +kernel) rfl ?_
          refine Zn.mono (sp_X8_readsAll_B (m := (va_up (va_up m 9 (tkA (r 3) L ((sk (r 3) L 0) + 1) 59 : Int)) 10 (cur (r 3) L (sk (r 3) L 0) - 48))) (r := (va_up (va_up (va_up (va_up r 7 (cpF zF (r 7) 3)) 8 (cpF zF (r 8) 13)) 9 (cpF zF (r 9) 13)) 10 (va_up (r 10) 0 0))) (L := L) (a := (tkA (r 3) L ((sk (r 3) L 0) + 1) 59)) (dg := (cur (r 3) L (sk (r 3) L 0) - 48).toNat) (zov_all hD) hD (by first | rfl | exact hm5) hL9 (by rfl) hA1.2 hT (kz_b _) (by show (cur (r 3) L (sk (r 3) L 0) - 48) = _; omega) (by omega) (by rfl)) (fun v h2 hp => ?_)
          obtain ⟨e1_, x7_, x8_, x9_, x10_, hv_, hq_, hf_⟩ := hp
          have hv2 : v = some (zi (bbV (r 3) L (cur (r 3) L (sk (r 3) L 0) - 48).toNat (tkA (r 3) L ((sk (r 3) L 0) + 1) 59) (cpF zF (r 7) 3) (cpF zF (r 8) 13) (cpF zF (r 9) 13))) := hv_
          have hf2 : bbV (r 3) L (cur (r 3) L (sk (r 3) L 0) - 48).toNat (tkA (r 3) L ((sk (r 3) L 0) + 1) 59) (cpF zF (r 7) 3) (cpF zF (r 8) 13) (cpF zF (r 9) 13) = 1 → x7_ = (bnR (r 3) (cpF zF (r 9) 13) L 3 (tkA (r 3) L ((sk (r 3) L 0) + 1) 59) (cpF zF (r 7) 3) 0).2.2 ∧ x8_ = (ptR (r 3) L (cur (r 3) L (sk (r 3) L 0) - 48).toNat 8 (bnR (r 3) (cpF zF (r 9) 13) L 3 (tkA (r 3) L ((sk (r 3) L 0) + 1) 59) (cpF zF (r 7) 3) 0).2.1 (cpF zF (r 8) 13) (cpF zF (r 9) 13) 0).2.2.1 ∧ x9_ = (ptR (r 3) L (cur (r 3) L (sk (r 3) L 0) - 48).toNat 8 (bnR (r 3) (cpF zF (r 9) 13) L 3 (tkA (r 3) L ((sk (r 3) L 0) + 1) 59) (cpF zF (r 7) 3) 0).2.1 (cpF zF (r 8) 13) (cpF zF (r 9) 13) 0).2.2.2.1 := hf_
          exact ⟨(cur (r 3) L (sk (r 3) L 0) - 48), e1_, x7_, x8_, x9_, x10_, (by rw [hv2, txV, if_neg (by omega), if_neg (by omega)]), (by rw [txA, if_neg (by omega), if_neg (by omega)]; exact hq_.trans ((LM_over _ _ _ _ _ _).trans rfl)), (by rw [txV, if_neg (by omega), if_neg (by omega)]; exact fun q_ => ⟨by omega, hf2 q_⟩)⟩
      · have c_14 : ¬ (tkV ((r 3)) L ((sk (r 3) L 0) + 1) 59 ≠ 0) := c_14
        refine Zn.seg (pc2 := 90) (ls2 := [some (za (A 0)), some (zi (13 : Int)), j_2, j_3]) (st2 := [zi 0]) [(89, .iconst 0)] (by decide +kernel) rfl ?_
        exact Zn.bret (by decide +kernel) rfl (by first | decide | omega) (⟨(cur (r 3) L (sk (r 3) L 0) - 48), (m 14), (r 7), (cpF zF (r 8) 13), (cpF zF (r 9) 13), (va_up (r 10) 0 0), (by refine congrArg some (congrArg zi ?_); rw [txV, if_neg (by omega), if_pos (by omega)]), (by rw [txA, if_neg (by omega), if_pos (by omega)]; congr 2 <;> (funext k_; simp only [va_up]; (repeat' split) <;> first | rfl | (exfalso; omega) | (subst_vars; rfl))), (by rw [txV, if_neg (by omega), if_pos (by omega)]; exact fun q_ => absurd q_ (by decide))⟩)
    · have c_11 : ¬ (inB 48 51 (cur ((r 3)) L (sk ((r 3)) L 0)) ≠ 0) := c_11
      refine Zn.seg (pc2 := 58) (ls2 := [some (za (A 0)), some (zi (13 : Int)), j_2, j_3]) (st2 := [zi 0]) [(57, .iconst 0)] (by decide +kernel) rfl ?_
      exact Zn.bret (by decide +kernel) rfl (by first | decide | omega) (⟨(m 10), (m 14), (r 7), (cpF zF (r 8) 13), (cpF zF (r 9) 13), (va_up (r 10) 0 0), (by refine congrArg some (congrArg zi ?_); rw [txV, if_pos (by omega)]), (by rw [txA, if_pos (by omega)]; congr 2 <;> (funext k_; simp only [va_up]; (repeat' split) <;> first | rfl | (exfalso; omega) | (subst_vars; rfl))), (by rw [txV, if_pos (by omega)]; exact fun q_ => absurd q_ (by decide))⟩)
