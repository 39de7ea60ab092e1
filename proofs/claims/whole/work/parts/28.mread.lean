/-! the reference's text -/
theorem Zn.mono {I : xI} {rt : Option FieldType} {pc : Nat} {ls : zLs} {st : List zV} {h : xH} {P P2 : Option zV → xH → Prop} (k : Zn I rt pc ls st h P) (hq : ∀ v h2, P v h2 → P2 v h2) : Zn I rt pc ls st h P2 := Rn.mono k fun _ _ ⟨v, a, b⟩ => ⟨v, a, hq v _ b⟩
theorem sk_i {T : Nat → Int} {L a b : Nat} (h : b ≤ sk T L a ∧ sk T L a ≤ L ∧ ¬ (sk T L a < L ∧ T (sk T L a) = 32)) : sk T L (sk T L a) = sk T L a := sk_n h.2.2
/-- how many are fixed, behind a point that is read -/
def rpG (T K : Nat → Int) (L a dg f : Nat) : Nat := if rpS T K L a dg f = 7 then f + 1 else f
theorem rpG_i (T K : Nat → Int) (L a dg f : Nat) : rpF T K L a dg f (f : Int) = (rpG T K L a dg f : Int) := by
  unfold rpF rpG
  split <;> rfl
theorem rpV_c (T K : Nat → Int) (L a dg f : Nat) : (rpV T K L a dg f = 1 ∧ 6 ≤ rpS T K L a dg f) ∨ (rpV T K L a dg f = 0 ∧ ¬ 6 ≤ rpS T K L a dg f) := by
  unfold rpV
  split
  · exact Or.inl ⟨rfl, by assumption⟩
  · exact Or.inr ⟨rfl, by assumption⟩
theorem rp_c {T K : Nat → Int} {L a dg f : Nat} (hT : ∀ j, j < L → 32 ≤ T j ∧ T j ≤ 126) (h : a ≤ L) : a ≤ rpA T K L a dg f ∧ rpA T K L a dg f ≤ L ∧ (0 ≤ rpV T K L a dg f ∧ rpV T K L a dg f ≤ 1) ∧ f ≤ rpG T K L a dg f ∧ rpG T K L a dg f ≤ f + 1 := by
  have h1 : a ≤ p1A T K L a ∧ p1A T K L a ≤ L := rd_le hT h
  have h2 : p1A T K L a ≤ p2A T K L a ∧ p2A T K L a ≤ L := tk_le hT h1.2 (by decide)
  have h3 : p2A T K L a ≤ p3A T K L a ∧ p3A T K L a ≤ L := rd_le hT h2.2
  have h4 : p3A T K L a ≤ p4A T K L a ∧ p4A T K L a ≤ L := tk_le hT h3.2 (by decide)
  have h5 : p4A T K L a ≤ p5A T K L a ∧ p5A T K L a ≤ L ∧ _ := sk_r h4.2
  have h6 := cur_b hT (p5A T K L a)
  have h7 : rpS T K L a dg f = 7 → cur T L (p5A T K L a) = 33 := fun q => by
    unfold rpS at q
    (repeat' split at q) <;> first | assumption | (exfalso; omega)
  have h8 := rpV_c T K L a dg f
  have h9 : f ≤ rpG T K L a dg f ∧ rpG T K L a dg f ≤ f + 1 := by
    unfold rpG
    split <;> omega
  have h10 : a ≤ rpA T K L a dg f ∧ rpA T K L a dg f ≤ L := by
    unfold rpA
    (repeat' split) <;> omega
  exact ⟨h10.1, h10.2, by omega, h9.1, h9.2⟩
theorem va_2 {Z : Nat → Int} {k : Nat} {v : Int} (h : ∀ p, p < 13 → 0 ≤ Z p ∧ Z p ≤ 2) (hv : 0 ≤ v ∧ v ≤ 2) : ∀ p, p < 13 → 0 ≤ va_up Z k v p ∧ va_up Z k v p ≤ 2 := fun p hp => by
  by_cases e : p = k
  · rw [e, va_up_s]
    exact hv
  · rw [va_up_n e]
    exact h p hp
theorem rpK_b2 {T K : Nat → Int} {L a dg f : Nat} {Z : Nat → Int} (h : ∀ p, p < 13 → 0 ≤ Z p ∧ Z p ≤ 2) : ∀ p, p < 13 → 0 ≤ rpK T K L a dg f Z p ∧ rpK T K L a dg f Z p ≤ 2 := by
  unfold rpK
  split
  · exact h
  · split
    · exact va_2 (va_2 h (by decide)) (by decide)
    · exact va_2 h (by decide)
/-- points, as many as there may be: whether it ends there, where, what is told -/
def ptR (T : Nat → Int) (L dg : Nat) : Nat → Nat → (Nat → Int) → (Nat → Int) → Nat → Int × Nat × (Nat → Int) × (Nat → Int) × Nat
  | 0, a, Y, K, f => (if cur T L (sk T L a) = 0 then 1 else 0, sk T L a, Y, K, f)
  | n + 1, a, Y, K, f => if cur T L (sk T L a) = 40 then (if rpV T K L (sk T L a + 1) dg f = 0 then (0, rpA T K L (sk T L a + 1) dg f, Y, K, f) else ptR T L dg n (rpA T K L (sk T L a + 1) dg f) (rpY T K L (sk T L a + 1) dg f Y) (rpK T K L (sk T L a + 1) dg f K) (rpG T K L (sk T L a + 1) dg f)) else (if cur T L (sk T L a) = 0 then 1 else 0, sk T L a, Y, K, f)
section
variable {T : Nat → Int} {L dg n a : Nat} {Y K : Nat → Int} {f : Nat}
theorem pt_e (h : n = 0 ∨ cur T L (sk T L a) ≠ 40) : ptR T L dg n a Y K f = (if cur T L (sk T L a) = 0 then 1 else 0, sk T L a, Y, K, f) := by
  cases n with
  | zero => rfl
  | succ n => rw [ptR, if_neg (by omega)]
theorem pt_f (h : n ≠ 0) (h1 : cur T L (sk T L a) = 40) (h2 : rpV T K L (sk T L a + 1) dg f = 0) : ptR T L dg n a Y K f = (0, rpA T K L (sk T L a + 1) dg f, Y, K, f) := by
  cases n with
  | zero => exact absurd rfl h
  | succ n => rw [ptR, if_pos h1, if_pos h2]
theorem pt_s (h : n ≠ 0) (h1 : cur T L (sk T L a) = 40) (h2 : rpV T K L (sk T L a + 1) dg f ≠ 0) : ptR T L dg n a Y K f = ptR T L dg (n - 1) (rpA T K L (sk T L a + 1) dg f) (rpY T K L (sk T L a + 1) dg f Y) (rpK T K L (sk T L a + 1) dg f K) (rpG T K L (sk T L a + 1) dg f) := by
  cases n with
  | zero => exact absurd rfl h
  | succ n => rw [ptR, if_pos h1, if_neg h2]; rfl
end
set_option maxHeartbeats 2000000 in
theorem sp_X8_readsAll_C {h : xH} {A : Nat → Nat} {m : Nat → Int} {r : Nat → Nat → Int} {L a dg : Nat} {j1 j2 : Option zV} (hL : ∀ q ∈ LM A m r, h q.1 = zcE q.2) (hD : zND (LM A m r)) (hm5 : m 5 = (L : Int)) (hL9 : L ≤ 90) (hm9 : m 9 = (a : Int)) (haL : a ≤ L) (hT : ∀ j, j < L → 32 ≤ r 3 j ∧ r 3 j ≤ 126) (hK : ∀ p, p < 13 → 0 ≤ r 9 p ∧ r 9 p ≤ 2) (hdg : m 10 = (dg : Int)) (hdg3 : dg ≤ 3) (hf0 : r 10 0 = 0) : Zn (8, xI_X8_readsAll, 4, 4, 94, 0, 0, false) (some .boolean) 181 [some (za (A 0)), j1, j2, some (zi 0)] [] h (fun v h2 => ∃ e1 : Int, ∃ x8 : Nat → Int, ∃ x9 : Nat → Int, ∃ x10 : Nat → Int, v = some (zi ((ptR (r 3) L dg 8 a (r 8) (r 9) 0).1)) ∧ h2 = zov (LM A (va_up (va_up m 9 ((ptR (r 3) L dg 8 a (r 8) (r 9) 0).2.1 : Int)) 14 e1) (va_up (va_up (va_up r 8 x8) 9 x9) 10 x10)) h ∧ ((ptR (r 3) L dg 8 a (r 8) (r 9) 0).1 = 1 → x8 = (ptR (r 3) L dg 8 a (r 8) (r 9) 0).2.2.1 ∧ x9 = (ptR (r 3) L dg 8 a (r 8) (r 9) 0).2.2.2.1)) := by
  have hh : h = zov (LM A m r) h := zov_self hL
  refine Zn.eq rfl rfl rfl hh ?_
  have hD : zND (LM A m r) := hD
  refine Zn.eq (pc2 := 181) (ls2 := [some (za (A 0)), j1, j2, some (zi (0 : Int))]) (st2 := []) (h2 := zov (LM A (va_up (va_up m 9 (a : Int)) 14 (m 14)) (va_up (va_up (va_up r 8 (r 8)) 9 (r 9)) 10 (r 10))) h) rfl rfl rfl (by rw [← hm9, va_self, va_self, va_self, va_self, va_self]) ?_
  have hD : zND (LM A (va_up (va_up m 9 (a : Int)) 14 (m 14)) (va_up (va_up (va_up r 8 (r 8)) 9 (r 9)) 10 (r 10))) := hD
  refine xloop (P := fun i_1 => ∀ (a_ : Nat), ∀ (f_ : Nat), ∀ (Y_ : Nat → Int), ∀ (K_ : Nat → Int), ∀ (F_ : Nat → Int), ∀ (c_ : Int), ∀ j_2 j_3 : Option zV, (a_ ≤ L ∧ i_1 ≤ 8 ∧ f_ ≤ i_1 ∧ F_ 0 = (f_ : Int) ∧ (∀ p, p < 13 → 0 ≤ K_ p ∧ K_ p ≤ 2) ∧ ptR (r 3) L dg 8 a (r 8) (r 9) 0 = ptR (r 3) L dg (8 - i_1) a_ Y_ K_ f_) → Zn (8, xI_X8_readsAll, 4, 4, 94, 0, 0, false) (some .boolean) 181 [some (za (A 0)), j_2, j_3, some (zi (i_1 : Int))] [] (zov (LM A (va_up (va_up m 9 (a_ : Int)) 14 c_) (va_up (va_up (va_up r 8 Y_) 9 K_) 10 F_)) h) _) (9) (fun i_1 hi_4 ih_5 a_ f_ Y_ K_ F_ c_ j_2 j_3 fa_6 => ?_) (fun a_ f_ Y_ K_ F_ c_ j_2 j_3 fa_6 => ?_) a 0 (r 8) (r 9) (r 10) (m 14) j1 j2 (⟨haL, by decide, Nat.le_refl 0, hf0, hK, rfl⟩)
  · have hi_ : i_1 < 9 := hi_4
    have hfa_ := fa_6
    have hsk := sk_r (T := r 3) hfa_.1
    have hcb := cur_b hT (sk (r 3) L a_)
    have hrp : cur (r 3) L (sk (r 3) L a_) = 40 → _ := fun q_ => rp_c (T := r 3) (K := K_) (L := L) (a := (sk (r 3) L a_) + 1) (dg := dg) (f := f_) hT (show (sk (r 3) L a_) + 1 ≤ L by omega)
    have hpe := pt_e (T := r 3) (L := L) (dg := dg) (n := 8 - i_1) (a := a_) (Y := Y_) (K := K_) (f := f_)
    have hpf := pt_f (T := r 3) (L := L) (dg := dg) (n := 8 - i_1) (a := a_) (Y := Y_) (K := K_) (f := f_)
    have hps := pt_s (T := r 3) (L := L) (dg := dg) (n := 8 - i_1) (a := a_) (Y := Y_) (K := K_) (f := f_)
    refine Zn.seg (pc2 := 182) (ls2 := [some (za (A 0)), j_2, j_3, some (zi (i_1 : Int))]) (st2 := [za (A 0)]) [(181, .aload_n 0)] (by decide +kernel) rfl ?_
    refine Zn.call (ins := .invokevirtual 145) [za (A 0)] [] (by decide +kernel) rfl rfl rfl ⟨rfl, rfl⟩ ⟨rfl, rfl, rfl⟩ rfl (zrecvV hD (p := 0) rfl rfl rfl) (sp_X8_letter (A := A) (m := va_up (va_up m 9 (a_ : Int)) 14 c_) (r := va_up (va_up (va_up r 8 Y_) 9 K_) 10 F_) (L := L) (a := a_) (zov_all hD) hD (by first | rfl | exact hm5) (hL9) (by first | rfl | exact hm9) (hfa_.1) (hT)) (fun v h2 hp => ?_)
    obtain ⟨rfl, hq_7⟩ := hp
    refine Zn.eq (pc2 := 185) (ls2 := [some (za (A 0)), j_2, j_3, some (zi (i_1 : Int))]) (st2 := [zi (cur ((r 3)) L (sk ((r 3)) L a_))]) (h2 := zov (LM A (va_up (va_up m 9 ((sk ((r 3)) L a_) : Int)) 14 c_) (va_up (va_up (va_up r 8 Y_) 9 K_) 10 F_)) h) rfl rfl rfl (hq_7.trans ((LM_over _ _ _ _ _ _).trans rfl)) ?_
    have hD : zND (LM A (va_up (va_up m 9 ((sk ((r 3)) L a_) : Int)) 14 c_) (va_up (va_up (va_up r 8 Y_) 9 K_) 10 F_)) := hD
    refine Zn.seg (pc2 := 187) (ls2 := [some (za (A 0)), j_2, j_3, some (zi (i_1 : Int))]) (st2 := [zi 40, zi (cur ((r 3)) L (sk ((r 3)) L a_))]) [(185, .bipush 40)] (by decide +kernel) rfl ?_
    refine Zn.icmp (c := .ne) (off := 38) 225 (by decide +kernel) rfl ⟨by omega, by omega⟩ ⟨by decide, by decide⟩ (fun c_8 => ?_) (fun c_8 => ?_)
    · have c_8 : cur ((r 3)) L (sk ((r 3)) L a_) ≠ 40 := c_8
      refine Zn.seg (pc2 := 226) (ls2 := [some (za (A 0)), j_2, j_3, some (zi (i_1 : Int))]) (st2 := [za (A 0)]) [(225, .aload_n 0)] (by decide +kernel) rfl ?_
      refine Zn.call (ins := .invokevirtual 145) [za (A 0)] [] (by decide +kernel) rfl rfl rfl ⟨rfl, rfl⟩ ⟨rfl, rfl, rfl⟩ rfl (zrecvV hD (p := 0) rfl rfl rfl) (sp_X8_letter (A := A) (m := va_up (va_up m 9 ((sk ((r 3)) L a_) : Int)) 14 c_) (r := va_up (va_up (va_up r 8 Y_) 9 K_) 10 F_) (L := L) (a := (sk (r 3) L a_)) (zov_all hD) hD (by first | rfl | exact hm5) (hL9) (by first | rfl | exact hm9) (hsk.2.1) (hT)) (fun v h2 hp => ?_)
      obtain ⟨rfl, hq_9⟩ := hp
      refine Zn.eq (pc2 := 229) (ls2 := [some (za (A 0)), j_2, j_3, some (zi (i_1 : Int))]) (st2 := [zi (cur ((r 3)) L (sk ((r 3)) L (sk (r 3) L a_)))]) (h2 := zov (LM A (va_up (va_up m 9 ((sk ((r 3)) L (sk (r 3) L a_)) : Int)) 14 c_) (va_up (va_up (va_up r 8 Y_) 9 K_) 10 F_)) h) rfl rfl rfl (hq_9.trans ((LM_over _ _ _ _ _ _).trans rfl)) ?_
      have hD : zND (LM A (va_up (va_up m 9 ((sk ((r 3)) L (sk (r 3) L a_)) : Int)) 14 c_) (va_up (va_up (va_up r 8 Y_) 9 K_) 10 F_)) := hD
      refine Zn.topi (y := cur (r 3) L (sk (r 3) L a_)) (by rw [sk_i hsk]) ?_
      refine Zn.ifc (c := .ne) (off := 7) 236 (by decide +kernel) rfl ⟨by omega, by omega⟩ (fun c_10 => ?_) (fun c_10 => ?_)
      · have c_10 : cur (r 3) L (sk (r 3) L a_) ≠ 0 := c_10
        refine Zn.seg (pc2 := 237) (ls2 := [some (za (A 0)), j_2, j_3, some (zi (i_1 : Int))]) (st2 := [zi 0]) [(236, .iconst 0)] (by decide +kernel) rfl ?_
        exact Zn.bret (by decide +kernel) rfl (by first | decide | omega) (⟨c_, Y_, K_, F_, (by refine congrArg some (congrArg zi ?_); rw [hfa_.2.2.2.2.2]; first | (rw [hpf (by omega) (by omega) (by omega)]; done) | (rw [hpe (by omega)]; first | (rw [if_pos (by omega)]; done) | (rw [if_neg (by omega)]; done))), (by rw [hfa_.2.2.2.2.2]; first | (rw [hpf (by omega) (by omega) (by omega)]; done) | (rw [hpe (by omega)]; rw [sk_i hsk]; done) | (rw [hpe (by omega)]; done)), (fun q_ => by rw [hfa_.2.2.2.2.2] at q_ ⊢; first | (exfalso; rw [hpf (by omega) (by omega) (by omega)] at q_; exact absurd (show (0 : Int) = 1 from q_) (by decide)) | (rw [hpe (by omega)]; exact ⟨rfl, rfl⟩))⟩)
      · have c_10 : ¬ (cur (r 3) L (sk (r 3) L a_) ≠ 0) := c_10
        refine Zn.seg (pc2 := 237) (ls2 := [some (za (A 0)), j_2, j_3, some (zi (i_1 : Int))]) (st2 := [zi 1]) [(232, .iconst 1), (233, .goto 4)] (by decide +kernel) rfl ?_
        exact Zn.bret (by decide +kernel) rfl (by first | decide | omega) (⟨c_, Y_, K_, F_, (by refine congrArg some (congrArg zi ?_); rw [hfa_.2.2.2.2.2]; first | (rw [hpf (by omega) (by omega) (by omega)]; done) | (rw [hpe (by omega)]; first | (rw [if_pos (by omega)]; done) | (rw [if_neg (by omega)]; done))), (by rw [hfa_.2.2.2.2.2]; first | (rw [hpf (by omega) (by omega) (by omega)]; done) | (rw [hpe (by omega)]; rw [sk_i hsk]; done) | (rw [hpe (by omega)]; done)), (fun q_ => by rw [hfa_.2.2.2.2.2] at q_ ⊢; first | (exfalso; rw [hpf (by omega) (by omega) (by omega)] at q_; exact absurd (show (0 : Int) = 1 from q_) (by decide)) | (rw [hpe (by omega)]; exact ⟨rfl, rfl⟩))⟩)
    · have c_8 : ¬ (cur ((r 3)) L (sk ((r 3)) L a_) ≠ 40) := c_8
      refine Zn.seg (pc2 := 193) (ls2 := [some (za (A 0)), j_2, j_3, some (zi (i_1 : Int))]) (st2 := [zi 8, zi (i_1 : Int)]) [(190, .iload_n 3), (191, .bipush 8)] (by decide +kernel) rfl ?_
      refine Zn.icmp (c := .ge) (off := 32) 225 (by decide +kernel) rfl ⟨by omega, by omega⟩ ⟨by decide, by decide⟩ (fun c_11 => ?_) (fun c_11 => ?_)
      · have c_11 : 8 ≤ (i_1 : Int) := c_11
        refine Zn.seg (pc2 := 226) (ls2 := [some (za (A 0)), j_2, j_3, some (zi (i_1 : Int))]) (st2 := [za (A 0)]) [(225, .aload_n 0)] (by decide +kernel) rfl ?_
        refine Zn.call (ins := .invokevirtual 145) [za (A 0)] [] (by decide +kernel) rfl rfl rfl ⟨rfl, rfl⟩ ⟨rfl, rfl, rfl⟩ rfl (zrecvV hD (p := 0) rfl rfl rfl) (sp_X8_letter (A := A) (m := va_up (va_up m 9 ((sk ((r 3)) L a_) : Int)) 14 c_) (r := va_up (va_up (va_up r 8 Y_) 9 K_) 10 F_) (L := L) (a := (sk (r 3) L a_)) (zov_all hD) hD (by first | rfl | exact hm5) (hL9) (by first | rfl | exact hm9) (hsk.2.1) (hT)) (fun v h2 hp => ?_)
        obtain ⟨rfl, hq_12⟩ := hp
        refine Zn.eq (pc2 := 229) (ls2 := [some (za (A 0)), j_2, j_3, some (zi (i_1 : Int))]) (st2 := [zi (cur ((r 3)) L (sk ((r 3)) L (sk (r 3) L a_)))]) (h2 := zov (LM A (va_up (va_up m 9 ((sk ((r 3)) L (sk (r 3) L a_)) : Int)) 14 c_) (va_up (va_up (va_up r 8 Y_) 9 K_) 10 F_)) h) rfl rfl rfl (hq_12.trans ((LM_over _ _ _ _ _ _).trans rfl)) ?_
        have hD : zND (LM A (va_up (va_up m 9 ((sk ((r 3)) L (sk (r 3) L a_)) : Int)) 14 c_) (va_up (va_up (va_up r 8 Y_) 9 K_) 10 F_)) := hD
        refine Zn.topi (y := cur (r 3) L (sk (r 3) L a_)) (by rw [sk_i hsk]) ?_
        refine Zn.ifc (c := .ne) (off := 7) 236 (by decide +kernel) rfl ⟨by omega, by omega⟩ (fun c_13 => ?_) (fun c_13 => ?_)
        · have c_13 : cur (r 3) L (sk (r 3) L a_) ≠ 0 := c_13
          refine Zn.seg (pc2 := 237) (ls2 := [some (za (A 0)), j_2, j_3, some (zi (i_1 : Int))]) (st2 := [zi 0]) [(236, .iconst 0)] (by decide +kernel) rfl ?_
          exact Zn.bret (by decide +kernel) rfl (by first | decide | omega) (⟨c_, Y_, K_, F_, (by refine congrArg some (congrArg zi ?_); rw [hfa_.2.2.2.2.2]; first | (rw [hpf (by omega) (by omega) (by omega)]; done) | (rw [hpe (by omega)]; first | (rw [if_pos (by omega)]; done) | (rw [if_neg (by omega)]; done))), (by rw [hfa_.2.2.2.2.2]; first | (rw [hpf (by omega) (by omega) (by omega)]; done) | (rw [hpe (by omega)]; rw [sk_i hsk]; done) | (rw [hpe (by omega)]; done)), (fun q_ => by rw [hfa_.2.2.2.2.2] at q_ ⊢; first | (exfalso; rw [hpf (by omega) (by omega) (by omega)] at q_; exact absurd (show (0 : Int) = 1 from q_) (by decide)) | (rw [hpe (by omega)]; exact ⟨rfl, rfl⟩))⟩)
        · have c_13 : ¬ (cur (r 3) L (sk (r 3) L a_) ≠ 0) := c_13
          refine Zn.seg (pc2 := 237) (ls2 := [some (za (A 0)), j_2, j_3, some (zi (i_1 : Int))]) (st2 := [zi 1]) [(232, .iconst 1), (233, .goto 4)] (by decide +kernel) rfl ?_
          exact Zn.bret (by decide +kernel) rfl (by first | decide | omega) (⟨c_, Y_, K_, F_, (by refine congrArg some (congrArg zi ?_); rw [hfa_.2.2.2.2.2]; first | (rw [hpf (by omega) (by omega) (by omega)]; done) | (rw [hpe (by omega)]; first | (rw [if_pos (by omega)]; done) | (rw [if_neg (by omega)]; done))), (by rw [hfa_.2.2.2.2.2]; first | (rw [hpf (by omega) (by omega) (by omega)]; done) | (rw [hpe (by omega)]; rw [sk_i hsk]; done) | (rw [hpe (by omega)]; done)), (fun q_ => by rw [hfa_.2.2.2.2.2] at q_ ⊢; first | (exfalso; rw [hpf (by omega) (by omega) (by omega)] at q_; exact absurd (show (0 : Int) = 1 from q_) (by decide)) | (rw [hpe (by omega)]; exact ⟨rfl, rfl⟩))⟩)
      · have c_11 : ¬ (8 ≤ (i_1 : Int)) := c_11
        refine Zn.seg (pc2 := 198) (ls2 := [some (za (A 0)), j_2, j_3, some (zi (i_1 : Int))]) (st2 := [za (A 0), za (A 0)]) [(196, .aload_n 0), (197, .dup)] (by decide +kernel) rfl ?_
        refine Zn.get (ix := 142) hD 0 (by decide +kernel) rfl rfl rfl ?_
        refine Zn.eq (st2 := [zi ((sk ((r 3)) L a_) : Int), za (A 0)]) rfl rfl rfl rfl ?_
        refine Zn.seg (pc2 := 203) (ls2 := [some (za (A 0)), j_2, j_3, some (zi (i_1 : Int))]) (st2 := [zi (((sk ((r 3)) L a_) : Int) + 1), za (A 0)]) [(201, .iconst 1), (202, .iadd)] (by decide +kernel) rfl ?_
        refine Zn.put (ix := 142) hD 0 (by decide +kernel) rfl rfl rfl rfl rfl ?_
        refine Zn.eq (h2 := zov (LM A (va_up (va_up m 9 (((sk ((r 3)) L a_) : Int) + 1)) 14 c_) (va_up (va_up (va_up r 8 Y_) 9 K_) 10 F_)) h) rfl rfl rfl rfl ?_
        have hD : zND (LM A (va_up (va_up m 9 (((sk ((r 3)) L a_) : Int) + 1)) 14 c_) (va_up (va_up (va_up r 8 Y_) 9 K_) 10 F_)) := hD
        refine Zn.seg (pc2 := 208) (ls2 := [some (za (A 0)), j_2, j_3, some (zi (i_1 : Int))]) (st2 := [za (A 0), za (A 0)]) [(206, .aload_n 0), (207, .aload_n 0)] (by decide +kernel) rfl ?_
        refine Zn.get (ix := 42) hD 0 (by decide +kernel) rfl rfl rfl ?_
        refine Zn.call (ins := .invokevirtual 171) [za (A 0), za (A 10)] [] (by decide +kernel) rfl rfl rfl ⟨rfl, rfl⟩ ⟨rfl, rfl, rfl⟩ rfl (zrecvV hD (p := 0) rfl rfl rfl) (sp_X8_readsPoint (A := A) (m := va_up (va_up m 9 (((sk ((r 3)) L a_) : Int) + 1)) 14 c_) (r := va_up (va_up (va_up r 8 Y_) 9 K_) 10 F_) (L := L) (a := ((sk (r 3) L a_) + 1)) (dg := dg) (f := f_) (zov_all hD) hD (by first | rfl | exact hm5) (hL9) (by rfl) (by omega) (hT) (hfa_.2.2.2.2.1) (by first | rfl | exact hdg) (hdg3) (hfa_.2.2.2.1) (by omega)) (fun v h2 hp => ?_)
        obtain ⟨n_, rfl, hq_14⟩ := hp
        refine Zn.eq (pc2 := 214) (ls2 := [some (za (A 0)), j_2, j_3, some (zi (i_1 : Int))]) (st2 := [zi (rpV ((r 3)) (K_) L ((sk (r 3) L a_) + 1) dg f_)]) (h2 := zov (LM A (va_up (va_up m 9 (rpA ((r 3)) (K_) L ((sk (r 3) L a_) + 1) dg f_ : Int)) 14 n_) (va_up (va_up (va_up r 8 (rpY ((r 3)) (K_) L ((sk (r 3) L a_) + 1) dg f_ (Y_))) 9 (rpK ((r 3)) (K_) L ((sk (r 3) L a_) + 1) dg f_ (K_))) 10 (va_up (F_) 0 (rpF ((r 3)) (K_) L ((sk (r 3) L a_) + 1) dg f_ (F_ 0))))) h) rfl rfl rfl (hq_14.trans ((LM_over _ _ _ _ _ _).trans rfl)) ?_
        have hD : zND (LM A (va_up (va_up m 9 (rpA ((r 3)) (K_) L ((sk (r 3) L a_) + 1) dg f_ : Int)) 14 n_) (va_up (va_up (va_up r 8 (rpY ((r 3)) (K_) L ((sk (r 3) L a_) + 1) dg f_ (Y_))) 9 (rpK ((r 3)) (K_) L ((sk (r 3) L a_) + 1) dg f_ (K_))) 10 (va_up (F_) 0 (rpF ((r 3)) (K_) L ((sk (r 3) L a_) + 1) dg f_ (F_ 0))))) := hD
        have hrp := hrp (by omega)
        refine Zn.ifc (c := .ne) (off := 5) 219 (by decide +kernel) rfl ⟨by omega, by omega⟩ (fun c_15 => ?_) (fun c_15 => ?_)
        · have c_15 : rpV ((r 3)) (K_) L ((sk (r 3) L a_) + 1) dg f_ ≠ 0 := c_15
          refine Zn.seg (pc2 := 181) (ls2 := [some (za (A 0)), j_2, (zkill j_3), some (zi ((i_1 : Int) + 1))]) (st2 := []) [(219, .iinc 3 1), (222, .goto (-41))] (by decide +kernel) rfl ?_
          exact Zn.eq rfl (zcons rfl (zcons rfl (zcons rfl (zcons (congrArg (fun z => some (zi z)) (by omega)) rfl)))) rfl (rfl) (ih_5 (rpA ((r 3)) (K_) L ((sk (r 3) L a_) + 1) dg f_) (rpG (r 3) K_ L (sk (r 3) L a_ + 1) dg f_) (rpY ((r 3)) (K_) L ((sk (r 3) L a_) + 1) dg f_ (Y_)) (rpK ((r 3)) (K_) L ((sk (r 3) L a_) + 1) dg f_ (K_)) (va_up (F_) 0 (rpF ((r 3)) (K_) L ((sk (r 3) L a_) + 1) dg f_ (F_ 0))) n_ j_2 (zkill j_3) (⟨hrp.2.1, by omega, by have := hrp.2.2.2; omega, by rw [va_up_s, hfa_.2.2.2.1, rpG_i], rpK_b2 hfa_.2.2.2.2.1, by rw [hfa_.2.2.2.2.2, hps (by omega) (by omega) (by omega), show 8 - (i_1 + 1) = 8 - i_1 - 1 from by omega]⟩))
        · have c_15 : ¬ (rpV ((r 3)) (K_) L ((sk (r 3) L a_) + 1) dg f_ ≠ 0) := c_15
          refine Zn.seg (pc2 := 218) (ls2 := [some (za (A 0)), j_2, j_3, some (zi (i_1 : Int))]) (st2 := [zi 0]) [(217, .iconst 0)] (by decide +kernel) rfl ?_
          exact Zn.bret (by decide +kernel) rfl (by first | decide | omega) (⟨n_, (rpY ((r 3)) (K_) L ((sk (r 3) L a_) + 1) dg f_ (Y_)), (rpK ((r 3)) (K_) L ((sk (r 3) L a_) + 1) dg f_ (K_)), (va_up (F_) 0 (rpF ((r 3)) (K_) L ((sk (r 3) L a_) + 1) dg f_ (F_ 0))), (by refine congrArg some (congrArg zi ?_); rw [hfa_.2.2.2.2.2]; first | (rw [hpf (by omega) (by omega) (by omega)]; done) | (rw [hpe (by omega)]; first | (rw [if_pos (by omega)]; done) | (rw [if_neg (by omega)]; done))), (by rw [hfa_.2.2.2.2.2]; first | (rw [hpf (by omega) (by omega) (by omega)]; done) | (rw [hpe (by omega)]; rw [sk_i hsk]; done) | (rw [hpe (by omega)]; done)), (fun q_ => by rw [hfa_.2.2.2.2.2] at q_ ⊢; first | (exfalso; rw [hpf (by omega) (by omega) (by omega)] at q_; exact absurd (show (0 : Int) = 1 from q_) (by decide)) | (rw [hpe (by omega)]; exact ⟨rfl, rfl⟩))⟩)
  · exact absurd (show False from by (have := fa_6.2.1; omega)) (fun q_ => q_)
