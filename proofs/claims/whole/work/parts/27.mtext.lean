/-! the reference's points on the tape -/
def p1A (T K : Nat → Int) (L a : Nat) : Nat := rdA T K L a (-6) 6 1
def p2A (T K : Nat → Int) (L a : Nat) : Nat := tkA T L (p1A T K L a) 44
def p3A (T K : Nat → Int) (L a : Nat) : Nat := rdA T K L (p2A T K L a) (-99) 99 0
def p4A (T K : Nat → Int) (L a : Nat) : Nat := tkA T L (p3A T K L a) 41
def p5A (T K : Nat → Int) (L a : Nat) : Nat := sk T L (p4A T K L a)
/-- how far a point is read: 1 .. 5 a fault, 6 a free one, 7 a fixed one -/
def rpS (T K : Nat → Int) (L a dg f : Nat) : Nat := if rdV T K L a (-6) 6 1 = 0 then 1 else if tkV T L (p1A T K L a) 44 = 0 then 2 else if rdV T K L (p2A T K L a) (-99) 99 0 = 0 then 3 else if tkV T L (p3A T K L a) 41 = 0 then 4 else if cur T L (p5A T K L a) = 33 then (if f = dg then 5 else 7) else 6
def rpX (T : Nat → Int) (L a : Nat) : Nat := min (nVV T L a + 6).toNat 12
theorem rpX_b (T : Nat → Int) (L a : Nat) : rpX T L a < 13 := by
  unfold rpX
  omega
theorem rpX_e {T : Nat → Int} {L a : Nat} {z : Int} (h : z = nVV T L a + 6) (h1 : -6 ≤ nVV T L a) (h2 : nVV T L a ≤ 6) : z = (rpX T L a : Int) := by
  unfold rpX
  omega
def rpV (T K : Nat → Int) (L a dg f : Nat) : Int := if 6 ≤ rpS T K L a dg f then 1 else 0
def rpA (T K : Nat → Int) (L a dg f : Nat) : Nat := if rpS T K L a dg f = 1 then p1A T K L a else if rpS T K L a dg f = 2 then p2A T K L a else if rpS T K L a dg f = 3 then p3A T K L a else if rpS T K L a dg f = 4 then p4A T K L a else if rpS T K L a dg f = 7 then p5A T K L a + 1 else p5A T K L a
def rpY (T K : Nat → Int) (L a dg f : Nat) (Y : Nat → Int) : Nat → Int := if rpS T K L a dg f < 5 then Y else va_up Y (rpX T L a) (nVV T L (p2A T K L a))
def rpK (T K : Nat → Int) (L a dg f : Nat) (Z : Nat → Int) : Nat → Int := if rpS T K L a dg f < 5 then Z else if rpS T K L a dg f = 7 then va_up (va_up Z (rpX T L a) 1) (rpX T L a) 2 else va_up Z (rpX T L a) 1
def rpF (T K : Nat → Int) (L a dg f : Nat) (z : Int) : Int := if rpS T K L a dg f = 7 then z + 1 else z
section
variable {T K : Nat → Int} {L a dg f : Nat}
theorem rpA_1 (h : rpS T K L a dg f = 1) : rpA T K L a dg f = p1A T K L a := by rw [rpA, if_pos h]
theorem rpA_2 (h : rpS T K L a dg f = 2) : rpA T K L a dg f = p2A T K L a := by rw [rpA, if_neg (by omega), if_pos h]
theorem rpA_3 (h : rpS T K L a dg f = 3) : rpA T K L a dg f = p3A T K L a := by rw [rpA, if_neg (by omega), if_neg (by omega), if_pos h]
theorem rpA_4 (h : rpS T K L a dg f = 4) : rpA T K L a dg f = p4A T K L a := by rw [rpA, if_neg (by omega), if_neg (by omega), if_neg (by omega), if_pos h]
theorem rpA_5 (h : rpS T K L a dg f = 5) : rpA T K L a dg f = p5A T K L a := by rw [rpA, if_neg (by omega), if_neg (by omega), if_neg (by omega), if_neg (by omega), if_neg (by omega)]
theorem rpA_6 (h : rpS T K L a dg f = 6) : rpA T K L a dg f = p5A T K L a := by rw [rpA, if_neg (by omega), if_neg (by omega), if_neg (by omega), if_neg (by omega), if_neg (by omega)]
theorem rpA_7 (h : rpS T K L a dg f = 7) : rpA T K L a dg f = p5A T K L a + 1 := by rw [rpA, if_neg (by omega), if_neg (by omega), if_neg (by omega), if_neg (by omega), if_pos h]
theorem rpY_a {k : Nat} {Y : Nat → Int} (h : rpS T K L a dg f = k) (hk : k < 5 := by decide) : rpY T K L a dg f Y = Y := by rw [rpY, if_pos (by omega)]
theorem rpY_b {k : Nat} {Y : Nat → Int} (h : rpS T K L a dg f = k) (hk : ¬ k < 5 := by decide) : rpY T K L a dg f Y = va_up Y (rpX T L a) (nVV T L (p2A T K L a)) := by rw [rpY, if_neg (by omega)]
theorem rpK_a {k : Nat} {Z : Nat → Int} (h : rpS T K L a dg f = k) (hk : k < 5 := by decide) : rpK T K L a dg f Z = Z := by rw [rpK, if_pos (by omega)]
theorem rpK_b {k : Nat} {Z : Nat → Int} (h : rpS T K L a dg f = k) (hk : ¬ k < 5 ∧ k ≠ 7 := by decide) : rpK T K L a dg f Z = va_up Z (rpX T L a) 1 := by rw [rpK, if_neg (by omega), if_neg (by omega)]
theorem rpK_c {Z : Nat → Int} (h : rpS T K L a dg f = 7) : rpK T K L a dg f Z = va_up (va_up Z (rpX T L a) 1) (rpX T L a) 2 := by rw [rpK, if_neg (by omega), if_pos h]
theorem rpF_a {k : Nat} {z : Int} (h : rpS T K L a dg f = k) (hk : k ≠ 7 := by decide) : rpF T K L a dg f z = z := by rw [rpF, if_neg (by omega)]
theorem rpF_b {z : Int} (h : rpS T K L a dg f = 7) : rpF T K L a dg f z = z + 1 := by rw [rpF, if_pos h]
end
set_option maxHeartbeats 2000000 in
theorem sp_X8_readsPoint {h : xH} {A : Nat → Nat} {m : Nat → Int} {r : Nat → Nat → Int} {L a dg f : Nat} (hL : ∀ q ∈ LM A m r, h q.1 = zcE q.2) (hD : zND (LM A m r)) (hm5 : m 5 = (L : Int)) (hL9 : L ≤ 90) (hm9 : m 9 = (a : Int)) (haL : a ≤ L) (hT : ∀ j, j < L → 32 ≤ r 3 j ∧ r 3 j ≤ 126) (hK : ∀ p, p < 13 → 0 ≤ r 9 p ∧ r 9 p ≤ 2) (hdg : m 10 = (dg : Int)) (hdg3 : dg ≤ 3) (hf : r 10 0 = (f : Int)) (hf9 : f ≤ 9) : zEv k_X8_readsPoint [za (A 0), za (A 10)] h (fun v h2 => ∃ e1 : Int, v = some (zi (rpV (r 3) (r 9) L a dg f)) ∧ h2 = zov (LM A (va_up (va_up m 9 (rpA (r 3) (r 9) L a dg f : Int)) 14 e1) (va_up (va_up (va_up r 8 (rpY (r 3) (r 9) L a dg f (r 8))) 9 (rpK (r 3) (r 9) L a dg f (r 9))) 10 (va_up (r 10) 0 (rpF (r 3) (r 9) L a dg f (r 10 0))))) h) := by
  have hh : h = zov (LM A m r) h := zov_self hL
  have hrA := rd_c (r 3) (r 9) L a (-6) 6 1 (m 14)
  have hpl1 := rd_le (T := r 3) (K := r 9) (x := -6) (y := 6) (e := 1) hT haL
  have htA := tk_c (r 3) L (p1A (r 3) (r 9) L a) 44
  have hpl2 := tk_le (T := r 3) (a := (p1A (r 3) (r 9) L a)) (c := 44) hT hpl1.2 (by decide)
  have hrB := rd_c (r 3) (r 9) L (p2A (r 3) (r 9) L a) (-99) 99 0 (rdN (r 3) L a (m 14))
  have hpl3 := rd_le (T := r 3) (K := r 9) (a := (p2A (r 3) (r 9) L a)) (x := -99) (y := 99) (e := 0) hT hpl2.2
  have htB := tk_c (r 3) L (p3A (r 3) (r 9) L a) 41
  have hpl4 := tk_le (T := r 3) (a := (p3A (r 3) (r 9) L a)) (c := 41) hT hpl3.2 (by decide)
  have hsk5 := sk_r (T := r 3) (a := (p4A (r 3) (r 9) L a)) hpl4.2
  have hcb5 := cur_b hT (p5A (r 3) (r 9) L a)
  have he1 : rdA (r 3) (r 9) L a (-6) 6 1 = (p1A (r 3) (r 9) L a) := rfl
  have he2 : tkA (r 3) L (p1A (r 3) (r 9) L a) 44 = (p2A (r 3) (r 9) L a) := rfl
  have he3 : rdA (r 3) (r 9) L (p2A (r 3) (r 9) L a) (-99) 99 0 = (p3A (r 3) (r 9) L a) := rfl
  have he4 : tkA (r 3) L (p3A (r 3) (r 9) L a) 41 = (p4A (r 3) (r 9) L a) := rfl
  have he5 : sk (r 3) L (p4A (r 3) (r 9) L a) = (p5A (r 3) (r 9) L a) := rfl
  refine zEv.body (I := (8, xI_X8_readsPoint, 3, 3, 72, 0, 0, false)) (rt := (some .boolean)) [some (za (A 0)), some (za (A 10)), none] rfl rfl rfl rfl ?_
  refine Zn.eq rfl rfl rfl hh ?_
  have hD : zND (LM A m r) := hD
  refine Zn.seg (pc2 := 6) (ls2 := [some (za (A 0)), some (za (A 10)), none]) (st2 := [zi 1, zi 6, zi (-6), za (A 0)]) [(0, .aload_n 0), (1, .bipush (-6)), (3, .bipush 6), (5, .iconst 1)] (by decide +kernel) rfl ?_
  refine Zn.call (ins := .invokevirtual 159) [za (A 0), zi (-6), zi 6, zi 1] [] (by decide +kernel) rfl rfl rfl ⟨rfl, rfl⟩ ⟨rfl, rfl, rfl⟩ rfl (zrecvV hD (p := 0) rfl rfl rfl) (sp_X8_reads (A := A) (m := m) (r := r) (x := (-6)) (y := 6) (e := 1) (L := L) (a := a) (zov_all hD) hD (by first | rfl | exact hm5) (hL9) (by first | rfl | exact hm9) (by first | assumption | omega) (hT) (by decide) (Or.inr ⟨rfl, by decide, by decide⟩) (hK)) (fun v h2 hp => ?_)
  obtain ⟨rfl, hq_1⟩ := hp
  refine Zn.eq (pc2 := 9) (ls2 := [some (za (A 0)), some (za (A 10)), none]) (st2 := [zi (rdV (r 3) (r 9) L a (-6) 6 1)]) (h2 := zov (LM A (va_up (va_up m 9 (rdA (r 3) (r 9) L a (-6) 6 1 : Int)) 14 (rdN (r 3) L a (m 14))) r) h) rfl rfl rfl (hq_1.trans (LM_over _ _ _ _ _ _)) ?_
  have hD : zND (LM A (va_up (va_up m 9 (rdA (r 3) (r 9) L a (-6) 6 1 : Int)) 14 (rdN (r 3) L a (m 14))) r) := hD
  refine Zn.eq (pc2 := 9) (ls2 := [some (za (A 0)), some (za (A 10)), none]) (st2 := [zi (rdV (r 3) (r 9) L a (-6) 6 1)]) (h2 := zov (LM A (va_up (va_up m 9 (p1A (r 3) (r 9) L a : Int)) 14 (rdN (r 3) L a (m 14))) r) h) rfl rfl rfl (rfl) ?_
  have hD : zND (LM A (va_up (va_up m 9 (p1A (r 3) (r 9) L a : Int)) 14 (rdN (r 3) L a (m 14))) r) := hD
  refine Zn.ifc (c := .ne) (off := 5) 14 (by decide +kernel) rfl ⟨by omega, by omega⟩ (fun c_2 => ?_) (fun c_2 => ?_)
  · have c_2 : rdV (r 3) (r 9) L a (-6) 6 1 ≠ 0 := c_2
    refine Zn.seg (pc2 := 15) (ls2 := [some (za (A 0)), some (za (A 10)), none]) (st2 := [za (A 0)]) [(14, .aload_n 0)] (by decide +kernel) rfl ?_
    refine Zn.get (ix := 156) hD 0 (by decide +kernel) rfl rfl rfl ?_
    refine Zn.eq (st2 := [zi (rdN (r 3) L a (m 14))]) rfl rfl rfl rfl ?_
    refine Zn.topi (y := nVV (r 3) L a) (by omega) ?_
    refine Zn.seg (pc2 := 22) (ls2 := [some (za (A 0)), some (za (A 10)), some (zi (nVV (r 3) L a))]) (st2 := [zi 44, za (A 0)]) [(18, .istore_n 2), (19, .aload_n 0), (20, .bipush 44)] (by decide +kernel) rfl ?_
    refine Zn.call (ins := .invokevirtual 163) [za (A 0), zi 44] [] (by decide +kernel) rfl rfl rfl ⟨rfl, rfl⟩ ⟨rfl, rfl, rfl⟩ rfl (zrecvV hD (p := 0) rfl rfl rfl) (sp_X8_takes (A := A) (m := va_up (va_up m 9 (p1A (r 3) (r 9) L a : Int)) 14 (rdN (r 3) L a (m 14))) (r := r) (x := 44) (L := L) (a := (p1A (r 3) (r 9) L a)) (zov_all hD) hD (by first | rfl | exact hm5) (hL9) (by first | rfl | exact hm9) (hpl1.2) (hT) (by decide)) (fun v h2 hp => ?_)
    obtain ⟨rfl, hq_3⟩ := hp
    refine Zn.eq (pc2 := 25) (ls2 := [some (za (A 0)), some (za (A 10)), some (zi (nVV (r 3) L a))]) (st2 := [zi (tkV (r 3) L (p1A (r 3) (r 9) L a) 44)]) (h2 := zov (LM A (va_up (va_up m 9 (tkA (r 3) L (p1A (r 3) (r 9) L a) 44 : Int)) 14 (rdN (r 3) L a (m 14))) r) h) rfl rfl rfl (hq_3.trans ((LM_over _ _ _ _ _ _).trans rfl)) ?_
    have hD : zND (LM A (va_up (va_up m 9 (tkA (r 3) L (p1A (r 3) (r 9) L a) 44 : Int)) 14 (rdN (r 3) L a (m 14))) r) := hD
    refine Zn.eq (pc2 := 25) (ls2 := [some (za (A 0)), some (za (A 10)), some (zi (nVV (r 3) L a))]) (st2 := [zi (tkV (r 3) L (p1A (r 3) (r 9) L a) 44)]) (h2 := zov (LM A (va_up (va_up m 9 (p2A (r 3) (r 9) L a : Int)) 14 (rdN (r 3) L a (m 14))) r) h) rfl rfl rfl (rfl) ?_
    have hD : zND (LM A (va_up (va_up m 9 (p2A (r 3) (r 9) L a : Int)) 14 (rdN (r 3) L a (m 14))) r) := hD
    refine Zn.ifc (c := .eq) (off := 24) 49 (by decide +kernel) rfl ⟨by omega, by omega⟩ (fun c_4 => ?_) (fun c_4 => ?_)
    · have c_4 : tkV (r 3) L (p1A (r 3) (r 9) L a) 44 = 0 := c_4
      refine Zn.seg (pc2 := 50) (ls2 := [some (za (A 0)), some (za (A 10)), some (zi (nVV (r 3) L a))]) (st2 := [zi 0]) [(49, .iconst 0)] (by decide +kernel) rfl ?_
      exact Zn.bret (by decide +kernel) rfl (by first | decide | omega) (by first | (exfalso; omega) | (exact ⟨(rdN (r 3) L a (m 14)), (by refine congrArg some (congrArg zi ?_); have hs_ : rpS (r 3) (r 9) L a dg f = 2 := (by rw [rpS, if_neg (by omega), if_pos (by omega)]); rw [rpV, hs_]; rfl), (by have hs_ : rpS (r 3) (r 9) L a dg f = 2 := (by rw [rpS, if_neg (by omega), if_pos (by omega)]); rw [rpA_2 hs_, rpY_a hs_, rpK_a hs_, rpF_a hs_]; simp only [va_self])⟩) | (exact ⟨(rdN (r 3) L a (m 14)), (by refine congrArg some (congrArg zi ?_); have hs_ : rpS (r 3) (r 9) L a dg f = 3 := (by rw [rpS, if_neg (by omega), if_neg (by omega), if_pos (by omega)]); rw [rpV, hs_]; rfl), (by have hs_ : rpS (r 3) (r 9) L a dg f = 3 := (by rw [rpS, if_neg (by omega), if_neg (by omega), if_pos (by omega)]); rw [rpA_3 hs_, rpY_a hs_, rpK_a hs_, rpF_a hs_]; simp only [va_self])⟩) | (exact ⟨(rdN (r 3) L a (m 14)), (by refine congrArg some (congrArg zi ?_); have hs_ : rpS (r 3) (r 9) L a dg f = 4 := (by rw [rpS, if_neg (by omega), if_neg (by omega), if_neg (by omega), if_pos (by omega)]); rw [rpV, hs_]; rfl), (by have hs_ : rpS (r 3) (r 9) L a dg f = 4 := (by rw [rpS, if_neg (by omega), if_neg (by omega), if_neg (by omega), if_pos (by omega)]); rw [rpA_4 hs_, rpY_a hs_, rpK_a hs_, rpF_a hs_]; simp only [va_self])⟩))
    · have c_4 : ¬ (tkV (r 3) L (p1A (r 3) (r 9) L a) 44 = 0) := c_4
      refine Zn.seg (pc2 := 34) (ls2 := [some (za (A 0)), some (za (A 10)), some (zi (nVV (r 3) L a))]) (st2 := [zi 0, zi 99, zi (-99), za (A 0)]) [(28, .aload_n 0), (29, .bipush (-99)), (31, .bipush 99), (33, .iconst 0)] (by decide +kernel) rfl ?_
      refine Zn.call (ins := .invokevirtual 159) [za (A 0), zi (-99), zi 99, zi 0] [] (by decide +kernel) rfl rfl rfl ⟨rfl, rfl⟩ ⟨rfl, rfl, rfl⟩ rfl (zrecvV hD (p := 0) rfl rfl rfl) (sp_X8_reads (A := A) (m := va_up (va_up m 9 (p2A (r 3) (r 9) L a : Int)) 14 (rdN (r 3) L a (m 14))) (r := r) (x := (-99)) (y := 99) (e := 0) (L := L) (a := (p2A (r 3) (r 9) L a)) (zov_all hD) hD (by first | rfl | exact hm5) (hL9) (by first | rfl | exact hm9) (hpl2.2) (hT) (by decide) (Or.inl rfl) (hK)) (fun v h2 hp => ?_)
      obtain ⟨rfl, hq_5⟩ := hp
      refine Zn.eq (pc2 := 37) (ls2 := [some (za (A 0)), some (za (A 10)), some (zi (nVV (r 3) L a))]) (st2 := [zi (rdV (r 3) (r 9) L (p2A (r 3) (r 9) L a) (-99) 99 0)]) (h2 := zov (LM A (va_up (va_up m 9 (rdA (r 3) (r 9) L (p2A (r 3) (r 9) L a) (-99) 99 0 : Int)) 14 (rdN (r 3) L (p2A (r 3) (r 9) L a) ((rdN (r 3) L a (m 14))))) r) h) rfl rfl rfl (hq_5.trans ((LM_over _ _ _ _ _ _).trans rfl)) ?_
      have hD : zND (LM A (va_up (va_up m 9 (rdA (r 3) (r 9) L (p2A (r 3) (r 9) L a) (-99) 99 0 : Int)) 14 (rdN (r 3) L (p2A (r 3) (r 9) L a) ((rdN (r 3) L a (m 14))))) r) := hD
      refine Zn.eq (pc2 := 37) (ls2 := [some (za (A 0)), some (za (A 10)), some (zi (nVV (r 3) L a))]) (st2 := [zi (rdV (r 3) (r 9) L (p2A (r 3) (r 9) L a) (-99) 99 0)]) (h2 := zov (LM A (va_up (va_up m 9 (p3A (r 3) (r 9) L a : Int)) 14 (rdN (r 3) L (p2A (r 3) (r 9) L a) (rdN (r 3) L a (m 14)))) r) h) rfl rfl rfl (rfl) ?_
      have hD : zND (LM A (va_up (va_up m 9 (p3A (r 3) (r 9) L a : Int)) 14 (rdN (r 3) L (p2A (r 3) (r 9) L a) (rdN (r 3) L a (m 14)))) r) := hD
      refine Zn.ifc (c := .eq) (off := 12) 49 (by decide +kernel) rfl ⟨by omega, by omega⟩ (fun c_6 => ?_) (fun c_6 => ?_)
      · have c_6 : rdV (r 3) (r 9) L (p2A (r 3) (r 9) L a) (-99) 99 0 = 0 := c_6
        refine Zn.seg (pc2 := 50) (ls2 := [some (za (A 0)), some (za (A 10)), some (zi (nVV (r 3) L a))]) (st2 := [zi 0]) [(49, .iconst 0)] (by decide +kernel) rfl ?_
        exact Zn.bret (by decide +kernel) rfl (by first | decide | omega) (by first | (exfalso; omega) | (exact ⟨(rdN (r 3) L (p2A (r 3) (r 9) L a) (rdN (r 3) L a (m 14))), (by refine congrArg some (congrArg zi ?_); have hs_ : rpS (r 3) (r 9) L a dg f = 2 := (by rw [rpS, if_neg (by omega), if_pos (by omega)]); rw [rpV, hs_]; rfl), (by have hs_ : rpS (r 3) (r 9) L a dg f = 2 := (by rw [rpS, if_neg (by omega), if_pos (by omega)]); rw [rpA_2 hs_, rpY_a hs_, rpK_a hs_, rpF_a hs_]; simp only [va_self])⟩) | (exact ⟨(rdN (r 3) L (p2A (r 3) (r 9) L a) (rdN (r 3) L a (m 14))), (by refine congrArg some (congrArg zi ?_); have hs_ : rpS (r 3) (r 9) L a dg f = 3 := (by rw [rpS, if_neg (by omega), if_neg (by omega), if_pos (by omega)]); rw [rpV, hs_]; rfl), (by have hs_ : rpS (r 3) (r 9) L a dg f = 3 := (by rw [rpS, if_neg (by omega), if_neg (by omega), if_pos (by omega)]); rw [rpA_3 hs_, rpY_a hs_, rpK_a hs_, rpF_a hs_]; simp only [va_self])⟩) | (exact ⟨(rdN (r 3) L (p2A (r 3) (r 9) L a) (rdN (r 3) L a (m 14))), (by refine congrArg some (congrArg zi ?_); have hs_ : rpS (r 3) (r 9) L a dg f = 4 := (by rw [rpS, if_neg (by omega), if_neg (by omega), if_neg (by omega), if_pos (by omega)]); rw [rpV, hs_]; rfl), (by have hs_ : rpS (r 3) (r 9) L a dg f = 4 := (by rw [rpS, if_neg (by omega), if_neg (by omega), if_neg (by omega), if_pos (by omega)]); rw [rpA_4 hs_, rpY_a hs_, rpK_a hs_, rpF_a hs_]; simp only [va_self])⟩))
      · have c_6 : ¬ (rdV (r 3) (r 9) L (p2A (r 3) (r 9) L a) (-99) 99 0 = 0) := c_6
        refine Zn.seg (pc2 := 43) (ls2 := [some (za (A 0)), some (za (A 10)), some (zi (nVV (r 3) L a))]) (st2 := [zi 41, za (A 0)]) [(40, .aload_n 0), (41, .bipush 41)] (by decide +kernel) rfl ?_
        refine Zn.call (ins := .invokevirtual 163) [za (A 0), zi 41] [] (by decide +kernel) rfl rfl rfl ⟨rfl, rfl⟩ ⟨rfl, rfl, rfl⟩ rfl (zrecvV hD (p := 0) rfl rfl rfl) (sp_X8_takes (A := A) (m := va_up (va_up m 9 (p3A (r 3) (r 9) L a : Int)) 14 (rdN (r 3) L (p2A (r 3) (r 9) L a) (rdN (r 3) L a (m 14)))) (r := r) (x := 41) (L := L) (a := (p3A (r 3) (r 9) L a)) (zov_all hD) hD (by first | rfl | exact hm5) (hL9) (by first | rfl | exact hm9) (hpl3.2) (hT) (by decide)) (fun v h2 hp => ?_)
        obtain ⟨rfl, hq_7⟩ := hp
        refine Zn.eq (pc2 := 46) (ls2 := [some (za (A 0)), some (za (A 10)), some (zi (nVV (r 3) L a))]) (st2 := [zi (tkV (r 3) L (p3A (r 3) (r 9) L a) 41)]) (h2 := zov (LM A (va_up (va_up m 9 (tkA (r 3) L (p3A (r 3) (r 9) L a) 41 : Int)) 14 (rdN (r 3) L (p2A (r 3) (r 9) L a) (rdN (r 3) L a (m 14)))) r) h) rfl rfl rfl (hq_7.trans ((LM_over _ _ _ _ _ _).trans rfl)) ?_
        have hD : zND (LM A (va_up (va_up m 9 (tkA (r 3) L (p3A (r 3) (r 9) L a) 41 : Int)) 14 (rdN (r 3) L (p2A (r 3) (r 9) L a) (rdN (r 3) L a (m 14)))) r) := hD
        refine Zn.eq (pc2 := 46) (ls2 := [some (za (A 0)), some (za (A 10)), some (zi (nVV (r 3) L a))]) (st2 := [zi (tkV (r 3) L (p3A (r 3) (r 9) L a) 41)]) (h2 := zov (LM A (va_up (va_up m 9 (p4A (r 3) (r 9) L a : Int)) 14 (rdN (r 3) L (p2A (r 3) (r 9) L a) (rdN (r 3) L a (m 14)))) r) h) rfl rfl rfl (rfl) ?_
        have hD : zND (LM A (va_up (va_up m 9 (p4A (r 3) (r 9) L a : Int)) 14 (rdN (r 3) L (p2A (r 3) (r 9) L a) (rdN (r 3) L a (m 14)))) r) := hD
        refine Zn.ifc (c := .ne) (off := 5) 51 (by decide +kernel) rfl ⟨by omega, by omega⟩ (fun c_8 => ?_) (fun c_8 => ?_)
        · have c_8 : tkV (r 3) L (p3A (r 3) (r 9) L a) 41 ≠ 0 := c_8
          refine Zn.seg (pc2 := 52) (ls2 := [some (za (A 0)), some (za (A 10)), some (zi (nVV (r 3) L a))]) (st2 := [za (A 0)]) [(51, .aload_n 0)] (by decide +kernel) rfl ?_
          refine Zn.get (ix := 36) hD 0 (by decide +kernel) rfl rfl rfl ?_
          refine Zn.seg (pc2 := 60) (ls2 := [some (za (A 0)), some (za (A 10)), some (zi (nVV (r 3) L a))]) (st2 := [za (A 0), zi (nVV (r 3) L a + 6), za (A 8)]) [(55, .iload_n 2), (56, .bipush 6), (58, .iadd), (59, .aload_n 0)] (by decide +kernel) rfl ?_
          refine Zn.get (ix := 156) hD 0 (by decide +kernel) rfl rfl rfl ?_
          refine Zn.eq (st2 := [zi (rdN (r 3) L (p2A (r 3) (r 9) L a) (rdN (r 3) L a (m 14))), zi (nVV (r 3) L a + 6), za (A 8)]) rfl rfl rfl rfl ?_
          refine Zn.topi (y := nVV (r 3) L (p2A (r 3) (r 9) L a)) (by omega) ?_
          refine Zn.iast hD 8 ((rpX (r 3) L a)) (by decide +kernel) rfl (rpX_e (by omega) (by omega) (by omega)) (by have := rpX_b (r 3) L a; omega) rfl ?_
          refine Zn.eq (h2 := zov (LM A (va_up (va_up m 9 (p4A (r 3) (r 9) L a : Int)) 14 (rdN (r 3) L (p2A (r 3) (r 9) L a) (rdN (r 3) L a (m 14)))) (va_up r 8 (va_up (r 8) (rpX (r 3) L a) (nVV (r 3) L (p2A (r 3) (r 9) L a))))) h) rfl rfl rfl (rfl) ?_
          have hD : zND (LM A (va_up (va_up m 9 (p4A (r 3) (r 9) L a : Int)) 14 (rdN (r 3) L (p2A (r 3) (r 9) L a) (rdN (r 3) L a (m 14)))) (va_up r 8 (va_up (r 8) (rpX (r 3) L a) (nVV (r 3) L (p2A (r 3) (r 9) L a))))) := hD
          refine Zn.seg (pc2 := 65) (ls2 := [some (za (A 0)), some (za (A 10)), some (zi (nVV (r 3) L a))]) (st2 := [za (A 0)]) [(64, .aload_n 0)] (by decide +kernel) rfl ?_
          refine Zn.get (ix := 39) hD 0 (by decide +kernel) rfl rfl rfl ?_
          refine Zn.seg (pc2 := 73) (ls2 := [some (za (A 0)), some (za (A 10)), some (zi (nVV (r 3) L a))]) (st2 := [zi 1, zi (nVV (r 3) L a + 6), za (A 9)]) [(68, .iload_n 2), (69, .bipush 6), (71, .iadd), (72, .iconst 1)] (by decide +kernel) rfl ?_
          refine Zn.iast hD 9 ((rpX (r 3) L a)) (by decide +kernel) rfl (rpX_e (by omega) (by omega) (by omega)) (by have := rpX_b (r 3) L a; omega) rfl ?_
          refine Zn.eq (h2 := zov (LM A (va_up (va_up m 9 (p4A (r 3) (r 9) L a : Int)) 14 (rdN (r 3) L (p2A (r 3) (r 9) L a) (rdN (r 3) L a (m 14)))) (va_up (va_up r 8 (va_up (r 8) (rpX (r 3) L a) (nVV (r 3) L (p2A (r 3) (r 9) L a)))) 9 (va_up (r 9) (rpX (r 3) L a) 1))) h) rfl rfl rfl (rfl) ?_
          have hD : zND (LM A (va_up (va_up m 9 (p4A (r 3) (r 9) L a : Int)) 14 (rdN (r 3) L (p2A (r 3) (r 9) L a) (rdN (r 3) L a (m 14)))) (va_up (va_up r 8 (va_up (r 8) (rpX (r 3) L a) (nVV (r 3) L (p2A (r 3) (r 9) L a)))) 9 (va_up (r 9) (rpX (r 3) L a) 1))) := hD
          refine Zn.seg (pc2 := 75) (ls2 := [some (za (A 0)), some (za (A 10)), some (zi (nVV (r 3) L a))]) (st2 := [za (A 0)]) [(74, .aload_n 0)] (by decide +kernel) rfl ?_
          refine Zn.call (ins := .invokevirtual 145) [za (A 0)] [] (by decide +kernel) rfl rfl rfl ⟨rfl, rfl⟩ ⟨rfl, rfl, rfl⟩ rfl (zrecvV hD (p := 0) rfl rfl rfl) (sp_X8_letter (A := A) (m := va_up (va_up m 9 (p4A (r 3) (r 9) L a : Int)) 14 (rdN (r 3) L (p2A (r 3) (r 9) L a) (rdN (r 3) L a (m 14)))) (r := va_up (va_up r 8 (va_up (r 8) (rpX (r 3) L a) (nVV (r 3) L (p2A (r 3) (r 9) L a)))) 9 (va_up (r 9) (rpX (r 3) L a) 1)) (L := L) (a := (p4A (r 3) (r 9) L a)) (zov_all hD) hD (by first | rfl | exact hm5) (hL9) (by first | rfl | exact hm9) (hpl4.2) (hT)) (fun v h2 hp => ?_)
          obtain ⟨rfl, hq_9⟩ := hp
          refine Zn.eq (pc2 := 78) (ls2 := [some (za (A 0)), some (za (A 10)), some (zi (nVV (r 3) L a))]) (st2 := [zi (cur ((r 3)) L (sk ((r 3)) L (p4A (r 3) (r 9) L a)))]) (h2 := zov (LM A (va_up (va_up m 9 ((sk ((r 3)) L (p4A (r 3) (r 9) L a)) : Int)) 14 (rdN (r 3) L (p2A (r 3) (r 9) L a) (rdN (r 3) L a (m 14)))) (va_up (va_up r 8 (va_up (r 8) (rpX (r 3) L a) (nVV (r 3) L (p2A (r 3) (r 9) L a)))) 9 (va_up (r 9) (rpX (r 3) L a) 1))) h) rfl rfl rfl (hq_9.trans ((LM_over _ _ _ _ _ _).trans rfl)) ?_
          have hD : zND (LM A (va_up (va_up m 9 ((sk ((r 3)) L (p4A (r 3) (r 9) L a)) : Int)) 14 (rdN (r 3) L (p2A (r 3) (r 9) L a) (rdN (r 3) L a (m 14)))) (va_up (va_up r 8 (va_up (r 8) (rpX (r 3) L a) (nVV (r 3) L (p2A (r 3) (r 9) L a)))) 9 (va_up (r 9) (rpX (r 3) L a) 1))) := hD
          refine Zn.topi (y := cur (r 3) L (p5A (r 3) (r 9) L a)) (rfl) ?_
          refine Zn.eq (pc2 := 78) (ls2 := [some (za (A 0)), some (za (A 10)), some (zi (nVV (r 3) L a))]) (st2 := [zi (cur (r 3) L (p5A (r 3) (r 9) L a))]) (h2 := zov (LM A (va_up (va_up m 9 (p5A (r 3) (r 9) L a : Int)) 14 (rdN (r 3) L (p2A (r 3) (r 9) L a) (rdN (r 3) L a (m 14)))) (va_up (va_up r 8 (va_up (r 8) (rpX (r 3) L a) (nVV (r 3) L (p2A (r 3) (r 9) L a)))) 9 (va_up (r 9) (rpX (r 3) L a) 1))) h) rfl rfl rfl (rfl) ?_
          have hD : zND (LM A (va_up (va_up m 9 (p5A (r 3) (r 9) L a : Int)) 14 (rdN (r 3) L (p2A (r 3) (r 9) L a) (rdN (r 3) L a (m 14)))) (va_up (va_up r 8 (va_up (r 8) (rpX (r 3) L a) (nVV (r 3) L (p2A (r 3) (r 9) L a)))) 9 (va_up (r 9) (rpX (r 3) L a) 1))) := hD
          refine Zn.seg (pc2 := 80) (ls2 := [some (za (A 0)), some (za (A 10)), some (zi (nVV (r 3) L a))]) (st2 := [zi 33, zi (cur (r 3) L (p5A (r 3) (r 9) L a))]) [(78, .bipush 33)] (by decide +kernel) rfl ?_
          refine Zn.icmp (c := .ne) (off := 42) 122 (by decide +kernel) rfl ⟨by omega, by omega⟩ ⟨by decide, by decide⟩ (fun c_10 => ?_) (fun c_10 => ?_)
          · have c_10 : cur (r 3) L (p5A (r 3) (r 9) L a) ≠ 33 := c_10
            refine Zn.seg (pc2 := 123) (ls2 := [some (za (A 0)), some (za (A 10)), some (zi (nVV (r 3) L a))]) (st2 := [zi 1]) [(122, .iconst 1)] (by decide +kernel) rfl ?_
            exact Zn.bret (by decide +kernel) rfl (by first | decide | omega) (by first | (exfalso; omega) | (exact ⟨(rdN (r 3) L (p2A (r 3) (r 9) L a) (rdN (r 3) L a (m 14))), (by refine congrArg some (congrArg zi ?_); have hs_ : rpS (r 3) (r 9) L a dg f = 7 := (by rw [rpS, if_neg (by omega), if_neg (by omega), if_neg (by omega), if_neg (by omega), if_pos (by omega), if_neg (by omega)]); rw [rpV, hs_]; rfl), (by have hs_ : rpS (r 3) (r 9) L a dg f = 7 := (by rw [rpS, if_neg (by omega), if_neg (by omega), if_neg (by omega), if_neg (by omega), if_pos (by omega), if_neg (by omega)]); rw [rpA_7 hs_, rpY_b hs_, rpK_c hs_, rpF_b hs_, hf]; rfl)⟩) | (exact ⟨(rdN (r 3) L (p2A (r 3) (r 9) L a) (rdN (r 3) L a (m 14))), (by refine congrArg some (congrArg zi ?_); have hs_ : rpS (r 3) (r 9) L a dg f = 6 := (by rw [rpS, if_neg (by omega), if_neg (by omega), if_neg (by omega), if_neg (by omega), if_neg (by omega)]); rw [rpV, hs_]; rfl), (by have hs_ : rpS (r 3) (r 9) L a dg f = 6 := (by rw [rpS, if_neg (by omega), if_neg (by omega), if_neg (by omega), if_neg (by omega), if_neg (by omega)]); rw [rpA_6 hs_, rpY_b hs_, rpK_b hs_, rpF_a hs_]; rw [va_self (r 10) 0, va_eta (v := r 10) _ 10 (by rfl)])⟩))
          · have c_10 : ¬ (cur (r 3) L (p5A (r 3) (r 9) L a) ≠ 33) := c_10
            refine Zn.seg (pc2 := 85) (ls2 := [some (za (A 0)), some (za (A 10)), some (zi (nVV (r 3) L a))]) (st2 := [zi 0, za (A 10)]) [(83, .aload_n 1), (84, .iconst 0)] (by decide +kernel) rfl ?_
            refine Zn.iald hD 10 (0) (by decide +kernel) rfl (rfl) (by decide) rfl ?_
            refine Zn.eq (st2 := [zi ((r 10) 0)]) rfl rfl rfl rfl ?_
            refine Zn.topi (y := (f : Int)) (hf) ?_
            refine Zn.seg (pc2 := 87) (ls2 := [some (za (A 0)), some (za (A 10)), some (zi (nVV (r 3) L a))]) (st2 := [za (A 0), zi (f : Int)]) [(86, .aload_n 0)] (by decide +kernel) rfl ?_
            refine Zn.get (ix := 166) hD 0 (by decide +kernel) rfl rfl rfl ?_
            refine Zn.eq (st2 := [zi (m 10), zi (f : Int)]) rfl rfl rfl rfl ?_
            refine Zn.topi (y := (dg : Int)) (hdg) ?_
            refine Zn.icmp (c := .ne) (off := 5) 95 (by decide +kernel) rfl ⟨by omega, by omega⟩ ⟨by omega, by omega⟩ (fun c_11 => ?_) (fun c_11 => ?_)
            · have c_11 : (f : Int) ≠ (dg : Int) := c_11
              refine Zn.seg (pc2 := 97) (ls2 := [some (za (A 0)), some (za (A 10)), some (zi (nVV (r 3) L a))]) (st2 := [za (A 0), za (A 0)]) [(95, .aload_n 0), (96, .dup)] (by decide +kernel) rfl ?_
              refine Zn.get (ix := 142) hD 0 (by decide +kernel) rfl rfl rfl ?_
              refine Zn.eq (st2 := [zi (p5A (r 3) (r 9) L a : Int), za (A 0)]) rfl rfl rfl rfl ?_
              refine Zn.seg (pc2 := 102) (ls2 := [some (za (A 0)), some (za (A 10)), some (zi (nVV (r 3) L a))]) (st2 := [zi ((p5A (r 3) (r 9) L a : Int) + 1), za (A 0)]) [(100, .iconst 1), (101, .iadd)] (by decide +kernel) rfl ?_
              refine Zn.put (ix := 142) hD 0 (by decide +kernel) rfl rfl rfl rfl rfl ?_
              refine Zn.eq (h2 := zov (LM A (va_up (va_up m 9 ((p5A (r 3) (r 9) L a : Int) + 1)) 14 (rdN (r 3) L (p2A (r 3) (r 9) L a) (rdN (r 3) L a (m 14)))) (va_up (va_up r 8 (va_up (r 8) (rpX (r 3) L a) (nVV (r 3) L (p2A (r 3) (r 9) L a)))) 9 (va_up (r 9) (rpX (r 3) L a) 1))) h) rfl rfl rfl rfl ?_
              have hD : zND (LM A (va_up (va_up m 9 ((p5A (r 3) (r 9) L a : Int) + 1)) 14 (rdN (r 3) L (p2A (r 3) (r 9) L a) (rdN (r 3) L a (m 14)))) (va_up (va_up r 8 (va_up (r 8) (rpX (r 3) L a) (nVV (r 3) L (p2A (r 3) (r 9) L a)))) 9 (va_up (r 9) (rpX (r 3) L a) 1))) := hD
              refine Zn.seg (pc2 := 108) (ls2 := [some (za (A 0)), some (za (A 10)), some (zi (nVV (r 3) L a))]) (st2 := [zi 0, za (A 10), zi 0, za (A 10)]) [(105, .aload_n 1), (106, .iconst 0), (107, .dup2)] (by decide +kernel) rfl ?_
              refine Zn.iald hD 10 (0) (by decide +kernel) rfl (rfl) (by decide) rfl ?_
              refine Zn.eq (st2 := [zi ((r 10) 0), zi 0, za (A 10)]) rfl rfl rfl rfl ?_
              refine Zn.topi (y := (f : Int)) (hf) ?_
              refine Zn.seg (pc2 := 111) (ls2 := [some (za (A 0)), some (za (A 10)), some (zi (nVV (r 3) L a))]) (st2 := [zi ((f : Int) + 1), zi 0, za (A 10)]) [(109, .iconst 1), (110, .iadd)] (by decide +kernel) rfl ?_
              refine Zn.iast hD 10 (0) (by decide +kernel) rfl (rfl) (by decide) rfl ?_
              refine Zn.eq (h2 := zov (LM A (va_up (va_up m 9 ((p5A (r 3) (r 9) L a : Int) + 1)) 14 (rdN (r 3) L (p2A (r 3) (r 9) L a) (rdN (r 3) L a (m 14)))) (va_up (va_up (va_up r 8 (va_up (r 8) (rpX (r 3) L a) (nVV (r 3) L (p2A (r 3) (r 9) L a)))) 9 (va_up (r 9) (rpX (r 3) L a) 1)) 10 (va_up (r 10) 0 ((f : Int) + 1)))) h) rfl rfl rfl (rfl) ?_
              have hD : zND (LM A (va_up (va_up m 9 ((p5A (r 3) (r 9) L a : Int) + 1)) 14 (rdN (r 3) L (p2A (r 3) (r 9) L a) (rdN (r 3) L a (m 14)))) (va_up (va_up (va_up r 8 (va_up (r 8) (rpX (r 3) L a) (nVV (r 3) L (p2A (r 3) (r 9) L a)))) 9 (va_up (r 9) (rpX (r 3) L a) 1)) 10 (va_up (r 10) 0 ((f : Int) + 1)))) := hD
              refine Zn.seg (pc2 := 113) (ls2 := [some (za (A 0)), some (za (A 10)), some (zi (nVV (r 3) L a))]) (st2 := [za (A 0)]) [(112, .aload_n 0)] (by decide +kernel) rfl ?_
              refine Zn.get (ix := 39) hD 0 (by decide +kernel) rfl rfl rfl ?_
              refine Zn.seg (pc2 := 121) (ls2 := [some (za (A 0)), some (za (A 10)), some (zi (nVV (r 3) L a))]) (st2 := [zi 2, zi (nVV (r 3) L a + 6), za (A 9)]) [(116, .iload_n 2), (117, .bipush 6), (119, .iadd), (120, .iconst 2)] (by decide +kernel) rfl ?_
              refine Zn.iast hD 9 ((rpX (r 3) L a)) (by decide +kernel) rfl (rpX_e (by omega) (by omega) (by omega)) (by have := rpX_b (r 3) L a; omega) rfl ?_
              refine Zn.eq (h2 := zov (LM A (va_up (va_up m 9 ((p5A (r 3) (r 9) L a : Int) + 1)) 14 (rdN (r 3) L (p2A (r 3) (r 9) L a) (rdN (r 3) L a (m 14)))) (va_up (va_up (va_up r 8 (va_up (r 8) (rpX (r 3) L a) (nVV (r 3) L (p2A (r 3) (r 9) L a)))) 9 (va_up (va_up (r 9) (rpX (r 3) L a) 1) (rpX (r 3) L a) 2)) 10 (va_up (r 10) 0 ((f : Int) + 1)))) h) rfl rfl rfl (rfl) ?_
              have hD : zND (LM A (va_up (va_up m 9 ((p5A (r 3) (r 9) L a : Int) + 1)) 14 (rdN (r 3) L (p2A (r 3) (r 9) L a) (rdN (r 3) L a (m 14)))) (va_up (va_up (va_up r 8 (va_up (r 8) (rpX (r 3) L a) (nVV (r 3) L (p2A (r 3) (r 9) L a)))) 9 (va_up (va_up (r 9) (rpX (r 3) L a) 1) (rpX (r 3) L a) 2)) 10 (va_up (r 10) 0 ((f : Int) + 1)))) := hD
              refine Zn.seg (pc2 := 123) (ls2 := [some (za (A 0)), some (za (A 10)), some (zi (nVV (r 3) L a))]) (st2 := [zi 1]) [(122, .iconst 1)] (by decide +kernel) rfl ?_
              exact Zn.bret (by decide +kernel) rfl (by first | decide | omega) (by first | (exfalso; omega) | (exact ⟨(rdN (r 3) L (p2A (r 3) (r 9) L a) (rdN (r 3) L a (m 14))), (by refine congrArg some (congrArg zi ?_); have hs_ : rpS (r 3) (r 9) L a dg f = 7 := (by rw [rpS, if_neg (by omega), if_neg (by omega), if_neg (by omega), if_neg (by omega), if_pos (by omega), if_neg (by omega)]); rw [rpV, hs_]; rfl), (by have hs_ : rpS (r 3) (r 9) L a dg f = 7 := (by rw [rpS, if_neg (by omega), if_neg (by omega), if_neg (by omega), if_neg (by omega), if_pos (by omega), if_neg (by omega)]); rw [rpA_7 hs_, rpY_b hs_, rpK_c hs_, rpF_b hs_, hf]; rfl)⟩) | (exact ⟨(rdN (r 3) L (p2A (r 3) (r 9) L a) (rdN (r 3) L a (m 14))), (by refine congrArg some (congrArg zi ?_); have hs_ : rpS (r 3) (r 9) L a dg f = 6 := (by rw [rpS, if_neg (by omega), if_neg (by omega), if_neg (by omega), if_neg (by omega), if_neg (by omega)]); rw [rpV, hs_]; rfl), (by have hs_ : rpS (r 3) (r 9) L a dg f = 6 := (by rw [rpS, if_neg (by omega), if_neg (by omega), if_neg (by omega), if_neg (by omega), if_neg (by omega)]); rw [rpA_6 hs_, rpY_b hs_, rpK_b hs_, rpF_a hs_]; rw [va_self (r 10) 0, va_eta (v := r 10) _ 10 (by rfl)])⟩))
            · have c_11 : ¬ ((f : Int) ≠ (dg : Int)) := c_11
              refine Zn.seg (pc2 := 94) (ls2 := [some (za (A 0)), some (za (A 10)), some (zi (nVV (r 3) L a))]) (st2 := [zi 0]) [(93, .iconst 0)] (by decide +kernel) rfl ?_
              exact Zn.bret (by decide +kernel) rfl (by first | decide | omega) (by first | (exfalso; omega) | (exact ⟨(rdN (r 3) L (p2A (r 3) (r 9) L a) (rdN (r 3) L a (m 14))), (by refine congrArg some (congrArg zi ?_); have hs_ : rpS (r 3) (r 9) L a dg f = 5 := (by rw [rpS, if_neg (by omega), if_neg (by omega), if_neg (by omega), if_neg (by omega), if_pos (by omega), if_pos (by omega)]); rw [rpV, hs_]; rfl), (by have hs_ : rpS (r 3) (r 9) L a dg f = 5 := (by rw [rpS, if_neg (by omega), if_neg (by omega), if_neg (by omega), if_neg (by omega), if_pos (by omega), if_pos (by omega)]); rw [rpA_5 hs_, rpY_b hs_, rpK_b hs_, rpF_a hs_]; rw [va_self (r 10) 0, va_eta (v := r 10) _ 10 (by rfl)])⟩))
        · have c_8 : ¬ (tkV (r 3) L (p3A (r 3) (r 9) L a) 41 ≠ 0) := c_8
          refine Zn.seg (pc2 := 50) (ls2 := [some (za (A 0)), some (za (A 10)), some (zi (nVV (r 3) L a))]) (st2 := [zi 0]) [(49, .iconst 0)] (by decide +kernel) rfl ?_
          exact Zn.bret (by decide +kernel) rfl (by first | decide | omega) (by first | (exfalso; omega) | (exact ⟨(rdN (r 3) L (p2A (r 3) (r 9) L a) (rdN (r 3) L a (m 14))), (by refine congrArg some (congrArg zi ?_); have hs_ : rpS (r 3) (r 9) L a dg f = 2 := (by rw [rpS, if_neg (by omega), if_pos (by omega)]); rw [rpV, hs_]; rfl), (by have hs_ : rpS (r 3) (r 9) L a dg f = 2 := (by rw [rpS, if_neg (by omega), if_pos (by omega)]); rw [rpA_2 hs_, rpY_a hs_, rpK_a hs_, rpF_a hs_]; simp only [va_self])⟩) | (exact ⟨(rdN (r 3) L (p2A (r 3) (r 9) L a) (rdN (r 3) L a (m 14))), (by refine congrArg some (congrArg zi ?_); have hs_ : rpS (r 3) (r 9) L a dg f = 3 := (by rw [rpS, if_neg (by omega), if_neg (by omega), if_pos (by omega)]); rw [rpV, hs_]; rfl), (by have hs_ : rpS (r 3) (r 9) L a dg f = 3 := (by rw [rpS, if_neg (by omega), if_neg (by omega), if_pos (by omega)]); rw [rpA_3 hs_, rpY_a hs_, rpK_a hs_, rpF_a hs_]; simp only [va_self])⟩) | (exact ⟨(rdN (r 3) L (p2A (r 3) (r 9) L a) (rdN (r 3) L a (m 14))), (by refine congrArg some (congrArg zi ?_); have hs_ : rpS (r 3) (r 9) L a dg f = 4 := (by rw [rpS, if_neg (by omega), if_neg (by omega), if_neg (by omega), if_pos (by omega)]); rw [rpV, hs_]; rfl), (by have hs_ : rpS (r 3) (r 9) L a dg f = 4 := (by rw [rpS, if_neg (by omega), if_neg (by omega), if_neg (by omega), if_pos (by omega)]); rw [rpA_4 hs_, rpY_a hs_, rpK_a hs_, rpF_a hs_]; simp only [va_self])⟩))
  · have c_2 : ¬ (rdV (r 3) (r 9) L a (-6) 6 1 ≠ 0) := c_2
    refine Zn.seg (pc2 := 13) (ls2 := [some (za (A 0)), some (za (A 10)), none]) (st2 := [zi 0]) [(12, .iconst 0)] (by decide +kernel) rfl ?_
    exact Zn.bret (by decide +kernel) rfl (by first | decide | omega) (by first | (exfalso; omega) | (exact ⟨(rdN (r 3) L a (m 14)), (by refine congrArg some (congrArg zi ?_); have hs_ : rpS (r 3) (r 9) L a dg f = 1 := (by rw [rpS, if_pos (by omega)]); rw [rpV, hs_]; rfl), (by have hs_ : rpS (r 3) (r 9) L a dg f = 1 := (by rw [rpS, if_pos (by omega)]); rw [rpA_1 hs_, rpY_a hs_, rpK_a hs_, rpF_a hs_]; simp only [va_self])⟩))
