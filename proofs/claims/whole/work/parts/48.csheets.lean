/-! EvenErrors: sheets -/
def fmC (la : Int) (th : Nat) (Y it : Nat → Int) (b : Nat) : Nat → Nat → Int
  | 0 => it
  | k + 1 => if bt th k = 1 then va_up (va_up (fmC la th Y it b k) (b + 2 * popN th k) (castV la ((k : Int) - 6))) (b + 2 * popN th k + 1) (castV la (Y k)) else fmC la th Y it b k
theorem popN_up (th : Nat) {a : Nat} : ∀ {c : Nat}, a ≤ c → popN th a ≤ popN th c
  | 0, h => by rw [Nat.le_zero.mp h]; exact Nat.le_refl _
  | c + 1, h => by
    by_cases e : a = c + 1
    · rw [e]; exact Nat.le_refl _
    · have := popN_up th (a := a) (c := c) (by omega)
      rw [popN]
      omega
theorem popN_lt13 {th k : Nat} (h : k < 13) : popN th k + bt th k ≤ pop th := popN_up th (a := k + 1) (c := 13) (by omega)
theorem sp_X7_film_bad {h : xH} {A : Nat → Nat} {s l i : Int} (zs : zInI s) (zl : zInI l) (hb : ¬ (0 ≤ s ∧ s ≤ 3) ∨ ¬ (0 ≤ l ∧ l ≤ 3)) : zEv k_X7_film [za (A 0), zi s, zi l, zi i] h (fun v h2 => v = some (zi (-1)) ∧ h2 = h) := by
  have hD : ([] : List Nat).Nodup := List.nodup_nil
  have hh : h = zov [] h := zov_self (fun _ q => absurd q List.not_mem_nil)
  have zs1 := zs.1
  have zs2 := zs.2
  have zl1 := zl.1
  have zl2 := zl.2
  refine zEv.body (I := (7, xI_X7_film, 9, 2, 45, 0, 0, false)) (rt := (some .int)) [some (za (A 0)), some (zi s), some (zi l), some (zi i), none, none, none, none, none] rfl rfl rfl rfl ?_
  refine Zn.eq rfl rfl rfl hh ?_
  have hD : zND ([]) := hD
  refine Zn.seg (pc2 := 1) (ls2 := [some (za (A 0)), some (zi s), some (zi l), some (zi i), none, none, none, none, none]) (st2 := [zi s]) [(0, .iload_n 1)] (by decide +kernel) rfl ?_
  refine Zn.call (ins := .invokestatic 294) [zi s] [] (by decide +kernel) rfl rfl rfl ⟨rfl, rfl⟩ ⟨rfl, rfl, rfl⟩ rfl (zrecvS (by decide)) (sp_X7_isSheet (x := s) (by first | assumption | exact ⟨by omega, by omega⟩)) (fun v h2 hp => ?_)
  obtain ⟨rfl, hq_1⟩ := hp
  refine Zn.eq (pc2 := 4) (ls2 := [some (za (A 0)), some (zi s), some (zi l), some (zi i), none, none, none, none, none]) (st2 := [zi (inB (0) 3 s)]) (h2 := zov ([]) h) rfl rfl rfl hq_1 ?_
  have hD : zND ([]) := hD
  have q_2 := inB_spec (0) 3 s
  refine Zn.ifc (c := .eq) (off := 10) 14 (by decide +kernel) rfl ⟨by omega, by omega⟩ (fun c_3 => ?_) (fun c_3 => ?_)
  · have c_3 : inB (0) 3 s = 0 := c_3
    refine Zn.seg (pc2 := 15) (ls2 := [some (za (A 0)), some (zi s), some (zi l), some (zi i), none, none, none, none, none]) (st2 := [zi (-1)]) [(14, .iconst (-1))] (by decide +kernel) rfl ?_
    exact Zn.iret (by decide +kernel) rfl (⟨by first | rfl | (refine congrArg some (congrArg zi ?_); first | omega | (simp_all; done) | (simp_all; omega)), hh.symm⟩)
  · have c_3 : ¬ (inB (0) 3 s = 0) := c_3
    refine Zn.seg (pc2 := 8) (ls2 := [some (za (A 0)), some (zi s), some (zi l), some (zi i), none, none, none, none, none]) (st2 := [zi l]) [(7, .iload_n 2)] (by decide +kernel) rfl ?_
    refine Zn.call (ins := .invokestatic 297) [zi l] [] (by decide +kernel) rfl rfl rfl ⟨rfl, rfl⟩ ⟨rfl, rfl, rfl⟩ rfl (zrecvS (by decide)) (sp_X7_isLane (x := l) (by first | assumption | exact ⟨by omega, by omega⟩)) (fun v h2 hp => ?_)
    obtain ⟨rfl, hq_4⟩ := hp
    refine Zn.eq (pc2 := 11) (ls2 := [some (za (A 0)), some (zi s), some (zi l), some (zi i), none, none, none, none, none]) (st2 := [zi (inB (0) 3 l)]) (h2 := zov ([]) h) rfl rfl rfl hq_4 ?_
    have hD : zND ([]) := hD
    have q_5 := inB_spec (0) 3 l
    refine Zn.ifc (c := .ne) (off := 5) 16 (by decide +kernel) rfl ⟨by omega, by omega⟩ (fun c_6 => absurd (show inB (0) 3 l ≠ 0 from c_6) (by omega)) (fun c_6 => ?_)
    have c_6 : ¬ (inB (0) 3 l ≠ 0) := c_6
    refine Zn.seg (pc2 := 15) (ls2 := [some (za (A 0)), some (zi s), some (zi l), some (zi i), none, none, none, none, none]) (st2 := [zi (-1)]) [(14, .iconst (-1))] (by decide +kernel) rfl ?_
    exact Zn.iret (by decide +kernel) rfl (⟨by first | rfl | (refine congrArg some (congrArg zi ?_); first | omega | (simp_all; done) | (simp_all; omega)), hh.symm⟩)
theorem sp_X7_film_ref {h : xH} {A : Nat → Nat} {th fx d w : Nat} {kt he la sz : Int} {so si s : Nat} {f : Nat → Option Nat} {l i : Int} (hc0 : h (A 0) = zcE (.inr (7, [za (A 1), za (A 4), za (A 24), za (A 27), zi kt, za (A 47), za (A 49), za (A 52), za (A 63), za (A 68), za (A 72)]))) (hc1 : h (A 1) = zcE (.inr (4, [za (A 2), za (A 3), zi (th : Int), zi (fx : Int), zi (d : Int), zi (w : Int)]))) (hc2 : h (A 72) = zcE (.inl (3, 4, .inr f))) (hc3 : h so = zcE (.inr (5, [za si, zi he, zi la, zi sz]))) (hD : [(A 0), (A 1), (A 72), so].Nodup) (hs4 : s < 4) (hf : f s = some so) (hhe : he = 0 ∨ he = 1) (hla : 0 ≤ la ∧ la ≤ 3) (hsz : 0 ≤ sz ∧ sz ≤ 24) (hl : 0 ≤ l ∧ l ≤ 3) (zi_ : zInI i) (hth : th < 8192) (hb : rfV he la sz l i (2 * (pop th : Int)) ≠ 0) : zEv k_X7_film [za (A 0), zi (s : Int), zi l, zi i] h (fun v h2 => v = some (zi (rfV he la sz l i (2 * (pop th : Int)))) ∧ h2 = h) := by
  have hh : h = zov [((A 0), .inr (7, [za (A 1), za (A 4), za (A 24), za (A 27), zi kt, za (A 47), za (A 49), za (A 52), za (A 63), za (A 68), za (A 72)])), ((A 1), .inr (4, [za (A 2), za (A 3), zi (th : Int), zi (fx : Int), zi (d : Int), zi (w : Int)])), ((A 72), .inl (3, 4, .inr f)), (so, .inr (5, [za si, zi he, zi la, zi sz]))] h := zov_self (List.forall_mem_cons.mpr ⟨hc0, List.forall_mem_cons.mpr ⟨hc1, List.forall_mem_cons.mpr ⟨hc2, List.forall_mem_cons.mpr ⟨hc3, fun _ q => absurd q List.not_mem_nil⟩⟩⟩⟩)
  have hpt := pop_le th
  have zi_1 := zi_.1
  have zi_2 := zi_.2
  refine zEv.body (I := (7, xI_X7_film, 9, 2, 45, 0, 0, false)) (rt := (some .int)) [some (za (A 0)), some (zi (s : Int)), some (zi l), some (zi i), none, none, none, none, none] rfl rfl rfl rfl ?_
  refine Zn.eq rfl rfl rfl hh ?_
  have hD : zND ([((A 0), .inr (7, [za (A 1), za (A 4), za (A 24), za (A 27), zi kt, za (A 47), za (A 49), za (A 52), za (A 63), za (A 68), za (A 72)])), ((A 1), .inr (4, [za (A 2), za (A 3), zi (th : Int), zi (fx : Int), zi (d : Int), zi (w : Int)])), ((A 72), .inl (3, 4, .inr f)), (so, .inr (5, [za si, zi he, zi la, zi sz]))]) := hD
  refine Zn.seg (pc2 := 1) (ls2 := [some (za (A 0)), some (zi (s : Int)), some (zi l), some (zi i), none, none, none, none, none]) (st2 := [zi (s : Int)]) [(0, .iload_n 1)] (by decide +kernel) rfl ?_
  refine Zn.call (ins := .invokestatic 294) [zi (s : Int)] [] (by decide +kernel) rfl rfl rfl ⟨rfl, rfl⟩ ⟨rfl, rfl, rfl⟩ rfl (zrecvS (by decide)) (sp_X7_isSheet (x := (s : Int)) (by first | assumption | exact ⟨by omega, by omega⟩)) (fun v h2 hp => ?_)
  obtain ⟨rfl, hq_1⟩ := hp
  refine Zn.eq (pc2 := 4) (ls2 := [some (za (A 0)), some (zi (s : Int)), some (zi l), some (zi i), none, none, none, none, none]) (st2 := [zi (inB (0) 3 (s : Int))]) (h2 := zov ([((A 0), .inr (7, [za (A 1), za (A 4), za (A 24), za (A 27), zi kt, za (A 47), za (A 49), za (A 52), za (A 63), za (A 68), za (A 72)])), ((A 1), .inr (4, [za (A 2), za (A 3), zi (th : Int), zi (fx : Int), zi (d : Int), zi (w : Int)])), ((A 72), .inl (3, 4, .inr f)), (so, .inr (5, [za si, zi he, zi la, zi sz]))]) h) rfl rfl rfl hq_1 ?_
  have hD : zND ([((A 0), .inr (7, [za (A 1), za (A 4), za (A 24), za (A 27), zi kt, za (A 47), za (A 49), za (A 52), za (A 63), za (A 68), za (A 72)])), ((A 1), .inr (4, [za (A 2), za (A 3), zi (th : Int), zi (fx : Int), zi (d : Int), zi (w : Int)])), ((A 72), .inl (3, 4, .inr f)), (so, .inr (5, [za si, zi he, zi la, zi sz]))]) := hD
  have q_2 := inB_spec (0) 3 (s : Int)
  refine Zn.ifc (c := .eq) (off := 10) 14 (by decide +kernel) rfl ⟨by omega, by omega⟩ (fun c_3 => absurd (show inB (0) 3 (s : Int) = 0 from c_3) (by omega)) (fun c_3 => ?_)
  have c_3 : ¬ (inB (0) 3 (s : Int) = 0) := c_3
  refine Zn.seg (pc2 := 8) (ls2 := [some (za (A 0)), some (zi (s : Int)), some (zi l), some (zi i), none, none, none, none, none]) (st2 := [zi l]) [(7, .iload_n 2)] (by decide +kernel) rfl ?_
  refine Zn.call (ins := .invokestatic 297) [zi l] [] (by decide +kernel) rfl rfl rfl ⟨rfl, rfl⟩ ⟨rfl, rfl, rfl⟩ rfl (zrecvS (by decide)) (sp_X7_isLane (x := l) (by first | assumption | exact ⟨by omega, by omega⟩)) (fun v h2 hp => ?_)
  obtain ⟨rfl, hq_4⟩ := hp
  refine Zn.eq (pc2 := 11) (ls2 := [some (za (A 0)), some (zi (s : Int)), some (zi l), some (zi i), none, none, none, none, none]) (st2 := [zi (inB (0) 3 l)]) (h2 := zov ([((A 0), .inr (7, [za (A 1), za (A 4), za (A 24), za (A 27), zi kt, za (A 47), za (A 49), za (A 52), za (A 63), za (A 68), za (A 72)])), ((A 1), .inr (4, [za (A 2), za (A 3), zi (th : Int), zi (fx : Int), zi (d : Int), zi (w : Int)])), ((A 72), .inl (3, 4, .inr f)), (so, .inr (5, [za si, zi he, zi la, zi sz]))]) h) rfl rfl rfl hq_4 ?_
  have hD : zND ([((A 0), .inr (7, [za (A 1), za (A 4), za (A 24), za (A 27), zi kt, za (A 47), za (A 49), za (A 52), za (A 63), za (A 68), za (A 72)])), ((A 1), .inr (4, [za (A 2), za (A 3), zi (th : Int), zi (fx : Int), zi (d : Int), zi (w : Int)])), ((A 72), .inl (3, 4, .inr f)), (so, .inr (5, [za si, zi he, zi la, zi sz]))]) := hD
  have q_5 := inB_spec (0) 3 l
  refine Zn.ifc (c := .ne) (off := 5) 16 (by decide +kernel) rfl ⟨by omega, by omega⟩ (fun c_6 => ?_) (fun c_6 => absurd (show inB (0) 3 l ≠ 0 from by omega) c_6)
  have c_6 : inB (0) 3 l ≠ 0 := c_6
  refine Zn.seg (pc2 := 17) (ls2 := [some (za (A 0)), some (zi (s : Int)), some (zi l), some (zi i), none, none, none, none, none]) (st2 := [za (A 0)]) [(16, .aload_n 0)] (by decide +kernel) rfl ?_
  refine Zn.get (ix := 66) hD 0 (by decide +kernel) rfl rfl rfl ?_
  refine Zn.seg (pc2 := 21) (ls2 := [some (za (A 0)), some (zi (s : Int)), some (zi l), some (zi i), none, none, none, none, none]) (st2 := [zi (s : Int), za (A 72)]) [(20, .iload_n 1)] (by decide +kernel) rfl ?_
  refine Zn.aald hD 2 (s) (by decide +kernel) rfl rfl (by omega) (by omega) rfl (b := so) (hf) ?_
  refine Zn.seg (pc2 := 26) (ls2 := [some (za (A 0)), some (zi (s : Int)), some (zi l), some (zi i), some (za so), none, none, none, none]) (st2 := [za (A 0), zi 2]) [(22, .astore 4), (24, .iconst 2), (25, .aload_n 0)] (by decide +kernel) rfl ?_
  refine Zn.get (ix := 12) hD 0 (by decide +kernel) rfl rfl rfl ?_
  refine Zn.call (ins := .invokevirtual 85) [za (A 1)] [zi 2] (by decide +kernel) rfl rfl rfl ⟨rfl, rfl⟩ ⟨rfl, rfl, rfl⟩ rfl (zrecvV hD (p := 1) rfl rfl rfl) (sp_X4_howMany (o := (A 1)) (ya := (A 2)) (qa := (A 3)) (th := th) (fx := fx) (d := d) (w := w) (zov_get hD 1 rfl) (hth)) (fun v h2 hp => ?_)
  obtain ⟨rfl, hq_7⟩ := hp
  refine Zn.eq (pc2 := 32) (ls2 := [some (za (A 0)), some (zi (s : Int)), some (zi l), some (zi i), some (za so), none, none, none, none]) (st2 := [zi (pop th : Int), zi 2]) (h2 := zov ([((A 0), .inr (7, [za (A 1), za (A 4), za (A 24), za (A 27), zi kt, za (A 47), za (A 49), za (A 52), za (A 63), za (A 68), za (A 72)])), ((A 1), .inr (4, [za (A 2), za (A 3), zi (th : Int), zi (fx : Int), zi (d : Int), zi (w : Int)])), ((A 72), .inl (3, 4, .inr f)), (so, .inr (5, [za si, zi he, zi la, zi sz]))]) h) rfl rfl rfl hq_7 ?_
  have hD : zND ([((A 0), .inr (7, [za (A 1), za (A 4), za (A 24), za (A 27), zi kt, za (A 47), za (A 49), za (A 52), za (A 63), za (A 68), za (A 72)])), ((A 1), .inr (4, [za (A 2), za (A 3), zi (th : Int), zi (fx : Int), zi (d : Int), zi (w : Int)])), ((A 72), .inl (3, 4, .inr f)), (so, .inr (5, [za si, zi he, zi la, zi sz]))]) := hD
  have q_8 := pop_le th
  refine Zn.seg (pc2 := 41) (ls2 := [some (za (A 0)), some (zi (s : Int)), some (zi l), some (zi i), some (za so), some (zi (2 * (pop th : Int))), none, none, none]) (st2 := [zi (2 * (pop th : Int)), zi i, zi l, za so]) [(32, .imul), (33, .istore 5), (35, .aload 4), (37, .iload_n 2), (38, .iload_n 3), (39, .iload 5)] (by decide +kernel) rfl ?_
  refine Zn.call (ins := .invokevirtual 300) [za so, zi l, zi i, zi (2 * (pop th : Int))] [] (by decide +kernel) rfl rfl rfl ⟨rfl, rfl⟩ ⟨rfl, rfl, rfl⟩ rfl (zrecvV hD (p := 3) rfl rfl rfl) (sp_X5_refusal (o := so) (ia := si) (he := he) (la := la) (sz := sz) (l := l) (i := i) (n := 2 * (pop th : Int)) (zov_get hD 3 rfl) (hhe) (hla) (hsz) (⟨by omega, by omega⟩) (zi_) (⟨by omega, by omega⟩)) (fun v h2 hp => ?_)
  obtain ⟨rfl, hq_9⟩ := hp
  refine Zn.eq (pc2 := 44) (ls2 := [some (za (A 0)), some (zi (s : Int)), some (zi l), some (zi i), some (za so), some (zi (2 * (pop th : Int))), none, none, none]) (st2 := [zi (rfV he la sz l i (2 * (pop th : Int)))]) (h2 := zov ([((A 0), .inr (7, [za (A 1), za (A 4), za (A 24), za (A 27), zi kt, za (A 47), za (A 49), za (A 52), za (A 63), za (A 68), za (A 72)])), ((A 1), .inr (4, [za (A 2), za (A 3), zi (th : Int), zi (fx : Int), zi (d : Int), zi (w : Int)])), ((A 72), .inl (3, 4, .inr f)), (so, .inr (5, [za si, zi he, zi la, zi sz]))]) h) rfl rfl rfl hq_9 ?_
  have hD : zND ([((A 0), .inr (7, [za (A 1), za (A 4), za (A 24), za (A 27), zi kt, za (A 47), za (A 49), za (A 52), za (A 63), za (A 68), za (A 72)])), ((A 1), .inr (4, [za (A 2), za (A 3), zi (th : Int), zi (fx : Int), zi (d : Int), zi (w : Int)])), ((A 72), .inl (3, 4, .inr f)), (so, .inr (5, [za si, zi he, zi la, zi sz]))]) := hD
  have q_10 := rfV_c he la sz l i (2 * (pop th : Int))
  refine Zn.seg (pc2 := 48) (ls2 := [some (za (A 0)), some (zi (s : Int)), some (zi l), some (zi i), some (za so), some (zi (2 * (pop th : Int))), some (zi (rfV he la sz l i (2 * (pop th : Int)))), none, none]) (st2 := [zi (rfV he la sz l i (2 * (pop th : Int)))]) [(44, .istore 6), (46, .iload 6)] (by decide +kernel) rfl ?_
  refine Zn.ifc (c := .eq) (off := 6) 54 (by decide +kernel) rfl ⟨by omega, by omega⟩ (fun c_11 => absurd (show rfV he la sz l i (2 * (pop th : Int)) = 0 from c_11) (by omega)) (fun c_11 => ?_)
  have c_11 : ¬ (rfV he la sz l i (2 * (pop th : Int)) = 0) := c_11
  refine Zn.seg (pc2 := 53) (ls2 := [some (za (A 0)), some (zi (s : Int)), some (zi l), some (zi i), some (za so), some (zi (2 * (pop th : Int))), some (zi (rfV he la sz l i (2 * (pop th : Int)))), none, none]) (st2 := [zi (rfV he la sz l i (2 * (pop th : Int)))]) [(51, .iload 6)] (by decide +kernel) rfl ?_
  exact Zn.iret (by decide +kernel) rfl (⟨by first | rfl | (refine congrArg some (congrArg zi ?_); first | omega | (simp_all; done) | (simp_all; omega)), hh.symm⟩)
set_option maxHeartbeats 1000000 in
theorem sp_X7_film_ok {h : xH} {A : Nat → Nat} {th fx d w : Nat} {kt l he la sz : Int} {so si s i : Nat} {f : Nat → Option Nat} {it Y : Nat → Int} (hc0 : h (A 0) = zcE (.inr (7, [za (A 1), za (A 4), za (A 24), za (A 27), zi kt, za (A 47), za (A 49), za (A 52), za (A 63), za (A 68), za (A 72)]))) (hc1 : h (A 1) = zcE (.inr (4, [za (A 2), za (A 3), zi (th : Int), zi (fx : Int), zi (d : Int), zi (w : Int)]))) (hc2 : h (A 2) = zcE (.inl (0, 13, .inl Y))) (hc3 : h (A 72) = zcE (.inl (3, 4, .inr f))) (hc4 : h so = zcE (.inr (5, [za si, zi he, zi la, zi sz]))) (hc5 : h si = zcE (.inl (1, 24, .inl it))) (hD : [(A 0), (A 1), (A 2), (A 72), so, si].Nodup) (hs4 : s < 4) (hf : f s = some so) (hhe : he = 0 ∨ he = 1) (hla : 0 ≤ la ∧ la ≤ 3) (hsz : 0 ≤ sz ∧ sz ≤ 24) (hl : 0 ≤ l ∧ l ≤ 3) (hth : th < 8192) (hb : he ≠ 0 ∧ la = l ∧ (i : Int) + 2 * (pop th : Int) ≤ sz) (hY : ∀ p, p < 13 → zInI (Y p)) : zEv k_X7_film [za (A 0), zi (s : Int), zi l, zi (i : Int)] h (fun v h2 => v = some (zi (2 * (pop th : Int))) ∧ h2 = zov [((A 0), .inr (7, [za (A 1), za (A 4), za (A 24), za (A 27), zi kt, za (A 47), za (A 49), za (A 52), za (A 63), za (A 68), za (A 72)])), ((A 1), .inr (4, [za (A 2), za (A 3), zi (th : Int), zi (fx : Int), zi (d : Int), zi (w : Int)])), ((A 2), .inl (0, 13, .inl Y)), ((A 72), .inl (3, 4, .inr f)), (so, .inr (5, [za si, zi he, zi la, zi sz])), (si, .inl (1, 24, .inl (fmC la th Y it i 13)))] h) := by
  have hh : h = zov [((A 0), .inr (7, [za (A 1), za (A 4), za (A 24), za (A 27), zi kt, za (A 47), za (A 49), za (A 52), za (A 63), za (A 68), za (A 72)])), ((A 1), .inr (4, [za (A 2), za (A 3), zi (th : Int), zi (fx : Int), zi (d : Int), zi (w : Int)])), ((A 2), .inl (0, 13, .inl Y)), ((A 72), .inl (3, 4, .inr f)), (so, .inr (5, [za si, zi he, zi la, zi sz])), (si, .inl (1, 24, .inl it))] h := zov_self (List.forall_mem_cons.mpr ⟨hc0, List.forall_mem_cons.mpr ⟨hc1, List.forall_mem_cons.mpr ⟨hc2, List.forall_mem_cons.mpr ⟨hc3, List.forall_mem_cons.mpr ⟨hc4, List.forall_mem_cons.mpr ⟨hc5, fun _ q => absurd q List.not_mem_nil⟩⟩⟩⟩⟩⟩)
  have hpt := pop_le th
  have hrf := rfV_c he la sz l i (2 * (pop th : Int))
  have hrc := rcV_c sz i (2 * (pop th : Int))
  refine zEv.body (I := (7, xI_X7_film, 9, 2, 45, 0, 0, false)) (rt := (some .int)) [some (za (A 0)), some (zi (s : Int)), some (zi l), some (zi (i : Int)), none, none, none, none, none] rfl rfl rfl rfl ?_
  refine Zn.eq rfl rfl rfl hh ?_
  have hD : zND ([((A 0), .inr (7, [za (A 1), za (A 4), za (A 24), za (A 27), zi kt, za (A 47), za (A 49), za (A 52), za (A 63), za (A 68), za (A 72)])), ((A 1), .inr (4, [za (A 2), za (A 3), zi (th : Int), zi (fx : Int), zi (d : Int), zi (w : Int)])), ((A 2), .inl (0, 13, .inl Y)), ((A 72), .inl (3, 4, .inr f)), (so, .inr (5, [za si, zi he, zi la, zi sz])), (si, .inl (1, 24, .inl it))]) := hD
  refine Zn.seg (pc2 := 1) (ls2 := [some (za (A 0)), some (zi (s : Int)), some (zi l), some (zi (i : Int)), none, none, none, none, none]) (st2 := [zi (s : Int)]) [(0, .iload_n 1)] (by decide +kernel) rfl ?_
  refine Zn.call (ins := .invokestatic 294) [zi (s : Int)] [] (by decide +kernel) rfl rfl rfl ⟨rfl, rfl⟩ ⟨rfl, rfl, rfl⟩ rfl (zrecvS (by decide)) (sp_X7_isSheet (x := (s : Int)) (by first | assumption | exact ⟨by omega, by omega⟩)) (fun v h2 hp => ?_)
  obtain ⟨rfl, hq_1⟩ := hp
  refine Zn.eq (pc2 := 4) (ls2 := [some (za (A 0)), some (zi (s : Int)), some (zi l), some (zi (i : Int)), none, none, none, none, none]) (st2 := [zi (inB (0) 3 (s : Int))]) (h2 := zov ([((A 0), .inr (7, [za (A 1), za (A 4), za (A 24), za (A 27), zi kt, za (A 47), za (A 49), za (A 52), za (A 63), za (A 68), za (A 72)])), ((A 1), .inr (4, [za (A 2), za (A 3), zi (th : Int), zi (fx : Int), zi (d : Int), zi (w : Int)])), ((A 2), .inl (0, 13, .inl Y)), ((A 72), .inl (3, 4, .inr f)), (so, .inr (5, [za si, zi he, zi la, zi sz])), (si, .inl (1, 24, .inl it))]) h) rfl rfl rfl hq_1 ?_
  have hD : zND ([((A 0), .inr (7, [za (A 1), za (A 4), za (A 24), za (A 27), zi kt, za (A 47), za (A 49), za (A 52), za (A 63), za (A 68), za (A 72)])), ((A 1), .inr (4, [za (A 2), za (A 3), zi (th : Int), zi (fx : Int), zi (d : Int), zi (w : Int)])), ((A 2), .inl (0, 13, .inl Y)), ((A 72), .inl (3, 4, .inr f)), (so, .inr (5, [za si, zi he, zi la, zi sz])), (si, .inl (1, 24, .inl it))]) := hD
  have q_2 := inB_spec (0) 3 (s : Int)
  refine Zn.ifc (c := .eq) (off := 10) 14 (by decide +kernel) rfl ⟨by omega, by omega⟩ (fun c_3 => absurd (show inB (0) 3 (s : Int) = 0 from c_3) (by omega)) (fun c_3 => ?_)
  have c_3 : ¬ (inB (0) 3 (s : Int) = 0) := c_3
  refine Zn.seg (pc2 := 8) (ls2 := [some (za (A 0)), some (zi (s : Int)), some (zi l), some (zi (i : Int)), none, none, none, none, none]) (st2 := [zi l]) [(7, .iload_n 2)] (by decide +kernel) rfl ?_
  refine Zn.call (ins := .invokestatic 297) [zi l] [] (by decide +kernel) rfl rfl rfl ⟨rfl, rfl⟩ ⟨rfl, rfl, rfl⟩ rfl (zrecvS (by decide)) (sp_X7_isLane (x := l) (by first | assumption | exact ⟨by omega, by omega⟩)) (fun v h2 hp => ?_)
  obtain ⟨rfl, hq_4⟩ := hp
  refine Zn.eq (pc2 := 11) (ls2 := [some (za (A 0)), some (zi (s : Int)), some (zi l), some (zi (i : Int)), none, none, none, none, none]) (st2 := [zi (inB (0) 3 l)]) (h2 := zov ([((A 0), .inr (7, [za (A 1), za (A 4), za (A 24), za (A 27), zi kt, za (A 47), za (A 49), za (A 52), za (A 63), za (A 68), za (A 72)])), ((A 1), .inr (4, [za (A 2), za (A 3), zi (th : Int), zi (fx : Int), zi (d : Int), zi (w : Int)])), ((A 2), .inl (0, 13, .inl Y)), ((A 72), .inl (3, 4, .inr f)), (so, .inr (5, [za si, zi he, zi la, zi sz])), (si, .inl (1, 24, .inl it))]) h) rfl rfl rfl hq_4 ?_
  have hD : zND ([((A 0), .inr (7, [za (A 1), za (A 4), za (A 24), za (A 27), zi kt, za (A 47), za (A 49), za (A 52), za (A 63), za (A 68), za (A 72)])), ((A 1), .inr (4, [za (A 2), za (A 3), zi (th : Int), zi (fx : Int), zi (d : Int), zi (w : Int)])), ((A 2), .inl (0, 13, .inl Y)), ((A 72), .inl (3, 4, .inr f)), (so, .inr (5, [za si, zi he, zi la, zi sz])), (si, .inl (1, 24, .inl it))]) := hD
  have q_5 := inB_spec (0) 3 l
  refine Zn.ifc (c := .ne) (off := 5) 16 (by decide +kernel) rfl ⟨by omega, by omega⟩ (fun c_6 => ?_) (fun c_6 => absurd (show inB (0) 3 l ≠ 0 from by omega) c_6)
  have c_6 : inB (0) 3 l ≠ 0 := c_6
  refine Zn.seg (pc2 := 17) (ls2 := [some (za (A 0)), some (zi (s : Int)), some (zi l), some (zi (i : Int)), none, none, none, none, none]) (st2 := [za (A 0)]) [(16, .aload_n 0)] (by decide +kernel) rfl ?_
  refine Zn.get (ix := 66) hD 0 (by decide +kernel) rfl rfl rfl ?_
  refine Zn.seg (pc2 := 21) (ls2 := [some (za (A 0)), some (zi (s : Int)), some (zi l), some (zi (i : Int)), none, none, none, none, none]) (st2 := [zi (s : Int), za (A 72)]) [(20, .iload_n 1)] (by decide +kernel) rfl ?_
  refine Zn.aald hD 3 (s) (by decide +kernel) rfl rfl (by omega) (by omega) rfl (b := so) (hf) ?_
  refine Zn.seg (pc2 := 26) (ls2 := [some (za (A 0)), some (zi (s : Int)), some (zi l), some (zi (i : Int)), some (za so), none, none, none, none]) (st2 := [za (A 0), zi 2]) [(22, .astore 4), (24, .iconst 2), (25, .aload_n 0)] (by decide +kernel) rfl ?_
  refine Zn.get (ix := 12) hD 0 (by decide +kernel) rfl rfl rfl ?_
  refine Zn.call (ins := .invokevirtual 85) [za (A 1)] [zi 2] (by decide +kernel) rfl rfl rfl ⟨rfl, rfl⟩ ⟨rfl, rfl, rfl⟩ rfl (zrecvV hD (p := 1) rfl rfl rfl) (sp_X4_howMany (o := (A 1)) (ya := (A 2)) (qa := (A 3)) (th := th) (fx := fx) (d := d) (w := w) (zov_get hD 1 rfl) (hth)) (fun v h2 hp => ?_)
  obtain ⟨rfl, hq_7⟩ := hp
  refine Zn.eq (pc2 := 32) (ls2 := [some (za (A 0)), some (zi (s : Int)), some (zi l), some (zi (i : Int)), some (za so), none, none, none, none]) (st2 := [zi (pop th : Int), zi 2]) (h2 := zov ([((A 0), .inr (7, [za (A 1), za (A 4), za (A 24), za (A 27), zi kt, za (A 47), za (A 49), za (A 52), za (A 63), za (A 68), za (A 72)])), ((A 1), .inr (4, [za (A 2), za (A 3), zi (th : Int), zi (fx : Int), zi (d : Int), zi (w : Int)])), ((A 2), .inl (0, 13, .inl Y)), ((A 72), .inl (3, 4, .inr f)), (so, .inr (5, [za si, zi he, zi la, zi sz])), (si, .inl (1, 24, .inl it))]) h) rfl rfl rfl hq_7 ?_
  have hD : zND ([((A 0), .inr (7, [za (A 1), za (A 4), za (A 24), za (A 27), zi kt, za (A 47), za (A 49), za (A 52), za (A 63), za (A 68), za (A 72)])), ((A 1), .inr (4, [za (A 2), za (A 3), zi (th : Int), zi (fx : Int), zi (d : Int), zi (w : Int)])), ((A 2), .inl (0, 13, .inl Y)), ((A 72), .inl (3, 4, .inr f)), (so, .inr (5, [za si, zi he, zi la, zi sz])), (si, .inl (1, 24, .inl it))]) := hD
  have q_8 := pop_le th
  refine Zn.seg (pc2 := 41) (ls2 := [some (za (A 0)), some (zi (s : Int)), some (zi l), some (zi (i : Int)), some (za so), some (zi (2 * (pop th : Int))), none, none, none]) (st2 := [zi (2 * (pop th : Int)), zi (i : Int), zi l, za so]) [(32, .imul), (33, .istore 5), (35, .aload 4), (37, .iload_n 2), (38, .iload_n 3), (39, .iload 5)] (by decide +kernel) rfl ?_
  refine Zn.call (ins := .invokevirtual 300) [za so, zi l, zi (i : Int), zi (2 * (pop th : Int))] [] (by decide +kernel) rfl rfl rfl ⟨rfl, rfl⟩ ⟨rfl, rfl, rfl⟩ rfl (zrecvV hD (p := 4) rfl rfl rfl) (sp_X5_refusal (o := so) (ia := si) (he := he) (la := la) (sz := sz) (l := l) (i := (i : Int)) (n := 2 * (pop th : Int)) (zov_get hD 4 rfl) (hhe) (hla) (hsz) (⟨by omega, by omega⟩) (⟨by omega, by omega⟩) (⟨by omega, by omega⟩)) (fun v h2 hp => ?_)
  obtain ⟨rfl, hq_9⟩ := hp
  refine Zn.eq (pc2 := 44) (ls2 := [some (za (A 0)), some (zi (s : Int)), some (zi l), some (zi (i : Int)), some (za so), some (zi (2 * (pop th : Int))), none, none, none]) (st2 := [zi (rfV he la sz l (i : Int) (2 * (pop th : Int)))]) (h2 := zov ([((A 0), .inr (7, [za (A 1), za (A 4), za (A 24), za (A 27), zi kt, za (A 47), za (A 49), za (A 52), za (A 63), za (A 68), za (A 72)])), ((A 1), .inr (4, [za (A 2), za (A 3), zi (th : Int), zi (fx : Int), zi (d : Int), zi (w : Int)])), ((A 2), .inl (0, 13, .inl Y)), ((A 72), .inl (3, 4, .inr f)), (so, .inr (5, [za si, zi he, zi la, zi sz])), (si, .inl (1, 24, .inl it))]) h) rfl rfl rfl hq_9 ?_
  have hD : zND ([((A 0), .inr (7, [za (A 1), za (A 4), za (A 24), za (A 27), zi kt, za (A 47), za (A 49), za (A 52), za (A 63), za (A 68), za (A 72)])), ((A 1), .inr (4, [za (A 2), za (A 3), zi (th : Int), zi (fx : Int), zi (d : Int), zi (w : Int)])), ((A 2), .inl (0, 13, .inl Y)), ((A 72), .inl (3, 4, .inr f)), (so, .inr (5, [za si, zi he, zi la, zi sz])), (si, .inl (1, 24, .inl it))]) := hD
  have q_10 := rfV_c he la sz l (i : Int) (2 * (pop th : Int))
  refine Zn.seg (pc2 := 48) (ls2 := [some (za (A 0)), some (zi (s : Int)), some (zi l), some (zi (i : Int)), some (za so), some (zi (2 * (pop th : Int))), some (zi (rfV he la sz l (i : Int) (2 * (pop th : Int)))), none, none]) (st2 := [zi (rfV he la sz l (i : Int) (2 * (pop th : Int)))]) [(44, .istore 6), (46, .iload 6)] (by decide +kernel) rfl ?_
  refine Zn.ifc (c := .eq) (off := 6) 54 (by decide +kernel) rfl ⟨by omega, by omega⟩ (fun c_11 => ?_) (fun c_11 => absurd (show rfV he la sz l (i : Int) (2 * (pop th : Int)) = 0 from by omega) c_11)
  have c_11 : rfV he la sz l (i : Int) (2 * (pop th : Int)) = 0 := c_11
  refine Zn.seg (pc2 := 60) (ls2 := [some (za (A 0)), some (zi (s : Int)), some (zi l), some (zi (i : Int)), some (za so), some (zi (2 * (pop th : Int))), some (zi (rfV he la sz l (i : Int) (2 * (pop th : Int)))), some (zi (i : Int)), some (zi 0)]) (st2 := []) [(54, .iload_n 3), (55, .istore 7), (57, .iconst 0), (58, .istore 8)] (by decide +kernel) rfl ?_
  refine Zn.eq (pc2 := 60) (ls2 := [some (za (A 0)), some (zi (s : Int)), some (zi l), some (zi (i : Int)), some (za so), some (zi (2 * (pop th : Int))), some (zi (rfV he la sz l (i : Int) (2 * (pop th : Int)))), some (zi ((i + 2 * popN th 0 : Nat) : Int)), some (zi (0 : Int))]) (st2 := []) (h2 := zov ([((A 0), .inr (7, [za (A 1), za (A 4), za (A 24), za (A 27), zi kt, za (A 47), za (A 49), za (A 52), za (A 63), za (A 68), za (A 72)])), ((A 1), .inr (4, [za (A 2), za (A 3), zi (th : Int), zi (fx : Int), zi (d : Int), zi (w : Int)])), ((A 2), .inl (0, 13, .inl Y)), ((A 72), .inl (3, 4, .inr f)), (so, .inr (5, [za si, zi he, zi la, zi sz])), (si, .inl (1, 24, .inl (fmC la th Y it i 0)))]) h) rfl (zcons rfl (zcons rfl (zcons rfl (zcons rfl (zcons rfl (zcons rfl (zcons rfl (zcons (congrArg (fun z => some (zi z)) (by first | rfl | (show _ = _; simp [popN]))) (zcons (congrArg (fun z => some (zi z)) (by first | rfl | (show _ = _; simp [popN]))) rfl))))))))) rfl (rfl) ?_
  have hD : zND ([((A 0), .inr (7, [za (A 1), za (A 4), za (A 24), za (A 27), zi kt, za (A 47), za (A 49), za (A 52), za (A 63), za (A 68), za (A 72)])), ((A 1), .inr (4, [za (A 2), za (A 3), zi (th : Int), zi (fx : Int), zi (d : Int), zi (w : Int)])), ((A 2), .inl (0, 13, .inl Y)), ((A 72), .inl (3, 4, .inr f)), (so, .inr (5, [za si, zi he, zi la, zi sz])), (si, .inl (1, 24, .inl (fmC la th Y it i 0)))]) := hD
  refine xloop (P := fun i_12 => Zn (7, xI_X7_film, 9, 2, 45, 0, 0, false) (some .int) 60 [some (za (A 0)), some (zi (s : Int)), some (zi l), some (zi (i : Int)), some (za so), some (zi (2 * (pop th : Int))), some (zi (rfV he la sz l (i : Int) (2 * (pop th : Int)))), some (zi ((i + 2 * popN th i_12 : Nat) : Int)), some (zi (i_12 : Int))] [] (zov ([((A 0), .inr (7, [za (A 1), za (A 4), za (A 24), za (A 27), zi kt, za (A 47), za (A 49), za (A 52), za (A 63), za (A 68), za (A 72)])), ((A 1), .inr (4, [za (A 2), za (A 3), zi (th : Int), zi (fx : Int), zi (d : Int), zi (w : Int)])), ((A 2), .inl (0, 13, .inl Y)), ((A 72), .inl (3, 4, .inr f)), (so, .inr (5, [za si, zi he, zi la, zi sz])), (si, .inl (1, 24, .inl (fmC la th Y it i i_12)))]) h) _) (13) (fun i_12 hi_13 ih_14 => ?_) ?_
  · have hi_ : i_12 < 13 := hi_13
    have hD : zND ([((A 0), .inr (7, [za (A 1), za (A 4), za (A 24), za (A 27), zi kt, za (A 47), za (A 49), za (A 52), za (A 63), za (A 68), za (A 72)])), ((A 1), .inr (4, [za (A 2), za (A 3), zi (th : Int), zi (fx : Int), zi (d : Int), zi (w : Int)])), ((A 2), .inl (0, 13, .inl Y)), ((A 72), .inl (3, 4, .inr f)), (so, .inr (5, [za si, zi he, zi la, zi sz])), (si, .inl (1, 24, .inl (fmC la th Y it i i_12)))]) := hD
    have hbl := bt_lt th i_12
    have hpn := popN_lt13 (th := th) hi_
    refine Zn.seg (pc2 := 64) (ls2 := [some (za (A 0)), some (zi (s : Int)), some (zi l), some (zi (i : Int)), some (za so), some (zi (2 * (pop th : Int))), some (zi (rfV he la sz l (i : Int) (2 * (pop th : Int)))), some (zi ((i + 2 * popN th i_12 : Nat) : Int)), some (zi (i_12 : Int))]) (st2 := [zi 13, zi (i_12 : Int)]) [(60, .iload 8), (62, .bipush 13)] (by decide +kernel) rfl ?_
    refine Zn.icmp (c := .ge) (off := 56) 120 (by decide +kernel) rfl ⟨by omega, by omega⟩ ⟨by decide, by decide⟩ (fun c_15 => absurd (show 13 ≤ (i_12 : Int) from c_15) (by omega)) (fun c_15 => ?_)
    have c_15 : ¬ (13 ≤ (i_12 : Int)) := c_15
    refine Zn.seg (pc2 := 68) (ls2 := [some (za (A 0)), some (zi (s : Int)), some (zi l), some (zi (i : Int)), some (za so), some (zi (2 * (pop th : Int))), some (zi (rfV he la sz l (i : Int) (2 * (pop th : Int)))), some (zi ((i + 2 * popN th i_12 : Nat) : Int)), some (zi (i_12 : Int))]) (st2 := [za (A 0)]) [(67, .aload_n 0)] (by decide +kernel) rfl ?_
    refine Zn.get (ix := 12) hD 0 (by decide +kernel) rfl rfl rfl ?_
    refine Zn.seg (pc2 := 73) (ls2 := [some (za (A 0)), some (zi (s : Int)), some (zi l), some (zi (i : Int)), some (za so), some (zi (2 * (pop th : Int))), some (zi (rfV he la sz l (i : Int) (2 * (pop th : Int)))), some (zi ((i + 2 * popN th i_12 : Nat) : Int)), some (zi (i_12 : Int))]) (st2 := [zi (i_12 : Int), za (A 1)]) [(71, .iload 8)] (by decide +kernel) rfl ?_
    refine Zn.call (ins := .invokevirtual 78) [za (A 1), zi (i_12 : Int)] [] (by decide +kernel) rfl rfl rfl ⟨rfl, rfl⟩ ⟨rfl, rfl, rfl⟩ rfl (zrecvV hD (p := 1) rfl rfl rfl) (sp_X4_has (o := (A 1)) (ya := (A 2)) (qa := (A 3)) (th := th) (fx := fx) (d := d) (w := w) (p := i_12) (zov_get hD 1 rfl) (hth) (by omega)) (fun v h2 hp => ?_)
    obtain ⟨rfl, hq_16⟩ := hp
    refine Zn.eq (pc2 := 76) (ls2 := [some (za (A 0)), some (zi (s : Int)), some (zi l), some (zi (i : Int)), some (za so), some (zi (2 * (pop th : Int))), some (zi (rfV he la sz l (i : Int) (2 * (pop th : Int)))), some (zi ((i + 2 * popN th i_12 : Nat) : Int)), some (zi (i_12 : Int))]) (st2 := [zi (bt th i_12 : Int)]) (h2 := zov ([((A 0), .inr (7, [za (A 1), za (A 4), za (A 24), za (A 27), zi kt, za (A 47), za (A 49), za (A 52), za (A 63), za (A 68), za (A 72)])), ((A 1), .inr (4, [za (A 2), za (A 3), zi (th : Int), zi (fx : Int), zi (d : Int), zi (w : Int)])), ((A 2), .inl (0, 13, .inl Y)), ((A 72), .inl (3, 4, .inr f)), (so, .inr (5, [za si, zi he, zi la, zi sz])), (si, .inl (1, 24, .inl (fmC la th Y it i i_12)))]) h) rfl rfl rfl hq_16 ?_
    have hD : zND ([((A 0), .inr (7, [za (A 1), za (A 4), za (A 24), za (A 27), zi kt, za (A 47), za (A 49), za (A 52), za (A 63), za (A 68), za (A 72)])), ((A 1), .inr (4, [za (A 2), za (A 3), zi (th : Int), zi (fx : Int), zi (d : Int), zi (w : Int)])), ((A 2), .inl (0, 13, .inl Y)), ((A 72), .inl (3, 4, .inr f)), (so, .inr (5, [za si, zi he, zi la, zi sz])), (si, .inl (1, 24, .inl (fmC la th Y it i i_12)))]) := hD
    have q_17 := bt_lt th i_12
    refine Zn.ifc (c := .eq) (off := 38) 114 (by decide +kernel) rfl ⟨by omega, by omega⟩ (fun c_18 => ?_) (fun c_18 => ?_)
    · have c_18 : (bt th i_12 : Int) = 0 := c_18
      refine Zn.seg (pc2 := 60) (ls2 := [some (za (A 0)), some (zi (s : Int)), some (zi l), some (zi (i : Int)), some (za so), some (zi (2 * (pop th : Int))), some (zi (rfV he la sz l (i : Int) (2 * (pop th : Int)))), some (zi ((i + 2 * popN th i_12 : Nat) : Int)), some (zi ((i_12 : Int) + 1))]) (st2 := []) [(114, .iinc 8 1), (117, .goto (-57))] (by decide +kernel) rfl ?_
      exact Zn.eq rfl (zcons rfl (zcons rfl (zcons rfl (zcons rfl (zcons rfl (zcons rfl (zcons rfl (zcons (congrArg (fun z => some (zi z)) (by rw [popN]; omega)) (zcons (congrArg (fun z => some (zi z)) (by omega)) rfl))))))))) rfl (by rw [fmC]; first | (rw [if_pos (by omega)]; done) | (rw [if_neg (by omega)]; done)) (ih_14)
    · have c_18 : ¬ ((bt th i_12 : Int) = 0) := c_18
      refine Zn.seg (pc2 := 88) (ls2 := [some (za (A 0)), some (zi (s : Int)), some (zi l), some (zi (i : Int)), some (za so), some (zi (2 * (pop th : Int))), some (zi (rfV he la sz l (i : Int) (2 * (pop th : Int)))), some (zi ((i + 2 * popN th i_12 : Nat) : Int)), some (zi (i_12 : Int))]) (st2 := [zi ((i_12 : Int) - 6), zi ((i + 2 * popN th i_12 : Nat) : Int), za so]) [(79, .aload 4), (81, .iload 7), (83, .iload 8), (85, .bipush 6), (87, .isub)] (by decide +kernel) rfl ?_
      refine Zn.i2l (by decide +kernel) ⟨by omega, by omega⟩ ?_
      refine Zn.call (ins := .invokevirtual 316) [za so, zi ((i + 2 * popN th i_12 : Nat) : Int), zj ((i_12 : Int) - 6)] [] (by decide +kernel) rfl rfl rfl ⟨rfl, rfl⟩ ⟨rfl, rfl, rfl⟩ rfl (zrecvV hD (p := 4) rfl rfl rfl) (sp_X5_put (o := so) (ia := si) (i := (i + 2 * popN th i_12)) (he := he) (la := la) (sz := sz) (z := (i_12 : Int) - 6) (it := fmC la th Y it i i_12) (zov_get hD 4 rfl) (zov_get hD 5 rfl) (nd_sub hD [4, 5] rfl rfl) (hsz) (hla) (by omega)) (fun v h2 hp => ?_)
      obtain ⟨rfl, hq_19⟩ := hp
      refine Zn.eq (pc2 := 92) (ls2 := [some (za (A 0)), some (zi (s : Int)), some (zi l), some (zi (i : Int)), some (za so), some (zi (2 * (pop th : Int))), some (zi (rfV he la sz l (i : Int) (2 * (pop th : Int)))), some (zi ((i + 2 * popN th i_12 : Nat) : Int)), some (zi (i_12 : Int))]) (st2 := []) (h2 := zov ([((A 0), .inr (7, [za (A 1), za (A 4), za (A 24), za (A 27), zi kt, za (A 47), za (A 49), za (A 52), za (A 63), za (A 68), za (A 72)])), ((A 1), .inr (4, [za (A 2), za (A 3), zi (th : Int), zi (fx : Int), zi (d : Int), zi (w : Int)])), ((A 2), .inl (0, 13, .inl Y)), ((A 72), .inl (3, 4, .inr f)), (so, .inr (5, [za si, zi he, zi la, zi sz])), (si, .inl (1, 24, .inl (va_up (fmC la th Y it i i_12) (i + 2 * popN th i_12) (castV la ((i_12 : Int) - 6)))))]) h) rfl rfl rfl (hq_19.trans (zov_put hD [4, 5] _ rfl)) ?_
      have hD : zND ([((A 0), .inr (7, [za (A 1), za (A 4), za (A 24), za (A 27), zi kt, za (A 47), za (A 49), za (A 52), za (A 63), za (A 68), za (A 72)])), ((A 1), .inr (4, [za (A 2), za (A 3), zi (th : Int), zi (fx : Int), zi (d : Int), zi (w : Int)])), ((A 2), .inl (0, 13, .inl Y)), ((A 72), .inl (3, 4, .inr f)), (so, .inr (5, [za si, zi he, zi la, zi sz])), (si, .inl (1, 24, .inl (va_up (fmC la th Y it i i_12) (i + 2 * popN th i_12) (castV la ((i_12 : Int) - 6)))))]) := hD
      refine Zn.seg (pc2 := 98) (ls2 := [some (za (A 0)), some (zi (s : Int)), some (zi l), some (zi (i : Int)), some (za so), some (zi (2 * (pop th : Int))), some (zi (rfV he la sz l (i : Int) (2 * (pop th : Int)))), some (zi ((i + 2 * popN th i_12 : Nat) : Int)), some (zi (i_12 : Int))]) (st2 := [zi (((i + 2 * popN th i_12 : Nat) : Int) + 1), za so]) [(92, .aload 4), (94, .iload 7), (96, .iconst 1), (97, .iadd)] (by decide +kernel) rfl ?_
      refine Zn.topi (y := ((i + 2 * popN th i_12 + 1 : Nat) : Int)) (by omega) ?_
      refine Zn.seg (pc2 := 99) (ls2 := [some (za (A 0)), some (zi (s : Int)), some (zi l), some (zi (i : Int)), some (za so), some (zi (2 * (pop th : Int))), some (zi (rfV he la sz l (i : Int) (2 * (pop th : Int)))), some (zi ((i + 2 * popN th i_12 : Nat) : Int)), some (zi (i_12 : Int))]) (st2 := [za (A 0), zi ((i + 2 * popN th i_12 + 1 : Nat) : Int), za so]) [(98, .aload_n 0)] (by decide +kernel) rfl ?_
      refine Zn.get (ix := 12) hD 0 (by decide +kernel) rfl rfl rfl ?_
      refine Zn.seg (pc2 := 104) (ls2 := [some (za (A 0)), some (zi (s : Int)), some (zi l), some (zi (i : Int)), some (za so), some (zi (2 * (pop th : Int))), some (zi (rfV he la sz l (i : Int) (2 * (pop th : Int)))), some (zi ((i + 2 * popN th i_12 : Nat) : Int)), some (zi (i_12 : Int))]) (st2 := [zi (i_12 : Int), za (A 1), zi ((i + 2 * popN th i_12 + 1 : Nat) : Int), za so]) [(102, .iload 8)] (by decide +kernel) rfl ?_
      refine Zn.call (ins := .invokevirtual 81) [za (A 1), zi (i_12 : Int)] [zi ((i + 2 * popN th i_12 + 1 : Nat) : Int), za so] (by decide +kernel) rfl rfl rfl ⟨rfl, rfl⟩ ⟨rfl, rfl, rfl⟩ rfl (zrecvV hD (p := 1) rfl rfl rfl) (sp_X4_yAt (o := (A 1)) (ya := (A 2)) (qa := (A 3)) (th := th) (fx := fx) (d := d) (w := w) (p := i_12) (Y := Y) (zov_get hD 1 rfl) (zov_get hD 2 rfl) (nd_sub hD [1, 2] rfl rfl) (hi_)) (fun v h2 hp => ?_)
      obtain ⟨rfl, hq_20⟩ := hp
      refine Zn.eq (pc2 := 107) (ls2 := [some (za (A 0)), some (zi (s : Int)), some (zi l), some (zi (i : Int)), some (za so), some (zi (2 * (pop th : Int))), some (zi (rfV he la sz l (i : Int) (2 * (pop th : Int)))), some (zi ((i + 2 * popN th i_12 : Nat) : Int)), some (zi (i_12 : Int))]) (st2 := [zi (Y i_12), zi ((i + 2 * popN th i_12 + 1 : Nat) : Int), za so]) (h2 := zov ([((A 0), .inr (7, [za (A 1), za (A 4), za (A 24), za (A 27), zi kt, za (A 47), za (A 49), za (A 52), za (A 63), za (A 68), za (A 72)])), ((A 1), .inr (4, [za (A 2), za (A 3), zi (th : Int), zi (fx : Int), zi (d : Int), zi (w : Int)])), ((A 2), .inl (0, 13, .inl Y)), ((A 72), .inl (3, 4, .inr f)), (so, .inr (5, [za si, zi he, zi la, zi sz])), (si, .inl (1, 24, .inl (va_up (fmC la th Y it i i_12) (i + 2 * popN th i_12) (castV la ((i_12 : Int) - 6)))))]) h) rfl rfl rfl hq_20 ?_
      have hD : zND ([((A 0), .inr (7, [za (A 1), za (A 4), za (A 24), za (A 27), zi kt, za (A 47), za (A 49), za (A 52), za (A 63), za (A 68), za (A 72)])), ((A 1), .inr (4, [za (A 2), za (A 3), zi (th : Int), zi (fx : Int), zi (d : Int), zi (w : Int)])), ((A 2), .inl (0, 13, .inl Y)), ((A 72), .inl (3, 4, .inr f)), (so, .inr (5, [za si, zi he, zi la, zi sz])), (si, .inl (1, 24, .inl (va_up (fmC la th Y it i i_12) (i + 2 * popN th i_12) (castV la ((i_12 : Int) - 6)))))]) := hD
      refine Zn.i2l (by decide +kernel) (hY _ hi_) ?_
      refine Zn.call (ins := .invokevirtual 316) [za so, zi ((i + 2 * popN th i_12 + 1 : Nat) : Int), zj (Y i_12)] [] (by decide +kernel) rfl rfl rfl ⟨rfl, rfl⟩ ⟨rfl, rfl, rfl⟩ rfl (zrecvV hD (p := 4) rfl rfl rfl) (sp_X5_put (o := so) (ia := si) (i := (i + 2 * popN th i_12 + 1)) (he := he) (la := la) (sz := sz) (z := Y i_12) (it := va_up (fmC la th Y it i i_12) (i + 2 * popN th i_12) (castV la ((i_12 : Int) - 6))) (zov_get hD 4 rfl) (zov_get hD 5 rfl) (nd_sub hD [4, 5] rfl rfl) (hsz) (hla) (by omega)) (fun v h2 hp => ?_)
      obtain ⟨rfl, hq_21⟩ := hp
      refine Zn.eq (pc2 := 111) (ls2 := [some (za (A 0)), some (zi (s : Int)), some (zi l), some (zi (i : Int)), some (za so), some (zi (2 * (pop th : Int))), some (zi (rfV he la sz l (i : Int) (2 * (pop th : Int)))), some (zi ((i + 2 * popN th i_12 : Nat) : Int)), some (zi (i_12 : Int))]) (st2 := []) (h2 := zov ([((A 0), .inr (7, [za (A 1), za (A 4), za (A 24), za (A 27), zi kt, za (A 47), za (A 49), za (A 52), za (A 63), za (A 68), za (A 72)])), ((A 1), .inr (4, [za (A 2), za (A 3), zi (th : Int), zi (fx : Int), zi (d : Int), zi (w : Int)])), ((A 2), .inl (0, 13, .inl Y)), ((A 72), .inl (3, 4, .inr f)), (so, .inr (5, [za si, zi he, zi la, zi sz])), (si, .inl (1, 24, .inl (va_up (va_up (fmC la th Y it i i_12) (i + 2 * popN th i_12) (castV la ((i_12 : Int) - 6))) (i + 2 * popN th i_12 + 1) (castV la (Y i_12)))))]) h) rfl rfl rfl (hq_21.trans (zov_put hD [4, 5] _ rfl)) ?_
      have hD : zND ([((A 0), .inr (7, [za (A 1), za (A 4), za (A 24), za (A 27), zi kt, za (A 47), za (A 49), za (A 52), za (A 63), za (A 68), za (A 72)])), ((A 1), .inr (4, [za (A 2), za (A 3), zi (th : Int), zi (fx : Int), zi (d : Int), zi (w : Int)])), ((A 2), .inl (0, 13, .inl Y)), ((A 72), .inl (3, 4, .inr f)), (so, .inr (5, [za si, zi he, zi la, zi sz])), (si, .inl (1, 24, .inl (va_up (va_up (fmC la th Y it i i_12) (i + 2 * popN th i_12) (castV la ((i_12 : Int) - 6))) (i + 2 * popN th i_12 + 1) (castV la (Y i_12)))))]) := hD
      refine Zn.seg (pc2 := 60) (ls2 := [some (za (A 0)), some (zi (s : Int)), some (zi l), some (zi (i : Int)), some (za so), some (zi (2 * (pop th : Int))), some (zi (rfV he la sz l (i : Int) (2 * (pop th : Int)))), some (zi (((i + 2 * popN th i_12 : Nat) : Int) + 2)), some (zi ((i_12 : Int) + 1))]) (st2 := []) [(111, .iinc 7 2), (114, .iinc 8 1), (117, .goto (-57))] (by decide +kernel) rfl ?_
      exact Zn.eq rfl (zcons rfl (zcons rfl (zcons rfl (zcons rfl (zcons rfl (zcons rfl (zcons rfl (zcons (congrArg (fun z => some (zi z)) (by rw [popN]; omega)) (zcons (congrArg (fun z => some (zi z)) (by omega)) rfl))))))))) rfl (by rw [fmC]; first | (rw [if_pos (by omega)]; done) | (rw [if_neg (by omega)]; done)) (ih_14)
  · skip
    have hD : zND ([((A 0), .inr (7, [za (A 1), za (A 4), za (A 24), za (A 27), zi kt, za (A 47), za (A 49), za (A 52), za (A 63), za (A 68), za (A 72)])), ((A 1), .inr (4, [za (A 2), za (A 3), zi (th : Int), zi (fx : Int), zi (d : Int), zi (w : Int)])), ((A 2), .inl (0, 13, .inl Y)), ((A 72), .inl (3, 4, .inr f)), (so, .inr (5, [za si, zi he, zi la, zi sz])), (si, .inl (1, 24, .inl (fmC la th Y it i 13)))]) := hD
    refine Zn.seg (pc2 := 64) (ls2 := [some (za (A 0)), some (zi (s : Int)), some (zi l), some (zi (i : Int)), some (za so), some (zi (2 * (pop th : Int))), some (zi (rfV he la sz l (i : Int) (2 * (pop th : Int)))), some (zi ((i + 2 * popN th 13 : Nat) : Int)), some (zi (13 : Int))]) (st2 := [zi 13, zi (13 : Int)]) [(60, .iload 8), (62, .bipush 13)] (by decide +kernel) rfl ?_
    refine Zn.icmp (c := .ge) (off := 56) 120 (by decide +kernel) rfl ⟨by omega, by omega⟩ ⟨by decide, by decide⟩ (fun c_22 => ?_) (fun c_22 => absurd (show 13 ≤ (13 : Int) from by decide) c_22)
    have c_22 : 13 ≤ (13 : Int) := c_22
    refine Zn.seg (pc2 := 122) (ls2 := [some (za (A 0)), some (zi (s : Int)), some (zi l), some (zi (i : Int)), some (za so), some (zi (2 * (pop th : Int))), some (zi (rfV he la sz l (i : Int) (2 * (pop th : Int)))), some (zi ((i + 2 * popN th 13 : Nat) : Int)), some (zi (13 : Int))]) (st2 := [zi (2 * (pop th : Int))]) [(120, .iload 5)] (by decide +kernel) rfl ?_
    exact Zn.iret (by decide +kernel) rfl (⟨by first | rfl | (refine congrArg some (congrArg zi ?_); first | omega | (simp_all; done) | (simp_all; omega)), rfl⟩)
theorem sp_X7_sheet_bad {h : xH} {A : Nat → Nat} {s l n : Int} (zs : zInI s) (zl : zInI l) (zn : zInI n) (hb : ¬ (0 ≤ s ∧ s ≤ 3) ∨ ¬ (0 ≤ l ∧ l ≤ 3) ∨ 24 < n) : zEv k_X7_sheet [za (A 0), zi s, zi l, zi n] h (fun v h2 => v = some (zi (-1)) ∧ h2 = h) := by
  have hD : ([] : List Nat).Nodup := List.nodup_nil
  have hh : h = zov [] h := zov_self (fun _ q => absurd q List.not_mem_nil)
  have zs1 := zs.1
  have zs2 := zs.2
  have zl1 := zl.1
  have zl2 := zl.2
  have zn1 := zn.1
  have zn2 := zn.2
  refine zEv.body (I := (7, xI_X7_sheet, 4, 1, 23, 0, 0, false)) (rt := (some .int)) [some (za (A 0)), some (zi s), some (zi l), some (zi n)] rfl rfl rfl rfl ?_
  refine Zn.eq rfl rfl rfl hh ?_
  have hD : zND ([]) := hD
  refine Zn.seg (pc2 := 1) (ls2 := [some (za (A 0)), some (zi s), some (zi l), some (zi n)]) (st2 := [zi s]) [(0, .iload_n 1)] (by decide +kernel) rfl ?_
  refine Zn.call (ins := .invokestatic 294) [zi s] [] (by decide +kernel) rfl rfl rfl ⟨rfl, rfl⟩ ⟨rfl, rfl, rfl⟩ rfl (zrecvS (by decide)) (sp_X7_isSheet (x := s) (by first | assumption | exact ⟨by omega, by omega⟩)) (fun v h2 hp => ?_)
  obtain ⟨rfl, hq_1⟩ := hp
  refine Zn.eq (pc2 := 4) (ls2 := [some (za (A 0)), some (zi s), some (zi l), some (zi n)]) (st2 := [zi (inB (0) 3 s)]) (h2 := zov ([]) h) rfl rfl rfl hq_1 ?_
  have hD : zND ([]) := hD
  have q_2 := inB_spec (0) 3 s
  refine Zn.ifc (c := .eq) (off := 16) 20 (by decide +kernel) rfl ⟨by omega, by omega⟩ (fun c_3 => ?_) (fun c_3 => ?_)
  · have c_3 : inB (0) 3 s = 0 := c_3
    refine Zn.seg (pc2 := 21) (ls2 := [some (za (A 0)), some (zi s), some (zi l), some (zi n)]) (st2 := [zi (-1)]) [(20, .iconst (-1))] (by decide +kernel) rfl ?_
    exact Zn.iret (by decide +kernel) rfl (⟨by first | rfl | (refine congrArg some (congrArg zi ?_); first | omega | (simp_all; done) | (simp_all; omega)), hh.symm⟩)
  · have c_3 : ¬ (inB (0) 3 s = 0) := c_3
    refine Zn.seg (pc2 := 8) (ls2 := [some (za (A 0)), some (zi s), some (zi l), some (zi n)]) (st2 := [zi l]) [(7, .iload_n 2)] (by decide +kernel) rfl ?_
    refine Zn.call (ins := .invokestatic 297) [zi l] [] (by decide +kernel) rfl rfl rfl ⟨rfl, rfl⟩ ⟨rfl, rfl, rfl⟩ rfl (zrecvS (by decide)) (sp_X7_isLane (x := l) (by first | assumption | exact ⟨by omega, by omega⟩)) (fun v h2 hp => ?_)
    obtain ⟨rfl, hq_4⟩ := hp
    refine Zn.eq (pc2 := 11) (ls2 := [some (za (A 0)), some (zi s), some (zi l), some (zi n)]) (st2 := [zi (inB (0) 3 l)]) (h2 := zov ([]) h) rfl rfl rfl hq_4 ?_
    have hD : zND ([]) := hD
    have q_5 := inB_spec (0) 3 l
    refine Zn.ifc (c := .eq) (off := 9) 20 (by decide +kernel) rfl ⟨by omega, by omega⟩ (fun c_6 => ?_) (fun c_6 => ?_)
    · have c_6 : inB (0) 3 l = 0 := c_6
      refine Zn.seg (pc2 := 21) (ls2 := [some (za (A 0)), some (zi s), some (zi l), some (zi n)]) (st2 := [zi (-1)]) [(20, .iconst (-1))] (by decide +kernel) rfl ?_
      exact Zn.iret (by decide +kernel) rfl (⟨by first | rfl | (refine congrArg some (congrArg zi ?_); first | omega | (simp_all; done) | (simp_all; omega)), hh.symm⟩)
    · have c_6 : ¬ (inB (0) 3 l = 0) := c_6
      refine Zn.seg (pc2 := 17) (ls2 := [some (za (A 0)), some (zi s), some (zi l), some (zi n)]) (st2 := [zi 24, zi n]) [(14, .iload_n 3), (15, .bipush 24)] (by decide +kernel) rfl ?_
      refine Zn.icmp (c := .le) (off := 5) 22 (by decide +kernel) rfl ⟨by omega, by omega⟩ ⟨by decide, by decide⟩ (fun c_7 => absurd (show n ≤ 24 from c_7) (by omega)) (fun c_7 => ?_)
      have c_7 : ¬ (n ≤ 24) := c_7
      refine Zn.seg (pc2 := 21) (ls2 := [some (za (A 0)), some (zi s), some (zi l), some (zi n)]) (st2 := [zi (-1)]) [(20, .iconst (-1))] (by decide +kernel) rfl ?_
      exact Zn.iret (by decide +kernel) rfl (⟨by first | rfl | (refine congrArg some (congrArg zi ?_); first | omega | (simp_all; done) | (simp_all; omega)), hh.symm⟩)
theorem sp_X7_sheet_size {h : xH} {A : Nat → Nat} {s l n : Int} (hs4 : 0 ≤ s ∧ s ≤ 3) (hl : 0 ≤ l ∧ l ≤ 3) (zn : zInI n) (hb : n < 0) : zEv k_X7_sheet [za (A 0), zi s, zi l, zi n] h (fun v h2 => v = some (zi (-14)) ∧ h2 = h) := by
  have hD : ([] : List Nat).Nodup := List.nodup_nil
  have hh : h = zov [] h := zov_self (fun _ q => absurd q List.not_mem_nil)
  have zn1 := zn.1
  have zn2 := zn.2
  refine zEv.body (I := (7, xI_X7_sheet, 4, 1, 23, 0, 0, false)) (rt := (some .int)) [some (za (A 0)), some (zi s), some (zi l), some (zi n)] rfl rfl rfl rfl ?_
  refine Zn.eq rfl rfl rfl hh ?_
  have hD : zND ([]) := hD
  refine Zn.seg (pc2 := 1) (ls2 := [some (za (A 0)), some (zi s), some (zi l), some (zi n)]) (st2 := [zi s]) [(0, .iload_n 1)] (by decide +kernel) rfl ?_
  refine Zn.call (ins := .invokestatic 294) [zi s] [] (by decide +kernel) rfl rfl rfl ⟨rfl, rfl⟩ ⟨rfl, rfl, rfl⟩ rfl (zrecvS (by decide)) (sp_X7_isSheet (x := s) (by first | assumption | exact ⟨by omega, by omega⟩)) (fun v h2 hp => ?_)
  obtain ⟨rfl, hq_1⟩ := hp
  refine Zn.eq (pc2 := 4) (ls2 := [some (za (A 0)), some (zi s), some (zi l), some (zi n)]) (st2 := [zi (inB (0) 3 s)]) (h2 := zov ([]) h) rfl rfl rfl hq_1 ?_
  have hD : zND ([]) := hD
  have q_2 := inB_spec (0) 3 s
  refine Zn.ifc (c := .eq) (off := 16) 20 (by decide +kernel) rfl ⟨by omega, by omega⟩ (fun c_3 => absurd (show inB (0) 3 s = 0 from c_3) (by omega)) (fun c_3 => ?_)
  have c_3 : ¬ (inB (0) 3 s = 0) := c_3
  refine Zn.seg (pc2 := 8) (ls2 := [some (za (A 0)), some (zi s), some (zi l), some (zi n)]) (st2 := [zi l]) [(7, .iload_n 2)] (by decide +kernel) rfl ?_
  refine Zn.call (ins := .invokestatic 297) [zi l] [] (by decide +kernel) rfl rfl rfl ⟨rfl, rfl⟩ ⟨rfl, rfl, rfl⟩ rfl (zrecvS (by decide)) (sp_X7_isLane (x := l) (by first | assumption | exact ⟨by omega, by omega⟩)) (fun v h2 hp => ?_)
  obtain ⟨rfl, hq_4⟩ := hp
  refine Zn.eq (pc2 := 11) (ls2 := [some (za (A 0)), some (zi s), some (zi l), some (zi n)]) (st2 := [zi (inB (0) 3 l)]) (h2 := zov ([]) h) rfl rfl rfl hq_4 ?_
  have hD : zND ([]) := hD
  have q_5 := inB_spec (0) 3 l
  refine Zn.ifc (c := .eq) (off := 9) 20 (by decide +kernel) rfl ⟨by omega, by omega⟩ (fun c_6 => absurd (show inB (0) 3 l = 0 from c_6) (by omega)) (fun c_6 => ?_)
  have c_6 : ¬ (inB (0) 3 l = 0) := c_6
  refine Zn.seg (pc2 := 17) (ls2 := [some (za (A 0)), some (zi s), some (zi l), some (zi n)]) (st2 := [zi 24, zi n]) [(14, .iload_n 3), (15, .bipush 24)] (by decide +kernel) rfl ?_
  refine Zn.icmp (c := .le) (off := 5) 22 (by decide +kernel) rfl ⟨by omega, by omega⟩ ⟨by decide, by decide⟩ (fun c_7 => ?_) (fun c_7 => absurd (show n ≤ 24 from by omega) c_7)
  have c_7 : n ≤ 24 := c_7
  refine Zn.seg (pc2 := 23) (ls2 := [some (za (A 0)), some (zi s), some (zi l), some (zi n)]) (st2 := [zi n]) [(22, .iload_n 3)] (by decide +kernel) rfl ?_
  refine Zn.ifc (c := .ge) (off := 6) 29 (by decide +kernel) rfl ⟨by omega, by omega⟩ (fun c_8 => absurd (show 0 ≤ n from c_8) (by omega)) (fun c_8 => ?_)
  have c_8 : ¬ (0 ≤ n) := c_8
  refine Zn.seg (pc2 := 28) (ls2 := [some (za (A 0)), some (zi s), some (zi l), some (zi n)]) (st2 := [zi (-14)]) [(26, .bipush (-14))] (by decide +kernel) rfl ?_
  exact Zn.iret (by decide +kernel) rfl (⟨by first | rfl | (refine congrArg some (congrArg zi ?_); first | omega | (simp_all; done) | (simp_all; omega)), hh.symm⟩)
theorem sp_X7_sheet_ok {h : xH} {A : Nat → Nat} {kt he la sz : Int} {so si s : Nat} {f : Nat → Option Nat} {it : Nat → Int} {l n : Int} (hc0 : h (A 0) = zcE (.inr (7, [za (A 1), za (A 4), za (A 24), za (A 27), zi kt, za (A 47), za (A 49), za (A 52), za (A 63), za (A 68), za (A 72)]))) (hc1 : h (A 72) = zcE (.inl (3, 4, .inr f))) (hc2 : h so = zcE (.inr (5, [za si, zi he, zi la, zi sz]))) (hc3 : h si = zcE (.inl (1, 24, .inl it))) (hD : [(A 0), (A 72), so, si].Nodup) (hs4 : s < 4) (hf : f s = some so) (hl : 0 ≤ l ∧ l ≤ 3) (hn : 0 ≤ n ∧ n ≤ 24) : zEv k_X7_sheet [za (A 0), zi (s : Int), zi l, zi n] h (fun v h2 => v = some (zi n) ∧ h2 = zov [((A 0), .inr (7, [za (A 1), za (A 4), za (A 24), za (A 27), zi kt, za (A 47), za (A 49), za (A 52), za (A 63), za (A 68), za (A 72)])), ((A 72), .inl (3, 4, .inr f)), (so, .inr (5, [za si, zi 1, zi l, zi n])), (si, .inl (1, 24, .inl (cpF zF it 24)))] h) := by
  have hh : h = zov [((A 0), .inr (7, [za (A 1), za (A 4), za (A 24), za (A 27), zi kt, za (A 47), za (A 49), za (A 52), za (A 63), za (A 68), za (A 72)])), ((A 72), .inl (3, 4, .inr f)), (so, .inr (5, [za si, zi he, zi la, zi sz])), (si, .inl (1, 24, .inl it))] h := zov_self (List.forall_mem_cons.mpr ⟨hc0, List.forall_mem_cons.mpr ⟨hc1, List.forall_mem_cons.mpr ⟨hc2, List.forall_mem_cons.mpr ⟨hc3, fun _ q => absurd q List.not_mem_nil⟩⟩⟩⟩)
  refine zEv.body (I := (7, xI_X7_sheet, 4, 1, 23, 0, 0, false)) (rt := (some .int)) [some (za (A 0)), some (zi (s : Int)), some (zi l), some (zi n)] rfl rfl rfl rfl ?_
  refine Zn.eq rfl rfl rfl hh ?_
  have hD : zND ([((A 0), .inr (7, [za (A 1), za (A 4), za (A 24), za (A 27), zi kt, za (A 47), za (A 49), za (A 52), za (A 63), za (A 68), za (A 72)])), ((A 72), .inl (3, 4, .inr f)), (so, .inr (5, [za si, zi he, zi la, zi sz])), (si, .inl (1, 24, .inl it))]) := hD
  refine Zn.seg (pc2 := 1) (ls2 := [some (za (A 0)), some (zi (s : Int)), some (zi l), some (zi n)]) (st2 := [zi (s : Int)]) [(0, .iload_n 1)] (by decide +kernel) rfl ?_
  refine Zn.call (ins := .invokestatic 294) [zi (s : Int)] [] (by decide +kernel) rfl rfl rfl ⟨rfl, rfl⟩ ⟨rfl, rfl, rfl⟩ rfl (zrecvS (by decide)) (sp_X7_isSheet (x := (s : Int)) (by first | assumption | exact ⟨by omega, by omega⟩)) (fun v h2 hp => ?_)
  obtain ⟨rfl, hq_1⟩ := hp
  refine Zn.eq (pc2 := 4) (ls2 := [some (za (A 0)), some (zi (s : Int)), some (zi l), some (zi n)]) (st2 := [zi (inB (0) 3 (s : Int))]) (h2 := zov ([((A 0), .inr (7, [za (A 1), za (A 4), za (A 24), za (A 27), zi kt, za (A 47), za (A 49), za (A 52), za (A 63), za (A 68), za (A 72)])), ((A 72), .inl (3, 4, .inr f)), (so, .inr (5, [za si, zi he, zi la, zi sz])), (si, .inl (1, 24, .inl it))]) h) rfl rfl rfl hq_1 ?_
  have hD : zND ([((A 0), .inr (7, [za (A 1), za (A 4), za (A 24), za (A 27), zi kt, za (A 47), za (A 49), za (A 52), za (A 63), za (A 68), za (A 72)])), ((A 72), .inl (3, 4, .inr f)), (so, .inr (5, [za si, zi he, zi la, zi sz])), (si, .inl (1, 24, .inl it))]) := hD
  have q_2 := inB_spec (0) 3 (s : Int)
  refine Zn.ifc (c := .eq) (off := 16) 20 (by decide +kernel) rfl ⟨by omega, by omega⟩ (fun c_3 => absurd (show inB (0) 3 (s : Int) = 0 from c_3) (by omega)) (fun c_3 => ?_)
  have c_3 : ¬ (inB (0) 3 (s : Int) = 0) := c_3
  refine Zn.seg (pc2 := 8) (ls2 := [some (za (A 0)), some (zi (s : Int)), some (zi l), some (zi n)]) (st2 := [zi l]) [(7, .iload_n 2)] (by decide +kernel) rfl ?_
  refine Zn.call (ins := .invokestatic 297) [zi l] [] (by decide +kernel) rfl rfl rfl ⟨rfl, rfl⟩ ⟨rfl, rfl, rfl⟩ rfl (zrecvS (by decide)) (sp_X7_isLane (x := l) (by first | assumption | exact ⟨by omega, by omega⟩)) (fun v h2 hp => ?_)
  obtain ⟨rfl, hq_4⟩ := hp
  refine Zn.eq (pc2 := 11) (ls2 := [some (za (A 0)), some (zi (s : Int)), some (zi l), some (zi n)]) (st2 := [zi (inB (0) 3 l)]) (h2 := zov ([((A 0), .inr (7, [za (A 1), za (A 4), za (A 24), za (A 27), zi kt, za (A 47), za (A 49), za (A 52), za (A 63), za (A 68), za (A 72)])), ((A 72), .inl (3, 4, .inr f)), (so, .inr (5, [za si, zi he, zi la, zi sz])), (si, .inl (1, 24, .inl it))]) h) rfl rfl rfl hq_4 ?_
  have hD : zND ([((A 0), .inr (7, [za (A 1), za (A 4), za (A 24), za (A 27), zi kt, za (A 47), za (A 49), za (A 52), za (A 63), za (A 68), za (A 72)])), ((A 72), .inl (3, 4, .inr f)), (so, .inr (5, [za si, zi he, zi la, zi sz])), (si, .inl (1, 24, .inl it))]) := hD
  have q_5 := inB_spec (0) 3 l
  refine Zn.ifc (c := .eq) (off := 9) 20 (by decide +kernel) rfl ⟨by omega, by omega⟩ (fun c_6 => absurd (show inB (0) 3 l = 0 from c_6) (by omega)) (fun c_6 => ?_)
  have c_6 : ¬ (inB (0) 3 l = 0) := c_6
  refine Zn.seg (pc2 := 17) (ls2 := [some (za (A 0)), some (zi (s : Int)), some (zi l), some (zi n)]) (st2 := [zi 24, zi n]) [(14, .iload_n 3), (15, .bipush 24)] (by decide +kernel) rfl ?_
  refine Zn.icmp (c := .le) (off := 5) 22 (by decide +kernel) rfl ⟨by omega, by omega⟩ ⟨by decide, by decide⟩ (fun c_7 => ?_) (fun c_7 => absurd (show n ≤ 24 from by omega) c_7)
  have c_7 : n ≤ 24 := c_7
  refine Zn.seg (pc2 := 23) (ls2 := [some (za (A 0)), some (zi (s : Int)), some (zi l), some (zi n)]) (st2 := [zi n]) [(22, .iload_n 3)] (by decide +kernel) rfl ?_
  refine Zn.ifc (c := .ge) (off := 6) 29 (by decide +kernel) rfl ⟨by omega, by omega⟩ (fun c_8 => ?_) (fun c_8 => absurd (show 0 ≤ n from by omega) c_8)
  have c_8 : 0 ≤ n := c_8
  refine Zn.seg (pc2 := 30) (ls2 := [some (za (A 0)), some (zi (s : Int)), some (zi l), some (zi n)]) (st2 := [za (A 0)]) [(29, .aload_n 0)] (by decide +kernel) rfl ?_
  refine Zn.get (ix := 66) hD 0 (by decide +kernel) rfl rfl rfl ?_
  refine Zn.seg (pc2 := 34) (ls2 := [some (za (A 0)), some (zi (s : Int)), some (zi l), some (zi n)]) (st2 := [zi (s : Int), za (A 72)]) [(33, .iload_n 1)] (by decide +kernel) rfl ?_
  refine Zn.aald hD 1 (s) (by decide +kernel) rfl rfl (by omega) (by omega) rfl (b := so) (hf) ?_
  refine Zn.seg (pc2 := 37) (ls2 := [some (za (A 0)), some (zi (s : Int)), some (zi l), some (zi n)]) (st2 := [zi n, zi l, za so]) [(35, .iload_n 2), (36, .iload_n 3)] (by decide +kernel) rfl ?_
  refine Zn.call (ins := .invokevirtual 319) [za so, zi l, zi n] [] (by decide +kernel) rfl rfl rfl ⟨rfl, rfl⟩ ⟨rfl, rfl, rfl⟩ rfl (zrecvV hD (p := 2) rfl rfl rfl) (sp_X5_begin (o := so) (ia := si) (he := he) (la := la) (sz := sz) (l := l) (n := n) (it := it) (zov_get hD 2 rfl) (zov_get hD 3 rfl) (nd_sub hD [2, 3] rfl rfl)) (fun v h2 hp => ?_)
  obtain ⟨rfl, hq_9⟩ := hp
  refine Zn.eq (pc2 := 40) (ls2 := [some (za (A 0)), some (zi (s : Int)), some (zi l), some (zi n)]) (st2 := []) (h2 := zov ([((A 0), .inr (7, [za (A 1), za (A 4), za (A 24), za (A 27), zi kt, za (A 47), za (A 49), za (A 52), za (A 63), za (A 68), za (A 72)])), ((A 72), .inl (3, 4, .inr f)), (so, .inr (5, [za si, zi 1, zi l, zi n])), (si, .inl (1, 24, .inl (cpF zF it 24)))]) h) rfl rfl rfl (hq_9.trans (zov_put hD [2, 3] _ rfl)) ?_
  have hD : zND ([((A 0), .inr (7, [za (A 1), za (A 4), za (A 24), za (A 27), zi kt, za (A 47), za (A 49), za (A 52), za (A 63), za (A 68), za (A 72)])), ((A 72), .inl (3, 4, .inr f)), (so, .inr (5, [za si, zi 1, zi l, zi n])), (si, .inl (1, 24, .inl (cpF zF it 24)))]) := hD
  refine Zn.seg (pc2 := 41) (ls2 := [some (za (A 0)), some (zi (s : Int)), some (zi l), some (zi n)]) (st2 := [zi n]) [(40, .iload_n 3)] (by decide +kernel) rfl ?_
  exact Zn.iret (by decide +kernel) rfl (⟨by first | rfl | (refine congrArg some (congrArg zi ?_); first | omega | (simp_all; done) | (simp_all; omega)), rfl⟩)
theorem sp_X7_drop_bad {h : xH} {A : Nat → Nat} {s : Int} (zs : zInI s) (hb : ¬ (0 ≤ s ∧ s ≤ 3)) : zEv k_X7_drop [za (A 0), zi s] h (fun v h2 => v = some (zi (-1)) ∧ h2 = h) := by
  have hD : ([] : List Nat).Nodup := List.nodup_nil
  have hh : h = zov [] h := zov_self (fun _ q => absurd q List.not_mem_nil)
  have zs1 := zs.1
  have zs2 := zs.2
  refine zEv.body (I := (7, xI_X7_drop, 3, 1, 20, 0, 0, false)) (rt := (some .int)) [some (za (A 0)), some (zi s), none] rfl rfl rfl rfl ?_
  refine Zn.eq rfl rfl rfl hh ?_
  have hD : zND ([]) := hD
  refine Zn.seg (pc2 := 1) (ls2 := [some (za (A 0)), some (zi s), none]) (st2 := [zi s]) [(0, .iload_n 1)] (by decide +kernel) rfl ?_
  refine Zn.call (ins := .invokestatic 294) [zi s] [] (by decide +kernel) rfl rfl rfl ⟨rfl, rfl⟩ ⟨rfl, rfl, rfl⟩ rfl (zrecvS (by decide)) (sp_X7_isSheet (x := s) (by first | assumption | exact ⟨by omega, by omega⟩)) (fun v h2 hp => ?_)
  obtain ⟨rfl, hq_1⟩ := hp
  refine Zn.eq (pc2 := 4) (ls2 := [some (za (A 0)), some (zi s), none]) (st2 := [zi (inB (0) 3 s)]) (h2 := zov ([]) h) rfl rfl rfl hq_1 ?_
  have hD : zND ([]) := hD
  have q_2 := inB_spec (0) 3 s
  refine Zn.ifc (c := .ne) (off := 5) 9 (by decide +kernel) rfl ⟨by omega, by omega⟩ (fun c_3 => absurd (show inB (0) 3 s ≠ 0 from c_3) (by omega)) (fun c_3 => ?_)
  have c_3 : ¬ (inB (0) 3 s ≠ 0) := c_3
  refine Zn.seg (pc2 := 8) (ls2 := [some (za (A 0)), some (zi s), none]) (st2 := [zi (-1)]) [(7, .iconst (-1))] (by decide +kernel) rfl ?_
  exact Zn.iret (by decide +kernel) rfl (⟨by first | rfl | (refine congrArg some (congrArg zi ?_); first | omega | (simp_all; done) | (simp_all; omega)), hh.symm⟩)
theorem sp_X7_drop_null {h : xH} {A : Nat → Nat} {kt la sz : Int} {so si s : Nat} {f : Nat → Option Nat} (hc0 : h (A 0) = zcE (.inr (7, [za (A 1), za (A 4), za (A 24), za (A 27), zi kt, za (A 47), za (A 49), za (A 52), za (A 63), za (A 68), za (A 72)]))) (hc1 : h (A 72) = zcE (.inl (3, 4, .inr f))) (hc2 : h so = zcE (.inr (5, [za si, zi 0, zi la, zi sz]))) (hD : [(A 0), (A 72), so].Nodup) (hs4 : s < 4) (hf : f s = some so) : zEv k_X7_drop [za (A 0), zi (s : Int)] h (fun v h2 => v = some (zi (-11)) ∧ h2 = h) := by
  have hh : h = zov [((A 0), .inr (7, [za (A 1), za (A 4), za (A 24), za (A 27), zi kt, za (A 47), za (A 49), za (A 52), za (A 63), za (A 68), za (A 72)])), ((A 72), .inl (3, 4, .inr f)), (so, .inr (5, [za si, zi 0, zi la, zi sz]))] h := zov_self (List.forall_mem_cons.mpr ⟨hc0, List.forall_mem_cons.mpr ⟨hc1, List.forall_mem_cons.mpr ⟨hc2, fun _ q => absurd q List.not_mem_nil⟩⟩⟩)
  refine zEv.body (I := (7, xI_X7_drop, 3, 1, 20, 0, 0, false)) (rt := (some .int)) [some (za (A 0)), some (zi (s : Int)), none] rfl rfl rfl rfl ?_
  refine Zn.eq rfl rfl rfl hh ?_
  have hD : zND ([((A 0), .inr (7, [za (A 1), za (A 4), za (A 24), za (A 27), zi kt, za (A 47), za (A 49), za (A 52), za (A 63), za (A 68), za (A 72)])), ((A 72), .inl (3, 4, .inr f)), (so, .inr (5, [za si, zi 0, zi la, zi sz]))]) := hD
  refine Zn.seg (pc2 := 1) (ls2 := [some (za (A 0)), some (zi (s : Int)), none]) (st2 := [zi (s : Int)]) [(0, .iload_n 1)] (by decide +kernel) rfl ?_
  refine Zn.call (ins := .invokestatic 294) [zi (s : Int)] [] (by decide +kernel) rfl rfl rfl ⟨rfl, rfl⟩ ⟨rfl, rfl, rfl⟩ rfl (zrecvS (by decide)) (sp_X7_isSheet (x := (s : Int)) (by first | assumption | exact ⟨by omega, by omega⟩)) (fun v h2 hp => ?_)
  obtain ⟨rfl, hq_1⟩ := hp
  refine Zn.eq (pc2 := 4) (ls2 := [some (za (A 0)), some (zi (s : Int)), none]) (st2 := [zi (inB (0) 3 (s : Int))]) (h2 := zov ([((A 0), .inr (7, [za (A 1), za (A 4), za (A 24), za (A 27), zi kt, za (A 47), za (A 49), za (A 52), za (A 63), za (A 68), za (A 72)])), ((A 72), .inl (3, 4, .inr f)), (so, .inr (5, [za si, zi 0, zi la, zi sz]))]) h) rfl rfl rfl hq_1 ?_
  have hD : zND ([((A 0), .inr (7, [za (A 1), za (A 4), za (A 24), za (A 27), zi kt, za (A 47), za (A 49), za (A 52), za (A 63), za (A 68), za (A 72)])), ((A 72), .inl (3, 4, .inr f)), (so, .inr (5, [za si, zi 0, zi la, zi sz]))]) := hD
  have q_2 := inB_spec (0) 3 (s : Int)
  refine Zn.ifc (c := .ne) (off := 5) 9 (by decide +kernel) rfl ⟨by omega, by omega⟩ (fun c_3 => ?_) (fun c_3 => absurd (show inB (0) 3 (s : Int) ≠ 0 from by omega) c_3)
  have c_3 : inB (0) 3 (s : Int) ≠ 0 := c_3
  refine Zn.seg (pc2 := 10) (ls2 := [some (za (A 0)), some (zi (s : Int)), none]) (st2 := [za (A 0)]) [(9, .aload_n 0)] (by decide +kernel) rfl ?_
  refine Zn.get (ix := 66) hD 0 (by decide +kernel) rfl rfl rfl ?_
  refine Zn.seg (pc2 := 14) (ls2 := [some (za (A 0)), some (zi (s : Int)), none]) (st2 := [zi (s : Int), za (A 72)]) [(13, .iload_n 1)] (by decide +kernel) rfl ?_
  refine Zn.aald hD 1 (s) (by decide +kernel) rfl rfl (by omega) (by omega) rfl (b := so) (hf) ?_
  refine Zn.seg (pc2 := 17) (ls2 := [some (za (A 0)), some (zi (s : Int)), some (za so)]) (st2 := [za so]) [(15, .astore_n 2), (16, .aload_n 2)] (by decide +kernel) rfl ?_
  refine Zn.get (ix := 322) hD 2 (by decide +kernel) rfl rfl rfl ?_
  refine Zn.ifc (c := .ne) (off := 6) 26 (by decide +kernel) rfl ⟨by decide, by decide⟩ (fun c_4 => absurd (show (0 : Int) ≠ 0 from c_4) (by decide)) (fun c_4 => ?_)
  have c_4 : ¬ ((0 : Int) ≠ 0) := c_4
  refine Zn.seg (pc2 := 25) (ls2 := [some (za (A 0)), some (zi (s : Int)), some (za so)]) (st2 := [zi (-11)]) [(23, .bipush (-11))] (by decide +kernel) rfl ?_
  exact Zn.iret (by decide +kernel) rfl (⟨by first | rfl | (refine congrArg some (congrArg zi ?_); first | omega | (simp_all; done) | (simp_all; omega)), hh.symm⟩)
theorem sp_X7_drop_ok {h : xH} {A : Nat → Nat} {kt la sz : Int} {so si s : Nat} {f : Nat → Option Nat} (hc0 : h (A 0) = zcE (.inr (7, [za (A 1), za (A 4), za (A 24), za (A 27), zi kt, za (A 47), za (A 49), za (A 52), za (A 63), za (A 68), za (A 72)]))) (hc1 : h (A 72) = zcE (.inl (3, 4, .inr f))) (hc2 : h so = zcE (.inr (5, [za si, zi 1, zi la, zi sz]))) (hD : [(A 0), (A 72), so].Nodup) (hs4 : s < 4) (hf : f s = some so) : zEv k_X7_drop [za (A 0), zi (s : Int)] h (fun v h2 => v = some (zi sz) ∧ h2 = zov [((A 0), .inr (7, [za (A 1), za (A 4), za (A 24), za (A 27), zi kt, za (A 47), za (A 49), za (A 52), za (A 63), za (A 68), za (A 72)])), ((A 72), .inl (3, 4, .inr f)), (so, .inr (5, [za si, zi 0, zi la, zi sz]))] h) := by
  have hh : h = zov [((A 0), .inr (7, [za (A 1), za (A 4), za (A 24), za (A 27), zi kt, za (A 47), za (A 49), za (A 52), za (A 63), za (A 68), za (A 72)])), ((A 72), .inl (3, 4, .inr f)), (so, .inr (5, [za si, zi 1, zi la, zi sz]))] h := zov_self (List.forall_mem_cons.mpr ⟨hc0, List.forall_mem_cons.mpr ⟨hc1, List.forall_mem_cons.mpr ⟨hc2, fun _ q => absurd q List.not_mem_nil⟩⟩⟩)
  refine zEv.body (I := (7, xI_X7_drop, 3, 1, 20, 0, 0, false)) (rt := (some .int)) [some (za (A 0)), some (zi (s : Int)), none] rfl rfl rfl rfl ?_
  refine Zn.eq rfl rfl rfl hh ?_
  have hD : zND ([((A 0), .inr (7, [za (A 1), za (A 4), za (A 24), za (A 27), zi kt, za (A 47), za (A 49), za (A 52), za (A 63), za (A 68), za (A 72)])), ((A 72), .inl (3, 4, .inr f)), (so, .inr (5, [za si, zi 1, zi la, zi sz]))]) := hD
  refine Zn.seg (pc2 := 1) (ls2 := [some (za (A 0)), some (zi (s : Int)), none]) (st2 := [zi (s : Int)]) [(0, .iload_n 1)] (by decide +kernel) rfl ?_
  refine Zn.call (ins := .invokestatic 294) [zi (s : Int)] [] (by decide +kernel) rfl rfl rfl ⟨rfl, rfl⟩ ⟨rfl, rfl, rfl⟩ rfl (zrecvS (by decide)) (sp_X7_isSheet (x := (s : Int)) (by first | assumption | exact ⟨by omega, by omega⟩)) (fun v h2 hp => ?_)
  obtain ⟨rfl, hq_1⟩ := hp
  refine Zn.eq (pc2 := 4) (ls2 := [some (za (A 0)), some (zi (s : Int)), none]) (st2 := [zi (inB (0) 3 (s : Int))]) (h2 := zov ([((A 0), .inr (7, [za (A 1), za (A 4), za (A 24), za (A 27), zi kt, za (A 47), za (A 49), za (A 52), za (A 63), za (A 68), za (A 72)])), ((A 72), .inl (3, 4, .inr f)), (so, .inr (5, [za si, zi 1, zi la, zi sz]))]) h) rfl rfl rfl hq_1 ?_
  have hD : zND ([((A 0), .inr (7, [za (A 1), za (A 4), za (A 24), za (A 27), zi kt, za (A 47), za (A 49), za (A 52), za (A 63), za (A 68), za (A 72)])), ((A 72), .inl (3, 4, .inr f)), (so, .inr (5, [za si, zi 1, zi la, zi sz]))]) := hD
  have q_2 := inB_spec (0) 3 (s : Int)
  refine Zn.ifc (c := .ne) (off := 5) 9 (by decide +kernel) rfl ⟨by omega, by omega⟩ (fun c_3 => ?_) (fun c_3 => absurd (show inB (0) 3 (s : Int) ≠ 0 from by omega) c_3)
  have c_3 : inB (0) 3 (s : Int) ≠ 0 := c_3
  refine Zn.seg (pc2 := 10) (ls2 := [some (za (A 0)), some (zi (s : Int)), none]) (st2 := [za (A 0)]) [(9, .aload_n 0)] (by decide +kernel) rfl ?_
  refine Zn.get (ix := 66) hD 0 (by decide +kernel) rfl rfl rfl ?_
  refine Zn.seg (pc2 := 14) (ls2 := [some (za (A 0)), some (zi (s : Int)), none]) (st2 := [zi (s : Int), za (A 72)]) [(13, .iload_n 1)] (by decide +kernel) rfl ?_
  refine Zn.aald hD 1 (s) (by decide +kernel) rfl rfl (by omega) (by omega) rfl (b := so) (hf) ?_
  refine Zn.seg (pc2 := 17) (ls2 := [some (za (A 0)), some (zi (s : Int)), some (za so)]) (st2 := [za so]) [(15, .astore_n 2), (16, .aload_n 2)] (by decide +kernel) rfl ?_
  refine Zn.get (ix := 322) hD 2 (by decide +kernel) rfl rfl rfl ?_
  refine Zn.ifc (c := .ne) (off := 6) 26 (by decide +kernel) rfl ⟨by decide, by decide⟩ (fun c_4 => ?_) (fun c_4 => absurd (show (1 : Int) ≠ 0 from by decide) c_4)
  have c_4 : (1 : Int) ≠ 0 := c_4
  refine Zn.seg (pc2 := 28) (ls2 := [some (za (A 0)), some (zi (s : Int)), some (za so)]) (st2 := [zi 0, za so]) [(26, .aload_n 2), (27, .iconst 0)] (by decide +kernel) rfl ?_
  refine Zn.put (ix := 322) hD 2 (by decide +kernel) rfl rfl rfl rfl rfl ?_
  refine Zn.eq (h2 := zov ([((A 0), .inr (7, [za (A 1), za (A 4), za (A 24), za (A 27), zi kt, za (A 47), za (A 49), za (A 52), za (A 63), za (A 68), za (A 72)])), ((A 72), .inl (3, 4, .inr f)), (so, .inr (5, [za si, zi 0, zi la, zi sz]))]) h) rfl rfl rfl rfl ?_
  have hD : zND ([((A 0), .inr (7, [za (A 1), za (A 4), za (A 24), za (A 27), zi kt, za (A 47), za (A 49), za (A 52), za (A 63), za (A 68), za (A 72)])), ((A 72), .inl (3, 4, .inr f)), (so, .inr (5, [za si, zi 0, zi la, zi sz]))]) := hD
  refine Zn.seg (pc2 := 32) (ls2 := [some (za (A 0)), some (zi (s : Int)), some (za so)]) (st2 := [za so]) [(31, .aload_n 2)] (by decide +kernel) rfl ?_
  refine Zn.get (ix := 325) hD 2 (by decide +kernel) rfl rfl rfl ?_
  exact Zn.iret (by decide +kernel) rfl (⟨by first | rfl | (refine congrArg some (congrArg zi ?_); first | omega | (simp_all; done) | (simp_all; omega)), rfl⟩)
theorem sp_X7_item_bad {h : xH} {A : Nat → Nat} {s l i z : Int} (zs : zInI s) (zl : zInI l) (hb : ¬ (0 ≤ s ∧ s ≤ 3) ∨ ¬ (0 ≤ l ∧ l ≤ 3)) : zEv k_X7_item [za (A 0), zi s, zi l, zi i, zj z] h (fun v h2 => v = some (zi (-1)) ∧ h2 = h) := by
  have hD : ([] : List Nat).Nodup := List.nodup_nil
  have hh : h = zov [] h := zov_self (fun _ q => absurd q List.not_mem_nil)
  have zs1 := zs.1
  have zs2 := zs.2
  have zl1 := zl.1
  have zl2 := zl.2
  refine zEv.body (I := (7, xI_X7_item, 8, 2, 45, 0, 0, false)) (rt := (some .int)) [some (za (A 0)), some (zi s), some (zi l), some (zi i), some (zj z), none, none, none] rfl rfl rfl rfl ?_
  refine Zn.eq rfl rfl rfl hh ?_
  have hD : zND ([]) := hD
  refine Zn.seg (pc2 := 1) (ls2 := [some (za (A 0)), some (zi s), some (zi l), some (zi i), some (zj z), none, none, none]) (st2 := [zi s]) [(0, .iload_n 1)] (by decide +kernel) rfl ?_
  refine Zn.call (ins := .invokestatic 294) [zi s] [] (by decide +kernel) rfl rfl rfl ⟨rfl, rfl⟩ ⟨rfl, rfl, rfl⟩ rfl (zrecvS (by decide)) (sp_X7_isSheet (x := s) (by first | assumption | exact ⟨by omega, by omega⟩)) (fun v h2 hp => ?_)
  obtain ⟨rfl, hq_1⟩ := hp
  refine Zn.eq (pc2 := 4) (ls2 := [some (za (A 0)), some (zi s), some (zi l), some (zi i), some (zj z), none, none, none]) (st2 := [zi (inB (0) 3 s)]) (h2 := zov ([]) h) rfl rfl rfl hq_1 ?_
  have hD : zND ([]) := hD
  have q_2 := inB_spec (0) 3 s
  refine Zn.ifc (c := .eq) (off := 10) 14 (by decide +kernel) rfl ⟨by omega, by omega⟩ (fun c_3 => ?_) (fun c_3 => ?_)
  · have c_3 : inB (0) 3 s = 0 := c_3
    refine Zn.seg (pc2 := 15) (ls2 := [some (za (A 0)), some (zi s), some (zi l), some (zi i), some (zj z), none, none, none]) (st2 := [zi (-1)]) [(14, .iconst (-1))] (by decide +kernel) rfl ?_
    exact Zn.iret (by decide +kernel) rfl (⟨by first | rfl | (refine congrArg some (congrArg zi ?_); first | omega | (simp_all; done) | (simp_all; omega)), hh.symm⟩)
  · have c_3 : ¬ (inB (0) 3 s = 0) := c_3
    refine Zn.seg (pc2 := 8) (ls2 := [some (za (A 0)), some (zi s), some (zi l), some (zi i), some (zj z), none, none, none]) (st2 := [zi l]) [(7, .iload_n 2)] (by decide +kernel) rfl ?_
    refine Zn.call (ins := .invokestatic 297) [zi l] [] (by decide +kernel) rfl rfl rfl ⟨rfl, rfl⟩ ⟨rfl, rfl, rfl⟩ rfl (zrecvS (by decide)) (sp_X7_isLane (x := l) (by first | assumption | exact ⟨by omega, by omega⟩)) (fun v h2 hp => ?_)
    obtain ⟨rfl, hq_4⟩ := hp
    refine Zn.eq (pc2 := 11) (ls2 := [some (za (A 0)), some (zi s), some (zi l), some (zi i), some (zj z), none, none, none]) (st2 := [zi (inB (0) 3 l)]) (h2 := zov ([]) h) rfl rfl rfl hq_4 ?_
    have hD : zND ([]) := hD
    have q_5 := inB_spec (0) 3 l
    refine Zn.ifc (c := .ne) (off := 5) 16 (by decide +kernel) rfl ⟨by omega, by omega⟩ (fun c_6 => absurd (show inB (0) 3 l ≠ 0 from c_6) (by omega)) (fun c_6 => ?_)
    have c_6 : ¬ (inB (0) 3 l ≠ 0) := c_6
    refine Zn.seg (pc2 := 15) (ls2 := [some (za (A 0)), some (zi s), some (zi l), some (zi i), some (zj z), none, none, none]) (st2 := [zi (-1)]) [(14, .iconst (-1))] (by decide +kernel) rfl ?_
    exact Zn.iret (by decide +kernel) rfl (⟨by first | rfl | (refine congrArg some (congrArg zi ?_); first | omega | (simp_all; done) | (simp_all; omega)), hh.symm⟩)
theorem sp_X7_item_ref {h : xH} {A : Nat → Nat} {kt he la sz : Int} {so si s : Nat} {f : Nat → Option Nat} {l i z : Int} (hc0 : h (A 0) = zcE (.inr (7, [za (A 1), za (A 4), za (A 24), za (A 27), zi kt, za (A 47), za (A 49), za (A 52), za (A 63), za (A 68), za (A 72)]))) (hc1 : h (A 72) = zcE (.inl (3, 4, .inr f))) (hc2 : h so = zcE (.inr (5, [za si, zi he, zi la, zi sz]))) (hD : [(A 0), (A 72), so].Nodup) (hs4 : s < 4) (hf : f s = some so) (hhe : he = 0 ∨ he = 1) (hla : 0 ≤ la ∧ la ≤ 3) (hsz : 0 ≤ sz ∧ sz ≤ 24) (hl : 0 ≤ l ∧ l ≤ 3) (zi_ : zInI i) (hb : rfV he la sz l i 1 ≠ 0) : zEv k_X7_item [za (A 0), zi (s : Int), zi l, zi i, zj z] h (fun v h2 => v = some (zi (rfV he la sz l i 1)) ∧ h2 = h) := by
  have hh : h = zov [((A 0), .inr (7, [za (A 1), za (A 4), za (A 24), za (A 27), zi kt, za (A 47), za (A 49), za (A 52), za (A 63), za (A 68), za (A 72)])), ((A 72), .inl (3, 4, .inr f)), (so, .inr (5, [za si, zi he, zi la, zi sz]))] h := zov_self (List.forall_mem_cons.mpr ⟨hc0, List.forall_mem_cons.mpr ⟨hc1, List.forall_mem_cons.mpr ⟨hc2, fun _ q => absurd q List.not_mem_nil⟩⟩⟩)
  have zi_1 := zi_.1
  have zi_2 := zi_.2
  refine zEv.body (I := (7, xI_X7_item, 8, 2, 45, 0, 0, false)) (rt := (some .int)) [some (za (A 0)), some (zi (s : Int)), some (zi l), some (zi i), some (zj z), none, none, none] rfl rfl rfl rfl ?_
  refine Zn.eq rfl rfl rfl hh ?_
  have hD : zND ([((A 0), .inr (7, [za (A 1), za (A 4), za (A 24), za (A 27), zi kt, za (A 47), za (A 49), za (A 52), za (A 63), za (A 68), za (A 72)])), ((A 72), .inl (3, 4, .inr f)), (so, .inr (5, [za si, zi he, zi la, zi sz]))]) := hD
  refine Zn.seg (pc2 := 1) (ls2 := [some (za (A 0)), some (zi (s : Int)), some (zi l), some (zi i), some (zj z), none, none, none]) (st2 := [zi (s : Int)]) [(0, .iload_n 1)] (by decide +kernel) rfl ?_
  refine Zn.call (ins := .invokestatic 294) [zi (s : Int)] [] (by decide +kernel) rfl rfl rfl ⟨rfl, rfl⟩ ⟨rfl, rfl, rfl⟩ rfl (zrecvS (by decide)) (sp_X7_isSheet (x := (s : Int)) (by first | assumption | exact ⟨by omega, by omega⟩)) (fun v h2 hp => ?_)
  obtain ⟨rfl, hq_1⟩ := hp
  refine Zn.eq (pc2 := 4) (ls2 := [some (za (A 0)), some (zi (s : Int)), some (zi l), some (zi i), some (zj z), none, none, none]) (st2 := [zi (inB (0) 3 (s : Int))]) (h2 := zov ([((A 0), .inr (7, [za (A 1), za (A 4), za (A 24), za (A 27), zi kt, za (A 47), za (A 49), za (A 52), za (A 63), za (A 68), za (A 72)])), ((A 72), .inl (3, 4, .inr f)), (so, .inr (5, [za si, zi he, zi la, zi sz]))]) h) rfl rfl rfl hq_1 ?_
  have hD : zND ([((A 0), .inr (7, [za (A 1), za (A 4), za (A 24), za (A 27), zi kt, za (A 47), za (A 49), za (A 52), za (A 63), za (A 68), za (A 72)])), ((A 72), .inl (3, 4, .inr f)), (so, .inr (5, [za si, zi he, zi la, zi sz]))]) := hD
  have q_2 := inB_spec (0) 3 (s : Int)
  refine Zn.ifc (c := .eq) (off := 10) 14 (by decide +kernel) rfl ⟨by omega, by omega⟩ (fun c_3 => absurd (show inB (0) 3 (s : Int) = 0 from c_3) (by omega)) (fun c_3 => ?_)
  have c_3 : ¬ (inB (0) 3 (s : Int) = 0) := c_3
  refine Zn.seg (pc2 := 8) (ls2 := [some (za (A 0)), some (zi (s : Int)), some (zi l), some (zi i), some (zj z), none, none, none]) (st2 := [zi l]) [(7, .iload_n 2)] (by decide +kernel) rfl ?_
  refine Zn.call (ins := .invokestatic 297) [zi l] [] (by decide +kernel) rfl rfl rfl ⟨rfl, rfl⟩ ⟨rfl, rfl, rfl⟩ rfl (zrecvS (by decide)) (sp_X7_isLane (x := l) (by first | assumption | exact ⟨by omega, by omega⟩)) (fun v h2 hp => ?_)
  obtain ⟨rfl, hq_4⟩ := hp
  refine Zn.eq (pc2 := 11) (ls2 := [some (za (A 0)), some (zi (s : Int)), some (zi l), some (zi i), some (zj z), none, none, none]) (st2 := [zi (inB (0) 3 l)]) (h2 := zov ([((A 0), .inr (7, [za (A 1), za (A 4), za (A 24), za (A 27), zi kt, za (A 47), za (A 49), za (A 52), za (A 63), za (A 68), za (A 72)])), ((A 72), .inl (3, 4, .inr f)), (so, .inr (5, [za si, zi he, zi la, zi sz]))]) h) rfl rfl rfl hq_4 ?_
  have hD : zND ([((A 0), .inr (7, [za (A 1), za (A 4), za (A 24), za (A 27), zi kt, za (A 47), za (A 49), za (A 52), za (A 63), za (A 68), za (A 72)])), ((A 72), .inl (3, 4, .inr f)), (so, .inr (5, [za si, zi he, zi la, zi sz]))]) := hD
  have q_5 := inB_spec (0) 3 l
  refine Zn.ifc (c := .ne) (off := 5) 16 (by decide +kernel) rfl ⟨by omega, by omega⟩ (fun c_6 => ?_) (fun c_6 => absurd (show inB (0) 3 l ≠ 0 from by omega) c_6)
  have c_6 : inB (0) 3 l ≠ 0 := c_6
  refine Zn.seg (pc2 := 17) (ls2 := [some (za (A 0)), some (zi (s : Int)), some (zi l), some (zi i), some (zj z), none, none, none]) (st2 := [za (A 0)]) [(16, .aload_n 0)] (by decide +kernel) rfl ?_
  refine Zn.get (ix := 66) hD 0 (by decide +kernel) rfl rfl rfl ?_
  refine Zn.seg (pc2 := 21) (ls2 := [some (za (A 0)), some (zi (s : Int)), some (zi l), some (zi i), some (zj z), none, none, none]) (st2 := [zi (s : Int), za (A 72)]) [(20, .iload_n 1)] (by decide +kernel) rfl ?_
  refine Zn.aald hD 1 (s) (by decide +kernel) rfl rfl (by omega) (by omega) rfl (b := so) (hf) ?_
  refine Zn.seg (pc2 := 29) (ls2 := [some (za (A 0)), some (zi (s : Int)), some (zi l), some (zi i), some (zj z), none, some (za so), none]) (st2 := [zi 1, zi i, zi l, za so]) [(22, .astore 6), (24, .aload 6), (26, .iload_n 2), (27, .iload_n 3), (28, .iconst 1)] (by decide +kernel) rfl ?_
  refine Zn.call (ins := .invokevirtual 300) [za so, zi l, zi i, zi 1] [] (by decide +kernel) rfl rfl rfl ⟨rfl, rfl⟩ ⟨rfl, rfl, rfl⟩ rfl (zrecvV hD (p := 2) rfl rfl rfl) (sp_X5_refusal (o := so) (ia := si) (he := he) (la := la) (sz := sz) (l := l) (i := i) (n := 1) (zov_get hD 2 rfl) (hhe) (hla) (hsz) (⟨by omega, by omega⟩) (zi_) (⟨by decide, by decide⟩)) (fun v h2 hp => ?_)
  obtain ⟨rfl, hq_7⟩ := hp
  refine Zn.eq (pc2 := 32) (ls2 := [some (za (A 0)), some (zi (s : Int)), some (zi l), some (zi i), some (zj z), none, some (za so), none]) (st2 := [zi (rfV he la sz l i 1)]) (h2 := zov ([((A 0), .inr (7, [za (A 1), za (A 4), za (A 24), za (A 27), zi kt, za (A 47), za (A 49), za (A 52), za (A 63), za (A 68), za (A 72)])), ((A 72), .inl (3, 4, .inr f)), (so, .inr (5, [za si, zi he, zi la, zi sz]))]) h) rfl rfl rfl hq_7 ?_
  have hD : zND ([((A 0), .inr (7, [za (A 1), za (A 4), za (A 24), za (A 27), zi kt, za (A 47), za (A 49), za (A 52), za (A 63), za (A 68), za (A 72)])), ((A 72), .inl (3, 4, .inr f)), (so, .inr (5, [za si, zi he, zi la, zi sz]))]) := hD
  have q_8 := rfV_c he la sz l i 1
  refine Zn.seg (pc2 := 36) (ls2 := [some (za (A 0)), some (zi (s : Int)), some (zi l), some (zi i), some (zj z), none, some (za so), some (zi (rfV he la sz l i 1))]) (st2 := [zi (rfV he la sz l i 1)]) [(32, .istore 7), (34, .iload 7)] (by decide +kernel) rfl ?_
  refine Zn.ifc (c := .eq) (off := 6) 42 (by decide +kernel) rfl ⟨by omega, by omega⟩ (fun c_9 => absurd (show rfV he la sz l i 1 = 0 from c_9) (by omega)) (fun c_9 => ?_)
  have c_9 : ¬ (rfV he la sz l i 1 = 0) := c_9
  refine Zn.seg (pc2 := 41) (ls2 := [some (za (A 0)), some (zi (s : Int)), some (zi l), some (zi i), some (zj z), none, some (za so), some (zi (rfV he la sz l i 1))]) (st2 := [zi (rfV he la sz l i 1)]) [(39, .iload 7)] (by decide +kernel) rfl ?_
  exact Zn.iret (by decide +kernel) rfl (⟨by first | rfl | (refine congrArg some (congrArg zi ?_); first | omega | (simp_all; done) | (simp_all; omega)), hh.symm⟩)
theorem sp_X7_item_ok {h : xH} {A : Nat → Nat} {kt he la sz : Int} {so si s i : Nat} {f : Nat → Option Nat} {it : Nat → Int} {l z : Int} (hc0 : h (A 0) = zcE (.inr (7, [za (A 1), za (A 4), za (A 24), za (A 27), zi kt, za (A 47), za (A 49), za (A 52), za (A 63), za (A 68), za (A 72)]))) (hc1 : h (A 72) = zcE (.inl (3, 4, .inr f))) (hc2 : h so = zcE (.inr (5, [za si, zi he, zi la, zi sz]))) (hc3 : h si = zcE (.inl (1, 24, .inl it))) (hD : [(A 0), (A 72), so, si].Nodup) (hs4 : s < 4) (hf : f s = some so) (hhe : he = 0 ∨ he = 1) (hla : 0 ≤ la ∧ la ≤ 3) (hsz : 0 ≤ sz ∧ sz ≤ 24) (hl : 0 ≤ l ∧ l ≤ 3) (hb : he ≠ 0 ∧ la = l ∧ (i : Int) < sz) : zEv k_X7_item [za (A 0), zi (s : Int), zi l, zi (i : Int), zj z] h (fun v h2 => v = some (zi 1) ∧ h2 = zov [((A 0), .inr (7, [za (A 1), za (A 4), za (A 24), za (A 27), zi kt, za (A 47), za (A 49), za (A 52), za (A 63), za (A 68), za (A 72)])), ((A 72), .inl (3, 4, .inr f)), (so, .inr (5, [za si, zi he, zi la, zi sz])), (si, .inl (1, 24, .inl (va_up it i (castV la z))))] h) := by
  have hh : h = zov [((A 0), .inr (7, [za (A 1), za (A 4), za (A 24), za (A 27), zi kt, za (A 47), za (A 49), za (A 52), za (A 63), za (A 68), za (A 72)])), ((A 72), .inl (3, 4, .inr f)), (so, .inr (5, [za si, zi he, zi la, zi sz])), (si, .inl (1, 24, .inl it))] h := zov_self (List.forall_mem_cons.mpr ⟨hc0, List.forall_mem_cons.mpr ⟨hc1, List.forall_mem_cons.mpr ⟨hc2, List.forall_mem_cons.mpr ⟨hc3, fun _ q => absurd q List.not_mem_nil⟩⟩⟩⟩)
  have hrf := rfV_c he la sz l i 1
  have hrc := rcV_c sz i 1
  refine zEv.body (I := (7, xI_X7_item, 8, 2, 45, 0, 0, false)) (rt := (some .int)) [some (za (A 0)), some (zi (s : Int)), some (zi l), some (zi (i : Int)), some (zj z), none, none, none] rfl rfl rfl rfl ?_
  refine Zn.eq rfl rfl rfl hh ?_
  have hD : zND ([((A 0), .inr (7, [za (A 1), za (A 4), za (A 24), za (A 27), zi kt, za (A 47), za (A 49), za (A 52), za (A 63), za (A 68), za (A 72)])), ((A 72), .inl (3, 4, .inr f)), (so, .inr (5, [za si, zi he, zi la, zi sz])), (si, .inl (1, 24, .inl it))]) := hD
  refine Zn.seg (pc2 := 1) (ls2 := [some (za (A 0)), some (zi (s : Int)), some (zi l), some (zi (i : Int)), some (zj z), none, none, none]) (st2 := [zi (s : Int)]) [(0, .iload_n 1)] (by decide +kernel) rfl ?_
  refine Zn.call (ins := .invokestatic 294) [zi (s : Int)] [] (by decide +kernel) rfl rfl rfl ⟨rfl, rfl⟩ ⟨rfl, rfl, rfl⟩ rfl (zrecvS (by decide)) (sp_X7_isSheet (x := (s : Int)) (by first | assumption | exact ⟨by omega, by omega⟩)) (fun v h2 hp => ?_)
  obtain ⟨rfl, hq_1⟩ := hp
  refine Zn.eq (pc2 := 4) (ls2 := [some (za (A 0)), some (zi (s : Int)), some (zi l), some (zi (i : Int)), some (zj z), none, none, none]) (st2 := [zi (inB (0) 3 (s : Int))]) (h2 := zov ([((A 0), .inr (7, [za (A 1), za (A 4), za (A 24), za (A 27), zi kt, za (A 47), za (A 49), za (A 52), za (A 63), za (A 68), za (A 72)])), ((A 72), .inl (3, 4, .inr f)), (so, .inr (5, [za si, zi he, zi la, zi sz])), (si, .inl (1, 24, .inl it))]) h) rfl rfl rfl hq_1 ?_
  have hD : zND ([((A 0), .inr (7, [za (A 1), za (A 4), za (A 24), za (A 27), zi kt, za (A 47), za (A 49), za (A 52), za (A 63), za (A 68), za (A 72)])), ((A 72), .inl (3, 4, .inr f)), (so, .inr (5, [za si, zi he, zi la, zi sz])), (si, .inl (1, 24, .inl it))]) := hD
  have q_2 := inB_spec (0) 3 (s : Int)
  refine Zn.ifc (c := .eq) (off := 10) 14 (by decide +kernel) rfl ⟨by omega, by omega⟩ (fun c_3 => absurd (show inB (0) 3 (s : Int) = 0 from c_3) (by omega)) (fun c_3 => ?_)
  have c_3 : ¬ (inB (0) 3 (s : Int) = 0) := c_3
  refine Zn.seg (pc2 := 8) (ls2 := [some (za (A 0)), some (zi (s : Int)), some (zi l), some (zi (i : Int)), some (zj z), none, none, none]) (st2 := [zi l]) [(7, .iload_n 2)] (by decide +kernel) rfl ?_
  refine Zn.call (ins := .invokestatic 297) [zi l] [] (by decide +kernel) rfl rfl rfl ⟨rfl, rfl⟩ ⟨rfl, rfl, rfl⟩ rfl (zrecvS (by decide)) (sp_X7_isLane (x := l) (by first | assumption | exact ⟨by omega, by omega⟩)) (fun v h2 hp => ?_)
  obtain ⟨rfl, hq_4⟩ := hp
  refine Zn.eq (pc2 := 11) (ls2 := [some (za (A 0)), some (zi (s : Int)), some (zi l), some (zi (i : Int)), some (zj z), none, none, none]) (st2 := [zi (inB (0) 3 l)]) (h2 := zov ([((A 0), .inr (7, [za (A 1), za (A 4), za (A 24), za (A 27), zi kt, za (A 47), za (A 49), za (A 52), za (A 63), za (A 68), za (A 72)])), ((A 72), .inl (3, 4, .inr f)), (so, .inr (5, [za si, zi he, zi la, zi sz])), (si, .inl (1, 24, .inl it))]) h) rfl rfl rfl hq_4 ?_
  have hD : zND ([((A 0), .inr (7, [za (A 1), za (A 4), za (A 24), za (A 27), zi kt, za (A 47), za (A 49), za (A 52), za (A 63), za (A 68), za (A 72)])), ((A 72), .inl (3, 4, .inr f)), (so, .inr (5, [za si, zi he, zi la, zi sz])), (si, .inl (1, 24, .inl it))]) := hD
  have q_5 := inB_spec (0) 3 l
  refine Zn.ifc (c := .ne) (off := 5) 16 (by decide +kernel) rfl ⟨by omega, by omega⟩ (fun c_6 => ?_) (fun c_6 => absurd (show inB (0) 3 l ≠ 0 from by omega) c_6)
  have c_6 : inB (0) 3 l ≠ 0 := c_6
  refine Zn.seg (pc2 := 17) (ls2 := [some (za (A 0)), some (zi (s : Int)), some (zi l), some (zi (i : Int)), some (zj z), none, none, none]) (st2 := [za (A 0)]) [(16, .aload_n 0)] (by decide +kernel) rfl ?_
  refine Zn.get (ix := 66) hD 0 (by decide +kernel) rfl rfl rfl ?_
  refine Zn.seg (pc2 := 21) (ls2 := [some (za (A 0)), some (zi (s : Int)), some (zi l), some (zi (i : Int)), some (zj z), none, none, none]) (st2 := [zi (s : Int), za (A 72)]) [(20, .iload_n 1)] (by decide +kernel) rfl ?_
  refine Zn.aald hD 1 (s) (by decide +kernel) rfl rfl (by omega) (by omega) rfl (b := so) (hf) ?_
  refine Zn.seg (pc2 := 29) (ls2 := [some (za (A 0)), some (zi (s : Int)), some (zi l), some (zi (i : Int)), some (zj z), none, some (za so), none]) (st2 := [zi 1, zi (i : Int), zi l, za so]) [(22, .astore 6), (24, .aload 6), (26, .iload_n 2), (27, .iload_n 3), (28, .iconst 1)] (by decide +kernel) rfl ?_
  refine Zn.call (ins := .invokevirtual 300) [za so, zi l, zi (i : Int), zi 1] [] (by decide +kernel) rfl rfl rfl ⟨rfl, rfl⟩ ⟨rfl, rfl, rfl⟩ rfl (zrecvV hD (p := 2) rfl rfl rfl) (sp_X5_refusal (o := so) (ia := si) (he := he) (la := la) (sz := sz) (l := l) (i := (i : Int)) (n := 1) (zov_get hD 2 rfl) (hhe) (hla) (hsz) (⟨by omega, by omega⟩) (⟨by omega, by omega⟩) (⟨by decide, by decide⟩)) (fun v h2 hp => ?_)
  obtain ⟨rfl, hq_7⟩ := hp
  refine Zn.eq (pc2 := 32) (ls2 := [some (za (A 0)), some (zi (s : Int)), some (zi l), some (zi (i : Int)), some (zj z), none, some (za so), none]) (st2 := [zi (rfV he la sz l (i : Int) 1)]) (h2 := zov ([((A 0), .inr (7, [za (A 1), za (A 4), za (A 24), za (A 27), zi kt, za (A 47), za (A 49), za (A 52), za (A 63), za (A 68), za (A 72)])), ((A 72), .inl (3, 4, .inr f)), (so, .inr (5, [za si, zi he, zi la, zi sz])), (si, .inl (1, 24, .inl it))]) h) rfl rfl rfl hq_7 ?_
  have hD : zND ([((A 0), .inr (7, [za (A 1), za (A 4), za (A 24), za (A 27), zi kt, za (A 47), za (A 49), za (A 52), za (A 63), za (A 68), za (A 72)])), ((A 72), .inl (3, 4, .inr f)), (so, .inr (5, [za si, zi he, zi la, zi sz])), (si, .inl (1, 24, .inl it))]) := hD
  have q_8 := rfV_c he la sz l (i : Int) 1
  refine Zn.seg (pc2 := 36) (ls2 := [some (za (A 0)), some (zi (s : Int)), some (zi l), some (zi (i : Int)), some (zj z), none, some (za so), some (zi (rfV he la sz l (i : Int) 1))]) (st2 := [zi (rfV he la sz l (i : Int) 1)]) [(32, .istore 7), (34, .iload 7)] (by decide +kernel) rfl ?_
  refine Zn.ifc (c := .eq) (off := 6) 42 (by decide +kernel) rfl ⟨by omega, by omega⟩ (fun c_9 => ?_) (fun c_9 => absurd (show rfV he la sz l (i : Int) 1 = 0 from by omega) c_9)
  have c_9 : rfV he la sz l (i : Int) 1 = 0 := c_9
  refine Zn.seg (pc2 := 47) (ls2 := [some (za (A 0)), some (zi (s : Int)), some (zi l), some (zi (i : Int)), some (zj z), none, some (za so), some (zi (rfV he la sz l (i : Int) 1))]) (st2 := [zj z, zi (i : Int), za so]) [(42, .aload 6), (44, .iload_n 3), (45, .lload 4)] (by decide +kernel) rfl ?_
  refine Zn.call (ins := .invokevirtual 316) [za so, zi (i : Int), zj z] [] (by decide +kernel) rfl rfl rfl ⟨rfl, rfl⟩ ⟨rfl, rfl, rfl⟩ rfl (zrecvV hD (p := 2) rfl rfl rfl) (sp_X5_put (o := so) (ia := si) (i := i) (he := he) (la := la) (sz := sz) (z := z) (it := it) (zov_get hD 2 rfl) (zov_get hD 3 rfl) (nd_sub hD [2, 3] rfl rfl) (hsz) (hla) (by omega)) (fun v h2 hp => ?_)
  obtain ⟨rfl, hq_10⟩ := hp
  refine Zn.eq (pc2 := 50) (ls2 := [some (za (A 0)), some (zi (s : Int)), some (zi l), some (zi (i : Int)), some (zj z), none, some (za so), some (zi (rfV he la sz l (i : Int) 1))]) (st2 := []) (h2 := zov ([((A 0), .inr (7, [za (A 1), za (A 4), za (A 24), za (A 27), zi kt, za (A 47), za (A 49), za (A 52), za (A 63), za (A 68), za (A 72)])), ((A 72), .inl (3, 4, .inr f)), (so, .inr (5, [za si, zi he, zi la, zi sz])), (si, .inl (1, 24, .inl (va_up it i (castV la z))))]) h) rfl rfl rfl (hq_10.trans (zov_put hD [2, 3] _ rfl)) ?_
  have hD : zND ([((A 0), .inr (7, [za (A 1), za (A 4), za (A 24), za (A 27), zi kt, za (A 47), za (A 49), za (A 52), za (A 63), za (A 68), za (A 72)])), ((A 72), .inl (3, 4, .inr f)), (so, .inr (5, [za si, zi he, zi la, zi sz])), (si, .inl (1, 24, .inl (va_up it i (castV la z))))]) := hD
  refine Zn.seg (pc2 := 51) (ls2 := [some (za (A 0)), some (zi (s : Int)), some (zi l), some (zi (i : Int)), some (zj z), none, some (za so), some (zi (rfV he la sz l (i : Int) 1))]) (st2 := [zi 1]) [(50, .iconst 1)] (by decide +kernel) rfl ?_
  exact Zn.iret (by decide +kernel) rfl (⟨by first | rfl | (refine congrArg some (congrArg zi ?_); first | omega | (simp_all; done) | (simp_all; omega)), rfl⟩)
theorem sp_X7_copy_bad {h : xH} {A : Nat → Nat} {s i t j n : Int} (zs : zInI s) (zt : zInI t) (hb : ¬ (0 ≤ s ∧ s ≤ 3) ∨ ¬ (0 ≤ t ∧ t ≤ 3)) : zEv k_X7_copy [za (A 0), zi s, zi i, zi t, zi j, zi n] h (fun v h2 => v = some (zi (-1)) ∧ h2 = h) := by
  have hD : ([] : List Nat).Nodup := List.nodup_nil
  have hh : h = zov [] h := zov_self (fun _ q => absurd q List.not_mem_nil)
  have zs1 := zs.1
  have zs2 := zs.2
  have zt1 := zt.1
  have zt2 := zt.2
  refine zEv.body (I := (7, xI_X7_copy, 8, 1, 26, 0, 0, false)) (rt := (some .int)) [some (za (A 0)), some (zi s), some (zi i), some (zi t), some (zi j), some (zi n), none, none] rfl rfl rfl rfl ?_
  refine Zn.eq rfl rfl rfl hh ?_
  have hD : zND ([]) := hD
  refine Zn.seg (pc2 := 1) (ls2 := [some (za (A 0)), some (zi s), some (zi i), some (zi t), some (zi j), some (zi n), none, none]) (st2 := [zi s]) [(0, .iload_n 1)] (by decide +kernel) rfl ?_
  refine Zn.call (ins := .invokestatic 294) [zi s] [] (by decide +kernel) rfl rfl rfl ⟨rfl, rfl⟩ ⟨rfl, rfl, rfl⟩ rfl (zrecvS (by decide)) (sp_X7_isSheet (x := s) (by first | assumption | exact ⟨by omega, by omega⟩)) (fun v h2 hp => ?_)
  obtain ⟨rfl, hq_1⟩ := hp
  refine Zn.eq (pc2 := 4) (ls2 := [some (za (A 0)), some (zi s), some (zi i), some (zi t), some (zi j), some (zi n), none, none]) (st2 := [zi (inB (0) 3 s)]) (h2 := zov ([]) h) rfl rfl rfl hq_1 ?_
  have hD : zND ([]) := hD
  have q_2 := inB_spec (0) 3 s
  refine Zn.ifc (c := .eq) (off := 10) 14 (by decide +kernel) rfl ⟨by omega, by omega⟩ (fun c_3 => ?_) (fun c_3 => ?_)
  · have c_3 : inB (0) 3 s = 0 := c_3
    refine Zn.seg (pc2 := 15) (ls2 := [some (za (A 0)), some (zi s), some (zi i), some (zi t), some (zi j), some (zi n), none, none]) (st2 := [zi (-1)]) [(14, .iconst (-1))] (by decide +kernel) rfl ?_
    exact Zn.iret (by decide +kernel) rfl (⟨by first | rfl | (refine congrArg some (congrArg zi ?_); first | omega | (simp_all; done) | (simp_all; omega)), hh.symm⟩)
  · have c_3 : ¬ (inB (0) 3 s = 0) := c_3
    refine Zn.seg (pc2 := 8) (ls2 := [some (za (A 0)), some (zi s), some (zi i), some (zi t), some (zi j), some (zi n), none, none]) (st2 := [zi t]) [(7, .iload_n 3)] (by decide +kernel) rfl ?_
    refine Zn.call (ins := .invokestatic 294) [zi t] [] (by decide +kernel) rfl rfl rfl ⟨rfl, rfl⟩ ⟨rfl, rfl, rfl⟩ rfl (zrecvS (by decide)) (sp_X7_isSheet (x := t) (by first | assumption | exact ⟨by omega, by omega⟩)) (fun v h2 hp => ?_)
    obtain ⟨rfl, hq_4⟩ := hp
    refine Zn.eq (pc2 := 11) (ls2 := [some (za (A 0)), some (zi s), some (zi i), some (zi t), some (zi j), some (zi n), none, none]) (st2 := [zi (inB (0) 3 t)]) (h2 := zov ([]) h) rfl rfl rfl hq_4 ?_
    have hD : zND ([]) := hD
    have q_5 := inB_spec (0) 3 t
    refine Zn.ifc (c := .ne) (off := 5) 16 (by decide +kernel) rfl ⟨by omega, by omega⟩ (fun c_6 => absurd (show inB (0) 3 t ≠ 0 from c_6) (by omega)) (fun c_6 => ?_)
    have c_6 : ¬ (inB (0) 3 t ≠ 0) := c_6
    refine Zn.seg (pc2 := 15) (ls2 := [some (za (A 0)), some (zi s), some (zi i), some (zi t), some (zi j), some (zi n), none, none]) (st2 := [zi (-1)]) [(14, .iconst (-1))] (by decide +kernel) rfl ?_
    exact Zn.iret (by decide +kernel) rfl (⟨by first | rfl | (refine congrArg some (congrArg zi ?_); first | omega | (simp_all; done) | (simp_all; omega)), hh.symm⟩)
theorem sp_X7_copy_null {h : xH} {A : Nat → Nat} {kt he la sz he2 la2 sz2 : Int} {so si to ti s t : Nat} {f : Nat → Option Nat} {i j n : Int} (hc0 : h (A 0) = zcE (.inr (7, [za (A 1), za (A 4), za (A 24), za (A 27), zi kt, za (A 47), za (A 49), za (A 52), za (A 63), za (A 68), za (A 72)]))) (hc1 : h (A 72) = zcE (.inl (3, 4, .inr f))) (hc2 : h so = zcE (.inr (5, [za si, zi he, zi la, zi sz]))) (hc3 : h to = zcE (.inr (5, [za ti, zi he2, zi la2, zi sz2]))) (hD : [(A 0), (A 72), so, to].Nodup) (hs4 : s < 4) (ht4 : t < 4) (hf : f s = some so) (hf2 : f t = some to) (hhe : he = 0 ∨ he = 1) (hla : 0 ≤ la ∧ la ≤ 3) (hsz : 0 ≤ sz ∧ sz ≤ 24) (hhe2 : he2 = 0 ∨ he2 = 1) (hla2 : 0 ≤ la2 ∧ la2 ≤ 3) (hsz2 : 0 ≤ sz2 ∧ sz2 ≤ 24) (hb : he = 0 ∨ he2 = 0) : zEv k_X7_copy [za (A 0), zi (s : Int), zi i, zi (t : Int), zi j, zi n] h (fun v h2 => v = some (zi (-11)) ∧ h2 = h) := by
  have hh : h = zov [((A 0), .inr (7, [za (A 1), za (A 4), za (A 24), za (A 27), zi kt, za (A 47), za (A 49), za (A 52), za (A 63), za (A 68), za (A 72)])), ((A 72), .inl (3, 4, .inr f)), (so, .inr (5, [za si, zi he, zi la, zi sz])), (to, .inr (5, [za ti, zi he2, zi la2, zi sz2]))] h := zov_self (List.forall_mem_cons.mpr ⟨hc0, List.forall_mem_cons.mpr ⟨hc1, List.forall_mem_cons.mpr ⟨hc2, List.forall_mem_cons.mpr ⟨hc3, fun _ q => absurd q List.not_mem_nil⟩⟩⟩⟩)
  refine zEv.body (I := (7, xI_X7_copy, 8, 1, 26, 0, 0, false)) (rt := (some .int)) [some (za (A 0)), some (zi (s : Int)), some (zi i), some (zi (t : Int)), some (zi j), some (zi n), none, none] rfl rfl rfl rfl ?_
  refine Zn.eq rfl rfl rfl hh ?_
  have hD : zND ([((A 0), .inr (7, [za (A 1), za (A 4), za (A 24), za (A 27), zi kt, za (A 47), za (A 49), za (A 52), za (A 63), za (A 68), za (A 72)])), ((A 72), .inl (3, 4, .inr f)), (so, .inr (5, [za si, zi he, zi la, zi sz])), (to, .inr (5, [za ti, zi he2, zi la2, zi sz2]))]) := hD
  refine Zn.seg (pc2 := 1) (ls2 := [some (za (A 0)), some (zi (s : Int)), some (zi i), some (zi (t : Int)), some (zi j), some (zi n), none, none]) (st2 := [zi (s : Int)]) [(0, .iload_n 1)] (by decide +kernel) rfl ?_
  refine Zn.call (ins := .invokestatic 294) [zi (s : Int)] [] (by decide +kernel) rfl rfl rfl ⟨rfl, rfl⟩ ⟨rfl, rfl, rfl⟩ rfl (zrecvS (by decide)) (sp_X7_isSheet (x := (s : Int)) (by first | assumption | exact ⟨by omega, by omega⟩)) (fun v h2 hp => ?_)
  obtain ⟨rfl, hq_1⟩ := hp
  refine Zn.eq (pc2 := 4) (ls2 := [some (za (A 0)), some (zi (s : Int)), some (zi i), some (zi (t : Int)), some (zi j), some (zi n), none, none]) (st2 := [zi (inB (0) 3 (s : Int))]) (h2 := zov ([((A 0), .inr (7, [za (A 1), za (A 4), za (A 24), za (A 27), zi kt, za (A 47), za (A 49), za (A 52), za (A 63), za (A 68), za (A 72)])), ((A 72), .inl (3, 4, .inr f)), (so, .inr (5, [za si, zi he, zi la, zi sz])), (to, .inr (5, [za ti, zi he2, zi la2, zi sz2]))]) h) rfl rfl rfl hq_1 ?_
  have hD : zND ([((A 0), .inr (7, [za (A 1), za (A 4), za (A 24), za (A 27), zi kt, za (A 47), za (A 49), za (A 52), za (A 63), za (A 68), za (A 72)])), ((A 72), .inl (3, 4, .inr f)), (so, .inr (5, [za si, zi he, zi la, zi sz])), (to, .inr (5, [za ti, zi he2, zi la2, zi sz2]))]) := hD
  have q_2 := inB_spec (0) 3 (s : Int)
  refine Zn.ifc (c := .eq) (off := 10) 14 (by decide +kernel) rfl ⟨by omega, by omega⟩ (fun c_3 => absurd (show inB (0) 3 (s : Int) = 0 from c_3) (by omega)) (fun c_3 => ?_)
  have c_3 : ¬ (inB (0) 3 (s : Int) = 0) := c_3
  refine Zn.seg (pc2 := 8) (ls2 := [some (za (A 0)), some (zi (s : Int)), some (zi i), some (zi (t : Int)), some (zi j), some (zi n), none, none]) (st2 := [zi (t : Int)]) [(7, .iload_n 3)] (by decide +kernel) rfl ?_
  refine Zn.call (ins := .invokestatic 294) [zi (t : Int)] [] (by decide +kernel) rfl rfl rfl ⟨rfl, rfl⟩ ⟨rfl, rfl, rfl⟩ rfl (zrecvS (by decide)) (sp_X7_isSheet (x := (t : Int)) (by first | assumption | exact ⟨by omega, by omega⟩)) (fun v h2 hp => ?_)
  obtain ⟨rfl, hq_4⟩ := hp
  refine Zn.eq (pc2 := 11) (ls2 := [some (za (A 0)), some (zi (s : Int)), some (zi i), some (zi (t : Int)), some (zi j), some (zi n), none, none]) (st2 := [zi (inB (0) 3 (t : Int))]) (h2 := zov ([((A 0), .inr (7, [za (A 1), za (A 4), za (A 24), za (A 27), zi kt, za (A 47), za (A 49), za (A 52), za (A 63), za (A 68), za (A 72)])), ((A 72), .inl (3, 4, .inr f)), (so, .inr (5, [za si, zi he, zi la, zi sz])), (to, .inr (5, [za ti, zi he2, zi la2, zi sz2]))]) h) rfl rfl rfl hq_4 ?_
  have hD : zND ([((A 0), .inr (7, [za (A 1), za (A 4), za (A 24), za (A 27), zi kt, za (A 47), za (A 49), za (A 52), za (A 63), za (A 68), za (A 72)])), ((A 72), .inl (3, 4, .inr f)), (so, .inr (5, [za si, zi he, zi la, zi sz])), (to, .inr (5, [za ti, zi he2, zi la2, zi sz2]))]) := hD
  have q_5 := inB_spec (0) 3 (t : Int)
  refine Zn.ifc (c := .ne) (off := 5) 16 (by decide +kernel) rfl ⟨by omega, by omega⟩ (fun c_6 => ?_) (fun c_6 => absurd (show inB (0) 3 (t : Int) ≠ 0 from by omega) c_6)
  have c_6 : inB (0) 3 (t : Int) ≠ 0 := c_6
  refine Zn.seg (pc2 := 17) (ls2 := [some (za (A 0)), some (zi (s : Int)), some (zi i), some (zi (t : Int)), some (zi j), some (zi n), none, none]) (st2 := [za (A 0)]) [(16, .aload_n 0)] (by decide +kernel) rfl ?_
  refine Zn.get (ix := 66) hD 0 (by decide +kernel) rfl rfl rfl ?_
  refine Zn.seg (pc2 := 21) (ls2 := [some (za (A 0)), some (zi (s : Int)), some (zi i), some (zi (t : Int)), some (zi j), some (zi n), none, none]) (st2 := [zi (s : Int), za (A 72)]) [(20, .iload_n 1)] (by decide +kernel) rfl ?_
  refine Zn.aald hD 1 (s) (by decide +kernel) rfl rfl (by omega) (by omega) rfl (b := so) (hf) ?_
  refine Zn.seg (pc2 := 25) (ls2 := [some (za (A 0)), some (zi (s : Int)), some (zi i), some (zi (t : Int)), some (zi j), some (zi n), some (za so), none]) (st2 := [za (A 0)]) [(22, .astore 6), (24, .aload_n 0)] (by decide +kernel) rfl ?_
  refine Zn.get (ix := 66) hD 0 (by decide +kernel) rfl rfl rfl ?_
  refine Zn.seg (pc2 := 29) (ls2 := [some (za (A 0)), some (zi (s : Int)), some (zi i), some (zi (t : Int)), some (zi j), some (zi n), some (za so), none]) (st2 := [zi (t : Int), za (A 72)]) [(28, .iload_n 3)] (by decide +kernel) rfl ?_
  refine Zn.aald hD 1 (t) (by decide +kernel) rfl rfl (by omega) (by omega) rfl (b := to) (hf2) ?_
  refine Zn.seg (pc2 := 34) (ls2 := [some (za (A 0)), some (zi (s : Int)), some (zi i), some (zi (t : Int)), some (zi j), some (zi n), some (za so), some (za to)]) (st2 := [za so]) [(30, .astore 7), (32, .aload 6)] (by decide +kernel) rfl ?_
  refine Zn.get (ix := 322) hD 2 (by decide +kernel) rfl rfl rfl ?_
  refine Zn.ifc (c := .eq) (off := 11) 48 (by decide +kernel) rfl ⟨by omega, by omega⟩ (fun c_7 => ?_) (fun c_7 => ?_)
  · have c_7 : he = 0 := c_7
    refine Zn.seg (pc2 := 50) (ls2 := [some (za (A 0)), some (zi (s : Int)), some (zi i), some (zi (t : Int)), some (zi j), some (zi n), some (za so), some (za to)]) (st2 := [zi (-11)]) [(48, .bipush (-11))] (by decide +kernel) rfl ?_
    exact Zn.iret (by decide +kernel) rfl (⟨by first | rfl | (refine congrArg some (congrArg zi ?_); first | omega | (simp_all; done) | (simp_all; omega)), hh.symm⟩)
  · have c_7 : ¬ (he = 0) := c_7
    refine Zn.seg (pc2 := 42) (ls2 := [some (za (A 0)), some (zi (s : Int)), some (zi i), some (zi (t : Int)), some (zi j), some (zi n), some (za so), some (za to)]) (st2 := [za to]) [(40, .aload 7)] (by decide +kernel) rfl ?_
    refine Zn.get (ix := 322) hD 3 (by decide +kernel) rfl rfl rfl ?_
    refine Zn.ifc (c := .ne) (off := 6) 51 (by decide +kernel) rfl ⟨by omega, by omega⟩ (fun c_8 => absurd (show he2 ≠ 0 from c_8) (by omega)) (fun c_8 => ?_)
    have c_8 : ¬ (he2 ≠ 0) := c_8
    refine Zn.seg (pc2 := 50) (ls2 := [some (za (A 0)), some (zi (s : Int)), some (zi i), some (zi (t : Int)), some (zi j), some (zi n), some (za so), some (za to)]) (st2 := [zi (-11)]) [(48, .bipush (-11))] (by decide +kernel) rfl ?_
    exact Zn.iret (by decide +kernel) rfl (⟨by first | rfl | (refine congrArg some (congrArg zi ?_); first | omega | (simp_all; done) | (simp_all; omega)), hh.symm⟩)
theorem sp_X7_copy_cast {h : xH} {A : Nat → Nat} {kt he la sz he2 la2 sz2 : Int} {so si to ti s t : Nat} {f : Nat → Option Nat} {i j n : Int} (hc0 : h (A 0) = zcE (.inr (7, [za (A 1), za (A 4), za (A 24), za (A 27), zi kt, za (A 47), za (A 49), za (A 52), za (A 63), za (A 68), za (A 72)]))) (hc1 : h (A 72) = zcE (.inl (3, 4, .inr f))) (hc2 : h so = zcE (.inr (5, [za si, zi he, zi la, zi sz]))) (hc3 : h to = zcE (.inr (5, [za ti, zi he2, zi la2, zi sz2]))) (hD : [(A 0), (A 72), so, to].Nodup) (hs4 : s < 4) (ht4 : t < 4) (hf : f s = some so) (hf2 : f t = some to) (hhe : he = 0 ∨ he = 1) (hla : 0 ≤ la ∧ la ≤ 3) (hsz : 0 ≤ sz ∧ sz ≤ 24) (hhe2 : he2 = 0 ∨ he2 = 1) (hla2 : 0 ≤ la2 ∧ la2 ≤ 3) (hsz2 : 0 ≤ sz2 ∧ sz2 ≤ 24) (hb : he ≠ 0 ∧ he2 ≠ 0 ∧ la ≠ la2) : zEv k_X7_copy [za (A 0), zi (s : Int), zi i, zi (t : Int), zi j, zi n] h (fun v h2 => v = some (zi (-12)) ∧ h2 = h) := by
  have hh : h = zov [((A 0), .inr (7, [za (A 1), za (A 4), za (A 24), za (A 27), zi kt, za (A 47), za (A 49), za (A 52), za (A 63), za (A 68), za (A 72)])), ((A 72), .inl (3, 4, .inr f)), (so, .inr (5, [za si, zi he, zi la, zi sz])), (to, .inr (5, [za ti, zi he2, zi la2, zi sz2]))] h := zov_self (List.forall_mem_cons.mpr ⟨hc0, List.forall_mem_cons.mpr ⟨hc1, List.forall_mem_cons.mpr ⟨hc2, List.forall_mem_cons.mpr ⟨hc3, fun _ q => absurd q List.not_mem_nil⟩⟩⟩⟩)
  refine zEv.body (I := (7, xI_X7_copy, 8, 1, 26, 0, 0, false)) (rt := (some .int)) [some (za (A 0)), some (zi (s : Int)), some (zi i), some (zi (t : Int)), some (zi j), some (zi n), none, none] rfl rfl rfl rfl ?_
  refine Zn.eq rfl rfl rfl hh ?_
  have hD : zND ([((A 0), .inr (7, [za (A 1), za (A 4), za (A 24), za (A 27), zi kt, za (A 47), za (A 49), za (A 52), za (A 63), za (A 68), za (A 72)])), ((A 72), .inl (3, 4, .inr f)), (so, .inr (5, [za si, zi he, zi la, zi sz])), (to, .inr (5, [za ti, zi he2, zi la2, zi sz2]))]) := hD
  refine Zn.seg (pc2 := 1) (ls2 := [some (za (A 0)), some (zi (s : Int)), some (zi i), some (zi (t : Int)), some (zi j), some (zi n), none, none]) (st2 := [zi (s : Int)]) [(0, .iload_n 1)] (by decide +kernel) rfl ?_
  refine Zn.call (ins := .invokestatic 294) [zi (s : Int)] [] (by decide +kernel) rfl rfl rfl ⟨rfl, rfl⟩ ⟨rfl, rfl, rfl⟩ rfl (zrecvS (by decide)) (sp_X7_isSheet (x := (s : Int)) (by first | assumption | exact ⟨by omega, by omega⟩)) (fun v h2 hp => ?_)
  obtain ⟨rfl, hq_1⟩ := hp
  refine Zn.eq (pc2 := 4) (ls2 := [some (za (A 0)), some (zi (s : Int)), some (zi i), some (zi (t : Int)), some (zi j), some (zi n), none, none]) (st2 := [zi (inB (0) 3 (s : Int))]) (h2 := zov ([((A 0), .inr (7, [za (A 1), za (A 4), za (A 24), za (A 27), zi kt, za (A 47), za (A 49), za (A 52), za (A 63), za (A 68), za (A 72)])), ((A 72), .inl (3, 4, .inr f)), (so, .inr (5, [za si, zi he, zi la, zi sz])), (to, .inr (5, [za ti, zi he2, zi la2, zi sz2]))]) h) rfl rfl rfl hq_1 ?_
  have hD : zND ([((A 0), .inr (7, [za (A 1), za (A 4), za (A 24), za (A 27), zi kt, za (A 47), za (A 49), za (A 52), za (A 63), za (A 68), za (A 72)])), ((A 72), .inl (3, 4, .inr f)), (so, .inr (5, [za si, zi he, zi la, zi sz])), (to, .inr (5, [za ti, zi he2, zi la2, zi sz2]))]) := hD
  have q_2 := inB_spec (0) 3 (s : Int)
  refine Zn.ifc (c := .eq) (off := 10) 14 (by decide +kernel) rfl ⟨by omega, by omega⟩ (fun c_3 => absurd (show inB (0) 3 (s : Int) = 0 from c_3) (by omega)) (fun c_3 => ?_)
  have c_3 : ¬ (inB (0) 3 (s : Int) = 0) := c_3
  refine Zn.seg (pc2 := 8) (ls2 := [some (za (A 0)), some (zi (s : Int)), some (zi i), some (zi (t : Int)), some (zi j), some (zi n), none, none]) (st2 := [zi (t : Int)]) [(7, .iload_n 3)] (by decide +kernel) rfl ?_
  refine Zn.call (ins := .invokestatic 294) [zi (t : Int)] [] (by decide +kernel) rfl rfl rfl ⟨rfl, rfl⟩ ⟨rfl, rfl, rfl⟩ rfl (zrecvS (by decide)) (sp_X7_isSheet (x := (t : Int)) (by first | assumption | exact ⟨by omega, by omega⟩)) (fun v h2 hp => ?_)
  obtain ⟨rfl, hq_4⟩ := hp
  refine Zn.eq (pc2 := 11) (ls2 := [some (za (A 0)), some (zi (s : Int)), some (zi i), some (zi (t : Int)), some (zi j), some (zi n), none, none]) (st2 := [zi (inB (0) 3 (t : Int))]) (h2 := zov ([((A 0), .inr (7, [za (A 1), za (A 4), za (A 24), za (A 27), zi kt, za (A 47), za (A 49), za (A 52), za (A 63), za (A 68), za (A 72)])), ((A 72), .inl (3, 4, .inr f)), (so, .inr (5, [za si, zi he, zi la, zi sz])), (to, .inr (5, [za ti, zi he2, zi la2, zi sz2]))]) h) rfl rfl rfl hq_4 ?_
  have hD : zND ([((A 0), .inr (7, [za (A 1), za (A 4), za (A 24), za (A 27), zi kt, za (A 47), za (A 49), za (A 52), za (A 63), za (A 68), za (A 72)])), ((A 72), .inl (3, 4, .inr f)), (so, .inr (5, [za si, zi he, zi la, zi sz])), (to, .inr (5, [za ti, zi he2, zi la2, zi sz2]))]) := hD
  have q_5 := inB_spec (0) 3 (t : Int)
  refine Zn.ifc (c := .ne) (off := 5) 16 (by decide +kernel) rfl ⟨by omega, by omega⟩ (fun c_6 => ?_) (fun c_6 => absurd (show inB (0) 3 (t : Int) ≠ 0 from by omega) c_6)
  have c_6 : inB (0) 3 (t : Int) ≠ 0 := c_6
  refine Zn.seg (pc2 := 17) (ls2 := [some (za (A 0)), some (zi (s : Int)), some (zi i), some (zi (t : Int)), some (zi j), some (zi n), none, none]) (st2 := [za (A 0)]) [(16, .aload_n 0)] (by decide +kernel) rfl ?_
  refine Zn.get (ix := 66) hD 0 (by decide +kernel) rfl rfl rfl ?_
  refine Zn.seg (pc2 := 21) (ls2 := [some (za (A 0)), some (zi (s : Int)), some (zi i), some (zi (t : Int)), some (zi j), some (zi n), none, none]) (st2 := [zi (s : Int), za (A 72)]) [(20, .iload_n 1)] (by decide +kernel) rfl ?_
  refine Zn.aald hD 1 (s) (by decide +kernel) rfl rfl (by omega) (by omega) rfl (b := so) (hf) ?_
  refine Zn.seg (pc2 := 25) (ls2 := [some (za (A 0)), some (zi (s : Int)), some (zi i), some (zi (t : Int)), some (zi j), some (zi n), some (za so), none]) (st2 := [za (A 0)]) [(22, .astore 6), (24, .aload_n 0)] (by decide +kernel) rfl ?_
  refine Zn.get (ix := 66) hD 0 (by decide +kernel) rfl rfl rfl ?_
  refine Zn.seg (pc2 := 29) (ls2 := [some (za (A 0)), some (zi (s : Int)), some (zi i), some (zi (t : Int)), some (zi j), some (zi n), some (za so), none]) (st2 := [zi (t : Int), za (A 72)]) [(28, .iload_n 3)] (by decide +kernel) rfl ?_
  refine Zn.aald hD 1 (t) (by decide +kernel) rfl rfl (by omega) (by omega) rfl (b := to) (hf2) ?_
  refine Zn.seg (pc2 := 34) (ls2 := [some (za (A 0)), some (zi (s : Int)), some (zi i), some (zi (t : Int)), some (zi j), some (zi n), some (za so), some (za to)]) (st2 := [za so]) [(30, .astore 7), (32, .aload 6)] (by decide +kernel) rfl ?_
  refine Zn.get (ix := 322) hD 2 (by decide +kernel) rfl rfl rfl ?_
  refine Zn.ifc (c := .eq) (off := 11) 48 (by decide +kernel) rfl ⟨by omega, by omega⟩ (fun c_7 => absurd (show he = 0 from c_7) (by omega)) (fun c_7 => ?_)
  have c_7 : ¬ (he = 0) := c_7
  refine Zn.seg (pc2 := 42) (ls2 := [some (za (A 0)), some (zi (s : Int)), some (zi i), some (zi (t : Int)), some (zi j), some (zi n), some (za so), some (za to)]) (st2 := [za to]) [(40, .aload 7)] (by decide +kernel) rfl ?_
  refine Zn.get (ix := 322) hD 3 (by decide +kernel) rfl rfl rfl ?_
  refine Zn.ifc (c := .ne) (off := 6) 51 (by decide +kernel) rfl ⟨by omega, by omega⟩ (fun c_8 => ?_) (fun c_8 => absurd (show he2 ≠ 0 from by omega) c_8)
  have c_8 : he2 ≠ 0 := c_8
  refine Zn.seg (pc2 := 53) (ls2 := [some (za (A 0)), some (zi (s : Int)), some (zi i), some (zi (t : Int)), some (zi j), some (zi n), some (za so), some (za to)]) (st2 := [za so]) [(51, .aload 6)] (by decide +kernel) rfl ?_
  refine Zn.get (ix := 328) hD 2 (by decide +kernel) rfl rfl rfl ?_
  refine Zn.seg (pc2 := 58) (ls2 := [some (za (A 0)), some (zi (s : Int)), some (zi i), some (zi (t : Int)), some (zi j), some (zi n), some (za so), some (za to)]) (st2 := [za to, zi la]) [(56, .aload 7)] (by decide +kernel) rfl ?_
  refine Zn.get (ix := 328) hD 3 (by decide +kernel) rfl rfl rfl ?_
  refine Zn.icmp (c := .eq) (off := 6) 67 (by decide +kernel) rfl ⟨by omega, by omega⟩ ⟨by omega, by omega⟩ (fun c_9 => absurd (show la = la2 from c_9) (by omega)) (fun c_9 => ?_)
  have c_9 : ¬ (la = la2) := c_9
  refine Zn.seg (pc2 := 66) (ls2 := [some (za (A 0)), some (zi (s : Int)), some (zi i), some (zi (t : Int)), some (zi j), some (zi n), some (za so), some (za to)]) (st2 := [zi (-12)]) [(64, .bipush (-12))] (by decide +kernel) rfl ?_
  exact Zn.iret (by decide +kernel) rfl (⟨by first | rfl | (refine congrArg some (congrArg zi ?_); first | omega | (simp_all; done) | (simp_all; omega)), hh.symm⟩)
theorem sp_X7_copy_index {h : xH} {A : Nat → Nat} {kt he la sz he2 la2 sz2 : Int} {so si to ti s t : Nat} {f : Nat → Option Nat} {i j n : Int} (hc0 : h (A 0) = zcE (.inr (7, [za (A 1), za (A 4), za (A 24), za (A 27), zi kt, za (A 47), za (A 49), za (A 52), za (A 63), za (A 68), za (A 72)]))) (hc1 : h (A 72) = zcE (.inl (3, 4, .inr f))) (hc2 : h so = zcE (.inr (5, [za si, zi he, zi la, zi sz]))) (hc3 : h to = zcE (.inr (5, [za ti, zi he2, zi la2, zi sz2]))) (hD : [(A 0), (A 72), so, to].Nodup) (hs4 : s < 4) (ht4 : t < 4) (hf : f s = some so) (hf2 : f t = some to) (hhe : he = 0 ∨ he = 1) (hla : 0 ≤ la ∧ la ≤ 3) (hsz : 0 ≤ sz ∧ sz ≤ 24) (hhe2 : he2 = 0 ∨ he2 = 1) (hla2 : 0 ≤ la2 ∧ la2 ≤ 3) (hsz2 : 0 ≤ sz2 ∧ sz2 ≤ 24) (zi_ : zInI i) (zj_ : zInI j) (zn : zInI n) (hb : he ≠ 0 ∧ he2 ≠ 0 ∧ la = la2 ∧ (rcV sz i n ≠ 1 ∨ rcV sz2 j n ≠ 1)) : zEv k_X7_copy [za (A 0), zi (s : Int), zi i, zi (t : Int), zi j, zi n] h (fun v h2 => v = some (zi (-13)) ∧ h2 = h) := by
  have hh : h = zov [((A 0), .inr (7, [za (A 1), za (A 4), za (A 24), za (A 27), zi kt, za (A 47), za (A 49), za (A 52), za (A 63), za (A 68), za (A 72)])), ((A 72), .inl (3, 4, .inr f)), (so, .inr (5, [za si, zi he, zi la, zi sz])), (to, .inr (5, [za ti, zi he2, zi la2, zi sz2]))] h := zov_self (List.forall_mem_cons.mpr ⟨hc0, List.forall_mem_cons.mpr ⟨hc1, List.forall_mem_cons.mpr ⟨hc2, List.forall_mem_cons.mpr ⟨hc3, fun _ q => absurd q List.not_mem_nil⟩⟩⟩⟩)
  have hr1 := rcV_c sz i n
  have hr2 := rcV_c sz2 j n
  refine zEv.body (I := (7, xI_X7_copy, 8, 1, 26, 0, 0, false)) (rt := (some .int)) [some (za (A 0)), some (zi (s : Int)), some (zi i), some (zi (t : Int)), some (zi j), some (zi n), none, none] rfl rfl rfl rfl ?_
  refine Zn.eq rfl rfl rfl hh ?_
  have hD : zND ([((A 0), .inr (7, [za (A 1), za (A 4), za (A 24), za (A 27), zi kt, za (A 47), za (A 49), za (A 52), za (A 63), za (A 68), za (A 72)])), ((A 72), .inl (3, 4, .inr f)), (so, .inr (5, [za si, zi he, zi la, zi sz])), (to, .inr (5, [za ti, zi he2, zi la2, zi sz2]))]) := hD
  refine Zn.seg (pc2 := 1) (ls2 := [some (za (A 0)), some (zi (s : Int)), some (zi i), some (zi (t : Int)), some (zi j), some (zi n), none, none]) (st2 := [zi (s : Int)]) [(0, .iload_n 1)] (by decide +kernel) rfl ?_
  refine Zn.call (ins := .invokestatic 294) [zi (s : Int)] [] (by decide +kernel) rfl rfl rfl ⟨rfl, rfl⟩ ⟨rfl, rfl, rfl⟩ rfl (zrecvS (by decide)) (sp_X7_isSheet (x := (s : Int)) (by first | assumption | exact ⟨by omega, by omega⟩)) (fun v h2 hp => ?_)
  obtain ⟨rfl, hq_1⟩ := hp
  refine Zn.eq (pc2 := 4) (ls2 := [some (za (A 0)), some (zi (s : Int)), some (zi i), some (zi (t : Int)), some (zi j), some (zi n), none, none]) (st2 := [zi (inB (0) 3 (s : Int))]) (h2 := zov ([((A 0), .inr (7, [za (A 1), za (A 4), za (A 24), za (A 27), zi kt, za (A 47), za (A 49), za (A 52), za (A 63), za (A 68), za (A 72)])), ((A 72), .inl (3, 4, .inr f)), (so, .inr (5, [za si, zi he, zi la, zi sz])), (to, .inr (5, [za ti, zi he2, zi la2, zi sz2]))]) h) rfl rfl rfl hq_1 ?_
  have hD : zND ([((A 0), .inr (7, [za (A 1), za (A 4), za (A 24), za (A 27), zi kt, za (A 47), za (A 49), za (A 52), za (A 63), za (A 68), za (A 72)])), ((A 72), .inl (3, 4, .inr f)), (so, .inr (5, [za si, zi he, zi la, zi sz])), (to, .inr (5, [za ti, zi he2, zi la2, zi sz2]))]) := hD
  have q_2 := inB_spec (0) 3 (s : Int)
  refine Zn.ifc (c := .eq) (off := 10) 14 (by decide +kernel) rfl ⟨by omega, by omega⟩ (fun c_3 => absurd (show inB (0) 3 (s : Int) = 0 from c_3) (by omega)) (fun c_3 => ?_)
  have c_3 : ¬ (inB (0) 3 (s : Int) = 0) := c_3
  refine Zn.seg (pc2 := 8) (ls2 := [some (za (A 0)), some (zi (s : Int)), some (zi i), some (zi (t : Int)), some (zi j), some (zi n), none, none]) (st2 := [zi (t : Int)]) [(7, .iload_n 3)] (by decide +kernel) rfl ?_
  refine Zn.call (ins := .invokestatic 294) [zi (t : Int)] [] (by decide +kernel) rfl rfl rfl ⟨rfl, rfl⟩ ⟨rfl, rfl, rfl⟩ rfl (zrecvS (by decide)) (sp_X7_isSheet (x := (t : Int)) (by first | assumption | exact ⟨by omega, by omega⟩)) (fun v h2 hp => ?_)
  obtain ⟨rfl, hq_4⟩ := hp
  refine Zn.eq (pc2 := 11) (ls2 := [some (za (A 0)), some (zi (s : Int)), some (zi i), some (zi (t : Int)), some (zi j), some (zi n), none, none]) (st2 := [zi (inB (0) 3 (t : Int))]) (h2 := zov ([((A 0), .inr (7, [za (A 1), za (A 4), za (A 24), za (A 27), zi kt, za (A 47), za (A 49), za (A 52), za (A 63), za (A 68), za (A 72)])), ((A 72), .inl (3, 4, .inr f)), (so, .inr (5, [za si, zi he, zi la, zi sz])), (to, .inr (5, [za ti, zi he2, zi la2, zi sz2]))]) h) rfl rfl rfl hq_4 ?_
  have hD : zND ([((A 0), .inr (7, [za (A 1), za (A 4), za (A 24), za (A 27), zi kt, za (A 47), za (A 49), za (A 52), za (A 63), za (A 68), za (A 72)])), ((A 72), .inl (3, 4, .inr f)), (so, .inr (5, [za si, zi he, zi la, zi sz])), (to, .inr (5, [za ti, zi he2, zi la2, zi sz2]))]) := hD
  have q_5 := inB_spec (0) 3 (t : Int)
  refine Zn.ifc (c := .ne) (off := 5) 16 (by decide +kernel) rfl ⟨by omega, by omega⟩ (fun c_6 => ?_) (fun c_6 => absurd (show inB (0) 3 (t : Int) ≠ 0 from by omega) c_6)
  have c_6 : inB (0) 3 (t : Int) ≠ 0 := c_6
  refine Zn.seg (pc2 := 17) (ls2 := [some (za (A 0)), some (zi (s : Int)), some (zi i), some (zi (t : Int)), some (zi j), some (zi n), none, none]) (st2 := [za (A 0)]) [(16, .aload_n 0)] (by decide +kernel) rfl ?_
  refine Zn.get (ix := 66) hD 0 (by decide +kernel) rfl rfl rfl ?_
  refine Zn.seg (pc2 := 21) (ls2 := [some (za (A 0)), some (zi (s : Int)), some (zi i), some (zi (t : Int)), some (zi j), some (zi n), none, none]) (st2 := [zi (s : Int), za (A 72)]) [(20, .iload_n 1)] (by decide +kernel) rfl ?_
  refine Zn.aald hD 1 (s) (by decide +kernel) rfl rfl (by omega) (by omega) rfl (b := so) (hf) ?_
  refine Zn.seg (pc2 := 25) (ls2 := [some (za (A 0)), some (zi (s : Int)), some (zi i), some (zi (t : Int)), some (zi j), some (zi n), some (za so), none]) (st2 := [za (A 0)]) [(22, .astore 6), (24, .aload_n 0)] (by decide +kernel) rfl ?_
  refine Zn.get (ix := 66) hD 0 (by decide +kernel) rfl rfl rfl ?_
  refine Zn.seg (pc2 := 29) (ls2 := [some (za (A 0)), some (zi (s : Int)), some (zi i), some (zi (t : Int)), some (zi j), some (zi n), some (za so), none]) (st2 := [zi (t : Int), za (A 72)]) [(28, .iload_n 3)] (by decide +kernel) rfl ?_
  refine Zn.aald hD 1 (t) (by decide +kernel) rfl rfl (by omega) (by omega) rfl (b := to) (hf2) ?_
  refine Zn.seg (pc2 := 34) (ls2 := [some (za (A 0)), some (zi (s : Int)), some (zi i), some (zi (t : Int)), some (zi j), some (zi n), some (za so), some (za to)]) (st2 := [za so]) [(30, .astore 7), (32, .aload 6)] (by decide +kernel) rfl ?_
  refine Zn.get (ix := 322) hD 2 (by decide +kernel) rfl rfl rfl ?_
  refine Zn.ifc (c := .eq) (off := 11) 48 (by decide +kernel) rfl ⟨by omega, by omega⟩ (fun c_7 => absurd (show he = 0 from c_7) (by omega)) (fun c_7 => ?_)
  have c_7 : ¬ (he = 0) := c_7
  refine Zn.seg (pc2 := 42) (ls2 := [some (za (A 0)), some (zi (s : Int)), some (zi i), some (zi (t : Int)), some (zi j), some (zi n), some (za so), some (za to)]) (st2 := [za to]) [(40, .aload 7)] (by decide +kernel) rfl ?_
  refine Zn.get (ix := 322) hD 3 (by decide +kernel) rfl rfl rfl ?_
  refine Zn.ifc (c := .ne) (off := 6) 51 (by decide +kernel) rfl ⟨by omega, by omega⟩ (fun c_8 => ?_) (fun c_8 => absurd (show he2 ≠ 0 from by omega) c_8)
  have c_8 : he2 ≠ 0 := c_8
  refine Zn.seg (pc2 := 53) (ls2 := [some (za (A 0)), some (zi (s : Int)), some (zi i), some (zi (t : Int)), some (zi j), some (zi n), some (za so), some (za to)]) (st2 := [za so]) [(51, .aload 6)] (by decide +kernel) rfl ?_
  refine Zn.get (ix := 328) hD 2 (by decide +kernel) rfl rfl rfl ?_
  refine Zn.seg (pc2 := 58) (ls2 := [some (za (A 0)), some (zi (s : Int)), some (zi i), some (zi (t : Int)), some (zi j), some (zi n), some (za so), some (za to)]) (st2 := [za to, zi la]) [(56, .aload 7)] (by decide +kernel) rfl ?_
  refine Zn.get (ix := 328) hD 3 (by decide +kernel) rfl rfl rfl ?_
  refine Zn.icmp (c := .eq) (off := 6) 67 (by decide +kernel) rfl ⟨by omega, by omega⟩ ⟨by omega, by omega⟩ (fun c_9 => ?_) (fun c_9 => absurd (show la = la2 from by omega) c_9)
  have c_9 : la = la2 := c_9
  refine Zn.seg (pc2 := 72) (ls2 := [some (za (A 0)), some (zi (s : Int)), some (zi i), some (zi (t : Int)), some (zi j), some (zi n), some (za so), some (za to)]) (st2 := [zi n, zi i, za so]) [(67, .aload 6), (69, .iload_n 2), (70, .iload 5)] (by decide +kernel) rfl ?_
  refine Zn.call (ins := .invokevirtual 331) [za so, zi i, zi n] [] (by decide +kernel) rfl rfl rfl ⟨rfl, rfl⟩ ⟨rfl, rfl, rfl⟩ rfl (zrecvV hD (p := 2) rfl rfl rfl) (sp_X5_reaches (o := so) (ia := si) (he := he) (la := la) (sz := sz) (i := i) (n := n) (zov_get hD 2 rfl) (hsz) (zi_) (zn)) (fun v h2 hp => ?_)
  obtain ⟨rfl, hq_10⟩ := hp
  refine Zn.eq (pc2 := 75) (ls2 := [some (za (A 0)), some (zi (s : Int)), some (zi i), some (zi (t : Int)), some (zi j), some (zi n), some (za so), some (za to)]) (st2 := [zi (rcV sz i n)]) (h2 := zov ([((A 0), .inr (7, [za (A 1), za (A 4), za (A 24), za (A 27), zi kt, za (A 47), za (A 49), za (A 52), za (A 63), za (A 68), za (A 72)])), ((A 72), .inl (3, 4, .inr f)), (so, .inr (5, [za si, zi he, zi la, zi sz])), (to, .inr (5, [za ti, zi he2, zi la2, zi sz2]))]) h) rfl rfl rfl hq_10 ?_
  have hD : zND ([((A 0), .inr (7, [za (A 1), za (A 4), za (A 24), za (A 27), zi kt, za (A 47), za (A 49), za (A 52), za (A 63), za (A 68), za (A 72)])), ((A 72), .inl (3, 4, .inr f)), (so, .inr (5, [za si, zi he, zi la, zi sz])), (to, .inr (5, [za ti, zi he2, zi la2, zi sz2]))]) := hD
  have q_11 := rcV_c sz i n
  refine Zn.ifc (c := .eq) (off := 15) 90 (by decide +kernel) rfl ⟨by omega, by omega⟩ (fun c_12 => ?_) (fun c_12 => ?_)
  · have c_12 : rcV sz i n = 0 := c_12
    refine Zn.seg (pc2 := 92) (ls2 := [some (za (A 0)), some (zi (s : Int)), some (zi i), some (zi (t : Int)), some (zi j), some (zi n), some (za so), some (za to)]) (st2 := [zi (-13)]) [(90, .bipush (-13))] (by decide +kernel) rfl ?_
    exact Zn.iret (by decide +kernel) rfl (⟨by first | rfl | (refine congrArg some (congrArg zi ?_); first | omega | (simp_all; done) | (simp_all; omega)), hh.symm⟩)
  · have c_12 : ¬ (rcV sz i n = 0) := c_12
    refine Zn.seg (pc2 := 84) (ls2 := [some (za (A 0)), some (zi (s : Int)), some (zi i), some (zi (t : Int)), some (zi j), some (zi n), some (za so), some (za to)]) (st2 := [zi n, zi j, za to]) [(78, .aload 7), (80, .iload 4), (82, .iload 5)] (by decide +kernel) rfl ?_
    refine Zn.call (ins := .invokevirtual 331) [za to, zi j, zi n] [] (by decide +kernel) rfl rfl rfl ⟨rfl, rfl⟩ ⟨rfl, rfl, rfl⟩ rfl (zrecvV hD (p := 3) rfl rfl rfl) (sp_X5_reaches (o := to) (ia := ti) (he := he2) (la := la2) (sz := sz2) (i := j) (n := n) (zov_get hD 3 rfl) (hsz2) (zj_) (zn)) (fun v h2 hp => ?_)
    obtain ⟨rfl, hq_13⟩ := hp
    refine Zn.eq (pc2 := 87) (ls2 := [some (za (A 0)), some (zi (s : Int)), some (zi i), some (zi (t : Int)), some (zi j), some (zi n), some (za so), some (za to)]) (st2 := [zi (rcV sz2 j n)]) (h2 := zov ([((A 0), .inr (7, [za (A 1), za (A 4), za (A 24), za (A 27), zi kt, za (A 47), za (A 49), za (A 52), za (A 63), za (A 68), za (A 72)])), ((A 72), .inl (3, 4, .inr f)), (so, .inr (5, [za si, zi he, zi la, zi sz])), (to, .inr (5, [za ti, zi he2, zi la2, zi sz2]))]) h) rfl rfl rfl hq_13 ?_
    have hD : zND ([((A 0), .inr (7, [za (A 1), za (A 4), za (A 24), za (A 27), zi kt, za (A 47), za (A 49), za (A 52), za (A 63), za (A 68), za (A 72)])), ((A 72), .inl (3, 4, .inr f)), (so, .inr (5, [za si, zi he, zi la, zi sz])), (to, .inr (5, [za ti, zi he2, zi la2, zi sz2]))]) := hD
    have q_14 := rcV_c sz2 j n
    refine Zn.ifc (c := .ne) (off := 6) 93 (by decide +kernel) rfl ⟨by omega, by omega⟩ (fun c_15 => absurd (show rcV sz2 j n ≠ 0 from c_15) (by omega)) (fun c_15 => ?_)
    have c_15 : ¬ (rcV sz2 j n ≠ 0) := c_15
    refine Zn.seg (pc2 := 92) (ls2 := [some (za (A 0)), some (zi (s : Int)), some (zi i), some (zi (t : Int)), some (zi j), some (zi n), some (za so), some (za to)]) (st2 := [zi (-13)]) [(90, .bipush (-13))] (by decide +kernel) rfl ?_
    exact Zn.iret (by decide +kernel) rfl (⟨by first | rfl | (refine congrArg some (congrArg zi ?_); first | omega | (simp_all; done) | (simp_all; omega)), hh.symm⟩)
theorem sp_X7_copy_ok {h : xH} {A : Nat → Nat} {kt he la sz he2 la2 sz2 : Int} {so si to ti s t i j n : Nat} {f : Nat → Option Nat} {it it2 : Nat → Int} (hc0 : h (A 0) = zcE (.inr (7, [za (A 1), za (A 4), za (A 24), za (A 27), zi kt, za (A 47), za (A 49), za (A 52), za (A 63), za (A 68), za (A 72)]))) (hc1 : h (A 72) = zcE (.inl (3, 4, .inr f))) (hc2 : h so = zcE (.inr (5, [za si, zi he, zi la, zi sz]))) (hc3 : h si = zcE (.inl (1, 24, .inl it))) (hc4 : h to = zcE (.inr (5, [za ti, zi he2, zi la2, zi sz2]))) (hc5 : h ti = zcE (.inl (1, 24, .inl it2))) (hD : [(A 0), (A 72), so, si, to, ti].Nodup) (hs4 : s < 4) (ht4 : t < 4) (hf : f s = some so) (hf2 : f t = some to) (hhe : he = 0 ∨ he = 1) (hla : 0 ≤ la ∧ la ≤ 3) (hsz : 0 ≤ sz ∧ sz ≤ 24) (hhe2 : he2 = 0 ∨ he2 = 1) (hla2 : 0 ≤ la2 ∧ la2 ≤ 3) (hsz2 : 0 ≤ sz2 ∧ sz2 ≤ 24) (hb : he ≠ 0 ∧ he2 ≠ 0 ∧ la = la2 ∧ (i : Int) + n ≤ sz ∧ (j : Int) + n ≤ sz2) : zEv k_X7_copy [za (A 0), zi (s : Int), zi (i : Int), zi (t : Int), zi (j : Int), zi (n : Int)] h (fun v h2 => v = some (zi (n : Int)) ∧ h2 = zov [((A 0), .inr (7, [za (A 1), za (A 4), za (A 24), za (A 27), zi kt, za (A 47), za (A 49), za (A 52), za (A 63), za (A 68), za (A 72)])), ((A 72), .inl (3, 4, .inr f)), (so, .inr (5, [za si, zi he, zi la, zi sz])), (si, .inl (1, 24, .inl it)), (to, .inr (5, [za ti, zi he2, zi la2, zi sz2])), (ti, .inl (1, 24, .inl (va_cpy it it2 i j n)))] h) := by
  have hh : h = zov [((A 0), .inr (7, [za (A 1), za (A 4), za (A 24), za (A 27), zi kt, za (A 47), za (A 49), za (A 52), za (A 63), za (A 68), za (A 72)])), ((A 72), .inl (3, 4, .inr f)), (so, .inr (5, [za si, zi he, zi la, zi sz])), (si, .inl (1, 24, .inl it)), (to, .inr (5, [za ti, zi he2, zi la2, zi sz2])), (ti, .inl (1, 24, .inl it2))] h := zov_self (List.forall_mem_cons.mpr ⟨hc0, List.forall_mem_cons.mpr ⟨hc1, List.forall_mem_cons.mpr ⟨hc2, List.forall_mem_cons.mpr ⟨hc3, List.forall_mem_cons.mpr ⟨hc4, List.forall_mem_cons.mpr ⟨hc5, fun _ q => absurd q List.not_mem_nil⟩⟩⟩⟩⟩⟩)
  have hr1 := rcV_c sz i n
  have hr2 := rcV_c sz2 j n
  refine zEv.body (I := (7, xI_X7_copy, 8, 1, 26, 0, 0, false)) (rt := (some .int)) [some (za (A 0)), some (zi (s : Int)), some (zi (i : Int)), some (zi (t : Int)), some (zi (j : Int)), some (zi (n : Int)), none, none] rfl rfl rfl rfl ?_
  refine Zn.eq rfl rfl rfl hh ?_
  have hD : zND ([((A 0), .inr (7, [za (A 1), za (A 4), za (A 24), za (A 27), zi kt, za (A 47), za (A 49), za (A 52), za (A 63), za (A 68), za (A 72)])), ((A 72), .inl (3, 4, .inr f)), (so, .inr (5, [za si, zi he, zi la, zi sz])), (si, .inl (1, 24, .inl it)), (to, .inr (5, [za ti, zi he2, zi la2, zi sz2])), (ti, .inl (1, 24, .inl it2))]) := hD
  refine Zn.seg (pc2 := 1) (ls2 := [some (za (A 0)), some (zi (s : Int)), some (zi (i : Int)), some (zi (t : Int)), some (zi (j : Int)), some (zi (n : Int)), none, none]) (st2 := [zi (s : Int)]) [(0, .iload_n 1)] (by decide +kernel) rfl ?_
  refine Zn.call (ins := .invokestatic 294) [zi (s : Int)] [] (by decide +kernel) rfl rfl rfl ⟨rfl, rfl⟩ ⟨rfl, rfl, rfl⟩ rfl (zrecvS (by decide)) (sp_X7_isSheet (x := (s : Int)) (by first | assumption | exact ⟨by omega, by omega⟩)) (fun v h2 hp => ?_)
  obtain ⟨rfl, hq_1⟩ := hp
  refine Zn.eq (pc2 := 4) (ls2 := [some (za (A 0)), some (zi (s : Int)), some (zi (i : Int)), some (zi (t : Int)), some (zi (j : Int)), some (zi (n : Int)), none, none]) (st2 := [zi (inB (0) 3 (s : Int))]) (h2 := zov ([((A 0), .inr (7, [za (A 1), za (A 4), za (A 24), za (A 27), zi kt, za (A 47), za (A 49), za (A 52), za (A 63), za (A 68), za (A 72)])), ((A 72), .inl (3, 4, .inr f)), (so, .inr (5, [za si, zi he, zi la, zi sz])), (si, .inl (1, 24, .inl it)), (to, .inr (5, [za ti, zi he2, zi la2, zi sz2])), (ti, .inl (1, 24, .inl it2))]) h) rfl rfl rfl hq_1 ?_
  have hD : zND ([((A 0), .inr (7, [za (A 1), za (A 4), za (A 24), za (A 27), zi kt, za (A 47), za (A 49), za (A 52), za (A 63), za (A 68), za (A 72)])), ((A 72), .inl (3, 4, .inr f)), (so, .inr (5, [za si, zi he, zi la, zi sz])), (si, .inl (1, 24, .inl it)), (to, .inr (5, [za ti, zi he2, zi la2, zi sz2])), (ti, .inl (1, 24, .inl it2))]) := hD
  have q_2 := inB_spec (0) 3 (s : Int)
  refine Zn.ifc (c := .eq) (off := 10) 14 (by decide +kernel) rfl ⟨by omega, by omega⟩ (fun c_3 => absurd (show inB (0) 3 (s : Int) = 0 from c_3) (by omega)) (fun c_3 => ?_)
  have c_3 : ¬ (inB (0) 3 (s : Int) = 0) := c_3
  refine Zn.seg (pc2 := 8) (ls2 := [some (za (A 0)), some (zi (s : Int)), some (zi (i : Int)), some (zi (t : Int)), some (zi (j : Int)), some (zi (n : Int)), none, none]) (st2 := [zi (t : Int)]) [(7, .iload_n 3)] (by decide +kernel) rfl ?_
  refine Zn.call (ins := .invokestatic 294) [zi (t : Int)] [] (by decide +kernel) rfl rfl rfl ⟨rfl, rfl⟩ ⟨rfl, rfl, rfl⟩ rfl (zrecvS (by decide)) (sp_X7_isSheet (x := (t : Int)) (by first | assumption | exact ⟨by omega, by omega⟩)) (fun v h2 hp => ?_)
  obtain ⟨rfl, hq_4⟩ := hp
  refine Zn.eq (pc2 := 11) (ls2 := [some (za (A 0)), some (zi (s : Int)), some (zi (i : Int)), some (zi (t : Int)), some (zi (j : Int)), some (zi (n : Int)), none, none]) (st2 := [zi (inB (0) 3 (t : Int))]) (h2 := zov ([((A 0), .inr (7, [za (A 1), za (A 4), za (A 24), za (A 27), zi kt, za (A 47), za (A 49), za (A 52), za (A 63), za (A 68), za (A 72)])), ((A 72), .inl (3, 4, .inr f)), (so, .inr (5, [za si, zi he, zi la, zi sz])), (si, .inl (1, 24, .inl it)), (to, .inr (5, [za ti, zi he2, zi la2, zi sz2])), (ti, .inl (1, 24, .inl it2))]) h) rfl rfl rfl hq_4 ?_
  have hD : zND ([((A 0), .inr (7, [za (A 1), za (A 4), za (A 24), za (A 27), zi kt, za (A 47), za (A 49), za (A 52), za (A 63), za (A 68), za (A 72)])), ((A 72), .inl (3, 4, .inr f)), (so, .inr (5, [za si, zi he, zi la, zi sz])), (si, .inl (1, 24, .inl it)), (to, .inr (5, [za ti, zi he2, zi la2, zi sz2])), (ti, .inl (1, 24, .inl it2))]) := hD
  have q_5 := inB_spec (0) 3 (t : Int)
  refine Zn.ifc (c := .ne) (off := 5) 16 (by decide +kernel) rfl ⟨by omega, by omega⟩ (fun c_6 => ?_) (fun c_6 => absurd (show inB (0) 3 (t : Int) ≠ 0 from by omega) c_6)
  have c_6 : inB (0) 3 (t : Int) ≠ 0 := c_6
  refine Zn.seg (pc2 := 17) (ls2 := [some (za (A 0)), some (zi (s : Int)), some (zi (i : Int)), some (zi (t : Int)), some (zi (j : Int)), some (zi (n : Int)), none, none]) (st2 := [za (A 0)]) [(16, .aload_n 0)] (by decide +kernel) rfl ?_
  refine Zn.get (ix := 66) hD 0 (by decide +kernel) rfl rfl rfl ?_
  refine Zn.seg (pc2 := 21) (ls2 := [some (za (A 0)), some (zi (s : Int)), some (zi (i : Int)), some (zi (t : Int)), some (zi (j : Int)), some (zi (n : Int)), none, none]) (st2 := [zi (s : Int), za (A 72)]) [(20, .iload_n 1)] (by decide +kernel) rfl ?_
  refine Zn.aald hD 1 (s) (by decide +kernel) rfl rfl (by omega) (by omega) rfl (b := so) (hf) ?_
  refine Zn.seg (pc2 := 25) (ls2 := [some (za (A 0)), some (zi (s : Int)), some (zi (i : Int)), some (zi (t : Int)), some (zi (j : Int)), some (zi (n : Int)), some (za so), none]) (st2 := [za (A 0)]) [(22, .astore 6), (24, .aload_n 0)] (by decide +kernel) rfl ?_
  refine Zn.get (ix := 66) hD 0 (by decide +kernel) rfl rfl rfl ?_
  refine Zn.seg (pc2 := 29) (ls2 := [some (za (A 0)), some (zi (s : Int)), some (zi (i : Int)), some (zi (t : Int)), some (zi (j : Int)), some (zi (n : Int)), some (za so), none]) (st2 := [zi (t : Int), za (A 72)]) [(28, .iload_n 3)] (by decide +kernel) rfl ?_
  refine Zn.aald hD 1 (t) (by decide +kernel) rfl rfl (by omega) (by omega) rfl (b := to) (hf2) ?_
  refine Zn.seg (pc2 := 34) (ls2 := [some (za (A 0)), some (zi (s : Int)), some (zi (i : Int)), some (zi (t : Int)), some (zi (j : Int)), some (zi (n : Int)), some (za so), some (za to)]) (st2 := [za so]) [(30, .astore 7), (32, .aload 6)] (by decide +kernel) rfl ?_
  refine Zn.get (ix := 322) hD 2 (by decide +kernel) rfl rfl rfl ?_
  refine Zn.ifc (c := .eq) (off := 11) 48 (by decide +kernel) rfl ⟨by omega, by omega⟩ (fun c_7 => absurd (show he = 0 from c_7) (by omega)) (fun c_7 => ?_)
  have c_7 : ¬ (he = 0) := c_7
  refine Zn.seg (pc2 := 42) (ls2 := [some (za (A 0)), some (zi (s : Int)), some (zi (i : Int)), some (zi (t : Int)), some (zi (j : Int)), some (zi (n : Int)), some (za so), some (za to)]) (st2 := [za to]) [(40, .aload 7)] (by decide +kernel) rfl ?_
  refine Zn.get (ix := 322) hD 4 (by decide +kernel) rfl rfl rfl ?_
  refine Zn.ifc (c := .ne) (off := 6) 51 (by decide +kernel) rfl ⟨by omega, by omega⟩ (fun c_8 => ?_) (fun c_8 => absurd (show he2 ≠ 0 from by omega) c_8)
  have c_8 : he2 ≠ 0 := c_8
  refine Zn.seg (pc2 := 53) (ls2 := [some (za (A 0)), some (zi (s : Int)), some (zi (i : Int)), some (zi (t : Int)), some (zi (j : Int)), some (zi (n : Int)), some (za so), some (za to)]) (st2 := [za so]) [(51, .aload 6)] (by decide +kernel) rfl ?_
  refine Zn.get (ix := 328) hD 2 (by decide +kernel) rfl rfl rfl ?_
  refine Zn.seg (pc2 := 58) (ls2 := [some (za (A 0)), some (zi (s : Int)), some (zi (i : Int)), some (zi (t : Int)), some (zi (j : Int)), some (zi (n : Int)), some (za so), some (za to)]) (st2 := [za to, zi la]) [(56, .aload 7)] (by decide +kernel) rfl ?_
  refine Zn.get (ix := 328) hD 4 (by decide +kernel) rfl rfl rfl ?_
  refine Zn.icmp (c := .eq) (off := 6) 67 (by decide +kernel) rfl ⟨by omega, by omega⟩ ⟨by omega, by omega⟩ (fun c_9 => ?_) (fun c_9 => absurd (show la = la2 from by omega) c_9)
  have c_9 : la = la2 := c_9
  refine Zn.seg (pc2 := 72) (ls2 := [some (za (A 0)), some (zi (s : Int)), some (zi (i : Int)), some (zi (t : Int)), some (zi (j : Int)), some (zi (n : Int)), some (za so), some (za to)]) (st2 := [zi (n : Int), zi (i : Int), za so]) [(67, .aload 6), (69, .iload_n 2), (70, .iload 5)] (by decide +kernel) rfl ?_
  refine Zn.call (ins := .invokevirtual 331) [za so, zi (i : Int), zi (n : Int)] [] (by decide +kernel) rfl rfl rfl ⟨rfl, rfl⟩ ⟨rfl, rfl, rfl⟩ rfl (zrecvV hD (p := 2) rfl rfl rfl) (sp_X5_reaches (o := so) (ia := si) (he := he) (la := la) (sz := sz) (i := (i : Int)) (n := (n : Int)) (zov_get hD 2 rfl) (hsz) (⟨by omega, by omega⟩) (⟨by omega, by omega⟩)) (fun v h2 hp => ?_)
  obtain ⟨rfl, hq_10⟩ := hp
  refine Zn.eq (pc2 := 75) (ls2 := [some (za (A 0)), some (zi (s : Int)), some (zi (i : Int)), some (zi (t : Int)), some (zi (j : Int)), some (zi (n : Int)), some (za so), some (za to)]) (st2 := [zi (rcV sz (i : Int) (n : Int))]) (h2 := zov ([((A 0), .inr (7, [za (A 1), za (A 4), za (A 24), za (A 27), zi kt, za (A 47), za (A 49), za (A 52), za (A 63), za (A 68), za (A 72)])), ((A 72), .inl (3, 4, .inr f)), (so, .inr (5, [za si, zi he, zi la, zi sz])), (si, .inl (1, 24, .inl it)), (to, .inr (5, [za ti, zi he2, zi la2, zi sz2])), (ti, .inl (1, 24, .inl it2))]) h) rfl rfl rfl hq_10 ?_
  have hD : zND ([((A 0), .inr (7, [za (A 1), za (A 4), za (A 24), za (A 27), zi kt, za (A 47), za (A 49), za (A 52), za (A 63), za (A 68), za (A 72)])), ((A 72), .inl (3, 4, .inr f)), (so, .inr (5, [za si, zi he, zi la, zi sz])), (si, .inl (1, 24, .inl it)), (to, .inr (5, [za ti, zi he2, zi la2, zi sz2])), (ti, .inl (1, 24, .inl it2))]) := hD
  have q_11 := rcV_c sz (i : Int) (n : Int)
  refine Zn.ifc (c := .eq) (off := 15) 90 (by decide +kernel) rfl ⟨by omega, by omega⟩ (fun c_12 => absurd (show rcV sz (i : Int) (n : Int) = 0 from c_12) (by omega)) (fun c_12 => ?_)
  have c_12 : ¬ (rcV sz (i : Int) (n : Int) = 0) := c_12
  refine Zn.seg (pc2 := 84) (ls2 := [some (za (A 0)), some (zi (s : Int)), some (zi (i : Int)), some (zi (t : Int)), some (zi (j : Int)), some (zi (n : Int)), some (za so), some (za to)]) (st2 := [zi (n : Int), zi (j : Int), za to]) [(78, .aload 7), (80, .iload 4), (82, .iload 5)] (by decide +kernel) rfl ?_
  refine Zn.call (ins := .invokevirtual 331) [za to, zi (j : Int), zi (n : Int)] [] (by decide +kernel) rfl rfl rfl ⟨rfl, rfl⟩ ⟨rfl, rfl, rfl⟩ rfl (zrecvV hD (p := 4) rfl rfl rfl) (sp_X5_reaches (o := to) (ia := ti) (he := he2) (la := la2) (sz := sz2) (i := (j : Int)) (n := (n : Int)) (zov_get hD 4 rfl) (hsz2) (⟨by omega, by omega⟩) (⟨by omega, by omega⟩)) (fun v h2 hp => ?_)
  obtain ⟨rfl, hq_13⟩ := hp
  refine Zn.eq (pc2 := 87) (ls2 := [some (za (A 0)), some (zi (s : Int)), some (zi (i : Int)), some (zi (t : Int)), some (zi (j : Int)), some (zi (n : Int)), some (za so), some (za to)]) (st2 := [zi (rcV sz2 (j : Int) (n : Int))]) (h2 := zov ([((A 0), .inr (7, [za (A 1), za (A 4), za (A 24), za (A 27), zi kt, za (A 47), za (A 49), za (A 52), za (A 63), za (A 68), za (A 72)])), ((A 72), .inl (3, 4, .inr f)), (so, .inr (5, [za si, zi he, zi la, zi sz])), (si, .inl (1, 24, .inl it)), (to, .inr (5, [za ti, zi he2, zi la2, zi sz2])), (ti, .inl (1, 24, .inl it2))]) h) rfl rfl rfl hq_13 ?_
  have hD : zND ([((A 0), .inr (7, [za (A 1), za (A 4), za (A 24), za (A 27), zi kt, za (A 47), za (A 49), za (A 52), za (A 63), za (A 68), za (A 72)])), ((A 72), .inl (3, 4, .inr f)), (so, .inr (5, [za si, zi he, zi la, zi sz])), (si, .inl (1, 24, .inl it)), (to, .inr (5, [za ti, zi he2, zi la2, zi sz2])), (ti, .inl (1, 24, .inl it2))]) := hD
  have q_14 := rcV_c sz2 (j : Int) (n : Int)
  refine Zn.ifc (c := .ne) (off := 6) 93 (by decide +kernel) rfl ⟨by omega, by omega⟩ (fun c_15 => ?_) (fun c_15 => absurd (show rcV sz2 (j : Int) (n : Int) ≠ 0 from by omega) c_15)
  have c_15 : rcV sz2 (j : Int) (n : Int) ≠ 0 := c_15
  refine Zn.seg (pc2 := 95) (ls2 := [some (za (A 0)), some (zi (s : Int)), some (zi (i : Int)), some (zi (t : Int)), some (zi (j : Int)), some (zi (n : Int)), some (za so), some (za to)]) (st2 := [za so]) [(93, .aload 6)] (by decide +kernel) rfl ?_
  refine Zn.get (ix := 334) hD 2 (by decide +kernel) rfl rfl rfl ?_
  refine Zn.seg (pc2 := 101) (ls2 := [some (za (A 0)), some (zi (s : Int)), some (zi (i : Int)), some (zi (t : Int)), some (zi (j : Int)), some (zi (n : Int)), some (za so), some (za to)]) (st2 := [za to, zi (i : Int), za si]) [(98, .iload_n 2), (99, .aload 7)] (by decide +kernel) rfl ?_
  refine Zn.get (ix := 334) hD 4 (by decide +kernel) rfl rfl rfl ?_
  refine Zn.seg (pc2 := 108) (ls2 := [some (za (A 0)), some (zi (s : Int)), some (zi (i : Int)), some (zi (t : Int)), some (zi (j : Int)), some (zi (n : Int)), some (za so), some (za to)]) (st2 := [zi (n : Int), zi (j : Int), za ti, zi (i : Int), za si]) [(104, .iload 4), (106, .iload 5)] (by decide +kernel) rfl ?_
  refine Zn.acopyJ (ins := .invokestatic 337) hD 3 5 (i) (j) (n) (by decide +kernel) rfl rfl rfl (by omega) (by omega) (by omega) (by omega) (by omega) ⟨by decide, by decide⟩ rfl ?_
  refine Zn.eq (h2 := zov ([((A 0), .inr (7, [za (A 1), za (A 4), za (A 24), za (A 27), zi kt, za (A 47), za (A 49), za (A 52), za (A 63), za (A 68), za (A 72)])), ((A 72), .inl (3, 4, .inr f)), (so, .inr (5, [za si, zi he, zi la, zi sz])), (si, .inl (1, 24, .inl it)), (to, .inr (5, [za ti, zi he2, zi la2, zi sz2])), (ti, .inl (1, 24, .inl (va_cpy it it2 i j n)))]) h) rfl rfl rfl rfl ?_
  have hD : zND ([((A 0), .inr (7, [za (A 1), za (A 4), za (A 24), za (A 27), zi kt, za (A 47), za (A 49), za (A 52), za (A 63), za (A 68), za (A 72)])), ((A 72), .inl (3, 4, .inr f)), (so, .inr (5, [za si, zi he, zi la, zi sz])), (si, .inl (1, 24, .inl it)), (to, .inr (5, [za ti, zi he2, zi la2, zi sz2])), (ti, .inl (1, 24, .inl (va_cpy it it2 i j n)))]) := hD
  refine Zn.seg (pc2 := 113) (ls2 := [some (za (A 0)), some (zi (s : Int)), some (zi (i : Int)), some (zi (t : Int)), some (zi (j : Int)), some (zi (n : Int)), some (za so), some (za to)]) (st2 := [zi (n : Int)]) [(111, .iload 5)] (by decide +kernel) rfl ?_
  exact Zn.iret (by decide +kernel) rfl (⟨by first | rfl | (refine congrArg some (congrArg zi ?_); first | omega | (simp_all; done) | (simp_all; omega)), rfl⟩)
theorem sp_X7_copy_null1 {h : xH} {A : Nat → Nat} {kt he la sz : Int} {so si s : Nat} {f : Nat → Option Nat} {i j n : Int} (hc0 : h (A 0) = zcE (.inr (7, [za (A 1), za (A 4), za (A 24), za (A 27), zi kt, za (A 47), za (A 49), za (A 52), za (A 63), za (A 68), za (A 72)]))) (hc1 : h (A 72) = zcE (.inl (3, 4, .inr f))) (hc2 : h so = zcE (.inr (5, [za si, zi he, zi la, zi sz]))) (hD : [(A 0), (A 72), so].Nodup) (hs4 : s < 4) (hf : f s = some so) (hhe : he = 0 ∨ he = 1) (hla : 0 ≤ la ∧ la ≤ 3) (hsz : 0 ≤ sz ∧ sz ≤ 24) (hb : he = 0) : zEv k_X7_copy [za (A 0), zi (s : Int), zi i, zi (s : Int), zi j, zi n] h (fun v h2 => v = some (zi (-11)) ∧ h2 = h) := by
  have hh : h = zov [((A 0), .inr (7, [za (A 1), za (A 4), za (A 24), za (A 27), zi kt, za (A 47), za (A 49), za (A 52), za (A 63), za (A 68), za (A 72)])), ((A 72), .inl (3, 4, .inr f)), (so, .inr (5, [za si, zi he, zi la, zi sz]))] h := zov_self (List.forall_mem_cons.mpr ⟨hc0, List.forall_mem_cons.mpr ⟨hc1, List.forall_mem_cons.mpr ⟨hc2, fun _ q => absurd q List.not_mem_nil⟩⟩⟩)
  refine zEv.body (I := (7, xI_X7_copy, 8, 1, 26, 0, 0, false)) (rt := (some .int)) [some (za (A 0)), some (zi (s : Int)), some (zi i), some (zi (s : Int)), some (zi j), some (zi n), none, none] rfl rfl rfl rfl ?_
  refine Zn.eq rfl rfl rfl hh ?_
  have hD : zND ([((A 0), .inr (7, [za (A 1), za (A 4), za (A 24), za (A 27), zi kt, za (A 47), za (A 49), za (A 52), za (A 63), za (A 68), za (A 72)])), ((A 72), .inl (3, 4, .inr f)), (so, .inr (5, [za si, zi he, zi la, zi sz]))]) := hD
  refine Zn.seg (pc2 := 1) (ls2 := [some (za (A 0)), some (zi (s : Int)), some (zi i), some (zi (s : Int)), some (zi j), some (zi n), none, none]) (st2 := [zi (s : Int)]) [(0, .iload_n 1)] (by decide +kernel) rfl ?_
  refine Zn.call (ins := .invokestatic 294) [zi (s : Int)] [] (by decide +kernel) rfl rfl rfl ⟨rfl, rfl⟩ ⟨rfl, rfl, rfl⟩ rfl (zrecvS (by decide)) (sp_X7_isSheet (x := (s : Int)) (by first | assumption | exact ⟨by omega, by omega⟩)) (fun v h2 hp => ?_)
  obtain ⟨rfl, hq_1⟩ := hp
  refine Zn.eq (pc2 := 4) (ls2 := [some (za (A 0)), some (zi (s : Int)), some (zi i), some (zi (s : Int)), some (zi j), some (zi n), none, none]) (st2 := [zi (inB (0) 3 (s : Int))]) (h2 := zov ([((A 0), .inr (7, [za (A 1), za (A 4), za (A 24), za (A 27), zi kt, za (A 47), za (A 49), za (A 52), za (A 63), za (A 68), za (A 72)])), ((A 72), .inl (3, 4, .inr f)), (so, .inr (5, [za si, zi he, zi la, zi sz]))]) h) rfl rfl rfl hq_1 ?_
  have hD : zND ([((A 0), .inr (7, [za (A 1), za (A 4), za (A 24), za (A 27), zi kt, za (A 47), za (A 49), za (A 52), za (A 63), za (A 68), za (A 72)])), ((A 72), .inl (3, 4, .inr f)), (so, .inr (5, [za si, zi he, zi la, zi sz]))]) := hD
  have q_2 := inB_spec (0) 3 (s : Int)
  refine Zn.ifc (c := .eq) (off := 10) 14 (by decide +kernel) rfl ⟨by omega, by omega⟩ (fun c_3 => absurd (show inB (0) 3 (s : Int) = 0 from c_3) (by omega)) (fun c_3 => ?_)
  have c_3 : ¬ (inB (0) 3 (s : Int) = 0) := c_3
  refine Zn.seg (pc2 := 8) (ls2 := [some (za (A 0)), some (zi (s : Int)), some (zi i), some (zi (s : Int)), some (zi j), some (zi n), none, none]) (st2 := [zi (s : Int)]) [(7, .iload_n 3)] (by decide +kernel) rfl ?_
  refine Zn.call (ins := .invokestatic 294) [zi (s : Int)] [] (by decide +kernel) rfl rfl rfl ⟨rfl, rfl⟩ ⟨rfl, rfl, rfl⟩ rfl (zrecvS (by decide)) (sp_X7_isSheet (x := (s : Int)) (by first | assumption | exact ⟨by omega, by omega⟩)) (fun v h2 hp => ?_)
  obtain ⟨rfl, hq_4⟩ := hp
  refine Zn.eq (pc2 := 11) (ls2 := [some (za (A 0)), some (zi (s : Int)), some (zi i), some (zi (s : Int)), some (zi j), some (zi n), none, none]) (st2 := [zi (inB (0) 3 (s : Int))]) (h2 := zov ([((A 0), .inr (7, [za (A 1), za (A 4), za (A 24), za (A 27), zi kt, za (A 47), za (A 49), za (A 52), za (A 63), za (A 68), za (A 72)])), ((A 72), .inl (3, 4, .inr f)), (so, .inr (5, [za si, zi he, zi la, zi sz]))]) h) rfl rfl rfl hq_4 ?_
  have hD : zND ([((A 0), .inr (7, [za (A 1), za (A 4), za (A 24), za (A 27), zi kt, za (A 47), za (A 49), za (A 52), za (A 63), za (A 68), za (A 72)])), ((A 72), .inl (3, 4, .inr f)), (so, .inr (5, [za si, zi he, zi la, zi sz]))]) := hD
  have q_5 := inB_spec (0) 3 (s : Int)
  refine Zn.ifc (c := .ne) (off := 5) 16 (by decide +kernel) rfl ⟨by omega, by omega⟩ (fun c_6 => ?_) (fun c_6 => absurd (show inB (0) 3 (s : Int) ≠ 0 from by omega) c_6)
  have c_6 : inB (0) 3 (s : Int) ≠ 0 := c_6
  refine Zn.seg (pc2 := 17) (ls2 := [some (za (A 0)), some (zi (s : Int)), some (zi i), some (zi (s : Int)), some (zi j), some (zi n), none, none]) (st2 := [za (A 0)]) [(16, .aload_n 0)] (by decide +kernel) rfl ?_
  refine Zn.get (ix := 66) hD 0 (by decide +kernel) rfl rfl rfl ?_
  refine Zn.seg (pc2 := 21) (ls2 := [some (za (A 0)), some (zi (s : Int)), some (zi i), some (zi (s : Int)), some (zi j), some (zi n), none, none]) (st2 := [zi (s : Int), za (A 72)]) [(20, .iload_n 1)] (by decide +kernel) rfl ?_
  refine Zn.aald hD 1 (s) (by decide +kernel) rfl rfl (by omega) (by omega) rfl (b := so) (hf) ?_
  refine Zn.seg (pc2 := 25) (ls2 := [some (za (A 0)), some (zi (s : Int)), some (zi i), some (zi (s : Int)), some (zi j), some (zi n), some (za so), none]) (st2 := [za (A 0)]) [(22, .astore 6), (24, .aload_n 0)] (by decide +kernel) rfl ?_
  refine Zn.get (ix := 66) hD 0 (by decide +kernel) rfl rfl rfl ?_
  refine Zn.seg (pc2 := 29) (ls2 := [some (za (A 0)), some (zi (s : Int)), some (zi i), some (zi (s : Int)), some (zi j), some (zi n), some (za so), none]) (st2 := [zi (s : Int), za (A 72)]) [(28, .iload_n 3)] (by decide +kernel) rfl ?_
  refine Zn.aald hD 1 (s) (by decide +kernel) rfl rfl (by omega) (by omega) rfl (b := so) (hf) ?_
  refine Zn.seg (pc2 := 34) (ls2 := [some (za (A 0)), some (zi (s : Int)), some (zi i), some (zi (s : Int)), some (zi j), some (zi n), some (za so), some (za so)]) (st2 := [za so]) [(30, .astore 7), (32, .aload 6)] (by decide +kernel) rfl ?_
  refine Zn.get (ix := 322) hD 2 (by decide +kernel) rfl rfl rfl ?_
  refine Zn.ifc (c := .eq) (off := 11) 48 (by decide +kernel) rfl ⟨by omega, by omega⟩ (fun c_7 => ?_) (fun c_7 => absurd (show he = 0 from by omega) c_7)
  have c_7 : he = 0 := c_7
  refine Zn.seg (pc2 := 50) (ls2 := [some (za (A 0)), some (zi (s : Int)), some (zi i), some (zi (s : Int)), some (zi j), some (zi n), some (za so), some (za so)]) (st2 := [zi (-11)]) [(48, .bipush (-11))] (by decide +kernel) rfl ?_
  exact Zn.iret (by decide +kernel) rfl (⟨by first | rfl | (refine congrArg some (congrArg zi ?_); first | omega | (simp_all; done) | (simp_all; omega)), hh.symm⟩)
theorem sp_X7_copy_index1 {h : xH} {A : Nat → Nat} {kt he la sz : Int} {so si s : Nat} {f : Nat → Option Nat} {i j n : Int} (hc0 : h (A 0) = zcE (.inr (7, [za (A 1), za (A 4), za (A 24), za (A 27), zi kt, za (A 47), za (A 49), za (A 52), za (A 63), za (A 68), za (A 72)]))) (hc1 : h (A 72) = zcE (.inl (3, 4, .inr f))) (hc2 : h so = zcE (.inr (5, [za si, zi he, zi la, zi sz]))) (hD : [(A 0), (A 72), so].Nodup) (hs4 : s < 4) (hf : f s = some so) (hhe : he = 0 ∨ he = 1) (hla : 0 ≤ la ∧ la ≤ 3) (hsz : 0 ≤ sz ∧ sz ≤ 24) (zi_ : zInI i) (zj_ : zInI j) (zn : zInI n) (hb : he ≠ 0 ∧ (rcV sz i n ≠ 1 ∨ rcV sz j n ≠ 1)) : zEv k_X7_copy [za (A 0), zi (s : Int), zi i, zi (s : Int), zi j, zi n] h (fun v h2 => v = some (zi (-13)) ∧ h2 = h) := by
  have hh : h = zov [((A 0), .inr (7, [za (A 1), za (A 4), za (A 24), za (A 27), zi kt, za (A 47), za (A 49), za (A 52), za (A 63), za (A 68), za (A 72)])), ((A 72), .inl (3, 4, .inr f)), (so, .inr (5, [za si, zi he, zi la, zi sz]))] h := zov_self (List.forall_mem_cons.mpr ⟨hc0, List.forall_mem_cons.mpr ⟨hc1, List.forall_mem_cons.mpr ⟨hc2, fun _ q => absurd q List.not_mem_nil⟩⟩⟩)
  have hr1 := rcV_c sz i n
  have hr2 := rcV_c sz j n
  refine zEv.body (I := (7, xI_X7_copy, 8, 1, 26, 0, 0, false)) (rt := (some .int)) [some (za (A 0)), some (zi (s : Int)), some (zi i), some (zi (s : Int)), some (zi j), some (zi n), none, none] rfl rfl rfl rfl ?_
  refine Zn.eq rfl rfl rfl hh ?_
  have hD : zND ([((A 0), .inr (7, [za (A 1), za (A 4), za (A 24), za (A 27), zi kt, za (A 47), za (A 49), za (A 52), za (A 63), za (A 68), za (A 72)])), ((A 72), .inl (3, 4, .inr f)), (so, .inr (5, [za si, zi he, zi la, zi sz]))]) := hD
  refine Zn.seg (pc2 := 1) (ls2 := [some (za (A 0)), some (zi (s : Int)), some (zi i), some (zi (s : Int)), some (zi j), some (zi n), none, none]) (st2 := [zi (s : Int)]) [(0, .iload_n 1)] (by decide +kernel) rfl ?_
  refine Zn.call (ins := .invokestatic 294) [zi (s : Int)] [] (by decide +kernel) rfl rfl rfl ⟨rfl, rfl⟩ ⟨rfl, rfl, rfl⟩ rfl (zrecvS (by decide)) (sp_X7_isSheet (x := (s : Int)) (by first | assumption | exact ⟨by omega, by omega⟩)) (fun v h2 hp => ?_)
  obtain ⟨rfl, hq_1⟩ := hp
  refine Zn.eq (pc2 := 4) (ls2 := [some (za (A 0)), some (zi (s : Int)), some (zi i), some (zi (s : Int)), some (zi j), some (zi n), none, none]) (st2 := [zi (inB (0) 3 (s : Int))]) (h2 := zov ([((A 0), .inr (7, [za (A 1), za (A 4), za (A 24), za (A 27), zi kt, za (A 47), za (A 49), za (A 52), za (A 63), za (A 68), za (A 72)])), ((A 72), .inl (3, 4, .inr f)), (so, .inr (5, [za si, zi he, zi la, zi sz]))]) h) rfl rfl rfl hq_1 ?_
  have hD : zND ([((A 0), .inr (7, [za (A 1), za (A 4), za (A 24), za (A 27), zi kt, za (A 47), za (A 49), za (A 52), za (A 63), za (A 68), za (A 72)])), ((A 72), .inl (3, 4, .inr f)), (so, .inr (5, [za si, zi he, zi la, zi sz]))]) := hD
  have q_2 := inB_spec (0) 3 (s : Int)
  refine Zn.ifc (c := .eq) (off := 10) 14 (by decide +kernel) rfl ⟨by omega, by omega⟩ (fun c_3 => absurd (show inB (0) 3 (s : Int) = 0 from c_3) (by omega)) (fun c_3 => ?_)
  have c_3 : ¬ (inB (0) 3 (s : Int) = 0) := c_3
  refine Zn.seg (pc2 := 8) (ls2 := [some (za (A 0)), some (zi (s : Int)), some (zi i), some (zi (s : Int)), some (zi j), some (zi n), none, none]) (st2 := [zi (s : Int)]) [(7, .iload_n 3)] (by decide +kernel) rfl ?_
  refine Zn.call (ins := .invokestatic 294) [zi (s : Int)] [] (by decide +kernel) rfl rfl rfl ⟨rfl, rfl⟩ ⟨rfl, rfl, rfl⟩ rfl (zrecvS (by decide)) (sp_X7_isSheet (x := (s : Int)) (by first | assumption | exact ⟨by omega, by omega⟩)) (fun v h2 hp => ?_)
  obtain ⟨rfl, hq_4⟩ := hp
  refine Zn.eq (pc2 := 11) (ls2 := [some (za (A 0)), some (zi (s : Int)), some (zi i), some (zi (s : Int)), some (zi j), some (zi n), none, none]) (st2 := [zi (inB (0) 3 (s : Int))]) (h2 := zov ([((A 0), .inr (7, [za (A 1), za (A 4), za (A 24), za (A 27), zi kt, za (A 47), za (A 49), za (A 52), za (A 63), za (A 68), za (A 72)])), ((A 72), .inl (3, 4, .inr f)), (so, .inr (5, [za si, zi he, zi la, zi sz]))]) h) rfl rfl rfl hq_4 ?_
  have hD : zND ([((A 0), .inr (7, [za (A 1), za (A 4), za (A 24), za (A 27), zi kt, za (A 47), za (A 49), za (A 52), za (A 63), za (A 68), za (A 72)])), ((A 72), .inl (3, 4, .inr f)), (so, .inr (5, [za si, zi he, zi la, zi sz]))]) := hD
  have q_5 := inB_spec (0) 3 (s : Int)
  refine Zn.ifc (c := .ne) (off := 5) 16 (by decide +kernel) rfl ⟨by omega, by omega⟩ (fun c_6 => ?_) (fun c_6 => absurd (show inB (0) 3 (s : Int) ≠ 0 from by omega) c_6)
  have c_6 : inB (0) 3 (s : Int) ≠ 0 := c_6
  refine Zn.seg (pc2 := 17) (ls2 := [some (za (A 0)), some (zi (s : Int)), some (zi i), some (zi (s : Int)), some (zi j), some (zi n), none, none]) (st2 := [za (A 0)]) [(16, .aload_n 0)] (by decide +kernel) rfl ?_
  refine Zn.get (ix := 66) hD 0 (by decide +kernel) rfl rfl rfl ?_
  refine Zn.seg (pc2 := 21) (ls2 := [some (za (A 0)), some (zi (s : Int)), some (zi i), some (zi (s : Int)), some (zi j), some (zi n), none, none]) (st2 := [zi (s : Int), za (A 72)]) [(20, .iload_n 1)] (by decide +kernel) rfl ?_
  refine Zn.aald hD 1 (s) (by decide +kernel) rfl rfl (by omega) (by omega) rfl (b := so) (hf) ?_
  refine Zn.seg (pc2 := 25) (ls2 := [some (za (A 0)), some (zi (s : Int)), some (zi i), some (zi (s : Int)), some (zi j), some (zi n), some (za so), none]) (st2 := [za (A 0)]) [(22, .astore 6), (24, .aload_n 0)] (by decide +kernel) rfl ?_
  refine Zn.get (ix := 66) hD 0 (by decide +kernel) rfl rfl rfl ?_
  refine Zn.seg (pc2 := 29) (ls2 := [some (za (A 0)), some (zi (s : Int)), some (zi i), some (zi (s : Int)), some (zi j), some (zi n), some (za so), none]) (st2 := [zi (s : Int), za (A 72)]) [(28, .iload_n 3)] (by decide +kernel) rfl ?_
  refine Zn.aald hD 1 (s) (by decide +kernel) rfl rfl (by omega) (by omega) rfl (b := so) (hf) ?_
  refine Zn.seg (pc2 := 34) (ls2 := [some (za (A 0)), some (zi (s : Int)), some (zi i), some (zi (s : Int)), some (zi j), some (zi n), some (za so), some (za so)]) (st2 := [za so]) [(30, .astore 7), (32, .aload 6)] (by decide +kernel) rfl ?_
  refine Zn.get (ix := 322) hD 2 (by decide +kernel) rfl rfl rfl ?_
  refine Zn.ifc (c := .eq) (off := 11) 48 (by decide +kernel) rfl ⟨by omega, by omega⟩ (fun c_7 => absurd (show he = 0 from c_7) (by omega)) (fun c_7 => ?_)
  have c_7 : ¬ (he = 0) := c_7
  refine Zn.seg (pc2 := 42) (ls2 := [some (za (A 0)), some (zi (s : Int)), some (zi i), some (zi (s : Int)), some (zi j), some (zi n), some (za so), some (za so)]) (st2 := [za so]) [(40, .aload 7)] (by decide +kernel) rfl ?_
  refine Zn.get (ix := 322) hD 2 (by decide +kernel) rfl rfl rfl ?_
  refine Zn.ifc (c := .ne) (off := 6) 51 (by decide +kernel) rfl ⟨by omega, by omega⟩ (fun c_8 => ?_) (fun c_8 => absurd (show he ≠ 0 from by omega) c_8)
  have c_8 : he ≠ 0 := c_8
  refine Zn.seg (pc2 := 53) (ls2 := [some (za (A 0)), some (zi (s : Int)), some (zi i), some (zi (s : Int)), some (zi j), some (zi n), some (za so), some (za so)]) (st2 := [za so]) [(51, .aload 6)] (by decide +kernel) rfl ?_
  refine Zn.get (ix := 328) hD 2 (by decide +kernel) rfl rfl rfl ?_
  refine Zn.seg (pc2 := 58) (ls2 := [some (za (A 0)), some (zi (s : Int)), some (zi i), some (zi (s : Int)), some (zi j), some (zi n), some (za so), some (za so)]) (st2 := [za so, zi la]) [(56, .aload 7)] (by decide +kernel) rfl ?_
  refine Zn.get (ix := 328) hD 2 (by decide +kernel) rfl rfl rfl ?_
  refine Zn.icmp (c := .eq) (off := 6) 67 (by decide +kernel) rfl ⟨by omega, by omega⟩ ⟨by omega, by omega⟩ (fun c_9 => ?_) (fun c_9 => absurd (show la = la from by omega) c_9)
  have c_9 : la = la := c_9
  refine Zn.seg (pc2 := 72) (ls2 := [some (za (A 0)), some (zi (s : Int)), some (zi i), some (zi (s : Int)), some (zi j), some (zi n), some (za so), some (za so)]) (st2 := [zi n, zi i, za so]) [(67, .aload 6), (69, .iload_n 2), (70, .iload 5)] (by decide +kernel) rfl ?_
  refine Zn.call (ins := .invokevirtual 331) [za so, zi i, zi n] [] (by decide +kernel) rfl rfl rfl ⟨rfl, rfl⟩ ⟨rfl, rfl, rfl⟩ rfl (zrecvV hD (p := 2) rfl rfl rfl) (sp_X5_reaches (o := so) (ia := si) (he := he) (la := la) (sz := sz) (i := i) (n := n) (zov_get hD 2 rfl) (hsz) (zi_) (zn)) (fun v h2 hp => ?_)
  obtain ⟨rfl, hq_10⟩ := hp
  refine Zn.eq (pc2 := 75) (ls2 := [some (za (A 0)), some (zi (s : Int)), some (zi i), some (zi (s : Int)), some (zi j), some (zi n), some (za so), some (za so)]) (st2 := [zi (rcV sz i n)]) (h2 := zov ([((A 0), .inr (7, [za (A 1), za (A 4), za (A 24), za (A 27), zi kt, za (A 47), za (A 49), za (A 52), za (A 63), za (A 68), za (A 72)])), ((A 72), .inl (3, 4, .inr f)), (so, .inr (5, [za si, zi he, zi la, zi sz]))]) h) rfl rfl rfl hq_10 ?_
  have hD : zND ([((A 0), .inr (7, [za (A 1), za (A 4), za (A 24), za (A 27), zi kt, za (A 47), za (A 49), za (A 52), za (A 63), za (A 68), za (A 72)])), ((A 72), .inl (3, 4, .inr f)), (so, .inr (5, [za si, zi he, zi la, zi sz]))]) := hD
  have q_11 := rcV_c sz i n
  refine Zn.ifc (c := .eq) (off := 15) 90 (by decide +kernel) rfl ⟨by omega, by omega⟩ (fun c_12 => ?_) (fun c_12 => ?_)
  · have c_12 : rcV sz i n = 0 := c_12
    refine Zn.seg (pc2 := 92) (ls2 := [some (za (A 0)), some (zi (s : Int)), some (zi i), some (zi (s : Int)), some (zi j), some (zi n), some (za so), some (za so)]) (st2 := [zi (-13)]) [(90, .bipush (-13))] (by decide +kernel) rfl ?_
    exact Zn.iret (by decide +kernel) rfl (⟨by first | rfl | (refine congrArg some (congrArg zi ?_); first | omega | (simp_all; done) | (simp_all; omega)), hh.symm⟩)
  · have c_12 : ¬ (rcV sz i n = 0) := c_12
    refine Zn.seg (pc2 := 84) (ls2 := [some (za (A 0)), some (zi (s : Int)), some (zi i), some (zi (s : Int)), some (zi j), some (zi n), some (za so), some (za so)]) (st2 := [zi n, zi j, za so]) [(78, .aload 7), (80, .iload 4), (82, .iload 5)] (by decide +kernel) rfl ?_
    refine Zn.call (ins := .invokevirtual 331) [za so, zi j, zi n] [] (by decide +kernel) rfl rfl rfl ⟨rfl, rfl⟩ ⟨rfl, rfl, rfl⟩ rfl (zrecvV hD (p := 2) rfl rfl rfl) (sp_X5_reaches (o := so) (ia := si) (he := he) (la := la) (sz := sz) (i := j) (n := n) (zov_get hD 2 rfl) (hsz) (zj_) (zn)) (fun v h2 hp => ?_)
    obtain ⟨rfl, hq_13⟩ := hp
    refine Zn.eq (pc2 := 87) (ls2 := [some (za (A 0)), some (zi (s : Int)), some (zi i), some (zi (s : Int)), some (zi j), some (zi n), some (za so), some (za so)]) (st2 := [zi (rcV sz j n)]) (h2 := zov ([((A 0), .inr (7, [za (A 1), za (A 4), za (A 24), za (A 27), zi kt, za (A 47), za (A 49), za (A 52), za (A 63), za (A 68), za (A 72)])), ((A 72), .inl (3, 4, .inr f)), (so, .inr (5, [za si, zi he, zi la, zi sz]))]) h) rfl rfl rfl hq_13 ?_
    have hD : zND ([((A 0), .inr (7, [za (A 1), za (A 4), za (A 24), za (A 27), zi kt, za (A 47), za (A 49), za (A 52), za (A 63), za (A 68), za (A 72)])), ((A 72), .inl (3, 4, .inr f)), (so, .inr (5, [za si, zi he, zi la, zi sz]))]) := hD
    have q_14 := rcV_c sz j n
    refine Zn.ifc (c := .ne) (off := 6) 93 (by decide +kernel) rfl ⟨by omega, by omega⟩ (fun c_15 => absurd (show rcV sz j n ≠ 0 from c_15) (by omega)) (fun c_15 => ?_)
    have c_15 : ¬ (rcV sz j n ≠ 0) := c_15
    refine Zn.seg (pc2 := 92) (ls2 := [some (za (A 0)), some (zi (s : Int)), some (zi i), some (zi (s : Int)), some (zi j), some (zi n), some (za so), some (za so)]) (st2 := [zi (-13)]) [(90, .bipush (-13))] (by decide +kernel) rfl ?_
    exact Zn.iret (by decide +kernel) rfl (⟨by first | rfl | (refine congrArg some (congrArg zi ?_); first | omega | (simp_all; done) | (simp_all; omega)), hh.symm⟩)
theorem sp_X7_copy_ok1 {h : xH} {A : Nat → Nat} {kt he la sz : Int} {so si s i j n : Nat} {f : Nat → Option Nat} {it : Nat → Int} (hc0 : h (A 0) = zcE (.inr (7, [za (A 1), za (A 4), za (A 24), za (A 27), zi kt, za (A 47), za (A 49), za (A 52), za (A 63), za (A 68), za (A 72)]))) (hc1 : h (A 72) = zcE (.inl (3, 4, .inr f))) (hc2 : h so = zcE (.inr (5, [za si, zi he, zi la, zi sz]))) (hc3 : h si = zcE (.inl (1, 24, .inl it))) (hD : [(A 0), (A 72), so, si].Nodup) (hs4 : s < 4) (hf : f s = some so) (hhe : he = 0 ∨ he = 1) (hla : 0 ≤ la ∧ la ≤ 3) (hsz : 0 ≤ sz ∧ sz ≤ 24) (hb : he ≠ 0 ∧ (i : Int) + n ≤ sz ∧ (j : Int) + n ≤ sz) : zEv k_X7_copy [za (A 0), zi (s : Int), zi (i : Int), zi (s : Int), zi (j : Int), zi (n : Int)] h (fun v h2 => v = some (zi (n : Int)) ∧ h2 = zov [((A 0), .inr (7, [za (A 1), za (A 4), za (A 24), za (A 27), zi kt, za (A 47), za (A 49), za (A 52), za (A 63), za (A 68), za (A 72)])), ((A 72), .inl (3, 4, .inr f)), (so, .inr (5, [za si, zi he, zi la, zi sz])), (si, .inl (1, 24, .inl (va_cpy it it i j n)))] h) := by
  have hh : h = zov [((A 0), .inr (7, [za (A 1), za (A 4), za (A 24), za (A 27), zi kt, za (A 47), za (A 49), za (A 52), za (A 63), za (A 68), za (A 72)])), ((A 72), .inl (3, 4, .inr f)), (so, .inr (5, [za si, zi he, zi la, zi sz])), (si, .inl (1, 24, .inl it))] h := zov_self (List.forall_mem_cons.mpr ⟨hc0, List.forall_mem_cons.mpr ⟨hc1, List.forall_mem_cons.mpr ⟨hc2, List.forall_mem_cons.mpr ⟨hc3, fun _ q => absurd q List.not_mem_nil⟩⟩⟩⟩)
  have hr1 := rcV_c sz i n
  have hr2 := rcV_c sz j n
  refine zEv.body (I := (7, xI_X7_copy, 8, 1, 26, 0, 0, false)) (rt := (some .int)) [some (za (A 0)), some (zi (s : Int)), some (zi (i : Int)), some (zi (s : Int)), some (zi (j : Int)), some (zi (n : Int)), none, none] rfl rfl rfl rfl ?_
  refine Zn.eq rfl rfl rfl hh ?_
  have hD : zND ([((A 0), .inr (7, [za (A 1), za (A 4), za (A 24), za (A 27), zi kt, za (A 47), za (A 49), za (A 52), za (A 63), za (A 68), za (A 72)])), ((A 72), .inl (3, 4, .inr f)), (so, .inr (5, [za si, zi he, zi la, zi sz])), (si, .inl (1, 24, .inl it))]) := hD
  refine Zn.seg (pc2 := 1) (ls2 := [some (za (A 0)), some (zi (s : Int)), some (zi (i : Int)), some (zi (s : Int)), some (zi (j : Int)), some (zi (n : Int)), none, none]) (st2 := [zi (s : Int)]) [(0, .iload_n 1)] (by decide +kernel) rfl ?_
  refine Zn.call (ins := .invokestatic 294) [zi (s : Int)] [] (by decide +kernel) rfl rfl rfl ⟨rfl, rfl⟩ ⟨rfl, rfl, rfl⟩ rfl (zrecvS (by decide)) (sp_X7_isSheet (x := (s : Int)) (by first | assumption | exact ⟨by omega, by omega⟩)) (fun v h2 hp => ?_)
  obtain ⟨rfl, hq_1⟩ := hp
  refine Zn.eq (pc2 := 4) (ls2 := [some (za (A 0)), some (zi (s : Int)), some (zi (i : Int)), some (zi (s : Int)), some (zi (j : Int)), some (zi (n : Int)), none, none]) (st2 := [zi (inB (0) 3 (s : Int))]) (h2 := zov ([((A 0), .inr (7, [za (A 1), za (A 4), za (A 24), za (A 27), zi kt, za (A 47), za (A 49), za (A 52), za (A 63), za (A 68), za (A 72)])), ((A 72), .inl (3, 4, .inr f)), (so, .inr (5, [za si, zi he, zi la, zi sz])), (si, .inl (1, 24, .inl it))]) h) rfl rfl rfl hq_1 ?_
  have hD : zND ([((A 0), .inr (7, [za (A 1), za (A 4), za (A 24), za (A 27), zi kt, za (A 47), za (A 49), za (A 52), za (A 63), za (A 68), za (A 72)])), ((A 72), .inl (3, 4, .inr f)), (so, .inr (5, [za si, zi he, zi la, zi sz])), (si, .inl (1, 24, .inl it))]) := hD
  have q_2 := inB_spec (0) 3 (s : Int)
  refine Zn.ifc (c := .eq) (off := 10) 14 (by decide +kernel) rfl ⟨by omega, by omega⟩ (fun c_3 => absurd (show inB (0) 3 (s : Int) = 0 from c_3) (by omega)) (fun c_3 => ?_)
  have c_3 : ¬ (inB (0) 3 (s : Int) = 0) := c_3
  refine Zn.seg (pc2 := 8) (ls2 := [some (za (A 0)), some (zi (s : Int)), some (zi (i : Int)), some (zi (s : Int)), some (zi (j : Int)), some (zi (n : Int)), none, none]) (st2 := [zi (s : Int)]) [(7, .iload_n 3)] (by decide +kernel) rfl ?_
  refine Zn.call (ins := .invokestatic 294) [zi (s : Int)] [] (by decide +kernel) rfl rfl rfl ⟨rfl, rfl⟩ ⟨rfl, rfl, rfl⟩ rfl (zrecvS (by decide)) (sp_X7_isSheet (x := (s : Int)) (by first | assumption | exact ⟨by omega, by omega⟩)) (fun v h2 hp => ?_)
  obtain ⟨rfl, hq_4⟩ := hp
  refine Zn.eq (pc2 := 11) (ls2 := [some (za (A 0)), some (zi (s : Int)), some (zi (i : Int)), some (zi (s : Int)), some (zi (j : Int)), some (zi (n : Int)), none, none]) (st2 := [zi (inB (0) 3 (s : Int))]) (h2 := zov ([((A 0), .inr (7, [za (A 1), za (A 4), za (A 24), za (A 27), zi kt, za (A 47), za (A 49), za (A 52), za (A 63), za (A 68), za (A 72)])), ((A 72), .inl (3, 4, .inr f)), (so, .inr (5, [za si, zi he, zi la, zi sz])), (si, .inl (1, 24, .inl it))]) h) rfl rfl rfl hq_4 ?_
  have hD : zND ([((A 0), .inr (7, [za (A 1), za (A 4), za (A 24), za (A 27), zi kt, za (A 47), za (A 49), za (A 52), za (A 63), za (A 68), za (A 72)])), ((A 72), .inl (3, 4, .inr f)), (so, .inr (5, [za si, zi he, zi la, zi sz])), (si, .inl (1, 24, .inl it))]) := hD
  have q_5 := inB_spec (0) 3 (s : Int)
  refine Zn.ifc (c := .ne) (off := 5) 16 (by decide +kernel) rfl ⟨by omega, by omega⟩ (fun c_6 => ?_) (fun c_6 => absurd (show inB (0) 3 (s : Int) ≠ 0 from by omega) c_6)
  have c_6 : inB (0) 3 (s : Int) ≠ 0 := c_6
  refine Zn.seg (pc2 := 17) (ls2 := [some (za (A 0)), some (zi (s : Int)), some (zi (i : Int)), some (zi (s : Int)), some (zi (j : Int)), some (zi (n : Int)), none, none]) (st2 := [za (A 0)]) [(16, .aload_n 0)] (by decide +kernel) rfl ?_
  refine Zn.get (ix := 66) hD 0 (by decide +kernel) rfl rfl rfl ?_
  refine Zn.seg (pc2 := 21) (ls2 := [some (za (A 0)), some (zi (s : Int)), some (zi (i : Int)), some (zi (s : Int)), some (zi (j : Int)), some (zi (n : Int)), none, none]) (st2 := [zi (s : Int), za (A 72)]) [(20, .iload_n 1)] (by decide +kernel) rfl ?_
  refine Zn.aald hD 1 (s) (by decide +kernel) rfl rfl (by omega) (by omega) rfl (b := so) (hf) ?_
  refine Zn.seg (pc2 := 25) (ls2 := [some (za (A 0)), some (zi (s : Int)), some (zi (i : Int)), some (zi (s : Int)), some (zi (j : Int)), some (zi (n : Int)), some (za so), none]) (st2 := [za (A 0)]) [(22, .astore 6), (24, .aload_n 0)] (by decide +kernel) rfl ?_
  refine Zn.get (ix := 66) hD 0 (by decide +kernel) rfl rfl rfl ?_
  refine Zn.seg (pc2 := 29) (ls2 := [some (za (A 0)), some (zi (s : Int)), some (zi (i : Int)), some (zi (s : Int)), some (zi (j : Int)), some (zi (n : Int)), some (za so), none]) (st2 := [zi (s : Int), za (A 72)]) [(28, .iload_n 3)] (by decide +kernel) rfl ?_
  refine Zn.aald hD 1 (s) (by decide +kernel) rfl rfl (by omega) (by omega) rfl (b := so) (hf) ?_
  refine Zn.seg (pc2 := 34) (ls2 := [some (za (A 0)), some (zi (s : Int)), some (zi (i : Int)), some (zi (s : Int)), some (zi (j : Int)), some (zi (n : Int)), some (za so), some (za so)]) (st2 := [za so]) [(30, .astore 7), (32, .aload 6)] (by decide +kernel) rfl ?_
  refine Zn.get (ix := 322) hD 2 (by decide +kernel) rfl rfl rfl ?_
  refine Zn.ifc (c := .eq) (off := 11) 48 (by decide +kernel) rfl ⟨by omega, by omega⟩ (fun c_7 => absurd (show he = 0 from c_7) (by omega)) (fun c_7 => ?_)
  have c_7 : ¬ (he = 0) := c_7
  refine Zn.seg (pc2 := 42) (ls2 := [some (za (A 0)), some (zi (s : Int)), some (zi (i : Int)), some (zi (s : Int)), some (zi (j : Int)), some (zi (n : Int)), some (za so), some (za so)]) (st2 := [za so]) [(40, .aload 7)] (by decide +kernel) rfl ?_
  refine Zn.get (ix := 322) hD 2 (by decide +kernel) rfl rfl rfl ?_
  refine Zn.ifc (c := .ne) (off := 6) 51 (by decide +kernel) rfl ⟨by omega, by omega⟩ (fun c_8 => ?_) (fun c_8 => absurd (show he ≠ 0 from by omega) c_8)
  have c_8 : he ≠ 0 := c_8
  refine Zn.seg (pc2 := 53) (ls2 := [some (za (A 0)), some (zi (s : Int)), some (zi (i : Int)), some (zi (s : Int)), some (zi (j : Int)), some (zi (n : Int)), some (za so), some (za so)]) (st2 := [za so]) [(51, .aload 6)] (by decide +kernel) rfl ?_
  refine Zn.get (ix := 328) hD 2 (by decide +kernel) rfl rfl rfl ?_
  refine Zn.seg (pc2 := 58) (ls2 := [some (za (A 0)), some (zi (s : Int)), some (zi (i : Int)), some (zi (s : Int)), some (zi (j : Int)), some (zi (n : Int)), some (za so), some (za so)]) (st2 := [za so, zi la]) [(56, .aload 7)] (by decide +kernel) rfl ?_
  refine Zn.get (ix := 328) hD 2 (by decide +kernel) rfl rfl rfl ?_
  refine Zn.icmp (c := .eq) (off := 6) 67 (by decide +kernel) rfl ⟨by omega, by omega⟩ ⟨by omega, by omega⟩ (fun c_9 => ?_) (fun c_9 => absurd (show la = la from by omega) c_9)
  have c_9 : la = la := c_9
  refine Zn.seg (pc2 := 72) (ls2 := [some (za (A 0)), some (zi (s : Int)), some (zi (i : Int)), some (zi (s : Int)), some (zi (j : Int)), some (zi (n : Int)), some (za so), some (za so)]) (st2 := [zi (n : Int), zi (i : Int), za so]) [(67, .aload 6), (69, .iload_n 2), (70, .iload 5)] (by decide +kernel) rfl ?_
  refine Zn.call (ins := .invokevirtual 331) [za so, zi (i : Int), zi (n : Int)] [] (by decide +kernel) rfl rfl rfl ⟨rfl, rfl⟩ ⟨rfl, rfl, rfl⟩ rfl (zrecvV hD (p := 2) rfl rfl rfl) (sp_X5_reaches (o := so) (ia := si) (he := he) (la := la) (sz := sz) (i := (i : Int)) (n := (n : Int)) (zov_get hD 2 rfl) (hsz) (⟨by omega, by omega⟩) (⟨by omega, by omega⟩)) (fun v h2 hp => ?_)
  obtain ⟨rfl, hq_10⟩ := hp
  refine Zn.eq (pc2 := 75) (ls2 := [some (za (A 0)), some (zi (s : Int)), some (zi (i : Int)), some (zi (s : Int)), some (zi (j : Int)), some (zi (n : Int)), some (za so), some (za so)]) (st2 := [zi (rcV sz (i : Int) (n : Int))]) (h2 := zov ([((A 0), .inr (7, [za (A 1), za (A 4), za (A 24), za (A 27), zi kt, za (A 47), za (A 49), za (A 52), za (A 63), za (A 68), za (A 72)])), ((A 72), .inl (3, 4, .inr f)), (so, .inr (5, [za si, zi he, zi la, zi sz])), (si, .inl (1, 24, .inl it))]) h) rfl rfl rfl hq_10 ?_
  have hD : zND ([((A 0), .inr (7, [za (A 1), za (A 4), za (A 24), za (A 27), zi kt, za (A 47), za (A 49), za (A 52), za (A 63), za (A 68), za (A 72)])), ((A 72), .inl (3, 4, .inr f)), (so, .inr (5, [za si, zi he, zi la, zi sz])), (si, .inl (1, 24, .inl it))]) := hD
  have q_11 := rcV_c sz (i : Int) (n : Int)
  refine Zn.ifc (c := .eq) (off := 15) 90 (by decide +kernel) rfl ⟨by omega, by omega⟩ (fun c_12 => absurd (show rcV sz (i : Int) (n : Int) = 0 from c_12) (by omega)) (fun c_12 => ?_)
  have c_12 : ¬ (rcV sz (i : Int) (n : Int) = 0) := c_12
  refine Zn.seg (pc2 := 84) (ls2 := [some (za (A 0)), some (zi (s : Int)), some (zi (i : Int)), some (zi (s : Int)), some (zi (j : Int)), some (zi (n : Int)), some (za so), some (za so)]) (st2 := [zi (n : Int), zi (j : Int), za so]) [(78, .aload 7), (80, .iload 4), (82, .iload 5)] (by decide +kernel) rfl ?_
  refine Zn.call (ins := .invokevirtual 331) [za so, zi (j : Int), zi (n : Int)] [] (by decide +kernel) rfl rfl rfl ⟨rfl, rfl⟩ ⟨rfl, rfl, rfl⟩ rfl (zrecvV hD (p := 2) rfl rfl rfl) (sp_X5_reaches (o := so) (ia := si) (he := he) (la := la) (sz := sz) (i := (j : Int)) (n := (n : Int)) (zov_get hD 2 rfl) (hsz) (⟨by omega, by omega⟩) (⟨by omega, by omega⟩)) (fun v h2 hp => ?_)
  obtain ⟨rfl, hq_13⟩ := hp
  refine Zn.eq (pc2 := 87) (ls2 := [some (za (A 0)), some (zi (s : Int)), some (zi (i : Int)), some (zi (s : Int)), some (zi (j : Int)), some (zi (n : Int)), some (za so), some (za so)]) (st2 := [zi (rcV sz (j : Int) (n : Int))]) (h2 := zov ([((A 0), .inr (7, [za (A 1), za (A 4), za (A 24), za (A 27), zi kt, za (A 47), za (A 49), za (A 52), za (A 63), za (A 68), za (A 72)])), ((A 72), .inl (3, 4, .inr f)), (so, .inr (5, [za si, zi he, zi la, zi sz])), (si, .inl (1, 24, .inl it))]) h) rfl rfl rfl hq_13 ?_
  have hD : zND ([((A 0), .inr (7, [za (A 1), za (A 4), za (A 24), za (A 27), zi kt, za (A 47), za (A 49), za (A 52), za (A 63), za (A 68), za (A 72)])), ((A 72), .inl (3, 4, .inr f)), (so, .inr (5, [za si, zi he, zi la, zi sz])), (si, .inl (1, 24, .inl it))]) := hD
  have q_14 := rcV_c sz (j : Int) (n : Int)
  refine Zn.ifc (c := .ne) (off := 6) 93 (by decide +kernel) rfl ⟨by omega, by omega⟩ (fun c_15 => ?_) (fun c_15 => absurd (show rcV sz (j : Int) (n : Int) ≠ 0 from by omega) c_15)
  have c_15 : rcV sz (j : Int) (n : Int) ≠ 0 := c_15
  refine Zn.seg (pc2 := 95) (ls2 := [some (za (A 0)), some (zi (s : Int)), some (zi (i : Int)), some (zi (s : Int)), some (zi (j : Int)), some (zi (n : Int)), some (za so), some (za so)]) (st2 := [za so]) [(93, .aload 6)] (by decide +kernel) rfl ?_
  refine Zn.get (ix := 334) hD 2 (by decide +kernel) rfl rfl rfl ?_
  refine Zn.seg (pc2 := 101) (ls2 := [some (za (A 0)), some (zi (s : Int)), some (zi (i : Int)), some (zi (s : Int)), some (zi (j : Int)), some (zi (n : Int)), some (za so), some (za so)]) (st2 := [za so, zi (i : Int), za si]) [(98, .iload_n 2), (99, .aload 7)] (by decide +kernel) rfl ?_
  refine Zn.get (ix := 334) hD 2 (by decide +kernel) rfl rfl rfl ?_
  refine Zn.seg (pc2 := 108) (ls2 := [some (za (A 0)), some (zi (s : Int)), some (zi (i : Int)), some (zi (s : Int)), some (zi (j : Int)), some (zi (n : Int)), some (za so), some (za so)]) (st2 := [zi (n : Int), zi (j : Int), za si, zi (i : Int), za si]) [(104, .iload 4), (106, .iload 5)] (by decide +kernel) rfl ?_
  refine Zn.acopyJ (ins := .invokestatic 337) hD 3 3 (i) (j) (n) (by decide +kernel) rfl rfl rfl (by omega) (by omega) (by omega) (by omega) (by omega) ⟨by decide, by decide⟩ rfl ?_
  refine Zn.eq (h2 := zov ([((A 0), .inr (7, [za (A 1), za (A 4), za (A 24), za (A 27), zi kt, za (A 47), za (A 49), za (A 52), za (A 63), za (A 68), za (A 72)])), ((A 72), .inl (3, 4, .inr f)), (so, .inr (5, [za si, zi he, zi la, zi sz])), (si, .inl (1, 24, .inl (va_cpy it it i j n)))]) h) rfl rfl rfl rfl ?_
  have hD : zND ([((A 0), .inr (7, [za (A 1), za (A 4), za (A 24), za (A 27), zi kt, za (A 47), za (A 49), za (A 52), za (A 63), za (A 68), za (A 72)])), ((A 72), .inl (3, 4, .inr f)), (so, .inr (5, [za si, zi he, zi la, zi sz])), (si, .inl (1, 24, .inl (va_cpy it it i j n)))]) := hD
  refine Zn.seg (pc2 := 113) (ls2 := [some (za (A 0)), some (zi (s : Int)), some (zi (i : Int)), some (zi (s : Int)), some (zi (j : Int)), some (zi (n : Int)), some (za so), some (za so)]) (st2 := [zi (n : Int)]) [(111, .iload 5)] (by decide +kernel) rfl ?_
  exact Zn.iret (by decide +kernel) rfl (⟨by first | rfl | (refine congrArg some (congrArg zi ?_); first | omega | (simp_all; done) | (simp_all; omega)), rfl⟩)
