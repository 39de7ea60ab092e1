/-! EvenErrors$Points (printed by a program of the writer out of its specs) -/
abbrev zND (L : zM) : Prop := (L.map Prod.fst).Nodup
theorem mkN_t {b : Nat → Bool} {k : Nat} (h : b k = true) : mkN b (k + 1) = mkN b k ||| 2 ^ k := if_pos h
theorem mkN_f {b : Nat → Bool} {k : Nat} (h : ¬ b k = true) : mkN b (k + 1) = mkN b k := if_neg h
def inB (lo hi x : Int) : Int := if lo ≤ x ∧ x ≤ hi then 1 else 0
theorem inB_spec (lo hi x : Int) : (inB lo hi x = 1 ∧ lo ≤ x ∧ x ≤ hi) ∨ (inB lo hi x = 0 ∧ ¬ (lo ≤ x ∧ x ≤ hi)) := by
  unfold inB
  split <;> simp_all
def ltB (a b : Int) : Int := if a < b then 1 else 0
theorem ltB_spec (a b : Int) : (ltB a b = 1 ∧ a < b) ∨ (ltB a b = 0 ∧ ¬ a < b) := by
  unfold ltB
  split <;> simp_all
theorem pop_le (n : Nat) : pop n ≤ 13 := popN_le n 13
theorem ntd {a : Nat} {z : Int} (k : Nat) (hz : z = (k : Int)) : (a : Int).tdiv z = ((a / k : Nat) : Int) := by rw [hz, Int.ofNat_tdiv]
theorem ntm {a : Nat} {z : Int} (k : Nat) (hz : z = (k : Int)) : (a : Int).tmod z = ((a % k : Nat) : Int) := by rw [hz, Int.ofNat_tmod]
/-- a turn of a DRIFT -/
def turnW (w : Nat) : Nat := (w * 1103515245 + 12345) % 2147483648
theorem turnW_lt (w : Nat) : turnW w < 2147483648 := Nat.mod_lt _ (by decide)
theorem turnW_and (w : Nat) : zI ((w : Int) * 1103515245 + 12345) &&& zI 2147483647 = zI (turnW w : Int) := by
  have h := zand31 (w * 1103515245 + 12345)
  rw [Int.natCast_add, Int.natCast_mul] at h
  exact h
def turnT (th w : Nat) : Nat := if bt th (turnW w / 65536 % 13) = 1 ∨ pop th < 8 then th ||| 2 ^ (turnW w / 65536 % 13) else th
def turnY (th w : Nat) (Y : Nat → Int) : Nat → Int := if bt th (turnW w / 65536 % 13) = 1 ∨ pop th < 8 then va_up Y (turnW w / 65536 % 13) (((turnW w / 65536 / 16 % 199 : Nat) : Int) - 99) else Y
theorem turnT_pos {th w wn : Nat} (hw : wn = turnW w) (h : bt th (wn / 65536 % 13) = 1 ∨ pop th < 8) : turnT th w = th ||| 2 ^ (wn / 65536 % 13) := by
  rw [turnT, ← hw]
  exact if_pos h
theorem turnY_pos {th w wn : Nat} {Y : Nat → Int} (hw : wn = turnW w) (h : bt th (wn / 65536 % 13) = 1 ∨ pop th < 8) : turnY th w Y = va_up Y (wn / 65536 % 13) (((wn / 65536 / 16 % 199 : Nat) : Int) - 99) := by
  rw [turnY, ← hw]
  exact if_pos h
theorem turnT_neg {th w wn : Nat} (hw : wn = turnW w) (h : ¬ bt th (wn / 65536 % 13) = 1) (h2 : ¬ pop th < 8) : turnT th w = th := by
  rw [turnT, ← hw]
  exact if_neg (fun q => q.elim h h2)
theorem turnY_neg {th w wn : Nat} {Y : Nat → Int} (hw : wn = turnW w) (h : ¬ bt th (wn / 65536 % 13) = 1) (h2 : ¬ pop th < 8) : turnY th w Y = Y := by
  rw [turnY, ← hw]
  exact if_neg (fun q => q.elim h h2)
def clrF (f : Nat → Int) (k : Nat) : Nat → Int := fun j => if j < k then 0 else f j
theorem clrF_zero (f : Nat → Int) : clrF f 0 = f := by
  funext j
  simp [clrF]
theorem clrF_step (f : Nat → Int) (k : Nat) : va_up (clrF f k) k 0 = clrF f (k + 1) := by
  funext j
  simp only [va_up, clrF]
  by_cases h : j = k
  · subst h
    simp
  · rw [if_neg h]
    by_cases h2 : j < k
    · rw [if_pos h2, if_pos (by omega)]
    · rw [if_neg h2, if_neg (by omega)]
theorem sp_X7_isX {h : xH} {x : Int} (hx : zInI x) : zEv k_X7_isX [zi x] h (fun v h2 => v = some (zi (inB (-6) 6 x)) ∧ h2 = h) := by
  have hD : ([] : List Nat).Nodup := List.nodup_nil
  have hh : h = zov [] h := zov_self (fun _ q => absurd q List.not_mem_nil)
  have hx1 := hx.1
  have hx2 := hx.2
  have hin := inB_spec (-6) 6 x
  refine zEv.body (I := (7, xI_X7_isX, 1, 0, 0, 0, 0, false)) (rt := (some .boolean)) [some (zi x)] rfl rfl rfl rfl ?_
  refine Zn.eq rfl rfl rfl hh ?_
  have hD : zND ([]) := hD
  refine Zn.seg (pc2 := 3) (ls2 := [some (zi x)]) (st2 := [zi (-6), zi x]) [(0, .iload_n 0), (1, .bipush (-6))] (by decide +kernel) rfl ?_
  refine Zn.icmp (c := .lt) (off := 13) 16 (by decide +kernel) rfl ⟨by omega, by omega⟩ ⟨by decide, by decide⟩ (fun c_1 => ?_) (fun c_1 => ?_)
  · have c_1 : x < (-6) := c_1
    refine Zn.seg (pc2 := 17) (ls2 := [some (zi x)]) (st2 := [zi 0]) [(16, .iconst 0)] (by decide +kernel) rfl ?_
    exact Zn.bret (by decide +kernel) rfl (by first | decide | omega) (⟨by first | rfl | (refine congrArg some (congrArg zi ?_); first | omega | (simp_all; done) | (simp_all; omega)), hh.symm⟩)
  · have c_1 : ¬ (x < (-6)) := c_1
    refine Zn.seg (pc2 := 9) (ls2 := [some (zi x)]) (st2 := [zi 6, zi x]) [(6, .iload_n 0), (7, .bipush 6)] (by decide +kernel) rfl ?_
    refine Zn.icmp (c := .gt) (off := 7) 16 (by decide +kernel) rfl ⟨by omega, by omega⟩ ⟨by decide, by decide⟩ (fun c_2 => ?_) (fun c_2 => ?_)
    · have c_2 : 6 < x := c_2
      refine Zn.seg (pc2 := 17) (ls2 := [some (zi x)]) (st2 := [zi 0]) [(16, .iconst 0)] (by decide +kernel) rfl ?_
      exact Zn.bret (by decide +kernel) rfl (by first | decide | omega) (⟨by first | rfl | (refine congrArg some (congrArg zi ?_); first | omega | (simp_all; done) | (simp_all; omega)), hh.symm⟩)
    · have c_2 : ¬ (6 < x) := c_2
      refine Zn.seg (pc2 := 17) (ls2 := [some (zi x)]) (st2 := [zi 1]) [(12, .iconst 1), (13, .goto 4)] (by decide +kernel) rfl ?_
      exact Zn.bret (by decide +kernel) rfl (by first | decide | omega) (⟨by first | rfl | (refine congrArg some (congrArg zi ?_); first | omega | (simp_all; done) | (simp_all; omega)), hh.symm⟩)
theorem sp_X7_isY {h : xH} {x : Int} (hx : zInI x) : zEv k_X7_isY [zi x] h (fun v h2 => v = some (zi (inB (-99) 99 x)) ∧ h2 = h) := by
  have hD : ([] : List Nat).Nodup := List.nodup_nil
  have hh : h = zov [] h := zov_self (fun _ q => absurd q List.not_mem_nil)
  have hx1 := hx.1
  have hx2 := hx.2
  have hin := inB_spec (-99) 99 x
  refine zEv.body (I := (7, xI_X7_isY, 1, 0, 0, 0, 0, false)) (rt := (some .boolean)) [some (zi x)] rfl rfl rfl rfl ?_
  refine Zn.eq rfl rfl rfl hh ?_
  have hD : zND ([]) := hD
  refine Zn.seg (pc2 := 3) (ls2 := [some (zi x)]) (st2 := [zi (-99), zi x]) [(0, .iload_n 0), (1, .bipush (-99))] (by decide +kernel) rfl ?_
  refine Zn.icmp (c := .lt) (off := 13) 16 (by decide +kernel) rfl ⟨by omega, by omega⟩ ⟨by decide, by decide⟩ (fun c_1 => ?_) (fun c_1 => ?_)
  · have c_1 : x < (-99) := c_1
    refine Zn.seg (pc2 := 17) (ls2 := [some (zi x)]) (st2 := [zi 0]) [(16, .iconst 0)] (by decide +kernel) rfl ?_
    exact Zn.bret (by decide +kernel) rfl (by first | decide | omega) (⟨by first | rfl | (refine congrArg some (congrArg zi ?_); first | omega | (simp_all; done) | (simp_all; omega)), hh.symm⟩)
  · have c_1 : ¬ (x < (-99)) := c_1
    refine Zn.seg (pc2 := 9) (ls2 := [some (zi x)]) (st2 := [zi 99, zi x]) [(6, .iload_n 0), (7, .bipush 99)] (by decide +kernel) rfl ?_
    refine Zn.icmp (c := .gt) (off := 7) 16 (by decide +kernel) rfl ⟨by omega, by omega⟩ ⟨by decide, by decide⟩ (fun c_2 => ?_) (fun c_2 => ?_)
    · have c_2 : 99 < x := c_2
      refine Zn.seg (pc2 := 17) (ls2 := [some (zi x)]) (st2 := [zi 0]) [(16, .iconst 0)] (by decide +kernel) rfl ?_
      exact Zn.bret (by decide +kernel) rfl (by first | decide | omega) (⟨by first | rfl | (refine congrArg some (congrArg zi ?_); first | omega | (simp_all; done) | (simp_all; omega)), hh.symm⟩)
    · have c_2 : ¬ (99 < x) := c_2
      refine Zn.seg (pc2 := 17) (ls2 := [some (zi x)]) (st2 := [zi 1]) [(12, .iconst 1), (13, .goto 4)] (by decide +kernel) rfl ?_
      exact Zn.bret (by decide +kernel) rfl (by first | decide | omega) (⟨by first | rfl | (refine congrArg some (congrArg zi ?_); first | omega | (simp_all; done) | (simp_all; omega)), hh.symm⟩)
theorem sp_X7_isQ {h : xH} {x : Int} (hx : zInI x) : zEv k_X7_isQ [zi x] h (fun v h2 => v = some (zi (inB (-3) 3 x)) ∧ h2 = h) := by
  have hD : ([] : List Nat).Nodup := List.nodup_nil
  have hh : h = zov [] h := zov_self (fun _ q => absurd q List.not_mem_nil)
  have hx1 := hx.1
  have hx2 := hx.2
  have hin := inB_spec (-3) 3 x
  refine zEv.body (I := (7, xI_X7_isQ, 1, 0, 0, 0, 0, false)) (rt := (some .boolean)) [some (zi x)] rfl rfl rfl rfl ?_
  refine Zn.eq rfl rfl rfl hh ?_
  have hD : zND ([]) := hD
  refine Zn.seg (pc2 := 3) (ls2 := [some (zi x)]) (st2 := [zi (-3), zi x]) [(0, .iload_n 0), (1, .bipush (-3))] (by decide +kernel) rfl ?_
  refine Zn.icmp (c := .lt) (off := 12) 15 (by decide +kernel) rfl ⟨by omega, by omega⟩ ⟨by decide, by decide⟩ (fun c_1 => ?_) (fun c_1 => ?_)
  · have c_1 : x < (-3) := c_1
    refine Zn.seg (pc2 := 16) (ls2 := [some (zi x)]) (st2 := [zi 0]) [(15, .iconst 0)] (by decide +kernel) rfl ?_
    exact Zn.bret (by decide +kernel) rfl (by first | decide | omega) (⟨by first | rfl | (refine congrArg some (congrArg zi ?_); first | omega | (simp_all; done) | (simp_all; omega)), hh.symm⟩)
  · have c_1 : ¬ (x < (-3)) := c_1
    refine Zn.seg (pc2 := 8) (ls2 := [some (zi x)]) (st2 := [zi 3, zi x]) [(6, .iload_n 0), (7, .iconst 3)] (by decide +kernel) rfl ?_
    refine Zn.icmp (c := .gt) (off := 7) 15 (by decide +kernel) rfl ⟨by omega, by omega⟩ ⟨by decide, by decide⟩ (fun c_2 => ?_) (fun c_2 => ?_)
    · have c_2 : 3 < x := c_2
      refine Zn.seg (pc2 := 16) (ls2 := [some (zi x)]) (st2 := [zi 0]) [(15, .iconst 0)] (by decide +kernel) rfl ?_
      exact Zn.bret (by decide +kernel) rfl (by first | decide | omega) (⟨by first | rfl | (refine congrArg some (congrArg zi ?_); first | omega | (simp_all; done) | (simp_all; omega)), hh.symm⟩)
    · have c_2 : ¬ (3 < x) := c_2
      refine Zn.seg (pc2 := 16) (ls2 := [some (zi x)]) (st2 := [zi 1]) [(11, .iconst 1), (12, .goto 4)] (by decide +kernel) rfl ?_
      exact Zn.bret (by decide +kernel) rfl (by first | decide | omega) (⟨by first | rfl | (refine congrArg some (congrArg zi ?_); first | omega | (simp_all; done) | (simp_all; omega)), hh.symm⟩)
theorem sp_X7_isFractionPart {h : xH} {x : Int} (hx : zInI x) : zEv k_X7_isFractionPart [zi x] h (fun v h2 => v = some (zi (inB (0) 2 x)) ∧ h2 = h) := by
  have hD : ([] : List Nat).Nodup := List.nodup_nil
  have hh : h = zov [] h := zov_self (fun _ q => absurd q List.not_mem_nil)
  have hx1 := hx.1
  have hx2 := hx.2
  have hin := inB_spec (0) 2 x
  refine zEv.body (I := (7, xI_X7_isFractionPart, 1, 0, 0, 0, 0, false)) (rt := (some .boolean)) [some (zi x)] rfl rfl rfl rfl ?_
  refine Zn.eq rfl rfl rfl hh ?_
  have hD : zND ([]) := hD
  refine Zn.seg (pc2 := 1) (ls2 := [some (zi x)]) (st2 := [zi x]) [(0, .iload_n 0)] (by decide +kernel) rfl ?_
  refine Zn.ifc (c := .lt) (off := 12) 13 (by decide +kernel) rfl ⟨by omega, by omega⟩ (fun c_1 => ?_) (fun c_1 => ?_)
  · have c_1 : x < 0 := c_1
    refine Zn.seg (pc2 := 14) (ls2 := [some (zi x)]) (st2 := [zi 0]) [(13, .iconst 0)] (by decide +kernel) rfl ?_
    exact Zn.bret (by decide +kernel) rfl (by first | decide | omega) (⟨by first | rfl | (refine congrArg some (congrArg zi ?_); first | omega | (simp_all; done) | (simp_all; omega)), hh.symm⟩)
  · have c_1 : ¬ (x < 0) := c_1
    refine Zn.seg (pc2 := 6) (ls2 := [some (zi x)]) (st2 := [zi 2, zi x]) [(4, .iload_n 0), (5, .iconst 2)] (by decide +kernel) rfl ?_
    refine Zn.icmp (c := .gt) (off := 7) 13 (by decide +kernel) rfl ⟨by omega, by omega⟩ ⟨by decide, by decide⟩ (fun c_2 => ?_) (fun c_2 => ?_)
    · have c_2 : 2 < x := c_2
      refine Zn.seg (pc2 := 14) (ls2 := [some (zi x)]) (st2 := [zi 0]) [(13, .iconst 0)] (by decide +kernel) rfl ?_
      exact Zn.bret (by decide +kernel) rfl (by first | decide | omega) (⟨by first | rfl | (refine congrArg some (congrArg zi ?_); first | omega | (simp_all; done) | (simp_all; omega)), hh.symm⟩)
    · have c_2 : ¬ (2 < x) := c_2
      refine Zn.seg (pc2 := 14) (ls2 := [some (zi x)]) (st2 := [zi 1]) [(9, .iconst 1), (10, .goto 4)] (by decide +kernel) rfl ?_
      exact Zn.bret (by decide +kernel) rfl (by first | decide | omega) (⟨by first | rfl | (refine congrArg some (congrArg zi ?_); first | omega | (simp_all; done) | (simp_all; omega)), hh.symm⟩)
theorem sp_X7_isSheet {h : xH} {x : Int} (hx : zInI x) : zEv k_X7_isSheet [zi x] h (fun v h2 => v = some (zi (inB (0) 3 x)) ∧ h2 = h) := by
  have hD : ([] : List Nat).Nodup := List.nodup_nil
  have hh : h = zov [] h := zov_self (fun _ q => absurd q List.not_mem_nil)
  have hx1 := hx.1
  have hx2 := hx.2
  have hin := inB_spec (0) 3 x
  refine zEv.body (I := (7, xI_X7_isSheet, 1, 0, 0, 0, 0, false)) (rt := (some .boolean)) [some (zi x)] rfl rfl rfl rfl ?_
  refine Zn.eq rfl rfl rfl hh ?_
  have hD : zND ([]) := hD
  refine Zn.seg (pc2 := 1) (ls2 := [some (zi x)]) (st2 := [zi x]) [(0, .iload_n 0)] (by decide +kernel) rfl ?_
  refine Zn.ifc (c := .lt) (off := 12) 13 (by decide +kernel) rfl ⟨by omega, by omega⟩ (fun c_1 => ?_) (fun c_1 => ?_)
  · have c_1 : x < 0 := c_1
    refine Zn.seg (pc2 := 14) (ls2 := [some (zi x)]) (st2 := [zi 0]) [(13, .iconst 0)] (by decide +kernel) rfl ?_
    exact Zn.bret (by decide +kernel) rfl (by first | decide | omega) (⟨by first | rfl | (refine congrArg some (congrArg zi ?_); first | omega | (simp_all; done) | (simp_all; omega)), hh.symm⟩)
  · have c_1 : ¬ (x < 0) := c_1
    refine Zn.seg (pc2 := 6) (ls2 := [some (zi x)]) (st2 := [zi 4, zi x]) [(4, .iload_n 0), (5, .iconst 4)] (by decide +kernel) rfl ?_
    refine Zn.icmp (c := .ge) (off := 7) 13 (by decide +kernel) rfl ⟨by omega, by omega⟩ ⟨by decide, by decide⟩ (fun c_2 => ?_) (fun c_2 => ?_)
    · have c_2 : 4 ≤ x := c_2
      refine Zn.seg (pc2 := 14) (ls2 := [some (zi x)]) (st2 := [zi 0]) [(13, .iconst 0)] (by decide +kernel) rfl ?_
      exact Zn.bret (by decide +kernel) rfl (by first | decide | omega) (⟨by first | rfl | (refine congrArg some (congrArg zi ?_); first | omega | (simp_all; done) | (simp_all; omega)), hh.symm⟩)
    · have c_2 : ¬ (4 ≤ x) := c_2
      refine Zn.seg (pc2 := 14) (ls2 := [some (zi x)]) (st2 := [zi 1]) [(9, .iconst 1), (10, .goto 4)] (by decide +kernel) rfl ?_
      exact Zn.bret (by decide +kernel) rfl (by first | decide | omega) (⟨by first | rfl | (refine congrArg some (congrArg zi ?_); first | omega | (simp_all; done) | (simp_all; omega)), hh.symm⟩)
theorem sp_X7_isLane {h : xH} {x : Int} (hx : zInI x) : zEv k_X7_isLane [zi x] h (fun v h2 => v = some (zi (inB (0) 3 x)) ∧ h2 = h) := by
  have hD : ([] : List Nat).Nodup := List.nodup_nil
  have hh : h = zov [] h := zov_self (fun _ q => absurd q List.not_mem_nil)
  have hx1 := hx.1
  have hx2 := hx.2
  have hin := inB_spec (0) 3 x
  refine zEv.body (I := (7, xI_X7_isLane, 1, 0, 0, 0, 0, false)) (rt := (some .boolean)) [some (zi x)] rfl rfl rfl rfl ?_
  refine Zn.eq rfl rfl rfl hh ?_
  have hD : zND ([]) := hD
  refine Zn.seg (pc2 := 1) (ls2 := [some (zi x)]) (st2 := [zi x]) [(0, .iload_n 0)] (by decide +kernel) rfl ?_
  refine Zn.ifc (c := .lt) (off := 12) 13 (by decide +kernel) rfl ⟨by omega, by omega⟩ (fun c_1 => ?_) (fun c_1 => ?_)
  · have c_1 : x < 0 := c_1
    refine Zn.seg (pc2 := 14) (ls2 := [some (zi x)]) (st2 := [zi 0]) [(13, .iconst 0)] (by decide +kernel) rfl ?_
    exact Zn.bret (by decide +kernel) rfl (by first | decide | omega) (⟨by first | rfl | (refine congrArg some (congrArg zi ?_); first | omega | (simp_all; done) | (simp_all; omega)), hh.symm⟩)
  · have c_1 : ¬ (x < 0) := c_1
    refine Zn.seg (pc2 := 6) (ls2 := [some (zi x)]) (st2 := [zi 4, zi x]) [(4, .iload_n 0), (5, .iconst 4)] (by decide +kernel) rfl ?_
    refine Zn.icmp (c := .ge) (off := 7) 13 (by decide +kernel) rfl ⟨by omega, by omega⟩ ⟨by decide, by decide⟩ (fun c_2 => ?_) (fun c_2 => ?_)
    · have c_2 : 4 ≤ x := c_2
      refine Zn.seg (pc2 := 14) (ls2 := [some (zi x)]) (st2 := [zi 0]) [(13, .iconst 0)] (by decide +kernel) rfl ?_
      exact Zn.bret (by decide +kernel) rfl (by first | decide | omega) (⟨by first | rfl | (refine congrArg some (congrArg zi ?_); first | omega | (simp_all; done) | (simp_all; omega)), hh.symm⟩)
    · have c_2 : ¬ (4 ≤ x) := c_2
      refine Zn.seg (pc2 := 14) (ls2 := [some (zi x)]) (st2 := [zi 1]) [(9, .iconst 1), (10, .goto 4)] (by decide +kernel) rfl ?_
      exact Zn.bret (by decide +kernel) rfl (by first | decide | omega) (⟨by first | rfl | (refine congrArg some (congrArg zi ?_); first | omega | (simp_all; done) | (simp_all; omega)), hh.symm⟩)
theorem sp_X7_placesBelow {h : xH} {p : Nat} (hp : p < 31) : zEv k_X7_placesBelow [zi (p : Int)] h (fun v h2 => v = some (zi (((2 ^ p : Nat) : Int) - 1)) ∧ h2 = h) := by
  have hD : ([] : List Nat).Nodup := List.nodup_nil
  have hh : h = zov [] h := zov_self (fun _ q => absurd q List.not_mem_nil)
  refine zEv.body (I := (7, xI_X7_placesBelow, 1, 0, 0, 0, 0, false)) (rt := (some .int)) [some (zi (p : Int))] rfl rfl rfl rfl ?_
  refine Zn.eq rfl rfl rfl hh ?_
  have hD : zND ([]) := hD
  refine Zn.seg (pc2 := 2) (ls2 := [some (zi (p : Int))]) (st2 := [zi (p : Int), zi 1]) [(0, .iconst 1), (1, .iload_n 0)] (by decide +kernel) rfl ?_
  refine Zn.ishl (((2 ^ p : Nat) : Int)) (by decide +kernel) (zshl1 hp) ?_
  refine Zn.seg (pc2 := 5) (ls2 := [some (zi (p : Int))]) (st2 := [zi (((2 ^ p : Nat) : Int) - 1)]) [(3, .iconst 1), (4, .isub)] (by decide +kernel) rfl ?_
  exact Zn.iret (by decide +kernel) rfl (⟨by first | rfl | (refine congrArg some (congrArg zi ?_); first | omega | (simp_all; done) | (simp_all; omega)), hh.symm⟩)
theorem sp_X4_has {h : xH} {o ya qa th fx d w p : Nat} (hc0 : h o = zcE (.inr (4, [za ya, za qa, zi (th : Int), zi (fx : Int), zi (d : Int), zi (w : Int)]))) (hb0 : th < 8192) (hp : p < 32) : zEv k_X4_has [za o, zi (p : Int)] h (fun v h2 => v = some (zi (bt th p : Int)) ∧ h2 = h) := by
  have hD : [o].Nodup := by simp
  have hh : h = zov [(o, .inr (4, [za ya, za qa, zi (th : Int), zi (fx : Int), zi (d : Int), zi (w : Int)]))] h := zov_self (List.forall_mem_cons.mpr ⟨hc0, fun _ q => absurd q List.not_mem_nil⟩)
  have hb := bt_lt th p
  refine zEv.body (I := (4, xI_X4_has, 2, 0, 0, 0, 0, false)) (rt := (some .boolean)) [some (za o), some (zi (p : Int))] rfl rfl rfl rfl ?_
  refine Zn.eq rfl rfl rfl hh ?_
  have hD : zND ([(o, .inr (4, [za ya, za qa, zi (th : Int), zi (fx : Int), zi (d : Int), zi (w : Int)]))]) := hD
  refine Zn.seg (pc2 := 1) (ls2 := [some (za o), some (zi (p : Int))]) (st2 := [za o]) [(0, .aload_n 0)] (by decide +kernel) rfl ?_
  refine Zn.get (ix := 18) hD 0 (by decide +kernel) rfl rfl rfl ?_
  refine Zn.seg (pc2 := 5) (ls2 := [some (za o), some (zi (p : Int))]) (st2 := [zi (p : Int), zi (th : Int)]) [(4, .iload_n 1)] (by decide +kernel) rfl ?_
  refine Zn.ishr (((th / 2 ^ p : Nat) : Int)) (by decide +kernel) (zshr (by omega) (by omega)) ?_
  refine Zn.seg (pc2 := 7) (ls2 := [some (za o), some (zi (p : Int))]) (st2 := [zi 1, zi ((th / 2 ^ p : Nat) : Int)]) [(6, .iconst 1)] (by decide +kernel) rfl ?_
  refine Zn.iand ((bt th p : Int)) (by decide +kernel) (zbt hb0) ?_
  refine Zn.seg (pc2 := 9) (ls2 := [some (za o), some (zi (p : Int))]) (st2 := [zi 1, zi (bt th p : Int)]) [(8, .iconst 1)] (by decide +kernel) rfl ?_
  refine Zn.icmp (c := .ne) (off := 7) 16 (by decide +kernel) rfl ⟨by omega, by omega⟩ ⟨by decide, by decide⟩ (fun c_1 => ?_) (fun c_1 => ?_)
  · have c_1 : (bt th p : Int) ≠ 1 := c_1
    refine Zn.seg (pc2 := 17) (ls2 := [some (za o), some (zi (p : Int))]) (st2 := [zi 0]) [(16, .iconst 0)] (by decide +kernel) rfl ?_
    exact Zn.bret (by decide +kernel) rfl (by first | decide | omega) (⟨by first | rfl | (refine congrArg some (congrArg zi ?_); first | omega | (simp_all; done) | (simp_all; omega)), hh.symm⟩)
  · have c_1 : ¬ ((bt th p : Int) ≠ 1) := c_1
    refine Zn.seg (pc2 := 17) (ls2 := [some (za o), some (zi (p : Int))]) (st2 := [zi 1]) [(12, .iconst 1), (13, .goto 4)] (by decide +kernel) rfl ?_
    exact Zn.bret (by decide +kernel) rfl (by first | decide | omega) (⟨by first | rfl | (refine congrArg some (congrArg zi ?_); first | omega | (simp_all; done) | (simp_all; omega)), hh.symm⟩)
theorem sp_X4_isFixed {h : xH} {o ya qa th fx d w p : Nat} (hc0 : h o = zcE (.inr (4, [za ya, za qa, zi (th : Int), zi (fx : Int), zi (d : Int), zi (w : Int)]))) (hb0 : fx < 8192) (hp : p < 32) : zEv k_X4_isFixed [za o, zi (p : Int)] h (fun v h2 => v = some (zi (bt fx p : Int)) ∧ h2 = h) := by
  have hD : [o].Nodup := by simp
  have hh : h = zov [(o, .inr (4, [za ya, za qa, zi (th : Int), zi (fx : Int), zi (d : Int), zi (w : Int)]))] h := zov_self (List.forall_mem_cons.mpr ⟨hc0, fun _ q => absurd q List.not_mem_nil⟩)
  have hb := bt_lt fx p
  refine zEv.body (I := (4, xI_X4_isFixed, 2, 0, 0, 0, 0, false)) (rt := (some .boolean)) [some (za o), some (zi (p : Int))] rfl rfl rfl rfl ?_
  refine Zn.eq rfl rfl rfl hh ?_
  have hD : zND ([(o, .inr (4, [za ya, za qa, zi (th : Int), zi (fx : Int), zi (d : Int), zi (w : Int)]))]) := hD
  refine Zn.seg (pc2 := 1) (ls2 := [some (za o), some (zi (p : Int))]) (st2 := [za o]) [(0, .aload_n 0)] (by decide +kernel) rfl ?_
  refine Zn.get (ix := 22) hD 0 (by decide +kernel) rfl rfl rfl ?_
  refine Zn.seg (pc2 := 5) (ls2 := [some (za o), some (zi (p : Int))]) (st2 := [zi (p : Int), zi (fx : Int)]) [(4, .iload_n 1)] (by decide +kernel) rfl ?_
  refine Zn.ishr (((fx / 2 ^ p : Nat) : Int)) (by decide +kernel) (zshr (by omega) (by omega)) ?_
  refine Zn.seg (pc2 := 7) (ls2 := [some (za o), some (zi (p : Int))]) (st2 := [zi 1, zi ((fx / 2 ^ p : Nat) : Int)]) [(6, .iconst 1)] (by decide +kernel) rfl ?_
  refine Zn.iand ((bt fx p : Int)) (by decide +kernel) (zbt hb0) ?_
  refine Zn.seg (pc2 := 9) (ls2 := [some (za o), some (zi (p : Int))]) (st2 := [zi 1, zi (bt fx p : Int)]) [(8, .iconst 1)] (by decide +kernel) rfl ?_
  refine Zn.icmp (c := .ne) (off := 7) 16 (by decide +kernel) rfl ⟨by omega, by omega⟩ ⟨by decide, by decide⟩ (fun c_1 => ?_) (fun c_1 => ?_)
  · have c_1 : (bt fx p : Int) ≠ 1 := c_1
    refine Zn.seg (pc2 := 17) (ls2 := [some (za o), some (zi (p : Int))]) (st2 := [zi 0]) [(16, .iconst 0)] (by decide +kernel) rfl ?_
    exact Zn.bret (by decide +kernel) rfl (by first | decide | omega) (⟨by first | rfl | (refine congrArg some (congrArg zi ?_); first | omega | (simp_all; done) | (simp_all; omega)), hh.symm⟩)
  · have c_1 : ¬ ((bt fx p : Int) ≠ 1) := c_1
    refine Zn.seg (pc2 := 17) (ls2 := [some (za o), some (zi (p : Int))]) (st2 := [zi 1]) [(12, .iconst 1), (13, .goto 4)] (by decide +kernel) rfl ?_
    exact Zn.bret (by decide +kernel) rfl (by first | decide | omega) (⟨by first | rfl | (refine congrArg some (congrArg zi ?_); first | omega | (simp_all; done) | (simp_all; omega)), hh.symm⟩)
theorem sp_X4_mayFix {h : xH} {o ya qa th fx d w : Nat} (hc0 : h o = zcE (.inr (4, [za ya, za qa, zi (th : Int), zi (fx : Int), zi (d : Int), zi (w : Int)]))) (hfx : fx < 8192) (hd : d < 4) : zEv k_X4_mayFix [za o] h (fun v h2 => v = some (zi (ltB (pop fx : Int) (d : Int))) ∧ h2 = h) := by
  have hD : [o].Nodup := by simp
  have hh : h = zov [(o, .inr (4, [za ya, za qa, zi (th : Int), zi (fx : Int), zi (d : Int), zi (w : Int)]))] h := zov_self (List.forall_mem_cons.mpr ⟨hc0, fun _ q => absurd q List.not_mem_nil⟩)
  have hlt := ltB_spec (pop fx : Int) (d : Int)
  have hb := popN_le fx 13
  have hb1 : pop fx ≤ 13 := hb
  refine zEv.body (I := (4, xI_X4_mayFix, 1, 1, 20, 0, 0, false)) (rt := (some .boolean)) [some (za o)] rfl rfl rfl rfl ?_
  refine Zn.eq rfl rfl rfl hh ?_
  have hD : zND ([(o, .inr (4, [za ya, za qa, zi (th : Int), zi (fx : Int), zi (d : Int), zi (w : Int)]))]) := hD
  refine Zn.seg (pc2 := 1) (ls2 := [some (za o)]) (st2 := [za o]) [(0, .aload_n 0)] (by decide +kernel) rfl ?_
  refine Zn.get (ix := 22) hD 0 (by decide +kernel) rfl rfl rfl ?_
  refine Zn.call (ins := .invokestatic 37) [zi (fx : Int)] [] (by decide +kernel) rfl rfl rfl ⟨rfl, rfl⟩ ⟨rfl, rfl, rfl⟩ rfl (zrecvS (by decide)) (sp_J6_bitCount_0f7a4 (n := fx) (by first | assumption | omega)) (fun v h2 hp => ?_)
  obtain ⟨rfl, hq_1⟩ := hp
  refine Zn.eq (pc2 := 7) (ls2 := [some (za o)]) (st2 := [zi (pop fx : Int)]) (h2 := zov ([(o, .inr (4, [za ya, za qa, zi (th : Int), zi (fx : Int), zi (d : Int), zi (w : Int)]))]) h) rfl rfl rfl hq_1 ?_
  have hD : zND ([(o, .inr (4, [za ya, za qa, zi (th : Int), zi (fx : Int), zi (d : Int), zi (w : Int)]))]) := hD
  have q_2 := pop_le fx
  refine Zn.seg (pc2 := 8) (ls2 := [some (za o)]) (st2 := [za o, zi (pop fx : Int)]) [(7, .aload_n 0)] (by decide +kernel) rfl ?_
  refine Zn.get (ix := 25) hD 0 (by decide +kernel) rfl rfl rfl ?_
  refine Zn.icmp (c := .ge) (off := 7) 18 (by decide +kernel) rfl ⟨by omega, by omega⟩ ⟨by omega, by omega⟩ (fun c_3 => ?_) (fun c_3 => ?_)
  · have c_3 : (d : Int) ≤ (pop fx : Int) := c_3
    refine Zn.seg (pc2 := 19) (ls2 := [some (za o)]) (st2 := [zi 0]) [(18, .iconst 0)] (by decide +kernel) rfl ?_
    exact Zn.bret (by decide +kernel) rfl (by first | decide | omega) (⟨by first | rfl | (refine congrArg some (congrArg zi ?_); first | omega | (simp_all; done) | (simp_all; omega)), hh.symm⟩)
  · have c_3 : ¬ ((d : Int) ≤ (pop fx : Int)) := c_3
    refine Zn.seg (pc2 := 19) (ls2 := [some (za o)]) (st2 := [zi 1]) [(14, .iconst 1), (15, .goto 4)] (by decide +kernel) rfl ?_
    exact Zn.bret (by decide +kernel) rfl (by first | decide | omega) (⟨by first | rfl | (refine congrArg some (congrArg zi ?_); first | omega | (simp_all; done) | (simp_all; omega)), hh.symm⟩)
theorem sp_X4_yAt {h : xH} {o ya qa th fx d w p : Nat} {Y : Nat → Int} (hc0 : h o = zcE (.inr (4, [za ya, za qa, zi (th : Int), zi (fx : Int), zi (d : Int), zi (w : Int)]))) (hc1 : h ya = zcE (.inl (0, 13, .inl Y))) (hD : [o, ya].Nodup) (hp : p < 13) : zEv k_X4_yAt [za o, zi (p : Int)] h (fun v h2 => v = some (zi (Y p)) ∧ h2 = h) := by
  have hh : h = zov [(o, .inr (4, [za ya, za qa, zi (th : Int), zi (fx : Int), zi (d : Int), zi (w : Int)])), (ya, .inl (0, 13, .inl Y))] h := zov_self (List.forall_mem_cons.mpr ⟨hc0, List.forall_mem_cons.mpr ⟨hc1, fun _ q => absurd q List.not_mem_nil⟩⟩)
  refine zEv.body (I := (4, xI_X4_yAt, 2, 0, 0, 0, 0, false)) (rt := (some .int)) [some (za o), some (zi (p : Int))] rfl rfl rfl rfl ?_
  refine Zn.eq rfl rfl rfl hh ?_
  have hD : zND ([(o, .inr (4, [za ya, za qa, zi (th : Int), zi (fx : Int), zi (d : Int), zi (w : Int)])), (ya, .inl (0, 13, .inl Y))]) := hD
  refine Zn.seg (pc2 := 1) (ls2 := [some (za o), some (zi (p : Int))]) (st2 := [zi (p : Int)]) [(0, .iload_n 1)] (by decide +kernel) rfl ?_
  refine Zn.ifc (c := .lt) (off := 18) 19 (by decide +kernel) rfl ⟨by omega, by omega⟩ (fun c_1 => absurd (show (p : Int) < 0 from c_1) (by omega)) (fun c_1 => ?_)
  have c_1 : ¬ ((p : Int) < 0) := c_1
  refine Zn.seg (pc2 := 7) (ls2 := [some (za o), some (zi (p : Int))]) (st2 := [zi 13, zi (p : Int)]) [(4, .iload_n 1), (5, .bipush 13)] (by decide +kernel) rfl ?_
  refine Zn.icmp (c := .ge) (off := 12) 19 (by decide +kernel) rfl ⟨by omega, by omega⟩ ⟨by decide, by decide⟩ (fun c_2 => absurd (show 13 ≤ (p : Int) from c_2) (by omega)) (fun c_2 => ?_)
  have c_2 : ¬ (13 ≤ (p : Int)) := c_2
  refine Zn.seg (pc2 := 11) (ls2 := [some (za o), some (zi (p : Int))]) (st2 := [za o]) [(10, .aload_n 0)] (by decide +kernel) rfl ?_
  refine Zn.get (ix := 9) hD 0 (by decide +kernel) rfl rfl rfl ?_
  refine Zn.seg (pc2 := 15) (ls2 := [some (za o), some (zi (p : Int))]) (st2 := [zi (p : Int), za ya]) [(14, .iload_n 1)] (by decide +kernel) rfl ?_
  refine Zn.iald hD 1 (p) (by decide +kernel) rfl (by omega) (by omega) rfl ?_
  refine Zn.seg (pc2 := 20) (ls2 := [some (za o), some (zi (p : Int))]) (st2 := [zi (Y p)]) [(16, .goto 4)] (by decide +kernel) rfl ?_
  exact Zn.iret (by decide +kernel) rfl (⟨by first | rfl | (refine congrArg some (congrArg zi ?_); first | omega | (simp_all; done) | (simp_all; omega)), hh.symm⟩)
theorem sp_X4_put {h : xH} {o ya qa th fx d w p : Nat} {Y : Nat → Int} {x : Int} (hc0 : h o = zcE (.inr (4, [za ya, za qa, zi (th : Int), zi (fx : Int), zi (d : Int), zi (w : Int)]))) (hc1 : h ya = zcE (.inl (0, 13, .inl Y))) (hD : [o, ya].Nodup) (hth : th < 8192) (hp : p < 13) : zEv k_X4_put [za o, zi (p : Int), zi x] h (fun v h2 => v = none ∧ h2 = zov [(o, .inr (4, [za ya, za qa, zi ((th ||| 2 ^ p : Nat) : Int), zi (fx : Int), zi (d : Int), zi (w : Int)])), (ya, .inl (0, 13, .inl (va_up Y p x)))] h) := by
  have hh : h = zov [(o, .inr (4, [za ya, za qa, zi (th : Int), zi (fx : Int), zi (d : Int), zi (w : Int)])), (ya, .inl (0, 13, .inl Y))] h := zov_self (List.forall_mem_cons.mpr ⟨hc0, List.forall_mem_cons.mpr ⟨hc1, fun _ q => absurd q List.not_mem_nil⟩⟩)
  have hpw : 2 ^ p < 2147483648 := Nat.lt_trans (pw_lt hp) (by decide)
  refine zEv.body (I := (4, xI_X4_put, 3, 0, 0, 0, 0, false)) (rt := none) [some (za o), some (zi (p : Int)), some (zi x)] rfl rfl rfl rfl ?_
  refine Zn.eq rfl rfl rfl hh ?_
  have hD : zND ([(o, .inr (4, [za ya, za qa, zi (th : Int), zi (fx : Int), zi (d : Int), zi (w : Int)])), (ya, .inl (0, 13, .inl Y))]) := hD
  refine Zn.seg (pc2 := 1) (ls2 := [some (za o), some (zi (p : Int)), some (zi x)]) (st2 := [zi (p : Int)]) [(0, .iload_n 1)] (by decide +kernel) rfl ?_
  refine Zn.ifc (c := .lt) (off := 28) 29 (by decide +kernel) rfl ⟨by omega, by omega⟩ (fun c_1 => absurd (show (p : Int) < 0 from c_1) (by omega)) (fun c_1 => ?_)
  have c_1 : ¬ ((p : Int) < 0) := c_1
  refine Zn.seg (pc2 := 7) (ls2 := [some (za o), some (zi (p : Int)), some (zi x)]) (st2 := [zi 13, zi (p : Int)]) [(4, .iload_n 1), (5, .bipush 13)] (by decide +kernel) rfl ?_
  refine Zn.icmp (c := .ge) (off := 22) 29 (by decide +kernel) rfl ⟨by omega, by omega⟩ ⟨by decide, by decide⟩ (fun c_2 => absurd (show 13 ≤ (p : Int) from c_2) (by omega)) (fun c_2 => ?_)
  have c_2 : ¬ (13 ≤ (p : Int)) := c_2
  refine Zn.seg (pc2 := 11) (ls2 := [some (za o), some (zi (p : Int)), some (zi x)]) (st2 := [za o]) [(10, .aload_n 0)] (by decide +kernel) rfl ?_
  refine Zn.get (ix := 9) hD 0 (by decide +kernel) rfl rfl rfl ?_
  refine Zn.seg (pc2 := 16) (ls2 := [some (za o), some (zi (p : Int)), some (zi x)]) (st2 := [zi x, zi (p : Int), za ya]) [(14, .iload_n 1), (15, .iload_n 2)] (by decide +kernel) rfl ?_
  refine Zn.iast hD 1 (p) (by decide +kernel) rfl (by omega) (by omega) rfl ?_
  refine Zn.eq (h2 := zov ([(o, .inr (4, [za ya, za qa, zi (th : Int), zi (fx : Int), zi (d : Int), zi (w : Int)])), (ya, .inl (0, 13, .inl (va_up Y p x)))]) h) rfl rfl rfl (rfl) ?_
  have hD : zND ([(o, .inr (4, [za ya, za qa, zi (th : Int), zi (fx : Int), zi (d : Int), zi (w : Int)])), (ya, .inl (0, 13, .inl (va_up Y p x)))]) := hD
  refine Zn.seg (pc2 := 19) (ls2 := [some (za o), some (zi (p : Int)), some (zi x)]) (st2 := [za o, za o]) [(17, .aload_n 0), (18, .dup)] (by decide +kernel) rfl ?_
  refine Zn.get (ix := 18) hD 0 (by decide +kernel) rfl rfl rfl ?_
  refine Zn.seg (pc2 := 24) (ls2 := [some (za o), some (zi (p : Int)), some (zi x)]) (st2 := [zi (p : Int), zi 1, zi (th : Int), za o]) [(22, .iconst 1), (23, .iload_n 1)] (by decide +kernel) rfl ?_
  refine Zn.ishl (((2 ^ p : Nat) : Int)) (by decide +kernel) (zshl1 (by omega)) ?_
  refine Zn.ior (((th ||| 2 ^ p : Nat) : Int)) (by decide +kernel) (zor (by omega) hpw) ?_
  refine Zn.put (ix := 18) hD 0 (by decide +kernel) rfl rfl rfl rfl rfl ?_
  refine Zn.eq (h2 := zov ([(o, .inr (4, [za ya, za qa, zi ((th ||| 2 ^ p : Nat) : Int), zi (fx : Int), zi (d : Int), zi (w : Int)])), (ya, .inl (0, 13, .inl (va_up Y p x)))]) h) rfl rfl rfl rfl ?_
  have hD : zND ([(o, .inr (4, [za ya, za qa, zi ((th ||| 2 ^ p : Nat) : Int), zi (fx : Int), zi (d : Int), zi (w : Int)])), (ya, .inl (0, 13, .inl (va_up Y p x)))]) := hD
  exact Zn.vret (by decide +kernel) rfl (⟨rfl, rfl⟩)
theorem sp_X4_remove {h : xH} {o ya qa th fx d w p : Nat} (hc0 : h o = zcE (.inr (4, [za ya, za qa, zi (th : Int), zi (fx : Int), zi (d : Int), zi (w : Int)]))) (hth : th < 8192) (hfx : fx < 8192) (hp : p < 13) : zEv k_X4_remove [za o, zi (p : Int)] h (fun v h2 => v = none ∧ h2 = zov [(o, .inr (4, [za ya, za qa, zi ((bdiff th (2 ^ p) : Nat) : Int), zi ((bdiff fx (2 ^ p) : Nat) : Int), zi (d : Int), zi (w : Int)]))] h) := by
  have hD : [o].Nodup := by simp
  have hh : h = zov [(o, .inr (4, [za ya, za qa, zi (th : Int), zi (fx : Int), zi (d : Int), zi (w : Int)]))] h := zov_self (List.forall_mem_cons.mpr ⟨hc0, fun _ q => absurd q List.not_mem_nil⟩)
  have hpw : 2 ^ p < 2147483648 := Nat.lt_trans (pw_lt hp) (by decide)
  refine zEv.body (I := (4, xI_X4_remove, 2, 0, 0, 0, 0, false)) (rt := none) [some (za o), some (zi (p : Int))] rfl rfl rfl rfl ?_
  refine Zn.eq rfl rfl rfl hh ?_
  have hD : zND ([(o, .inr (4, [za ya, za qa, zi (th : Int), zi (fx : Int), zi (d : Int), zi (w : Int)]))]) := hD
  refine Zn.seg (pc2 := 2) (ls2 := [some (za o), some (zi (p : Int))]) (st2 := [za o, za o]) [(0, .aload_n 0), (1, .dup)] (by decide +kernel) rfl ?_
  refine Zn.get (ix := 18) hD 0 (by decide +kernel) rfl rfl rfl ?_
  refine Zn.seg (pc2 := 7) (ls2 := [some (za o), some (zi (p : Int))]) (st2 := [zi (p : Int), zi 1, zi (th : Int), za o]) [(5, .iconst 1), (6, .iload_n 1)] (by decide +kernel) rfl ?_
  refine Zn.ishl (((2 ^ p : Nat) : Int)) (by decide +kernel) (zshl1 (by omega)) ?_
  refine Zn.seg (pc2 := 9) (ls2 := [some (za o), some (zi (p : Int))]) (st2 := [zi (-1), zi ((2 ^ p : Nat) : Int), zi (th : Int), za o]) [(8, .iconst (-1))] (by decide +kernel) rfl ?_
  refine Zn.ixor (-((2 ^ p : Nat) : Int) - 1) (by decide +kernel) (znot hpw) ?_
  refine Zn.iand (((bdiff th (2 ^ p) : Nat) : Int)) (by decide +kernel) (zandnot (by omega) hpw) ?_
  refine Zn.put (ix := 18) hD 0 (by decide +kernel) rfl rfl rfl rfl rfl ?_
  refine Zn.eq (h2 := zov ([(o, .inr (4, [za ya, za qa, zi ((bdiff th (2 ^ p) : Nat) : Int), zi (fx : Int), zi (d : Int), zi (w : Int)]))]) h) rfl rfl rfl rfl ?_
  have hD : zND ([(o, .inr (4, [za ya, za qa, zi ((bdiff th (2 ^ p) : Nat) : Int), zi (fx : Int), zi (d : Int), zi (w : Int)]))]) := hD
  refine Zn.seg (pc2 := 16) (ls2 := [some (za o), some (zi (p : Int))]) (st2 := [za o, za o]) [(14, .aload_n 0), (15, .dup)] (by decide +kernel) rfl ?_
  refine Zn.get (ix := 22) hD 0 (by decide +kernel) rfl rfl rfl ?_
  refine Zn.seg (pc2 := 21) (ls2 := [some (za o), some (zi (p : Int))]) (st2 := [zi (p : Int), zi 1, zi (fx : Int), za o]) [(19, .iconst 1), (20, .iload_n 1)] (by decide +kernel) rfl ?_
  refine Zn.ishl (((2 ^ p : Nat) : Int)) (by decide +kernel) (zshl1 (by omega)) ?_
  refine Zn.seg (pc2 := 23) (ls2 := [some (za o), some (zi (p : Int))]) (st2 := [zi (-1), zi ((2 ^ p : Nat) : Int), zi (fx : Int), za o]) [(22, .iconst (-1))] (by decide +kernel) rfl ?_
  refine Zn.ixor (-((2 ^ p : Nat) : Int) - 1) (by decide +kernel) (znot hpw) ?_
  refine Zn.iand (((bdiff fx (2 ^ p) : Nat) : Int)) (by decide +kernel) (zandnot (by omega) hpw) ?_
  refine Zn.put (ix := 22) hD 0 (by decide +kernel) rfl rfl rfl rfl rfl ?_
  refine Zn.eq (h2 := zov ([(o, .inr (4, [za ya, za qa, zi ((bdiff th (2 ^ p) : Nat) : Int), zi ((bdiff fx (2 ^ p) : Nat) : Int), zi (d : Int), zi (w : Int)]))]) h) rfl rfl rfl rfl ?_
  have hD : zND ([(o, .inr (4, [za ya, za qa, zi ((bdiff th (2 ^ p) : Nat) : Int), zi ((bdiff fx (2 ^ p) : Nat) : Int), zi (d : Int), zi (w : Int)]))]) := hD
  exact Zn.vret (by decide +kernel) rfl (⟨rfl, rfl⟩)
theorem sp_X4_turnFixed {h : xH} {o ya qa th fx d w p : Nat} (hc0 : h o = zcE (.inr (4, [za ya, za qa, zi (th : Int), zi (fx : Int), zi (d : Int), zi (w : Int)]))) (hfx : fx < 8192) (hp : p < 13) : zEv k_X4_turnFixed [za o, zi (p : Int)] h (fun v h2 => v = none ∧ h2 = zov [(o, .inr (4, [za ya, za qa, zi (th : Int), zi ((fx ^^^ 2 ^ p : Nat) : Int), zi (d : Int), zi (w : Int)]))] h) := by
  have hD : [o].Nodup := by simp
  have hh : h = zov [(o, .inr (4, [za ya, za qa, zi (th : Int), zi (fx : Int), zi (d : Int), zi (w : Int)]))] h := zov_self (List.forall_mem_cons.mpr ⟨hc0, fun _ q => absurd q List.not_mem_nil⟩)
  have hpw : 2 ^ p < 2147483648 := Nat.lt_trans (pw_lt hp) (by decide)
  refine zEv.body (I := (4, xI_X4_turnFixed, 2, 0, 0, 0, 0, false)) (rt := none) [some (za o), some (zi (p : Int))] rfl rfl rfl rfl ?_
  refine Zn.eq rfl rfl rfl hh ?_
  have hD : zND ([(o, .inr (4, [za ya, za qa, zi (th : Int), zi (fx : Int), zi (d : Int), zi (w : Int)]))]) := hD
  refine Zn.seg (pc2 := 2) (ls2 := [some (za o), some (zi (p : Int))]) (st2 := [za o, za o]) [(0, .aload_n 0), (1, .dup)] (by decide +kernel) rfl ?_
  refine Zn.get (ix := 22) hD 0 (by decide +kernel) rfl rfl rfl ?_
  refine Zn.seg (pc2 := 7) (ls2 := [some (za o), some (zi (p : Int))]) (st2 := [zi (p : Int), zi 1, zi (fx : Int), za o]) [(5, .iconst 1), (6, .iload_n 1)] (by decide +kernel) rfl ?_
  refine Zn.ishl (((2 ^ p : Nat) : Int)) (by decide +kernel) (zshl1 (by omega)) ?_
  refine Zn.ixor (((fx ^^^ 2 ^ p : Nat) : Int)) (by decide +kernel) (zxor (by omega) hpw) ?_
  refine Zn.put (ix := 22) hD 0 (by decide +kernel) rfl rfl rfl rfl rfl ?_
  refine Zn.eq (h2 := zov ([(o, .inr (4, [za ya, za qa, zi (th : Int), zi ((fx ^^^ 2 ^ p : Nat) : Int), zi (d : Int), zi (w : Int)]))]) h) rfl rfl rfl rfl ?_
  have hD : zND ([(o, .inr (4, [za ya, za qa, zi (th : Int), zi ((fx ^^^ 2 ^ p : Nat) : Int), zi (d : Int), zi (w : Int)]))]) := hD
  exact Zn.vret (by decide +kernel) rfl (⟨rfl, rfl⟩)
theorem sp_X4_howMany {h : xH} {o ya qa th fx d w : Nat} (hc0 : h o = zcE (.inr (4, [za ya, za qa, zi (th : Int), zi (fx : Int), zi (d : Int), zi (w : Int)]))) (hth : th < 8192) : zEv k_X4_howMany [za o] h (fun v h2 => v = some (zi (pop th : Int)) ∧ h2 = h) := by
  have hD : [o].Nodup := by simp
  have hh : h = zov [(o, .inr (4, [za ya, za qa, zi (th : Int), zi (fx : Int), zi (d : Int), zi (w : Int)]))] h := zov_self (List.forall_mem_cons.mpr ⟨hc0, fun _ q => absurd q List.not_mem_nil⟩)
  refine zEv.body (I := (4, xI_X4_howMany, 1, 1, 20, 0, 0, false)) (rt := (some .int)) [some (za o)] rfl rfl rfl rfl ?_
  refine Zn.eq rfl rfl rfl hh ?_
  have hD : zND ([(o, .inr (4, [za ya, za qa, zi (th : Int), zi (fx : Int), zi (d : Int), zi (w : Int)]))]) := hD
  refine Zn.seg (pc2 := 1) (ls2 := [some (za o)]) (st2 := [za o]) [(0, .aload_n 0)] (by decide +kernel) rfl ?_
  refine Zn.get (ix := 18) hD 0 (by decide +kernel) rfl rfl rfl ?_
  refine Zn.call (ins := .invokestatic 37) [zi (th : Int)] [] (by decide +kernel) rfl rfl rfl ⟨rfl, rfl⟩ ⟨rfl, rfl, rfl⟩ rfl (zrecvS (by decide)) (sp_J6_bitCount_0f7a4 (n := th) (by first | assumption | omega)) (fun v h2 hp => ?_)
  obtain ⟨rfl, hq_1⟩ := hp
  refine Zn.eq (pc2 := 7) (ls2 := [some (za o)]) (st2 := [zi (pop th : Int)]) (h2 := zov ([(o, .inr (4, [za ya, za qa, zi (th : Int), zi (fx : Int), zi (d : Int), zi (w : Int)]))]) h) rfl rfl rfl hq_1 ?_
  have hD : zND ([(o, .inr (4, [za ya, za qa, zi (th : Int), zi (fx : Int), zi (d : Int), zi (w : Int)]))]) := hD
  have q_2 := pop_le th
  exact Zn.iret (by decide +kernel) rfl (⟨by first | rfl | (refine congrArg some (congrArg zi ?_); first | omega | (simp_all; done) | (simp_all; omega)), hh.symm⟩)
theorem sp_X4_free {h : xH} {o ya qa th fx d w : Nat} (hc0 : h o = zcE (.inr (4, [za ya, za qa, zi (th : Int), zi (fx : Int), zi (d : Int), zi (w : Int)]))) (hth : th < 8192) (hfx : fx < 8192) : zEv k_X4_free [za o] h (fun v h2 => v = some (zi ((bdiff th fx : Nat) : Int)) ∧ h2 = h) := by
  have hD : [o].Nodup := by simp
  have hh : h = zov [(o, .inr (4, [za ya, za qa, zi (th : Int), zi (fx : Int), zi (d : Int), zi (w : Int)]))] h := zov_self (List.forall_mem_cons.mpr ⟨hc0, fun _ q => absurd q List.not_mem_nil⟩)
  refine zEv.body (I := (4, xI_X4_free, 1, 0, 0, 0, 0, false)) (rt := (some .int)) [some (za o)] rfl rfl rfl rfl ?_
  refine Zn.eq rfl rfl rfl hh ?_
  have hD : zND ([(o, .inr (4, [za ya, za qa, zi (th : Int), zi (fx : Int), zi (d : Int), zi (w : Int)]))]) := hD
  refine Zn.seg (pc2 := 1) (ls2 := [some (za o)]) (st2 := [za o]) [(0, .aload_n 0)] (by decide +kernel) rfl ?_
  refine Zn.get (ix := 18) hD 0 (by decide +kernel) rfl rfl rfl ?_
  refine Zn.seg (pc2 := 5) (ls2 := [some (za o)]) (st2 := [za o, zi (th : Int)]) [(4, .aload_n 0)] (by decide +kernel) rfl ?_
  refine Zn.get (ix := 22) hD 0 (by decide +kernel) rfl rfl rfl ?_
  refine Zn.seg (pc2 := 9) (ls2 := [some (za o)]) (st2 := [zi (-1), zi (fx : Int), zi (th : Int)]) [(8, .iconst (-1))] (by decide +kernel) rfl ?_
  refine Zn.ixor (-(fx : Int) - 1) (by decide +kernel) (znot (by omega)) ?_
  refine Zn.iand (((bdiff th fx : Nat) : Int)) (by decide +kernel) (zandnot (by omega) (by omega)) ?_
  exact Zn.iret (by decide +kernel) rfl (⟨by first | rfl | (refine congrArg some (congrArg zi ?_); first | omega | (simp_all; done) | (simp_all; omega)), hh.symm⟩)
theorem sp_X4_needed {h : xH} {o ya qa th fx d w : Nat} (hc0 : h o = zcE (.inr (4, [za ya, za qa, zi (th : Int), zi (fx : Int), zi (d : Int), zi (w : Int)]))) (hfx : fx < 8192) : zEv k_X4_needed [za o] h (fun v h2 => v = some (zi ((d : Int) + 2 - (pop fx : Int))) ∧ h2 = h) := by
  have hD : [o].Nodup := by simp
  have hh : h = zov [(o, .inr (4, [za ya, za qa, zi (th : Int), zi (fx : Int), zi (d : Int), zi (w : Int)]))] h := zov_self (List.forall_mem_cons.mpr ⟨hc0, fun _ q => absurd q List.not_mem_nil⟩)
  refine zEv.body (I := (4, xI_X4_needed, 1, 1, 20, 0, 0, false)) (rt := (some .int)) [some (za o)] rfl rfl rfl rfl ?_
  refine Zn.eq rfl rfl rfl hh ?_
  have hD : zND ([(o, .inr (4, [za ya, za qa, zi (th : Int), zi (fx : Int), zi (d : Int), zi (w : Int)]))]) := hD
  refine Zn.seg (pc2 := 1) (ls2 := [some (za o)]) (st2 := [za o]) [(0, .aload_n 0)] (by decide +kernel) rfl ?_
  refine Zn.get (ix := 25) hD 0 (by decide +kernel) rfl rfl rfl ?_
  refine Zn.seg (pc2 := 7) (ls2 := [some (za o)]) (st2 := [za o, zi ((d : Int) + 2)]) [(4, .iconst 2), (5, .iadd), (6, .aload_n 0)] (by decide +kernel) rfl ?_
  refine Zn.get (ix := 22) hD 0 (by decide +kernel) rfl rfl rfl ?_
  refine Zn.call (ins := .invokestatic 37) [zi (fx : Int)] [zi ((d : Int) + 2)] (by decide +kernel) rfl rfl rfl ⟨rfl, rfl⟩ ⟨rfl, rfl, rfl⟩ rfl (zrecvS (by decide)) (sp_J6_bitCount_0f7a4 (n := fx) (by first | assumption | omega)) (fun v h2 hp => ?_)
  obtain ⟨rfl, hq_1⟩ := hp
  refine Zn.eq (pc2 := 13) (ls2 := [some (za o)]) (st2 := [zi (pop fx : Int), zi ((d : Int) + 2)]) (h2 := zov ([(o, .inr (4, [za ya, za qa, zi (th : Int), zi (fx : Int), zi (d : Int), zi (w : Int)]))]) h) rfl rfl rfl hq_1 ?_
  have hD : zND ([(o, .inr (4, [za ya, za qa, zi (th : Int), zi (fx : Int), zi (d : Int), zi (w : Int)]))]) := hD
  have q_2 := pop_le fx
  refine Zn.seg (pc2 := 14) (ls2 := [some (za o)]) (st2 := [zi ((d : Int) + 2 - (pop fx : Int))]) [(13, .isub)] (by decide +kernel) rfl ?_
  exact Zn.iret (by decide +kernel) rfl (⟨by first | rfl | (refine congrArg some (congrArg zi ?_); first | omega | (simp_all; done) | (simp_all; omega)), hh.symm⟩)
theorem sp_X4_beneath {h : xH} {o ya qa th fx d w : Nat} {qf : Nat → Int} {x : Int} (hc0 : h o = zcE (.inr (4, [za ya, za qa, zi (th : Int), zi (fx : Int), zi (d : Int), zi (w : Int)]))) (hc1 : h qa = zcE (.inl (0, 3, .inl qf))) (hD : [o, qa].Nodup) : zEv k_X4_beneath [za o, zi x] h (fun v h2 => v = some (zi (qv qf x)) ∧ h2 = h) := by
  have hh : h = zov [(o, .inr (4, [za ya, za qa, zi (th : Int), zi (fx : Int), zi (d : Int), zi (w : Int)])), (qa, .inl (0, 3, .inl qf))] h := zov_self (List.forall_mem_cons.mpr ⟨hc0, List.forall_mem_cons.mpr ⟨hc1, fun _ q => absurd q List.not_mem_nil⟩⟩)
  refine zEv.body (I := (4, xI_X4_beneath, 2, 0, 0, 0, 0, false)) (rt := (some .int)) [some (za o), some (zi x)] rfl rfl rfl rfl ?_
  refine Zn.eq rfl rfl rfl hh ?_
  have hD : zND ([(o, .inr (4, [za ya, za qa, zi (th : Int), zi (fx : Int), zi (d : Int), zi (w : Int)])), (qa, .inl (0, 3, .inl qf))]) := hD
  refine Zn.seg (pc2 := 1) (ls2 := [some (za o), some (zi x)]) (st2 := [za o]) [(0, .aload_n 0)] (by decide +kernel) rfl ?_
  refine Zn.get (ix := 15) hD 0 (by decide +kernel) rfl rfl rfl ?_
  refine Zn.seg (pc2 := 5) (ls2 := [some (za o), some (zi x)]) (st2 := [zi 0, za qa]) [(4, .iconst 0)] (by decide +kernel) rfl ?_
  refine Zn.iald hD 1 (0) (by decide +kernel) rfl (rfl) (by decide) rfl ?_
  refine Zn.seg (pc2 := 7) (ls2 := [some (za o), some (zi x)]) (st2 := [za o, zi (qf 0)]) [(6, .aload_n 0)] (by decide +kernel) rfl ?_
  refine Zn.get (ix := 15) hD 0 (by decide +kernel) rfl rfl rfl ?_
  refine Zn.seg (pc2 := 11) (ls2 := [some (za o), some (zi x)]) (st2 := [zi 1, za qa, zi (qf 0)]) [(10, .iconst 1)] (by decide +kernel) rfl ?_
  refine Zn.iald hD 1 (1) (by decide +kernel) rfl (rfl) (by decide) rfl ?_
  refine Zn.seg (pc2 := 16) (ls2 := [some (za o), some (zi x)]) (st2 := [za o, zi (qf 0 + ((qf 1) * x))]) [(12, .iload_n 1), (13, .imul), (14, .iadd), (15, .aload_n 0)] (by decide +kernel) rfl ?_
  refine Zn.get (ix := 15) hD 0 (by decide +kernel) rfl rfl rfl ?_
  refine Zn.seg (pc2 := 20) (ls2 := [some (za o), some (zi x)]) (st2 := [zi 2, za qa, zi (qf 0 + ((qf 1) * x))]) [(19, .iconst 2)] (by decide +kernel) rfl ?_
  refine Zn.iald hD 1 (2) (by decide +kernel) rfl (rfl) (by decide) rfl ?_
  refine Zn.seg (pc2 := 26) (ls2 := [some (za o), some (zi x)]) (st2 := [zi (qf 0 + ((qf 1) * x) + (((qf 2) * x) * x))]) [(21, .iload_n 1), (22, .imul), (23, .iload_n 1), (24, .imul), (25, .iadd)] (by decide +kernel) rfl ?_
  exact Zn.iret (by decide +kernel) rfl (⟨by first | rfl | (refine congrArg some (congrArg zi ?_); first | omega | (simp_all; done) | (simp_all; omega)), hh.symm⟩)
theorem sp_X4_poles {h : xH} {o ya qa th fx d w : Nat} {qf : Nat → Int} (hc0 : h o = zcE (.inr (4, [za ya, za qa, zi (th : Int), zi (fx : Int), zi (d : Int), zi (w : Int)]))) (hc1 : h qa = zcE (.inl (0, 3, .inl qf))) (hD : [o, qa].Nodup) (hth : th < 8192) (hq : ∀ p : Nat, p < 13 → zInI (qv qf ((p : Int) - 6))) : zEv k_X4_poles [za o] h (fun v h2 => v = some (zi (mk (poleB th qf) : Int)) ∧ h2 = h) := by
  have hh : h = zov [(o, .inr (4, [za ya, za qa, zi (th : Int), zi (fx : Int), zi (d : Int), zi (w : Int)])), (qa, .inl (0, 3, .inl qf))] h := zov_self (List.forall_mem_cons.mpr ⟨hc0, List.forall_mem_cons.mpr ⟨hc1, fun _ q => absurd q List.not_mem_nil⟩⟩)
  refine zEv.body (I := (4, xI_X4_poles, 3, 1, 21, 0, 0, false)) (rt := (some .int)) [some (za o), none, none] rfl rfl rfl rfl ?_
  refine Zn.eq rfl rfl rfl hh ?_
  have hD : zND ([(o, .inr (4, [za ya, za qa, zi (th : Int), zi (fx : Int), zi (d : Int), zi (w : Int)])), (qa, .inl (0, 3, .inl qf))]) := hD
  refine Zn.seg (pc2 := 4) (ls2 := [some (za o), some (zi 0), some (zi 0)]) (st2 := []) [(0, .iconst 0), (1, .istore_n 1), (2, .iconst 0), (3, .istore_n 2)] (by decide +kernel) rfl ?_
  refine Zn.eq (pc2 := 4) (ls2 := [some (za o), some (zi (mkN (poleB th qf) 0 : Int)), some (zi (0 : Int))]) (st2 := []) (h2 := zov ([(o, .inr (4, [za ya, za qa, zi (th : Int), zi (fx : Int), zi (d : Int), zi (w : Int)])), (qa, .inl (0, 3, .inl qf))]) h) rfl (zcons rfl (zcons (congrArg (fun z => some (zi z)) (by first | rfl | omega | simp)) (zcons (congrArg (fun z => some (zi z)) (by first | rfl | omega | simp)) rfl))) rfl (rfl) ?_
  have hD : zND ([(o, .inr (4, [za ya, za qa, zi (th : Int), zi (fx : Int), zi (d : Int), zi (w : Int)])), (qa, .inl (0, 3, .inl qf))]) := hD
  refine xloop (P := fun i_1 => Zn (4, xI_X4_poles, 3, 1, 21, 0, 0, false) (some .int) 4 [some (za o), some (zi (mkN (poleB th qf) i_1 : Int)), some (zi (i_1 : Int))] [] (zov ([(o, .inr (4, [za ya, za qa, zi (th : Int), zi (fx : Int), zi (d : Int), zi (w : Int)])), (qa, .inl (0, 3, .inl qf))]) h) _) (13) (fun i_1 hi_2 ih_3 => ?_) ?_
  · have hi_2 : i_1 < 13 := hi_2
    have hk := mkN_lt (poleB th qf) (k := i_1) (by omega)
    have hpw := pw_lt (p := i_1) (by omega)
    have hqi := hq i_1 (by omega)
    refine Zn.seg (pc2 := 7) (ls2 := [some (za o), some (zi (mkN (poleB th qf) i_1 : Int)), some (zi (i_1 : Int))]) (st2 := [zi 13, zi (i_1 : Int)]) [(4, .iload_n 2), (5, .bipush 13)] (by decide +kernel) rfl ?_
    refine Zn.icmp (c := .ge) (off := 34) 41 (by decide +kernel) rfl ⟨by omega, by omega⟩ ⟨by decide, by decide⟩ (fun c_4 => absurd (show 13 ≤ (i_1 : Int) from c_4) (by omega)) (fun c_4 => ?_)
    have c_4 : ¬ (13 ≤ (i_1 : Int)) := c_4
    refine Zn.seg (pc2 := 12) (ls2 := [some (za o), some (zi (mkN (poleB th qf) i_1 : Int)), some (zi (i_1 : Int))]) (st2 := [zi (i_1 : Int), za o]) [(10, .aload_n 0), (11, .iload_n 2)] (by decide +kernel) rfl ?_
    refine Zn.call (ins := .invokevirtual 43) [za o, zi (i_1 : Int)] [] (by decide +kernel) rfl rfl rfl ⟨rfl, rfl⟩ ⟨rfl, rfl, rfl⟩ rfl (zrecvV hD (p := 0) rfl rfl rfl) (sp_X4_has (o := o) (ya := ya) (qa := qa) (th := th) (fx := fx) (d := d) (w := w) (p := i_1) (zov_get hD 0 rfl) (by first | assumption | omega) (by first | assumption | omega)) (fun v h2 hp => ?_)
    obtain ⟨rfl, hq_5⟩ := hp
    refine Zn.eq (pc2 := 15) (ls2 := [some (za o), some (zi (mkN (poleB th qf) i_1 : Int)), some (zi (i_1 : Int))]) (st2 := [zi (bt th i_1 : Int)]) (h2 := zov ([(o, .inr (4, [za ya, za qa, zi (th : Int), zi (fx : Int), zi (d : Int), zi (w : Int)])), (qa, .inl (0, 3, .inl qf))]) h) rfl rfl rfl hq_5 ?_
    have hD : zND ([(o, .inr (4, [za ya, za qa, zi (th : Int), zi (fx : Int), zi (d : Int), zi (w : Int)])), (qa, .inl (0, 3, .inl qf))]) := hD
    have q_6 := bt_lt th i_1
    refine Zn.ifc (c := .eq) (off := 20) 35 (by decide +kernel) rfl ⟨by omega, by omega⟩ (fun c_7 => ?_) (fun c_7 => ?_)
    · have c_7 : (bt th i_1 : Int) = 0 := c_7
      refine Zn.seg (pc2 := 4) (ls2 := [some (za o), some (zi (mkN (poleB th qf) i_1 : Int)), some (zi ((i_1 : Int) + 1))]) (st2 := []) [(35, .iinc 2 1), (38, .goto (-34))] (by decide +kernel) rfl ?_
      exact Zn.eq rfl (zcons rfl (zcons (congrArg (fun z => some (zi z)) (by first | rw [mkN_t (by simp only [poleB, decide_eq_true_eq]; omega)] | rw [mkN_f (by simp only [poleB, decide_eq_true_eq]; omega)])) (zcons (congrArg (fun z => some (zi z)) (by omega)) rfl))) rfl (rfl) (ih_3)
    · have c_7 : ¬ ((bt th i_1 : Int) = 0) := c_7
      refine Zn.seg (pc2 := 23) (ls2 := [some (za o), some (zi (mkN (poleB th qf) i_1 : Int)), some (zi (i_1 : Int))]) (st2 := [zi ((i_1 : Int) - 6), za o]) [(18, .aload_n 0), (19, .iload_n 2), (20, .bipush 6), (22, .isub)] (by decide +kernel) rfl ?_
      refine Zn.call (ins := .invokevirtual 47) [za o, zi ((i_1 : Int) - 6)] [] (by decide +kernel) rfl rfl rfl ⟨rfl, rfl⟩ ⟨rfl, rfl, rfl⟩ rfl (zrecvV hD (p := 0) rfl rfl rfl) (sp_X4_beneath (o := o) (ya := ya) (qa := qa) (th := th) (fx := fx) (d := d) (w := w) (qf := qf) (x := (i_1 : Int) - 6) (zov_get hD 0 rfl) (zov_get hD 1 rfl) (nd_sub hD [0, 1] rfl rfl)) (fun v h2 hp => ?_)
      obtain ⟨rfl, hq_8⟩ := hp
      refine Zn.eq (pc2 := 26) (ls2 := [some (za o), some (zi (mkN (poleB th qf) i_1 : Int)), some (zi (i_1 : Int))]) (st2 := [zi (qv qf ((i_1 : Int) - 6))]) (h2 := zov ([(o, .inr (4, [za ya, za qa, zi (th : Int), zi (fx : Int), zi (d : Int), zi (w : Int)])), (qa, .inl (0, 3, .inl qf))]) h) rfl rfl rfl hq_8 ?_
      have hD : zND ([(o, .inr (4, [za ya, za qa, zi (th : Int), zi (fx : Int), zi (d : Int), zi (w : Int)])), (qa, .inl (0, 3, .inl qf))]) := hD
      refine Zn.ifc (c := .ne) (off := 9) 35 (by decide +kernel) rfl hqi (fun c_9 => ?_) (fun c_9 => ?_)
      · have c_9 : qv qf ((i_1 : Int) - 6) ≠ 0 := c_9
        refine Zn.seg (pc2 := 4) (ls2 := [some (za o), some (zi (mkN (poleB th qf) i_1 : Int)), some (zi ((i_1 : Int) + 1))]) (st2 := []) [(35, .iinc 2 1), (38, .goto (-34))] (by decide +kernel) rfl ?_
        exact Zn.eq rfl (zcons rfl (zcons (congrArg (fun z => some (zi z)) (by first | rw [mkN_t (by simp only [poleB, decide_eq_true_eq]; omega)] | rw [mkN_f (by simp only [poleB, decide_eq_true_eq]; omega)])) (zcons (congrArg (fun z => some (zi z)) (by omega)) rfl))) rfl (rfl) (ih_3)
      · have c_9 : ¬ (qv qf ((i_1 : Int) - 6) ≠ 0) := c_9
        refine Zn.seg (pc2 := 32) (ls2 := [some (za o), some (zi (mkN (poleB th qf) i_1 : Int)), some (zi (i_1 : Int))]) (st2 := [zi (i_1 : Int), zi 1, zi (mkN (poleB th qf) i_1 : Int)]) [(29, .iload_n 1), (30, .iconst 1), (31, .iload_n 2)] (by decide +kernel) rfl ?_
        refine Zn.ishl (((2 ^ i_1 : Nat) : Int)) (by decide +kernel) (zshl1 (by omega)) ?_
        refine Zn.ior (((mkN (poleB th qf) i_1 ||| 2 ^ i_1 : Nat) : Int)) (by decide +kernel) (zor (by omega) (by omega)) ?_
        refine Zn.seg (pc2 := 4) (ls2 := [some (za o), some (zi ((mkN (poleB th qf) i_1 ||| 2 ^ i_1 : Nat) : Int)), some (zi ((i_1 : Int) + 1))]) (st2 := []) [(34, .istore_n 1), (35, .iinc 2 1), (38, .goto (-34))] (by decide +kernel) rfl ?_
        exact Zn.eq rfl (zcons rfl (zcons (congrArg (fun z => some (zi z)) (by first | rw [mkN_t (by simp only [poleB, decide_eq_true_eq]; omega)] | rw [mkN_f (by simp only [poleB, decide_eq_true_eq]; omega)])) (zcons (congrArg (fun z => some (zi z)) (by omega)) rfl))) rfl (rfl) (ih_3)
  · skip
    refine Zn.seg (pc2 := 7) (ls2 := [some (za o), some (zi (mkN (poleB th qf) 13 : Int)), some (zi (13 : Int))]) (st2 := [zi 13, zi (13 : Int)]) [(4, .iload_n 2), (5, .bipush 13)] (by decide +kernel) rfl ?_
    refine Zn.icmp (c := .ge) (off := 34) 41 (by decide +kernel) rfl ⟨by omega, by omega⟩ ⟨by decide, by decide⟩ (fun c_10 => ?_) (fun c_10 => absurd (show 13 ≤ (13 : Int) from by decide) c_10)
    have c_10 : 13 ≤ (13 : Int) := c_10
    refine Zn.seg (pc2 := 42) (ls2 := [some (za o), some (zi (mkN (poleB th qf) 13 : Int)), some (zi (13 : Int))]) (st2 := [zi (mkN (poleB th qf) 13 : Int)]) [(41, .iload_n 1)] (by decide +kernel) rfl ?_
    exact Zn.iret (by decide +kernel) rfl (⟨by first | rfl | (refine congrArg some (congrArg zi ?_); first | omega | (simp_all; done) | (simp_all; omega)), hh.symm⟩)
theorem sp_X4_isTurnedOver {h : xH} {o ya qa th fx d w p : Nat} (hc0 : h o = zcE (.inr (4, [za ya, za qa, zi (th : Int), zi (fx : Int), zi (d : Int), zi (w : Int)]))) (hfx : fx < 8192) (hp : p < 13) : zEv k_X4_isTurnedOver [za o, zi (p : Int)] h (fun v h2 => v = some (zi ((pop (bdiff fx (2 ^ p - 1)) % 2 : Nat) : Int)) ∧ h2 = h) := by
  have hD : [o].Nodup := by simp
  have hh : h = zov [(o, .inr (4, [za ya, za qa, zi (th : Int), zi (fx : Int), zi (d : Int), zi (w : Int)]))] h := zov_self (List.forall_mem_cons.mpr ⟨hc0, fun _ q => absurd q List.not_mem_nil⟩)
  have hpw := pw_lt hp
  have hpw0 : 0 < 2 ^ p := Nat.two_pow_pos p
  have hbd : bdiff fx (2 ^ p - 1) < 8192 := bd_lt hfx
  have hpo : pop (bdiff fx (2 ^ p - 1)) ≤ 13 := popN_le _ 13
  refine zEv.body (I := (4, xI_X4_isTurnedOver, 2, 1, 20, 0, 0, false)) (rt := (some .boolean)) [some (za o), some (zi (p : Int))] rfl rfl rfl rfl ?_
  refine Zn.eq rfl rfl rfl hh ?_
  have hD : zND ([(o, .inr (4, [za ya, za qa, zi (th : Int), zi (fx : Int), zi (d : Int), zi (w : Int)]))]) := hD
  refine Zn.seg (pc2 := 1) (ls2 := [some (za o), some (zi (p : Int))]) (st2 := [za o]) [(0, .aload_n 0)] (by decide +kernel) rfl ?_
  refine Zn.get (ix := 22) hD 0 (by decide +kernel) rfl rfl rfl ?_
  refine Zn.seg (pc2 := 5) (ls2 := [some (za o), some (zi (p : Int))]) (st2 := [zi (p : Int), zi (fx : Int)]) [(4, .iload_n 1)] (by decide +kernel) rfl ?_
  refine Zn.call (ins := .invokestatic 50) [zi (p : Int)] [zi (fx : Int)] (by decide +kernel) rfl rfl rfl ⟨rfl, rfl⟩ ⟨rfl, rfl, rfl⟩ rfl (zrecvS (by decide)) (sp_X7_placesBelow (p := p) (by first | assumption | omega)) (fun v h2 hp => ?_)
  obtain ⟨rfl, hq_1⟩ := hp
  refine Zn.eq (pc2 := 8) (ls2 := [some (za o), some (zi (p : Int))]) (st2 := [zi (((2 ^ p : Nat) : Int) - 1), zi (fx : Int)]) (h2 := zov ([(o, .inr (4, [za ya, za qa, zi (th : Int), zi (fx : Int), zi (d : Int), zi (w : Int)]))]) h) rfl rfl rfl hq_1 ?_
  have hD : zND ([(o, .inr (4, [za ya, za qa, zi (th : Int), zi (fx : Int), zi (d : Int), zi (w : Int)]))]) := hD
  refine Zn.topi (y := ((2 ^ p - 1 : Nat) : Int)) (by omega) ?_
  refine Zn.seg (pc2 := 9) (ls2 := [some (za o), some (zi (p : Int))]) (st2 := [zi (-1), zi ((2 ^ p - 1 : Nat) : Int), zi (fx : Int)]) [(8, .iconst (-1))] (by decide +kernel) rfl ?_
  refine Zn.ixor (-((2 ^ p - 1 : Nat) : Int) - 1) (by decide +kernel) (znot (by omega)) ?_
  refine Zn.iand (((bdiff fx (2 ^ p - 1) : Nat) : Int)) (by decide +kernel) (zandnot (by omega) (by omega)) ?_
  refine Zn.call (ins := .invokestatic 37) [zi ((bdiff fx (2 ^ p - 1) : Nat) : Int)] [] (by decide +kernel) rfl rfl rfl ⟨rfl, rfl⟩ ⟨rfl, rfl, rfl⟩ rfl (zrecvS (by decide)) (sp_J6_bitCount_0f7a4 (n := bdiff fx (2 ^ p - 1)) (by first | assumption | omega)) (fun v h2 hp => ?_)
  obtain ⟨rfl, hq_2⟩ := hp
  refine Zn.eq (pc2 := 14) (ls2 := [some (za o), some (zi (p : Int))]) (st2 := [zi (pop (bdiff fx (2 ^ p - 1)) : Int)]) (h2 := zov ([(o, .inr (4, [za ya, za qa, zi (th : Int), zi (fx : Int), zi (d : Int), zi (w : Int)]))]) h) rfl rfl rfl hq_2 ?_
  have hD : zND ([(o, .inr (4, [za ya, za qa, zi (th : Int), zi (fx : Int), zi (d : Int), zi (w : Int)]))]) := hD
  have q_3 := pop_le (bdiff fx (2 ^ p - 1))
  refine Zn.seg (pc2 := 15) (ls2 := [some (za o), some (zi (p : Int))]) (st2 := [zi 1, zi (pop (bdiff fx (2 ^ p - 1)) : Int)]) [(14, .iconst 1)] (by decide +kernel) rfl ?_
  refine Zn.iand (((pop (bdiff fx (2 ^ p - 1)) % 2 : Nat) : Int)) (by decide +kernel) (zand1 (by omega)) ?_
  refine Zn.seg (pc2 := 17) (ls2 := [some (za o), some (zi (p : Int))]) (st2 := [zi 1, zi ((pop (bdiff fx (2 ^ p - 1)) % 2 : Nat) : Int)]) [(16, .iconst 1)] (by decide +kernel) rfl ?_
  refine Zn.icmp (c := .ne) (off := 7) 24 (by decide +kernel) rfl ⟨by omega, by omega⟩ ⟨by decide, by decide⟩ (fun c_4 => ?_) (fun c_4 => ?_)
  · have c_4 : ((pop (bdiff fx (2 ^ p - 1)) % 2 : Nat) : Int) ≠ 1 := c_4
    refine Zn.seg (pc2 := 25) (ls2 := [some (za o), some (zi (p : Int))]) (st2 := [zi 0]) [(24, .iconst 0)] (by decide +kernel) rfl ?_
    exact Zn.bret (by decide +kernel) rfl (by first | decide | omega) (⟨by first | rfl | (refine congrArg some (congrArg zi ?_); first | omega | (simp_all; done) | (simp_all; omega)), hh.symm⟩)
  · have c_4 : ¬ (((pop (bdiff fx (2 ^ p - 1)) % 2 : Nat) : Int) ≠ 1) := c_4
    refine Zn.seg (pc2 := 25) (ls2 := [some (za o), some (zi (p : Int))]) (st2 := [zi 1]) [(20, .iconst 1), (21, .goto 4)] (by decide +kernel) rfl ?_
    exact Zn.bret (by decide +kernel) rfl (by first | decide | omega) (⟨by first | rfl | (refine congrArg some (congrArg zi ?_); first | omega | (simp_all; done) | (simp_all; omega)), hh.symm⟩)
theorem sp_X4_turn {h : xH} {o ya qa th fx d w : Nat} {Y : Nat → Int} (hc0 : h o = zcE (.inr (4, [za ya, za qa, zi (th : Int), zi (fx : Int), zi (d : Int), zi (w : Int)]))) (hc1 : h ya = zcE (.inl (0, 13, .inl Y))) (hD : [o, ya].Nodup) (hth : th < 8192) : zEv k_X4_turn [za o] h (fun v h2 => v = none ∧ h2 = zov [(o, .inr (4, [za ya, za qa, zi ((turnT th w : Nat) : Int), zi (fx : Int), zi (d : Int), zi (turnW w : Int)])), (ya, .inl (0, 13, .inl (turnY th w Y)))] h) := by
  have hh : h = zov [(o, .inr (4, [za ya, za qa, zi (th : Int), zi (fx : Int), zi (d : Int), zi (w : Int)])), (ya, .inl (0, 13, .inl Y))] h := zov_self (List.forall_mem_cons.mpr ⟨hc0, List.forall_mem_cons.mpr ⟨hc1, fun _ q => absurd q List.not_mem_nil⟩⟩)
  obtain ⟨wn, hwn⟩ : ∃ z : Nat, z = turnW w := ⟨_, rfl⟩
  have hw : wn < 2147483648 := by rw [hwn]; exact turnW_lt w
  have hv : wn / 65536 < 32768 := by omega
  have hp : wn / 65536 % 13 < 13 := Nat.mod_lt _ (by decide)
  have hb := bt_lt th (wn / 65536 % 13)
  refine zEv.body (I := (4, xI_X4_turn, 3, 2, 40, 0, 0, false)) (rt := none) [some (za o), none, none] rfl rfl rfl rfl ?_
  refine Zn.eq rfl rfl rfl hh ?_
  have hD : zND ([(o, .inr (4, [za ya, za qa, zi (th : Int), zi (fx : Int), zi (d : Int), zi (w : Int)])), (ya, .inl (0, 13, .inl Y))]) := hD
  refine Zn.seg (pc2 := 2) (ls2 := [some (za o), none, none]) (st2 := [za o, za o]) [(0, .aload_n 0), (1, .aload_n 0)] (by decide +kernel) rfl ?_
  refine Zn.get (ix := 28) hD 0 (by decide +kernel) rfl rfl rfl ?_
  refine Zn.seg (pc2 := 14) (ls2 := [some (za o), none, none]) (st2 := [zi 2147483647, zi ((w : Int) * 1103515245 + 12345), za o]) [(5, .ldc 53), (7, .imul), (8, .sipush 12345), (11, .iadd), (12, .ldc 54)] (by decide +kernel) rfl ?_
  refine Zn.iand ((wn : Int)) (by decide +kernel) (by rw [hwn]; exact turnW_and w) ?_
  refine Zn.put (ix := 28) hD 0 (by decide +kernel) rfl rfl rfl rfl rfl ?_
  refine Zn.eq (h2 := zov ([(o, .inr (4, [za ya, za qa, zi (th : Int), zi (fx : Int), zi (d : Int), zi (wn : Int)])), (ya, .inl (0, 13, .inl Y))]) h) rfl rfl rfl rfl ?_
  have hD : zND ([(o, .inr (4, [za ya, za qa, zi (th : Int), zi (fx : Int), zi (d : Int), zi (wn : Int)])), (ya, .inl (0, 13, .inl Y))]) := hD
  refine Zn.seg (pc2 := 19) (ls2 := [some (za o), none, none]) (st2 := [za o]) [(18, .aload_n 0)] (by decide +kernel) rfl ?_
  refine Zn.get (ix := 28) hD 0 (by decide +kernel) rfl rfl rfl ?_
  refine Zn.seg (pc2 := 24) (ls2 := [some (za o), none, none]) (st2 := [zi 65536, zi (wn : Int)]) [(22, .ldc 55)] (by decide +kernel) rfl ?_
  refine Zn.idiv (by decide +kernel) ⟨by omega, by omega⟩ ⟨by decide, by decide⟩ (by omega) ?_
  refine Zn.topi (y := ((wn / 65536 : Nat) : Int)) (ntd 65536 (by omega)) ?_
  refine Zn.seg (pc2 := 29) (ls2 := [some (za o), some (zi ((wn / 65536 : Nat) : Int)), none]) (st2 := [zi 13, zi ((wn / 65536 : Nat) : Int)]) [(25, .istore_n 1), (26, .iload_n 1), (27, .bipush 13)] (by decide +kernel) rfl ?_
  refine Zn.irem (by decide +kernel) ⟨by omega, by omega⟩ ⟨by decide, by decide⟩ (by omega) ?_
  refine Zn.topi (y := ((wn / 65536 % 13 : Nat) : Int)) (ntm 13 (by omega)) ?_
  refine Zn.seg (pc2 := 33) (ls2 := [some (za o), some (zi ((wn / 65536 : Nat) : Int)), some (zi ((wn / 65536 % 13 : Nat) : Int))]) (st2 := [zi ((wn / 65536 % 13 : Nat) : Int), za o]) [(30, .istore_n 2), (31, .aload_n 0), (32, .iload_n 2)] (by decide +kernel) rfl ?_
  refine Zn.call (ins := .invokevirtual 43) [za o, zi ((wn / 65536 % 13 : Nat) : Int)] [] (by decide +kernel) rfl rfl rfl ⟨rfl, rfl⟩ ⟨rfl, rfl, rfl⟩ rfl (zrecvV hD (p := 0) rfl rfl rfl) (sp_X4_has (o := o) (ya := ya) (qa := qa) (th := th) (fx := fx) (d := d) (w := wn) (p := wn / 65536 % 13) (zov_get hD 0 rfl) (by first | assumption | omega) (by first | assumption | omega)) (fun v h2 hp => ?_)
  obtain ⟨rfl, hq_1⟩ := hp
  refine Zn.eq (pc2 := 36) (ls2 := [some (za o), some (zi ((wn / 65536 : Nat) : Int)), some (zi ((wn / 65536 % 13 : Nat) : Int))]) (st2 := [zi (bt th (wn / 65536 % 13) : Int)]) (h2 := zov ([(o, .inr (4, [za ya, za qa, zi (th : Int), zi (fx : Int), zi (d : Int), zi (wn : Int)])), (ya, .inl (0, 13, .inl Y))]) h) rfl rfl rfl hq_1 ?_
  have hD : zND ([(o, .inr (4, [za ya, za qa, zi (th : Int), zi (fx : Int), zi (d : Int), zi (wn : Int)])), (ya, .inl (0, 13, .inl Y))]) := hD
  have q_2 := bt_lt th (wn / 65536 % 13)
  refine Zn.ifc (c := .ne) (off := 12) 48 (by decide +kernel) rfl ⟨by omega, by omega⟩ (fun c_3 => ?_) (fun c_3 => ?_)
  · have c_3 : (bt th (wn / 65536 % 13) : Int) ≠ 0 := c_3
    refine Zn.seg (pc2 := 53) (ls2 := [some (za o), some (zi ((wn / 65536 : Nat) : Int)), some (zi ((wn / 65536 % 13 : Nat) : Int))]) (st2 := [zi 16, zi ((wn / 65536 : Nat) : Int), zi ((wn / 65536 % 13 : Nat) : Int), za o]) [(48, .aload_n 0), (49, .iload_n 2), (50, .iload_n 1), (51, .bipush 16)] (by decide +kernel) rfl ?_
    refine Zn.idiv (by decide +kernel) ⟨by omega, by omega⟩ ⟨by decide, by decide⟩ (by omega) ?_
    refine Zn.topi (y := ((wn / 65536 / 16 : Nat) : Int)) (ntd 16 (by omega)) ?_
    refine Zn.seg (pc2 := 57) (ls2 := [some (za o), some (zi ((wn / 65536 : Nat) : Int)), some (zi ((wn / 65536 % 13 : Nat) : Int))]) (st2 := [zi 199, zi ((wn / 65536 / 16 : Nat) : Int), zi ((wn / 65536 % 13 : Nat) : Int), za o]) [(54, .sipush 199)] (by decide +kernel) rfl ?_
    refine Zn.irem (by decide +kernel) ⟨by omega, by omega⟩ ⟨by decide, by decide⟩ (by omega) ?_
    refine Zn.topi (y := ((wn / 65536 / 16 % 199 : Nat) : Int)) (ntm 199 (by omega)) ?_
    refine Zn.seg (pc2 := 61) (ls2 := [some (za o), some (zi ((wn / 65536 : Nat) : Int)), some (zi ((wn / 65536 % 13 : Nat) : Int))]) (st2 := [zi (((wn / 65536 / 16 % 199 : Nat) : Int) - 99), zi ((wn / 65536 % 13 : Nat) : Int), za o]) [(58, .bipush 99), (60, .isub)] (by decide +kernel) rfl ?_
    refine Zn.call (ins := .invokevirtual 60) [za o, zi ((wn / 65536 % 13 : Nat) : Int), zi (((wn / 65536 / 16 % 199 : Nat) : Int) - 99)] [] (by decide +kernel) rfl rfl rfl ⟨rfl, rfl⟩ ⟨rfl, rfl, rfl⟩ rfl (zrecvV hD (p := 0) rfl rfl rfl) (sp_X4_put (o := o) (ya := ya) (qa := qa) (th := th) (fx := fx) (d := d) (w := wn) (p := wn / 65536 % 13) (Y := Y) (x := ((wn / 65536 / 16 % 199 : Nat) : Int) - 99) (zov_get hD 0 rfl) (zov_get hD 1 rfl) (nd_sub hD [0, 1] rfl rfl) (by first | assumption | omega) (by first | assumption | omega)) (fun v h2 hp => ?_)
    obtain ⟨rfl, hq_4⟩ := hp
    refine Zn.eq (pc2 := 64) (ls2 := [some (za o), some (zi ((wn / 65536 : Nat) : Int)), some (zi ((wn / 65536 % 13 : Nat) : Int))]) (st2 := []) (h2 := zov ([(o, .inr (4, [za ya, za qa, zi ((th ||| 2 ^ (wn / 65536 % 13) : Nat) : Int), zi (fx : Int), zi (d : Int), zi (wn : Int)])), (ya, .inl (0, 13, .inl (va_up Y (wn / 65536 % 13) (((wn / 65536 / 16 % 199 : Nat) : Int) - 99))))]) h) rfl rfl rfl (hq_4.trans (zov_put hD [0, 1] _ rfl)) ?_
    have hD : zND ([(o, .inr (4, [za ya, za qa, zi ((th ||| 2 ^ (wn / 65536 % 13) : Nat) : Int), zi (fx : Int), zi (d : Int), zi (wn : Int)])), (ya, .inl (0, 13, .inl (va_up Y (wn / 65536 % 13) (((wn / 65536 / 16 % 199 : Nat) : Int) - 99))))]) := hD
    exact Zn.vret (by decide +kernel) rfl (⟨rfl, by first | rw [turnT_pos hwn (by omega), turnY_pos hwn (by omega), ← hwn] | rw [turnT_neg hwn (by omega) (by omega), turnY_neg hwn (by omega) (by omega), ← hwn]⟩)
  · have c_3 : ¬ ((bt th (wn / 65536 % 13) : Int) ≠ 0) := c_3
    refine Zn.seg (pc2 := 40) (ls2 := [some (za o), some (zi ((wn / 65536 : Nat) : Int)), some (zi ((wn / 65536 % 13 : Nat) : Int))]) (st2 := [za o]) [(39, .aload_n 0)] (by decide +kernel) rfl ?_
    refine Zn.call (ins := .invokevirtual 56) [za o] [] (by decide +kernel) rfl rfl rfl ⟨rfl, rfl⟩ ⟨rfl, rfl, rfl⟩ rfl (zrecvV hD (p := 0) rfl rfl rfl) (sp_X4_howMany (o := o) (ya := ya) (qa := qa) (th := th) (fx := fx) (d := d) (w := wn) (zov_get hD 0 rfl) (by first | assumption | omega)) (fun v h2 hp => ?_)
    obtain ⟨rfl, hq_5⟩ := hp
    refine Zn.eq (pc2 := 43) (ls2 := [some (za o), some (zi ((wn / 65536 : Nat) : Int)), some (zi ((wn / 65536 % 13 : Nat) : Int))]) (st2 := [zi (pop th : Int)]) (h2 := zov ([(o, .inr (4, [za ya, za qa, zi (th : Int), zi (fx : Int), zi (d : Int), zi (wn : Int)])), (ya, .inl (0, 13, .inl Y))]) h) rfl rfl rfl hq_5 ?_
    have hD : zND ([(o, .inr (4, [za ya, za qa, zi (th : Int), zi (fx : Int), zi (d : Int), zi (wn : Int)])), (ya, .inl (0, 13, .inl Y))]) := hD
    have q_6 := pop_le th
    refine Zn.seg (pc2 := 45) (ls2 := [some (za o), some (zi ((wn / 65536 : Nat) : Int)), some (zi ((wn / 65536 % 13 : Nat) : Int))]) (st2 := [zi 8, zi (pop th : Int)]) [(43, .bipush 8)] (by decide +kernel) rfl ?_
    refine Zn.icmp (c := .ge) (off := 19) 64 (by decide +kernel) rfl ⟨by omega, by omega⟩ ⟨by decide, by decide⟩ (fun c_7 => ?_) (fun c_7 => ?_)
    · have c_7 : 8 ≤ (pop th : Int) := c_7
      exact Zn.vret (by decide +kernel) rfl (⟨rfl, by first | rw [turnT_pos hwn (by omega), turnY_pos hwn (by omega), ← hwn] | rw [turnT_neg hwn (by omega) (by omega), turnY_neg hwn (by omega) (by omega), ← hwn]⟩)
    · have c_7 : ¬ (8 ≤ (pop th : Int)) := c_7
      refine Zn.seg (pc2 := 53) (ls2 := [some (za o), some (zi ((wn / 65536 : Nat) : Int)), some (zi ((wn / 65536 % 13 : Nat) : Int))]) (st2 := [zi 16, zi ((wn / 65536 : Nat) : Int), zi ((wn / 65536 % 13 : Nat) : Int), za o]) [(48, .aload_n 0), (49, .iload_n 2), (50, .iload_n 1), (51, .bipush 16)] (by decide +kernel) rfl ?_
      refine Zn.idiv (by decide +kernel) ⟨by omega, by omega⟩ ⟨by decide, by decide⟩ (by omega) ?_
      refine Zn.topi (y := ((wn / 65536 / 16 : Nat) : Int)) (ntd 16 (by omega)) ?_
      refine Zn.seg (pc2 := 57) (ls2 := [some (za o), some (zi ((wn / 65536 : Nat) : Int)), some (zi ((wn / 65536 % 13 : Nat) : Int))]) (st2 := [zi 199, zi ((wn / 65536 / 16 : Nat) : Int), zi ((wn / 65536 % 13 : Nat) : Int), za o]) [(54, .sipush 199)] (by decide +kernel) rfl ?_
      refine Zn.irem (by decide +kernel) ⟨by omega, by omega⟩ ⟨by decide, by decide⟩ (by omega) ?_
      refine Zn.topi (y := ((wn / 65536 / 16 % 199 : Nat) : Int)) (ntm 199 (by omega)) ?_
      refine Zn.seg (pc2 := 61) (ls2 := [some (za o), some (zi ((wn / 65536 : Nat) : Int)), some (zi ((wn / 65536 % 13 : Nat) : Int))]) (st2 := [zi (((wn / 65536 / 16 % 199 : Nat) : Int) - 99), zi ((wn / 65536 % 13 : Nat) : Int), za o]) [(58, .bipush 99), (60, .isub)] (by decide +kernel) rfl ?_
      refine Zn.call (ins := .invokevirtual 60) [za o, zi ((wn / 65536 % 13 : Nat) : Int), zi (((wn / 65536 / 16 % 199 : Nat) : Int) - 99)] [] (by decide +kernel) rfl rfl rfl ⟨rfl, rfl⟩ ⟨rfl, rfl, rfl⟩ rfl (zrecvV hD (p := 0) rfl rfl rfl) (sp_X4_put (o := o) (ya := ya) (qa := qa) (th := th) (fx := fx) (d := d) (w := wn) (p := wn / 65536 % 13) (Y := Y) (x := ((wn / 65536 / 16 % 199 : Nat) : Int) - 99) (zov_get hD 0 rfl) (zov_get hD 1 rfl) (nd_sub hD [0, 1] rfl rfl) (by first | assumption | omega) (by first | assumption | omega)) (fun v h2 hp => ?_)
      obtain ⟨rfl, hq_8⟩ := hp
      refine Zn.eq (pc2 := 64) (ls2 := [some (za o), some (zi ((wn / 65536 : Nat) : Int)), some (zi ((wn / 65536 % 13 : Nat) : Int))]) (st2 := []) (h2 := zov ([(o, .inr (4, [za ya, za qa, zi ((th ||| 2 ^ (wn / 65536 % 13) : Nat) : Int), zi (fx : Int), zi (d : Int), zi (wn : Int)])), (ya, .inl (0, 13, .inl (va_up Y (wn / 65536 % 13) (((wn / 65536 / 16 % 199 : Nat) : Int) - 99))))]) h) rfl rfl rfl (hq_8.trans (zov_put hD [0, 1] _ rfl)) ?_
      have hD : zND ([(o, .inr (4, [za ya, za qa, zi ((th ||| 2 ^ (wn / 65536 % 13) : Nat) : Int), zi (fx : Int), zi (d : Int), zi (wn : Int)])), (ya, .inl (0, 13, .inl (va_up Y (wn / 65536 % 13) (((wn / 65536 / 16 % 199 : Nat) : Int) - 99))))]) := hD
      exact Zn.vret (by decide +kernel) rfl (⟨rfl, by first | rw [turnT_pos hwn (by omega), turnY_pos hwn (by omega), ← hwn] | rw [turnT_neg hwn (by omega) (by omega), turnY_neg hwn (by omega) (by omega), ← hwn]⟩)
theorem sp_X4_take {h : xH} {o ya qa th fx d w o2 ya2 qa2 th2 fx2 d2 w2 : Nat} {Y qf Y2 qf2 : Nat → Int} (hc0 : h o = zcE (.inr (4, [za ya, za qa, zi (th : Int), zi (fx : Int), zi (d : Int), zi (w : Int)]))) (hc1 : h ya = zcE (.inl (0, 13, .inl Y))) (hc2 : h qa = zcE (.inl (0, 3, .inl qf))) (hc3 : h o2 = zcE (.inr (4, [za ya2, za qa2, zi (th2 : Int), zi (fx2 : Int), zi (d2 : Int), zi (w2 : Int)]))) (hc4 : h ya2 = zcE (.inl (0, 13, .inl Y2))) (hc5 : h qa2 = zcE (.inl (0, 3, .inl qf2))) (hD : [o, ya, qa, o2, ya2, qa2].Nodup) : zEv k_X4_take [za o, za o2] h (fun v h2 => v = none ∧ h2 = zov [(o, .inr (4, [za ya, za qa, zi (th2 : Int), zi (fx2 : Int), zi (d2 : Int), zi (w2 : Int)])), (ya, .inl (0, 13, .inl (va_cpy Y2 Y 0 0 13))), (qa, .inl (0, 3, .inl (va_cpy qf2 qf 0 0 3))), (o2, .inr (4, [za ya2, za qa2, zi (th2 : Int), zi (fx2 : Int), zi (d2 : Int), zi (w2 : Int)])), (ya2, .inl (0, 13, .inl Y2)), (qa2, .inl (0, 3, .inl qf2))] h) := by
  have hh : h = zov [(o, .inr (4, [za ya, za qa, zi (th : Int), zi (fx : Int), zi (d : Int), zi (w : Int)])), (ya, .inl (0, 13, .inl Y)), (qa, .inl (0, 3, .inl qf)), (o2, .inr (4, [za ya2, za qa2, zi (th2 : Int), zi (fx2 : Int), zi (d2 : Int), zi (w2 : Int)])), (ya2, .inl (0, 13, .inl Y2)), (qa2, .inl (0, 3, .inl qf2))] h := zov_self (List.forall_mem_cons.mpr ⟨hc0, List.forall_mem_cons.mpr ⟨hc1, List.forall_mem_cons.mpr ⟨hc2, List.forall_mem_cons.mpr ⟨hc3, List.forall_mem_cons.mpr ⟨hc4, List.forall_mem_cons.mpr ⟨hc5, fun _ q => absurd q List.not_mem_nil⟩⟩⟩⟩⟩⟩)
  refine zEv.body (I := (4, xI_X4_take, 2, 1, 26, 0, 0, false)) (rt := none) [some (za o), some (za o2)] rfl rfl rfl rfl ?_
  refine Zn.eq rfl rfl rfl hh ?_
  have hD : zND ([(o, .inr (4, [za ya, za qa, zi (th : Int), zi (fx : Int), zi (d : Int), zi (w : Int)])), (ya, .inl (0, 13, .inl Y)), (qa, .inl (0, 3, .inl qf)), (o2, .inr (4, [za ya2, za qa2, zi (th2 : Int), zi (fx2 : Int), zi (d2 : Int), zi (w2 : Int)])), (ya2, .inl (0, 13, .inl Y2)), (qa2, .inl (0, 3, .inl qf2))]) := hD
  refine Zn.seg (pc2 := 1) (ls2 := [some (za o), some (za o2)]) (st2 := [za o2]) [(0, .aload_n 1)] (by decide +kernel) rfl ?_
  refine Zn.get (ix := 9) hD 3 (by decide +kernel) rfl rfl rfl ?_
  refine Zn.seg (pc2 := 6) (ls2 := [some (za o), some (za o2)]) (st2 := [za o, zi 0, za ya2]) [(4, .iconst 0), (5, .aload_n 0)] (by decide +kernel) rfl ?_
  refine Zn.get (ix := 9) hD 0 (by decide +kernel) rfl rfl rfl ?_
  refine Zn.seg (pc2 := 12) (ls2 := [some (za o), some (za o2)]) (st2 := [zi 13, zi 0, za ya, zi 0, za ya2]) [(9, .iconst 0), (10, .bipush 13)] (by decide +kernel) rfl ?_
  refine Zn.acopyI (ins := .invokestatic 31) hD 4 1 (0) (0) (13) (by decide +kernel) rfl rfl rfl (rfl) (rfl) (rfl) (by omega) (by omega) ⟨by decide, by decide⟩ rfl ?_
  refine Zn.eq (h2 := zov ([(o, .inr (4, [za ya, za qa, zi (th : Int), zi (fx : Int), zi (d : Int), zi (w : Int)])), (ya, .inl (0, 13, .inl (va_cpy Y2 Y 0 0 13))), (qa, .inl (0, 3, .inl qf)), (o2, .inr (4, [za ya2, za qa2, zi (th2 : Int), zi (fx2 : Int), zi (d2 : Int), zi (w2 : Int)])), (ya2, .inl (0, 13, .inl Y2)), (qa2, .inl (0, 3, .inl qf2))]) h) rfl rfl rfl rfl ?_
  have hD : zND ([(o, .inr (4, [za ya, za qa, zi (th : Int), zi (fx : Int), zi (d : Int), zi (w : Int)])), (ya, .inl (0, 13, .inl (va_cpy Y2 Y 0 0 13))), (qa, .inl (0, 3, .inl qf)), (o2, .inr (4, [za ya2, za qa2, zi (th2 : Int), zi (fx2 : Int), zi (d2 : Int), zi (w2 : Int)])), (ya2, .inl (0, 13, .inl Y2)), (qa2, .inl (0, 3, .inl qf2))]) := hD
  refine Zn.seg (pc2 := 16) (ls2 := [some (za o), some (za o2)]) (st2 := [za o2]) [(15, .aload_n 1)] (by decide +kernel) rfl ?_
  refine Zn.get (ix := 15) hD 3 (by decide +kernel) rfl rfl rfl ?_
  refine Zn.seg (pc2 := 21) (ls2 := [some (za o), some (za o2)]) (st2 := [za o, zi 0, za qa2]) [(19, .iconst 0), (20, .aload_n 0)] (by decide +kernel) rfl ?_
  refine Zn.get (ix := 15) hD 0 (by decide +kernel) rfl rfl rfl ?_
  refine Zn.seg (pc2 := 26) (ls2 := [some (za o), some (za o2)]) (st2 := [zi 3, zi 0, za qa, zi 0, za qa2]) [(24, .iconst 0), (25, .iconst 3)] (by decide +kernel) rfl ?_
  refine Zn.acopyI (ins := .invokestatic 31) hD 5 2 (0) (0) (3) (by decide +kernel) rfl rfl rfl (rfl) (rfl) (rfl) (by omega) (by omega) ⟨by decide, by decide⟩ rfl ?_
  refine Zn.eq (h2 := zov ([(o, .inr (4, [za ya, za qa, zi (th : Int), zi (fx : Int), zi (d : Int), zi (w : Int)])), (ya, .inl (0, 13, .inl (va_cpy Y2 Y 0 0 13))), (qa, .inl (0, 3, .inl (va_cpy qf2 qf 0 0 3))), (o2, .inr (4, [za ya2, za qa2, zi (th2 : Int), zi (fx2 : Int), zi (d2 : Int), zi (w2 : Int)])), (ya2, .inl (0, 13, .inl Y2)), (qa2, .inl (0, 3, .inl qf2))]) h) rfl rfl rfl rfl ?_
  have hD : zND ([(o, .inr (4, [za ya, za qa, zi (th : Int), zi (fx : Int), zi (d : Int), zi (w : Int)])), (ya, .inl (0, 13, .inl (va_cpy Y2 Y 0 0 13))), (qa, .inl (0, 3, .inl (va_cpy qf2 qf 0 0 3))), (o2, .inr (4, [za ya2, za qa2, zi (th2 : Int), zi (fx2 : Int), zi (d2 : Int), zi (w2 : Int)])), (ya2, .inl (0, 13, .inl Y2)), (qa2, .inl (0, 3, .inl qf2))]) := hD
  refine Zn.seg (pc2 := 31) (ls2 := [some (za o), some (za o2)]) (st2 := [za o2, za o]) [(29, .aload_n 0), (30, .aload_n 1)] (by decide +kernel) rfl ?_
  refine Zn.get (ix := 18) hD 3 (by decide +kernel) rfl rfl rfl ?_
  refine Zn.put (ix := 18) hD 0 (by decide +kernel) rfl rfl rfl rfl rfl ?_
  refine Zn.eq (h2 := zov ([(o, .inr (4, [za ya, za qa, zi (th2 : Int), zi (fx : Int), zi (d : Int), zi (w : Int)])), (ya, .inl (0, 13, .inl (va_cpy Y2 Y 0 0 13))), (qa, .inl (0, 3, .inl (va_cpy qf2 qf 0 0 3))), (o2, .inr (4, [za ya2, za qa2, zi (th2 : Int), zi (fx2 : Int), zi (d2 : Int), zi (w2 : Int)])), (ya2, .inl (0, 13, .inl Y2)), (qa2, .inl (0, 3, .inl qf2))]) h) rfl rfl rfl rfl ?_
  have hD : zND ([(o, .inr (4, [za ya, za qa, zi (th2 : Int), zi (fx : Int), zi (d : Int), zi (w : Int)])), (ya, .inl (0, 13, .inl (va_cpy Y2 Y 0 0 13))), (qa, .inl (0, 3, .inl (va_cpy qf2 qf 0 0 3))), (o2, .inr (4, [za ya2, za qa2, zi (th2 : Int), zi (fx2 : Int), zi (d2 : Int), zi (w2 : Int)])), (ya2, .inl (0, 13, .inl Y2)), (qa2, .inl (0, 3, .inl qf2))]) := hD
  refine Zn.seg (pc2 := 39) (ls2 := [some (za o), some (za o2)]) (st2 := [za o2, za o]) [(37, .aload_n 0), (38, .aload_n 1)] (by decide +kernel) rfl ?_
  refine Zn.get (ix := 22) hD 3 (by decide +kernel) rfl rfl rfl ?_
  refine Zn.put (ix := 22) hD 0 (by decide +kernel) rfl rfl rfl rfl rfl ?_
  refine Zn.eq (h2 := zov ([(o, .inr (4, [za ya, za qa, zi (th2 : Int), zi (fx2 : Int), zi (d : Int), zi (w : Int)])), (ya, .inl (0, 13, .inl (va_cpy Y2 Y 0 0 13))), (qa, .inl (0, 3, .inl (va_cpy qf2 qf 0 0 3))), (o2, .inr (4, [za ya2, za qa2, zi (th2 : Int), zi (fx2 : Int), zi (d2 : Int), zi (w2 : Int)])), (ya2, .inl (0, 13, .inl Y2)), (qa2, .inl (0, 3, .inl qf2))]) h) rfl rfl rfl rfl ?_
  have hD : zND ([(o, .inr (4, [za ya, za qa, zi (th2 : Int), zi (fx2 : Int), zi (d : Int), zi (w : Int)])), (ya, .inl (0, 13, .inl (va_cpy Y2 Y 0 0 13))), (qa, .inl (0, 3, .inl (va_cpy qf2 qf 0 0 3))), (o2, .inr (4, [za ya2, za qa2, zi (th2 : Int), zi (fx2 : Int), zi (d2 : Int), zi (w2 : Int)])), (ya2, .inl (0, 13, .inl Y2)), (qa2, .inl (0, 3, .inl qf2))]) := hD
  refine Zn.seg (pc2 := 47) (ls2 := [some (za o), some (za o2)]) (st2 := [za o2, za o]) [(45, .aload_n 0), (46, .aload_n 1)] (by decide +kernel) rfl ?_
  refine Zn.get (ix := 25) hD 3 (by decide +kernel) rfl rfl rfl ?_
  refine Zn.put (ix := 25) hD 0 (by decide +kernel) rfl rfl rfl rfl rfl ?_
  refine Zn.eq (h2 := zov ([(o, .inr (4, [za ya, za qa, zi (th2 : Int), zi (fx2 : Int), zi (d2 : Int), zi (w : Int)])), (ya, .inl (0, 13, .inl (va_cpy Y2 Y 0 0 13))), (qa, .inl (0, 3, .inl (va_cpy qf2 qf 0 0 3))), (o2, .inr (4, [za ya2, za qa2, zi (th2 : Int), zi (fx2 : Int), zi (d2 : Int), zi (w2 : Int)])), (ya2, .inl (0, 13, .inl Y2)), (qa2, .inl (0, 3, .inl qf2))]) h) rfl rfl rfl rfl ?_
  have hD : zND ([(o, .inr (4, [za ya, za qa, zi (th2 : Int), zi (fx2 : Int), zi (d2 : Int), zi (w : Int)])), (ya, .inl (0, 13, .inl (va_cpy Y2 Y 0 0 13))), (qa, .inl (0, 3, .inl (va_cpy qf2 qf 0 0 3))), (o2, .inr (4, [za ya2, za qa2, zi (th2 : Int), zi (fx2 : Int), zi (d2 : Int), zi (w2 : Int)])), (ya2, .inl (0, 13, .inl Y2)), (qa2, .inl (0, 3, .inl qf2))]) := hD
  refine Zn.seg (pc2 := 55) (ls2 := [some (za o), some (za o2)]) (st2 := [za o2, za o]) [(53, .aload_n 0), (54, .aload_n 1)] (by decide +kernel) rfl ?_
  refine Zn.get (ix := 28) hD 3 (by decide +kernel) rfl rfl rfl ?_
  refine Zn.put (ix := 28) hD 0 (by decide +kernel) rfl rfl rfl rfl rfl ?_
  refine Zn.eq (h2 := zov ([(o, .inr (4, [za ya, za qa, zi (th2 : Int), zi (fx2 : Int), zi (d2 : Int), zi (w2 : Int)])), (ya, .inl (0, 13, .inl (va_cpy Y2 Y 0 0 13))), (qa, .inl (0, 3, .inl (va_cpy qf2 qf 0 0 3))), (o2, .inr (4, [za ya2, za qa2, zi (th2 : Int), zi (fx2 : Int), zi (d2 : Int), zi (w2 : Int)])), (ya2, .inl (0, 13, .inl Y2)), (qa2, .inl (0, 3, .inl qf2))]) h) rfl rfl rfl rfl ?_
  have hD : zND ([(o, .inr (4, [za ya, za qa, zi (th2 : Int), zi (fx2 : Int), zi (d2 : Int), zi (w2 : Int)])), (ya, .inl (0, 13, .inl (va_cpy Y2 Y 0 0 13))), (qa, .inl (0, 3, .inl (va_cpy qf2 qf 0 0 3))), (o2, .inr (4, [za ya2, za qa2, zi (th2 : Int), zi (fx2 : Int), zi (d2 : Int), zi (w2 : Int)])), (ya2, .inl (0, 13, .inl Y2)), (qa2, .inl (0, 3, .inl qf2))]) := hD
  exact Zn.vret (by decide +kernel) rfl (⟨rfl, rfl⟩)
theorem sp_X4_clear {h : xH} {o ya qa th fx d w e : Nat} {qf : Nat → Int} (hc0 : h o = zcE (.inr (4, [za ya, za qa, zi (th : Int), zi (fx : Int), zi (d : Int), zi (w : Int)]))) (hc1 : h qa = zcE (.inl (0, 3, .inl qf))) (hD : [o, qa].Nodup) : zEv k_X4_clear [za o, zi (e : Int)] h (fun v h2 => v = none ∧ h2 = zov [(o, .inr (4, [za ya, za qa, zi 0, zi 0, zi (e : Int), zi (w : Int)])), (qa, .inl (0, 3, .inl (clrF qf 3)))] h) := by
  have hh : h = zov [(o, .inr (4, [za ya, za qa, zi (th : Int), zi (fx : Int), zi (d : Int), zi (w : Int)])), (qa, .inl (0, 3, .inl qf))] h := zov_self (List.forall_mem_cons.mpr ⟨hc0, List.forall_mem_cons.mpr ⟨hc1, fun _ q => absurd q List.not_mem_nil⟩⟩)
  refine zEv.body (I := (4, xI_X4_clear, 3, 0, 0, 0, 0, false)) (rt := none) [some (za o), some (zi (e : Int)), none] rfl rfl rfl rfl ?_
  refine Zn.eq rfl rfl rfl hh ?_
  have hD : zND ([(o, .inr (4, [za ya, za qa, zi (th : Int), zi (fx : Int), zi (d : Int), zi (w : Int)])), (qa, .inl (0, 3, .inl qf))]) := hD
  refine Zn.seg (pc2 := 2) (ls2 := [some (za o), some (zi (e : Int)), none]) (st2 := [zi 0, za o]) [(0, .aload_n 0), (1, .iconst 0)] (by decide +kernel) rfl ?_
  refine Zn.put (ix := 18) hD 0 (by decide +kernel) rfl rfl rfl rfl rfl ?_
  refine Zn.eq (h2 := zov ([(o, .inr (4, [za ya, za qa, zi 0, zi (fx : Int), zi (d : Int), zi (w : Int)])), (qa, .inl (0, 3, .inl qf))]) h) rfl rfl rfl rfl ?_
  have hD : zND ([(o, .inr (4, [za ya, za qa, zi 0, zi (fx : Int), zi (d : Int), zi (w : Int)])), (qa, .inl (0, 3, .inl qf))]) := hD
  refine Zn.seg (pc2 := 7) (ls2 := [some (za o), some (zi (e : Int)), none]) (st2 := [zi 0, za o]) [(5, .aload_n 0), (6, .iconst 0)] (by decide +kernel) rfl ?_
  refine Zn.put (ix := 22) hD 0 (by decide +kernel) rfl rfl rfl rfl rfl ?_
  refine Zn.eq (h2 := zov ([(o, .inr (4, [za ya, za qa, zi 0, zi 0, zi (d : Int), zi (w : Int)])), (qa, .inl (0, 3, .inl qf))]) h) rfl rfl rfl rfl ?_
  have hD : zND ([(o, .inr (4, [za ya, za qa, zi 0, zi 0, zi (d : Int), zi (w : Int)])), (qa, .inl (0, 3, .inl qf))]) := hD
  refine Zn.seg (pc2 := 12) (ls2 := [some (za o), some (zi (e : Int)), none]) (st2 := [zi (e : Int), za o]) [(10, .aload_n 0), (11, .iload_n 1)] (by decide +kernel) rfl ?_
  refine Zn.put (ix := 25) hD 0 (by decide +kernel) rfl rfl rfl rfl rfl ?_
  refine Zn.eq (h2 := zov ([(o, .inr (4, [za ya, za qa, zi 0, zi 0, zi (e : Int), zi (w : Int)])), (qa, .inl (0, 3, .inl qf))]) h) rfl rfl rfl rfl ?_
  have hD : zND ([(o, .inr (4, [za ya, za qa, zi 0, zi 0, zi (e : Int), zi (w : Int)])), (qa, .inl (0, 3, .inl qf))]) := hD
  refine Zn.seg (pc2 := 17) (ls2 := [some (za o), some (zi (e : Int)), some (zi 0)]) (st2 := []) [(15, .iconst 0), (16, .istore_n 2)] (by decide +kernel) rfl ?_
  refine Zn.eq (pc2 := 17) (ls2 := [some (za o), some (zi (e : Int)), some (zi (0 : Int))]) (st2 := []) (h2 := zov ([(o, .inr (4, [za ya, za qa, zi 0, zi 0, zi (e : Int), zi (w : Int)])), (qa, .inl (0, 3, .inl (clrF qf 0)))]) h) rfl (zcons rfl (zcons rfl (zcons (congrArg (fun z => some (zi z)) (by first | rfl | omega | simp)) rfl))) rfl (by rw [clrF_zero]) ?_
  have hD : zND ([(o, .inr (4, [za ya, za qa, zi 0, zi 0, zi (e : Int), zi (w : Int)])), (qa, .inl (0, 3, .inl (clrF qf 0)))]) := hD
  refine xloop (P := fun i_1 => Zn (4, xI_X4_clear, 3, 0, 0, 0, 0, false) none 17 [some (za o), some (zi (e : Int)), some (zi (i_1 : Int))] [] (zov ([(o, .inr (4, [za ya, za qa, zi 0, zi 0, zi (e : Int), zi (w : Int)])), (qa, .inl (0, 3, .inl (clrF qf i_1)))]) h) _) (3) (fun i_1 hi_2 ih_3 => ?_) ?_
  · have hi_2 : i_1 < 3 := hi_2
    refine Zn.seg (pc2 := 19) (ls2 := [some (za o), some (zi (e : Int)), some (zi (i_1 : Int))]) (st2 := [zi 3, zi (i_1 : Int)]) [(17, .iload_n 2), (18, .iconst 3)] (by decide +kernel) rfl ?_
    refine Zn.icmp (c := .ge) (off := 16) 35 (by decide +kernel) rfl ⟨by omega, by omega⟩ ⟨by decide, by decide⟩ (fun c_4 => absurd (show 3 ≤ (i_1 : Int) from c_4) (by omega)) (fun c_4 => ?_)
    have c_4 : ¬ (3 ≤ (i_1 : Int)) := c_4
    refine Zn.seg (pc2 := 23) (ls2 := [some (za o), some (zi (e : Int)), some (zi (i_1 : Int))]) (st2 := [za o]) [(22, .aload_n 0)] (by decide +kernel) rfl ?_
    refine Zn.get (ix := 15) hD 0 (by decide +kernel) rfl rfl rfl ?_
    refine Zn.seg (pc2 := 28) (ls2 := [some (za o), some (zi (e : Int)), some (zi (i_1 : Int))]) (st2 := [zi 0, zi (i_1 : Int), za qa]) [(26, .iload_n 2), (27, .iconst 0)] (by decide +kernel) rfl ?_
    refine Zn.iast hD 1 (i_1) (by decide +kernel) rfl (by omega) (by omega) rfl ?_
    refine Zn.eq (h2 := zov ([(o, .inr (4, [za ya, za qa, zi 0, zi 0, zi (e : Int), zi (w : Int)])), (qa, .inl (0, 3, .inl (va_up (clrF qf i_1) i_1 0)))]) h) rfl rfl rfl (rfl) ?_
    have hD : zND ([(o, .inr (4, [za ya, za qa, zi 0, zi 0, zi (e : Int), zi (w : Int)])), (qa, .inl (0, 3, .inl (va_up (clrF qf i_1) i_1 0)))]) := hD
    refine Zn.seg (pc2 := 17) (ls2 := [some (za o), some (zi (e : Int)), some (zi ((i_1 : Int) + 1))]) (st2 := []) [(29, .iinc 2 1), (32, .goto (-15))] (by decide +kernel) rfl ?_
    exact Zn.eq rfl (zcons rfl (zcons rfl (zcons (congrArg (fun z => some (zi z)) (by omega)) rfl))) rfl (by rw [clrF_step]) (ih_3)
  · skip
    refine Zn.seg (pc2 := 19) (ls2 := [some (za o), some (zi (e : Int)), some (zi (3 : Int))]) (st2 := [zi 3, zi (3 : Int)]) [(17, .iload_n 2), (18, .iconst 3)] (by decide +kernel) rfl ?_
    refine Zn.icmp (c := .ge) (off := 16) 35 (by decide +kernel) rfl ⟨by omega, by omega⟩ ⟨by decide, by decide⟩ (fun c_5 => ?_) (fun c_5 => absurd (show 3 ≤ (3 : Int) from by decide) c_5)
    have c_5 : 3 ≤ (3 : Int) := c_5
    exact Zn.vret (by decide +kernel) rfl (⟨rfl, rfl⟩)
