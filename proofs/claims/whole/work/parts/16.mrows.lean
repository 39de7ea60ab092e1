/-! the reference's object: its cells; its rows; small things over them -/
def LM (A : Nat → Nat) (m : Nat → Int) (r : Nat → Nat → Int) : zM := [(A 0, .inr (8, [za (A 1), zi (m 1), za (A 2), zi (m 3), za (A 3), zi (m 5), za (A 4), za (A 5), za (A 6), zi (m 9), zi (m 10), za (A 7), za (A 8), za (A 9), zi (m 14), za (A 10), za (A 11), za (A 12), za (A 13), zi (m 19), zj (m 20), zj (m 21), za (A 14), za (A 15), zj (m 24), zi (m 25), zj (m 26), zj (m 27), zi (m 28), zj (m 29), zj (m 30), zi (m 31), zi (m 32), zi (m 33), zj (m 34), zj (m 35), zi (m 36), za (A 16), za (A 17), za (A 18), za (A 19)])), (A 1, .inl (0, 217, .inl (r 1))), (A 2, .inl (0, 217, .inl (r 2))), (A 3, .inl (0, 90, .inl (r 3))), (A 4, .inl (0, 4, .inl (r 4))), (A 5, .inl (0, 4, .inl (r 5))), (A 6, .inl (1, 96, .inl (r 6))), (A 7, .inl (0, 3, .inl (r 7))), (A 8, .inl (0, 13, .inl (r 8))), (A 9, .inl (0, 13, .inl (r 9))), (A 10, .inl (0, 1, .inl (r 10))), (A 11, .inl (0, 8, .inl (r 11))), (A 12, .inl (0, 8, .inl (r 12))), (A 13, .inl (2, 8, .inl (r 13))), (A 14, .inl (0, 4, .inl (r 14))), (A 15, .inl (1, 4, .inl (r 15))), (A 16, .inl (1, 4, .inl (r 16))), (A 17, .inl (1, 4, .inl (r 17))), (A 18, .inl (0, 70, .inl (r 18))), (A 19, .inl (1, 24, .inl (r 19)))]
theorem zov_all {L : zM} {h : xH} (hD : zND L) : ∀ q ∈ L, zov L h q.1 = zcE q.2 := fun q hq => by
  obtain ⟨i, hi⟩ := List.getElem?_of_mem hq
  exact zov_get hD i hi
theorem zov_over2 {L1 L2 : zM} {h : xH} (hs : ∀ a, a ∈ L1.map Prod.fst → a ∈ L2.map Prod.fst) : zov L2 (zov L1 h) = zov L2 h := by
  funext a
  by_cases ha : a ∈ L2.map Prod.fst
  · have key : ∀ (L : zM) (g1 g2 : xH), a ∈ L.map Prod.fst → zov L g1 a = zov L g2 a := by
      intro L
      induction L with
      | nil => intro g1 g2 h; cases h
      | cons q l ih =>
        intro g1 g2 hm
        show va_up _ _ _ a = va_up _ _ _ a
        by_cases e : a = q.1
        · subst e
          rw [va_up_s, va_up_s]
        · rw [va_up_n e, va_up_n e]
          refine ih g1 g2 ?_
          simp only [List.map_cons, List.mem_cons] at hm
          exact hm.resolve_left e
    exact key L2 _ _ ha
  · rw [zov_out ha, zov_out ha, zov_out (fun q => ha (hs a q))]
theorem zov_over {L1 L2 : zM} {h : xH} (hs : L1.map Prod.fst = L2.map Prod.fst) : zov L2 (zov L1 h) = zov L2 h := zov_over2 (fun a ha => by rw [← hs]; exact ha)
theorem LM_over (A : Nat → Nat) (m m2 : Nat → Int) (r r2 : Nat → Nat → Int) (h : xH) : zov (LM A m2 r2) (zov (LM A m r) h) = zov (LM A m2 r2) h := zov_over rfl
theorem va_eta {α : Type} (f : Nat → α) (k : Nat) {v : α} (e : v = f k) : va_up f k v = f := by
  funext j
  simp only [va_up]
  split
  · rename_i h
    rw [h, e]
  · rfl
theorem LM_r1 (A : Nat → Nat) (m : Nat → Int) (r : Nat → Nat → Int) (k : Nat) {f : Nat → Int} (e : r k = f) : LM A m r = LM A m (va_up r k f) := by rw [va_eta r k e.symm]
theorem LM_m1 (A : Nat → Nat) (m : Nat → Int) (r : Nat → Nat → Int) (k : Nat) {f : Int} (e : m k = f) : LM A m r = LM A (va_up m k f) r := by rw [va_eta m k e.symm]
theorem zor0 (x : Int) : zI x ||| zI 0 = zI x := by
  apply Int32.toBitVec_inj.mp
  rw [Int32.toBitVec_or]
  show _ ||| 0#32 = _
  simp
theorem zshl1z {p : Nat} {z : Int} (hz : z = (p : Int)) (hp : p < 31) : zI 1 <<< (zI z &&& 31) = zI ((2 ^ p : Nat) : Int) := by rw [hz]; exact zshl1 hp
theorem zshrz {n p : Nat} {z : Int} (hn : n < 2147483648) (hz : z = (p : Int)) (hp : p < 32) : zI (n : Int) >>> (zI z &&& 31) = zI ((n / 2 ^ p : Nat) : Int) := by rw [hz]; exact zshr hn hp
/-- how many points of a kind, below a place -/
def manyN (R : Nat → Int) (k : Int) : Nat → Nat
  | 0 => 0
  | n + 1 => manyN R k n + (if 0 < R (n + 18) ∧ (k = 0 ∨ R (n + 18) = k) then 1 else 0)
theorem manyN_le (R : Nat → Int) (k : Int) : ∀ n, manyN R k n ≤ n
  | 0 => Nat.le_refl _
  | n + 1 => by
    have h := manyN_le R k n
    unfold manyN
    split <;> omega
theorem manyN_t {R : Nat → Int} {k : Int} {n : Nat} (h1 : 0 < R (n + 18)) (h2 : k = 0 ∨ R (n + 18) = k) : manyN R k (n + 1) = manyN R k n + 1 := by
  rw [manyN, if_pos ⟨h1, h2⟩]
theorem manyN_f {R : Nat → Int} {k : Int} {n : Nat} (h : ¬ (0 < R (n + 18) ∧ (k = 0 ∨ R (n + 18) = k))) : manyN R k (n + 1) = manyN R k n := by
  rw [manyN, if_neg h, Nat.add_zero]
def mpoleB (R : Nat → Int) : Nat → Bool := fun p => decide (0 < R (p + 18) ∧ qv (fun j => R (j + 1)) ((p : Int) - 6) = 0)
def kindB (R : Nat → Int) (k : Int) : Nat → Bool := fun p => decide (0 < R (p + 18) ∧ (k = 0 ∨ R (p + 18) = k))
/-- the row is copied behind u older ones, so far -/
def cpR (R : Nat → Int) (u k : Nat) : Nat → Int := fun j => if 31 + 31 * u ≤ j ∧ j < 31 + 31 * u + k then R (j - (31 + 31 * u)) else R j
theorem cpR_zero (R : Nat → Int) (u : Nat) : cpR R u 0 = R := by
  funext j
  unfold cpR
  rw [if_neg (by omega)]
theorem cpR_step {R : Nat → Int} {u k : Nat} (_h : u < 6) (hk : k < 31) : va_up (cpR R u k) (31 + 31 * u + k) (cpR R u k k) = cpR R u (k + 1) := by
  funext j
  simp only [va_up, cpR]
  by_cases h : j = 31 + 31 * u + k
  · subst h
    rw [if_pos rfl, if_neg (by omega), if_pos (by omega)]
    congr 1
    omega
  · rw [if_neg h]
    by_cases h2 : 31 + 31 * u ≤ j ∧ j < 31 + 31 * u + k
    · rw [if_pos h2, if_pos (by omega)]
    · rw [if_neg h2, if_neg (by omega)]
/-- the rows move down by one, so far -/
def shR (R : Nat → Int) (k : Nat) : Nat → Int := fun j => if 31 ≤ j ∧ j < 31 + k then R (j + 31) else R j
theorem shR_zero (R : Nat → Int) : shR R 0 = R := by
  funext j
  unfold shR
  rw [if_neg (by omega)]
theorem shR_step {R : Nat → Int} {k : Nat} : va_up (shR R k) (31 + k) (shR R k (62 + k)) = shR R (k + 1) := by
  funext j
  simp only [va_up, shR]
  by_cases h : j = 31 + k
  · subst h
    rw [if_pos rfl, if_neg (by omega), if_pos (by omega)]
    congr 1
    omega
  · rw [if_neg h]
    by_cases h2 : 31 ≤ j ∧ j < 31 + k
    · rw [if_pos h2, if_pos (by omega)]
    · rw [if_neg h2, if_neg (by omega)]
theorem sp_X8_in {h : xH} {x lo hi : Int} (h1 : zInL x) (h2 : zInL lo) (h3 : zInL hi) : zEv k_X8_in [zj x, zj lo, zj hi] h (fun v h2 => v = some (zi (inB lo hi x)) ∧ h2 = h) := by
  have hD : ([] : List Nat).Nodup := List.nodup_nil
  have hh : h = zov [] h := zov_self (fun _ q => absurd q List.not_mem_nil)
  have hin := inB_spec lo hi x
  have h1a := h1.1
  have h1b := h1.2
  have h2a := h2.1
  have h2b := h2.2
  have h3a := h3.1
  have h3b := h3.2
  refine zEv.body (I := (8, xI_X8_in, 6, 0, 0, 0, 0, false)) (rt := (some .boolean)) [some (zj x), none, some (zj lo), none, some (zj hi), none] rfl rfl rfl rfl ?_
  refine Zn.eq rfl rfl rfl hh ?_
  have hD : zND ([]) := hD
  refine Zn.seg (pc2 := 2) (ls2 := [some (zj x), none, some (zj lo), none, some (zj hi), none]) (st2 := [zj lo, zj x]) [(0, .lload_n 0), (1, .lload_n 2)] (by decide +kernel) rfl ?_
  refine Zn.lcmpif (c := .lt) (off := (14)) 17 (by decide +kernel) (by decide +kernel) rfl ⟨by omega, by omega⟩ ⟨by omega, by omega⟩ (fun c_1 => ?_) (fun c_1 => ?_)
  · have c_1 : x < lo := c_1
    refine Zn.seg (pc2 := 18) (ls2 := [some (zj x), none, some (zj lo), none, some (zj hi), none]) (st2 := [zi 0]) [(17, .iconst 0)] (by decide +kernel) rfl ?_
    exact Zn.bret (by decide +kernel) rfl (by first | decide | omega) (⟨by first | rfl | (refine congrArg some (congrArg zi ?_); first | omega | (simp_all; done) | (simp_all; omega)), hh.symm⟩)
  · have c_1 : ¬ (x < lo) := c_1
    refine Zn.seg (pc2 := 9) (ls2 := [some (zj x), none, some (zj lo), none, some (zj hi), none]) (st2 := [zj hi, zj x]) [(6, .lload_n 0), (7, .lload 4)] (by decide +kernel) rfl ?_
    refine Zn.lcmpif (c := .gt) (off := (7)) 17 (by decide +kernel) (by decide +kernel) rfl ⟨by omega, by omega⟩ ⟨by omega, by omega⟩ (fun c_2 => ?_) (fun c_2 => ?_)
    · have c_2 : hi < x := c_2
      refine Zn.seg (pc2 := 18) (ls2 := [some (zj x), none, some (zj lo), none, some (zj hi), none]) (st2 := [zi 0]) [(17, .iconst 0)] (by decide +kernel) rfl ?_
      exact Zn.bret (by decide +kernel) rfl (by first | decide | omega) (⟨by first | rfl | (refine congrArg some (congrArg zi ?_); first | omega | (simp_all; done) | (simp_all; omega)), hh.symm⟩)
    · have c_2 : ¬ (hi < x) := c_2
      refine Zn.seg (pc2 := 18) (ls2 := [some (zj x), none, some (zj lo), none, some (zj hi), none]) (st2 := [zi 1]) [(13, .iconst 1), (14, .goto 4)] (by decide +kernel) rfl ?_
      exact Zn.bret (by decide +kernel) rfl (by first | decide | omega) (⟨by first | rfl | (refine congrArg some (congrArg zi ?_); first | omega | (simp_all; done) | (simp_all; omega)), hh.symm⟩)
theorem sp_X8_isX {h : xH} {x : Int} (h1 : zInL x) : zEv k_X8_isX [zj x] h (fun v h2 => v = some (zi (inB (-6) 6 x)) ∧ h2 = h) := by
  have hD : ([] : List Nat).Nodup := List.nodup_nil
  have hh : h = zov [] h := zov_self (fun _ q => absurd q List.not_mem_nil)
  refine zEv.body (I := (8, xI_X8_isX, 2, 1, 25, 0, 0, false)) (rt := (some .boolean)) [some (zj x), none] rfl rfl rfl rfl ?_
  refine Zn.eq rfl rfl rfl hh ?_
  have hD : zND ([]) := hD
  refine Zn.seg (pc2 := 7) (ls2 := [some (zj x), none]) (st2 := [zj 6, zj (-6), zj x]) [(0, .lload_n 0), (1, .ldc2_w 73), (4, .ldc2_w 75)] (by decide +kernel) rfl ?_
  refine Zn.call (ins := .invokestatic 77) [zj x, zj (-6), zj 6] [] (by decide +kernel) rfl rfl rfl ⟨rfl, rfl⟩ ⟨rfl, rfl, rfl⟩ rfl (zrecvS (by decide)) (sp_X8_in (x := x) (lo := (-6)) (hi := 6) (h1) (⟨by decide, by decide⟩) (⟨by decide, by decide⟩)) (fun v h2 hp => ?_)
  obtain ⟨rfl, hq_1⟩ := hp
  refine Zn.eq (pc2 := 10) (ls2 := [some (zj x), none]) (st2 := [zi (inB (-6) 6 x)]) (h2 := zov ([]) h) rfl rfl rfl hq_1 ?_
  have hD : zND ([]) := hD
  have q_2 := inB_spec (-6) 6 x
  exact Zn.bret (by decide +kernel) rfl (by first | decide | omega) (⟨by first | rfl | (refine congrArg some (congrArg zi ?_); first | omega | (simp_all; done) | (simp_all; omega)), hh.symm⟩)
theorem sp_X8_kind {h : xH} {A : Nat → Nat} {m : Nat → Int} {r : Nat → Nat → Int} {x : Int} {p : Nat} (hL : ∀ q ∈ LM A m r, h q.1 = zcE q.2) (hD : zND (LM A m r)) (hx : x = (p : Int) - 6) (hp : p < 13) : zEv k_X8_kind [za (A 0), zi x] h (fun v h2 => v = some (zi (r 1 (p + 18))) ∧ h2 = h) := by
  have hh : h = zov (LM A m r) h := zov_self hL
  refine zEv.body (I := (8, xI_X8_kind, 2, 0, 0, 0, 0, false)) (rt := (some .int)) [some (za (A 0)), some (zi x)] rfl rfl rfl rfl ?_
  refine Zn.eq rfl rfl rfl hh ?_
  have hD : zND (LM A m r) := hD
  refine Zn.seg (pc2 := 1) (ls2 := [some (za (A 0)), some (zi x)]) (st2 := [za (A 0)]) [(0, .aload_n 0)] (by decide +kernel) rfl ?_
  refine Zn.get (ix := 7) hD 0 (by decide +kernel) rfl rfl rfl ?_
  refine Zn.seg (pc2 := 11) (ls2 := [some (za (A 0)), some (zi x)]) (st2 := [zi (18 + x + 6), za (A 1)]) [(4, .bipush 18), (6, .iload_n 1), (7, .iadd), (8, .bipush 6), (10, .iadd)] (by decide +kernel) rfl ?_
  refine Zn.iald hD 1 (p + 18) (by decide +kernel) rfl (by omega) (by omega) rfl ?_
  exact Zn.iret (by decide +kernel) rfl (⟨by first | rfl | (refine congrArg some (congrArg zi ?_); first | omega | (simp_all; done) | (simp_all; omega)), hh.symm⟩)
theorem sp_X8_y {h : xH} {A : Nat → Nat} {m : Nat → Int} {r : Nat → Nat → Int} {x : Int} {p : Nat} (hL : ∀ q ∈ LM A m r, h q.1 = zcE q.2) (hD : zND (LM A m r)) (hx : x = (p : Int) - 6) (hp : p < 13) : zEv k_X8_y [za (A 0), zi x] h (fun v h2 => v = some (zi (r 1 (p + 5))) ∧ h2 = h) := by
  have hh : h = zov (LM A m r) h := zov_self hL
  refine zEv.body (I := (8, xI_X8_y, 2, 0, 0, 0, 0, false)) (rt := (some .int)) [some (za (A 0)), some (zi x)] rfl rfl rfl rfl ?_
  refine Zn.eq rfl rfl rfl hh ?_
  have hD : zND (LM A m r) := hD
  refine Zn.seg (pc2 := 1) (ls2 := [some (za (A 0)), some (zi x)]) (st2 := [za (A 0)]) [(0, .aload_n 0)] (by decide +kernel) rfl ?_
  refine Zn.get (ix := 7) hD 0 (by decide +kernel) rfl rfl rfl ?_
  refine Zn.seg (pc2 := 10) (ls2 := [some (za (A 0)), some (zi x)]) (st2 := [zi (5 + x + 6), za (A 1)]) [(4, .iconst 5), (5, .iload_n 1), (6, .iadd), (7, .bipush 6), (9, .iadd)] (by decide +kernel) rfl ?_
  refine Zn.iald hD 1 (p + 5) (by decide +kernel) rfl (by omega) (by omega) rfl ?_
  exact Zn.iret (by decide +kernel) rfl (⟨by first | rfl | (refine congrArg some (congrArg zi ?_); first | omega | (simp_all; done) | (simp_all; omega)), hh.symm⟩)
theorem sp_X8_beneath {h : xH} {A : Nat → Nat} {m : Nat → Int} {r : Nat → Nat → Int} {x : Int} (hL : ∀ q ∈ LM A m r, h q.1 = zcE q.2) (hD : zND (LM A m r)) : zEv k_X8_beneath [za (A 0), zi x] h (fun v h2 => v = some (zi (qv (fun j => r 1 (j + 1)) x)) ∧ h2 = h) := by
  have hh : h = zov (LM A m r) h := zov_self hL
  refine zEv.body (I := (8, xI_X8_beneath, 2, 0, 0, 0, 0, false)) (rt := (some .int)) [some (za (A 0)), some (zi x)] rfl rfl rfl rfl ?_
  refine Zn.eq rfl rfl rfl hh ?_
  have hD : zND (LM A m r) := hD
  refine Zn.seg (pc2 := 1) (ls2 := [some (za (A 0)), some (zi x)]) (st2 := [za (A 0)]) [(0, .aload_n 0)] (by decide +kernel) rfl ?_
  refine Zn.get (ix := 7) hD 0 (by decide +kernel) rfl rfl rfl ?_
  refine Zn.seg (pc2 := 5) (ls2 := [some (za (A 0)), some (zi x)]) (st2 := [zi 1, za (A 1)]) [(4, .iconst 1)] (by decide +kernel) rfl ?_
  refine Zn.iald hD 1 (1) (by decide +kernel) rfl (rfl) (by decide) rfl ?_
  refine Zn.seg (pc2 := 7) (ls2 := [some (za (A 0)), some (zi x)]) (st2 := [za (A 0), zi ((r 1) 1)]) [(6, .aload_n 0)] (by decide +kernel) rfl ?_
  refine Zn.get (ix := 7) hD 0 (by decide +kernel) rfl rfl rfl ?_
  refine Zn.seg (pc2 := 11) (ls2 := [some (za (A 0)), some (zi x)]) (st2 := [zi 2, za (A 1), zi ((r 1) 1)]) [(10, .iconst 2)] (by decide +kernel) rfl ?_
  refine Zn.iald hD 1 (2) (by decide +kernel) rfl (rfl) (by decide) rfl ?_
  refine Zn.seg (pc2 := 16) (ls2 := [some (za (A 0)), some (zi x)]) (st2 := [za (A 0), zi ((r 1) 1 + (((r 1) 2) * x))]) [(12, .iload_n 1), (13, .imul), (14, .iadd), (15, .aload_n 0)] (by decide +kernel) rfl ?_
  refine Zn.get (ix := 7) hD 0 (by decide +kernel) rfl rfl rfl ?_
  refine Zn.seg (pc2 := 20) (ls2 := [some (za (A 0)), some (zi x)]) (st2 := [zi 3, za (A 1), zi ((r 1) 1 + (((r 1) 2) * x))]) [(19, .iconst 3)] (by decide +kernel) rfl ?_
  refine Zn.iald hD 1 (3) (by decide +kernel) rfl (rfl) (by decide) rfl ?_
  refine Zn.seg (pc2 := 26) (ls2 := [some (za (A 0)), some (zi x)]) (st2 := [zi ((r 1) 1 + (((r 1) 2) * x) + ((((r 1) 3) * x) * x))]) [(21, .iload_n 1), (22, .imul), (23, .iload_n 1), (24, .imul), (25, .iadd)] (by decide +kernel) rfl ?_
  exact Zn.iret (by decide +kernel) rfl (⟨by first | rfl | (refine congrArg some (congrArg zi ?_); first | omega | (simp_all; done) | (simp_all; omega)), hh.symm⟩)
theorem sp_X8_many {h : xH} {A : Nat → Nat} {m : Nat → Int} {r : Nat → Nat → Int} {k : Int} (hL : ∀ q ∈ LM A m r, h q.1 = zcE q.2) (hD : zND (LM A m r)) (hk : ∀ p, p < 13 → 0 ≤ r 1 (p + 18) ∧ r 1 (p + 18) ≤ 2) (hkk : 0 ≤ k ∧ k ≤ 2) : zEv k_X8_many [za (A 0), zi k] h (fun v h2 => v = some (zi (manyN (r 1) k 13 : Int)) ∧ h2 = h) := by
  have hh : h = zov (LM A m r) h := zov_self hL
  refine zEv.body (I := (8, xI_X8_many, 4, 1, 21, 0, 0, false)) (rt := (some .int)) [some (za (A 0)), some (zi k), none, none] rfl rfl rfl rfl ?_
  refine Zn.eq rfl rfl rfl hh ?_
  have hD : zND (LM A m r) := hD
  refine Zn.seg (pc2 := 5) (ls2 := [some (za (A 0)), some (zi k), some (zi 0), some (zi (-6))]) (st2 := []) [(0, .iconst 0), (1, .istore_n 2), (2, .bipush (-6)), (4, .istore_n 3)] (by decide +kernel) rfl ?_
  refine Zn.eq (pc2 := 5) (ls2 := [some (za (A 0)), some (zi k), some (zi (manyN (r 1) k 0 : Int)), some (zi ((0 : Int) - 6))]) (st2 := []) (h2 := zov (LM A m r) h) rfl (zcons rfl (zcons rfl (zcons (congrArg (fun z => some (zi z)) (by first | rfl | omega | simp)) (zcons (congrArg (fun z => some (zi z)) (by first | rfl | omega | simp)) rfl)))) rfl (rfl) ?_
  have hD : zND (LM A m r) := hD
  refine xloop (P := fun i_1 => Zn (8, xI_X8_many, 4, 1, 21, 0, 0, false) (some .int) 5 [some (za (A 0)), some (zi k), some (zi (manyN (r 1) k i_1 : Int)), some (zi ((i_1 : Int) - 6))] [] (zov (LM A m r) h) _) (13) (fun i_1 hi_2 ih_3 => ?_) ?_
  · have hi_2 : i_1 < 13 := hi_2
    have hki := hk i_1 (by omega)
    have hmi := manyN_le (r 1) k i_1
    refine Zn.seg (pc2 := 8) (ls2 := [some (za (A 0)), some (zi k), some (zi (manyN (r 1) k i_1 : Int)), some (zi ((i_1 : Int) - 6))]) (st2 := [zi 7, zi ((i_1 : Int) - 6)]) [(5, .iload_n 3), (6, .bipush 7)] (by decide +kernel) rfl ?_
    refine Zn.icmp (c := .ge) (off := 38) 46 (by decide +kernel) rfl ⟨by omega, by omega⟩ ⟨by decide, by decide⟩ (fun c_4 => absurd (show 7 ≤ (i_1 : Int) - 6 from c_4) (by omega)) (fun c_4 => ?_)
    have c_4 : ¬ (7 ≤ (i_1 : Int) - 6) := c_4
    refine Zn.seg (pc2 := 14) (ls2 := [some (za (A 0)), some (zi k), some (zi (manyN (r 1) k i_1 : Int)), some (zi ((i_1 : Int) - 6))]) (st2 := [zi ((i_1 : Int) - 6), za (A 0), zi (manyN (r 1) k i_1 : Int)]) [(11, .iload_n 2), (12, .aload_n 0), (13, .iload_n 3)] (by decide +kernel) rfl ?_
    refine Zn.call (ins := .invokevirtual 81) [za (A 0), zi ((i_1 : Int) - 6)] [zi (manyN (r 1) k i_1 : Int)] (by decide +kernel) rfl rfl rfl ⟨rfl, rfl⟩ ⟨rfl, rfl, rfl⟩ rfl (zrecvV hD (p := 0) rfl rfl rfl) (sp_X8_kind (A := A) (m := m) (r := r) (x := (i_1 : Int) - 6) (p := i_1) (zov_all hD) hD (by first | assumption | omega) (by first | assumption | omega)) (fun v h2 hp => ?_)
    obtain ⟨rfl, hq_5⟩ := hp
    refine Zn.eq (pc2 := 17) (ls2 := [some (za (A 0)), some (zi k), some (zi (manyN (r 1) k i_1 : Int)), some (zi ((i_1 : Int) - 6))]) (st2 := [zi (r 1 (i_1 + 18)), zi (manyN (r 1) k i_1 : Int)]) (h2 := zov (LM A m r) h) rfl rfl rfl hq_5 ?_
    have hD : zND (LM A m r) := hD
    refine Zn.ifc (c := .le) (off := 20) 37 (by decide +kernel) rfl ⟨by omega, by omega⟩ (fun c_6 => ?_) (fun c_6 => ?_)
    · have c_6 : r 1 (i_1 + 18) ≤ 0 := c_6
      refine Zn.seg (pc2 := 5) (ls2 := [some (za (A 0)), some (zi k), some (zi ((manyN (r 1) k i_1 : Int) + 0)), some (zi ((i_1 : Int) - 6 + 1))]) (st2 := []) [(37, .iconst 0), (38, .iadd), (39, .istore_n 2), (40, .iinc 3 1), (43, .goto (-38))] (by decide +kernel) rfl ?_
      exact Zn.eq rfl (zcons rfl (zcons rfl (zcons (congrArg (fun z => some (zi z)) (by first | rw [manyN_t (by omega) (by omega)]; omega | rw [manyN_f (by omega)]; omega)) (zcons (congrArg (fun z => some (zi z)) (by omega)) rfl)))) rfl (rfl) (ih_3)
    · have c_6 : ¬ (r 1 (i_1 + 18) ≤ 0) := c_6
      refine Zn.seg (pc2 := 21) (ls2 := [some (za (A 0)), some (zi k), some (zi (manyN (r 1) k i_1 : Int)), some (zi ((i_1 : Int) - 6))]) (st2 := [zi k, zi (manyN (r 1) k i_1 : Int)]) [(20, .iload_n 1)] (by decide +kernel) rfl ?_
      refine Zn.ifc (c := .eq) (off := 12) 33 (by decide +kernel) rfl ⟨by omega, by omega⟩ (fun c_7 => ?_) (fun c_7 => ?_)
      · have c_7 : k = 0 := c_7
        refine Zn.seg (pc2 := 5) (ls2 := [some (za (A 0)), some (zi k), some (zi ((manyN (r 1) k i_1 : Int) + 1)), some (zi ((i_1 : Int) - 6 + 1))]) (st2 := []) [(33, .iconst 1), (34, .goto 4), (38, .iadd), (39, .istore_n 2), (40, .iinc 3 1), (43, .goto (-38))] (by decide +kernel) rfl ?_
        exact Zn.eq rfl (zcons rfl (zcons rfl (zcons (congrArg (fun z => some (zi z)) (by first | rw [manyN_t (by omega) (by omega)]; omega | rw [manyN_f (by omega)]; omega)) (zcons (congrArg (fun z => some (zi z)) (by omega)) rfl)))) rfl (rfl) (ih_3)
      · have c_7 : ¬ (k = 0) := c_7
        refine Zn.seg (pc2 := 26) (ls2 := [some (za (A 0)), some (zi k), some (zi (manyN (r 1) k i_1 : Int)), some (zi ((i_1 : Int) - 6))]) (st2 := [zi ((i_1 : Int) - 6), za (A 0), zi (manyN (r 1) k i_1 : Int)]) [(24, .aload_n 0), (25, .iload_n 3)] (by decide +kernel) rfl ?_
        refine Zn.call (ins := .invokevirtual 81) [za (A 0), zi ((i_1 : Int) - 6)] [zi (manyN (r 1) k i_1 : Int)] (by decide +kernel) rfl rfl rfl ⟨rfl, rfl⟩ ⟨rfl, rfl, rfl⟩ rfl (zrecvV hD (p := 0) rfl rfl rfl) (sp_X8_kind (A := A) (m := m) (r := r) (x := (i_1 : Int) - 6) (p := i_1) (zov_all hD) hD (by first | assumption | omega) (by first | assumption | omega)) (fun v h2 hp => ?_)
        obtain ⟨rfl, hq_8⟩ := hp
        refine Zn.eq (pc2 := 29) (ls2 := [some (za (A 0)), some (zi k), some (zi (manyN (r 1) k i_1 : Int)), some (zi ((i_1 : Int) - 6))]) (st2 := [zi (r 1 (i_1 + 18)), zi (manyN (r 1) k i_1 : Int)]) (h2 := zov (LM A m r) h) rfl rfl rfl hq_8 ?_
        have hD : zND (LM A m r) := hD
        refine Zn.seg (pc2 := 30) (ls2 := [some (za (A 0)), some (zi k), some (zi (manyN (r 1) k i_1 : Int)), some (zi ((i_1 : Int) - 6))]) (st2 := [zi k, zi (r 1 (i_1 + 18)), zi (manyN (r 1) k i_1 : Int)]) [(29, .iload_n 1)] (by decide +kernel) rfl ?_
        refine Zn.icmp (c := .ne) (off := 7) 37 (by decide +kernel) rfl ⟨by omega, by omega⟩ ⟨by omega, by omega⟩ (fun c_9 => ?_) (fun c_9 => ?_)
        · have c_9 : r 1 (i_1 + 18) ≠ k := c_9
          refine Zn.seg (pc2 := 5) (ls2 := [some (za (A 0)), some (zi k), some (zi ((manyN (r 1) k i_1 : Int) + 0)), some (zi ((i_1 : Int) - 6 + 1))]) (st2 := []) [(37, .iconst 0), (38, .iadd), (39, .istore_n 2), (40, .iinc 3 1), (43, .goto (-38))] (by decide +kernel) rfl ?_
          exact Zn.eq rfl (zcons rfl (zcons rfl (zcons (congrArg (fun z => some (zi z)) (by first | rw [manyN_t (by omega) (by omega)]; omega | rw [manyN_f (by omega)]; omega)) (zcons (congrArg (fun z => some (zi z)) (by omega)) rfl)))) rfl (rfl) (ih_3)
        · have c_9 : ¬ (r 1 (i_1 + 18) ≠ k) := c_9
          refine Zn.seg (pc2 := 5) (ls2 := [some (za (A 0)), some (zi k), some (zi ((manyN (r 1) k i_1 : Int) + 1)), some (zi ((i_1 : Int) - 6 + 1))]) (st2 := []) [(33, .iconst 1), (34, .goto 4), (38, .iadd), (39, .istore_n 2), (40, .iinc 3 1), (43, .goto (-38))] (by decide +kernel) rfl ?_
          exact Zn.eq rfl (zcons rfl (zcons rfl (zcons (congrArg (fun z => some (zi z)) (by first | rw [manyN_t (by omega) (by omega)]; omega | rw [manyN_f (by omega)]; omega)) (zcons (congrArg (fun z => some (zi z)) (by omega)) rfl)))) rfl (rfl) (ih_3)
  · skip
    refine Zn.seg (pc2 := 8) (ls2 := [some (za (A 0)), some (zi k), some (zi (manyN (r 1) k 13 : Int)), some (zi ((13 : Int) - 6))]) (st2 := [zi 7, zi ((13 : Int) - 6)]) [(5, .iload_n 3), (6, .bipush 7)] (by decide +kernel) rfl ?_
    refine Zn.icmp (c := .ge) (off := 38) 46 (by decide +kernel) rfl ⟨by omega, by omega⟩ ⟨by decide, by decide⟩ (fun c_10 => ?_) (fun c_10 => absurd (show 7 ≤ (13 : Int) - 6 from by decide) c_10)
    have c_10 : 7 ≤ (13 : Int) - 6 := c_10
    refine Zn.seg (pc2 := 47) (ls2 := [some (za (A 0)), some (zi k), some (zi (manyN (r 1) k 13 : Int)), some (zi ((13 : Int) - 6))]) (st2 := [zi (manyN (r 1) k 13 : Int)]) [(46, .iload_n 2)] (by decide +kernel) rfl ?_
    exact Zn.iret (by decide +kernel) rfl (⟨by first | rfl | (refine congrArg some (congrArg zi ?_); first | omega | (simp_all; done) | (simp_all; omega)), hh.symm⟩)
theorem sp_X8_poles {h : xH} {A : Nat → Nat} {m : Nat → Int} {r : Nat → Nat → Int}  (hL : ∀ q ∈ LM A m r, h q.1 = zcE q.2) (hD : zND (LM A m r)) (hk : ∀ p, p < 13 → 0 ≤ r 1 (p + 18) ∧ r 1 (p + 18) ≤ 2) (hq : ∀ p : Nat, p < 13 → zInI (qv (fun j => r 1 (j + 1)) ((p : Int) - 6))) : zEv k_X8_poles [za (A 0)] h (fun v h2 => v = some (zi (mk (mpoleB (r 1)) : Int)) ∧ h2 = h) := by
  have hh : h = zov (LM A m r) h := zov_self hL
  refine zEv.body (I := (8, xI_X8_poles, 3, 1, 21, 0, 0, false)) (rt := (some .int)) [some (za (A 0)), none, none] rfl rfl rfl rfl ?_
  refine Zn.eq rfl rfl rfl hh ?_
  have hD : zND (LM A m r) := hD
  refine Zn.seg (pc2 := 5) (ls2 := [some (za (A 0)), some (zi 0), some (zi (-6))]) (st2 := []) [(0, .iconst 0), (1, .istore_n 1), (2, .bipush (-6)), (4, .istore_n 2)] (by decide +kernel) rfl ?_
  refine Zn.eq (pc2 := 5) (ls2 := [some (za (A 0)), some (zi (mkN (mpoleB (r 1)) 0 : Int)), some (zi ((0 : Int) - 6))]) (st2 := []) (h2 := zov (LM A m r) h) rfl (zcons rfl (zcons (congrArg (fun z => some (zi z)) (by first | rfl | omega | simp)) (zcons (congrArg (fun z => some (zi z)) (by first | rfl | omega | simp)) rfl))) rfl (rfl) ?_
  have hD : zND (LM A m r) := hD
  refine xloop (P := fun i_1 => Zn (8, xI_X8_poles, 3, 1, 21, 0, 0, false) (some .int) 5 [some (za (A 0)), some (zi (mkN (mpoleB (r 1)) i_1 : Int)), some (zi ((i_1 : Int) - 6))] [] (zov (LM A m r) h) _) (13) (fun i_1 hi_2 ih_3 => ?_) ?_
  · have hi_2 : i_1 < 13 := hi_2
    have hmk := mkN_lt (mpoleB (r 1)) (k := i_1) (by omega)
    have hpw := pw_lt (p := i_1) (by omega)
    have hki := hk i_1 (by omega)
    have hqi := hq i_1 (by omega)
    refine Zn.seg (pc2 := 8) (ls2 := [some (za (A 0)), some (zi (mkN (mpoleB (r 1)) i_1 : Int)), some (zi ((i_1 : Int) - 6))]) (st2 := [zi 7, zi ((i_1 : Int) - 6)]) [(5, .iload_n 2), (6, .bipush 7)] (by decide +kernel) rfl ?_
    refine Zn.icmp (c := .ge) (off := 38) 46 (by decide +kernel) rfl ⟨by omega, by omega⟩ ⟨by decide, by decide⟩ (fun c_4 => absurd (show 7 ≤ (i_1 : Int) - 6 from c_4) (by omega)) (fun c_4 => ?_)
    have c_4 : ¬ (7 ≤ (i_1 : Int) - 6) := c_4
    refine Zn.seg (pc2 := 14) (ls2 := [some (za (A 0)), some (zi (mkN (mpoleB (r 1)) i_1 : Int)), some (zi ((i_1 : Int) - 6))]) (st2 := [zi ((i_1 : Int) - 6), za (A 0), zi (mkN (mpoleB (r 1)) i_1 : Int)]) [(11, .iload_n 1), (12, .aload_n 0), (13, .iload_n 2)] (by decide +kernel) rfl ?_
    refine Zn.call (ins := .invokevirtual 81) [za (A 0), zi ((i_1 : Int) - 6)] [zi (mkN (mpoleB (r 1)) i_1 : Int)] (by decide +kernel) rfl rfl rfl ⟨rfl, rfl⟩ ⟨rfl, rfl, rfl⟩ rfl (zrecvV hD (p := 0) rfl rfl rfl) (sp_X8_kind (A := A) (m := m) (r := r) (x := (i_1 : Int) - 6) (p := i_1) (zov_all hD) hD (by first | assumption | omega) (by first | assumption | omega)) (fun v h2 hp => ?_)
    obtain ⟨rfl, hq_5⟩ := hp
    refine Zn.eq (pc2 := 17) (ls2 := [some (za (A 0)), some (zi (mkN (mpoleB (r 1)) i_1 : Int)), some (zi ((i_1 : Int) - 6))]) (st2 := [zi (r 1 (i_1 + 18)), zi (mkN (mpoleB (r 1)) i_1 : Int)]) (h2 := zov (LM A m r) h) rfl rfl rfl hq_5 ?_
    have hD : zND (LM A m r) := hD
    refine Zn.ifc (c := .le) (off := 20) 37 (by decide +kernel) rfl ⟨by omega, by omega⟩ (fun c_6 => ?_) (fun c_6 => ?_)
    · have c_6 : r 1 (i_1 + 18) ≤ 0 := c_6
      refine Zn.seg (pc2 := 38) (ls2 := [some (za (A 0)), some (zi (mkN (mpoleB (r 1)) i_1 : Int)), some (zi ((i_1 : Int) - 6))]) (st2 := [zi 0, zi (mkN (mpoleB (r 1)) i_1 : Int)]) [(37, .iconst 0)] (by decide +kernel) rfl ?_
      refine Zn.ior ((mkN (mpoleB (r 1)) i_1 : Int)) (by decide +kernel) (zor0 _) ?_
      refine Zn.seg (pc2 := 5) (ls2 := [some (za (A 0)), some (zi (mkN (mpoleB (r 1)) i_1 : Int)), some (zi ((i_1 : Int) - 6 + 1))]) (st2 := []) [(39, .istore_n 1), (40, .iinc 2 1), (43, .goto (-38))] (by decide +kernel) rfl ?_
      exact Zn.eq rfl (zcons rfl (zcons (congrArg (fun z => some (zi z)) (by first | rw [mkN_t (by simp only [mpoleB, decide_eq_true_eq]; omega)] | rw [mkN_f (by simp only [mpoleB, decide_eq_true_eq]; omega)])) (zcons (congrArg (fun z => some (zi z)) (by omega)) rfl))) rfl (rfl) (ih_3)
    · have c_6 : ¬ (r 1 (i_1 + 18) ≤ 0) := c_6
      refine Zn.seg (pc2 := 22) (ls2 := [some (za (A 0)), some (zi (mkN (mpoleB (r 1)) i_1 : Int)), some (zi ((i_1 : Int) - 6))]) (st2 := [zi ((i_1 : Int) - 6), za (A 0), zi (mkN (mpoleB (r 1)) i_1 : Int)]) [(20, .aload_n 0), (21, .iload_n 2)] (by decide +kernel) rfl ?_
      refine Zn.call (ins := .invokevirtual 85) [za (A 0), zi ((i_1 : Int) - 6)] [zi (mkN (mpoleB (r 1)) i_1 : Int)] (by decide +kernel) rfl rfl rfl ⟨rfl, rfl⟩ ⟨rfl, rfl, rfl⟩ rfl (zrecvV hD (p := 0) rfl rfl rfl) (sp_X8_beneath (A := A) (m := m) (r := r) (x := (i_1 : Int) - 6) (zov_all hD) hD) (fun v h2 hp => ?_)
      obtain ⟨rfl, hq_7⟩ := hp
      refine Zn.eq (pc2 := 25) (ls2 := [some (za (A 0)), some (zi (mkN (mpoleB (r 1)) i_1 : Int)), some (zi ((i_1 : Int) - 6))]) (st2 := [zi (qv (fun j => r 1 (j + 1)) ((i_1 : Int) - 6)), zi (mkN (mpoleB (r 1)) i_1 : Int)]) (h2 := zov (LM A m r) h) rfl rfl rfl hq_7 ?_
      have hD : zND (LM A m r) := hD
      refine Zn.ifc (c := .ne) (off := 12) 37 (by decide +kernel) rfl hqi (fun c_8 => ?_) (fun c_8 => ?_)
      · have c_8 : qv (fun j => r 1 (j + 1)) ((i_1 : Int) - 6) ≠ 0 := c_8
        refine Zn.seg (pc2 := 38) (ls2 := [some (za (A 0)), some (zi (mkN (mpoleB (r 1)) i_1 : Int)), some (zi ((i_1 : Int) - 6))]) (st2 := [zi 0, zi (mkN (mpoleB (r 1)) i_1 : Int)]) [(37, .iconst 0)] (by decide +kernel) rfl ?_
        refine Zn.ior ((mkN (mpoleB (r 1)) i_1 : Int)) (by decide +kernel) (zor0 _) ?_
        refine Zn.seg (pc2 := 5) (ls2 := [some (za (A 0)), some (zi (mkN (mpoleB (r 1)) i_1 : Int)), some (zi ((i_1 : Int) - 6 + 1))]) (st2 := []) [(39, .istore_n 1), (40, .iinc 2 1), (43, .goto (-38))] (by decide +kernel) rfl ?_
        exact Zn.eq rfl (zcons rfl (zcons (congrArg (fun z => some (zi z)) (by first | rw [mkN_t (by simp only [mpoleB, decide_eq_true_eq]; omega)] | rw [mkN_f (by simp only [mpoleB, decide_eq_true_eq]; omega)])) (zcons (congrArg (fun z => some (zi z)) (by omega)) rfl))) rfl (rfl) (ih_3)
      · have c_8 : ¬ (qv (fun j => r 1 (j + 1)) ((i_1 : Int) - 6) ≠ 0) := c_8
        refine Zn.seg (pc2 := 33) (ls2 := [some (za (A 0)), some (zi (mkN (mpoleB (r 1)) i_1 : Int)), some (zi ((i_1 : Int) - 6))]) (st2 := [zi ((i_1 : Int) - 6 + 6), zi 1, zi (mkN (mpoleB (r 1)) i_1 : Int)]) [(28, .iconst 1), (29, .iload_n 2), (30, .bipush 6), (32, .iadd)] (by decide +kernel) rfl ?_
        refine Zn.ishl (((2 ^ i_1 : Nat) : Int)) (by decide +kernel) (zshl1z (by omega) (by omega)) ?_
        refine Zn.seg (pc2 := 38) (ls2 := [some (za (A 0)), some (zi (mkN (mpoleB (r 1)) i_1 : Int)), some (zi ((i_1 : Int) - 6))]) (st2 := [zi ((2 ^ i_1 : Nat) : Int), zi (mkN (mpoleB (r 1)) i_1 : Int)]) [(34, .goto 4)] (by decide +kernel) rfl ?_
        refine Zn.ior ((((mkN (mpoleB (r 1)) i_1) ||| (2 ^ i_1) : Nat) : Int)) (by decide +kernel) (zor (by omega) (by omega)) ?_
        refine Zn.seg (pc2 := 5) (ls2 := [some (za (A 0)), some (zi (((mkN (mpoleB (r 1)) i_1) ||| (2 ^ i_1) : Nat) : Int)), some (zi ((i_1 : Int) - 6 + 1))]) (st2 := []) [(39, .istore_n 1), (40, .iinc 2 1), (43, .goto (-38))] (by decide +kernel) rfl ?_
        exact Zn.eq rfl (zcons rfl (zcons (congrArg (fun z => some (zi z)) (by first | rw [mkN_t (by simp only [mpoleB, decide_eq_true_eq]; omega)] | rw [mkN_f (by simp only [mpoleB, decide_eq_true_eq]; omega)])) (zcons (congrArg (fun z => some (zi z)) (by omega)) rfl))) rfl (rfl) (ih_3)
  · skip
    refine Zn.seg (pc2 := 8) (ls2 := [some (za (A 0)), some (zi (mkN (mpoleB (r 1)) 13 : Int)), some (zi ((13 : Int) - 6))]) (st2 := [zi 7, zi ((13 : Int) - 6)]) [(5, .iload_n 2), (6, .bipush 7)] (by decide +kernel) rfl ?_
    refine Zn.icmp (c := .ge) (off := 38) 46 (by decide +kernel) rfl ⟨by omega, by omega⟩ ⟨by decide, by decide⟩ (fun c_9 => ?_) (fun c_9 => absurd (show 7 ≤ (13 : Int) - 6 from by decide) c_9)
    have c_9 : 7 ≤ (13 : Int) - 6 := c_9
    refine Zn.seg (pc2 := 47) (ls2 := [some (za (A 0)), some (zi (mkN (mpoleB (r 1)) 13 : Int)), some (zi ((13 : Int) - 6))]) (st2 := [zi (mkN (mpoleB (r 1)) 13 : Int)]) [(46, .iload_n 1)] (by decide +kernel) rfl ?_
    exact Zn.iret (by decide +kernel) rfl (⟨by first | rfl | (refine congrArg some (congrArg zi ?_); first | omega | (simp_all; done) | (simp_all; omega)), hh.symm⟩)
theorem sp_X8_setOf {h : xH} {A : Nat → Nat} {m : Nat → Int} {r : Nat → Nat → Int} {k : Int} (hL : ∀ q ∈ LM A m r, h q.1 = zcE q.2) (hD : zND (LM A m r)) (hk : ∀ p, p < 13 → 0 ≤ r 1 (p + 18) ∧ r 1 (p + 18) ≤ 2) (hkk : 0 ≤ k ∧ k ≤ 2) : zEv k_X8_setOf [za (A 0), zi k] h (fun v h2 => v = some (zi (mk (kindB (r 1) k) : Int)) ∧ h2 = h) := by
  have hh : h = zov (LM A m r) h := zov_self hL
  refine zEv.body (I := (8, xI_X8_setOf, 4, 1, 21, 0, 0, false)) (rt := (some .int)) [some (za (A 0)), some (zi k), none, none] rfl rfl rfl rfl ?_
  refine Zn.eq rfl rfl rfl hh ?_
  have hD : zND (LM A m r) := hD
  refine Zn.seg (pc2 := 5) (ls2 := [some (za (A 0)), some (zi k), some (zi 0), some (zi (-6))]) (st2 := []) [(0, .iconst 0), (1, .istore_n 2), (2, .bipush (-6)), (4, .istore_n 3)] (by decide +kernel) rfl ?_
  refine Zn.eq (pc2 := 5) (ls2 := [some (za (A 0)), some (zi k), some (zi (mkN (kindB (r 1) k) 0 : Int)), some (zi ((0 : Int) - 6))]) (st2 := []) (h2 := zov (LM A m r) h) rfl (zcons rfl (zcons rfl (zcons (congrArg (fun z => some (zi z)) (by first | rfl | omega | simp)) (zcons (congrArg (fun z => some (zi z)) (by first | rfl | omega | simp)) rfl)))) rfl (rfl) ?_
  have hD : zND (LM A m r) := hD
  refine xloop (P := fun i_1 => Zn (8, xI_X8_setOf, 4, 1, 21, 0, 0, false) (some .int) 5 [some (za (A 0)), some (zi k), some (zi (mkN (kindB (r 1) k) i_1 : Int)), some (zi ((i_1 : Int) - 6))] [] (zov (LM A m r) h) _) (13) (fun i_1 hi_2 ih_3 => ?_) ?_
  · have hi_2 : i_1 < 13 := hi_2
    have hmk := mkN_lt (kindB (r 1) k) (k := i_1) (by omega)
    have hpw := pw_lt (p := i_1) (by omega)
    have hki := hk i_1 (by omega)
    refine Zn.seg (pc2 := 8) (ls2 := [some (za (A 0)), some (zi k), some (zi (mkN (kindB (r 1) k) i_1 : Int)), some (zi ((i_1 : Int) - 6))]) (st2 := [zi 7, zi ((i_1 : Int) - 6)]) [(5, .iload_n 3), (6, .bipush 7)] (by decide +kernel) rfl ?_
    refine Zn.icmp (c := .ge) (off := 43) 51 (by decide +kernel) rfl ⟨by omega, by omega⟩ ⟨by decide, by decide⟩ (fun c_4 => absurd (show 7 ≤ (i_1 : Int) - 6 from c_4) (by omega)) (fun c_4 => ?_)
    have c_4 : ¬ (7 ≤ (i_1 : Int) - 6) := c_4
    refine Zn.seg (pc2 := 14) (ls2 := [some (za (A 0)), some (zi k), some (zi (mkN (kindB (r 1) k) i_1 : Int)), some (zi ((i_1 : Int) - 6))]) (st2 := [zi ((i_1 : Int) - 6), za (A 0), zi (mkN (kindB (r 1) k) i_1 : Int)]) [(11, .iload_n 2), (12, .aload_n 0), (13, .iload_n 3)] (by decide +kernel) rfl ?_
    refine Zn.call (ins := .invokevirtual 81) [za (A 0), zi ((i_1 : Int) - 6)] [zi (mkN (kindB (r 1) k) i_1 : Int)] (by decide +kernel) rfl rfl rfl ⟨rfl, rfl⟩ ⟨rfl, rfl, rfl⟩ rfl (zrecvV hD (p := 0) rfl rfl rfl) (sp_X8_kind (A := A) (m := m) (r := r) (x := (i_1 : Int) - 6) (p := i_1) (zov_all hD) hD (by first | assumption | omega) (by first | assumption | omega)) (fun v h2 hp => ?_)
    obtain ⟨rfl, hq_5⟩ := hp
    refine Zn.eq (pc2 := 17) (ls2 := [some (za (A 0)), some (zi k), some (zi (mkN (kindB (r 1) k) i_1 : Int)), some (zi ((i_1 : Int) - 6))]) (st2 := [zi (r 1 (i_1 + 18)), zi (mkN (kindB (r 1) k) i_1 : Int)]) (h2 := zov (LM A m r) h) rfl rfl rfl hq_5 ?_
    have hD : zND (LM A m r) := hD
    refine Zn.ifc (c := .le) (off := 25) 42 (by decide +kernel) rfl ⟨by omega, by omega⟩ (fun c_6 => ?_) (fun c_6 => ?_)
    · have c_6 : r 1 (i_1 + 18) ≤ 0 := c_6
      refine Zn.seg (pc2 := 43) (ls2 := [some (za (A 0)), some (zi k), some (zi (mkN (kindB (r 1) k) i_1 : Int)), some (zi ((i_1 : Int) - 6))]) (st2 := [zi 0, zi (mkN (kindB (r 1) k) i_1 : Int)]) [(42, .iconst 0)] (by decide +kernel) rfl ?_
      refine Zn.ior ((mkN (kindB (r 1) k) i_1 : Int)) (by decide +kernel) (zor0 _) ?_
      refine Zn.seg (pc2 := 5) (ls2 := [some (za (A 0)), some (zi k), some (zi (mkN (kindB (r 1) k) i_1 : Int)), some (zi ((i_1 : Int) - 6 + 1))]) (st2 := []) [(44, .istore_n 2), (45, .iinc 3 1), (48, .goto (-43))] (by decide +kernel) rfl ?_
      exact Zn.eq rfl (zcons rfl (zcons rfl (zcons (congrArg (fun z => some (zi z)) (by first | rw [mkN_t (by simp only [kindB, decide_eq_true_eq]; omega)] | rw [mkN_f (by simp only [kindB, decide_eq_true_eq]; omega)])) (zcons (congrArg (fun z => some (zi z)) (by omega)) rfl)))) rfl (rfl) (ih_3)
    · have c_6 : ¬ (r 1 (i_1 + 18) ≤ 0) := c_6
      refine Zn.seg (pc2 := 21) (ls2 := [some (za (A 0)), some (zi k), some (zi (mkN (kindB (r 1) k) i_1 : Int)), some (zi ((i_1 : Int) - 6))]) (st2 := [zi k, zi (mkN (kindB (r 1) k) i_1 : Int)]) [(20, .iload_n 1)] (by decide +kernel) rfl ?_
      refine Zn.ifc (c := .eq) (off := 12) 33 (by decide +kernel) rfl ⟨by omega, by omega⟩ (fun c_7 => ?_) (fun c_7 => ?_)
      · have c_7 : k = 0 := c_7
        refine Zn.seg (pc2 := 38) (ls2 := [some (za (A 0)), some (zi k), some (zi (mkN (kindB (r 1) k) i_1 : Int)), some (zi ((i_1 : Int) - 6))]) (st2 := [zi ((i_1 : Int) - 6 + 6), zi 1, zi (mkN (kindB (r 1) k) i_1 : Int)]) [(33, .iconst 1), (34, .iload_n 3), (35, .bipush 6), (37, .iadd)] (by decide +kernel) rfl ?_
        refine Zn.ishl (((2 ^ i_1 : Nat) : Int)) (by decide +kernel) (zshl1z (by omega) (by omega)) ?_
        refine Zn.seg (pc2 := 43) (ls2 := [some (za (A 0)), some (zi k), some (zi (mkN (kindB (r 1) k) i_1 : Int)), some (zi ((i_1 : Int) - 6))]) (st2 := [zi ((2 ^ i_1 : Nat) : Int), zi (mkN (kindB (r 1) k) i_1 : Int)]) [(39, .goto 4)] (by decide +kernel) rfl ?_
        refine Zn.ior ((((mkN (kindB (r 1) k) i_1) ||| (2 ^ i_1) : Nat) : Int)) (by decide +kernel) (zor (by omega) (by omega)) ?_
        refine Zn.seg (pc2 := 5) (ls2 := [some (za (A 0)), some (zi k), some (zi (((mkN (kindB (r 1) k) i_1) ||| (2 ^ i_1) : Nat) : Int)), some (zi ((i_1 : Int) - 6 + 1))]) (st2 := []) [(44, .istore_n 2), (45, .iinc 3 1), (48, .goto (-43))] (by decide +kernel) rfl ?_
        exact Zn.eq rfl (zcons rfl (zcons rfl (zcons (congrArg (fun z => some (zi z)) (by first | rw [mkN_t (by simp only [kindB, decide_eq_true_eq]; omega)] | rw [mkN_f (by simp only [kindB, decide_eq_true_eq]; omega)])) (zcons (congrArg (fun z => some (zi z)) (by omega)) rfl)))) rfl (rfl) (ih_3)
      · have c_7 : ¬ (k = 0) := c_7
        refine Zn.seg (pc2 := 26) (ls2 := [some (za (A 0)), some (zi k), some (zi (mkN (kindB (r 1) k) i_1 : Int)), some (zi ((i_1 : Int) - 6))]) (st2 := [zi ((i_1 : Int) - 6), za (A 0), zi (mkN (kindB (r 1) k) i_1 : Int)]) [(24, .aload_n 0), (25, .iload_n 3)] (by decide +kernel) rfl ?_
        refine Zn.call (ins := .invokevirtual 81) [za (A 0), zi ((i_1 : Int) - 6)] [zi (mkN (kindB (r 1) k) i_1 : Int)] (by decide +kernel) rfl rfl rfl ⟨rfl, rfl⟩ ⟨rfl, rfl, rfl⟩ rfl (zrecvV hD (p := 0) rfl rfl rfl) (sp_X8_kind (A := A) (m := m) (r := r) (x := (i_1 : Int) - 6) (p := i_1) (zov_all hD) hD (by first | assumption | omega) (by first | assumption | omega)) (fun v h2 hp => ?_)
        obtain ⟨rfl, hq_8⟩ := hp
        refine Zn.eq (pc2 := 29) (ls2 := [some (za (A 0)), some (zi k), some (zi (mkN (kindB (r 1) k) i_1 : Int)), some (zi ((i_1 : Int) - 6))]) (st2 := [zi (r 1 (i_1 + 18)), zi (mkN (kindB (r 1) k) i_1 : Int)]) (h2 := zov (LM A m r) h) rfl rfl rfl hq_8 ?_
        have hD : zND (LM A m r) := hD
        refine Zn.seg (pc2 := 30) (ls2 := [some (za (A 0)), some (zi k), some (zi (mkN (kindB (r 1) k) i_1 : Int)), some (zi ((i_1 : Int) - 6))]) (st2 := [zi k, zi (r 1 (i_1 + 18)), zi (mkN (kindB (r 1) k) i_1 : Int)]) [(29, .iload_n 1)] (by decide +kernel) rfl ?_
        refine Zn.icmp (c := .ne) (off := 12) 42 (by decide +kernel) rfl ⟨by omega, by omega⟩ ⟨by omega, by omega⟩ (fun c_9 => ?_) (fun c_9 => ?_)
        · have c_9 : r 1 (i_1 + 18) ≠ k := c_9
          refine Zn.seg (pc2 := 43) (ls2 := [some (za (A 0)), some (zi k), some (zi (mkN (kindB (r 1) k) i_1 : Int)), some (zi ((i_1 : Int) - 6))]) (st2 := [zi 0, zi (mkN (kindB (r 1) k) i_1 : Int)]) [(42, .iconst 0)] (by decide +kernel) rfl ?_
          refine Zn.ior ((mkN (kindB (r 1) k) i_1 : Int)) (by decide +kernel) (zor0 _) ?_
          refine Zn.seg (pc2 := 5) (ls2 := [some (za (A 0)), some (zi k), some (zi (mkN (kindB (r 1) k) i_1 : Int)), some (zi ((i_1 : Int) - 6 + 1))]) (st2 := []) [(44, .istore_n 2), (45, .iinc 3 1), (48, .goto (-43))] (by decide +kernel) rfl ?_
          exact Zn.eq rfl (zcons rfl (zcons rfl (zcons (congrArg (fun z => some (zi z)) (by first | rw [mkN_t (by simp only [kindB, decide_eq_true_eq]; omega)] | rw [mkN_f (by simp only [kindB, decide_eq_true_eq]; omega)])) (zcons (congrArg (fun z => some (zi z)) (by omega)) rfl)))) rfl (rfl) (ih_3)
        · have c_9 : ¬ (r 1 (i_1 + 18) ≠ k) := c_9
          refine Zn.seg (pc2 := 38) (ls2 := [some (za (A 0)), some (zi k), some (zi (mkN (kindB (r 1) k) i_1 : Int)), some (zi ((i_1 : Int) - 6))]) (st2 := [zi ((i_1 : Int) - 6 + 6), zi 1, zi (mkN (kindB (r 1) k) i_1 : Int)]) [(33, .iconst 1), (34, .iload_n 3), (35, .bipush 6), (37, .iadd)] (by decide +kernel) rfl ?_
          refine Zn.ishl (((2 ^ i_1 : Nat) : Int)) (by decide +kernel) (zshl1z (by omega) (by omega)) ?_
          refine Zn.seg (pc2 := 43) (ls2 := [some (za (A 0)), some (zi k), some (zi (mkN (kindB (r 1) k) i_1 : Int)), some (zi ((i_1 : Int) - 6))]) (st2 := [zi ((2 ^ i_1 : Nat) : Int), zi (mkN (kindB (r 1) k) i_1 : Int)]) [(39, .goto 4)] (by decide +kernel) rfl ?_
          refine Zn.ior ((((mkN (kindB (r 1) k) i_1) ||| (2 ^ i_1) : Nat) : Int)) (by decide +kernel) (zor (by omega) (by omega)) ?_
          refine Zn.seg (pc2 := 5) (ls2 := [some (za (A 0)), some (zi k), some (zi (((mkN (kindB (r 1) k) i_1) ||| (2 ^ i_1) : Nat) : Int)), some (zi ((i_1 : Int) - 6 + 1))]) (st2 := []) [(44, .istore_n 2), (45, .iinc 3 1), (48, .goto (-43))] (by decide +kernel) rfl ?_
          exact Zn.eq rfl (zcons rfl (zcons rfl (zcons (congrArg (fun z => some (zi z)) (by first | rw [mkN_t (by simp only [kindB, decide_eq_true_eq]; omega)] | rw [mkN_f (by simp only [kindB, decide_eq_true_eq]; omega)])) (zcons (congrArg (fun z => some (zi z)) (by omega)) rfl)))) rfl (rfl) (ih_3)
  · skip
    refine Zn.seg (pc2 := 8) (ls2 := [some (za (A 0)), some (zi k), some (zi (mkN (kindB (r 1) k) 13 : Int)), some (zi ((13 : Int) - 6))]) (st2 := [zi 7, zi ((13 : Int) - 6)]) [(5, .iload_n 3), (6, .bipush 7)] (by decide +kernel) rfl ?_
    refine Zn.icmp (c := .ge) (off := 43) 51 (by decide +kernel) rfl ⟨by omega, by omega⟩ ⟨by decide, by decide⟩ (fun c_10 => ?_) (fun c_10 => absurd (show 7 ≤ (13 : Int) - 6 from by decide) c_10)
    have c_10 : 7 ≤ (13 : Int) - 6 := c_10
    refine Zn.seg (pc2 := 52) (ls2 := [some (za (A 0)), some (zi k), some (zi (mkN (kindB (r 1) k) 13 : Int)), some (zi ((13 : Int) - 6))]) (st2 := [zi (mkN (kindB (r 1) k) 13 : Int)]) [(51, .iload_n 2)] (by decide +kernel) rfl ?_
    exact Zn.iret (by decide +kernel) rfl (⟨by first | rfl | (refine congrArg some (congrArg zi ?_); first | omega | (simp_all; done) | (simp_all; omega)), hh.symm⟩)
theorem sp_X8_size {h : xH} {A : Nat → Nat} {m : Nat → Int} {r : Nat → Nat → Int}  (hL : ∀ q ∈ LM A m r, h q.1 = zcE q.2) (hD : zND (LM A m r)) (hk : ∀ p, p < 13 → 0 ≤ r 1 (p + 18) ∧ r 1 (p + 18) ≤ 2) (hd : 0 ≤ r 1 0 ∧ r 1 0 ≤ 3) : zEv k_X8_size [za (A 0)] h (fun v h2 => v = some (zi (r 1 0 + 2 - (manyN (r 1) 2 13 : Int))) ∧ h2 = h) := by
  have hh : h = zov (LM A m r) h := zov_self hL
  refine zEv.body (I := (8, xI_X8_size, 1, 2, 44, 0, 0, false)) (rt := (some .int)) [some (za (A 0))] rfl rfl rfl rfl ?_
  refine Zn.eq rfl rfl rfl hh ?_
  have hD : zND (LM A m r) := hD
  refine Zn.seg (pc2 := 1) (ls2 := [some (za (A 0))]) (st2 := [za (A 0)]) [(0, .aload_n 0)] (by decide +kernel) rfl ?_
  refine Zn.get (ix := 7) hD 0 (by decide +kernel) rfl rfl rfl ?_
  refine Zn.seg (pc2 := 5) (ls2 := [some (za (A 0))]) (st2 := [zi 0, za (A 1)]) [(4, .iconst 0)] (by decide +kernel) rfl ?_
  refine Zn.iald hD 1 (0) (by decide +kernel) rfl (rfl) (by decide) rfl ?_
  refine Zn.seg (pc2 := 10) (ls2 := [some (za (A 0))]) (st2 := [zi 2, za (A 0), zi ((r 1) 0 + 2)]) [(6, .iconst 2), (7, .iadd), (8, .aload_n 0), (9, .iconst 2)] (by decide +kernel) rfl ?_
  refine Zn.call (ins := .invokevirtual 88) [za (A 0), zi 2] [zi ((r 1) 0 + 2)] (by decide +kernel) rfl rfl rfl ⟨rfl, rfl⟩ ⟨rfl, rfl, rfl⟩ rfl (zrecvV hD (p := 0) rfl rfl rfl) (sp_X8_many (A := A) (m := m) (r := r) (k := 2) (zov_all hD) hD (by first | assumption | omega) (by first | assumption | omega)) (fun v h2 hp => ?_)
  obtain ⟨rfl, hq_1⟩ := hp
  refine Zn.eq (pc2 := 13) (ls2 := [some (za (A 0))]) (st2 := [zi (manyN (r 1) 2 13 : Int), zi ((r 1) 0 + 2)]) (h2 := zov (LM A m r) h) rfl rfl rfl hq_1 ?_
  have hD : zND (LM A m r) := hD
  have q_2 := manyN_le (r 1) 2 13
  refine Zn.seg (pc2 := 14) (ls2 := [some (za (A 0))]) (st2 := [zi ((r 1) 0 + 2 - (manyN (r 1) 2 13 : Int))]) [(13, .isub)] (by decide +kernel) rfl ?_
  exact Zn.iret (by decide +kernel) rfl (⟨by first | rfl | (refine congrArg some (congrArg zi ?_); first | omega | (simp_all; done) | (simp_all; omega)), hh.symm⟩)
theorem sp_X8_isFew {h : xH} {A : Nat → Nat} {m : Nat → Int} {r : Nat → Nat → Int}  (hL : ∀ q ∈ LM A m r, h q.1 = zcE q.2) (hD : zND (LM A m r)) (hk : ∀ p, p < 13 → 0 ≤ r 1 (p + 18) ∧ r 1 (p + 18) ≤ 2) (hd : 0 ≤ r 1 0 ∧ r 1 0 ≤ 3) : zEv k_X8_isFew [za (A 0)] h (fun v h2 => v = some (zi (ltB (manyN (r 1) 0 13 : Int) (r 1 0 + 2))) ∧ h2 = h) := by
  have hh : h = zov (LM A m r) h := zov_self hL
  have hlt := ltB_spec (manyN (r 1) 0 13 : Int) (r 1 0 + 2)
  refine zEv.body (I := (8, xI_X8_isFew, 1, 2, 44, 0, 0, false)) (rt := (some .boolean)) [some (za (A 0))] rfl rfl rfl rfl ?_
  refine Zn.eq rfl rfl rfl hh ?_
  have hD : zND (LM A m r) := hD
  refine Zn.seg (pc2 := 2) (ls2 := [some (za (A 0))]) (st2 := [zi 0, za (A 0)]) [(0, .aload_n 0), (1, .iconst 0)] (by decide +kernel) rfl ?_
  refine Zn.call (ins := .invokevirtual 88) [za (A 0), zi 0] [] (by decide +kernel) rfl rfl rfl ⟨rfl, rfl⟩ ⟨rfl, rfl, rfl⟩ rfl (zrecvV hD (p := 0) rfl rfl rfl) (sp_X8_many (A := A) (m := m) (r := r) (k := 0) (zov_all hD) hD (by first | assumption | omega) (by first | assumption | omega)) (fun v h2 hp => ?_)
  obtain ⟨rfl, hq_1⟩ := hp
  refine Zn.eq (pc2 := 5) (ls2 := [some (za (A 0))]) (st2 := [zi (manyN (r 1) 0 13 : Int)]) (h2 := zov (LM A m r) h) rfl rfl rfl hq_1 ?_
  have hD : zND (LM A m r) := hD
  have q_2 := manyN_le (r 1) 0 13
  refine Zn.seg (pc2 := 6) (ls2 := [some (za (A 0))]) (st2 := [za (A 0), zi (manyN (r 1) 0 13 : Int)]) [(5, .aload_n 0)] (by decide +kernel) rfl ?_
  refine Zn.get (ix := 7) hD 0 (by decide +kernel) rfl rfl rfl ?_
  refine Zn.seg (pc2 := 10) (ls2 := [some (za (A 0))]) (st2 := [zi 0, za (A 1), zi (manyN (r 1) 0 13 : Int)]) [(9, .iconst 0)] (by decide +kernel) rfl ?_
  refine Zn.iald hD 1 (0) (by decide +kernel) rfl (rfl) (by decide) rfl ?_
  refine Zn.seg (pc2 := 13) (ls2 := [some (za (A 0))]) (st2 := [zi ((r 1) 0 + 2), zi (manyN (r 1) 0 13 : Int)]) [(11, .iconst 2), (12, .iadd)] (by decide +kernel) rfl ?_
  refine Zn.icmp (c := .ge) (off := 7) 20 (by decide +kernel) rfl ⟨by omega, by omega⟩ ⟨by omega, by omega⟩ (fun c_3 => ?_) (fun c_3 => ?_)
  · have c_3 : (r 1) 0 + 2 ≤ (manyN (r 1) 0 13 : Int) := c_3
    refine Zn.seg (pc2 := 21) (ls2 := [some (za (A 0))]) (st2 := [zi 0]) [(20, .iconst 0)] (by decide +kernel) rfl ?_
    exact Zn.bret (by decide +kernel) rfl (by first | decide | omega) (⟨by first | rfl | (refine congrArg some (congrArg zi ?_); first | omega | (simp_all; done) | (simp_all; omega)), hh.symm⟩)
  · have c_3 : ¬ ((r 1) 0 + 2 ≤ (manyN (r 1) 0 13 : Int)) := c_3
    refine Zn.seg (pc2 := 21) (ls2 := [some (za (A 0))]) (st2 := [zi 1]) [(16, .iconst 1), (17, .goto 4)] (by decide +kernel) rfl ?_
    exact Zn.bret (by decide +kernel) rfl (by first | decide | omega) (⟨by first | rfl | (refine congrArg some (congrArg zi ?_); first | omega | (simp_all; done) | (simp_all; omega)), hh.symm⟩)
theorem sp_X8_sets {h : xH} {A : Nat → Nat} {m : Nat → Int} {r : Nat → Nat → Int} {x y k : Int} {p : Nat} (hL : ∀ q ∈ LM A m r, h q.1 = zcE q.2) (hD : zND (LM A m r)) (hx : x = (p : Int) - 6) (hp : p < 13) : zEv k_X8_sets [za (A 0), zi x, zi y, zi k] h (fun v h2 => v = none ∧ h2 = zov (LM A m (va_up r 1 (va_up (va_up (r 1) (p + 5) y) (p + 18) k))) h) := by
  have hh : h = zov (LM A m r) h := zov_self hL
  refine zEv.body (I := (8, xI_X8_sets, 4, 0, 0, 0, 0, false)) (rt := none) [some (za (A 0)), some (zi x), some (zi y), some (zi k)] rfl rfl rfl rfl ?_
  refine Zn.eq rfl rfl rfl hh ?_
  have hD : zND (LM A m r) := hD
  refine Zn.seg (pc2 := 1) (ls2 := [some (za (A 0)), some (zi x), some (zi y), some (zi k)]) (st2 := [za (A 0)]) [(0, .aload_n 0)] (by decide +kernel) rfl ?_
  refine Zn.get (ix := 7) hD 0 (by decide +kernel) rfl rfl rfl ?_
  refine Zn.seg (pc2 := 11) (ls2 := [some (za (A 0)), some (zi x), some (zi y), some (zi k)]) (st2 := [zi y, zi (5 + x + 6), za (A 1)]) [(4, .iconst 5), (5, .iload_n 1), (6, .iadd), (7, .bipush 6), (9, .iadd), (10, .iload_n 2)] (by decide +kernel) rfl ?_
  refine Zn.iast hD 1 (p + 5) (by decide +kernel) rfl (by omega) (by omega) rfl ?_
  refine Zn.eq (h2 := zov (LM A m (va_up r 1 (va_up (r 1) (p + 5) y))) h) rfl rfl rfl (rfl) ?_
  have hD : zND (LM A m (va_up r 1 (va_up (r 1) (p + 5) y))) := hD
  refine Zn.seg (pc2 := 13) (ls2 := [some (za (A 0)), some (zi x), some (zi y), some (zi k)]) (st2 := [za (A 0)]) [(12, .aload_n 0)] (by decide +kernel) rfl ?_
  refine Zn.get (ix := 7) hD 0 (by decide +kernel) rfl rfl rfl ?_
  refine Zn.seg (pc2 := 24) (ls2 := [some (za (A 0)), some (zi x), some (zi y), some (zi k)]) (st2 := [zi k, zi (18 + x + 6), za (A 1)]) [(16, .bipush 18), (18, .iload_n 1), (19, .iadd), (20, .bipush 6), (22, .iadd), (23, .iload_n 3)] (by decide +kernel) rfl ?_
  refine Zn.iast hD 1 (p + 18) (by decide +kernel) rfl (by omega) (by omega) rfl ?_
  refine Zn.eq (h2 := zov (LM A m (va_up r 1 (va_up (va_up (r 1) (p + 5) y) (p + 18) k))) h) rfl rfl rfl (rfl) ?_
  have hD : zND (LM A m (va_up r 1 (va_up (va_up (r 1) (p + 5) y) (p + 18) k))) := hD
  exact Zn.vret (by decide +kernel) rfl (⟨rfl, rfl⟩)
theorem sp_X8_notes_a {h : xH} {A : Nat → Nat} {m : Nat → Int} {r : Nat → Nat → Int} {u : Nat} (hL : ∀ q ∈ LM A m r, h q.1 = zcE q.2) (hD : zND (LM A m r)) (hu : m 1 = (u : Int)) (hu6 : u < 6) : zEv k_X8_notes [za (A 0)] h (fun v h2 => v = none ∧ h2 = zov (LM A (va_up m 1 ((u : Int) + 1)) (va_up r 1 (cpR (r 1) u 31))) h) := by
  have hh : h = zov (LM A m r) h := zov_self hL
  refine zEv.body (I := (8, xI_X8_notes, 2, 0, 0, 0, 0, false)) (rt := none) [some (za (A 0)), none] rfl rfl rfl rfl ?_
  refine Zn.eq rfl rfl rfl hh ?_
  have hD : zND (LM A m r) := hD
  refine Zn.seg (pc2 := 6) (ls2 := [some (za (A 0)), some (zi 0)]) (st2 := [zi 155, zi 0]) [(0, .iconst 0), (1, .istore_n 1), (2, .iload_n 1), (3, .sipush 155)] (by decide +kernel) rfl ?_
  refine Zn.icmp (c := .ge) (off := 36) 42 (by decide +kernel) rfl ⟨by decide, by decide⟩ ⟨by decide, by decide⟩ (fun c_1 => absurd (show 155 ≤ (0 : Int) from c_1) (by decide)) (fun c_1 => ?_)
  have c_1 : ¬ (155 ≤ (0 : Int)) := c_1
  refine Zn.seg (pc2 := 10) (ls2 := [some (za (A 0)), some (zi 0)]) (st2 := [za (A 0)]) [(9, .aload_n 0)] (by decide +kernel) rfl ?_
  refine Zn.get (ix := 91) hD 0 (by decide +kernel) rfl rfl rfl ?_
  refine Zn.seg (pc2 := 15) (ls2 := [some (za (A 0)), some (zi 0)]) (st2 := [zi 6, zi (m 1)]) [(13, .bipush 6)] (by decide +kernel) rfl ?_
  refine Zn.icmp (c := .ne) (off := 27) 42 (by decide +kernel) rfl ⟨by omega, by omega⟩ ⟨by decide, by decide⟩ (fun c_2 => ?_) (fun c_2 => absurd (show m 1 ≠ 6 from by omega) c_2)
  have c_2 : m 1 ≠ 6 := c_2
  refine Zn.seg (pc2 := 44) (ls2 := [some (za (A 0)), some (zi 0)]) (st2 := [za (A 0), za (A 0)]) [(42, .aload_n 0), (43, .dup)] (by decide +kernel) rfl ?_
  refine Zn.get (ix := 91) hD 0 (by decide +kernel) rfl rfl rfl ?_
  refine Zn.seg (pc2 := 48) (ls2 := [some (za (A 0)), some (zi 0)]) (st2 := [za (A 0), zi (m 1), za (A 0)]) [(47, .aload_n 0)] (by decide +kernel) rfl ?_
  refine Zn.get (ix := 91) hD 0 (by decide +kernel) rfl rfl rfl ?_
  refine Zn.seg (pc2 := 53) (ls2 := [some (za (A 0)), some (zi 0)]) (st2 := [zi 6, zi (m 1), zi (m 1), za (A 0)]) [(51, .bipush 6)] (by decide +kernel) rfl ?_
  refine Zn.icmp (c := .ne) (off := 7) 60 (by decide +kernel) rfl ⟨by omega, by omega⟩ ⟨by decide, by decide⟩ (fun c_3 => ?_) (fun c_3 => absurd (show m 1 ≠ 6 from by omega) c_3)
  have c_3 : m 1 ≠ 6 := c_3
  refine Zn.seg (pc2 := 62) (ls2 := [some (za (A 0)), some (zi 0)]) (st2 := [zi (m 1 - 0), za (A 0)]) [(60, .iconst 0), (61, .isub)] (by decide +kernel) rfl ?_
  refine Zn.put (ix := 91) hD 0 (by decide +kernel) rfl rfl rfl rfl rfl ?_
  refine Zn.eq (h2 := zov (LM A (va_up m 1 (m 1 - 0)) r) h) rfl rfl rfl rfl ?_
  have hD : zND (LM A (va_up m 1 (m 1 - 0)) r) := hD
  refine Zn.seg (pc2 := 67) (ls2 := [some (za (A 0)), some (zi 0)]) (st2 := []) [(65, .iconst 0), (66, .istore_n 1)] (by decide +kernel) rfl ?_
  refine Zn.eq (pc2 := 67) (ls2 := [some (za (A 0)), some (zi (0 : Int))]) (st2 := []) (h2 := zov (LM A (va_up m 1 (m 1 - 0)) (va_up r 1 (cpR (r 1) u 0))) h) rfl (zcons rfl (zcons (congrArg (fun z => some (zi z)) (by first | rfl | omega | simp)) rfl)) rfl (by rw [LM_r1 A _ r 1 (cpR_zero _ _).symm]) ?_
  have hD : zND (LM A (va_up m 1 (m 1 - 0)) (va_up r 1 (cpR (r 1) u 0))) := hD
  refine xloop (P := fun i_4 => Zn (8, xI_X8_notes, 2, 0, 0, 0, 0, false) none 67 [some (za (A 0)), some (zi (i_4 : Int))] [] (zov (LM A (va_up m 1 (m 1 - 0)) (va_up r 1 (cpR (r 1) u i_4))) h) _) (31) (fun i_4 hi_5 ih_6 => ?_) ?_
  · have hi_5 : i_4 < 31 := hi_5
    refine Zn.seg (pc2 := 70) (ls2 := [some (za (A 0)), some (zi (i_4 : Int))]) (st2 := [zi 31, zi (i_4 : Int)]) [(67, .iload_n 1), (68, .bipush 31)] (by decide +kernel) rfl ?_
    refine Zn.icmp (c := .ge) (off := 32) 102 (by decide +kernel) rfl ⟨by omega, by omega⟩ ⟨by decide, by decide⟩ (fun c_7 => absurd (show 31 ≤ (i_4 : Int) from c_7) (by omega)) (fun c_7 => ?_)
    have c_7 : ¬ (31 ≤ (i_4 : Int)) := c_7
    refine Zn.seg (pc2 := 74) (ls2 := [some (za (A 0)), some (zi (i_4 : Int))]) (st2 := [za (A 0)]) [(73, .aload_n 0)] (by decide +kernel) rfl ?_
    refine Zn.get (ix := 7) hD 0 (by decide +kernel) rfl rfl rfl ?_
    refine Zn.seg (pc2 := 82) (ls2 := [some (za (A 0)), some (zi (i_4 : Int))]) (st2 := [za (A 0), zi 31, zi 31, za (A 1)]) [(77, .bipush 31), (79, .bipush 31), (81, .aload_n 0)] (by decide +kernel) rfl ?_
    refine Zn.get (ix := 91) hD 0 (by decide +kernel) rfl rfl rfl ?_
    refine Zn.seg (pc2 := 90) (ls2 := [some (za (A 0)), some (zi (i_4 : Int))]) (st2 := [za (A 0), zi (31 + (31 * (m 1 - 0)) + (i_4 : Int)), za (A 1)]) [(85, .imul), (86, .iadd), (87, .iload_n 1), (88, .iadd), (89, .aload_n 0)] (by decide +kernel) rfl ?_
    refine Zn.get (ix := 7) hD 0 (by decide +kernel) rfl rfl rfl ?_
    refine Zn.seg (pc2 := 94) (ls2 := [some (za (A 0)), some (zi (i_4 : Int))]) (st2 := [zi (i_4 : Int), za (A 1), zi (31 + (31 * (m 1 - 0)) + (i_4 : Int)), za (A 1)]) [(93, .iload_n 1)] (by decide +kernel) rfl ?_
    refine Zn.iald hD 1 (i_4) (by decide +kernel) rfl (by omega) (by omega) rfl ?_
    refine Zn.iast hD 1 (31 + 31 * u + i_4) (by decide +kernel) rfl (by omega) (by omega) rfl ?_
    refine Zn.eq (h2 := zov (LM A (va_up m 1 (m 1 - 0)) (va_up r 1 (va_up (cpR (r 1) u i_4) (31 + 31 * u + i_4) ((cpR (r 1) u i_4) i_4)))) h) rfl rfl rfl (rfl) ?_
    have hD : zND (LM A (va_up m 1 (m 1 - 0)) (va_up r 1 (va_up (cpR (r 1) u i_4) (31 + 31 * u + i_4) ((cpR (r 1) u i_4) i_4)))) := hD
    refine Zn.seg (pc2 := 67) (ls2 := [some (za (A 0)), some (zi ((i_4 : Int) + 1))]) (st2 := []) [(96, .iinc 1 1), (99, .goto (-32))] (by decide +kernel) rfl ?_
    exact Zn.eq rfl (zcons rfl (zcons (congrArg (fun z => some (zi z)) (by omega)) rfl)) rfl (by rw [cpR_step (by omega) (by omega)]) (ih_6)
  · skip
    refine Zn.seg (pc2 := 70) (ls2 := [some (za (A 0)), some (zi (31 : Int))]) (st2 := [zi 31, zi (31 : Int)]) [(67, .iload_n 1), (68, .bipush 31)] (by decide +kernel) rfl ?_
    refine Zn.icmp (c := .ge) (off := 32) 102 (by decide +kernel) rfl ⟨by omega, by omega⟩ ⟨by decide, by decide⟩ (fun c_8 => ?_) (fun c_8 => absurd (show 31 ≤ (31 : Int) from by decide) c_8)
    have c_8 : 31 ≤ (31 : Int) := c_8
    refine Zn.seg (pc2 := 104) (ls2 := [some (za (A 0)), some (zi (31 : Int))]) (st2 := [za (A 0), za (A 0)]) [(102, .aload_n 0), (103, .dup)] (by decide +kernel) rfl ?_
    refine Zn.get (ix := 91) hD 0 (by decide +kernel) rfl rfl rfl ?_
    refine Zn.seg (pc2 := 109) (ls2 := [some (za (A 0)), some (zi (31 : Int))]) (st2 := [zi (m 1 - 0 + 1), za (A 0)]) [(107, .iconst 1), (108, .iadd)] (by decide +kernel) rfl ?_
    refine Zn.put (ix := 91) hD 0 (by decide +kernel) rfl rfl rfl rfl rfl ?_
    refine Zn.eq (h2 := zov (LM A (va_up m 1 (m 1 - 0 + 1)) (va_up r 1 (cpR (r 1) u 31))) h) rfl rfl rfl rfl ?_
    have hD : zND (LM A (va_up m 1 (m 1 - 0 + 1)) (va_up r 1 (cpR (r 1) u 31))) := hD
    exact Zn.vret (by decide +kernel) rfl (⟨rfl, by rw [show m 1 - 0 + 1 = (u : Int) + 1 from by omega]⟩)
theorem sp_X8_notes_b {h : xH} {A : Nat → Nat} {m : Nat → Int} {r : Nat → Nat → Int}  (hL : ∀ q ∈ LM A m r, h q.1 = zcE q.2) (hD : zND (LM A m r)) (hu : m 1 = 6) : zEv k_X8_notes [za (A 0)] h (fun v h2 => v = none ∧ h2 = zov (LM A (va_up m 1 6) (va_up r 1 (cpR (shR (r 1) 155) 5 31))) h) := by
  have hh : h = zov (LM A m r) h := zov_self hL
  refine zEv.body (I := (8, xI_X8_notes, 2, 0, 0, 0, 0, false)) (rt := none) [some (za (A 0)), none] rfl rfl rfl rfl ?_
  refine Zn.eq rfl rfl rfl hh ?_
  have hD : zND (LM A m r) := hD
  refine Zn.seg (pc2 := 2) (ls2 := [some (za (A 0)), some (zi 0)]) (st2 := []) [(0, .iconst 0), (1, .istore_n 1)] (by decide +kernel) rfl ?_
  refine Zn.eq (pc2 := 2) (ls2 := [some (za (A 0)), some (zi (0 : Int))]) (st2 := []) (h2 := zov (LM A m (va_up r 1 (shR (r 1) 0))) h) rfl (zcons rfl (zcons (congrArg (fun z => some (zi z)) (by first | rfl | omega | simp)) rfl)) rfl (by rw [LM_r1 A _ r 1 (shR_zero _).symm]) ?_
  have hD : zND (LM A m (va_up r 1 (shR (r 1) 0))) := hD
  refine xloop (P := fun i_1 => Zn (8, xI_X8_notes, 2, 0, 0, 0, 0, false) none 2 [some (za (A 0)), some (zi (i_1 : Int))] [] (zov (LM A m (va_up r 1 (shR (r 1) i_1))) h) _) (155) (fun i_1 hi_2 ih_3 => ?_) ?_
  · have hi_2 : i_1 < 155 := hi_2
    refine Zn.seg (pc2 := 6) (ls2 := [some (za (A 0)), some (zi (i_1 : Int))]) (st2 := [zi 155, zi (i_1 : Int)]) [(2, .iload_n 1), (3, .sipush 155)] (by decide +kernel) rfl ?_
    refine Zn.icmp (c := .ge) (off := 36) 42 (by decide +kernel) rfl ⟨by omega, by omega⟩ ⟨by decide, by decide⟩ (fun c_4 => absurd (show 155 ≤ (i_1 : Int) from c_4) (by omega)) (fun c_4 => ?_)
    have c_4 : ¬ (155 ≤ (i_1 : Int)) := c_4
    refine Zn.seg (pc2 := 10) (ls2 := [some (za (A 0)), some (zi (i_1 : Int))]) (st2 := [za (A 0)]) [(9, .aload_n 0)] (by decide +kernel) rfl ?_
    refine Zn.get (ix := 91) hD 0 (by decide +kernel) rfl rfl rfl ?_
    refine Zn.seg (pc2 := 15) (ls2 := [some (za (A 0)), some (zi (i_1 : Int))]) (st2 := [zi 6, zi (m 1)]) [(13, .bipush 6)] (by decide +kernel) rfl ?_
    refine Zn.icmp (c := .ne) (off := 27) 42 (by decide +kernel) rfl ⟨by omega, by omega⟩ ⟨by decide, by decide⟩ (fun c_5 => absurd (show m 1 ≠ 6 from c_5) (by omega)) (fun c_5 => ?_)
    have c_5 : ¬ (m 1 ≠ 6) := c_5
    refine Zn.seg (pc2 := 19) (ls2 := [some (za (A 0)), some (zi (i_1 : Int))]) (st2 := [za (A 0)]) [(18, .aload_n 0)] (by decide +kernel) rfl ?_
    refine Zn.get (ix := 7) hD 0 (by decide +kernel) rfl rfl rfl ?_
    refine Zn.seg (pc2 := 27) (ls2 := [some (za (A 0)), some (zi (i_1 : Int))]) (st2 := [za (A 0), zi (31 + (i_1 : Int)), za (A 1)]) [(22, .bipush 31), (24, .iload_n 1), (25, .iadd), (26, .aload_n 0)] (by decide +kernel) rfl ?_
    refine Zn.get (ix := 7) hD 0 (by decide +kernel) rfl rfl rfl ?_
    refine Zn.seg (pc2 := 34) (ls2 := [some (za (A 0)), some (zi (i_1 : Int))]) (st2 := [zi (62 + (i_1 : Int)), za (A 1), zi (31 + (i_1 : Int)), za (A 1)]) [(30, .bipush 62), (32, .iload_n 1), (33, .iadd)] (by decide +kernel) rfl ?_
    refine Zn.iald hD 1 (62 + i_1) (by decide +kernel) rfl (by omega) (by omega) rfl ?_
    refine Zn.iast hD 1 (31 + i_1) (by decide +kernel) rfl (by omega) (by omega) rfl ?_
    refine Zn.eq (h2 := zov (LM A m (va_up r 1 (va_up (shR (r 1) i_1) (31 + i_1) ((shR (r 1) i_1) (62 + i_1))))) h) rfl rfl rfl (rfl) ?_
    have hD : zND (LM A m (va_up r 1 (va_up (shR (r 1) i_1) (31 + i_1) ((shR (r 1) i_1) (62 + i_1))))) := hD
    refine Zn.seg (pc2 := 2) (ls2 := [some (za (A 0)), some (zi ((i_1 : Int) + 1))]) (st2 := []) [(36, .iinc 1 1), (39, .goto (-37))] (by decide +kernel) rfl ?_
    exact Zn.eq rfl (zcons rfl (zcons (congrArg (fun z => some (zi z)) (by omega)) rfl)) rfl (by rw [shR_step]) (ih_3)
  · skip
    refine Zn.seg (pc2 := 6) (ls2 := [some (za (A 0)), some (zi (155 : Int))]) (st2 := [zi 155, zi (155 : Int)]) [(2, .iload_n 1), (3, .sipush 155)] (by decide +kernel) rfl ?_
    refine Zn.icmp (c := .ge) (off := 36) 42 (by decide +kernel) rfl ⟨by omega, by omega⟩ ⟨by decide, by decide⟩ (fun c_6 => ?_) (fun c_6 => absurd (show 155 ≤ (155 : Int) from by decide) c_6)
    have c_6 : 155 ≤ (155 : Int) := c_6
    refine Zn.seg (pc2 := 44) (ls2 := [some (za (A 0)), some (zi (155 : Int))]) (st2 := [za (A 0), za (A 0)]) [(42, .aload_n 0), (43, .dup)] (by decide +kernel) rfl ?_
    refine Zn.get (ix := 91) hD 0 (by decide +kernel) rfl rfl rfl ?_
    refine Zn.seg (pc2 := 48) (ls2 := [some (za (A 0)), some (zi (155 : Int))]) (st2 := [za (A 0), zi (m 1), za (A 0)]) [(47, .aload_n 0)] (by decide +kernel) rfl ?_
    refine Zn.get (ix := 91) hD 0 (by decide +kernel) rfl rfl rfl ?_
    refine Zn.seg (pc2 := 53) (ls2 := [some (za (A 0)), some (zi (155 : Int))]) (st2 := [zi 6, zi (m 1), zi (m 1), za (A 0)]) [(51, .bipush 6)] (by decide +kernel) rfl ?_
    refine Zn.icmp (c := .ne) (off := 7) 60 (by decide +kernel) rfl ⟨by omega, by omega⟩ ⟨by decide, by decide⟩ (fun c_7 => absurd (show m 1 ≠ 6 from c_7) (by omega)) (fun c_7 => ?_)
    have c_7 : ¬ (m 1 ≠ 6) := c_7
    refine Zn.seg (pc2 := 62) (ls2 := [some (za (A 0)), some (zi (155 : Int))]) (st2 := [zi (m 1 - 1), za (A 0)]) [(56, .iconst 1), (57, .goto 4), (61, .isub)] (by decide +kernel) rfl ?_
    refine Zn.put (ix := 91) hD 0 (by decide +kernel) rfl rfl rfl rfl rfl ?_
    refine Zn.eq (h2 := zov (LM A (va_up m 1 (m 1 - 1)) (va_up r 1 (shR (r 1) 155))) h) rfl rfl rfl rfl ?_
    have hD : zND (LM A (va_up m 1 (m 1 - 1)) (va_up r 1 (shR (r 1) 155))) := hD
    refine Zn.seg (pc2 := 67) (ls2 := [some (za (A 0)), some (zi 0)]) (st2 := []) [(65, .iconst 0), (66, .istore_n 1)] (by decide +kernel) rfl ?_
    refine Zn.eq (pc2 := 67) (ls2 := [some (za (A 0)), some (zi (0 : Int))]) (st2 := []) (h2 := zov (LM A (va_up m 1 (m 1 - 1)) (va_up r 1 (cpR (shR (r 1) 155) 5 0))) h) rfl (zcons rfl (zcons (congrArg (fun z => some (zi z)) (by first | rfl | omega | simp)) rfl)) rfl (by rw [cpR_zero]) ?_
    have hD : zND (LM A (va_up m 1 (m 1 - 1)) (va_up r 1 (cpR (shR (r 1) 155) 5 0))) := hD
    refine xloop (P := fun i_8 => Zn (8, xI_X8_notes, 2, 0, 0, 0, 0, false) none 67 [some (za (A 0)), some (zi (i_8 : Int))] [] (zov (LM A (va_up m 1 (m 1 - 1)) (va_up r 1 (cpR (shR (r 1) 155) 5 i_8))) h) _) (31) (fun i_8 hi_9 ih_10 => ?_) ?_
    · have hi_9 : i_8 < 31 := hi_9
      refine Zn.seg (pc2 := 70) (ls2 := [some (za (A 0)), some (zi (i_8 : Int))]) (st2 := [zi 31, zi (i_8 : Int)]) [(67, .iload_n 1), (68, .bipush 31)] (by decide +kernel) rfl ?_
      refine Zn.icmp (c := .ge) (off := 32) 102 (by decide +kernel) rfl ⟨by omega, by omega⟩ ⟨by decide, by decide⟩ (fun c_11 => absurd (show 31 ≤ (i_8 : Int) from c_11) (by omega)) (fun c_11 => ?_)
      have c_11 : ¬ (31 ≤ (i_8 : Int)) := c_11
      refine Zn.seg (pc2 := 74) (ls2 := [some (za (A 0)), some (zi (i_8 : Int))]) (st2 := [za (A 0)]) [(73, .aload_n 0)] (by decide +kernel) rfl ?_
      refine Zn.get (ix := 7) hD 0 (by decide +kernel) rfl rfl rfl ?_
      refine Zn.seg (pc2 := 82) (ls2 := [some (za (A 0)), some (zi (i_8 : Int))]) (st2 := [za (A 0), zi 31, zi 31, za (A 1)]) [(77, .bipush 31), (79, .bipush 31), (81, .aload_n 0)] (by decide +kernel) rfl ?_
      refine Zn.get (ix := 91) hD 0 (by decide +kernel) rfl rfl rfl ?_
      refine Zn.seg (pc2 := 90) (ls2 := [some (za (A 0)), some (zi (i_8 : Int))]) (st2 := [za (A 0), zi (31 + (31 * (m 1 - 1)) + (i_8 : Int)), za (A 1)]) [(85, .imul), (86, .iadd), (87, .iload_n 1), (88, .iadd), (89, .aload_n 0)] (by decide +kernel) rfl ?_
      refine Zn.get (ix := 7) hD 0 (by decide +kernel) rfl rfl rfl ?_
      refine Zn.seg (pc2 := 94) (ls2 := [some (za (A 0)), some (zi (i_8 : Int))]) (st2 := [zi (i_8 : Int), za (A 1), zi (31 + (31 * (m 1 - 1)) + (i_8 : Int)), za (A 1)]) [(93, .iload_n 1)] (by decide +kernel) rfl ?_
      refine Zn.iald hD 1 (i_8) (by decide +kernel) rfl (by omega) (by omega) rfl ?_
      refine Zn.iast hD 1 (31 + 31 * 5 + i_8) (by decide +kernel) rfl (by omega) (by omega) rfl ?_
      refine Zn.eq (h2 := zov (LM A (va_up m 1 (m 1 - 1)) (va_up r 1 (va_up (cpR (shR (r 1) 155) 5 i_8) (31 + 31 * 5 + i_8) ((cpR (shR (r 1) 155) 5 i_8) i_8)))) h) rfl rfl rfl (rfl) ?_
      have hD : zND (LM A (va_up m 1 (m 1 - 1)) (va_up r 1 (va_up (cpR (shR (r 1) 155) 5 i_8) (31 + 31 * 5 + i_8) ((cpR (shR (r 1) 155) 5 i_8) i_8)))) := hD
      refine Zn.seg (pc2 := 67) (ls2 := [some (za (A 0)), some (zi ((i_8 : Int) + 1))]) (st2 := []) [(96, .iinc 1 1), (99, .goto (-32))] (by decide +kernel) rfl ?_
      exact Zn.eq rfl (zcons rfl (zcons (congrArg (fun z => some (zi z)) (by omega)) rfl)) rfl (by rw [cpR_step (by omega) (by omega)]) (ih_10)
    · skip
      refine Zn.seg (pc2 := 70) (ls2 := [some (za (A 0)), some (zi (31 : Int))]) (st2 := [zi 31, zi (31 : Int)]) [(67, .iload_n 1), (68, .bipush 31)] (by decide +kernel) rfl ?_
      refine Zn.icmp (c := .ge) (off := 32) 102 (by decide +kernel) rfl ⟨by omega, by omega⟩ ⟨by decide, by decide⟩ (fun c_12 => ?_) (fun c_12 => absurd (show 31 ≤ (31 : Int) from by decide) c_12)
      have c_12 : 31 ≤ (31 : Int) := c_12
      refine Zn.seg (pc2 := 104) (ls2 := [some (za (A 0)), some (zi (31 : Int))]) (st2 := [za (A 0), za (A 0)]) [(102, .aload_n 0), (103, .dup)] (by decide +kernel) rfl ?_
      refine Zn.get (ix := 91) hD 0 (by decide +kernel) rfl rfl rfl ?_
      refine Zn.seg (pc2 := 109) (ls2 := [some (za (A 0)), some (zi (31 : Int))]) (st2 := [zi (m 1 - 1 + 1), za (A 0)]) [(107, .iconst 1), (108, .iadd)] (by decide +kernel) rfl ?_
      refine Zn.put (ix := 91) hD 0 (by decide +kernel) rfl rfl rfl rfl rfl ?_
      refine Zn.eq (h2 := zov (LM A (va_up m 1 (m 1 - 1 + 1)) (va_up r 1 (cpR (shR (r 1) 155) 5 31))) h) rfl rfl rfl rfl ?_
      have hD : zND (LM A (va_up m 1 (m 1 - 1 + 1)) (va_up r 1 (cpR (shR (r 1) 155) 5 31))) := hD
      exact Zn.vret (by decide +kernel) rfl (⟨rfl, by rw [show m 1 - 1 + 1 = 6 from by omega]⟩)
/-- the history of the reference, once more is noted -/
def ntU (u : Nat) : Nat := if u < 6 then u + 1 else 6
def ntR (R : Nat → Int) (u : Nat) : Nat → Int := if u < 6 then cpR R u 31 else cpR (shR R 155) 5 31
theorem sp_X8_notes {h : xH} {A : Nat → Nat} {m : Nat → Int} {r : Nat → Nat → Int} {u : Nat} (hL : ∀ q ∈ LM A m r, h q.1 = zcE q.2) (hD : zND (LM A m r)) (hu : m 1 = (u : Int)) (hu6 : u ≤ 6) : zEv k_X8_notes [za (A 0)] h (fun v h2 => v = none ∧ h2 = zov (LM A (va_up m 1 (ntU u : Int)) (va_up r 1 (ntR (r 1) u))) h) := by
  by_cases h6 : u < 6
  · rw [ntU, ntR, if_pos h6, if_pos h6]
    exact sp_X8_notes_a hL hD hu h6
  · rw [ntU, ntR, if_neg h6, if_neg h6]
    exact sp_X8_notes_b hL hD (by omega)
