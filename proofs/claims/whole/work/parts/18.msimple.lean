/-! the reference's undo, seed, image, restore, drift, tape and sheets -/
def unR (R : Nat → Int) (u k : Nat) : Nat → Int := fun j => if j < k then R (31 + 31 * u + j) else R j
theorem unR_zero (R : Nat → Int) (u : Nat) : unR R u 0 = R := by
  funext j
  unfold unR
  rw [if_neg (by omega)]
theorem unR_step {R : Nat → Int} {u k : Nat} : va_up (unR R u k) k (unR R u k (31 + 31 * u + k)) = unR R u (k + 1) := by
  funext j
  simp only [va_up, unR]
  by_cases h : j = k
  · subst h
    rw [if_pos rfl, if_neg (by omega), if_pos (by omega)]
  · rw [if_neg h]
    by_cases h2 : j < k
    · rw [if_pos h2, if_pos (by omega)]
    · rw [if_neg h2, if_neg (by omega)]
def cpF (f g : Nat → Int) (k : Nat) : Nat → Int := fun j => if j < k then f j else g j
theorem cpF_zero (f g : Nat → Int) : cpF f g 0 = g := by
  funext j
  unfold cpF
  rw [if_neg (by omega)]
theorem cpF_step {f g : Nat → Int} {k : Nat} : va_up (cpF f g k) k (f k) = cpF f g (k + 1) := by
  funext j
  simp only [va_up, cpF]
  by_cases h : j = k
  · subst h
    rw [if_pos rfl, if_pos (by omega)]
  · rw [if_neg h]
    by_cases h2 : j < k
    · rw [if_pos h2, if_pos (by omega)]
    · rw [if_neg h2, if_neg (by omega)]
/-- what the machine finds at n items from i on -/
def machV (L Z l i n : Int) : Int := if L < 0 then -11 else if L ≠ l then -12 else if i < 0 ∨ n < 0 ∨ Z < i + n then -13 else 0
theorem machV_spec (L Z l i n : Int) : (machV L Z l i n = -11 ∧ L < 0) ∨ (machV L Z l i n = -12 ∧ ¬ L < 0 ∧ L ≠ l) ∨ (machV L Z l i n = -13 ∧ ¬ L < 0 ∧ L = l ∧ (i < 0 ∨ n < 0 ∨ Z < i + n)) ∨ (machV L Z l i n = 0 ∧ ¬ L < 0 ∧ L = l ∧ ¬ (i < 0 ∨ n < 0 ∨ Z < i + n)) := by
  unfold machV
  split
  · exact Or.inl ⟨rfl, by assumption⟩
  · split
    · exact Or.inr (Or.inl ⟨rfl, by assumption, by assumption⟩)
    · split
      · exact Or.inr (Or.inr (Or.inl ⟨rfl, by assumption, by omega, by assumption⟩))
      · exact Or.inr (Or.inr (Or.inr ⟨rfl, by assumption, by omega, by assumption⟩))
/-- a long, cut to a byte, a short, an int -/
def s8 (v : Int) : Int := v.bmod 256
def s16 (v : Int) : Int := v.bmod 65536
def s32 (v : Int) : Int := v.bmod 4294967296
theorem s8_in (v : Int) : -128 ≤ s8 v ∧ s8 v ≤ 127 := by
  unfold s8
  have h1 := Int.le_bmod (x := v) (m := 256) (by decide)
  have h2 := Int.bmod_lt (x := v) (m := 256) (by decide)
  omega
theorem s16_in (v : Int) : -32768 ≤ s16 v ∧ s16 v ≤ 32767 := by
  unfold s16
  have h1 := Int.le_bmod (x := v) (m := 65536) (by decide)
  have h2 := Int.bmod_lt (x := v) (m := 65536) (by decide)
  omega
theorem s32_in (v : Int) : -2147483648 ≤ s32 v ∧ s32 v ≤ 2147483647 := by
  unfold s32
  have h1 := Int.le_bmod (x := v) (m := 4294967296) (by decide)
  have h2 := Int.bmod_lt (x := v) (m := 4294967296) (by decide)
  omega
theorem zs8 (v : Int) : (zI v).toInt8.toInt32 = zI (s8 v) := by
  rw [← Int32.toInt_inj, Int8.toInt_toInt32, Int32.toInt_toInt8, Int32.toInt_ofInt, Int32.toInt_ofInt]
  rw [Int.bmod_bmod_of_dvd (by decide)]
  have h := s8_in v
  show v.bmod 256 = (v.bmod 256).bmod 4294967296
  exact (Int.bmod_eq_of_le (by unfold s8 at h; omega) (by unfold s8 at h; omega)).symm
theorem zs16 (v : Int) : (zI v).toInt16.toInt32 = zI (s16 v) := by
  rw [← Int32.toInt_inj, Int16.toInt_toInt32, Int32.toInt_toInt16, Int32.toInt_ofInt, Int32.toInt_ofInt]
  rw [Int.bmod_bmod_of_dvd (by decide)]
  have h := s16_in v
  show v.bmod 65536 = (v.bmod 65536).bmod 4294967296
  exact (Int.bmod_eq_of_le (by unfold s16 at h; omega) (by unfold s16 at h; omega)).symm
theorem zs32 (v : Int) : zI v = zI (s32 v) := by
  rw [← Int32.toInt_inj, Int32.toInt_ofInt, Int32.toInt_ofInt]
  exact (Int.bmod_bmod_of_dvd (by decide)).symm
def castV (l v : Int) : Int := if l = 0 then s8 v else if l = 1 then s16 v else if l = 2 then s32 v else v
theorem manyN_mono (R : Nat → Int) (k : Int) {a : Nat} : ∀ {b : Nat}, a ≤ b → manyN R k a ≤ manyN R k b
  | 0, h => by rw [Nat.le_zero.mp h]; exact Nat.le_refl _
  | b + 1, h => by
    by_cases e : a = b + 1
    · rw [e]; exact Nat.le_refl _
    · exact Nat.le_trans (manyN_mono R k (b := b) (by omega)) (by rw [manyN]; omega)
theorem manyN_cs (R : Nat → Int) (n : Nat) : (0 < R (n + 18) ∧ manyN R 0 (n + 1) = manyN R 0 n + 1) ∨ (¬ 0 < R (n + 18) ∧ manyN R 0 (n + 1) = manyN R 0 n) := by
  by_cases h : 0 < R (n + 18)
  · exact Or.inl ⟨h, manyN_t h (Or.inl rfl)⟩
  · exact Or.inr ⟨h, manyN_f (fun q => h q.1)⟩
/-- the points, filmed behind b -/
def flmF (R F : Nat → Int) (b : Nat) : Nat → Nat → Int
  | 0 => F
  | n + 1 => if 0 < R (n + 18) then va_up (va_up (flmF R F b n) (b + 2 * manyN R 0 n) ((n : Int) - 6)) (b + 2 * manyN R 0 n + 1) (R (n + 5)) else flmF R F b n
theorem flmF_zero (R F : Nat → Int) (b : Nat) : flmF R F b 0 = F := rfl
theorem flmF_t {R F : Nat → Int} {b n : Nat} (h : 0 < R (n + 18)) : va_up (va_up (flmF R F b n) (b + 2 * manyN R 0 n) ((n : Int) - 6)) (b + 2 * manyN R 0 n + 1) (R (n + 5)) = flmF R F b (n + 1) := by rw [flmF, if_pos h]
theorem flmF_f {R F : Nat → Int} {b n : Nat} (h : ¬ 0 < R (n + 18)) : flmF R F b n = flmF R F b (n + 1) := by rw [flmF, if_neg h]
def zrF (F : Nat → Int) (b k : Nat) : Nat → Int := fun j => if b ≤ j ∧ j < b + k then 0 else F j
theorem zrF_zero (F : Nat → Int) (b : Nat) : zrF F b 0 = F := by
  funext j
  unfold zrF
  rw [if_neg (by omega)]
theorem zrF_step {F : Nat → Int} {b k : Nat} : va_up (zrF F b k) (b + k) 0 = zrF F b (k + 1) := by
  funext j
  simp only [va_up, zrF]
  by_cases h : j = b + k
  · subst h
    rw [if_pos rfl, if_pos (by omega)]
  · rw [if_neg h]
    by_cases h2 : b ≤ j ∧ j < b + k
    · rw [if_pos h2, if_pos (by omega)]
    · rw [if_neg h2, if_neg (by omega)]
theorem cpy_zero (f g : Nat → Int) (a b : Nat) : va_cpy f g a b 0 = g := by
  funext j
  unfold va_cpy
  rw [if_neg (by omega)]
theorem cpy_step {f g : Nat → Int} {b k : Nat} : va_up (va_cpy f g 0 b k) (b + k) (f k) = va_cpy f g 0 b (k + 1) := by
  funext j
  simp only [va_up, va_cpy]
  by_cases h : j = b + k
  · subst h
    rw [if_pos rfl, if_pos (by omega)]
    congr 1
    omega
  · rw [if_neg h]
    by_cases h2 : b ≤ j ∧ j < b + k
    · rw [if_pos h2, if_pos (by omega)]
    · rw [if_neg h2, if_neg (by omega)]
theorem cpy_step2 {f g : Nat → Int} {a k : Nat} : va_up (va_cpy f g a 0 k) k (f (a + k)) = va_cpy f g a 0 (k + 1) := by
  funext j
  simp only [va_up, va_cpy]
  by_cases h : j = k
  · subst h
    rw [if_pos rfl, if_pos (by omega)]
    congr 1
  · rw [if_neg h]
    by_cases h2 : 0 ≤ j ∧ j < 0 + k
    · rw [if_pos h2, if_pos (by omega)]
    · rw [if_neg h2, if_neg (by omega)]
/-- a DRIFT, turn by turn -/
def drW (w : Nat) : Nat → Nat
  | 0 => w
  | n + 1 => turnW (drW w n)
def drU (u : Nat) : Nat → Nat
  | 0 => u
  | n + 1 => ntU (drU u n)
def dr1 (R : Nat → Int) (u w : Nat) : Nat → Int :=
  let S := va_up (ntR R u) 4 (turnW w : Int)
  let p := turnW w / 65536 % 13
  if 0 < S (p + 18) ∨ manyN S 0 13 < 8 then va_up (va_up S (p + 5) (((turnW w / 65536 / 16 % 199 : Nat) : Int) - 99)) (p + 18) (if S (p + 18) = 0 then 1 else S (p + 18)) else S
def drR (R : Nat → Int) (u w : Nat) : Nat → Nat → Int
  | 0 => R
  | n + 1 => dr1 (drR R u w n) (drU u n) (drW w n)
theorem ntU_le (u : Nat) : ntU u ≤ 6 := by
  unfold ntU
  split <;> omega
theorem drU_le {u : Nat} (h : u ≤ 6) : ∀ n, drU u n ≤ 6
  | 0 => h
  | n + 1 => ntU_le _
theorem kOK_4 {R : Nat → Int} {y : Int} (h : kOK R) : kOK (va_up R 4 y) := fun q hq => by
  rw [va_up_n (by omega)]
  exact h q hq
theorem dr1_ok {R : Nat → Int} {u w : Nat} (h : kOK R) : kOK (dr1 R u w) ∧ dr1 R u w 4 = (turnW w : Int) := by
  have h1 : kOK (va_up (ntR R u) 4 (turnW w : Int)) := kOK_4 (kOK_nt h)
  have hp : turnW w / 65536 % 13 < 13 := Nat.mod_lt _ (by decide)
  have h2 := h1 _ hp
  unfold dr1
  dsimp only
  split
  · refine ⟨kOK_up (kOK_y h1 hp) ?_ ?_, ?_⟩
    · split <;> omega
    · split <;> omega
    · rw [va_up_n (by omega), va_up_n (by omega), va_up_s]
  · exact ⟨h1, va_up_s _ _ _⟩
theorem drR_both {R : Nat → Int} {u w : Nat} (h : kOK R) (hw : R 4 = (w : Int)) : ∀ n, kOK (drR R u w n) ∧ drR R u w n 4 = ((drW w n : Nat) : Int)
  | 0 => ⟨h, hw⟩
  | n + 1 => dr1_ok (drR_both h hw n).1
theorem drR_ok {R : Nat → Int} {u w : Nat} (h : kOK R) (hw : R 4 = (w : Int)) (n : Nat) : kOK (drR R u w n) := (drR_both h hw n).1
theorem drR_w {R : Nat → Int} {u w : Nat} (h : kOK R) (hw : R 4 = (w : Int)) (n : Nat) : drR R u w n 4 = ((drW w n : Nat) : Int) := (drR_both h hw n).2
theorem dr1_t {R : Nat → Int} {u w wn : Nat} (e : wn = turnW w) (h : 0 < va_up (ntR R u) 4 (wn : Int) (wn / 65536 % 13 + 18) ∨ manyN (va_up (ntR R u) 4 (wn : Int)) 0 13 < 8) (h2 : va_up (ntR R u) 4 (wn : Int) (wn / 65536 % 13 + 18) = 0) : dr1 R u w = va_up (va_up (va_up (ntR R u) 4 (wn : Int)) (wn / 65536 % 13 + 5) (((wn / 65536 / 16 % 199 : Nat) : Int) - 99)) (wn / 65536 % 13 + 18) 1 := by
  unfold dr1
  dsimp only
  rw [← e, if_pos h, if_pos h2]
theorem dr1_t2 {R : Nat → Int} {u w wn : Nat} (e : wn = turnW w) (h : 0 < va_up (ntR R u) 4 (wn : Int) (wn / 65536 % 13 + 18) ∨ manyN (va_up (ntR R u) 4 (wn : Int)) 0 13 < 8) (h2 : ¬ va_up (ntR R u) 4 (wn : Int) (wn / 65536 % 13 + 18) = 0) : dr1 R u w = va_up (va_up (va_up (ntR R u) 4 (wn : Int)) (wn / 65536 % 13 + 5) (((wn / 65536 / 16 % 199 : Nat) : Int) - 99)) (wn / 65536 % 13 + 18) (va_up (ntR R u) 4 (wn : Int) (wn / 65536 % 13 + 18)) := by
  unfold dr1
  dsimp only
  rw [← e, if_pos h, if_neg h2]
theorem dr1_f {R : Nat → Int} {u w wn : Nat} (e : wn = turnW w) (h : ¬ 0 < va_up (ntR R u) 4 (wn : Int) (wn / 65536 % 13 + 18)) (h2 : ¬ manyN (va_up (ntR R u) 4 (wn : Int)) 0 13 < 8) : dr1 R u w = va_up (ntR R u) 4 (wn : Int) := by
  unfold dr1
  dsimp only
  rw [← e, if_neg (fun q => q.elim h h2)]
theorem sp_X8_undo_none {h : xH} {A : Nat → Nat} {m : Nat → Int} {r : Nat → Nat → Int}  (hL : ∀ q ∈ LM A m r, h q.1 = zcE q.2) (hD : zND (LM A m r)) (hu : m 1 = 0) : zEv k_X8_undo [za (A 0)] h (fun v h2 => v = some (zi (-4)) ∧ h2 = h) := by
  have hh : h = zov (LM A m r) h := zov_self hL
  refine zEv.body (I := (8, xI_X8_undo, 2, 0, 0, 0, 0, false)) (rt := (some .int)) [some (za (A 0)), none] rfl rfl rfl rfl ?_
  refine Zn.eq rfl rfl rfl hh ?_
  have hD : zND (LM A m r) := hD
  refine Zn.seg (pc2 := 1) (ls2 := [some (za (A 0)), none]) (st2 := [za (A 0)]) [(0, .aload_n 0)] (by decide +kernel) rfl ?_
  refine Zn.get (ix := 91) hD 0 (by decide +kernel) rfl rfl rfl ?_
  refine Zn.ifc (c := .ne) (off := 6) 10 (by decide +kernel) rfl ⟨by omega, by omega⟩ (fun c_1 => absurd (show m 1 ≠ 0 from c_1) (by omega)) (fun c_1 => ?_)
  have c_1 : ¬ (m 1 ≠ 0) := c_1
  refine Zn.seg (pc2 := 9) (ls2 := [some (za (A 0)), none]) (st2 := [zi (-4)]) [(7, .bipush (-4))] (by decide +kernel) rfl ?_
  exact Zn.iret (by decide +kernel) rfl (⟨by first | rfl | (refine congrArg some (congrArg zi ?_); first | omega | (simp_all; done) | (simp_all; omega)), hh.symm⟩)
theorem sp_X8_undo_ok {h : xH} {A : Nat → Nat} {m : Nat → Int} {r : Nat → Nat → Int} {u : Nat} (hL : ∀ q ∈ LM A m r, h q.1 = zcE q.2) (hD : zND (LM A m r)) (hu : m 1 = (u : Int) + 1) (hu6 : u < 6) : zEv k_X8_undo [za (A 0)] h (fun v h2 => v = some (zi (u : Int)) ∧ h2 = zov (LM A (va_up m 1 (u : Int)) (va_up r 1 (unR (r 1) u 31))) h) := by
  have hh : h = zov (LM A m r) h := zov_self hL
  refine zEv.body (I := (8, xI_X8_undo, 2, 0, 0, 0, 0, false)) (rt := (some .int)) [some (za (A 0)), none] rfl rfl rfl rfl ?_
  refine Zn.eq rfl rfl rfl hh ?_
  have hD : zND (LM A m r) := hD
  refine Zn.seg (pc2 := 1) (ls2 := [some (za (A 0)), none]) (st2 := [za (A 0)]) [(0, .aload_n 0)] (by decide +kernel) rfl ?_
  refine Zn.get (ix := 91) hD 0 (by decide +kernel) rfl rfl rfl ?_
  refine Zn.ifc (c := .ne) (off := 6) 10 (by decide +kernel) rfl ⟨by omega, by omega⟩ (fun c_1 => ?_) (fun c_1 => absurd (show m 1 ≠ 0 from by omega) c_1)
  have c_1 : m 1 ≠ 0 := c_1
  refine Zn.seg (pc2 := 12) (ls2 := [some (za (A 0)), none]) (st2 := [za (A 0), za (A 0)]) [(10, .aload_n 0), (11, .dup)] (by decide +kernel) rfl ?_
  refine Zn.get (ix := 91) hD 0 (by decide +kernel) rfl rfl rfl ?_
  refine Zn.seg (pc2 := 17) (ls2 := [some (za (A 0)), none]) (st2 := [zi (m 1 - 1), za (A 0)]) [(15, .iconst 1), (16, .isub)] (by decide +kernel) rfl ?_
  refine Zn.topi (y := (u : Int)) (by omega) ?_
  refine Zn.put (ix := 91) hD 0 (by decide +kernel) rfl rfl rfl rfl rfl ?_
  refine Zn.eq (h2 := zov (LM A (va_up m 1 (u : Int)) r) h) rfl rfl rfl rfl ?_
  have hD : zND (LM A (va_up m 1 (u : Int)) r) := hD
  refine Zn.seg (pc2 := 22) (ls2 := [some (za (A 0)), some (zi 0)]) (st2 := []) [(20, .iconst 0), (21, .istore_n 1)] (by decide +kernel) rfl ?_
  refine Zn.eq (pc2 := 22) (ls2 := [some (za (A 0)), some (zi (0 : Int))]) (st2 := []) (h2 := zov (LM A (va_up m 1 (u : Int)) (va_up r 1 (unR (r 1) u 0))) h) rfl (zcons rfl (zcons (congrArg (fun z => some (zi z)) (by first | rfl | omega | simp)) rfl)) rfl (by rw [LM_r1 A _ r 1 (unR_zero _ _).symm]) ?_
  have hD : zND (LM A (va_up m 1 (u : Int)) (va_up r 1 (unR (r 1) u 0))) := hD
  refine xloop (P := fun i_2 => Zn (8, xI_X8_undo, 2, 0, 0, 0, 0, false) (some .int) 22 [some (za (A 0)), some (zi (i_2 : Int))] [] (zov (LM A (va_up m 1 (u : Int)) (va_up r 1 (unR (r 1) u i_2))) h) _) (31) (fun i_2 hi_3 ih_4 => ?_) ?_
  · have hi_3 : i_2 < 31 := hi_3
    refine Zn.seg (pc2 := 25) (ls2 := [some (za (A 0)), some (zi (i_2 : Int))]) (st2 := [zi 31, zi (i_2 : Int)]) [(22, .iload_n 1), (23, .bipush 31)] (by decide +kernel) rfl ?_
    refine Zn.icmp (c := .ge) (off := 32) 57 (by decide +kernel) rfl ⟨by omega, by omega⟩ ⟨by decide, by decide⟩ (fun c_5 => absurd (show 31 ≤ (i_2 : Int) from c_5) (by omega)) (fun c_5 => ?_)
    have c_5 : ¬ (31 ≤ (i_2 : Int)) := c_5
    refine Zn.seg (pc2 := 29) (ls2 := [some (za (A 0)), some (zi (i_2 : Int))]) (st2 := [za (A 0)]) [(28, .aload_n 0)] (by decide +kernel) rfl ?_
    refine Zn.get (ix := 7) hD 0 (by decide +kernel) rfl rfl rfl ?_
    refine Zn.seg (pc2 := 34) (ls2 := [some (za (A 0)), some (zi (i_2 : Int))]) (st2 := [za (A 0), zi (i_2 : Int), za (A 1)]) [(32, .iload_n 1), (33, .aload_n 0)] (by decide +kernel) rfl ?_
    refine Zn.get (ix := 7) hD 0 (by decide +kernel) rfl rfl rfl ?_
    refine Zn.seg (pc2 := 42) (ls2 := [some (za (A 0)), some (zi (i_2 : Int))]) (st2 := [za (A 0), zi 31, zi 31, za (A 1), zi (i_2 : Int), za (A 1)]) [(37, .bipush 31), (39, .bipush 31), (41, .aload_n 0)] (by decide +kernel) rfl ?_
    refine Zn.get (ix := 91) hD 0 (by decide +kernel) rfl rfl rfl ?_
    refine Zn.seg (pc2 := 49) (ls2 := [some (za (A 0)), some (zi (i_2 : Int))]) (st2 := [zi (31 + (31 * (u : Int)) + (i_2 : Int)), za (A 1), zi (i_2 : Int), za (A 1)]) [(45, .imul), (46, .iadd), (47, .iload_n 1), (48, .iadd)] (by decide +kernel) rfl ?_
    refine Zn.iald hD 1 (31 + 31 * u + i_2) (by decide +kernel) rfl (by omega) (by omega) rfl ?_
    refine Zn.iast hD 1 (i_2) (by decide +kernel) rfl (by omega) (by omega) rfl ?_
    refine Zn.eq (h2 := zov (LM A (va_up m 1 (u : Int)) (va_up r 1 (va_up (unR (r 1) u i_2) i_2 ((unR (r 1) u i_2) (31 + 31 * u + i_2))))) h) rfl rfl rfl (rfl) ?_
    have hD : zND (LM A (va_up m 1 (u : Int)) (va_up r 1 (va_up (unR (r 1) u i_2) i_2 ((unR (r 1) u i_2) (31 + 31 * u + i_2))))) := hD
    refine Zn.seg (pc2 := 22) (ls2 := [some (za (A 0)), some (zi ((i_2 : Int) + 1))]) (st2 := []) [(51, .iinc 1 1), (54, .goto (-32))] (by decide +kernel) rfl ?_
    exact Zn.eq rfl (zcons rfl (zcons (congrArg (fun z => some (zi z)) (by omega)) rfl)) rfl (by rw [unR_step]) (ih_4)
  · skip
    refine Zn.seg (pc2 := 25) (ls2 := [some (za (A 0)), some (zi (31 : Int))]) (st2 := [zi 31, zi (31 : Int)]) [(22, .iload_n 1), (23, .bipush 31)] (by decide +kernel) rfl ?_
    refine Zn.icmp (c := .ge) (off := 32) 57 (by decide +kernel) rfl ⟨by omega, by omega⟩ ⟨by decide, by decide⟩ (fun c_6 => ?_) (fun c_6 => absurd (show 31 ≤ (31 : Int) from by decide) c_6)
    have c_6 : 31 ≤ (31 : Int) := c_6
    refine Zn.seg (pc2 := 58) (ls2 := [some (za (A 0)), some (zi (31 : Int))]) (st2 := [za (A 0)]) [(57, .aload_n 0)] (by decide +kernel) rfl ?_
    refine Zn.get (ix := 91) hD 0 (by decide +kernel) rfl rfl rfl ?_
    exact Zn.iret (by decide +kernel) rfl (⟨by first | rfl | (refine congrArg some (congrArg zi ?_); first | omega | (simp_all; done) | (simp_all; omega)), rfl⟩)
theorem sp_X8_seed_bad {h : xH} {A : Nat → Nat} {m : Nat → Int} {r : Nat → Nat → Int} {x : Int} (hL : ∀ q ∈ LM A m r, h q.1 = zcE q.2) (hD : zND (LM A m r)) (zx : zInI x) (hb : x < 0) : zEv k_X8_seed [za (A 0), zi x] h (fun v h2 => v = some (zi (-1)) ∧ h2 = h) := by
  have hh : h = zov (LM A m r) h := zov_self hL
  have zx1 := zx.1
  have zx2 := zx.2
  refine zEv.body (I := (8, xI_X8_seed, 3, 0, 0, 0, 0, false)) (rt := (some .int)) [some (za (A 0)), some (zi x), none] rfl rfl rfl rfl ?_
  refine Zn.eq rfl rfl rfl hh ?_
  have hD : zND (LM A m r) := hD
  refine Zn.seg (pc2 := 1) (ls2 := [some (za (A 0)), some (zi x), none]) (st2 := [zi x]) [(0, .iload_n 1)] (by decide +kernel) rfl ?_
  refine Zn.ifc (c := .ge) (off := 5) 6 (by decide +kernel) rfl ⟨by omega, by omega⟩ (fun c_1 => absurd (show 0 ≤ x from c_1) (by omega)) (fun c_1 => ?_)
  have c_1 : ¬ (0 ≤ x) := c_1
  refine Zn.seg (pc2 := 5) (ls2 := [some (za (A 0)), some (zi x), none]) (st2 := [zi (-1)]) [(4, .iconst (-1))] (by decide +kernel) rfl ?_
  exact Zn.iret (by decide +kernel) rfl (⟨by first | rfl | (refine congrArg some (congrArg zi ?_); first | omega | (simp_all; done) | (simp_all; omega)), hh.symm⟩)
theorem sp_X8_seed_ok {h : xH} {A : Nat → Nat} {m : Nat → Int} {r : Nat → Nat → Int} {x : Int} (hL : ∀ q ∈ LM A m r, h q.1 = zcE q.2) (hD : zND (LM A m r)) (zx : zInI x) (hb : 0 ≤ x) : zEv k_X8_seed [za (A 0), zi x] h (fun v h2 => v = some (zi (r 1 4)) ∧ h2 = zov (LM A m (va_up r 1 (va_up (r 1) 4 x))) h) := by
  have hh : h = zov (LM A m r) h := zov_self hL
  have zx1 := zx.1
  have zx2 := zx.2
  refine zEv.body (I := (8, xI_X8_seed, 3, 0, 0, 0, 0, false)) (rt := (some .int)) [some (za (A 0)), some (zi x), none] rfl rfl rfl rfl ?_
  refine Zn.eq rfl rfl rfl hh ?_
  have hD : zND (LM A m r) := hD
  refine Zn.seg (pc2 := 1) (ls2 := [some (za (A 0)), some (zi x), none]) (st2 := [zi x]) [(0, .iload_n 1)] (by decide +kernel) rfl ?_
  refine Zn.ifc (c := .ge) (off := 5) 6 (by decide +kernel) rfl ⟨by omega, by omega⟩ (fun c_1 => ?_) (fun c_1 => absurd (show 0 ≤ x from by omega) c_1)
  have c_1 : 0 ≤ x := c_1
  refine Zn.seg (pc2 := 7) (ls2 := [some (za (A 0)), some (zi x), none]) (st2 := [za (A 0)]) [(6, .aload_n 0)] (by decide +kernel) rfl ?_
  refine Zn.get (ix := 7) hD 0 (by decide +kernel) rfl rfl rfl ?_
  refine Zn.seg (pc2 := 11) (ls2 := [some (za (A 0)), some (zi x), none]) (st2 := [zi 4, za (A 1)]) [(10, .iconst 4)] (by decide +kernel) rfl ?_
  refine Zn.iald hD 1 (4) (by decide +kernel) rfl (rfl) (by decide) rfl ?_
  refine Zn.seg (pc2 := 14) (ls2 := [some (za (A 0)), some (zi x), some (zi ((r 1) 4))]) (st2 := [za (A 0)]) [(12, .istore_n 2), (13, .aload_n 0)] (by decide +kernel) rfl ?_
  refine Zn.get (ix := 7) hD 0 (by decide +kernel) rfl rfl rfl ?_
  refine Zn.seg (pc2 := 19) (ls2 := [some (za (A 0)), some (zi x), some (zi ((r 1) 4))]) (st2 := [zi x, zi 4, za (A 1)]) [(17, .iconst 4), (18, .iload_n 1)] (by decide +kernel) rfl ?_
  refine Zn.iast hD 1 (4) (by decide +kernel) rfl (rfl) (by decide) rfl ?_
  refine Zn.eq (h2 := zov (LM A m (va_up r 1 (va_up (r 1) 4 x))) h) rfl rfl rfl (rfl) ?_
  have hD : zND (LM A m (va_up r 1 (va_up (r 1) 4 x))) := hD
  refine Zn.seg (pc2 := 21) (ls2 := [some (za (A 0)), some (zi x), some (zi ((r 1) 4))]) (st2 := [zi ((r 1) 4)]) [(20, .iload_n 2)] (by decide +kernel) rfl ?_
  exact Zn.iret (by decide +kernel) rfl (⟨by first | rfl | (refine congrArg some (congrArg zi ?_); first | omega | (simp_all; done) | (simp_all; omega)), rfl⟩)
theorem sp_X8_image_ok {h : xH} {A : Nat → Nat} {m : Nat → Int} {r : Nat → Nat → Int}  (hL : ∀ q ∈ LM A m r, h q.1 = zcE q.2) (hD : zND (LM A m r)) : zEv k_X8_image [za (A 0)] h (fun v h2 => v = some (zi 1) ∧ h2 = zov (LM A (va_up m 3 (m 1)) (va_up r 2 (cpF (r 1) (r 2) 217))) h) := by
  have hh : h = zov (LM A m r) h := zov_self hL
  refine zEv.body (I := (8, xI_X8_image, 2, 0, 0, 0, 0, false)) (rt := (some .int)) [some (za (A 0)), none] rfl rfl rfl rfl ?_
  refine Zn.eq rfl rfl rfl hh ?_
  have hD : zND (LM A m r) := hD
  refine Zn.seg (pc2 := 2) (ls2 := [some (za (A 0)), some (zi 0)]) (st2 := []) [(0, .iconst 0), (1, .istore_n 1)] (by decide +kernel) rfl ?_
  refine Zn.eq (pc2 := 2) (ls2 := [some (za (A 0)), some (zi (0 : Int))]) (st2 := []) (h2 := zov (LM A m (va_up r 2 (cpF (r 1) (r 2) 0))) h) rfl (zcons rfl (zcons (congrArg (fun z => some (zi z)) (by first | rfl | omega | simp)) rfl)) rfl (by rw [LM_r1 A m r 2 (cpF_zero _ _).symm]) ?_
  have hD : zND (LM A m (va_up r 2 (cpF (r 1) (r 2) 0))) := hD
  refine xloop (P := fun i_1 => Zn (8, xI_X8_image, 2, 0, 0, 0, 0, false) (some .int) 2 [some (za (A 0)), some (zi (i_1 : Int))] [] (zov (LM A m (va_up r 2 (cpF (r 1) (r 2) i_1))) h) _) (217) (fun i_1 hi_2 ih_3 => ?_) ?_
  · have hi_2 : i_1 < 217 := hi_2
    refine Zn.seg (pc2 := 6) (ls2 := [some (za (A 0)), some (zi (i_1 : Int))]) (st2 := [zi 217, zi (i_1 : Int)]) [(2, .iload_n 1), (3, .sipush 217)] (by decide +kernel) rfl ?_
    refine Zn.icmp (c := .ge) (off := 21) 27 (by decide +kernel) rfl ⟨by omega, by omega⟩ ⟨by decide, by decide⟩ (fun c_4 => absurd (show 217 ≤ (i_1 : Int) from c_4) (by omega)) (fun c_4 => ?_)
    have c_4 : ¬ (217 ≤ (i_1 : Int)) := c_4
    refine Zn.seg (pc2 := 10) (ls2 := [some (za (A 0)), some (zi (i_1 : Int))]) (st2 := [za (A 0)]) [(9, .aload_n 0)] (by decide +kernel) rfl ?_
    refine Zn.get (ix := 13) hD 0 (by decide +kernel) rfl rfl rfl ?_
    refine Zn.seg (pc2 := 15) (ls2 := [some (za (A 0)), some (zi (i_1 : Int))]) (st2 := [za (A 0), zi (i_1 : Int), za (A 2)]) [(13, .iload_n 1), (14, .aload_n 0)] (by decide +kernel) rfl ?_
    refine Zn.get (ix := 7) hD 0 (by decide +kernel) rfl rfl rfl ?_
    refine Zn.seg (pc2 := 19) (ls2 := [some (za (A 0)), some (zi (i_1 : Int))]) (st2 := [zi (i_1 : Int), za (A 1), zi (i_1 : Int), za (A 2)]) [(18, .iload_n 1)] (by decide +kernel) rfl ?_
    refine Zn.iald hD 1 (i_1) (by decide +kernel) rfl (by omega) (by omega) rfl ?_
    refine Zn.iast hD 2 (i_1) (by decide +kernel) rfl (by omega) (by omega) rfl ?_
    refine Zn.eq (h2 := zov (LM A m (va_up r 2 (va_up (cpF (r 1) (r 2) i_1) i_1 ((r 1) i_1)))) h) rfl rfl rfl (rfl) ?_
    have hD : zND (LM A m (va_up r 2 (va_up (cpF (r 1) (r 2) i_1) i_1 ((r 1) i_1)))) := hD
    refine Zn.seg (pc2 := 2) (ls2 := [some (za (A 0)), some (zi ((i_1 : Int) + 1))]) (st2 := []) [(21, .iinc 1 1), (24, .goto (-22))] (by decide +kernel) rfl ?_
    exact Zn.eq rfl (zcons rfl (zcons (congrArg (fun z => some (zi z)) (by omega)) rfl)) rfl (by rw [cpF_step]) (ih_3)
  · skip
    refine Zn.seg (pc2 := 6) (ls2 := [some (za (A 0)), some (zi (217 : Int))]) (st2 := [zi 217, zi (217 : Int)]) [(2, .iload_n 1), (3, .sipush 217)] (by decide +kernel) rfl ?_
    refine Zn.icmp (c := .ge) (off := 21) 27 (by decide +kernel) rfl ⟨by omega, by omega⟩ ⟨by decide, by decide⟩ (fun c_5 => ?_) (fun c_5 => absurd (show 217 ≤ (217 : Int) from by decide) c_5)
    have c_5 : 217 ≤ (217 : Int) := c_5
    refine Zn.seg (pc2 := 29) (ls2 := [some (za (A 0)), some (zi (217 : Int))]) (st2 := [za (A 0), za (A 0)]) [(27, .aload_n 0), (28, .aload_n 0)] (by decide +kernel) rfl ?_
    refine Zn.get (ix := 91) hD 0 (by decide +kernel) rfl rfl rfl ?_
    refine Zn.put (ix := 16) hD 0 (by decide +kernel) rfl rfl rfl rfl rfl ?_
    refine Zn.eq (h2 := zov (LM A (va_up m 3 (m 1)) (va_up r 2 (cpF (r 1) (r 2) 217))) h) rfl rfl rfl rfl ?_
    have hD : zND (LM A (va_up m 3 (m 1)) (va_up r 2 (cpF (r 1) (r 2) 217))) := hD
    refine Zn.seg (pc2 := 36) (ls2 := [some (za (A 0)), some (zi (217 : Int))]) (st2 := [zi 1]) [(35, .iconst 1)] (by decide +kernel) rfl ?_
    exact Zn.iret (by decide +kernel) rfl (⟨by first | rfl | (refine congrArg some (congrArg zi ?_); first | omega | (simp_all; done) | (simp_all; omega)), rfl⟩)
theorem sp_X8_restore_none {h : xH} {A : Nat → Nat} {m : Nat → Int} {r : Nat → Nat → Int}  (hL : ∀ q ∈ LM A m r, h q.1 = zcE q.2) (hD : zND (LM A m r)) (hm : m 3 < 0 ∧ -9 ≤ m 3) : zEv k_X8_restore [za (A 0)] h (fun v h2 => v = some (zi (-4)) ∧ h2 = h) := by
  have hh : h = zov (LM A m r) h := zov_self hL
  refine zEv.body (I := (8, xI_X8_restore, 2, 0, 0, 0, 0, false)) (rt := (some .int)) [some (za (A 0)), none] rfl rfl rfl rfl ?_
  refine Zn.eq rfl rfl rfl hh ?_
  have hD : zND (LM A m r) := hD
  refine Zn.seg (pc2 := 1) (ls2 := [some (za (A 0)), none]) (st2 := [za (A 0)]) [(0, .aload_n 0)] (by decide +kernel) rfl ?_
  refine Zn.get (ix := 16) hD 0 (by decide +kernel) rfl rfl rfl ?_
  refine Zn.ifc (c := .ge) (off := 6) 10 (by decide +kernel) rfl ⟨by omega, by omega⟩ (fun c_1 => absurd (show 0 ≤ m 3 from c_1) (by omega)) (fun c_1 => ?_)
  have c_1 : ¬ (0 ≤ m 3) := c_1
  refine Zn.seg (pc2 := 9) (ls2 := [some (za (A 0)), none]) (st2 := [zi (-4)]) [(7, .bipush (-4))] (by decide +kernel) rfl ?_
  exact Zn.iret (by decide +kernel) rfl (⟨by first | rfl | (refine congrArg some (congrArg zi ?_); first | omega | (simp_all; done) | (simp_all; omega)), hh.symm⟩)
theorem sp_X8_restore_ok {h : xH} {A : Nat → Nat} {m : Nat → Int} {r : Nat → Nat → Int}  (hL : ∀ q ∈ LM A m r, h q.1 = zcE q.2) (hD : zND (LM A m r)) (hm : 0 ≤ m 3 ∧ m 3 ≤ 6) : zEv k_X8_restore [za (A 0)] h (fun v h2 => v = some (zi 1) ∧ h2 = zov (LM A (va_up m 1 (m 3)) (va_up r 1 (cpF (r 2) (r 1) 217))) h) := by
  have hh : h = zov (LM A m r) h := zov_self hL
  refine zEv.body (I := (8, xI_X8_restore, 2, 0, 0, 0, 0, false)) (rt := (some .int)) [some (za (A 0)), none] rfl rfl rfl rfl ?_
  refine Zn.eq rfl rfl rfl hh ?_
  have hD : zND (LM A m r) := hD
  refine Zn.seg (pc2 := 1) (ls2 := [some (za (A 0)), none]) (st2 := [za (A 0)]) [(0, .aload_n 0)] (by decide +kernel) rfl ?_
  refine Zn.get (ix := 16) hD 0 (by decide +kernel) rfl rfl rfl ?_
  refine Zn.ifc (c := .ge) (off := 6) 10 (by decide +kernel) rfl ⟨by omega, by omega⟩ (fun c_1 => ?_) (fun c_1 => absurd (show 0 ≤ m 3 from by omega) c_1)
  have c_1 : 0 ≤ m 3 := c_1
  refine Zn.seg (pc2 := 12) (ls2 := [some (za (A 0)), some (zi 0)]) (st2 := []) [(10, .iconst 0), (11, .istore_n 1)] (by decide +kernel) rfl ?_
  refine Zn.eq (pc2 := 12) (ls2 := [some (za (A 0)), some (zi (0 : Int))]) (st2 := []) (h2 := zov (LM A m (va_up r 1 (cpF (r 2) (r 1) 0))) h) rfl (zcons rfl (zcons (congrArg (fun z => some (zi z)) (by first | rfl | omega | simp)) rfl)) rfl (by rw [LM_r1 A m r 1 (cpF_zero _ _).symm]) ?_
  have hD : zND (LM A m (va_up r 1 (cpF (r 2) (r 1) 0))) := hD
  refine xloop (P := fun i_2 => Zn (8, xI_X8_restore, 2, 0, 0, 0, 0, false) (some .int) 12 [some (za (A 0)), some (zi (i_2 : Int))] [] (zov (LM A m (va_up r 1 (cpF (r 2) (r 1) i_2))) h) _) (217) (fun i_2 hi_3 ih_4 => ?_) ?_
  · have hi_3 : i_2 < 217 := hi_3
    refine Zn.seg (pc2 := 16) (ls2 := [some (za (A 0)), some (zi (i_2 : Int))]) (st2 := [zi 217, zi (i_2 : Int)]) [(12, .iload_n 1), (13, .sipush 217)] (by decide +kernel) rfl ?_
    refine Zn.icmp (c := .ge) (off := 21) 37 (by decide +kernel) rfl ⟨by omega, by omega⟩ ⟨by decide, by decide⟩ (fun c_5 => absurd (show 217 ≤ (i_2 : Int) from c_5) (by omega)) (fun c_5 => ?_)
    have c_5 : ¬ (217 ≤ (i_2 : Int)) := c_5
    refine Zn.seg (pc2 := 20) (ls2 := [some (za (A 0)), some (zi (i_2 : Int))]) (st2 := [za (A 0)]) [(19, .aload_n 0)] (by decide +kernel) rfl ?_
    refine Zn.get (ix := 7) hD 0 (by decide +kernel) rfl rfl rfl ?_
    refine Zn.seg (pc2 := 25) (ls2 := [some (za (A 0)), some (zi (i_2 : Int))]) (st2 := [za (A 0), zi (i_2 : Int), za (A 1)]) [(23, .iload_n 1), (24, .aload_n 0)] (by decide +kernel) rfl ?_
    refine Zn.get (ix := 13) hD 0 (by decide +kernel) rfl rfl rfl ?_
    refine Zn.seg (pc2 := 29) (ls2 := [some (za (A 0)), some (zi (i_2 : Int))]) (st2 := [zi (i_2 : Int), za (A 2), zi (i_2 : Int), za (A 1)]) [(28, .iload_n 1)] (by decide +kernel) rfl ?_
    refine Zn.iald hD 2 (i_2) (by decide +kernel) rfl (by omega) (by omega) rfl ?_
    refine Zn.iast hD 1 (i_2) (by decide +kernel) rfl (by omega) (by omega) rfl ?_
    refine Zn.eq (h2 := zov (LM A m (va_up r 1 (va_up (cpF (r 2) (r 1) i_2) i_2 ((r 2) i_2)))) h) rfl rfl rfl (rfl) ?_
    have hD : zND (LM A m (va_up r 1 (va_up (cpF (r 2) (r 1) i_2) i_2 ((r 2) i_2)))) := hD
    refine Zn.seg (pc2 := 12) (ls2 := [some (za (A 0)), some (zi ((i_2 : Int) + 1))]) (st2 := []) [(31, .iinc 1 1), (34, .goto (-22))] (by decide +kernel) rfl ?_
    exact Zn.eq rfl (zcons rfl (zcons (congrArg (fun z => some (zi z)) (by omega)) rfl)) rfl (by rw [cpF_step]) (ih_4)
  · skip
    refine Zn.seg (pc2 := 16) (ls2 := [some (za (A 0)), some (zi (217 : Int))]) (st2 := [zi 217, zi (217 : Int)]) [(12, .iload_n 1), (13, .sipush 217)] (by decide +kernel) rfl ?_
    refine Zn.icmp (c := .ge) (off := 21) 37 (by decide +kernel) rfl ⟨by omega, by omega⟩ ⟨by decide, by decide⟩ (fun c_6 => ?_) (fun c_6 => absurd (show 217 ≤ (217 : Int) from by decide) c_6)
    have c_6 : 217 ≤ (217 : Int) := c_6
    refine Zn.seg (pc2 := 39) (ls2 := [some (za (A 0)), some (zi (217 : Int))]) (st2 := [za (A 0), za (A 0)]) [(37, .aload_n 0), (38, .aload_n 0)] (by decide +kernel) rfl ?_
    refine Zn.get (ix := 16) hD 0 (by decide +kernel) rfl rfl rfl ?_
    refine Zn.put (ix := 91) hD 0 (by decide +kernel) rfl rfl rfl rfl rfl ?_
    refine Zn.eq (h2 := zov (LM A (va_up m 1 (m 3)) (va_up r 1 (cpF (r 2) (r 1) 217))) h) rfl rfl rfl rfl ?_
    have hD : zND (LM A (va_up m 1 (m 3)) (va_up r 1 (cpF (r 2) (r 1) 217))) := hD
    refine Zn.seg (pc2 := 46) (ls2 := [some (za (A 0)), some (zi (217 : Int))]) (st2 := [zi 1]) [(45, .iconst 1)] (by decide +kernel) rfl ?_
    exact Zn.iret (by decide +kernel) rfl (⟨by first | rfl | (refine congrArg some (congrArg zi ?_); first | omega | (simp_all; done) | (simp_all; omega)), rfl⟩)
theorem sp_X8_isSheet {h : xH} {x : Int} (hx : zInI x) : zEv k_X8_isSheet [zi x] h (fun v h2 => v = some (zi (inB 0 3 x)) ∧ h2 = h) := by
  have hD : ([] : List Nat).Nodup := List.nodup_nil
  have hh : h = zov [] h := zov_self (fun _ q => absurd q List.not_mem_nil)
  have hx1 := hx.1
  have hx2 := hx.2
  refine zEv.body (I := (8, xI_X8_isSheet, 1, 1, 25, 0, 0, false)) (rt := (some .boolean)) [some (zi x)] rfl rfl rfl rfl ?_
  refine Zn.eq rfl rfl rfl hh ?_
  have hD : zND ([]) := hD
  refine Zn.seg (pc2 := 1) (ls2 := [some (zi x)]) (st2 := [zi x]) [(0, .iload_n 0)] (by decide +kernel) rfl ?_
  refine Zn.i2l (by decide +kernel) ⟨by omega, by omega⟩ ?_
  refine Zn.seg (pc2 := 6) (ls2 := [some (zi x)]) (st2 := [zj 3, zj 0, zj x]) [(2, .lconst 0), (3, .ldc2_w 112)] (by decide +kernel) rfl ?_
  refine Zn.call (ins := .invokestatic 77) [zj x, zj 0, zj 3] [] (by decide +kernel) rfl rfl rfl ⟨rfl, rfl⟩ ⟨rfl, rfl, rfl⟩ rfl (zrecvS (by decide)) (sp_X8_in (x := x) (lo := 0) (hi := 3) (⟨by omega, by omega⟩) (⟨by decide, by decide⟩) (⟨by decide, by decide⟩)) (fun v h2 hp => ?_)
  obtain ⟨rfl, hq_1⟩ := hp
  refine Zn.eq (pc2 := 9) (ls2 := [some (zi x)]) (st2 := [zi (inB 0 3 x)]) (h2 := zov ([]) h) rfl rfl rfl hq_1 ?_
  have hD : zND ([]) := hD
  have q_2 := inB_spec 0 3 x
  exact Zn.bret (by decide +kernel) rfl (by first | decide | omega) (⟨by first | rfl | (refine congrArg some (congrArg zi ?_); first | omega | (simp_all; done) | (simp_all; omega)), hh.symm⟩)
theorem sp_X8_machine {h : xH} {A : Nat → Nat} {m : Nat → Int} {r : Nat → Nat → Int} {s : Nat} {l i n : Int} (hL : ∀ q ∈ LM A m r, h q.1 = zcE q.2) (hD : zND (LM A m r)) (hs : s < 4) (hla : -4 ≤ r 4 s ∧ r 4 s ≤ 3) (hsz : 0 ≤ r 5 s ∧ r 5 s ≤ 24) (hl : zInI l) (hi : zInI i) (hn : -2147483648 ≤ n ∧ n ≤ 8589934592) : zEv k_X8_machine [za (A 0), zi (s : Int), zi l, zi i, zj n] h (fun v h2 => v = some (zi (machV (r 4 s) (r 5 s) l i n)) ∧ h2 = h) := by
  have hh : h = zov (LM A m r) h := zov_self hL
  have hl1 := hl.1
  have hl2 := hl.2
  have hi1 := hi.1
  have hi2 := hi.2
  have hn1 := hn.1
  have hn2 := hn.2
  have hmv := machV_spec (r 4 s) (r 5 s) l i n
  refine zEv.body (I := (8, xI_X8_machine, 6, 0, 0, 0, 0, false)) (rt := (some .int)) [some (za (A 0)), some (zi (s : Int)), some (zi l), some (zi i), some (zj n), none] rfl rfl rfl rfl ?_
  refine Zn.eq rfl rfl rfl hh ?_
  have hD : zND (LM A m r) := hD
  refine Zn.seg (pc2 := 1) (ls2 := [some (za (A 0)), some (zi (s : Int)), some (zi l), some (zi i), some (zj n), none]) (st2 := [za (A 0)]) [(0, .aload_n 0)] (by decide +kernel) rfl ?_
  refine Zn.get (ix := 23) hD 0 (by decide +kernel) rfl rfl rfl ?_
  refine Zn.seg (pc2 := 5) (ls2 := [some (za (A 0)), some (zi (s : Int)), some (zi l), some (zi i), some (zj n), none]) (st2 := [zi (s : Int), za (A 4)]) [(4, .iload_n 1)] (by decide +kernel) rfl ?_
  refine Zn.iald hD 4 (s) (by decide +kernel) rfl (by omega) (by omega) rfl ?_
  refine Zn.ifc (c := .ge) (off := 6) 12 (by decide +kernel) rfl ⟨by omega, by omega⟩ (fun c_1 => ?_) (fun c_1 => ?_)
  · have c_1 : 0 ≤ (r 4) s := c_1
    refine Zn.seg (pc2 := 13) (ls2 := [some (za (A 0)), some (zi (s : Int)), some (zi l), some (zi i), some (zj n), none]) (st2 := [za (A 0)]) [(12, .aload_n 0)] (by decide +kernel) rfl ?_
    refine Zn.get (ix := 23) hD 0 (by decide +kernel) rfl rfl rfl ?_
    refine Zn.seg (pc2 := 17) (ls2 := [some (za (A 0)), some (zi (s : Int)), some (zi l), some (zi i), some (zj n), none]) (st2 := [zi (s : Int), za (A 4)]) [(16, .iload_n 1)] (by decide +kernel) rfl ?_
    refine Zn.iald hD 4 (s) (by decide +kernel) rfl (by omega) (by omega) rfl ?_
    refine Zn.seg (pc2 := 19) (ls2 := [some (za (A 0)), some (zi (s : Int)), some (zi l), some (zi i), some (zj n), none]) (st2 := [zi l, zi ((r 4) s)]) [(18, .iload_n 2)] (by decide +kernel) rfl ?_
    refine Zn.icmp (c := .eq) (off := 6) 25 (by decide +kernel) rfl ⟨by omega, by omega⟩ ⟨by omega, by omega⟩ (fun c_2 => ?_) (fun c_2 => ?_)
    · have c_2 : (r 4) s = l := c_2
      refine Zn.seg (pc2 := 26) (ls2 := [some (za (A 0)), some (zi (s : Int)), some (zi l), some (zi i), some (zj n), none]) (st2 := [zi i]) [(25, .iload_n 3)] (by decide +kernel) rfl ?_
      refine Zn.ifc (c := .lt) (off := 26) 52 (by decide +kernel) rfl ⟨by omega, by omega⟩ (fun c_3 => ?_) (fun c_3 => ?_)
      · have c_3 : i < 0 := c_3
        refine Zn.seg (pc2 := 58) (ls2 := [some (za (A 0)), some (zi (s : Int)), some (zi l), some (zi i), some (zj n), none]) (st2 := [zi (-13)]) [(52, .bipush (-13)), (54, .goto 4)] (by decide +kernel) rfl ?_
        exact Zn.iret (by decide +kernel) rfl (⟨by refine congrArg some (congrArg zi ?_); omega, hh.symm⟩)
      · have c_3 : ¬ (i < 0) := c_3
        refine Zn.seg (pc2 := 32) (ls2 := [some (za (A 0)), some (zi (s : Int)), some (zi l), some (zi i), some (zj n), none]) (st2 := [zj 0, zj n]) [(29, .lload 4), (31, .lconst 0)] (by decide +kernel) rfl ?_
        refine Zn.lcmpif (c := .lt) (off := (19)) 52 (by decide +kernel) (by decide +kernel) rfl ⟨by omega, by omega⟩ ⟨by decide, by decide⟩ (fun c_4 => ?_) (fun c_4 => ?_)
        · have c_4 : n < 0 := c_4
          refine Zn.seg (pc2 := 58) (ls2 := [some (za (A 0)), some (zi (s : Int)), some (zi l), some (zi i), some (zj n), none]) (st2 := [zi (-13)]) [(52, .bipush (-13)), (54, .goto 4)] (by decide +kernel) rfl ?_
          exact Zn.iret (by decide +kernel) rfl (⟨by refine congrArg some (congrArg zi ?_); omega, hh.symm⟩)
        · have c_4 : ¬ (n < 0) := c_4
          refine Zn.seg (pc2 := 37) (ls2 := [some (za (A 0)), some (zi (s : Int)), some (zi l), some (zi i), some (zj n), none]) (st2 := [zi i]) [(36, .iload_n 3)] (by decide +kernel) rfl ?_
          refine Zn.i2l (by decide +kernel) ⟨by omega, by omega⟩ ?_
          refine Zn.seg (pc2 := 42) (ls2 := [some (za (A 0)), some (zi (s : Int)), some (zi l), some (zi i), some (zj n), none]) (st2 := [za (A 0), zj (i + n)]) [(38, .lload 4), (40, .ladd), (41, .aload_n 0)] (by decide +kernel) rfl ?_
          refine Zn.get (ix := 26) hD 0 (by decide +kernel) rfl rfl rfl ?_
          refine Zn.seg (pc2 := 46) (ls2 := [some (za (A 0)), some (zi (s : Int)), some (zi l), some (zi i), some (zj n), none]) (st2 := [zi (s : Int), za (A 5), zj (i + n)]) [(45, .iload_n 1)] (by decide +kernel) rfl ?_
          refine Zn.iald hD 5 (s) (by decide +kernel) rfl (by omega) (by omega) rfl ?_
          refine Zn.i2l (by decide +kernel) ⟨by omega, by omega⟩ ?_
          refine Zn.lcmpif (c := .le) (off := (8)) 57 (by decide +kernel) (by decide +kernel) rfl ⟨by omega, by omega⟩ ⟨by omega, by omega⟩ (fun c_5 => ?_) (fun c_5 => ?_)
          · have c_5 : i + n ≤ (r 5) s := c_5
            refine Zn.seg (pc2 := 58) (ls2 := [some (za (A 0)), some (zi (s : Int)), some (zi l), some (zi i), some (zj n), none]) (st2 := [zi 0]) [(57, .iconst 0)] (by decide +kernel) rfl ?_
            exact Zn.iret (by decide +kernel) rfl (⟨by refine congrArg some (congrArg zi ?_); omega, hh.symm⟩)
          · have c_5 : ¬ (i + n ≤ (r 5) s) := c_5
            refine Zn.seg (pc2 := 58) (ls2 := [some (za (A 0)), some (zi (s : Int)), some (zi l), some (zi i), some (zj n), none]) (st2 := [zi (-13)]) [(52, .bipush (-13)), (54, .goto 4)] (by decide +kernel) rfl ?_
            exact Zn.iret (by decide +kernel) rfl (⟨by refine congrArg some (congrArg zi ?_); omega, hh.symm⟩)
    · have c_2 : ¬ ((r 4) s = l) := c_2
      refine Zn.seg (pc2 := 24) (ls2 := [some (za (A 0)), some (zi (s : Int)), some (zi l), some (zi i), some (zj n), none]) (st2 := [zi (-12)]) [(22, .bipush (-12))] (by decide +kernel) rfl ?_
      exact Zn.iret (by decide +kernel) rfl (⟨by refine congrArg some (congrArg zi ?_); omega, hh.symm⟩)
  · have c_1 : ¬ (0 ≤ (r 4) s) := c_1
    refine Zn.seg (pc2 := 11) (ls2 := [some (za (A 0)), some (zi (s : Int)), some (zi l), some (zi i), some (zj n), none]) (st2 := [zi (-11)]) [(9, .bipush (-11))] (by decide +kernel) rfl ?_
    exact Zn.iret (by decide +kernel) rfl (⟨by refine congrArg some (congrArg zi ?_); omega, hh.symm⟩)
theorem sp_X8_cast {h : xH} {l z : Int} (hl : 0 ≤ l ∧ l ≤ 3) : zEv k_X8_cast [zi l, zj z] h (fun v h2 => v = some (zj (castV l z)) ∧ h2 = h) := by
  have hD : ([] : List Nat).Nodup := List.nodup_nil
  have hh : h = zov [] h := zov_self (fun _ q => absurd q List.not_mem_nil)
  have hs8 := s8_in z
  have hs16 := s16_in z
  have hs32 := s32_in z
  refine zEv.body (I := (8, xI_X8_cast, 3, 0, 0, 0, 0, false)) (rt := (some .long)) [some (zi l), some (zj z), none] rfl rfl rfl rfl ?_
  refine Zn.eq rfl rfl rfl hh ?_
  have hD : zND ([]) := hD
  refine Zn.seg (pc2 := 1) (ls2 := [some (zi l), some (zj z), none]) (st2 := [zi l]) [(0, .iload_n 0)] (by decide +kernel) rfl ?_
  refine Zn.ifc (c := .ne) (off := 10) 11 (by decide +kernel) rfl ⟨by omega, by omega⟩ (fun c_1 => ?_) (fun c_1 => ?_)
  · have c_1 : l ≠ 0 := c_1
    refine Zn.seg (pc2 := 13) (ls2 := [some (zi l), some (zj z), none]) (st2 := [zi 1, zi l]) [(11, .iload_n 0), (12, .iconst 1)] (by decide +kernel) rfl ?_
    refine Zn.icmp (c := .ne) (off := 10) 23 (by decide +kernel) rfl ⟨by omega, by omega⟩ ⟨by decide, by decide⟩ (fun c_2 => ?_) (fun c_2 => ?_)
    · have c_2 : l ≠ 1 := c_2
      refine Zn.seg (pc2 := 25) (ls2 := [some (zi l), some (zj z), none]) (st2 := [zi 2, zi l]) [(23, .iload_n 0), (24, .iconst 2)] (by decide +kernel) rfl ?_
      refine Zn.icmp (c := .ne) (off := 9) 34 (by decide +kernel) rfl ⟨by omega, by omega⟩ ⟨by decide, by decide⟩ (fun c_3 => ?_) (fun c_3 => ?_)
      · have c_3 : l ≠ 2 := c_3
        refine Zn.seg (pc2 := 35) (ls2 := [some (zi l), some (zj z), none]) (st2 := [zj z]) [(34, .lload_n 1)] (by decide +kernel) rfl ?_
        exact Zn.lret (by decide +kernel) rfl (⟨by refine congrArg some (congrArg zj ?_); unfold castV; first | rw [if_pos (by omega)] | rw [if_neg (by omega), if_pos (by omega)] | rw [if_neg (by omega), if_neg (by omega), if_pos (by omega)] | rw [if_neg (by omega), if_neg (by omega), if_neg (by omega)], hh.symm⟩)
      · have c_3 : ¬ (l ≠ 2) := c_3
        refine Zn.seg (pc2 := 30) (ls2 := [some (zi l), some (zj z), none]) (st2 := [zi z]) [(28, .lload_n 1), (29, .l2i)] (by decide +kernel) rfl ?_
        refine Zn.topI (y := s32 z) (zs32 z) ?_
        refine Zn.i2l (by decide +kernel) ⟨by omega, by omega⟩ ?_
        refine Zn.seg (pc2 := 35) (ls2 := [some (zi l), some (zj z), none]) (st2 := [zj (s32 z)]) [(31, .goto 4)] (by decide +kernel) rfl ?_
        exact Zn.lret (by decide +kernel) rfl (⟨by refine congrArg some (congrArg zj ?_); unfold castV; first | rw [if_pos (by omega)] | rw [if_neg (by omega), if_pos (by omega)] | rw [if_neg (by omega), if_neg (by omega), if_pos (by omega)] | rw [if_neg (by omega), if_neg (by omega), if_neg (by omega)], hh.symm⟩)
    · have c_2 : ¬ (l ≠ 1) := c_2
      refine Zn.seg (pc2 := 18) (ls2 := [some (zi l), some (zj z), none]) (st2 := [zi z]) [(16, .lload_n 1), (17, .l2i)] (by decide +kernel) rfl ?_
      refine Zn.i2s (s16 z) (by decide +kernel) (zs16 z) ?_
      refine Zn.i2l (by decide +kernel) ⟨by omega, by omega⟩ ?_
      refine Zn.seg (pc2 := 35) (ls2 := [some (zi l), some (zj z), none]) (st2 := [zj (s16 z)]) [(20, .goto 15)] (by decide +kernel) rfl ?_
      exact Zn.lret (by decide +kernel) rfl (⟨by refine congrArg some (congrArg zj ?_); unfold castV; first | rw [if_pos (by omega)] | rw [if_neg (by omega), if_pos (by omega)] | rw [if_neg (by omega), if_neg (by omega), if_pos (by omega)] | rw [if_neg (by omega), if_neg (by omega), if_neg (by omega)], hh.symm⟩)
  · have c_1 : ¬ (l ≠ 0) := c_1
    refine Zn.seg (pc2 := 6) (ls2 := [some (zi l), some (zj z), none]) (st2 := [zi z]) [(4, .lload_n 1), (5, .l2i)] (by decide +kernel) rfl ?_
    refine Zn.i2b (s8 z) (by decide +kernel) (zs8 z) ?_
    refine Zn.i2l (by decide +kernel) ⟨by omega, by omega⟩ ?_
    refine Zn.seg (pc2 := 35) (ls2 := [some (zi l), some (zj z), none]) (st2 := [zj (s8 z)]) [(8, .goto 27)] (by decide +kernel) rfl ?_
    exact Zn.lret (by decide +kernel) rfl (⟨by refine congrArg some (congrArg zj ?_); unfold castV; first | rw [if_pos (by omega)] | rw [if_neg (by omega), if_pos (by omega)] | rw [if_neg (by omega), if_neg (by omega), if_pos (by omega)] | rw [if_neg (by omega), if_neg (by omega), if_neg (by omega)], hh.symm⟩)
theorem sp_X8_film_bad {h : xH} {A : Nat → Nat} {m : Nat → Int} {r : Nat → Nat → Int} {s l i : Int} (hL : ∀ q ∈ LM A m r, h q.1 = zcE q.2) (hD : zND (LM A m r)) (zs : zInI s) (zl : zInI l) (hb : ¬ (0 ≤ s ∧ s ≤ 3) ∨ ¬ (0 ≤ l ∧ l ≤ 3)) : zEv k_X8_film [za (A 0), zi s, zi l, zi i] h (fun v h2 => v = some (zi (-1)) ∧ h2 = h) := by
  have hh : h = zov (LM A m r) h := zov_self hL
  have zs1 := zs.1
  have zs2 := zs.2
  have zl1 := zl.1
  have zl2 := zl.2
  refine zEv.body (I := (8, xI_X8_film, 7, 2, 45, 0, 0, false)) (rt := (some .int)) [some (za (A 0)), some (zi s), some (zi l), some (zi i), none, none, none] rfl rfl rfl rfl ?_
  refine Zn.eq rfl rfl rfl hh ?_
  have hD : zND (LM A m r) := hD
  refine Zn.seg (pc2 := 1) (ls2 := [some (za (A 0)), some (zi s), some (zi l), some (zi i), none, none, none]) (st2 := [zi s]) [(0, .iload_n 1)] (by decide +kernel) rfl ?_
  refine Zn.call (ins := .invokestatic 337) [zi s] [] (by decide +kernel) rfl rfl rfl ⟨rfl, rfl⟩ ⟨rfl, rfl, rfl⟩ rfl (zrecvS (by decide)) (sp_X8_isSheet (x := s) (by first | assumption | exact ⟨by omega, by omega⟩)) (fun v h2 hp => ?_)
  obtain ⟨rfl, hq_1⟩ := hp
  refine Zn.eq (pc2 := 4) (ls2 := [some (za (A 0)), some (zi s), some (zi l), some (zi i), none, none, none]) (st2 := [zi (inB 0 3 s)]) (h2 := zov (LM A m r) h) rfl rfl rfl hq_1 ?_
  have hD : zND (LM A m r) := hD
  have q_2 := inB_spec 0 3 s
  refine Zn.ifc (c := .eq) (off := 10) 14 (by decide +kernel) rfl ⟨by omega, by omega⟩ (fun c_3 => ?_) (fun c_3 => ?_)
  · have c_3 : inB 0 3 s = 0 := c_3
    refine Zn.seg (pc2 := 15) (ls2 := [some (za (A 0)), some (zi s), some (zi l), some (zi i), none, none, none]) (st2 := [zi (-1)]) [(14, .iconst (-1))] (by decide +kernel) rfl ?_
    exact Zn.iret (by decide +kernel) rfl (⟨by first | rfl | (refine congrArg some (congrArg zi ?_); first | omega | (simp_all; done) | (simp_all; omega)), hh.symm⟩)
  · have c_3 : ¬ (inB 0 3 s = 0) := c_3
    refine Zn.seg (pc2 := 8) (ls2 := [some (za (A 0)), some (zi s), some (zi l), some (zi i), none, none, none]) (st2 := [zi l]) [(7, .iload_n 2)] (by decide +kernel) rfl ?_
    refine Zn.call (ins := .invokestatic 337) [zi l] [] (by decide +kernel) rfl rfl rfl ⟨rfl, rfl⟩ ⟨rfl, rfl, rfl⟩ rfl (zrecvS (by decide)) (sp_X8_isSheet (x := l) (by first | assumption | exact ⟨by omega, by omega⟩)) (fun v h2 hp => ?_)
    obtain ⟨rfl, hq_4⟩ := hp
    refine Zn.eq (pc2 := 11) (ls2 := [some (za (A 0)), some (zi s), some (zi l), some (zi i), none, none, none]) (st2 := [zi (inB 0 3 l)]) (h2 := zov (LM A m r) h) rfl rfl rfl hq_4 ?_
    have hD : zND (LM A m r) := hD
    have q_5 := inB_spec 0 3 l
    refine Zn.ifc (c := .ne) (off := 5) 16 (by decide +kernel) rfl ⟨by omega, by omega⟩ (fun c_6 => absurd (show inB 0 3 l ≠ 0 from c_6) (by omega)) (fun c_6 => ?_)
    have c_6 : ¬ (inB 0 3 l ≠ 0) := c_6
    refine Zn.seg (pc2 := 15) (ls2 := [some (za (A 0)), some (zi s), some (zi l), some (zi i), none, none, none]) (st2 := [zi (-1)]) [(14, .iconst (-1))] (by decide +kernel) rfl ?_
    exact Zn.iret (by decide +kernel) rfl (⟨by first | rfl | (refine congrArg some (congrArg zi ?_); first | omega | (simp_all; done) | (simp_all; omega)), hh.symm⟩)
theorem sp_X8_film_not {h : xH} {A : Nat → Nat} {m : Nat → Int} {r : Nat → Nat → Int} {s : Nat} {l i : Int} (hL : ∀ q ∈ LM A m r, h q.1 = zcE q.2) (hD : zND (LM A m r)) (hs : s < 4) (hl : 0 ≤ l ∧ l ≤ 3) (zi_ : zInI i) (hla : -4 ≤ r 4 s ∧ r 4 s ≤ 3) (hsz : 0 ≤ r 5 s ∧ r 5 s ≤ 24) (hk : kOK (r 1)) (hb : machV (r 4 s) (r 5 s) l i (2 * (manyN (r 1) 0 13 : Int)) < 0) : zEv k_X8_film [za (A 0), zi (s : Int), zi l, zi i] h (fun v h2 => v = some (zi (machV (r 4 s) (r 5 s) l i (2 * (manyN (r 1) 0 13 : Int)))) ∧ h2 = h) := by
  have hh : h = zov (LM A m r) h := zov_self hL
  have zi1 := zi_.1
  have zi2 := zi_.2
  have hmn := manyN_le (r 1) 0 13
  refine zEv.body (I := (8, xI_X8_film, 7, 2, 45, 0, 0, false)) (rt := (some .int)) [some (za (A 0)), some (zi (s : Int)), some (zi l), some (zi i), none, none, none] rfl rfl rfl rfl ?_
  refine Zn.eq rfl rfl rfl hh ?_
  have hD : zND (LM A m r) := hD
  refine Zn.seg (pc2 := 1) (ls2 := [some (za (A 0)), some (zi (s : Int)), some (zi l), some (zi i), none, none, none]) (st2 := [zi (s : Int)]) [(0, .iload_n 1)] (by decide +kernel) rfl ?_
  refine Zn.call (ins := .invokestatic 337) [zi (s : Int)] [] (by decide +kernel) rfl rfl rfl ⟨rfl, rfl⟩ ⟨rfl, rfl, rfl⟩ rfl (zrecvS (by decide)) (sp_X8_isSheet (x := (s : Int)) (by first | assumption | exact ⟨by omega, by omega⟩)) (fun v h2 hp => ?_)
  obtain ⟨rfl, hq_1⟩ := hp
  refine Zn.eq (pc2 := 4) (ls2 := [some (za (A 0)), some (zi (s : Int)), some (zi l), some (zi i), none, none, none]) (st2 := [zi (inB 0 3 (s : Int))]) (h2 := zov (LM A m r) h) rfl rfl rfl hq_1 ?_
  have hD : zND (LM A m r) := hD
  have q_2 := inB_spec 0 3 (s : Int)
  refine Zn.ifc (c := .eq) (off := 10) 14 (by decide +kernel) rfl ⟨by omega, by omega⟩ (fun c_3 => absurd (show inB 0 3 (s : Int) = 0 from c_3) (by omega)) (fun c_3 => ?_)
  have c_3 : ¬ (inB 0 3 (s : Int) = 0) := c_3
  refine Zn.seg (pc2 := 8) (ls2 := [some (za (A 0)), some (zi (s : Int)), some (zi l), some (zi i), none, none, none]) (st2 := [zi l]) [(7, .iload_n 2)] (by decide +kernel) rfl ?_
  refine Zn.call (ins := .invokestatic 337) [zi l] [] (by decide +kernel) rfl rfl rfl ⟨rfl, rfl⟩ ⟨rfl, rfl, rfl⟩ rfl (zrecvS (by decide)) (sp_X8_isSheet (x := l) (by first | assumption | exact ⟨by omega, by omega⟩)) (fun v h2 hp => ?_)
  obtain ⟨rfl, hq_4⟩ := hp
  refine Zn.eq (pc2 := 11) (ls2 := [some (za (A 0)), some (zi (s : Int)), some (zi l), some (zi i), none, none, none]) (st2 := [zi (inB 0 3 l)]) (h2 := zov (LM A m r) h) rfl rfl rfl hq_4 ?_
  have hD : zND (LM A m r) := hD
  have q_5 := inB_spec 0 3 l
  refine Zn.ifc (c := .ne) (off := 5) 16 (by decide +kernel) rfl ⟨by omega, by omega⟩ (fun c_6 => ?_) (fun c_6 => absurd (show inB 0 3 l ≠ 0 from by omega) c_6)
  have c_6 : inB 0 3 l ≠ 0 := c_6
  refine Zn.seg (pc2 := 25) (ls2 := [some (za (A 0)), some (zi (s : Int)), some (zi l), some (zi i), none, none, none]) (st2 := [zi 0, za (A 0), zj 2, zi i, zi l, zi (s : Int), za (A 0)]) [(16, .aload_n 0), (17, .iload_n 1), (18, .iload_n 2), (19, .iload_n 3), (20, .ldc2_w 114), (23, .aload_n 0), (24, .iconst 0)] (by decide +kernel) rfl ?_
  refine Zn.call (ins := .invokevirtual 88) [za (A 0), zi 0] [zj 2, zi i, zi l, zi (s : Int), za (A 0)] (by decide +kernel) rfl rfl rfl ⟨rfl, rfl⟩ ⟨rfl, rfl, rfl⟩ rfl (zrecvV hD (p := 0) rfl rfl rfl) (sp_X8_many (A := A) (m := m) (r := r) (k := 0) (zov_all hD) hD (hk) (⟨by decide, by decide⟩)) (fun v h2 hp => ?_)
  obtain ⟨rfl, hq_7⟩ := hp
  refine Zn.eq (pc2 := 28) (ls2 := [some (za (A 0)), some (zi (s : Int)), some (zi l), some (zi i), none, none, none]) (st2 := [zi (manyN (r 1) 0 13 : Int), zj 2, zi i, zi l, zi (s : Int), za (A 0)]) (h2 := zov (LM A m r) h) rfl rfl rfl hq_7 ?_
  have hD : zND (LM A m r) := hD
  have q_8 := manyN_le (r 1) 0 13
  refine Zn.i2l (by decide +kernel) ⟨by omega, by omega⟩ ?_
  refine Zn.seg (pc2 := 30) (ls2 := [some (za (A 0)), some (zi (s : Int)), some (zi l), some (zi i), none, none, none]) (st2 := [zj (2 * (manyN (r 1) 0 13 : Int)), zi i, zi l, zi (s : Int), za (A 0)]) [(29, .lmul)] (by decide +kernel) rfl ?_
  refine Zn.call (ins := .invokevirtual 342) [za (A 0), zi (s : Int), zi l, zi i, zj (2 * (manyN (r 1) 0 13 : Int))] [] (by decide +kernel) rfl rfl rfl ⟨rfl, rfl⟩ ⟨rfl, rfl, rfl⟩ rfl (zrecvV hD (p := 0) rfl rfl rfl) (sp_X8_machine (A := A) (m := m) (r := r) (s := s) (l := l) (i := i) (n := 2 * (manyN (r 1) 0 13 : Int)) (zov_all hD) hD (by first | assumption | omega) (by first | assumption | omega) (by first | assumption | omega) (⟨by omega, by omega⟩) (zi_) (by first | assumption | omega)) (fun v h2 hp => ?_)
  obtain ⟨rfl, hq_9⟩ := hp
  refine Zn.eq (pc2 := 33) (ls2 := [some (za (A 0)), some (zi (s : Int)), some (zi l), some (zi i), none, none, none]) (st2 := [zi (machV (r 4 s) (r 5 s) l i (2 * (manyN (r 1) 0 13 : Int)))]) (h2 := zov (LM A m r) h) rfl rfl rfl hq_9 ?_
  have hD : zND (LM A m r) := hD
  have q_10 := machV_spec (r 4 s) (r 5 s) l i (2 * (manyN (r 1) 0 13 : Int))
  refine Zn.seg (pc2 := 37) (ls2 := [some (za (A 0)), some (zi (s : Int)), some (zi l), some (zi i), some (zi (machV (r 4 s) (r 5 s) l i (2 * (manyN (r 1) 0 13 : Int)))), none, none]) (st2 := [zi (machV (r 4 s) (r 5 s) l i (2 * (manyN (r 1) 0 13 : Int)))]) [(33, .istore 4), (35, .iload 4)] (by decide +kernel) rfl ?_
  refine Zn.ifc (c := .ge) (off := 6) 43 (by decide +kernel) rfl ⟨by omega, by omega⟩ (fun c_11 => absurd (show 0 ≤ machV (r 4 s) (r 5 s) l i (2 * (manyN (r 1) 0 13 : Int)) from c_11) (by omega)) (fun c_11 => ?_)
  have c_11 : ¬ (0 ≤ machV (r 4 s) (r 5 s) l i (2 * (manyN (r 1) 0 13 : Int))) := c_11
  refine Zn.seg (pc2 := 42) (ls2 := [some (za (A 0)), some (zi (s : Int)), some (zi l), some (zi i), some (zi (machV (r 4 s) (r 5 s) l i (2 * (manyN (r 1) 0 13 : Int)))), none, none]) (st2 := [zi (machV (r 4 s) (r 5 s) l i (2 * (manyN (r 1) 0 13 : Int)))]) [(40, .iload 4)] (by decide +kernel) rfl ?_
  exact Zn.iret (by decide +kernel) rfl (⟨by first | rfl | (refine congrArg some (congrArg zi ?_); first | omega | (simp_all; done) | (simp_all; omega)), hh.symm⟩)
set_option maxHeartbeats 1000000 in
theorem sp_X8_film_ok {h : xH} {A : Nat → Nat} {m : Nat → Int} {r : Nat → Nat → Int} {s i : Nat} {l : Int} (hL : ∀ q ∈ LM A m r, h q.1 = zcE q.2) (hD : zND (LM A m r)) (hs : s < 4) (hl : 0 ≤ l ∧ l ≤ 3) (hla : -4 ≤ r 4 s ∧ r 4 s ≤ 3) (hsz : 0 ≤ r 5 s ∧ r 5 s ≤ 24) (hk : kOK (r 1)) (hb : machV (r 4 s) (r 5 s) l i (2 * (manyN (r 1) 0 13 : Int)) = 0) (hib : i + 2 * manyN (r 1) 0 13 ≤ 24) (hyy : ∀ p, p < 13 → 0 < r 1 (p + 18) → zInI (r 1 (p + 5))) : zEv k_X8_film [za (A 0), zi (s : Int), zi l, zi (i : Int)] h (fun v h2 => v = some (zi (2 * (manyN (r 1) 0 13 : Int))) ∧ h2 = zov (LM A m (va_up r 6 (flmF (r 1) (r 6) (24 * s + i) 13))) h) := by
  have hh : h = zov (LM A m r) h := zov_self hL
  have hmn := manyN_le (r 1) 0 13
  refine zEv.body (I := (8, xI_X8_film, 7, 2, 45, 0, 0, false)) (rt := (some .int)) [some (za (A 0)), some (zi (s : Int)), some (zi l), some (zi (i : Int)), none, none, none] rfl rfl rfl rfl ?_
  refine Zn.eq rfl rfl rfl hh ?_
  have hD : zND (LM A m r) := hD
  refine Zn.seg (pc2 := 1) (ls2 := [some (za (A 0)), some (zi (s : Int)), some (zi l), some (zi (i : Int)), none, none, none]) (st2 := [zi (s : Int)]) [(0, .iload_n 1)] (by decide +kernel) rfl ?_
  refine Zn.call (ins := .invokestatic 337) [zi (s : Int)] [] (by decide +kernel) rfl rfl rfl ⟨rfl, rfl⟩ ⟨rfl, rfl, rfl⟩ rfl (zrecvS (by decide)) (sp_X8_isSheet (x := (s : Int)) (by first | assumption | exact ⟨by omega, by omega⟩)) (fun v h2 hp => ?_)
  obtain ⟨rfl, hq_1⟩ := hp
  refine Zn.eq (pc2 := 4) (ls2 := [some (za (A 0)), some (zi (s : Int)), some (zi l), some (zi (i : Int)), none, none, none]) (st2 := [zi (inB 0 3 (s : Int))]) (h2 := zov (LM A m r) h) rfl rfl rfl hq_1 ?_
  have hD : zND (LM A m r) := hD
  have q_2 := inB_spec 0 3 (s : Int)
  refine Zn.ifc (c := .eq) (off := 10) 14 (by decide +kernel) rfl ⟨by omega, by omega⟩ (fun c_3 => absurd (show inB 0 3 (s : Int) = 0 from c_3) (by omega)) (fun c_3 => ?_)
  have c_3 : ¬ (inB 0 3 (s : Int) = 0) := c_3
  refine Zn.seg (pc2 := 8) (ls2 := [some (za (A 0)), some (zi (s : Int)), some (zi l), some (zi (i : Int)), none, none, none]) (st2 := [zi l]) [(7, .iload_n 2)] (by decide +kernel) rfl ?_
  refine Zn.call (ins := .invokestatic 337) [zi l] [] (by decide +kernel) rfl rfl rfl ⟨rfl, rfl⟩ ⟨rfl, rfl, rfl⟩ rfl (zrecvS (by decide)) (sp_X8_isSheet (x := l) (by first | assumption | exact ⟨by omega, by omega⟩)) (fun v h2 hp => ?_)
  obtain ⟨rfl, hq_4⟩ := hp
  refine Zn.eq (pc2 := 11) (ls2 := [some (za (A 0)), some (zi (s : Int)), some (zi l), some (zi (i : Int)), none, none, none]) (st2 := [zi (inB 0 3 l)]) (h2 := zov (LM A m r) h) rfl rfl rfl hq_4 ?_
  have hD : zND (LM A m r) := hD
  have q_5 := inB_spec 0 3 l
  refine Zn.ifc (c := .ne) (off := 5) 16 (by decide +kernel) rfl ⟨by omega, by omega⟩ (fun c_6 => ?_) (fun c_6 => absurd (show inB 0 3 l ≠ 0 from by omega) c_6)
  have c_6 : inB 0 3 l ≠ 0 := c_6
  refine Zn.seg (pc2 := 25) (ls2 := [some (za (A 0)), some (zi (s : Int)), some (zi l), some (zi (i : Int)), none, none, none]) (st2 := [zi 0, za (A 0), zj 2, zi (i : Int), zi l, zi (s : Int), za (A 0)]) [(16, .aload_n 0), (17, .iload_n 1), (18, .iload_n 2), (19, .iload_n 3), (20, .ldc2_w 114), (23, .aload_n 0), (24, .iconst 0)] (by decide +kernel) rfl ?_
  refine Zn.call (ins := .invokevirtual 88) [za (A 0), zi 0] [zj 2, zi (i : Int), zi l, zi (s : Int), za (A 0)] (by decide +kernel) rfl rfl rfl ⟨rfl, rfl⟩ ⟨rfl, rfl, rfl⟩ rfl (zrecvV hD (p := 0) rfl rfl rfl) (sp_X8_many (A := A) (m := m) (r := r) (k := 0) (zov_all hD) hD (hk) (⟨by decide, by decide⟩)) (fun v h2 hp => ?_)
  obtain ⟨rfl, hq_7⟩ := hp
  refine Zn.eq (pc2 := 28) (ls2 := [some (za (A 0)), some (zi (s : Int)), some (zi l), some (zi (i : Int)), none, none, none]) (st2 := [zi (manyN (r 1) 0 13 : Int), zj 2, zi (i : Int), zi l, zi (s : Int), za (A 0)]) (h2 := zov (LM A m r) h) rfl rfl rfl hq_7 ?_
  have hD : zND (LM A m r) := hD
  have q_8 := manyN_le (r 1) 0 13
  refine Zn.i2l (by decide +kernel) ⟨by omega, by omega⟩ ?_
  refine Zn.seg (pc2 := 30) (ls2 := [some (za (A 0)), some (zi (s : Int)), some (zi l), some (zi (i : Int)), none, none, none]) (st2 := [zj (2 * (manyN (r 1) 0 13 : Int)), zi (i : Int), zi l, zi (s : Int), za (A 0)]) [(29, .lmul)] (by decide +kernel) rfl ?_
  refine Zn.call (ins := .invokevirtual 342) [za (A 0), zi (s : Int), zi l, zi (i : Int), zj (2 * (manyN (r 1) 0 13 : Int))] [] (by decide +kernel) rfl rfl rfl ⟨rfl, rfl⟩ ⟨rfl, rfl, rfl⟩ rfl (zrecvV hD (p := 0) rfl rfl rfl) (sp_X8_machine (A := A) (m := m) (r := r) (s := s) (l := l) (i := (i : Int)) (n := 2 * (manyN (r 1) 0 13 : Int)) (zov_all hD) hD (by first | assumption | omega) (by first | assumption | omega) (by first | assumption | omega) (⟨by omega, by omega⟩) (⟨by omega, by omega⟩) (by first | assumption | omega)) (fun v h2 hp => ?_)
  obtain ⟨rfl, hq_9⟩ := hp
  refine Zn.eq (pc2 := 33) (ls2 := [some (za (A 0)), some (zi (s : Int)), some (zi l), some (zi (i : Int)), none, none, none]) (st2 := [zi (machV (r 4 s) (r 5 s) l (i : Int) (2 * (manyN (r 1) 0 13 : Int)))]) (h2 := zov (LM A m r) h) rfl rfl rfl hq_9 ?_
  have hD : zND (LM A m r) := hD
  have q_10 := machV_spec (r 4 s) (r 5 s) l (i : Int) (2 * (manyN (r 1) 0 13 : Int))
  refine Zn.seg (pc2 := 37) (ls2 := [some (za (A 0)), some (zi (s : Int)), some (zi l), some (zi (i : Int)), some (zi (machV (r 4 s) (r 5 s) l (i : Int) (2 * (manyN (r 1) 0 13 : Int)))), none, none]) (st2 := [zi (machV (r 4 s) (r 5 s) l (i : Int) (2 * (manyN (r 1) 0 13 : Int)))]) [(33, .istore 4), (35, .iload 4)] (by decide +kernel) rfl ?_
  refine Zn.ifc (c := .ge) (off := 6) 43 (by decide +kernel) rfl ⟨by omega, by omega⟩ (fun c_11 => ?_) (fun c_11 => absurd (show 0 ≤ machV (r 4 s) (r 5 s) l (i : Int) (2 * (manyN (r 1) 0 13 : Int)) from by omega) c_11)
  have c_11 : 0 ≤ machV (r 4 s) (r 5 s) l (i : Int) (2 * (manyN (r 1) 0 13 : Int)) := c_11
  refine Zn.seg (pc2 := 50) (ls2 := [some (za (A 0)), some (zi (s : Int)), some (zi l), some (zi (i : Int)), some (zi (machV (r 4 s) (r 5 s) l (i : Int) (2 * (manyN (r 1) 0 13 : Int)))), some (zi 0), some (zi (-6))]) (st2 := []) [(43, .iconst 0), (44, .istore 5), (46, .bipush (-6)), (48, .istore 6)] (by decide +kernel) rfl ?_
  refine Zn.eq (pc2 := 50) (ls2 := [some (za (A 0)), some (zi (s : Int)), some (zi l), some (zi (i : Int)), some (zi (machV (r 4 s) (r 5 s) l (i : Int) (2 * (manyN (r 1) 0 13 : Int)))), some (zi (2 * (manyN (r 1) 0 0 : Int))), some (zi ((0 : Int) - 6))]) (st2 := []) (h2 := zov (LM A m (va_up r 6 (flmF (r 1) (r 6) (24 * s + i) 0))) h) rfl (zcons rfl (zcons rfl (zcons rfl (zcons rfl (zcons rfl (zcons (congrArg (fun z => some (zi z)) (by first | rfl | omega | simp)) (zcons (congrArg (fun z => some (zi z)) (by first | rfl | omega | simp)) rfl))))))) rfl (by rw [LM_r1 A m r 6 (flmF_zero _ _ _).symm]) ?_
  have hD : zND (LM A m (va_up r 6 (flmF (r 1) (r 6) (24 * s + i) 0))) := hD
  refine xloop (P := fun i_12 => Zn (8, xI_X8_film, 7, 2, 45, 0, 0, false) (some .int) 50 [some (za (A 0)), some (zi (s : Int)), some (zi l), some (zi (i : Int)), some (zi (machV (r 4 s) (r 5 s) l (i : Int) (2 * (manyN (r 1) 0 13 : Int)))), some (zi (2 * (manyN (r 1) 0 i_12 : Int))), some (zi ((i_12 : Int) - 6))] [] (zov (LM A m (va_up r 6 (flmF (r 1) (r 6) (24 * s + i) i_12))) h) _) (13) (fun i_12 hi_13 ih_14 => ?_) ?_
  · have hi_13 : i_12 < 13 := hi_13
    have hki := hk i_12 (by omega)
    have hmj := manyN_mono (r 1) 0 (show i_12 + 1 ≤ 13 by omega)
    have hmc := manyN_cs (r 1) i_12
    refine Zn.seg (pc2 := 54) (ls2 := [some (za (A 0)), some (zi (s : Int)), some (zi l), some (zi (i : Int)), some (zi (machV (r 4 s) (r 5 s) l (i : Int) (2 * (manyN (r 1) 0 13 : Int)))), some (zi (2 * (manyN (r 1) 0 i_12 : Int))), some (zi ((i_12 : Int) - 6))]) (st2 := [zi 7, zi ((i_12 : Int) - 6)]) [(50, .iload 6), (52, .bipush 7)] (by decide +kernel) rfl ?_
    refine Zn.icmp (c := .ge) (off := 61) 115 (by decide +kernel) rfl ⟨by omega, by omega⟩ ⟨by decide, by decide⟩ (fun c_15 => absurd (show 7 ≤ (i_12 : Int) - 6 from c_15) (by omega)) (fun c_15 => ?_)
    have c_15 : ¬ (7 ≤ (i_12 : Int) - 6) := c_15
    refine Zn.seg (pc2 := 60) (ls2 := [some (za (A 0)), some (zi (s : Int)), some (zi l), some (zi (i : Int)), some (zi (machV (r 4 s) (r 5 s) l (i : Int) (2 * (manyN (r 1) 0 13 : Int)))), some (zi (2 * (manyN (r 1) 0 i_12 : Int))), some (zi ((i_12 : Int) - 6))]) (st2 := [zi ((i_12 : Int) - 6), za (A 0)]) [(57, .aload_n 0), (58, .iload 6)] (by decide +kernel) rfl ?_
    refine Zn.call (ins := .invokevirtual 81) [za (A 0), zi ((i_12 : Int) - 6)] [] (by decide +kernel) rfl rfl rfl ⟨rfl, rfl⟩ ⟨rfl, rfl, rfl⟩ rfl (zrecvV hD (p := 0) rfl rfl rfl) (sp_X8_kind (A := A) (m := m) (r := va_up r 6 (flmF (r 1) (r 6) (24 * s + i) i_12)) (x := (i_12 : Int) - 6) (p := i_12) (zov_all hD) hD (by first | assumption | omega) (by first | assumption | omega)) (fun v h2 hp => ?_)
    obtain ⟨rfl, hq_16⟩ := hp
    refine Zn.eq (pc2 := 63) (ls2 := [some (za (A 0)), some (zi (s : Int)), some (zi l), some (zi (i : Int)), some (zi (machV (r 4 s) (r 5 s) l (i : Int) (2 * (manyN (r 1) 0 13 : Int)))), some (zi (2 * (manyN (r 1) 0 i_12 : Int))), some (zi ((i_12 : Int) - 6))]) (st2 := [zi ((r 1) (i_12 + 18))]) (h2 := zov (LM A m (va_up r 6 (flmF (r 1) (r 6) (24 * s + i) i_12))) h) rfl rfl rfl hq_16 ?_
    have hD : zND (LM A m (va_up r 6 (flmF (r 1) (r 6) (24 * s + i) i_12))) := hD
    refine Zn.ifc (c := .le) (off := 46) 109 (by decide +kernel) rfl ⟨by omega, by omega⟩ (fun c_17 => ?_) (fun c_17 => ?_)
    · have c_17 : (r 1) (i_12 + 18) ≤ 0 := c_17
      refine Zn.seg (pc2 := 50) (ls2 := [some (za (A 0)), some (zi (s : Int)), some (zi l), some (zi (i : Int)), some (zi (machV (r 4 s) (r 5 s) l (i : Int) (2 * (manyN (r 1) 0 13 : Int)))), some (zi (2 * (manyN (r 1) 0 i_12 : Int))), some (zi ((i_12 : Int) - 6 + 1))]) (st2 := []) [(109, .iinc 6 1), (112, .goto (-62))] (by decide +kernel) rfl ?_
      exact Zn.eq rfl (zcons rfl (zcons rfl (zcons rfl (zcons rfl (zcons rfl (zcons (congrArg (fun z => some (zi z)) (by first | rw [manyN_t (by omega) (Or.inl rfl)]; omega | rw [manyN_f (by omega)])) (zcons (congrArg (fun z => some (zi z)) (by omega)) rfl))))))) rfl (by first | rw [flmF_t (by omega)] | rw [flmF_f (by omega)]) (ih_14)
    · have c_17 : ¬ ((r 1) (i_12 + 18) ≤ 0) := c_17
      refine Zn.seg (pc2 := 67) (ls2 := [some (za (A 0)), some (zi (s : Int)), some (zi l), some (zi (i : Int)), some (zi (machV (r 4 s) (r 5 s) l (i : Int) (2 * (manyN (r 1) 0 13 : Int)))), some (zi (2 * (manyN (r 1) 0 i_12 : Int))), some (zi ((i_12 : Int) - 6))]) (st2 := [za (A 0)]) [(66, .aload_n 0)] (by decide +kernel) rfl ?_
      refine Zn.get (ix := 29) hD 0 (by decide +kernel) rfl rfl rfl ?_
      refine Zn.seg (pc2 := 81) (ls2 := [some (za (A 0)), some (zi (s : Int)), some (zi l), some (zi (i : Int)), some (zi (machV (r 4 s) (r 5 s) l (i : Int) (2 * (manyN (r 1) 0 13 : Int)))), some (zi (2 * (manyN (r 1) 0 i_12 : Int))), some (zi ((i_12 : Int) - 6))]) (st2 := [zi ((i_12 : Int) - 6), zi (24 * (s : Int) + (i : Int) + (2 * (manyN (r 1) 0 i_12 : Int))), za (A 6)]) [(70, .bipush 24), (72, .iload_n 1), (73, .imul), (74, .iload_n 3), (75, .iadd), (76, .iload 5), (78, .iadd), (79, .iload 6)] (by decide +kernel) rfl ?_
      refine Zn.i2l (by decide +kernel) ⟨by omega, by omega⟩ ?_
      refine Zn.last hD 6 (24 * s + i + 2 * manyN (r 1) 0 i_12) (by decide +kernel) rfl (by omega) (by omega) rfl ?_
      refine Zn.eq (h2 := zov (LM A m (va_up r 6 (va_up (flmF (r 1) (r 6) (24 * s + i) i_12) (24 * s + i + 2 * manyN (r 1) 0 i_12) ((i_12 : Int) - 6)))) h) rfl rfl rfl (rfl) ?_
      have hD : zND (LM A m (va_up r 6 (va_up (flmF (r 1) (r 6) (24 * s + i) i_12) (24 * s + i + 2 * manyN (r 1) 0 i_12) ((i_12 : Int) - 6)))) := hD
      refine Zn.seg (pc2 := 84) (ls2 := [some (za (A 0)), some (zi (s : Int)), some (zi l), some (zi (i : Int)), some (zi (machV (r 4 s) (r 5 s) l (i : Int) (2 * (manyN (r 1) 0 13 : Int)))), some (zi (2 * (manyN (r 1) 0 i_12 : Int))), some (zi ((i_12 : Int) - 6))]) (st2 := [za (A 0)]) [(83, .aload_n 0)] (by decide +kernel) rfl ?_
      refine Zn.get (ix := 29) hD 0 (by decide +kernel) rfl rfl rfl ?_
      refine Zn.seg (pc2 := 101) (ls2 := [some (za (A 0)), some (zi (s : Int)), some (zi l), some (zi (i : Int)), some (zi (machV (r 4 s) (r 5 s) l (i : Int) (2 * (manyN (r 1) 0 13 : Int)))), some (zi (2 * (manyN (r 1) 0 i_12 : Int))), some (zi ((i_12 : Int) - 6))]) (st2 := [zi ((i_12 : Int) - 6), za (A 0), zi (24 * (s : Int) + (i : Int) + (2 * (manyN (r 1) 0 i_12 : Int)) + 1), za (A 6)]) [(87, .bipush 24), (89, .iload_n 1), (90, .imul), (91, .iload_n 3), (92, .iadd), (93, .iload 5), (95, .iadd), (96, .iconst 1), (97, .iadd), (98, .aload_n 0), (99, .iload 6)] (by decide +kernel) rfl ?_
      refine Zn.call (ins := .invokevirtual 102) [za (A 0), zi ((i_12 : Int) - 6)] [zi (24 * (s : Int) + (i : Int) + (2 * (manyN (r 1) 0 i_12 : Int)) + 1), za (A 6)] (by decide +kernel) rfl rfl rfl ⟨rfl, rfl⟩ ⟨rfl, rfl, rfl⟩ rfl (zrecvV hD (p := 0) rfl rfl rfl) (sp_X8_y (A := A) (m := m) (r := va_up r 6 (va_up (flmF (r 1) (r 6) (24 * s + i) i_12) (24 * s + i + 2 * manyN (r 1) 0 i_12) ((i_12 : Int) - 6))) (x := (i_12 : Int) - 6) (p := i_12) (zov_all hD) hD (by first | assumption | omega) (by first | assumption | omega)) (fun v h2 hp => ?_)
      obtain ⟨rfl, hq_18⟩ := hp
      refine Zn.eq (pc2 := 104) (ls2 := [some (za (A 0)), some (zi (s : Int)), some (zi l), some (zi (i : Int)), some (zi (machV (r 4 s) (r 5 s) l (i : Int) (2 * (manyN (r 1) 0 13 : Int)))), some (zi (2 * (manyN (r 1) 0 i_12 : Int))), some (zi ((i_12 : Int) - 6))]) (st2 := [zi ((r 1) (i_12 + 5)), zi (24 * (s : Int) + (i : Int) + (2 * (manyN (r 1) 0 i_12 : Int)) + 1), za (A 6)]) (h2 := zov (LM A m (va_up r 6 (va_up (flmF (r 1) (r 6) (24 * s + i) i_12) (24 * s + i + 2 * manyN (r 1) 0 i_12) ((i_12 : Int) - 6)))) h) rfl rfl rfl hq_18 ?_
      have hD : zND (LM A m (va_up r 6 (va_up (flmF (r 1) (r 6) (24 * s + i) i_12) (24 * s + i + 2 * manyN (r 1) 0 i_12) ((i_12 : Int) - 6)))) := hD
      refine Zn.i2l (by decide +kernel) (hyy _ (by omega) (by omega)) ?_
      refine Zn.last hD 6 (24 * s + i + 2 * manyN (r 1) 0 i_12 + 1) (by decide +kernel) rfl (by omega) (by omega) rfl ?_
      refine Zn.eq (h2 := zov (LM A m (va_up r 6 (va_up (va_up (flmF (r 1) (r 6) (24 * s + i) i_12) (24 * s + i + 2 * manyN (r 1) 0 i_12) ((i_12 : Int) - 6)) (24 * s + i + 2 * manyN (r 1) 0 i_12 + 1) ((r 1) (i_12 + 5))))) h) rfl rfl rfl (rfl) ?_
      have hD : zND (LM A m (va_up r 6 (va_up (va_up (flmF (r 1) (r 6) (24 * s + i) i_12) (24 * s + i + 2 * manyN (r 1) 0 i_12) ((i_12 : Int) - 6)) (24 * s + i + 2 * manyN (r 1) 0 i_12 + 1) ((r 1) (i_12 + 5))))) := hD
      refine Zn.seg (pc2 := 50) (ls2 := [some (za (A 0)), some (zi (s : Int)), some (zi l), some (zi (i : Int)), some (zi (machV (r 4 s) (r 5 s) l (i : Int) (2 * (manyN (r 1) 0 13 : Int)))), some (zi (2 * (manyN (r 1) 0 i_12 : Int) + 2)), some (zi ((i_12 : Int) - 6 + 1))]) (st2 := []) [(106, .iinc 5 2), (109, .iinc 6 1), (112, .goto (-62))] (by decide +kernel) rfl ?_
      exact Zn.eq rfl (zcons rfl (zcons rfl (zcons rfl (zcons rfl (zcons rfl (zcons (congrArg (fun z => some (zi z)) (by first | rw [manyN_t (by omega) (Or.inl rfl)]; omega | rw [manyN_f (by omega)])) (zcons (congrArg (fun z => some (zi z)) (by omega)) rfl))))))) rfl (by first | rw [flmF_t (by omega)] | rw [flmF_f (by omega)]) (ih_14)
  · skip
    refine Zn.seg (pc2 := 54) (ls2 := [some (za (A 0)), some (zi (s : Int)), some (zi l), some (zi (i : Int)), some (zi (machV (r 4 s) (r 5 s) l (i : Int) (2 * (manyN (r 1) 0 13 : Int)))), some (zi (2 * (manyN (r 1) 0 13 : Int))), some (zi ((13 : Int) - 6))]) (st2 := [zi 7, zi ((13 : Int) - 6)]) [(50, .iload 6), (52, .bipush 7)] (by decide +kernel) rfl ?_
    refine Zn.icmp (c := .ge) (off := 61) 115 (by decide +kernel) rfl ⟨by omega, by omega⟩ ⟨by decide, by decide⟩ (fun c_19 => ?_) (fun c_19 => absurd (show 7 ≤ (13 : Int) - 6 from by decide) c_19)
    have c_19 : 7 ≤ (13 : Int) - 6 := c_19
    refine Zn.seg (pc2 := 117) (ls2 := [some (za (A 0)), some (zi (s : Int)), some (zi l), some (zi (i : Int)), some (zi (machV (r 4 s) (r 5 s) l (i : Int) (2 * (manyN (r 1) 0 13 : Int)))), some (zi (2 * (manyN (r 1) 0 13 : Int))), some (zi ((13 : Int) - 6))]) (st2 := [zi (2 * (manyN (r 1) 0 13 : Int))]) [(115, .iload 5)] (by decide +kernel) rfl ?_
    exact Zn.iret (by decide +kernel) rfl (⟨by first | rfl | (refine congrArg some (congrArg zi ?_); first | omega | (simp_all; done) | (simp_all; omega)), rfl⟩)
theorem sp_X8_sheet_bad {h : xH} {A : Nat → Nat} {m : Nat → Int} {r : Nat → Nat → Int} {s l n : Int} (hL : ∀ q ∈ LM A m r, h q.1 = zcE q.2) (hD : zND (LM A m r)) (zs : zInI s) (zl : zInI l) (zn : zInI n) (hb : ¬ (0 ≤ s ∧ s ≤ 3) ∨ ¬ (0 ≤ l ∧ l ≤ 3) ∨ 24 < n) : zEv k_X8_sheet [za (A 0), zi s, zi l, zi n] h (fun v h2 => v = some (zi (-1)) ∧ h2 = h) := by
  have hh : h = zov (LM A m r) h := zov_self hL
  have zs1 := zs.1
  have zs2 := zs.2
  have zl1 := zl.1
  have zl2 := zl.2
  have zn1 := zn.1
  have zn2 := zn.2
  refine zEv.body (I := (8, xI_X8_sheet, 5, 2, 45, 0, 0, false)) (rt := (some .int)) [some (za (A 0)), some (zi s), some (zi l), some (zi n), none] rfl rfl rfl rfl ?_
  refine Zn.eq rfl rfl rfl hh ?_
  have hD : zND (LM A m r) := hD
  refine Zn.seg (pc2 := 1) (ls2 := [some (za (A 0)), some (zi s), some (zi l), some (zi n), none]) (st2 := [zi s]) [(0, .iload_n 1)] (by decide +kernel) rfl ?_
  refine Zn.call (ins := .invokestatic 337) [zi s] [] (by decide +kernel) rfl rfl rfl ⟨rfl, rfl⟩ ⟨rfl, rfl, rfl⟩ rfl (zrecvS (by decide)) (sp_X8_isSheet (x := s) (by first | assumption | exact ⟨by omega, by omega⟩)) (fun v h2 hp => ?_)
  obtain ⟨rfl, hq_1⟩ := hp
  refine Zn.eq (pc2 := 4) (ls2 := [some (za (A 0)), some (zi s), some (zi l), some (zi n), none]) (st2 := [zi (inB 0 3 s)]) (h2 := zov (LM A m r) h) rfl rfl rfl hq_1 ?_
  have hD : zND (LM A m r) := hD
  have q_2 := inB_spec 0 3 s
  refine Zn.ifc (c := .eq) (off := 16) 20 (by decide +kernel) rfl ⟨by omega, by omega⟩ (fun c_3 => ?_) (fun c_3 => ?_)
  · have c_3 : inB 0 3 s = 0 := c_3
    refine Zn.seg (pc2 := 21) (ls2 := [some (za (A 0)), some (zi s), some (zi l), some (zi n), none]) (st2 := [zi (-1)]) [(20, .iconst (-1))] (by decide +kernel) rfl ?_
    exact Zn.iret (by decide +kernel) rfl (⟨by first | rfl | (refine congrArg some (congrArg zi ?_); first | omega | (simp_all; done) | (simp_all; omega)), hh.symm⟩)
  · have c_3 : ¬ (inB 0 3 s = 0) := c_3
    refine Zn.seg (pc2 := 8) (ls2 := [some (za (A 0)), some (zi s), some (zi l), some (zi n), none]) (st2 := [zi l]) [(7, .iload_n 2)] (by decide +kernel) rfl ?_
    refine Zn.call (ins := .invokestatic 337) [zi l] [] (by decide +kernel) rfl rfl rfl ⟨rfl, rfl⟩ ⟨rfl, rfl, rfl⟩ rfl (zrecvS (by decide)) (sp_X8_isSheet (x := l) (by first | assumption | exact ⟨by omega, by omega⟩)) (fun v h2 hp => ?_)
    obtain ⟨rfl, hq_4⟩ := hp
    refine Zn.eq (pc2 := 11) (ls2 := [some (za (A 0)), some (zi s), some (zi l), some (zi n), none]) (st2 := [zi (inB 0 3 l)]) (h2 := zov (LM A m r) h) rfl rfl rfl hq_4 ?_
    have hD : zND (LM A m r) := hD
    have q_5 := inB_spec 0 3 l
    refine Zn.ifc (c := .eq) (off := 9) 20 (by decide +kernel) rfl ⟨by omega, by omega⟩ (fun c_6 => ?_) (fun c_6 => ?_)
    · have c_6 : inB 0 3 l = 0 := c_6
      refine Zn.seg (pc2 := 21) (ls2 := [some (za (A 0)), some (zi s), some (zi l), some (zi n), none]) (st2 := [zi (-1)]) [(20, .iconst (-1))] (by decide +kernel) rfl ?_
      exact Zn.iret (by decide +kernel) rfl (⟨by first | rfl | (refine congrArg some (congrArg zi ?_); first | omega | (simp_all; done) | (simp_all; omega)), hh.symm⟩)
    · have c_6 : ¬ (inB 0 3 l = 0) := c_6
      refine Zn.seg (pc2 := 17) (ls2 := [some (za (A 0)), some (zi s), some (zi l), some (zi n), none]) (st2 := [zi 24, zi n]) [(14, .iload_n 3), (15, .bipush 24)] (by decide +kernel) rfl ?_
      refine Zn.icmp (c := .le) (off := 5) 22 (by decide +kernel) rfl ⟨by omega, by omega⟩ ⟨by decide, by decide⟩ (fun c_7 => absurd (show n ≤ 24 from c_7) (by omega)) (fun c_7 => ?_)
      have c_7 : ¬ (n ≤ 24) := c_7
      refine Zn.seg (pc2 := 21) (ls2 := [some (za (A 0)), some (zi s), some (zi l), some (zi n), none]) (st2 := [zi (-1)]) [(20, .iconst (-1))] (by decide +kernel) rfl ?_
      exact Zn.iret (by decide +kernel) rfl (⟨by first | rfl | (refine congrArg some (congrArg zi ?_); first | omega | (simp_all; done) | (simp_all; omega)), hh.symm⟩)
theorem sp_X8_sheet_size {h : xH} {A : Nat → Nat} {m : Nat → Int} {r : Nat → Nat → Int} {s l n : Int} (hL : ∀ q ∈ LM A m r, h q.1 = zcE q.2) (hD : zND (LM A m r)) (hs : 0 ≤ s ∧ s ≤ 3) (hl : 0 ≤ l ∧ l ≤ 3) (zn : zInI n) (hb : n < 0) : zEv k_X8_sheet [za (A 0), zi s, zi l, zi n] h (fun v h2 => v = some (zi (-14)) ∧ h2 = h) := by
  have hh : h = zov (LM A m r) h := zov_self hL
  have zn1 := zn.1
  have zn2 := zn.2
  refine zEv.body (I := (8, xI_X8_sheet, 5, 2, 45, 0, 0, false)) (rt := (some .int)) [some (za (A 0)), some (zi s), some (zi l), some (zi n), none] rfl rfl rfl rfl ?_
  refine Zn.eq rfl rfl rfl hh ?_
  have hD : zND (LM A m r) := hD
  refine Zn.seg (pc2 := 1) (ls2 := [some (za (A 0)), some (zi s), some (zi l), some (zi n), none]) (st2 := [zi s]) [(0, .iload_n 1)] (by decide +kernel) rfl ?_
  refine Zn.call (ins := .invokestatic 337) [zi s] [] (by decide +kernel) rfl rfl rfl ⟨rfl, rfl⟩ ⟨rfl, rfl, rfl⟩ rfl (zrecvS (by decide)) (sp_X8_isSheet (x := s) (by first | assumption | exact ⟨by omega, by omega⟩)) (fun v h2 hp => ?_)
  obtain ⟨rfl, hq_1⟩ := hp
  refine Zn.eq (pc2 := 4) (ls2 := [some (za (A 0)), some (zi s), some (zi l), some (zi n), none]) (st2 := [zi (inB 0 3 s)]) (h2 := zov (LM A m r) h) rfl rfl rfl hq_1 ?_
  have hD : zND (LM A m r) := hD
  have q_2 := inB_spec 0 3 s
  refine Zn.ifc (c := .eq) (off := 16) 20 (by decide +kernel) rfl ⟨by omega, by omega⟩ (fun c_3 => absurd (show inB 0 3 s = 0 from c_3) (by omega)) (fun c_3 => ?_)
  have c_3 : ¬ (inB 0 3 s = 0) := c_3
  refine Zn.seg (pc2 := 8) (ls2 := [some (za (A 0)), some (zi s), some (zi l), some (zi n), none]) (st2 := [zi l]) [(7, .iload_n 2)] (by decide +kernel) rfl ?_
  refine Zn.call (ins := .invokestatic 337) [zi l] [] (by decide +kernel) rfl rfl rfl ⟨rfl, rfl⟩ ⟨rfl, rfl, rfl⟩ rfl (zrecvS (by decide)) (sp_X8_isSheet (x := l) (by first | assumption | exact ⟨by omega, by omega⟩)) (fun v h2 hp => ?_)
  obtain ⟨rfl, hq_4⟩ := hp
  refine Zn.eq (pc2 := 11) (ls2 := [some (za (A 0)), some (zi s), some (zi l), some (zi n), none]) (st2 := [zi (inB 0 3 l)]) (h2 := zov (LM A m r) h) rfl rfl rfl hq_4 ?_
  have hD : zND (LM A m r) := hD
  have q_5 := inB_spec 0 3 l
  refine Zn.ifc (c := .eq) (off := 9) 20 (by decide +kernel) rfl ⟨by omega, by omega⟩ (fun c_6 => absurd (show inB 0 3 l = 0 from c_6) (by omega)) (fun c_6 => ?_)
  have c_6 : ¬ (inB 0 3 l = 0) := c_6
  refine Zn.seg (pc2 := 17) (ls2 := [some (za (A 0)), some (zi s), some (zi l), some (zi n), none]) (st2 := [zi 24, zi n]) [(14, .iload_n 3), (15, .bipush 24)] (by decide +kernel) rfl ?_
  refine Zn.icmp (c := .le) (off := 5) 22 (by decide +kernel) rfl ⟨by omega, by omega⟩ ⟨by decide, by decide⟩ (fun c_7 => ?_) (fun c_7 => absurd (show n ≤ 24 from by omega) c_7)
  have c_7 : n ≤ 24 := c_7
  refine Zn.seg (pc2 := 23) (ls2 := [some (za (A 0)), some (zi s), some (zi l), some (zi n), none]) (st2 := [zi n]) [(22, .iload_n 3)] (by decide +kernel) rfl ?_
  refine Zn.ifc (c := .ge) (off := 6) 29 (by decide +kernel) rfl ⟨by omega, by omega⟩ (fun c_8 => absurd (show 0 ≤ n from c_8) (by omega)) (fun c_8 => ?_)
  have c_8 : ¬ (0 ≤ n) := c_8
  refine Zn.seg (pc2 := 28) (ls2 := [some (za (A 0)), some (zi s), some (zi l), some (zi n), none]) (st2 := [zi (-14)]) [(26, .bipush (-14))] (by decide +kernel) rfl ?_
  exact Zn.iret (by decide +kernel) rfl (⟨by first | rfl | (refine congrArg some (congrArg zi ?_); first | omega | (simp_all; done) | (simp_all; omega)), hh.symm⟩)
theorem sp_X8_sheet_ok {h : xH} {A : Nat → Nat} {m : Nat → Int} {r : Nat → Nat → Int} {s : Nat} {l n : Int} (hL : ∀ q ∈ LM A m r, h q.1 = zcE q.2) (hD : zND (LM A m r)) (hs : s < 4) (hl : 0 ≤ l ∧ l ≤ 3) (hn : 0 ≤ n ∧ n ≤ 24) : zEv k_X8_sheet [za (A 0), zi (s : Int), zi l, zi n] h (fun v h2 => v = some (zi n) ∧ h2 = zov (LM A m (va_up (va_up (va_up r 4 (va_up (r 4) s l)) 5 (va_up (r 5) s n)) 6 (zrF (r 6) (24 * s) 24))) h) := by
  have hh : h = zov (LM A m r) h := zov_self hL
  refine zEv.body (I := (8, xI_X8_sheet, 5, 2, 45, 0, 0, false)) (rt := (some .int)) [some (za (A 0)), some (zi (s : Int)), some (zi l), some (zi n), none] rfl rfl rfl rfl ?_
  refine Zn.eq rfl rfl rfl hh ?_
  have hD : zND (LM A m r) := hD
  refine Zn.seg (pc2 := 1) (ls2 := [some (za (A 0)), some (zi (s : Int)), some (zi l), some (zi n), none]) (st2 := [zi (s : Int)]) [(0, .iload_n 1)] (by decide +kernel) rfl ?_
  refine Zn.call (ins := .invokestatic 337) [zi (s : Int)] [] (by decide +kernel) rfl rfl rfl ⟨rfl, rfl⟩ ⟨rfl, rfl, rfl⟩ rfl (zrecvS (by decide)) (sp_X8_isSheet (x := (s : Int)) (by first | assumption | exact ⟨by omega, by omega⟩)) (fun v h2 hp => ?_)
  obtain ⟨rfl, hq_1⟩ := hp
  refine Zn.eq (pc2 := 4) (ls2 := [some (za (A 0)), some (zi (s : Int)), some (zi l), some (zi n), none]) (st2 := [zi (inB 0 3 (s : Int))]) (h2 := zov (LM A m r) h) rfl rfl rfl hq_1 ?_
  have hD : zND (LM A m r) := hD
  have q_2 := inB_spec 0 3 (s : Int)
  refine Zn.ifc (c := .eq) (off := 16) 20 (by decide +kernel) rfl ⟨by omega, by omega⟩ (fun c_3 => absurd (show inB 0 3 (s : Int) = 0 from c_3) (by omega)) (fun c_3 => ?_)
  have c_3 : ¬ (inB 0 3 (s : Int) = 0) := c_3
  refine Zn.seg (pc2 := 8) (ls2 := [some (za (A 0)), some (zi (s : Int)), some (zi l), some (zi n), none]) (st2 := [zi l]) [(7, .iload_n 2)] (by decide +kernel) rfl ?_
  refine Zn.call (ins := .invokestatic 337) [zi l] [] (by decide +kernel) rfl rfl rfl ⟨rfl, rfl⟩ ⟨rfl, rfl, rfl⟩ rfl (zrecvS (by decide)) (sp_X8_isSheet (x := l) (by first | assumption | exact ⟨by omega, by omega⟩)) (fun v h2 hp => ?_)
  obtain ⟨rfl, hq_4⟩ := hp
  refine Zn.eq (pc2 := 11) (ls2 := [some (za (A 0)), some (zi (s : Int)), some (zi l), some (zi n), none]) (st2 := [zi (inB 0 3 l)]) (h2 := zov (LM A m r) h) rfl rfl rfl hq_4 ?_
  have hD : zND (LM A m r) := hD
  have q_5 := inB_spec 0 3 l
  refine Zn.ifc (c := .eq) (off := 9) 20 (by decide +kernel) rfl ⟨by omega, by omega⟩ (fun c_6 => absurd (show inB 0 3 l = 0 from c_6) (by omega)) (fun c_6 => ?_)
  have c_6 : ¬ (inB 0 3 l = 0) := c_6
  refine Zn.seg (pc2 := 17) (ls2 := [some (za (A 0)), some (zi (s : Int)), some (zi l), some (zi n), none]) (st2 := [zi 24, zi n]) [(14, .iload_n 3), (15, .bipush 24)] (by decide +kernel) rfl ?_
  refine Zn.icmp (c := .le) (off := 5) 22 (by decide +kernel) rfl ⟨by omega, by omega⟩ ⟨by decide, by decide⟩ (fun c_7 => ?_) (fun c_7 => absurd (show n ≤ 24 from by omega) c_7)
  have c_7 : n ≤ 24 := c_7
  refine Zn.seg (pc2 := 23) (ls2 := [some (za (A 0)), some (zi (s : Int)), some (zi l), some (zi n), none]) (st2 := [zi n]) [(22, .iload_n 3)] (by decide +kernel) rfl ?_
  refine Zn.ifc (c := .ge) (off := 6) 29 (by decide +kernel) rfl ⟨by omega, by omega⟩ (fun c_8 => ?_) (fun c_8 => absurd (show 0 ≤ n from by omega) c_8)
  have c_8 : 0 ≤ n := c_8
  refine Zn.seg (pc2 := 30) (ls2 := [some (za (A 0)), some (zi (s : Int)), some (zi l), some (zi n), none]) (st2 := [za (A 0)]) [(29, .aload_n 0)] (by decide +kernel) rfl ?_
  refine Zn.get (ix := 23) hD 0 (by decide +kernel) rfl rfl rfl ?_
  refine Zn.seg (pc2 := 35) (ls2 := [some (za (A 0)), some (zi (s : Int)), some (zi l), some (zi n), none]) (st2 := [zi l, zi (s : Int), za (A 4)]) [(33, .iload_n 1), (34, .iload_n 2)] (by decide +kernel) rfl ?_
  refine Zn.iast hD 4 (s) (by decide +kernel) rfl (by omega) (by omega) rfl ?_
  refine Zn.eq (h2 := zov (LM A m (va_up r 4 (va_up (r 4) s l))) h) rfl rfl rfl (rfl) ?_
  have hD : zND (LM A m (va_up r 4 (va_up (r 4) s l))) := hD
  refine Zn.seg (pc2 := 37) (ls2 := [some (za (A 0)), some (zi (s : Int)), some (zi l), some (zi n), none]) (st2 := [za (A 0)]) [(36, .aload_n 0)] (by decide +kernel) rfl ?_
  refine Zn.get (ix := 26) hD 0 (by decide +kernel) rfl rfl rfl ?_
  refine Zn.seg (pc2 := 42) (ls2 := [some (za (A 0)), some (zi (s : Int)), some (zi l), some (zi n), none]) (st2 := [zi n, zi (s : Int), za (A 5)]) [(40, .iload_n 1), (41, .iload_n 3)] (by decide +kernel) rfl ?_
  refine Zn.iast hD 5 (s) (by decide +kernel) rfl (by omega) (by omega) rfl ?_
  refine Zn.eq (h2 := zov (LM A m (va_up (va_up r 4 (va_up (r 4) s l)) 5 (va_up (r 5) s n))) h) rfl rfl rfl (rfl) ?_
  have hD : zND (LM A m (va_up (va_up r 4 (va_up (r 4) s l)) 5 (va_up (r 5) s n))) := hD
  refine Zn.seg (pc2 := 46) (ls2 := [some (za (A 0)), some (zi (s : Int)), some (zi l), some (zi n), some (zi 0)]) (st2 := []) [(43, .iconst 0), (44, .istore 4)] (by decide +kernel) rfl ?_
  refine Zn.eq (pc2 := 46) (ls2 := [some (za (A 0)), some (zi (s : Int)), some (zi l), some (zi n), some (zi (0 : Int))]) (st2 := []) (h2 := zov (LM A m (va_up (va_up (va_up r 4 (va_up (r 4) s l)) 5 (va_up (r 5) s n)) 6 (zrF (r 6) (24 * s) 0))) h) rfl (zcons rfl (zcons rfl (zcons rfl (zcons rfl (zcons (congrArg (fun z => some (zi z)) (by first | rfl | omega | simp)) rfl))))) rfl (by rw [zrF_zero, va_eta (v := r 6) (va_up (va_up r 4 (va_up (r 4) s l)) 5 (va_up (r 5) s n)) 6 rfl]) ?_
  have hD : zND (LM A m (va_up (va_up (va_up r 4 (va_up (r 4) s l)) 5 (va_up (r 5) s n)) 6 (zrF (r 6) (24 * s) 0))) := hD
  refine xloop (P := fun i_9 => Zn (8, xI_X8_sheet, 5, 2, 45, 0, 0, false) (some .int) 46 [some (za (A 0)), some (zi (s : Int)), some (zi l), some (zi n), some (zi (i_9 : Int))] [] (zov (LM A m (va_up (va_up (va_up r 4 (va_up (r 4) s l)) 5 (va_up (r 5) s n)) 6 (zrF (r 6) (24 * s) i_9))) h) _) (24) (fun i_9 hi_10 ih_11 => ?_) ?_
  · have hi_10 : i_9 < 24 := hi_10
    refine Zn.seg (pc2 := 50) (ls2 := [some (za (A 0)), some (zi (s : Int)), some (zi l), some (zi n), some (zi (i_9 : Int))]) (st2 := [zi 24, zi (i_9 : Int)]) [(46, .iload 4), (48, .bipush 24)] (by decide +kernel) rfl ?_
    refine Zn.icmp (c := .ge) (off := 22) 72 (by decide +kernel) rfl ⟨by omega, by omega⟩ ⟨by decide, by decide⟩ (fun c_12 => absurd (show 24 ≤ (i_9 : Int) from c_12) (by omega)) (fun c_12 => ?_)
    have c_12 : ¬ (24 ≤ (i_9 : Int)) := c_12
    refine Zn.seg (pc2 := 54) (ls2 := [some (za (A 0)), some (zi (s : Int)), some (zi l), some (zi n), some (zi (i_9 : Int))]) (st2 := [za (A 0)]) [(53, .aload_n 0)] (by decide +kernel) rfl ?_
    refine Zn.get (ix := 29) hD 0 (by decide +kernel) rfl rfl rfl ?_
    refine Zn.seg (pc2 := 65) (ls2 := [some (za (A 0)), some (zi (s : Int)), some (zi l), some (zi n), some (zi (i_9 : Int))]) (st2 := [zj 0, zi (24 * (s : Int) + (i_9 : Int)), za (A 6)]) [(57, .bipush 24), (59, .iload_n 1), (60, .imul), (61, .iload 4), (63, .iadd), (64, .lconst 0)] (by decide +kernel) rfl ?_
    refine Zn.last hD 6 (24 * s + i_9) (by decide +kernel) rfl (by omega) (by omega) rfl ?_
    refine Zn.eq (h2 := zov (LM A m (va_up (va_up (va_up r 4 (va_up (r 4) s l)) 5 (va_up (r 5) s n)) 6 (va_up (zrF (r 6) (24 * s) i_9) (24 * s + i_9) 0))) h) rfl rfl rfl (rfl) ?_
    have hD : zND (LM A m (va_up (va_up (va_up r 4 (va_up (r 4) s l)) 5 (va_up (r 5) s n)) 6 (va_up (zrF (r 6) (24 * s) i_9) (24 * s + i_9) 0))) := hD
    refine Zn.seg (pc2 := 46) (ls2 := [some (za (A 0)), some (zi (s : Int)), some (zi l), some (zi n), some (zi ((i_9 : Int) + 1))]) (st2 := []) [(66, .iinc 4 1), (69, .goto (-23))] (by decide +kernel) rfl ?_
    exact Zn.eq rfl (zcons rfl (zcons rfl (zcons rfl (zcons rfl (zcons (congrArg (fun z => some (zi z)) (by omega)) rfl))))) rfl (by rw [zrF_step]) (ih_11)
  · skip
    refine Zn.seg (pc2 := 50) (ls2 := [some (za (A 0)), some (zi (s : Int)), some (zi l), some (zi n), some (zi (24 : Int))]) (st2 := [zi 24, zi (24 : Int)]) [(46, .iload 4), (48, .bipush 24)] (by decide +kernel) rfl ?_
    refine Zn.icmp (c := .ge) (off := 22) 72 (by decide +kernel) rfl ⟨by omega, by omega⟩ ⟨by decide, by decide⟩ (fun c_13 => ?_) (fun c_13 => absurd (show 24 ≤ (24 : Int) from by decide) c_13)
    have c_13 : 24 ≤ (24 : Int) := c_13
    refine Zn.seg (pc2 := 73) (ls2 := [some (za (A 0)), some (zi (s : Int)), some (zi l), some (zi n), some (zi (24 : Int))]) (st2 := [zi n]) [(72, .iload_n 3)] (by decide +kernel) rfl ?_
    exact Zn.iret (by decide +kernel) rfl (⟨by first | rfl | (refine congrArg some (congrArg zi ?_); first | omega | (simp_all; done) | (simp_all; omega)), rfl⟩)
theorem sp_X8_drop_bad {h : xH} {A : Nat → Nat} {m : Nat → Int} {r : Nat → Nat → Int} {s : Int} (hL : ∀ q ∈ LM A m r, h q.1 = zcE q.2) (hD : zND (LM A m r)) (zs : zInI s) (hb : ¬ (0 ≤ s ∧ s ≤ 3)) : zEv k_X8_drop [za (A 0), zi s] h (fun v h2 => v = some (zi (-1)) ∧ h2 = h) := by
  have hh : h = zov (LM A m r) h := zov_self hL
  have zs1 := zs.1
  have zs2 := zs.2
  refine zEv.body (I := (8, xI_X8_drop, 2, 2, 45, 0, 0, false)) (rt := (some .int)) [some (za (A 0)), some (zi s)] rfl rfl rfl rfl ?_
  refine Zn.eq rfl rfl rfl hh ?_
  have hD : zND (LM A m r) := hD
  refine Zn.seg (pc2 := 1) (ls2 := [some (za (A 0)), some (zi s)]) (st2 := [zi s]) [(0, .iload_n 1)] (by decide +kernel) rfl ?_
  refine Zn.call (ins := .invokestatic 337) [zi s] [] (by decide +kernel) rfl rfl rfl ⟨rfl, rfl⟩ ⟨rfl, rfl, rfl⟩ rfl (zrecvS (by decide)) (sp_X8_isSheet (x := s) (by first | assumption | exact ⟨by omega, by omega⟩)) (fun v h2 hp => ?_)
  obtain ⟨rfl, hq_1⟩ := hp
  refine Zn.eq (pc2 := 4) (ls2 := [some (za (A 0)), some (zi s)]) (st2 := [zi (inB 0 3 s)]) (h2 := zov (LM A m r) h) rfl rfl rfl hq_1 ?_
  have hD : zND (LM A m r) := hD
  have q_2 := inB_spec 0 3 s
  refine Zn.ifc (c := .ne) (off := 5) 9 (by decide +kernel) rfl ⟨by omega, by omega⟩ (fun c_3 => absurd (show inB 0 3 s ≠ 0 from c_3) (by omega)) (fun c_3 => ?_)
  have c_3 : ¬ (inB 0 3 s ≠ 0) := c_3
  refine Zn.seg (pc2 := 8) (ls2 := [some (za (A 0)), some (zi s)]) (st2 := [zi (-1)]) [(7, .iconst (-1))] (by decide +kernel) rfl ?_
  exact Zn.iret (by decide +kernel) rfl (⟨by first | rfl | (refine congrArg some (congrArg zi ?_); first | omega | (simp_all; done) | (simp_all; omega)), hh.symm⟩)
theorem sp_X8_drop_null {h : xH} {A : Nat → Nat} {m : Nat → Int} {r : Nat → Nat → Int} {s : Nat} (hL : ∀ q ∈ LM A m r, h q.1 = zcE q.2) (hD : zND (LM A m r)) (hs : s < 4) (hla : -4 ≤ r 4 s ∧ r 4 s ≤ 3) (hb : r 4 s < 0) : zEv k_X8_drop [za (A 0), zi (s : Int)] h (fun v h2 => v = some (zi (-11)) ∧ h2 = h) := by
  have hh : h = zov (LM A m r) h := zov_self hL
  refine zEv.body (I := (8, xI_X8_drop, 2, 2, 45, 0, 0, false)) (rt := (some .int)) [some (za (A 0)), some (zi (s : Int))] rfl rfl rfl rfl ?_
  refine Zn.eq rfl rfl rfl hh ?_
  have hD : zND (LM A m r) := hD
  refine Zn.seg (pc2 := 1) (ls2 := [some (za (A 0)), some (zi (s : Int))]) (st2 := [zi (s : Int)]) [(0, .iload_n 1)] (by decide +kernel) rfl ?_
  refine Zn.call (ins := .invokestatic 337) [zi (s : Int)] [] (by decide +kernel) rfl rfl rfl ⟨rfl, rfl⟩ ⟨rfl, rfl, rfl⟩ rfl (zrecvS (by decide)) (sp_X8_isSheet (x := (s : Int)) (by first | assumption | exact ⟨by omega, by omega⟩)) (fun v h2 hp => ?_)
  obtain ⟨rfl, hq_1⟩ := hp
  refine Zn.eq (pc2 := 4) (ls2 := [some (za (A 0)), some (zi (s : Int))]) (st2 := [zi (inB 0 3 (s : Int))]) (h2 := zov (LM A m r) h) rfl rfl rfl hq_1 ?_
  have hD : zND (LM A m r) := hD
  have q_2 := inB_spec 0 3 (s : Int)
  refine Zn.ifc (c := .ne) (off := 5) 9 (by decide +kernel) rfl ⟨by omega, by omega⟩ (fun c_3 => ?_) (fun c_3 => absurd (show inB 0 3 (s : Int) ≠ 0 from by omega) c_3)
  have c_3 : inB 0 3 (s : Int) ≠ 0 := c_3
  refine Zn.seg (pc2 := 10) (ls2 := [some (za (A 0)), some (zi (s : Int))]) (st2 := [za (A 0)]) [(9, .aload_n 0)] (by decide +kernel) rfl ?_
  refine Zn.get (ix := 23) hD 0 (by decide +kernel) rfl rfl rfl ?_
  refine Zn.seg (pc2 := 14) (ls2 := [some (za (A 0)), some (zi (s : Int))]) (st2 := [zi (s : Int), za (A 4)]) [(13, .iload_n 1)] (by decide +kernel) rfl ?_
  refine Zn.iald hD 4 (s) (by decide +kernel) rfl (by omega) (by omega) rfl ?_
  refine Zn.ifc (c := .ge) (off := 6) 21 (by decide +kernel) rfl ⟨by omega, by omega⟩ (fun c_4 => absurd (show 0 ≤ (r 4) s from c_4) (by omega)) (fun c_4 => ?_)
  have c_4 : ¬ (0 ≤ (r 4) s) := c_4
  refine Zn.seg (pc2 := 20) (ls2 := [some (za (A 0)), some (zi (s : Int))]) (st2 := [zi (-11)]) [(18, .bipush (-11))] (by decide +kernel) rfl ?_
  exact Zn.iret (by decide +kernel) rfl (⟨by first | rfl | (refine congrArg some (congrArg zi ?_); first | omega | (simp_all; done) | (simp_all; omega)), hh.symm⟩)
theorem sp_X8_drop_ok {h : xH} {A : Nat → Nat} {m : Nat → Int} {r : Nat → Nat → Int} {s : Nat} (hL : ∀ q ∈ LM A m r, h q.1 = zcE q.2) (hD : zND (LM A m r)) (hs : s < 4) (hla : -4 ≤ r 4 s ∧ r 4 s ≤ 3) (hb : 0 ≤ r 4 s) : zEv k_X8_drop [za (A 0), zi (s : Int)] h (fun v h2 => v = some (zi (r 5 s)) ∧ h2 = zov (LM A m (va_up r 4 (va_up (r 4) s (-4)))) h) := by
  have hh : h = zov (LM A m r) h := zov_self hL
  refine zEv.body (I := (8, xI_X8_drop, 2, 2, 45, 0, 0, false)) (rt := (some .int)) [some (za (A 0)), some (zi (s : Int))] rfl rfl rfl rfl ?_
  refine Zn.eq rfl rfl rfl hh ?_
  have hD : zND (LM A m r) := hD
  refine Zn.seg (pc2 := 1) (ls2 := [some (za (A 0)), some (zi (s : Int))]) (st2 := [zi (s : Int)]) [(0, .iload_n 1)] (by decide +kernel) rfl ?_
  refine Zn.call (ins := .invokestatic 337) [zi (s : Int)] [] (by decide +kernel) rfl rfl rfl ⟨rfl, rfl⟩ ⟨rfl, rfl, rfl⟩ rfl (zrecvS (by decide)) (sp_X8_isSheet (x := (s : Int)) (by first | assumption | exact ⟨by omega, by omega⟩)) (fun v h2 hp => ?_)
  obtain ⟨rfl, hq_1⟩ := hp
  refine Zn.eq (pc2 := 4) (ls2 := [some (za (A 0)), some (zi (s : Int))]) (st2 := [zi (inB 0 3 (s : Int))]) (h2 := zov (LM A m r) h) rfl rfl rfl hq_1 ?_
  have hD : zND (LM A m r) := hD
  have q_2 := inB_spec 0 3 (s : Int)
  refine Zn.ifc (c := .ne) (off := 5) 9 (by decide +kernel) rfl ⟨by omega, by omega⟩ (fun c_3 => ?_) (fun c_3 => absurd (show inB 0 3 (s : Int) ≠ 0 from by omega) c_3)
  have c_3 : inB 0 3 (s : Int) ≠ 0 := c_3
  refine Zn.seg (pc2 := 10) (ls2 := [some (za (A 0)), some (zi (s : Int))]) (st2 := [za (A 0)]) [(9, .aload_n 0)] (by decide +kernel) rfl ?_
  refine Zn.get (ix := 23) hD 0 (by decide +kernel) rfl rfl rfl ?_
  refine Zn.seg (pc2 := 14) (ls2 := [some (za (A 0)), some (zi (s : Int))]) (st2 := [zi (s : Int), za (A 4)]) [(13, .iload_n 1)] (by decide +kernel) rfl ?_
  refine Zn.iald hD 4 (s) (by decide +kernel) rfl (by omega) (by omega) rfl ?_
  refine Zn.ifc (c := .ge) (off := 6) 21 (by decide +kernel) rfl ⟨by omega, by omega⟩ (fun c_4 => ?_) (fun c_4 => absurd (show 0 ≤ (r 4) s from by omega) c_4)
  have c_4 : 0 ≤ (r 4) s := c_4
  refine Zn.seg (pc2 := 22) (ls2 := [some (za (A 0)), some (zi (s : Int))]) (st2 := [za (A 0)]) [(21, .aload_n 0)] (by decide +kernel) rfl ?_
  refine Zn.get (ix := 23) hD 0 (by decide +kernel) rfl rfl rfl ?_
  refine Zn.seg (pc2 := 28) (ls2 := [some (za (A 0)), some (zi (s : Int))]) (st2 := [zi (-4), zi (s : Int), za (A 4)]) [(25, .iload_n 1), (26, .bipush (-4))] (by decide +kernel) rfl ?_
  refine Zn.iast hD 4 (s) (by decide +kernel) rfl (by omega) (by omega) rfl ?_
  refine Zn.eq (h2 := zov (LM A m (va_up r 4 (va_up (r 4) s (-4)))) h) rfl rfl rfl (rfl) ?_
  have hD : zND (LM A m (va_up r 4 (va_up (r 4) s (-4)))) := hD
  refine Zn.seg (pc2 := 30) (ls2 := [some (za (A 0)), some (zi (s : Int))]) (st2 := [za (A 0)]) [(29, .aload_n 0)] (by decide +kernel) rfl ?_
  refine Zn.get (ix := 26) hD 0 (by decide +kernel) rfl rfl rfl ?_
  refine Zn.seg (pc2 := 34) (ls2 := [some (za (A 0)), some (zi (s : Int))]) (st2 := [zi (s : Int), za (A 5)]) [(33, .iload_n 1)] (by decide +kernel) rfl ?_
  refine Zn.iald hD 5 (s) (by decide +kernel) rfl (by omega) (by omega) rfl ?_
  exact Zn.iret (by decide +kernel) rfl (⟨by first | rfl | (refine congrArg some (congrArg zi ?_); first | omega | (simp_all; done) | (simp_all; omega)), rfl⟩)
theorem sp_X8_item_bad {h : xH} {A : Nat → Nat} {m : Nat → Int} {r : Nat → Nat → Int} {s l i z : Int} (hL : ∀ q ∈ LM A m r, h q.1 = zcE q.2) (hD : zND (LM A m r)) (zs : zInI s) (zl : zInI l) (hb : ¬ (0 ≤ s ∧ s ≤ 3) ∨ ¬ (0 ≤ l ∧ l ≤ 3)) : zEv k_X8_item [za (A 0), zi s, zi l, zi i, zj z] h (fun v h2 => v = some (zi (-1)) ∧ h2 = h) := by
  have hh : h = zov (LM A m r) h := zov_self hL
  have zs1 := zs.1
  have zs2 := zs.2
  have zl1 := zl.1
  have zl2 := zl.2
  refine zEv.body (I := (8, xI_X8_item, 7, 2, 45, 0, 0, false)) (rt := (some .int)) [some (za (A 0)), some (zi s), some (zi l), some (zi i), some (zj z), none, none] rfl rfl rfl rfl ?_
  refine Zn.eq rfl rfl rfl hh ?_
  have hD : zND (LM A m r) := hD
  refine Zn.seg (pc2 := 1) (ls2 := [some (za (A 0)), some (zi s), some (zi l), some (zi i), some (zj z), none, none]) (st2 := [zi s]) [(0, .iload_n 1)] (by decide +kernel) rfl ?_
  refine Zn.call (ins := .invokestatic 337) [zi s] [] (by decide +kernel) rfl rfl rfl ⟨rfl, rfl⟩ ⟨rfl, rfl, rfl⟩ rfl (zrecvS (by decide)) (sp_X8_isSheet (x := s) (by first | assumption | exact ⟨by omega, by omega⟩)) (fun v h2 hp => ?_)
  obtain ⟨rfl, hq_1⟩ := hp
  refine Zn.eq (pc2 := 4) (ls2 := [some (za (A 0)), some (zi s), some (zi l), some (zi i), some (zj z), none, none]) (st2 := [zi (inB 0 3 s)]) (h2 := zov (LM A m r) h) rfl rfl rfl hq_1 ?_
  have hD : zND (LM A m r) := hD
  have q_2 := inB_spec 0 3 s
  refine Zn.ifc (c := .eq) (off := 10) 14 (by decide +kernel) rfl ⟨by omega, by omega⟩ (fun c_3 => ?_) (fun c_3 => ?_)
  · have c_3 : inB 0 3 s = 0 := c_3
    refine Zn.seg (pc2 := 15) (ls2 := [some (za (A 0)), some (zi s), some (zi l), some (zi i), some (zj z), none, none]) (st2 := [zi (-1)]) [(14, .iconst (-1))] (by decide +kernel) rfl ?_
    exact Zn.iret (by decide +kernel) rfl (⟨by first | rfl | (refine congrArg some (congrArg zi ?_); first | omega | (simp_all; done) | (simp_all; omega)), hh.symm⟩)
  · have c_3 : ¬ (inB 0 3 s = 0) := c_3
    refine Zn.seg (pc2 := 8) (ls2 := [some (za (A 0)), some (zi s), some (zi l), some (zi i), some (zj z), none, none]) (st2 := [zi l]) [(7, .iload_n 2)] (by decide +kernel) rfl ?_
    refine Zn.call (ins := .invokestatic 337) [zi l] [] (by decide +kernel) rfl rfl rfl ⟨rfl, rfl⟩ ⟨rfl, rfl, rfl⟩ rfl (zrecvS (by decide)) (sp_X8_isSheet (x := l) (by first | assumption | exact ⟨by omega, by omega⟩)) (fun v h2 hp => ?_)
    obtain ⟨rfl, hq_4⟩ := hp
    refine Zn.eq (pc2 := 11) (ls2 := [some (za (A 0)), some (zi s), some (zi l), some (zi i), some (zj z), none, none]) (st2 := [zi (inB 0 3 l)]) (h2 := zov (LM A m r) h) rfl rfl rfl hq_4 ?_
    have hD : zND (LM A m r) := hD
    have q_5 := inB_spec 0 3 l
    refine Zn.ifc (c := .ne) (off := 5) 16 (by decide +kernel) rfl ⟨by omega, by omega⟩ (fun c_6 => absurd (show inB 0 3 l ≠ 0 from c_6) (by omega)) (fun c_6 => ?_)
    have c_6 : ¬ (inB 0 3 l ≠ 0) := c_6
    refine Zn.seg (pc2 := 15) (ls2 := [some (za (A 0)), some (zi s), some (zi l), some (zi i), some (zj z), none, none]) (st2 := [zi (-1)]) [(14, .iconst (-1))] (by decide +kernel) rfl ?_
    exact Zn.iret (by decide +kernel) rfl (⟨by first | rfl | (refine congrArg some (congrArg zi ?_); first | omega | (simp_all; done) | (simp_all; omega)), hh.symm⟩)
theorem sp_X8_item_not {h : xH} {A : Nat → Nat} {m : Nat → Int} {r : Nat → Nat → Int} {s : Nat} {l i z : Int} (hL : ∀ q ∈ LM A m r, h q.1 = zcE q.2) (hD : zND (LM A m r)) (hs : s < 4) (hl : 0 ≤ l ∧ l ≤ 3) (zi_ : zInI i) (hla : -4 ≤ r 4 s ∧ r 4 s ≤ 3) (hsz : 0 ≤ r 5 s ∧ r 5 s ≤ 24) (hb : machV (r 4 s) (r 5 s) l i 1 < 0) : zEv k_X8_item [za (A 0), zi (s : Int), zi l, zi i, zj z] h (fun v h2 => v = some (zi (machV (r 4 s) (r 5 s) l i 1)) ∧ h2 = h) := by
  have hh : h = zov (LM A m r) h := zov_self hL
  have zi1 := zi_.1
  have zi2 := zi_.2
  refine zEv.body (I := (8, xI_X8_item, 7, 2, 45, 0, 0, false)) (rt := (some .int)) [some (za (A 0)), some (zi (s : Int)), some (zi l), some (zi i), some (zj z), none, none] rfl rfl rfl rfl ?_
  refine Zn.eq rfl rfl rfl hh ?_
  have hD : zND (LM A m r) := hD
  refine Zn.seg (pc2 := 1) (ls2 := [some (za (A 0)), some (zi (s : Int)), some (zi l), some (zi i), some (zj z), none, none]) (st2 := [zi (s : Int)]) [(0, .iload_n 1)] (by decide +kernel) rfl ?_
  refine Zn.call (ins := .invokestatic 337) [zi (s : Int)] [] (by decide +kernel) rfl rfl rfl ⟨rfl, rfl⟩ ⟨rfl, rfl, rfl⟩ rfl (zrecvS (by decide)) (sp_X8_isSheet (x := (s : Int)) (by first | assumption | exact ⟨by omega, by omega⟩)) (fun v h2 hp => ?_)
  obtain ⟨rfl, hq_1⟩ := hp
  refine Zn.eq (pc2 := 4) (ls2 := [some (za (A 0)), some (zi (s : Int)), some (zi l), some (zi i), some (zj z), none, none]) (st2 := [zi (inB 0 3 (s : Int))]) (h2 := zov (LM A m r) h) rfl rfl rfl hq_1 ?_
  have hD : zND (LM A m r) := hD
  have q_2 := inB_spec 0 3 (s : Int)
  refine Zn.ifc (c := .eq) (off := 10) 14 (by decide +kernel) rfl ⟨by omega, by omega⟩ (fun c_3 => absurd (show inB 0 3 (s : Int) = 0 from c_3) (by omega)) (fun c_3 => ?_)
  have c_3 : ¬ (inB 0 3 (s : Int) = 0) := c_3
  refine Zn.seg (pc2 := 8) (ls2 := [some (za (A 0)), some (zi (s : Int)), some (zi l), some (zi i), some (zj z), none, none]) (st2 := [zi l]) [(7, .iload_n 2)] (by decide +kernel) rfl ?_
  refine Zn.call (ins := .invokestatic 337) [zi l] [] (by decide +kernel) rfl rfl rfl ⟨rfl, rfl⟩ ⟨rfl, rfl, rfl⟩ rfl (zrecvS (by decide)) (sp_X8_isSheet (x := l) (by first | assumption | exact ⟨by omega, by omega⟩)) (fun v h2 hp => ?_)
  obtain ⟨rfl, hq_4⟩ := hp
  refine Zn.eq (pc2 := 11) (ls2 := [some (za (A 0)), some (zi (s : Int)), some (zi l), some (zi i), some (zj z), none, none]) (st2 := [zi (inB 0 3 l)]) (h2 := zov (LM A m r) h) rfl rfl rfl hq_4 ?_
  have hD : zND (LM A m r) := hD
  have q_5 := inB_spec 0 3 l
  refine Zn.ifc (c := .ne) (off := 5) 16 (by decide +kernel) rfl ⟨by omega, by omega⟩ (fun c_6 => ?_) (fun c_6 => absurd (show inB 0 3 l ≠ 0 from by omega) c_6)
  have c_6 : inB 0 3 l ≠ 0 := c_6
  refine Zn.seg (pc2 := 21) (ls2 := [some (za (A 0)), some (zi (s : Int)), some (zi l), some (zi i), some (zj z), none, none]) (st2 := [zj 1, zi i, zi l, zi (s : Int), za (A 0)]) [(16, .aload_n 0), (17, .iload_n 1), (18, .iload_n 2), (19, .iload_n 3), (20, .lconst 1)] (by decide +kernel) rfl ?_
  refine Zn.call (ins := .invokevirtual 342) [za (A 0), zi (s : Int), zi l, zi i, zj 1] [] (by decide +kernel) rfl rfl rfl ⟨rfl, rfl⟩ ⟨rfl, rfl, rfl⟩ rfl (zrecvV hD (p := 0) rfl rfl rfl) (sp_X8_machine (A := A) (m := m) (r := r) (s := s) (l := l) (i := i) (n := 1) (zov_all hD) hD (by first | assumption | omega) (by first | assumption | omega) (by first | assumption | omega) (⟨by omega, by omega⟩) (zi_) (by first | assumption | omega)) (fun v h2 hp => ?_)
  obtain ⟨rfl, hq_7⟩ := hp
  refine Zn.eq (pc2 := 24) (ls2 := [some (za (A 0)), some (zi (s : Int)), some (zi l), some (zi i), some (zj z), none, none]) (st2 := [zi (machV (r 4 s) (r 5 s) l i 1)]) (h2 := zov (LM A m r) h) rfl rfl rfl hq_7 ?_
  have hD : zND (LM A m r) := hD
  have q_8 := machV_spec (r 4 s) (r 5 s) l i 1
  refine Zn.seg (pc2 := 28) (ls2 := [some (za (A 0)), some (zi (s : Int)), some (zi l), some (zi i), some (zj z), none, some (zi (machV (r 4 s) (r 5 s) l i 1))]) (st2 := [zi (machV (r 4 s) (r 5 s) l i 1)]) [(24, .istore 6), (26, .iload 6)] (by decide +kernel) rfl ?_
  refine Zn.ifc (c := .ge) (off := 6) 34 (by decide +kernel) rfl ⟨by omega, by omega⟩ (fun c_9 => absurd (show 0 ≤ machV (r 4 s) (r 5 s) l i 1 from c_9) (by omega)) (fun c_9 => ?_)
  have c_9 : ¬ (0 ≤ machV (r 4 s) (r 5 s) l i 1) := c_9
  refine Zn.seg (pc2 := 33) (ls2 := [some (za (A 0)), some (zi (s : Int)), some (zi l), some (zi i), some (zj z), none, some (zi (machV (r 4 s) (r 5 s) l i 1))]) (st2 := [zi (machV (r 4 s) (r 5 s) l i 1)]) [(31, .iload 6)] (by decide +kernel) rfl ?_
  exact Zn.iret (by decide +kernel) rfl (⟨by first | rfl | (refine congrArg some (congrArg zi ?_); first | omega | (simp_all; done) | (simp_all; omega)), hh.symm⟩)
theorem sp_X8_item_ok {h : xH} {A : Nat → Nat} {m : Nat → Int} {r : Nat → Nat → Int} {s i : Nat} {l z : Int} (hL : ∀ q ∈ LM A m r, h q.1 = zcE q.2) (hD : zND (LM A m r)) (hs : s < 4) (hl : 0 ≤ l ∧ l ≤ 3) (hla : -4 ≤ r 4 s ∧ r 4 s ≤ 3) (hsz : 0 ≤ r 5 s ∧ r 5 s ≤ 24) (hb : machV (r 4 s) (r 5 s) l i 1 = 0) (hib : i < 24) : zEv k_X8_item [za (A 0), zi (s : Int), zi l, zi (i : Int), zj z] h (fun v h2 => v = some (zi 1) ∧ h2 = zov (LM A m (va_up r 6 (va_up (r 6) (24 * s + i) (castV l z)))) h) := by
  have hh : h = zov (LM A m r) h := zov_self hL
  refine zEv.body (I := (8, xI_X8_item, 7, 2, 45, 0, 0, false)) (rt := (some .int)) [some (za (A 0)), some (zi (s : Int)), some (zi l), some (zi (i : Int)), some (zj z), none, none] rfl rfl rfl rfl ?_
  refine Zn.eq rfl rfl rfl hh ?_
  have hD : zND (LM A m r) := hD
  refine Zn.seg (pc2 := 1) (ls2 := [some (za (A 0)), some (zi (s : Int)), some (zi l), some (zi (i : Int)), some (zj z), none, none]) (st2 := [zi (s : Int)]) [(0, .iload_n 1)] (by decide +kernel) rfl ?_
  refine Zn.call (ins := .invokestatic 337) [zi (s : Int)] [] (by decide +kernel) rfl rfl rfl ⟨rfl, rfl⟩ ⟨rfl, rfl, rfl⟩ rfl (zrecvS (by decide)) (sp_X8_isSheet (x := (s : Int)) (by first | assumption | exact ⟨by omega, by omega⟩)) (fun v h2 hp => ?_)
  obtain ⟨rfl, hq_1⟩ := hp
  refine Zn.eq (pc2 := 4) (ls2 := [some (za (A 0)), some (zi (s : Int)), some (zi l), some (zi (i : Int)), some (zj z), none, none]) (st2 := [zi (inB 0 3 (s : Int))]) (h2 := zov (LM A m r) h) rfl rfl rfl hq_1 ?_
  have hD : zND (LM A m r) := hD
  have q_2 := inB_spec 0 3 (s : Int)
  refine Zn.ifc (c := .eq) (off := 10) 14 (by decide +kernel) rfl ⟨by omega, by omega⟩ (fun c_3 => absurd (show inB 0 3 (s : Int) = 0 from c_3) (by omega)) (fun c_3 => ?_)
  have c_3 : ¬ (inB 0 3 (s : Int) = 0) := c_3
  refine Zn.seg (pc2 := 8) (ls2 := [some (za (A 0)), some (zi (s : Int)), some (zi l), some (zi (i : Int)), some (zj z), none, none]) (st2 := [zi l]) [(7, .iload_n 2)] (by decide +kernel) rfl ?_
  refine Zn.call (ins := .invokestatic 337) [zi l] [] (by decide +kernel) rfl rfl rfl ⟨rfl, rfl⟩ ⟨rfl, rfl, rfl⟩ rfl (zrecvS (by decide)) (sp_X8_isSheet (x := l) (by first | assumption | exact ⟨by omega, by omega⟩)) (fun v h2 hp => ?_)
  obtain ⟨rfl, hq_4⟩ := hp
  refine Zn.eq (pc2 := 11) (ls2 := [some (za (A 0)), some (zi (s : Int)), some (zi l), some (zi (i : Int)), some (zj z), none, none]) (st2 := [zi (inB 0 3 l)]) (h2 := zov (LM A m r) h) rfl rfl rfl hq_4 ?_
  have hD : zND (LM A m r) := hD
  have q_5 := inB_spec 0 3 l
  refine Zn.ifc (c := .ne) (off := 5) 16 (by decide +kernel) rfl ⟨by omega, by omega⟩ (fun c_6 => ?_) (fun c_6 => absurd (show inB 0 3 l ≠ 0 from by omega) c_6)
  have c_6 : inB 0 3 l ≠ 0 := c_6
  refine Zn.seg (pc2 := 21) (ls2 := [some (za (A 0)), some (zi (s : Int)), some (zi l), some (zi (i : Int)), some (zj z), none, none]) (st2 := [zj 1, zi (i : Int), zi l, zi (s : Int), za (A 0)]) [(16, .aload_n 0), (17, .iload_n 1), (18, .iload_n 2), (19, .iload_n 3), (20, .lconst 1)] (by decide +kernel) rfl ?_
  refine Zn.call (ins := .invokevirtual 342) [za (A 0), zi (s : Int), zi l, zi (i : Int), zj 1] [] (by decide +kernel) rfl rfl rfl ⟨rfl, rfl⟩ ⟨rfl, rfl, rfl⟩ rfl (zrecvV hD (p := 0) rfl rfl rfl) (sp_X8_machine (A := A) (m := m) (r := r) (s := s) (l := l) (i := (i : Int)) (n := 1) (zov_all hD) hD (by first | assumption | omega) (by first | assumption | omega) (by first | assumption | omega) (⟨by omega, by omega⟩) (⟨by omega, by omega⟩) (by first | assumption | omega)) (fun v h2 hp => ?_)
  obtain ⟨rfl, hq_7⟩ := hp
  refine Zn.eq (pc2 := 24) (ls2 := [some (za (A 0)), some (zi (s : Int)), some (zi l), some (zi (i : Int)), some (zj z), none, none]) (st2 := [zi (machV (r 4 s) (r 5 s) l (i : Int) 1)]) (h2 := zov (LM A m r) h) rfl rfl rfl hq_7 ?_
  have hD : zND (LM A m r) := hD
  have q_8 := machV_spec (r 4 s) (r 5 s) l (i : Int) 1
  refine Zn.seg (pc2 := 28) (ls2 := [some (za (A 0)), some (zi (s : Int)), some (zi l), some (zi (i : Int)), some (zj z), none, some (zi (machV (r 4 s) (r 5 s) l (i : Int) 1))]) (st2 := [zi (machV (r 4 s) (r 5 s) l (i : Int) 1)]) [(24, .istore 6), (26, .iload 6)] (by decide +kernel) rfl ?_
  refine Zn.ifc (c := .ge) (off := 6) 34 (by decide +kernel) rfl ⟨by omega, by omega⟩ (fun c_9 => ?_) (fun c_9 => absurd (show 0 ≤ machV (r 4 s) (r 5 s) l (i : Int) 1 from by omega) c_9)
  have c_9 : 0 ≤ machV (r 4 s) (r 5 s) l (i : Int) 1 := c_9
  refine Zn.seg (pc2 := 35) (ls2 := [some (za (A 0)), some (zi (s : Int)), some (zi l), some (zi (i : Int)), some (zj z), none, some (zi (machV (r 4 s) (r 5 s) l (i : Int) 1))]) (st2 := [za (A 0)]) [(34, .aload_n 0)] (by decide +kernel) rfl ?_
  refine Zn.get (ix := 29) hD 0 (by decide +kernel) rfl rfl rfl ?_
  refine Zn.seg (pc2 := 47) (ls2 := [some (za (A 0)), some (zi (s : Int)), some (zi l), some (zi (i : Int)), some (zj z), none, some (zi (machV (r 4 s) (r 5 s) l (i : Int) 1))]) (st2 := [zj z, zi l, zi (24 * (s : Int) + (i : Int)), za (A 6)]) [(38, .bipush 24), (40, .iload_n 1), (41, .imul), (42, .iload_n 3), (43, .iadd), (44, .iload_n 2), (45, .lload 4)] (by decide +kernel) rfl ?_
  refine Zn.call (ins := .invokestatic 350) [zi l, zj z] [zi (24 * (s : Int) + (i : Int)), za (A 6)] (by decide +kernel) rfl rfl rfl ⟨rfl, rfl⟩ ⟨rfl, rfl, rfl⟩ rfl (zrecvS (by decide)) (sp_X8_cast (l := l) (z := z) (by first | assumption | omega)) (fun v h2 hp => ?_)
  obtain ⟨rfl, hq_10⟩ := hp
  refine Zn.eq (pc2 := 50) (ls2 := [some (za (A 0)), some (zi (s : Int)), some (zi l), some (zi (i : Int)), some (zj z), none, some (zi (machV (r 4 s) (r 5 s) l (i : Int) 1))]) (st2 := [zj (castV l z), zi (24 * (s : Int) + (i : Int)), za (A 6)]) (h2 := zov (LM A m r) h) rfl rfl rfl hq_10 ?_
  have hD : zND (LM A m r) := hD
  refine Zn.last hD 6 (24 * s + i) (by decide +kernel) rfl (by omega) (by omega) rfl ?_
  refine Zn.eq (h2 := zov (LM A m (va_up r 6 (va_up (r 6) (24 * s + i) (castV l z)))) h) rfl rfl rfl (rfl) ?_
  have hD : zND (LM A m (va_up r 6 (va_up (r 6) (24 * s + i) (castV l z)))) := hD
  refine Zn.seg (pc2 := 52) (ls2 := [some (za (A 0)), some (zi (s : Int)), some (zi l), some (zi (i : Int)), some (zj z), none, some (zi (machV (r 4 s) (r 5 s) l (i : Int) 1))]) (st2 := [zi 1]) [(51, .iconst 1)] (by decide +kernel) rfl ?_
  exact Zn.iret (by decide +kernel) rfl (⟨by first | rfl | (refine congrArg some (congrArg zi ?_); first | omega | (simp_all; done) | (simp_all; omega)), rfl⟩)
theorem sp_X8_copy_bad {h : xH} {A : Nat → Nat} {m : Nat → Int} {r : Nat → Nat → Int} {s i t j n : Int} (hL : ∀ q ∈ LM A m r, h q.1 = zcE q.2) (hD : zND (LM A m r)) (zs : zInI s) (zt : zInI t) (hb : ¬ (0 ≤ s ∧ s ≤ 3) ∨ ¬ (0 ≤ t ∧ t ≤ 3)) : zEv k_X8_copy [za (A 0), zi s, zi i, zi t, zi j, zi n] h (fun v h2 => v = some (zi (-1)) ∧ h2 = h) := by
  have hh : h = zov (LM A m r) h := zov_self hL
  have zs1 := zs.1
  have zs2 := zs.2
  have zt1 := zt.1
  have zt2 := zt.2
  refine zEv.body (I := (8, xI_X8_copy, 7, 2, 45, 0, 0, false)) (rt := (some .int)) [some (za (A 0)), some (zi s), some (zi i), some (zi t), some (zi j), some (zi n), none] rfl rfl rfl rfl ?_
  refine Zn.eq rfl rfl rfl hh ?_
  have hD : zND (LM A m r) := hD
  refine Zn.seg (pc2 := 1) (ls2 := [some (za (A 0)), some (zi s), some (zi i), some (zi t), some (zi j), some (zi n), none]) (st2 := [zi s]) [(0, .iload_n 1)] (by decide +kernel) rfl ?_
  refine Zn.call (ins := .invokestatic 337) [zi s] [] (by decide +kernel) rfl rfl rfl ⟨rfl, rfl⟩ ⟨rfl, rfl, rfl⟩ rfl (zrecvS (by decide)) (sp_X8_isSheet (x := s) (by first | assumption | exact ⟨by omega, by omega⟩)) (fun v h2 hp => ?_)
  obtain ⟨rfl, hq_1⟩ := hp
  refine Zn.eq (pc2 := 4) (ls2 := [some (za (A 0)), some (zi s), some (zi i), some (zi t), some (zi j), some (zi n), none]) (st2 := [zi (inB 0 3 s)]) (h2 := zov (LM A m r) h) rfl rfl rfl hq_1 ?_
  have hD : zND (LM A m r) := hD
  have q_2 := inB_spec 0 3 s
  refine Zn.ifc (c := .eq) (off := 10) 14 (by decide +kernel) rfl ⟨by omega, by omega⟩ (fun c_3 => ?_) (fun c_3 => ?_)
  · have c_3 : inB 0 3 s = 0 := c_3
    refine Zn.seg (pc2 := 15) (ls2 := [some (za (A 0)), some (zi s), some (zi i), some (zi t), some (zi j), some (zi n), none]) (st2 := [zi (-1)]) [(14, .iconst (-1))] (by decide +kernel) rfl ?_
    exact Zn.iret (by decide +kernel) rfl (⟨by first | rfl | (refine congrArg some (congrArg zi ?_); first | omega | (simp_all; done) | (simp_all; omega)), hh.symm⟩)
  · have c_3 : ¬ (inB 0 3 s = 0) := c_3
    refine Zn.seg (pc2 := 8) (ls2 := [some (za (A 0)), some (zi s), some (zi i), some (zi t), some (zi j), some (zi n), none]) (st2 := [zi t]) [(7, .iload_n 3)] (by decide +kernel) rfl ?_
    refine Zn.call (ins := .invokestatic 337) [zi t] [] (by decide +kernel) rfl rfl rfl ⟨rfl, rfl⟩ ⟨rfl, rfl, rfl⟩ rfl (zrecvS (by decide)) (sp_X8_isSheet (x := t) (by first | assumption | exact ⟨by omega, by omega⟩)) (fun v h2 hp => ?_)
    obtain ⟨rfl, hq_4⟩ := hp
    refine Zn.eq (pc2 := 11) (ls2 := [some (za (A 0)), some (zi s), some (zi i), some (zi t), some (zi j), some (zi n), none]) (st2 := [zi (inB 0 3 t)]) (h2 := zov (LM A m r) h) rfl rfl rfl hq_4 ?_
    have hD : zND (LM A m r) := hD
    have q_5 := inB_spec 0 3 t
    refine Zn.ifc (c := .ne) (off := 5) 16 (by decide +kernel) rfl ⟨by omega, by omega⟩ (fun c_6 => absurd (show inB 0 3 t ≠ 0 from c_6) (by omega)) (fun c_6 => ?_)
    have c_6 : ¬ (inB 0 3 t ≠ 0) := c_6
    refine Zn.seg (pc2 := 15) (ls2 := [some (za (A 0)), some (zi s), some (zi i), some (zi t), some (zi j), some (zi n), none]) (st2 := [zi (-1)]) [(14, .iconst (-1))] (by decide +kernel) rfl ?_
    exact Zn.iret (by decide +kernel) rfl (⟨by first | rfl | (refine congrArg some (congrArg zi ?_); first | omega | (simp_all; done) | (simp_all; omega)), hh.symm⟩)
theorem sp_X8_copy_null {h : xH} {A : Nat → Nat} {m : Nat → Int} {r : Nat → Nat → Int} {s t : Nat} {i j n : Int} (hL : ∀ q ∈ LM A m r, h q.1 = zcE q.2) (hD : zND (LM A m r)) (hs : s < 4) (ht : t < 4) (hla : -4 ≤ r 4 s ∧ r 4 s ≤ 3) (hlb : -4 ≤ r 4 t ∧ r 4 t ≤ 3) (hb : r 4 s < 0 ∨ r 4 t < 0) : zEv k_X8_copy [za (A 0), zi (s : Int), zi i, zi (t : Int), zi j, zi n] h (fun v h2 => v = some (zi (-11)) ∧ h2 = h) := by
  have hh : h = zov (LM A m r) h := zov_self hL
  refine zEv.body (I := (8, xI_X8_copy, 7, 2, 45, 0, 0, false)) (rt := (some .int)) [some (za (A 0)), some (zi (s : Int)), some (zi i), some (zi (t : Int)), some (zi j), some (zi n), none] rfl rfl rfl rfl ?_
  refine Zn.eq rfl rfl rfl hh ?_
  have hD : zND (LM A m r) := hD
  refine Zn.seg (pc2 := 1) (ls2 := [some (za (A 0)), some (zi (s : Int)), some (zi i), some (zi (t : Int)), some (zi j), some (zi n), none]) (st2 := [zi (s : Int)]) [(0, .iload_n 1)] (by decide +kernel) rfl ?_
  refine Zn.call (ins := .invokestatic 337) [zi (s : Int)] [] (by decide +kernel) rfl rfl rfl ⟨rfl, rfl⟩ ⟨rfl, rfl, rfl⟩ rfl (zrecvS (by decide)) (sp_X8_isSheet (x := (s : Int)) (by first | assumption | exact ⟨by omega, by omega⟩)) (fun v h2 hp => ?_)
  obtain ⟨rfl, hq_1⟩ := hp
  refine Zn.eq (pc2 := 4) (ls2 := [some (za (A 0)), some (zi (s : Int)), some (zi i), some (zi (t : Int)), some (zi j), some (zi n), none]) (st2 := [zi (inB 0 3 (s : Int))]) (h2 := zov (LM A m r) h) rfl rfl rfl hq_1 ?_
  have hD : zND (LM A m r) := hD
  have q_2 := inB_spec 0 3 (s : Int)
  refine Zn.ifc (c := .eq) (off := 10) 14 (by decide +kernel) rfl ⟨by omega, by omega⟩ (fun c_3 => absurd (show inB 0 3 (s : Int) = 0 from c_3) (by omega)) (fun c_3 => ?_)
  have c_3 : ¬ (inB 0 3 (s : Int) = 0) := c_3
  refine Zn.seg (pc2 := 8) (ls2 := [some (za (A 0)), some (zi (s : Int)), some (zi i), some (zi (t : Int)), some (zi j), some (zi n), none]) (st2 := [zi (t : Int)]) [(7, .iload_n 3)] (by decide +kernel) rfl ?_
  refine Zn.call (ins := .invokestatic 337) [zi (t : Int)] [] (by decide +kernel) rfl rfl rfl ⟨rfl, rfl⟩ ⟨rfl, rfl, rfl⟩ rfl (zrecvS (by decide)) (sp_X8_isSheet (x := (t : Int)) (by first | assumption | exact ⟨by omega, by omega⟩)) (fun v h2 hp => ?_)
  obtain ⟨rfl, hq_4⟩ := hp
  refine Zn.eq (pc2 := 11) (ls2 := [some (za (A 0)), some (zi (s : Int)), some (zi i), some (zi (t : Int)), some (zi j), some (zi n), none]) (st2 := [zi (inB 0 3 (t : Int))]) (h2 := zov (LM A m r) h) rfl rfl rfl hq_4 ?_
  have hD : zND (LM A m r) := hD
  have q_5 := inB_spec 0 3 (t : Int)
  refine Zn.ifc (c := .ne) (off := 5) 16 (by decide +kernel) rfl ⟨by omega, by omega⟩ (fun c_6 => ?_) (fun c_6 => absurd (show inB 0 3 (t : Int) ≠ 0 from by omega) c_6)
  have c_6 : inB 0 3 (t : Int) ≠ 0 := c_6
  refine Zn.seg (pc2 := 17) (ls2 := [some (za (A 0)), some (zi (s : Int)), some (zi i), some (zi (t : Int)), some (zi j), some (zi n), none]) (st2 := [za (A 0)]) [(16, .aload_n 0)] (by decide +kernel) rfl ?_
  refine Zn.get (ix := 23) hD 0 (by decide +kernel) rfl rfl rfl ?_
  refine Zn.seg (pc2 := 21) (ls2 := [some (za (A 0)), some (zi (s : Int)), some (zi i), some (zi (t : Int)), some (zi j), some (zi n), none]) (st2 := [zi (s : Int), za (A 4)]) [(20, .iload_n 1)] (by decide +kernel) rfl ?_
  refine Zn.iald hD 4 (s) (by decide +kernel) rfl (by omega) (by omega) rfl ?_
  refine Zn.ifc (c := .lt) (off := 12) 34 (by decide +kernel) rfl ⟨by omega, by omega⟩ (fun c_7 => ?_) (fun c_7 => ?_)
  · have c_7 : (r 4) s < 0 := c_7
    refine Zn.seg (pc2 := 36) (ls2 := [some (za (A 0)), some (zi (s : Int)), some (zi i), some (zi (t : Int)), some (zi j), some (zi n), none]) (st2 := [zi (-11)]) [(34, .bipush (-11))] (by decide +kernel) rfl ?_
    exact Zn.iret (by decide +kernel) rfl (⟨by first | rfl | (refine congrArg some (congrArg zi ?_); first | omega | (simp_all; done) | (simp_all; omega)), hh.symm⟩)
  · have c_7 : ¬ ((r 4) s < 0) := c_7
    refine Zn.seg (pc2 := 26) (ls2 := [some (za (A 0)), some (zi (s : Int)), some (zi i), some (zi (t : Int)), some (zi j), some (zi n), none]) (st2 := [za (A 0)]) [(25, .aload_n 0)] (by decide +kernel) rfl ?_
    refine Zn.get (ix := 23) hD 0 (by decide +kernel) rfl rfl rfl ?_
    refine Zn.seg (pc2 := 30) (ls2 := [some (za (A 0)), some (zi (s : Int)), some (zi i), some (zi (t : Int)), some (zi j), some (zi n), none]) (st2 := [zi (t : Int), za (A 4)]) [(29, .iload_n 3)] (by decide +kernel) rfl ?_
    refine Zn.iald hD 4 (t) (by decide +kernel) rfl (by omega) (by omega) rfl ?_
    refine Zn.ifc (c := .ge) (off := 6) 37 (by decide +kernel) rfl ⟨by omega, by omega⟩ (fun c_8 => absurd (show 0 ≤ (r 4) t from c_8) (by omega)) (fun c_8 => ?_)
    have c_8 : ¬ (0 ≤ (r 4) t) := c_8
    refine Zn.seg (pc2 := 36) (ls2 := [some (za (A 0)), some (zi (s : Int)), some (zi i), some (zi (t : Int)), some (zi j), some (zi n), none]) (st2 := [zi (-11)]) [(34, .bipush (-11))] (by decide +kernel) rfl ?_
    exact Zn.iret (by decide +kernel) rfl (⟨by first | rfl | (refine congrArg some (congrArg zi ?_); first | omega | (simp_all; done) | (simp_all; omega)), hh.symm⟩)
theorem sp_X8_copy_cast {h : xH} {A : Nat → Nat} {m : Nat → Int} {r : Nat → Nat → Int} {s t : Nat} {i j n : Int} (hL : ∀ q ∈ LM A m r, h q.1 = zcE q.2) (hD : zND (LM A m r)) (hs : s < 4) (ht : t < 4) (hla : -4 ≤ r 4 s ∧ r 4 s ≤ 3) (hlb : -4 ≤ r 4 t ∧ r 4 t ≤ 3) (h0 : 0 ≤ r 4 s ∧ 0 ≤ r 4 t) (hb : r 4 s ≠ r 4 t) : zEv k_X8_copy [za (A 0), zi (s : Int), zi i, zi (t : Int), zi j, zi n] h (fun v h2 => v = some (zi (-12)) ∧ h2 = h) := by
  have hh : h = zov (LM A m r) h := zov_self hL
  refine zEv.body (I := (8, xI_X8_copy, 7, 2, 45, 0, 0, false)) (rt := (some .int)) [some (za (A 0)), some (zi (s : Int)), some (zi i), some (zi (t : Int)), some (zi j), some (zi n), none] rfl rfl rfl rfl ?_
  refine Zn.eq rfl rfl rfl hh ?_
  have hD : zND (LM A m r) := hD
  refine Zn.seg (pc2 := 1) (ls2 := [some (za (A 0)), some (zi (s : Int)), some (zi i), some (zi (t : Int)), some (zi j), some (zi n), none]) (st2 := [zi (s : Int)]) [(0, .iload_n 1)] (by decide +kernel) rfl ?_
  refine Zn.call (ins := .invokestatic 337) [zi (s : Int)] [] (by decide +kernel) rfl rfl rfl ⟨rfl, rfl⟩ ⟨rfl, rfl, rfl⟩ rfl (zrecvS (by decide)) (sp_X8_isSheet (x := (s : Int)) (by first | assumption | exact ⟨by omega, by omega⟩)) (fun v h2 hp => ?_)
  obtain ⟨rfl, hq_1⟩ := hp
  refine Zn.eq (pc2 := 4) (ls2 := [some (za (A 0)), some (zi (s : Int)), some (zi i), some (zi (t : Int)), some (zi j), some (zi n), none]) (st2 := [zi (inB 0 3 (s : Int))]) (h2 := zov (LM A m r) h) rfl rfl rfl hq_1 ?_
  have hD : zND (LM A m r) := hD
  have q_2 := inB_spec 0 3 (s : Int)
  refine Zn.ifc (c := .eq) (off := 10) 14 (by decide +kernel) rfl ⟨by omega, by omega⟩ (fun c_3 => absurd (show inB 0 3 (s : Int) = 0 from c_3) (by omega)) (fun c_3 => ?_)
  have c_3 : ¬ (inB 0 3 (s : Int) = 0) := c_3
  refine Zn.seg (pc2 := 8) (ls2 := [some (za (A 0)), some (zi (s : Int)), some (zi i), some (zi (t : Int)), some (zi j), some (zi n), none]) (st2 := [zi (t : Int)]) [(7, .iload_n 3)] (by decide +kernel) rfl ?_
  refine Zn.call (ins := .invokestatic 337) [zi (t : Int)] [] (by decide +kernel) rfl rfl rfl ⟨rfl, rfl⟩ ⟨rfl, rfl, rfl⟩ rfl (zrecvS (by decide)) (sp_X8_isSheet (x := (t : Int)) (by first | assumption | exact ⟨by omega, by omega⟩)) (fun v h2 hp => ?_)
  obtain ⟨rfl, hq_4⟩ := hp
  refine Zn.eq (pc2 := 11) (ls2 := [some (za (A 0)), some (zi (s : Int)), some (zi i), some (zi (t : Int)), some (zi j), some (zi n), none]) (st2 := [zi (inB 0 3 (t : Int))]) (h2 := zov (LM A m r) h) rfl rfl rfl hq_4 ?_
  have hD : zND (LM A m r) := hD
  have q_5 := inB_spec 0 3 (t : Int)
  refine Zn.ifc (c := .ne) (off := 5) 16 (by decide +kernel) rfl ⟨by omega, by omega⟩ (fun c_6 => ?_) (fun c_6 => absurd (show inB 0 3 (t : Int) ≠ 0 from by omega) c_6)
  have c_6 : inB 0 3 (t : Int) ≠ 0 := c_6
  refine Zn.seg (pc2 := 17) (ls2 := [some (za (A 0)), some (zi (s : Int)), some (zi i), some (zi (t : Int)), some (zi j), some (zi n), none]) (st2 := [za (A 0)]) [(16, .aload_n 0)] (by decide +kernel) rfl ?_
  refine Zn.get (ix := 23) hD 0 (by decide +kernel) rfl rfl rfl ?_
  refine Zn.seg (pc2 := 21) (ls2 := [some (za (A 0)), some (zi (s : Int)), some (zi i), some (zi (t : Int)), some (zi j), some (zi n), none]) (st2 := [zi (s : Int), za (A 4)]) [(20, .iload_n 1)] (by decide +kernel) rfl ?_
  refine Zn.iald hD 4 (s) (by decide +kernel) rfl (by omega) (by omega) rfl ?_
  refine Zn.ifc (c := .lt) (off := 12) 34 (by decide +kernel) rfl ⟨by omega, by omega⟩ (fun c_7 => absurd (show (r 4) s < 0 from c_7) (by omega)) (fun c_7 => ?_)
  have c_7 : ¬ ((r 4) s < 0) := c_7
  refine Zn.seg (pc2 := 26) (ls2 := [some (za (A 0)), some (zi (s : Int)), some (zi i), some (zi (t : Int)), some (zi j), some (zi n), none]) (st2 := [za (A 0)]) [(25, .aload_n 0)] (by decide +kernel) rfl ?_
  refine Zn.get (ix := 23) hD 0 (by decide +kernel) rfl rfl rfl ?_
  refine Zn.seg (pc2 := 30) (ls2 := [some (za (A 0)), some (zi (s : Int)), some (zi i), some (zi (t : Int)), some (zi j), some (zi n), none]) (st2 := [zi (t : Int), za (A 4)]) [(29, .iload_n 3)] (by decide +kernel) rfl ?_
  refine Zn.iald hD 4 (t) (by decide +kernel) rfl (by omega) (by omega) rfl ?_
  refine Zn.ifc (c := .ge) (off := 6) 37 (by decide +kernel) rfl ⟨by omega, by omega⟩ (fun c_8 => ?_) (fun c_8 => absurd (show 0 ≤ (r 4) t from by omega) c_8)
  have c_8 : 0 ≤ (r 4) t := c_8
  refine Zn.seg (pc2 := 38) (ls2 := [some (za (A 0)), some (zi (s : Int)), some (zi i), some (zi (t : Int)), some (zi j), some (zi n), none]) (st2 := [za (A 0)]) [(37, .aload_n 0)] (by decide +kernel) rfl ?_
  refine Zn.get (ix := 23) hD 0 (by decide +kernel) rfl rfl rfl ?_
  refine Zn.seg (pc2 := 42) (ls2 := [some (za (A 0)), some (zi (s : Int)), some (zi i), some (zi (t : Int)), some (zi j), some (zi n), none]) (st2 := [zi (s : Int), za (A 4)]) [(41, .iload_n 1)] (by decide +kernel) rfl ?_
  refine Zn.iald hD 4 (s) (by decide +kernel) rfl (by omega) (by omega) rfl ?_
  refine Zn.seg (pc2 := 44) (ls2 := [some (za (A 0)), some (zi (s : Int)), some (zi i), some (zi (t : Int)), some (zi j), some (zi n), none]) (st2 := [za (A 0), zi ((r 4) s)]) [(43, .aload_n 0)] (by decide +kernel) rfl ?_
  refine Zn.get (ix := 23) hD 0 (by decide +kernel) rfl rfl rfl ?_
  refine Zn.seg (pc2 := 48) (ls2 := [some (za (A 0)), some (zi (s : Int)), some (zi i), some (zi (t : Int)), some (zi j), some (zi n), none]) (st2 := [zi (t : Int), za (A 4), zi ((r 4) s)]) [(47, .iload_n 3)] (by decide +kernel) rfl ?_
  refine Zn.iald hD 4 (t) (by decide +kernel) rfl (by omega) (by omega) rfl ?_
  refine Zn.icmp (c := .eq) (off := 6) 55 (by decide +kernel) rfl ⟨by omega, by omega⟩ ⟨by omega, by omega⟩ (fun c_9 => absurd (show (r 4) s = (r 4) t from c_9) (by omega)) (fun c_9 => ?_)
  have c_9 : ¬ ((r 4) s = (r 4) t) := c_9
  refine Zn.seg (pc2 := 54) (ls2 := [some (za (A 0)), some (zi (s : Int)), some (zi i), some (zi (t : Int)), some (zi j), some (zi n), none]) (st2 := [zi (-12)]) [(52, .bipush (-12))] (by decide +kernel) rfl ?_
  exact Zn.iret (by decide +kernel) rfl (⟨by first | rfl | (refine congrArg some (congrArg zi ?_); first | omega | (simp_all; done) | (simp_all; omega)), hh.symm⟩)
theorem sp_X8_copy_index {h : xH} {A : Nat → Nat} {m : Nat → Int} {r : Nat → Nat → Int} {s t : Nat} {i j n : Int} (hL : ∀ q ∈ LM A m r, h q.1 = zcE q.2) (hD : zND (LM A m r)) (hs : s < 4) (ht : t < 4) (hla : -4 ≤ r 4 s ∧ r 4 s ≤ 3) (hlb : -4 ≤ r 4 t ∧ r 4 t ≤ 3) (zi_ : zInI i) (zj_ : zInI j) (zn : zInI n) (hsz : 0 ≤ r 5 s ∧ r 5 s ≤ 24) (htz : 0 ≤ r 5 t ∧ r 5 t ≤ 24) (h0 : 0 ≤ r 4 s ∧ 0 ≤ r 4 t) (h1 : r 4 s = r 4 t) (hb : machV (r 4 s) (r 5 s) (r 4 s) i n ≠ 0 ∨ machV (r 4 t) (r 5 t) (r 4 t) j n ≠ 0) : zEv k_X8_copy [za (A 0), zi (s : Int), zi i, zi (t : Int), zi j, zi n] h (fun v h2 => v = some (zi (-13)) ∧ h2 = h) := by
  have hh : h = zov (LM A m r) h := zov_self hL
  have zi1 := zi_.1
  have zi2 := zi_.2
  have zj1 := zj_.1
  have zj2 := zj_.2
  have zn1 := zn.1
  have zn2 := zn.2
  refine zEv.body (I := (8, xI_X8_copy, 7, 2, 45, 0, 0, false)) (rt := (some .int)) [some (za (A 0)), some (zi (s : Int)), some (zi i), some (zi (t : Int)), some (zi j), some (zi n), none] rfl rfl rfl rfl ?_
  refine Zn.eq rfl rfl rfl hh ?_
  have hD : zND (LM A m r) := hD
  refine Zn.seg (pc2 := 1) (ls2 := [some (za (A 0)), some (zi (s : Int)), some (zi i), some (zi (t : Int)), some (zi j), some (zi n), none]) (st2 := [zi (s : Int)]) [(0, .iload_n 1)] (by decide +kernel) rfl ?_
  refine Zn.call (ins := .invokestatic 337) [zi (s : Int)] [] (by decide +kernel) rfl rfl rfl ⟨rfl, rfl⟩ ⟨rfl, rfl, rfl⟩ rfl (zrecvS (by decide)) (sp_X8_isSheet (x := (s : Int)) (by first | assumption | exact ⟨by omega, by omega⟩)) (fun v h2 hp => ?_)
  obtain ⟨rfl, hq_1⟩ := hp
  refine Zn.eq (pc2 := 4) (ls2 := [some (za (A 0)), some (zi (s : Int)), some (zi i), some (zi (t : Int)), some (zi j), some (zi n), none]) (st2 := [zi (inB 0 3 (s : Int))]) (h2 := zov (LM A m r) h) rfl rfl rfl hq_1 ?_
  have hD : zND (LM A m r) := hD
  have q_2 := inB_spec 0 3 (s : Int)
  refine Zn.ifc (c := .eq) (off := 10) 14 (by decide +kernel) rfl ⟨by omega, by omega⟩ (fun c_3 => absurd (show inB 0 3 (s : Int) = 0 from c_3) (by omega)) (fun c_3 => ?_)
  have c_3 : ¬ (inB 0 3 (s : Int) = 0) := c_3
  refine Zn.seg (pc2 := 8) (ls2 := [some (za (A 0)), some (zi (s : Int)), some (zi i), some (zi (t : Int)), some (zi j), some (zi n), none]) (st2 := [zi (t : Int)]) [(7, .iload_n 3)] (by decide +kernel) rfl ?_
  refine Zn.call (ins := .invokestatic 337) [zi (t : Int)] [] (by decide +kernel) rfl rfl rfl ⟨rfl, rfl⟩ ⟨rfl, rfl, rfl⟩ rfl (zrecvS (by decide)) (sp_X8_isSheet (x := (t : Int)) (by first | assumption | exact ⟨by omega, by omega⟩)) (fun v h2 hp => ?_)
  obtain ⟨rfl, hq_4⟩ := hp
  refine Zn.eq (pc2 := 11) (ls2 := [some (za (A 0)), some (zi (s : Int)), some (zi i), some (zi (t : Int)), some (zi j), some (zi n), none]) (st2 := [zi (inB 0 3 (t : Int))]) (h2 := zov (LM A m r) h) rfl rfl rfl hq_4 ?_
  have hD : zND (LM A m r) := hD
  have q_5 := inB_spec 0 3 (t : Int)
  refine Zn.ifc (c := .ne) (off := 5) 16 (by decide +kernel) rfl ⟨by omega, by omega⟩ (fun c_6 => ?_) (fun c_6 => absurd (show inB 0 3 (t : Int) ≠ 0 from by omega) c_6)
  have c_6 : inB 0 3 (t : Int) ≠ 0 := c_6
  refine Zn.seg (pc2 := 17) (ls2 := [some (za (A 0)), some (zi (s : Int)), some (zi i), some (zi (t : Int)), some (zi j), some (zi n), none]) (st2 := [za (A 0)]) [(16, .aload_n 0)] (by decide +kernel) rfl ?_
  refine Zn.get (ix := 23) hD 0 (by decide +kernel) rfl rfl rfl ?_
  refine Zn.seg (pc2 := 21) (ls2 := [some (za (A 0)), some (zi (s : Int)), some (zi i), some (zi (t : Int)), some (zi j), some (zi n), none]) (st2 := [zi (s : Int), za (A 4)]) [(20, .iload_n 1)] (by decide +kernel) rfl ?_
  refine Zn.iald hD 4 (s) (by decide +kernel) rfl (by omega) (by omega) rfl ?_
  refine Zn.ifc (c := .lt) (off := 12) 34 (by decide +kernel) rfl ⟨by omega, by omega⟩ (fun c_7 => absurd (show (r 4) s < 0 from c_7) (by omega)) (fun c_7 => ?_)
  have c_7 : ¬ ((r 4) s < 0) := c_7
  refine Zn.seg (pc2 := 26) (ls2 := [some (za (A 0)), some (zi (s : Int)), some (zi i), some (zi (t : Int)), some (zi j), some (zi n), none]) (st2 := [za (A 0)]) [(25, .aload_n 0)] (by decide +kernel) rfl ?_
  refine Zn.get (ix := 23) hD 0 (by decide +kernel) rfl rfl rfl ?_
  refine Zn.seg (pc2 := 30) (ls2 := [some (za (A 0)), some (zi (s : Int)), some (zi i), some (zi (t : Int)), some (zi j), some (zi n), none]) (st2 := [zi (t : Int), za (A 4)]) [(29, .iload_n 3)] (by decide +kernel) rfl ?_
  refine Zn.iald hD 4 (t) (by decide +kernel) rfl (by omega) (by omega) rfl ?_
  refine Zn.ifc (c := .ge) (off := 6) 37 (by decide +kernel) rfl ⟨by omega, by omega⟩ (fun c_8 => ?_) (fun c_8 => absurd (show 0 ≤ (r 4) t from by omega) c_8)
  have c_8 : 0 ≤ (r 4) t := c_8
  refine Zn.seg (pc2 := 38) (ls2 := [some (za (A 0)), some (zi (s : Int)), some (zi i), some (zi (t : Int)), some (zi j), some (zi n), none]) (st2 := [za (A 0)]) [(37, .aload_n 0)] (by decide +kernel) rfl ?_
  refine Zn.get (ix := 23) hD 0 (by decide +kernel) rfl rfl rfl ?_
  refine Zn.seg (pc2 := 42) (ls2 := [some (za (A 0)), some (zi (s : Int)), some (zi i), some (zi (t : Int)), some (zi j), some (zi n), none]) (st2 := [zi (s : Int), za (A 4)]) [(41, .iload_n 1)] (by decide +kernel) rfl ?_
  refine Zn.iald hD 4 (s) (by decide +kernel) rfl (by omega) (by omega) rfl ?_
  refine Zn.seg (pc2 := 44) (ls2 := [some (za (A 0)), some (zi (s : Int)), some (zi i), some (zi (t : Int)), some (zi j), some (zi n), none]) (st2 := [za (A 0), zi ((r 4) s)]) [(43, .aload_n 0)] (by decide +kernel) rfl ?_
  refine Zn.get (ix := 23) hD 0 (by decide +kernel) rfl rfl rfl ?_
  refine Zn.seg (pc2 := 48) (ls2 := [some (za (A 0)), some (zi (s : Int)), some (zi i), some (zi (t : Int)), some (zi j), some (zi n), none]) (st2 := [zi (t : Int), za (A 4), zi ((r 4) s)]) [(47, .iload_n 3)] (by decide +kernel) rfl ?_
  refine Zn.iald hD 4 (t) (by decide +kernel) rfl (by omega) (by omega) rfl ?_
  refine Zn.icmp (c := .eq) (off := 6) 55 (by decide +kernel) rfl ⟨by omega, by omega⟩ ⟨by omega, by omega⟩ (fun c_9 => ?_) (fun c_9 => absurd (show (r 4) s = (r 4) t from by omega) c_9)
  have c_9 : (r 4) s = (r 4) t := c_9
  refine Zn.seg (pc2 := 58) (ls2 := [some (za (A 0)), some (zi (s : Int)), some (zi i), some (zi (t : Int)), some (zi j), some (zi n), none]) (st2 := [za (A 0), zi (s : Int), za (A 0)]) [(55, .aload_n 0), (56, .iload_n 1), (57, .aload_n 0)] (by decide +kernel) rfl ?_
  refine Zn.get (ix := 23) hD 0 (by decide +kernel) rfl rfl rfl ?_
  refine Zn.seg (pc2 := 62) (ls2 := [some (za (A 0)), some (zi (s : Int)), some (zi i), some (zi (t : Int)), some (zi j), some (zi n), none]) (st2 := [zi (s : Int), za (A 4), zi (s : Int), za (A 0)]) [(61, .iload_n 1)] (by decide +kernel) rfl ?_
  refine Zn.iald hD 4 (s) (by decide +kernel) rfl (by omega) (by omega) rfl ?_
  refine Zn.seg (pc2 := 66) (ls2 := [some (za (A 0)), some (zi (s : Int)), some (zi i), some (zi (t : Int)), some (zi j), some (zi n), none]) (st2 := [zi n, zi i, zi ((r 4) s), zi (s : Int), za (A 0)]) [(63, .iload_n 2), (64, .iload 5)] (by decide +kernel) rfl ?_
  refine Zn.i2l (by decide +kernel) ⟨by omega, by omega⟩ ?_
  refine Zn.call (ins := .invokevirtual 342) [za (A 0), zi (s : Int), zi ((r 4) s), zi i, zj n] [] (by decide +kernel) rfl rfl rfl ⟨rfl, rfl⟩ ⟨rfl, rfl, rfl⟩ rfl (zrecvV hD (p := 0) rfl rfl rfl) (sp_X8_machine (A := A) (m := m) (r := r) (s := s) (l := (r 4) s) (i := i) (n := n) (zov_all hD) hD (by first | assumption | omega) (hla) (by first | exact hsz | exact htz) (⟨by omega, by omega⟩) (⟨by omega, by omega⟩) (⟨by omega, by omega⟩)) (fun v h2 hp => ?_)
  obtain ⟨rfl, hq_10⟩ := hp
  refine Zn.eq (pc2 := 70) (ls2 := [some (za (A 0)), some (zi (s : Int)), some (zi i), some (zi (t : Int)), some (zi j), some (zi n), none]) (st2 := [zi (machV (r 4 s) (r 5 s) ((r 4) s) i n)]) (h2 := zov (LM A m r) h) rfl rfl rfl hq_10 ?_
  have hD : zND (LM A m r) := hD
  have q_11 := machV_spec (r 4 s) (r 5 s) ((r 4) s) i n
  refine Zn.ifc (c := .lt) (off := 22) 92 (by decide +kernel) rfl ⟨by omega, by omega⟩ (fun c_12 => ?_) (fun c_12 => ?_)
  · have c_12 : machV (r 4 s) (r 5 s) ((r 4) s) i n < 0 := c_12
    refine Zn.seg (pc2 := 94) (ls2 := [some (za (A 0)), some (zi (s : Int)), some (zi i), some (zi (t : Int)), some (zi j), some (zi n), none]) (st2 := [zi (-13)]) [(92, .bipush (-13))] (by decide +kernel) rfl ?_
    exact Zn.iret (by decide +kernel) rfl (⟨by first | rfl | (refine congrArg some (congrArg zi ?_); first | omega | (simp_all; done) | (simp_all; omega)), hh.symm⟩)
  · have c_12 : ¬ (machV (r 4 s) (r 5 s) ((r 4) s) i n < 0) := c_12
    refine Zn.seg (pc2 := 76) (ls2 := [some (za (A 0)), some (zi (s : Int)), some (zi i), some (zi (t : Int)), some (zi j), some (zi n), none]) (st2 := [za (A 0), zi (t : Int), za (A 0)]) [(73, .aload_n 0), (74, .iload_n 3), (75, .aload_n 0)] (by decide +kernel) rfl ?_
    refine Zn.get (ix := 23) hD 0 (by decide +kernel) rfl rfl rfl ?_
    refine Zn.seg (pc2 := 80) (ls2 := [some (za (A 0)), some (zi (s : Int)), some (zi i), some (zi (t : Int)), some (zi j), some (zi n), none]) (st2 := [zi (t : Int), za (A 4), zi (t : Int), za (A 0)]) [(79, .iload_n 3)] (by decide +kernel) rfl ?_
    refine Zn.iald hD 4 (t) (by decide +kernel) rfl (by omega) (by omega) rfl ?_
    refine Zn.seg (pc2 := 85) (ls2 := [some (za (A 0)), some (zi (s : Int)), some (zi i), some (zi (t : Int)), some (zi j), some (zi n), none]) (st2 := [zi n, zi j, zi ((r 4) t), zi (t : Int), za (A 0)]) [(81, .iload 4), (83, .iload 5)] (by decide +kernel) rfl ?_
    refine Zn.i2l (by decide +kernel) ⟨by omega, by omega⟩ ?_
    refine Zn.call (ins := .invokevirtual 342) [za (A 0), zi (t : Int), zi ((r 4) t), zi j, zj n] [] (by decide +kernel) rfl rfl rfl ⟨rfl, rfl⟩ ⟨rfl, rfl, rfl⟩ rfl (zrecvV hD (p := 0) rfl rfl rfl) (sp_X8_machine (A := A) (m := m) (r := r) (s := t) (l := (r 4) t) (i := j) (n := n) (zov_all hD) hD (by first | assumption | omega) (hlb) (by first | exact hsz | exact htz) (⟨by omega, by omega⟩) (⟨by omega, by omega⟩) (⟨by omega, by omega⟩)) (fun v h2 hp => ?_)
    obtain ⟨rfl, hq_13⟩ := hp
    refine Zn.eq (pc2 := 89) (ls2 := [some (za (A 0)), some (zi (s : Int)), some (zi i), some (zi (t : Int)), some (zi j), some (zi n), none]) (st2 := [zi (machV (r 4 t) (r 5 t) ((r 4) t) j n)]) (h2 := zov (LM A m r) h) rfl rfl rfl hq_13 ?_
    have hD : zND (LM A m r) := hD
    have q_14 := machV_spec (r 4 t) (r 5 t) ((r 4) t) j n
    refine Zn.ifc (c := .ge) (off := 6) 95 (by decide +kernel) rfl ⟨by omega, by omega⟩ (fun c_15 => absurd (show 0 ≤ machV (r 4 t) (r 5 t) ((r 4) t) j n from c_15) (by omega)) (fun c_15 => ?_)
    have c_15 : ¬ (0 ≤ machV (r 4 t) (r 5 t) ((r 4) t) j n) := c_15
    refine Zn.seg (pc2 := 94) (ls2 := [some (za (A 0)), some (zi (s : Int)), some (zi i), some (zi (t : Int)), some (zi j), some (zi n), none]) (st2 := [zi (-13)]) [(92, .bipush (-13))] (by decide +kernel) rfl ?_
    exact Zn.iret (by decide +kernel) rfl (⟨by first | rfl | (refine congrArg some (congrArg zi ?_); first | omega | (simp_all; done) | (simp_all; omega)), hh.symm⟩)
set_option maxHeartbeats 1000000 in
theorem sp_X8_copy_ok {h : xH} {A : Nat → Nat} {m : Nat → Int} {r : Nat → Nat → Int} {s t i j n : Nat} (hL : ∀ q ∈ LM A m r, h q.1 = zcE q.2) (hD : zND (LM A m r)) (hs : s < 4) (ht : t < 4) (hla : -4 ≤ r 4 s ∧ r 4 s ≤ 3) (hlb : -4 ≤ r 4 t ∧ r 4 t ≤ 3) (hsz : 0 ≤ r 5 s ∧ r 5 s ≤ 24) (htz : 0 ≤ r 5 t ∧ r 5 t ≤ 24) (h0 : 0 ≤ r 4 s ∧ 0 ≤ r 4 t) (h1 : r 4 s = r 4 t) (hb : machV (r 4 s) (r 5 s) (r 4 s) i n = 0 ∧ machV (r 4 t) (r 5 t) (r 4 t) j n = 0) (hib : i + n ≤ 24) (hjb : j + n ≤ 24) : zEv k_X8_copy [za (A 0), zi (s : Int), zi (i : Int), zi (t : Int), zi (j : Int), zi (n : Int)] h (fun v h2 => v = some (zi (n : Int)) ∧ h2 = zov (LM A m (va_up (va_up r 6 (va_cpy (va_cpy (r 6) (r 19) (24 * s + i) 0 n) (r 6) 0 (24 * t + j) n)) 19 (va_cpy (r 6) (r 19) (24 * s + i) 0 n))) h) := by
  have hh : h = zov (LM A m r) h := zov_self hL
  refine zEv.body (I := (8, xI_X8_copy, 7, 2, 45, 0, 0, false)) (rt := (some .int)) [some (za (A 0)), some (zi (s : Int)), some (zi (i : Int)), some (zi (t : Int)), some (zi (j : Int)), some (zi (n : Int)), none] rfl rfl rfl rfl ?_
  refine Zn.eq rfl rfl rfl hh ?_
  have hD : zND (LM A m r) := hD
  refine Zn.seg (pc2 := 1) (ls2 := [some (za (A 0)), some (zi (s : Int)), some (zi (i : Int)), some (zi (t : Int)), some (zi (j : Int)), some (zi (n : Int)), none]) (st2 := [zi (s : Int)]) [(0, .iload_n 1)] (by decide +kernel) rfl ?_
  refine Zn.call (ins := .invokestatic 337) [zi (s : Int)] [] (by decide +kernel) rfl rfl rfl ⟨rfl, rfl⟩ ⟨rfl, rfl, rfl⟩ rfl (zrecvS (by decide)) (sp_X8_isSheet (x := (s : Int)) (by first | assumption | exact ⟨by omega, by omega⟩)) (fun v h2 hp => ?_)
  obtain ⟨rfl, hq_1⟩ := hp
  refine Zn.eq (pc2 := 4) (ls2 := [some (za (A 0)), some (zi (s : Int)), some (zi (i : Int)), some (zi (t : Int)), some (zi (j : Int)), some (zi (n : Int)), none]) (st2 := [zi (inB 0 3 (s : Int))]) (h2 := zov (LM A m r) h) rfl rfl rfl hq_1 ?_
  have hD : zND (LM A m r) := hD
  have q_2 := inB_spec 0 3 (s : Int)
  refine Zn.ifc (c := .eq) (off := 10) 14 (by decide +kernel) rfl ⟨by omega, by omega⟩ (fun c_3 => absurd (show inB 0 3 (s : Int) = 0 from c_3) (by omega)) (fun c_3 => ?_)
  have c_3 : ¬ (inB 0 3 (s : Int) = 0) := c_3
  refine Zn.seg (pc2 := 8) (ls2 := [some (za (A 0)), some (zi (s : Int)), some (zi (i : Int)), some (zi (t : Int)), some (zi (j : Int)), some (zi (n : Int)), none]) (st2 := [zi (t : Int)]) [(7, .iload_n 3)] (by decide +kernel) rfl ?_
  refine Zn.call (ins := .invokestatic 337) [zi (t : Int)] [] (by decide +kernel) rfl rfl rfl ⟨rfl, rfl⟩ ⟨rfl, rfl, rfl⟩ rfl (zrecvS (by decide)) (sp_X8_isSheet (x := (t : Int)) (by first | assumption | exact ⟨by omega, by omega⟩)) (fun v h2 hp => ?_)
  obtain ⟨rfl, hq_4⟩ := hp
  refine Zn.eq (pc2 := 11) (ls2 := [some (za (A 0)), some (zi (s : Int)), some (zi (i : Int)), some (zi (t : Int)), some (zi (j : Int)), some (zi (n : Int)), none]) (st2 := [zi (inB 0 3 (t : Int))]) (h2 := zov (LM A m r) h) rfl rfl rfl hq_4 ?_
  have hD : zND (LM A m r) := hD
  have q_5 := inB_spec 0 3 (t : Int)
  refine Zn.ifc (c := .ne) (off := 5) 16 (by decide +kernel) rfl ⟨by omega, by omega⟩ (fun c_6 => ?_) (fun c_6 => absurd (show inB 0 3 (t : Int) ≠ 0 from by omega) c_6)
  have c_6 : inB 0 3 (t : Int) ≠ 0 := c_6
  refine Zn.seg (pc2 := 17) (ls2 := [some (za (A 0)), some (zi (s : Int)), some (zi (i : Int)), some (zi (t : Int)), some (zi (j : Int)), some (zi (n : Int)), none]) (st2 := [za (A 0)]) [(16, .aload_n 0)] (by decide +kernel) rfl ?_
  refine Zn.get (ix := 23) hD 0 (by decide +kernel) rfl rfl rfl ?_
  refine Zn.seg (pc2 := 21) (ls2 := [some (za (A 0)), some (zi (s : Int)), some (zi (i : Int)), some (zi (t : Int)), some (zi (j : Int)), some (zi (n : Int)), none]) (st2 := [zi (s : Int), za (A 4)]) [(20, .iload_n 1)] (by decide +kernel) rfl ?_
  refine Zn.iald hD 4 (s) (by decide +kernel) rfl (by omega) (by omega) rfl ?_
  refine Zn.ifc (c := .lt) (off := 12) 34 (by decide +kernel) rfl ⟨by omega, by omega⟩ (fun c_7 => absurd (show (r 4) s < 0 from c_7) (by omega)) (fun c_7 => ?_)
  have c_7 : ¬ ((r 4) s < 0) := c_7
  refine Zn.seg (pc2 := 26) (ls2 := [some (za (A 0)), some (zi (s : Int)), some (zi (i : Int)), some (zi (t : Int)), some (zi (j : Int)), some (zi (n : Int)), none]) (st2 := [za (A 0)]) [(25, .aload_n 0)] (by decide +kernel) rfl ?_
  refine Zn.get (ix := 23) hD 0 (by decide +kernel) rfl rfl rfl ?_
  refine Zn.seg (pc2 := 30) (ls2 := [some (za (A 0)), some (zi (s : Int)), some (zi (i : Int)), some (zi (t : Int)), some (zi (j : Int)), some (zi (n : Int)), none]) (st2 := [zi (t : Int), za (A 4)]) [(29, .iload_n 3)] (by decide +kernel) rfl ?_
  refine Zn.iald hD 4 (t) (by decide +kernel) rfl (by omega) (by omega) rfl ?_
  refine Zn.ifc (c := .ge) (off := 6) 37 (by decide +kernel) rfl ⟨by omega, by omega⟩ (fun c_8 => ?_) (fun c_8 => absurd (show 0 ≤ (r 4) t from by omega) c_8)
  have c_8 : 0 ≤ (r 4) t := c_8
  refine Zn.seg (pc2 := 38) (ls2 := [some (za (A 0)), some (zi (s : Int)), some (zi (i : Int)), some (zi (t : Int)), some (zi (j : Int)), some (zi (n : Int)), none]) (st2 := [za (A 0)]) [(37, .aload_n 0)] (by decide +kernel) rfl ?_
  refine Zn.get (ix := 23) hD 0 (by decide +kernel) rfl rfl rfl ?_
  refine Zn.seg (pc2 := 42) (ls2 := [some (za (A 0)), some (zi (s : Int)), some (zi (i : Int)), some (zi (t : Int)), some (zi (j : Int)), some (zi (n : Int)), none]) (st2 := [zi (s : Int), za (A 4)]) [(41, .iload_n 1)] (by decide +kernel) rfl ?_
  refine Zn.iald hD 4 (s) (by decide +kernel) rfl (by omega) (by omega) rfl ?_
  refine Zn.seg (pc2 := 44) (ls2 := [some (za (A 0)), some (zi (s : Int)), some (zi (i : Int)), some (zi (t : Int)), some (zi (j : Int)), some (zi (n : Int)), none]) (st2 := [za (A 0), zi ((r 4) s)]) [(43, .aload_n 0)] (by decide +kernel) rfl ?_
  refine Zn.get (ix := 23) hD 0 (by decide +kernel) rfl rfl rfl ?_
  refine Zn.seg (pc2 := 48) (ls2 := [some (za (A 0)), some (zi (s : Int)), some (zi (i : Int)), some (zi (t : Int)), some (zi (j : Int)), some (zi (n : Int)), none]) (st2 := [zi (t : Int), za (A 4), zi ((r 4) s)]) [(47, .iload_n 3)] (by decide +kernel) rfl ?_
  refine Zn.iald hD 4 (t) (by decide +kernel) rfl (by omega) (by omega) rfl ?_
  refine Zn.icmp (c := .eq) (off := 6) 55 (by decide +kernel) rfl ⟨by omega, by omega⟩ ⟨by omega, by omega⟩ (fun c_9 => ?_) (fun c_9 => absurd (show (r 4) s = (r 4) t from by omega) c_9)
  have c_9 : (r 4) s = (r 4) t := c_9
  refine Zn.seg (pc2 := 58) (ls2 := [some (za (A 0)), some (zi (s : Int)), some (zi (i : Int)), some (zi (t : Int)), some (zi (j : Int)), some (zi (n : Int)), none]) (st2 := [za (A 0), zi (s : Int), za (A 0)]) [(55, .aload_n 0), (56, .iload_n 1), (57, .aload_n 0)] (by decide +kernel) rfl ?_
  refine Zn.get (ix := 23) hD 0 (by decide +kernel) rfl rfl rfl ?_
  refine Zn.seg (pc2 := 62) (ls2 := [some (za (A 0)), some (zi (s : Int)), some (zi (i : Int)), some (zi (t : Int)), some (zi (j : Int)), some (zi (n : Int)), none]) (st2 := [zi (s : Int), za (A 4), zi (s : Int), za (A 0)]) [(61, .iload_n 1)] (by decide +kernel) rfl ?_
  refine Zn.iald hD 4 (s) (by decide +kernel) rfl (by omega) (by omega) rfl ?_
  refine Zn.seg (pc2 := 66) (ls2 := [some (za (A 0)), some (zi (s : Int)), some (zi (i : Int)), some (zi (t : Int)), some (zi (j : Int)), some (zi (n : Int)), none]) (st2 := [zi (n : Int), zi (i : Int), zi ((r 4) s), zi (s : Int), za (A 0)]) [(63, .iload_n 2), (64, .iload 5)] (by decide +kernel) rfl ?_
  refine Zn.i2l (by decide +kernel) ⟨by omega, by omega⟩ ?_
  refine Zn.call (ins := .invokevirtual 342) [za (A 0), zi (s : Int), zi ((r 4) s), zi (i : Int), zj (n : Int)] [] (by decide +kernel) rfl rfl rfl ⟨rfl, rfl⟩ ⟨rfl, rfl, rfl⟩ rfl (zrecvV hD (p := 0) rfl rfl rfl) (sp_X8_machine (A := A) (m := m) (r := r) (s := s) (l := (r 4) s) (i := (i : Int)) (n := (n : Int)) (zov_all hD) hD (by first | assumption | omega) (hla) (by first | exact hsz | exact htz) (⟨by omega, by omega⟩) (⟨by omega, by omega⟩) (⟨by omega, by omega⟩)) (fun v h2 hp => ?_)
  obtain ⟨rfl, hq_10⟩ := hp
  refine Zn.eq (pc2 := 70) (ls2 := [some (za (A 0)), some (zi (s : Int)), some (zi (i : Int)), some (zi (t : Int)), some (zi (j : Int)), some (zi (n : Int)), none]) (st2 := [zi (machV (r 4 s) (r 5 s) ((r 4) s) (i : Int) (n : Int))]) (h2 := zov (LM A m r) h) rfl rfl rfl hq_10 ?_
  have hD : zND (LM A m r) := hD
  have q_11 := machV_spec (r 4 s) (r 5 s) ((r 4) s) (i : Int) (n : Int)
  refine Zn.ifc (c := .lt) (off := 22) 92 (by decide +kernel) rfl ⟨by omega, by omega⟩ (fun c_12 => absurd (show machV (r 4 s) (r 5 s) ((r 4) s) (i : Int) (n : Int) < 0 from c_12) (by omega)) (fun c_12 => ?_)
  have c_12 : ¬ (machV (r 4 s) (r 5 s) ((r 4) s) (i : Int) (n : Int) < 0) := c_12
  refine Zn.seg (pc2 := 76) (ls2 := [some (za (A 0)), some (zi (s : Int)), some (zi (i : Int)), some (zi (t : Int)), some (zi (j : Int)), some (zi (n : Int)), none]) (st2 := [za (A 0), zi (t : Int), za (A 0)]) [(73, .aload_n 0), (74, .iload_n 3), (75, .aload_n 0)] (by decide +kernel) rfl ?_
  refine Zn.get (ix := 23) hD 0 (by decide +kernel) rfl rfl rfl ?_
  refine Zn.seg (pc2 := 80) (ls2 := [some (za (A 0)), some (zi (s : Int)), some (zi (i : Int)), some (zi (t : Int)), some (zi (j : Int)), some (zi (n : Int)), none]) (st2 := [zi (t : Int), za (A 4), zi (t : Int), za (A 0)]) [(79, .iload_n 3)] (by decide +kernel) rfl ?_
  refine Zn.iald hD 4 (t) (by decide +kernel) rfl (by omega) (by omega) rfl ?_
  refine Zn.seg (pc2 := 85) (ls2 := [some (za (A 0)), some (zi (s : Int)), some (zi (i : Int)), some (zi (t : Int)), some (zi (j : Int)), some (zi (n : Int)), none]) (st2 := [zi (n : Int), zi (j : Int), zi ((r 4) t), zi (t : Int), za (A 0)]) [(81, .iload 4), (83, .iload 5)] (by decide +kernel) rfl ?_
  refine Zn.i2l (by decide +kernel) ⟨by omega, by omega⟩ ?_
  refine Zn.call (ins := .invokevirtual 342) [za (A 0), zi (t : Int), zi ((r 4) t), zi (j : Int), zj (n : Int)] [] (by decide +kernel) rfl rfl rfl ⟨rfl, rfl⟩ ⟨rfl, rfl, rfl⟩ rfl (zrecvV hD (p := 0) rfl rfl rfl) (sp_X8_machine (A := A) (m := m) (r := r) (s := t) (l := (r 4) t) (i := (j : Int)) (n := (n : Int)) (zov_all hD) hD (by first | assumption | omega) (hlb) (by first | exact hsz | exact htz) (⟨by omega, by omega⟩) (⟨by omega, by omega⟩) (⟨by omega, by omega⟩)) (fun v h2 hp => ?_)
  obtain ⟨rfl, hq_13⟩ := hp
  refine Zn.eq (pc2 := 89) (ls2 := [some (za (A 0)), some (zi (s : Int)), some (zi (i : Int)), some (zi (t : Int)), some (zi (j : Int)), some (zi (n : Int)), none]) (st2 := [zi (machV (r 4 t) (r 5 t) ((r 4) t) (j : Int) (n : Int))]) (h2 := zov (LM A m r) h) rfl rfl rfl hq_13 ?_
  have hD : zND (LM A m r) := hD
  have q_14 := machV_spec (r 4 t) (r 5 t) ((r 4) t) (j : Int) (n : Int)
  refine Zn.ifc (c := .ge) (off := 6) 95 (by decide +kernel) rfl ⟨by omega, by omega⟩ (fun c_15 => ?_) (fun c_15 => absurd (show 0 ≤ machV (r 4 t) (r 5 t) ((r 4) t) (j : Int) (n : Int) from by omega) c_15)
  have c_15 : 0 ≤ machV (r 4 t) (r 5 t) ((r 4) t) (j : Int) (n : Int) := c_15
  refine Zn.seg (pc2 := 98) (ls2 := [some (za (A 0)), some (zi (s : Int)), some (zi (i : Int)), some (zi (t : Int)), some (zi (j : Int)), some (zi (n : Int)), some (zi 0)]) (st2 := []) [(95, .iconst 0), (96, .istore 6)] (by decide +kernel) rfl ?_
  refine Zn.eq (pc2 := 98) (ls2 := [some (za (A 0)), some (zi (s : Int)), some (zi (i : Int)), some (zi (t : Int)), some (zi (j : Int)), some (zi (n : Int)), some (zi (0 : Int))]) (st2 := []) (h2 := zov (LM A m (va_up r 19 (va_cpy (r 6) (r 19) (24 * s + i) 0 0))) h) rfl (zcons rfl (zcons rfl (zcons rfl (zcons rfl (zcons rfl (zcons rfl (zcons (congrArg (fun z => some (zi z)) (by first | rfl | omega | simp)) rfl))))))) rfl (by rw [LM_r1 A m r 19 (cpy_zero _ _ _ _).symm]) ?_
  have hD : zND (LM A m (va_up r 19 (va_cpy (r 6) (r 19) (24 * s + i) 0 0))) := hD
  refine xloop (P := fun i_16 => Zn (8, xI_X8_copy, 7, 2, 45, 0, 0, false) (some .int) 98 [some (za (A 0)), some (zi (s : Int)), some (zi (i : Int)), some (zi (t : Int)), some (zi (j : Int)), some (zi (n : Int)), some (zi (i_16 : Int))] [] (zov (LM A m (va_up r 19 (va_cpy (r 6) (r 19) (24 * s + i) 0 i_16))) h) _) (n) (fun i_16 hi_17 ih_18 => ?_) ?_
  · have hi_17 : i_16 < n := hi_17
    refine Zn.seg (pc2 := 102) (ls2 := [some (za (A 0)), some (zi (s : Int)), some (zi (i : Int)), some (zi (t : Int)), some (zi (j : Int)), some (zi (n : Int)), some (zi (i_16 : Int))]) (st2 := [zi (n : Int), zi (i_16 : Int)]) [(98, .iload 6), (100, .iload 5)] (by decide +kernel) rfl ?_
    refine Zn.icmp (c := .ge) (off := 30) 132 (by decide +kernel) rfl ⟨by omega, by omega⟩ ⟨by omega, by omega⟩ (fun c_19 => absurd (show (n : Int) ≤ (i_16 : Int) from c_19) (by omega)) (fun c_19 => ?_)
    have c_19 : ¬ ((n : Int) ≤ (i_16 : Int)) := c_19
    refine Zn.seg (pc2 := 106) (ls2 := [some (za (A 0)), some (zi (s : Int)), some (zi (i : Int)), some (zi (t : Int)), some (zi (j : Int)), some (zi (n : Int)), some (zi (i_16 : Int))]) (st2 := [za (A 0)]) [(105, .aload_n 0)] (by decide +kernel) rfl ?_
    refine Zn.get (ix := 70) hD 0 (by decide +kernel) rfl rfl rfl ?_
    refine Zn.seg (pc2 := 112) (ls2 := [some (za (A 0)), some (zi (s : Int)), some (zi (i : Int)), some (zi (t : Int)), some (zi (j : Int)), some (zi (n : Int)), some (zi (i_16 : Int))]) (st2 := [za (A 0), zi (i_16 : Int), za (A 19)]) [(109, .iload 6), (111, .aload_n 0)] (by decide +kernel) rfl ?_
    refine Zn.get (ix := 29) hD 0 (by decide +kernel) rfl rfl rfl ?_
    refine Zn.seg (pc2 := 124) (ls2 := [some (za (A 0)), some (zi (s : Int)), some (zi (i : Int)), some (zi (t : Int)), some (zi (j : Int)), some (zi (n : Int)), some (zi (i_16 : Int))]) (st2 := [zi (24 * (s : Int) + (i : Int) + (i_16 : Int)), za (A 6), zi (i_16 : Int), za (A 19)]) [(115, .bipush 24), (117, .iload_n 1), (118, .imul), (119, .iload_n 2), (120, .iadd), (121, .iload 6), (123, .iadd)] (by decide +kernel) rfl ?_
    refine Zn.lald hD 6 (24 * s + i + i_16) (by decide +kernel) rfl (by omega) (by omega) rfl ?_
    refine Zn.last hD 19 (i_16) (by decide +kernel) rfl (by omega) (by omega) rfl ?_
    refine Zn.eq (h2 := zov (LM A m (va_up r 19 (va_up (va_cpy (r 6) (r 19) (24 * s + i) 0 i_16) i_16 ((r 6) (24 * s + i + i_16))))) h) rfl rfl rfl (rfl) ?_
    have hD : zND (LM A m (va_up r 19 (va_up (va_cpy (r 6) (r 19) (24 * s + i) 0 i_16) i_16 ((r 6) (24 * s + i + i_16))))) := hD
    refine Zn.seg (pc2 := 98) (ls2 := [some (za (A 0)), some (zi (s : Int)), some (zi (i : Int)), some (zi (t : Int)), some (zi (j : Int)), some (zi (n : Int)), some (zi ((i_16 : Int) + 1))]) (st2 := []) [(126, .iinc 6 1), (129, .goto (-31))] (by decide +kernel) rfl ?_
    exact Zn.eq rfl (zcons rfl (zcons rfl (zcons rfl (zcons rfl (zcons rfl (zcons rfl (zcons (congrArg (fun z => some (zi z)) (by omega)) rfl))))))) rfl (by rw [cpy_step2]) (ih_18)
  · skip
    refine Zn.seg (pc2 := 102) (ls2 := [some (za (A 0)), some (zi (s : Int)), some (zi (i : Int)), some (zi (t : Int)), some (zi (j : Int)), some (zi (n : Int)), some (zi (n : Int))]) (st2 := [zi (n : Int), zi (n : Int)]) [(98, .iload 6), (100, .iload 5)] (by decide +kernel) rfl ?_
    refine Zn.icmp (c := .ge) (off := 30) 132 (by decide +kernel) rfl ⟨by omega, by omega⟩ ⟨by omega, by omega⟩ (fun c_20 => ?_) (fun c_20 => absurd (show (n : Int) ≤ (n : Int) from by omega) c_20)
    have c_20 : (n : Int) ≤ (n : Int) := c_20
    refine Zn.seg (pc2 := 135) (ls2 := [some (za (A 0)), some (zi (s : Int)), some (zi (i : Int)), some (zi (t : Int)), some (zi (j : Int)), some (zi (n : Int)), some (zi 0)]) (st2 := []) [(132, .iconst 0), (133, .istore 6)] (by decide +kernel) rfl ?_
    refine Zn.eq (pc2 := 135) (ls2 := [some (za (A 0)), some (zi (s : Int)), some (zi (i : Int)), some (zi (t : Int)), some (zi (j : Int)), some (zi (n : Int)), some (zi (0 : Int))]) (st2 := []) (h2 := zov (LM A m (va_up (va_up r 6 (va_cpy (va_cpy (r 6) (r 19) (24 * s + i) 0 n) (r 6) 0 (24 * t + j) 0)) 19 (va_cpy (r 6) (r 19) (24 * s + i) 0 n))) h) rfl (zcons rfl (zcons rfl (zcons rfl (zcons rfl (zcons rfl (zcons rfl (zcons (congrArg (fun z => some (zi z)) (by first | rfl | omega | simp)) rfl))))))) rfl (by rw [cpy_zero, va_eta r 6 rfl]) ?_
    have hD : zND (LM A m (va_up (va_up r 6 (va_cpy (va_cpy (r 6) (r 19) (24 * s + i) 0 n) (r 6) 0 (24 * t + j) 0)) 19 (va_cpy (r 6) (r 19) (24 * s + i) 0 n))) := hD
    refine xloop (P := fun i_21 => Zn (8, xI_X8_copy, 7, 2, 45, 0, 0, false) (some .int) 135 [some (za (A 0)), some (zi (s : Int)), some (zi (i : Int)), some (zi (t : Int)), some (zi (j : Int)), some (zi (n : Int)), some (zi (i_21 : Int))] [] (zov (LM A m (va_up (va_up r 6 (va_cpy (va_cpy (r 6) (r 19) (24 * s + i) 0 n) (r 6) 0 (24 * t + j) i_21)) 19 (va_cpy (r 6) (r 19) (24 * s + i) 0 n))) h) _) (n) (fun i_21 hi_22 ih_23 => ?_) ?_
    · have hi_22 : i_21 < n := hi_22
      refine Zn.seg (pc2 := 139) (ls2 := [some (za (A 0)), some (zi (s : Int)), some (zi (i : Int)), some (zi (t : Int)), some (zi (j : Int)), some (zi (n : Int)), some (zi (i_21 : Int))]) (st2 := [zi (n : Int), zi (i_21 : Int)]) [(135, .iload 6), (137, .iload 5)] (by decide +kernel) rfl ?_
      refine Zn.icmp (c := .ge) (off := 31) 170 (by decide +kernel) rfl ⟨by omega, by omega⟩ ⟨by omega, by omega⟩ (fun c_24 => absurd (show (n : Int) ≤ (i_21 : Int) from c_24) (by omega)) (fun c_24 => ?_)
      have c_24 : ¬ ((n : Int) ≤ (i_21 : Int)) := c_24
      refine Zn.seg (pc2 := 143) (ls2 := [some (za (A 0)), some (zi (s : Int)), some (zi (i : Int)), some (zi (t : Int)), some (zi (j : Int)), some (zi (n : Int)), some (zi (i_21 : Int))]) (st2 := [za (A 0)]) [(142, .aload_n 0)] (by decide +kernel) rfl ?_
      refine Zn.get (ix := 29) hD 0 (by decide +kernel) rfl rfl rfl ?_
      refine Zn.seg (pc2 := 157) (ls2 := [some (za (A 0)), some (zi (s : Int)), some (zi (i : Int)), some (zi (t : Int)), some (zi (j : Int)), some (zi (n : Int)), some (zi (i_21 : Int))]) (st2 := [za (A 0), zi (24 * (t : Int) + (j : Int) + (i_21 : Int)), za (A 6)]) [(146, .bipush 24), (148, .iload_n 3), (149, .imul), (150, .iload 4), (152, .iadd), (153, .iload 6), (155, .iadd), (156, .aload_n 0)] (by decide +kernel) rfl ?_
      refine Zn.get (ix := 70) hD 0 (by decide +kernel) rfl rfl rfl ?_
      refine Zn.seg (pc2 := 162) (ls2 := [some (za (A 0)), some (zi (s : Int)), some (zi (i : Int)), some (zi (t : Int)), some (zi (j : Int)), some (zi (n : Int)), some (zi (i_21 : Int))]) (st2 := [zi (i_21 : Int), za (A 19), zi (24 * (t : Int) + (j : Int) + (i_21 : Int)), za (A 6)]) [(160, .iload 6)] (by decide +kernel) rfl ?_
      refine Zn.lald hD 19 (i_21) (by decide +kernel) rfl (by omega) (by omega) rfl ?_
      refine Zn.last hD 6 (24 * t + j + i_21) (by decide +kernel) rfl (by omega) (by omega) rfl ?_
      refine Zn.eq (h2 := zov (LM A m (va_up (va_up r 6 (va_up (va_cpy (va_cpy (r 6) (r 19) (24 * s + i) 0 n) (r 6) 0 (24 * t + j) i_21) (24 * t + j + i_21) ((va_cpy (r 6) (r 19) (24 * s + i) 0 n) i_21))) 19 (va_cpy (r 6) (r 19) (24 * s + i) 0 n))) h) rfl rfl rfl (rfl) ?_
      have hD : zND (LM A m (va_up (va_up r 6 (va_up (va_cpy (va_cpy (r 6) (r 19) (24 * s + i) 0 n) (r 6) 0 (24 * t + j) i_21) (24 * t + j + i_21) ((va_cpy (r 6) (r 19) (24 * s + i) 0 n) i_21))) 19 (va_cpy (r 6) (r 19) (24 * s + i) 0 n))) := hD
      refine Zn.seg (pc2 := 135) (ls2 := [some (za (A 0)), some (zi (s : Int)), some (zi (i : Int)), some (zi (t : Int)), some (zi (j : Int)), some (zi (n : Int)), some (zi ((i_21 : Int) + 1))]) (st2 := []) [(164, .iinc 6 1), (167, .goto (-32))] (by decide +kernel) rfl ?_
      exact Zn.eq rfl (zcons rfl (zcons rfl (zcons rfl (zcons rfl (zcons rfl (zcons rfl (zcons (congrArg (fun z => some (zi z)) (by omega)) rfl))))))) rfl (by rw [cpy_step]) (ih_23)
    · skip
      refine Zn.seg (pc2 := 139) (ls2 := [some (za (A 0)), some (zi (s : Int)), some (zi (i : Int)), some (zi (t : Int)), some (zi (j : Int)), some (zi (n : Int)), some (zi (n : Int))]) (st2 := [zi (n : Int), zi (n : Int)]) [(135, .iload 6), (137, .iload 5)] (by decide +kernel) rfl ?_
      refine Zn.icmp (c := .ge) (off := 31) 170 (by decide +kernel) rfl ⟨by omega, by omega⟩ ⟨by omega, by omega⟩ (fun c_25 => ?_) (fun c_25 => absurd (show (n : Int) ≤ (n : Int) from by omega) c_25)
      have c_25 : (n : Int) ≤ (n : Int) := c_25
      refine Zn.seg (pc2 := 172) (ls2 := [some (za (A 0)), some (zi (s : Int)), some (zi (i : Int)), some (zi (t : Int)), some (zi (j : Int)), some (zi (n : Int)), some (zi (n : Int))]) (st2 := [zi (n : Int)]) [(170, .iload 5)] (by decide +kernel) rfl ?_
      exact Zn.iret (by decide +kernel) rfl (⟨by first | rfl | (refine congrArg some (congrArg zi ?_); first | omega | (simp_all; done) | (simp_all; omega)), rfl⟩)
theorem sp_X8_type_bad {h : xH} {A : Nat → Nat} {m : Nat → Int} {r : Nat → Nat → Int} {x : Int} (hL : ∀ q ∈ LM A m r, h q.1 = zcE q.2) (hD : zND (LM A m r)) (zx : zInI x) (hb : ¬ (32 ≤ x ∧ x ≤ 126)) : zEv k_X8_type [za (A 0), zi x] h (fun v h2 => v = some (zi (-1)) ∧ h2 = h) := by
  have hh : h = zov (LM A m r) h := zov_self hL
  have zx1 := zx.1
  have zx2 := zx.2
  refine zEv.body (I := (8, xI_X8_type, 2, 1, 25, 0, 0, false)) (rt := (some .int)) [some (za (A 0)), some (zi x)] rfl rfl rfl rfl ?_
  refine Zn.eq rfl rfl rfl hh ?_
  have hD : zND (LM A m r) := hD
  refine Zn.seg (pc2 := 1) (ls2 := [some (za (A 0)), some (zi x)]) (st2 := [zi x]) [(0, .iload_n 1)] (by decide +kernel) rfl ?_
  refine Zn.i2l (by decide +kernel) ⟨by omega, by omega⟩ ?_
  refine Zn.seg (pc2 := 8) (ls2 := [some (za (A 0)), some (zi x)]) (st2 := [zj 126, zj 32, zj x]) [(2, .ldc2_w 135), (5, .ldc2_w 137)] (by decide +kernel) rfl ?_
  refine Zn.call (ins := .invokestatic 77) [zj x, zj 32, zj 126] [] (by decide +kernel) rfl rfl rfl ⟨rfl, rfl⟩ ⟨rfl, rfl, rfl⟩ rfl (zrecvS (by decide)) (sp_X8_in (x := x) (lo := 32) (hi := 126) (⟨by omega, by omega⟩) (⟨by decide, by decide⟩) (⟨by decide, by decide⟩)) (fun v h2 hp => ?_)
  obtain ⟨rfl, hq_1⟩ := hp
  refine Zn.eq (pc2 := 11) (ls2 := [some (za (A 0)), some (zi x)]) (st2 := [zi (inB 32 126 x)]) (h2 := zov (LM A m r) h) rfl rfl rfl hq_1 ?_
  have hD : zND (LM A m r) := hD
  have q_2 := inB_spec 32 126 x
  refine Zn.ifc (c := .ne) (off := 5) 16 (by decide +kernel) rfl ⟨by omega, by omega⟩ (fun c_3 => absurd (show inB 32 126 x ≠ 0 from c_3) (by omega)) (fun c_3 => ?_)
  have c_3 : ¬ (inB 32 126 x ≠ 0) := c_3
  refine Zn.seg (pc2 := 15) (ls2 := [some (za (A 0)), some (zi x)]) (st2 := [zi (-1)]) [(14, .iconst (-1))] (by decide +kernel) rfl ?_
  exact Zn.iret (by decide +kernel) rfl (⟨by first | rfl | (refine congrArg some (congrArg zi ?_); first | omega | (simp_all; done) | (simp_all; omega)), hh.symm⟩)
theorem sp_X8_type_full {h : xH} {A : Nat → Nat} {m : Nat → Int} {r : Nat → Nat → Int} {x : Int} (hL : ∀ q ∈ LM A m r, h q.1 = zcE q.2) (hD : zND (LM A m r)) (hx : 32 ≤ x ∧ x ≤ 126) (hb : m 5 = 90) : zEv k_X8_type [za (A 0), zi x] h (fun v h2 => v = some (zi (-3)) ∧ h2 = h) := by
  have hh : h = zov (LM A m r) h := zov_self hL
  refine zEv.body (I := (8, xI_X8_type, 2, 1, 25, 0, 0, false)) (rt := (some .int)) [some (za (A 0)), some (zi x)] rfl rfl rfl rfl ?_
  refine Zn.eq rfl rfl rfl hh ?_
  have hD : zND (LM A m r) := hD
  refine Zn.seg (pc2 := 1) (ls2 := [some (za (A 0)), some (zi x)]) (st2 := [zi x]) [(0, .iload_n 1)] (by decide +kernel) rfl ?_
  refine Zn.i2l (by decide +kernel) ⟨by omega, by omega⟩ ?_
  refine Zn.seg (pc2 := 8) (ls2 := [some (za (A 0)), some (zi x)]) (st2 := [zj 126, zj 32, zj x]) [(2, .ldc2_w 135), (5, .ldc2_w 137)] (by decide +kernel) rfl ?_
  refine Zn.call (ins := .invokestatic 77) [zj x, zj 32, zj 126] [] (by decide +kernel) rfl rfl rfl ⟨rfl, rfl⟩ ⟨rfl, rfl, rfl⟩ rfl (zrecvS (by decide)) (sp_X8_in (x := x) (lo := 32) (hi := 126) (⟨by omega, by omega⟩) (⟨by decide, by decide⟩) (⟨by decide, by decide⟩)) (fun v h2 hp => ?_)
  obtain ⟨rfl, hq_1⟩ := hp
  refine Zn.eq (pc2 := 11) (ls2 := [some (za (A 0)), some (zi x)]) (st2 := [zi (inB 32 126 x)]) (h2 := zov (LM A m r) h) rfl rfl rfl hq_1 ?_
  have hD : zND (LM A m r) := hD
  have q_2 := inB_spec 32 126 x
  refine Zn.ifc (c := .ne) (off := 5) 16 (by decide +kernel) rfl ⟨by omega, by omega⟩ (fun c_3 => ?_) (fun c_3 => absurd (show inB 32 126 x ≠ 0 from by omega) c_3)
  have c_3 : inB 32 126 x ≠ 0 := c_3
  refine Zn.seg (pc2 := 17) (ls2 := [some (za (A 0)), some (zi x)]) (st2 := [za (A 0)]) [(16, .aload_n 0)] (by decide +kernel) rfl ?_
  refine Zn.get (ix := 139) hD 0 (by decide +kernel) rfl rfl rfl ?_
  refine Zn.seg (pc2 := 22) (ls2 := [some (za (A 0)), some (zi x)]) (st2 := [zi 90, zi (m 5)]) [(20, .bipush 90)] (by decide +kernel) rfl ?_
  refine Zn.icmp (c := .ne) (off := 6) 28 (by decide +kernel) rfl ⟨by omega, by omega⟩ ⟨by decide, by decide⟩ (fun c_4 => absurd (show m 5 ≠ 90 from c_4) (by omega)) (fun c_4 => ?_)
  have c_4 : ¬ (m 5 ≠ 90) := c_4
  refine Zn.seg (pc2 := 27) (ls2 := [some (za (A 0)), some (zi x)]) (st2 := [zi (-3)]) [(25, .bipush (-3))] (by decide +kernel) rfl ?_
  exact Zn.iret (by decide +kernel) rfl (⟨by first | rfl | (refine congrArg some (congrArg zi ?_); first | omega | (simp_all; done) | (simp_all; omega)), hh.symm⟩)
theorem sp_X8_type_ok {h : xH} {A : Nat → Nat} {m : Nat → Int} {r : Nat → Nat → Int} {x : Int} {l : Nat} (hL : ∀ q ∈ LM A m r, h q.1 = zcE q.2) (hD : zND (LM A m r)) (hx : 32 ≤ x ∧ x ≤ 126) (hb : m 5 = (l : Int)) (hl : l < 90) : zEv k_X8_type [za (A 0), zi x] h (fun v h2 => v = some (zi ((l : Int) + 1)) ∧ h2 = zov (LM A (va_up m 5 ((l : Int) + 1)) (va_up r 3 (va_up (r 3) l x))) h) := by
  have hh : h = zov (LM A m r) h := zov_self hL
  refine zEv.body (I := (8, xI_X8_type, 2, 1, 25, 0, 0, false)) (rt := (some .int)) [some (za (A 0)), some (zi x)] rfl rfl rfl rfl ?_
  refine Zn.eq rfl rfl rfl hh ?_
  have hD : zND (LM A m r) := hD
  refine Zn.seg (pc2 := 1) (ls2 := [some (za (A 0)), some (zi x)]) (st2 := [zi x]) [(0, .iload_n 1)] (by decide +kernel) rfl ?_
  refine Zn.i2l (by decide +kernel) ⟨by omega, by omega⟩ ?_
  refine Zn.seg (pc2 := 8) (ls2 := [some (za (A 0)), some (zi x)]) (st2 := [zj 126, zj 32, zj x]) [(2, .ldc2_w 135), (5, .ldc2_w 137)] (by decide +kernel) rfl ?_
  refine Zn.call (ins := .invokestatic 77) [zj x, zj 32, zj 126] [] (by decide +kernel) rfl rfl rfl ⟨rfl, rfl⟩ ⟨rfl, rfl, rfl⟩ rfl (zrecvS (by decide)) (sp_X8_in (x := x) (lo := 32) (hi := 126) (⟨by omega, by omega⟩) (⟨by decide, by decide⟩) (⟨by decide, by decide⟩)) (fun v h2 hp => ?_)
  obtain ⟨rfl, hq_1⟩ := hp
  refine Zn.eq (pc2 := 11) (ls2 := [some (za (A 0)), some (zi x)]) (st2 := [zi (inB 32 126 x)]) (h2 := zov (LM A m r) h) rfl rfl rfl hq_1 ?_
  have hD : zND (LM A m r) := hD
  have q_2 := inB_spec 32 126 x
  refine Zn.ifc (c := .ne) (off := 5) 16 (by decide +kernel) rfl ⟨by omega, by omega⟩ (fun c_3 => ?_) (fun c_3 => absurd (show inB 32 126 x ≠ 0 from by omega) c_3)
  have c_3 : inB 32 126 x ≠ 0 := c_3
  refine Zn.seg (pc2 := 17) (ls2 := [some (za (A 0)), some (zi x)]) (st2 := [za (A 0)]) [(16, .aload_n 0)] (by decide +kernel) rfl ?_
  refine Zn.get (ix := 139) hD 0 (by decide +kernel) rfl rfl rfl ?_
  refine Zn.seg (pc2 := 22) (ls2 := [some (za (A 0)), some (zi x)]) (st2 := [zi 90, zi (m 5)]) [(20, .bipush 90)] (by decide +kernel) rfl ?_
  refine Zn.icmp (c := .ne) (off := 6) 28 (by decide +kernel) rfl ⟨by omega, by omega⟩ ⟨by decide, by decide⟩ (fun c_4 => ?_) (fun c_4 => absurd (show m 5 ≠ 90 from by omega) c_4)
  have c_4 : m 5 ≠ 90 := c_4
  refine Zn.seg (pc2 := 29) (ls2 := [some (za (A 0)), some (zi x)]) (st2 := [za (A 0)]) [(28, .aload_n 0)] (by decide +kernel) rfl ?_
  refine Zn.get (ix := 20) hD 0 (by decide +kernel) rfl rfl rfl ?_
  refine Zn.seg (pc2 := 33) (ls2 := [some (za (A 0)), some (zi x)]) (st2 := [za (A 0), za (A 3)]) [(32, .aload_n 0)] (by decide +kernel) rfl ?_
  refine Zn.get (ix := 139) hD 0 (by decide +kernel) rfl rfl rfl ?_
  refine Zn.seg (pc2 := 37) (ls2 := [some (za (A 0)), some (zi x)]) (st2 := [zi x, zi (m 5), za (A 3)]) [(36, .iload_n 1)] (by decide +kernel) rfl ?_
  refine Zn.iast hD 3 (l) (by decide +kernel) rfl (by omega) (by omega) rfl ?_
  refine Zn.eq (h2 := zov (LM A m (va_up r 3 (va_up (r 3) l x))) h) rfl rfl rfl (rfl) ?_
  have hD : zND (LM A m (va_up r 3 (va_up (r 3) l x))) := hD
  refine Zn.seg (pc2 := 40) (ls2 := [some (za (A 0)), some (zi x)]) (st2 := [za (A 0), za (A 0)]) [(38, .aload_n 0), (39, .dup)] (by decide +kernel) rfl ?_
  refine Zn.get (ix := 139) hD 0 (by decide +kernel) rfl rfl rfl ?_
  refine Zn.seg (pc2 := 45) (ls2 := [some (za (A 0)), some (zi x)]) (st2 := [zi (m 5 + 1), za (A 0)]) [(43, .iconst 1), (44, .iadd)] (by decide +kernel) rfl ?_
  refine Zn.topi (y := (l : Int) + 1) (by omega) ?_
  refine Zn.put (ix := 139) hD 0 (by decide +kernel) rfl rfl rfl rfl rfl ?_
  refine Zn.eq (h2 := zov (LM A (va_up m 5 ((l : Int) + 1)) (va_up r 3 (va_up (r 3) l x))) h) rfl rfl rfl rfl ?_
  have hD : zND (LM A (va_up m 5 ((l : Int) + 1)) (va_up r 3 (va_up (r 3) l x))) := hD
  refine Zn.seg (pc2 := 49) (ls2 := [some (za (A 0)), some (zi x)]) (st2 := [za (A 0)]) [(48, .aload_n 0)] (by decide +kernel) rfl ?_
  refine Zn.get (ix := 139) hD 0 (by decide +kernel) rfl rfl rfl ?_
  exact Zn.iret (by decide +kernel) rfl (⟨by first | rfl | (refine congrArg some (congrArg zi ?_); first | omega | (simp_all; done) | (simp_all; omega)), rfl⟩)
theorem sp_X8_drift_bad {h : xH} {A : Nat → Nat} {m : Nat → Int} {r : Nat → Nat → Int} {x : Int} (hL : ∀ q ∈ LM A m r, h q.1 = zcE q.2) (hD : zND (LM A m r)) (zx : zInI x) (hb : ¬ (1 ≤ x ∧ x ≤ 40)) : zEv k_X8_drift [za (A 0), zi x] h (fun v h2 => v = some (zi (-1)) ∧ h2 = h) := by
  have hh : h = zov (LM A m r) h := zov_self hL
  have zx1 := zx.1
  have zx2 := zx.2
  refine zEv.body (I := (8, xI_X8_drift, 6, 2, 44, 0, 0, false)) (rt := (some .int)) [some (za (A 0)), some (zi x), none, none, none, none] rfl rfl rfl rfl ?_
  refine Zn.eq rfl rfl rfl hh ?_
  have hD : zND (LM A m r) := hD
  refine Zn.seg (pc2 := 1) (ls2 := [some (za (A 0)), some (zi x), none, none, none, none]) (st2 := [zi x]) [(0, .iload_n 1)] (by decide +kernel) rfl ?_
  refine Zn.i2l (by decide +kernel) ⟨by omega, by omega⟩ ?_
  refine Zn.seg (pc2 := 6) (ls2 := [some (za (A 0)), some (zi x), none, none, none, none]) (st2 := [zj 40, zj 1, zj x]) [(2, .lconst 1), (3, .ldc2_w 332)] (by decide +kernel) rfl ?_
  refine Zn.call (ins := .invokestatic 77) [zj x, zj 1, zj 40] [] (by decide +kernel) rfl rfl rfl ⟨rfl, rfl⟩ ⟨rfl, rfl, rfl⟩ rfl (zrecvS (by decide)) (sp_X8_in (x := x) (lo := 1) (hi := 40) (⟨by omega, by omega⟩) (⟨by decide, by decide⟩) (⟨by decide, by decide⟩)) (fun v h2 hp => ?_)
  obtain ⟨rfl, hq_1⟩ := hp
  refine Zn.eq (pc2 := 9) (ls2 := [some (za (A 0)), some (zi x), none, none, none, none]) (st2 := [zi (inB 1 40 x)]) (h2 := zov (LM A m r) h) rfl rfl rfl hq_1 ?_
  have hD : zND (LM A m r) := hD
  have q_2 := inB_spec 1 40 x
  refine Zn.ifc (c := .ne) (off := 5) 14 (by decide +kernel) rfl ⟨by omega, by omega⟩ (fun c_3 => absurd (show inB 1 40 x ≠ 0 from c_3) (by omega)) (fun c_3 => ?_)
  have c_3 : ¬ (inB 1 40 x ≠ 0) := c_3
  refine Zn.seg (pc2 := 13) (ls2 := [some (za (A 0)), some (zi x), none, none, none, none]) (st2 := [zi (-1)]) [(12, .iconst (-1))] (by decide +kernel) rfl ?_
  exact Zn.iret (by decide +kernel) rfl (⟨by first | rfl | (refine congrArg some (congrArg zi ?_); first | omega | (simp_all; done) | (simp_all; omega)), hh.symm⟩)
set_option maxHeartbeats 2000000 in
theorem sp_X8_drift_ok {h : xH} {A : Nat → Nat} {m : Nat → Int} {r : Nat → Nat → Int} {n u w : Nat} (hL : ∀ q ∈ LM A m r, h q.1 = zcE q.2) (hD : zND (LM A m r)) (hn : 1 ≤ n ∧ n ≤ 40) (hk : kOK (r 1)) (hu : m 1 = (u : Int)) (hu6 : u ≤ 6) (hw : r 1 4 = (w : Int)) (hw31 : w < 2147483648) : zEv k_X8_drift [za (A 0), zi (n : Int)] h (fun v h2 => v = some (zi (manyN (drR (r 1) u w n) 0 13 : Int)) ∧ h2 = zov (LM A (va_up m 1 (drU u n : Int)) (va_up r 1 (drR (r 1) u w n))) h) := by
  have hh : h = zov (LM A m r) h := zov_self hL
  refine zEv.body (I := (8, xI_X8_drift, 6, 2, 44, 0, 0, false)) (rt := (some .int)) [some (za (A 0)), some (zi (n : Int)), none, none, none, none] rfl rfl rfl rfl ?_
  refine Zn.eq rfl rfl rfl hh ?_
  have hD : zND (LM A m r) := hD
  refine Zn.seg (pc2 := 1) (ls2 := [some (za (A 0)), some (zi (n : Int)), none, none, none, none]) (st2 := [zi (n : Int)]) [(0, .iload_n 1)] (by decide +kernel) rfl ?_
  refine Zn.i2l (by decide +kernel) ⟨by omega, by omega⟩ ?_
  refine Zn.seg (pc2 := 6) (ls2 := [some (za (A 0)), some (zi (n : Int)), none, none, none, none]) (st2 := [zj 40, zj 1, zj (n : Int)]) [(2, .lconst 1), (3, .ldc2_w 332)] (by decide +kernel) rfl ?_
  refine Zn.call (ins := .invokestatic 77) [zj (n : Int), zj 1, zj 40] [] (by decide +kernel) rfl rfl rfl ⟨rfl, rfl⟩ ⟨rfl, rfl, rfl⟩ rfl (zrecvS (by decide)) (sp_X8_in (x := (n : Int)) (lo := 1) (hi := 40) (⟨by omega, by omega⟩) (⟨by decide, by decide⟩) (⟨by decide, by decide⟩)) (fun v h2 hp => ?_)
  obtain ⟨rfl, hq_1⟩ := hp
  refine Zn.eq (pc2 := 9) (ls2 := [some (za (A 0)), some (zi (n : Int)), none, none, none, none]) (st2 := [zi (inB 1 40 (n : Int))]) (h2 := zov (LM A m r) h) rfl rfl rfl hq_1 ?_
  have hD : zND (LM A m r) := hD
  have q_2 := inB_spec 1 40 (n : Int)
  refine Zn.ifc (c := .ne) (off := 5) 14 (by decide +kernel) rfl ⟨by omega, by omega⟩ (fun c_3 => ?_) (fun c_3 => absurd (show inB 1 40 (n : Int) ≠ 0 from by omega) c_3)
  have c_3 : inB 1 40 (n : Int) ≠ 0 := c_3
  refine Zn.seg (pc2 := 16) (ls2 := [some (za (A 0)), some (zi (n : Int)), some (zi 0), none, none, none]) (st2 := []) [(14, .iconst 0), (15, .istore_n 2)] (by decide +kernel) rfl ?_
  refine Zn.eq (pc2 := 16) (ls2 := [some (za (A 0)), some (zi (n : Int)), some (zi (0 : Int)), none, none, none]) (st2 := []) (h2 := zov (LM A (va_up m 1 (drU u 0 : Int)) (va_up r 1 (drR (r 1) u w 0))) h) rfl (zcons rfl (zcons rfl (zcons (congrArg (fun z => some (zi z)) (by first | rfl | omega | simp)) rfl))) rfl (by rw [drU, drR, ← hu, va_eta m 1 rfl, va_eta r 1 rfl]) ?_
  have hD : zND (LM A (va_up m 1 (drU u 0 : Int)) (va_up r 1 (drR (r 1) u w 0))) := hD
  refine xloop (P := fun i_4 => ∀ j_5 j_6 j_7 : Option zV, Zn (8, xI_X8_drift, 6, 2, 44, 0, 0, false) (some .int) 16 [some (za (A 0)), some (zi (n : Int)), some (zi (i_4 : Int)), j_5, j_6, j_7] [] (zov (LM A (va_up m 1 (drU u i_4 : Int)) (va_up r 1 (drR (r 1) u w i_4))) h) _) (n) (fun i_4 hi_8 ih_9 j_5 j_6 j_7 => ?_) (fun j_5 j_6 j_7 => ?_) none none none
  · have hi_8 : i_4 < n := hi_8
    have hu_ := drU_le hu6 i_4
    have hk_ := drR_ok (u := u) hk hw i_4
    have hw_ := (ntR_lo (R := drR (r 1) u w i_4) (u := drU u i_4) (show 4 < 31 by decide)).trans (drR_w hk hw i_4)
    obtain ⟨wn, hwn⟩ : ∃ z : Nat, z = turnW (drW w i_4) := ⟨_, rfl⟩
    have hwl : wn < 2147483648 := by rw [hwn]; exact turnW_lt _
    have hp_ : wn / 65536 % 13 < 13 := Nat.mod_lt _ (by decide)
    have hq_ : wn / 65536 / 16 % 199 < 199 := Nat.mod_lt _ (by decide)
    have hv_ : wn / 65536 < 32768 := by omega
    have hkw : kOK (va_up (ntR (drR (r 1) u w i_4) (drU u i_4)) 4 (wn : Int)) := kOK_4 (kOK_nt hk_)
    have hkp := hkw _ hp_
    refine Zn.seg (pc2 := 18) (ls2 := [some (za (A 0)), some (zi (n : Int)), some (zi (i_4 : Int)), j_5, j_6, j_7]) (st2 := [zi (n : Int), zi (i_4 : Int)]) [(16, .iload_n 2), (17, .iload_n 1)] (by decide +kernel) rfl ?_
    refine Zn.icmp (c := .ge) (off := 116) 134 (by decide +kernel) rfl ⟨by omega, by omega⟩ ⟨by omega, by omega⟩ (fun c_10 => absurd (show (n : Int) ≤ (i_4 : Int) from c_10) (by omega)) (fun c_10 => ?_)
    have c_10 : ¬ ((n : Int) ≤ (i_4 : Int)) := c_10
    refine Zn.seg (pc2 := 22) (ls2 := [some (za (A 0)), some (zi (n : Int)), some (zi (i_4 : Int)), j_5, j_6, j_7]) (st2 := [za (A 0)]) [(21, .aload_n 0)] (by decide +kernel) rfl ?_
    refine Zn.call (ins := .invokevirtual 105) [za (A 0)] [] (by decide +kernel) rfl rfl rfl ⟨rfl, rfl⟩ ⟨rfl, rfl, rfl⟩ rfl (zrecvV hD (p := 0) rfl rfl rfl) (sp_X8_notes (A := A) (m := va_up m 1 (drU u i_4 : Int)) (r := va_up r 1 (drR (r 1) u w i_4)) (u := (drU u i_4)) (zov_all hD) hD (rfl) (hu_)) (fun v h2 hp => ?_)
    obtain ⟨rfl, hq_11⟩ := hp
    refine Zn.eq (pc2 := 25) (ls2 := [some (za (A 0)), some (zi (n : Int)), some (zi (i_4 : Int)), j_5, j_6, j_7]) (st2 := []) (h2 := zov (LM A (va_up m 1 (ntU (drU u i_4) : Int)) (va_up r 1 (ntR ((drR (r 1) u w i_4)) (drU u i_4)))) h) rfl rfl rfl (hq_11.trans ((LM_over _ _ _ _ _ _).trans rfl)) ?_
    have hD : zND (LM A (va_up m 1 (ntU (drU u i_4) : Int)) (va_up r 1 (ntR ((drR (r 1) u w i_4)) (drU u i_4)))) := hD
    refine Zn.seg (pc2 := 26) (ls2 := [some (za (A 0)), some (zi (n : Int)), some (zi (i_4 : Int)), j_5, j_6, j_7]) (st2 := [za (A 0)]) [(25, .aload_n 0)] (by decide +kernel) rfl ?_
    refine Zn.get (ix := 7) hD 0 (by decide +kernel) rfl rfl rfl ?_
    refine Zn.seg (pc2 := 31) (ls2 := [some (za (A 0)), some (zi (n : Int)), some (zi (i_4 : Int)), j_5, j_6, j_7]) (st2 := [za (A 0), zi 4, za (A 1)]) [(29, .iconst 4), (30, .aload_n 0)] (by decide +kernel) rfl ?_
    refine Zn.get (ix := 7) hD 0 (by decide +kernel) rfl rfl rfl ?_
    refine Zn.seg (pc2 := 35) (ls2 := [some (za (A 0)), some (zi (n : Int)), some (zi (i_4 : Int)), j_5, j_6, j_7]) (st2 := [zi 4, za (A 1), zi 4, za (A 1)]) [(34, .iconst 4)] (by decide +kernel) rfl ?_
    refine Zn.iald hD 1 (4) (by decide +kernel) rfl (rfl) (by decide) rfl ?_
    refine Zn.seg (pc2 := 47) (ls2 := [some (za (A 0)), some (zi (n : Int)), some (zi (i_4 : Int)), j_5, j_6, j_7]) (st2 := [zi 2147483647, zi (((ntR ((drR (r 1) u w i_4)) (drU u i_4)) 4) * 1103515245 + 12345), zi 4, za (A 1)]) [(36, .ldc_w 334), (39, .imul), (40, .sipush 12345), (43, .iadd), (44, .ldc_w 335)] (by decide +kernel) rfl ?_
    refine Zn.iand ((wn : Int)) (by decide +kernel) (by rw [show ntR (drR (r 1) u w i_4) (drU u i_4) 4 = ((drW w i_4 : Nat) : Int) from hw_, hwn]; exact turnW_and _) ?_
    refine Zn.iast hD 1 (4) (by decide +kernel) rfl (rfl) (by decide) rfl ?_
    refine Zn.eq (h2 := zov (LM A (va_up m 1 (ntU (drU u i_4) : Int)) (va_up r 1 (va_up (ntR ((drR (r 1) u w i_4)) (drU u i_4)) 4 (wn : Int)))) h) rfl rfl rfl (rfl) ?_
    have hD : zND (LM A (va_up m 1 (ntU (drU u i_4) : Int)) (va_up r 1 (va_up (ntR ((drR (r 1) u w i_4)) (drU u i_4)) 4 (wn : Int)))) := hD
    refine Zn.seg (pc2 := 50) (ls2 := [some (za (A 0)), some (zi (n : Int)), some (zi (i_4 : Int)), j_5, j_6, j_7]) (st2 := [za (A 0)]) [(49, .aload_n 0)] (by decide +kernel) rfl ?_
    refine Zn.get (ix := 7) hD 0 (by decide +kernel) rfl rfl rfl ?_
    refine Zn.seg (pc2 := 54) (ls2 := [some (za (A 0)), some (zi (n : Int)), some (zi (i_4 : Int)), j_5, j_6, j_7]) (st2 := [zi 4, za (A 1)]) [(53, .iconst 4)] (by decide +kernel) rfl ?_
    refine Zn.iald hD 1 (4) (by decide +kernel) rfl (rfl) (by decide) rfl ?_
    refine Zn.topi (y := (wn : Int)) ((va_up_s (ntR (drR (r 1) u w i_4) (drU u i_4)) 4 (wn : Int))) ?_
    refine Zn.seg (pc2 := 58) (ls2 := [some (za (A 0)), some (zi (n : Int)), some (zi (i_4 : Int)), j_5, j_6, j_7]) (st2 := [zi 65536, zi (wn : Int)]) [(55, .ldc_w 336)] (by decide +kernel) rfl ?_
    refine Zn.idiv (by decide +kernel) ⟨by omega, by omega⟩ ⟨by decide, by decide⟩ (by omega) ?_
    refine Zn.topi (y := ((wn / 65536 : Nat) : Int)) (ntd 65536 (by rfl)) ?_
    refine Zn.seg (pc2 := 63) (ls2 := [some (za (A 0)), some (zi (n : Int)), some (zi (i_4 : Int)), some (zi ((wn / 65536 : Nat) : Int)), j_6, j_7]) (st2 := [zi 13, zi ((wn / 65536 : Nat) : Int)]) [(59, .istore_n 3), (60, .iload_n 3), (61, .bipush 13)] (by decide +kernel) rfl ?_
    refine Zn.irem (by decide +kernel) ⟨by omega, by omega⟩ ⟨by decide, by decide⟩ (by omega) ?_
    refine Zn.topi (y := ((wn / 65536 % 13 : Nat) : Int)) (ntm 13 (by rfl)) ?_
    refine Zn.seg (pc2 := 72) (ls2 := [some (za (A 0)), some (zi (n : Int)), some (zi (i_4 : Int)), some (zi ((wn / 65536 : Nat) : Int)), some (zi (((wn / 65536 % 13 : Nat) : Int) - 6)), j_7]) (st2 := [zi 16, zi ((wn / 65536 : Nat) : Int)]) [(64, .bipush 6), (66, .isub), (67, .istore 4), (69, .iload_n 3), (70, .bipush 16)] (by decide +kernel) rfl ?_
    refine Zn.idiv (by decide +kernel) ⟨by omega, by omega⟩ ⟨by decide, by decide⟩ (by omega) ?_
    refine Zn.topi (y := ((wn / 65536 / 16 : Nat) : Int)) (ntd 16 (by rfl)) ?_
    refine Zn.seg (pc2 := 76) (ls2 := [some (za (A 0)), some (zi (n : Int)), some (zi (i_4 : Int)), some (zi ((wn / 65536 : Nat) : Int)), some (zi (((wn / 65536 % 13 : Nat) : Int) - 6)), j_7]) (st2 := [zi 199, zi ((wn / 65536 / 16 : Nat) : Int)]) [(73, .sipush 199)] (by decide +kernel) rfl ?_
    refine Zn.irem (by decide +kernel) ⟨by omega, by omega⟩ ⟨by decide, by decide⟩ (by omega) ?_
    refine Zn.topi (y := ((wn / 65536 / 16 % 199 : Nat) : Int)) (ntm 199 (by rfl)) ?_
    refine Zn.seg (pc2 := 85) (ls2 := [some (za (A 0)), some (zi (n : Int)), some (zi (i_4 : Int)), some (zi ((wn / 65536 : Nat) : Int)), some (zi (((wn / 65536 % 13 : Nat) : Int) - 6)), some (zi (((wn / 65536 / 16 % 199 : Nat) : Int) - 99))]) (st2 := [zi (((wn / 65536 % 13 : Nat) : Int) - 6), za (A 0)]) [(77, .bipush 99), (79, .isub), (80, .istore 5), (82, .aload_n 0), (83, .iload 4)] (by decide +kernel) rfl ?_
    refine Zn.call (ins := .invokevirtual 81) [za (A 0), zi (((wn / 65536 % 13 : Nat) : Int) - 6)] [] (by decide +kernel) rfl rfl rfl ⟨rfl, rfl⟩ ⟨rfl, rfl, rfl⟩ rfl (zrecvV hD (p := 0) rfl rfl rfl) (sp_X8_kind (A := A) (m := va_up m 1 (ntU (drU u i_4) : Int)) (r := va_up r 1 (va_up (ntR ((drR (r 1) u w i_4)) (drU u i_4)) 4 (wn : Int))) (x := ((wn / 65536 % 13 : Nat) : Int) - 6) (p := (wn / 65536 % 13 : Nat)) (zov_all hD) hD (by first | assumption | omega) (hp_)) (fun v h2 hp => ?_)
    obtain ⟨rfl, hq_12⟩ := hp
    refine Zn.eq (pc2 := 88) (ls2 := [some (za (A 0)), some (zi (n : Int)), some (zi (i_4 : Int)), some (zi ((wn / 65536 : Nat) : Int)), some (zi (((wn / 65536 % 13 : Nat) : Int) - 6)), some (zi (((wn / 65536 / 16 % 199 : Nat) : Int) - 99))]) (st2 := [zi ((va_up (ntR ((drR (r 1) u w i_4)) (drU u i_4)) 4 (wn : Int)) ((wn / 65536 % 13 : Nat) + 18))]) (h2 := zov (LM A (va_up m 1 (ntU (drU u i_4) : Int)) (va_up r 1 (va_up (ntR ((drR (r 1) u w i_4)) (drU u i_4)) 4 (wn : Int)))) h) rfl rfl rfl hq_12 ?_
    have hD : zND (LM A (va_up m 1 (ntU (drU u i_4) : Int)) (va_up r 1 (va_up (ntR ((drR (r 1) u w i_4)) (drU u i_4)) 4 (wn : Int)))) := hD
    refine Zn.ifc (c := .gt) (off := 13) 101 (by decide +kernel) rfl ⟨by omega, by omega⟩ (fun c_13 => ?_) (fun c_13 => ?_)
    · have c_13 : 0 < (va_up (ntR ((drR (r 1) u w i_4)) (drU u i_4)) 4 (wn : Int)) ((wn / 65536 % 13 : Nat) + 18) := c_13
      refine Zn.seg (pc2 := 109) (ls2 := [some (za (A 0)), some (zi (n : Int)), some (zi (i_4 : Int)), some (zi ((wn / 65536 : Nat) : Int)), some (zi (((wn / 65536 % 13 : Nat) : Int) - 6)), some (zi (((wn / 65536 / 16 % 199 : Nat) : Int) - 99))]) (st2 := [zi (((wn / 65536 % 13 : Nat) : Int) - 6), za (A 0), zi (((wn / 65536 / 16 % 199 : Nat) : Int) - 99), zi (((wn / 65536 % 13 : Nat) : Int) - 6), za (A 0)]) [(101, .aload_n 0), (102, .iload 4), (104, .iload 5), (106, .aload_n 0), (107, .iload 4)] (by decide +kernel) rfl ?_
      refine Zn.call (ins := .invokevirtual 81) [za (A 0), zi (((wn / 65536 % 13 : Nat) : Int) - 6)] [zi (((wn / 65536 / 16 % 199 : Nat) : Int) - 99), zi (((wn / 65536 % 13 : Nat) : Int) - 6), za (A 0)] (by decide +kernel) rfl rfl rfl ⟨rfl, rfl⟩ ⟨rfl, rfl, rfl⟩ rfl (zrecvV hD (p := 0) rfl rfl rfl) (sp_X8_kind (A := A) (m := va_up m 1 (ntU (drU u i_4) : Int)) (r := va_up r 1 (va_up (ntR ((drR (r 1) u w i_4)) (drU u i_4)) 4 (wn : Int))) (x := ((wn / 65536 % 13 : Nat) : Int) - 6) (p := (wn / 65536 % 13 : Nat)) (zov_all hD) hD (by first | assumption | omega) (hp_)) (fun v h2 hp => ?_)
      obtain ⟨rfl, hq_14⟩ := hp
      refine Zn.eq (pc2 := 112) (ls2 := [some (za (A 0)), some (zi (n : Int)), some (zi (i_4 : Int)), some (zi ((wn / 65536 : Nat) : Int)), some (zi (((wn / 65536 % 13 : Nat) : Int) - 6)), some (zi (((wn / 65536 / 16 % 199 : Nat) : Int) - 99))]) (st2 := [zi ((va_up (ntR ((drR (r 1) u w i_4)) (drU u i_4)) 4 (wn : Int)) ((wn / 65536 % 13 : Nat) + 18)), zi (((wn / 65536 / 16 % 199 : Nat) : Int) - 99), zi (((wn / 65536 % 13 : Nat) : Int) - 6), za (A 0)]) (h2 := zov (LM A (va_up m 1 (ntU (drU u i_4) : Int)) (va_up r 1 (va_up (ntR ((drR (r 1) u w i_4)) (drU u i_4)) 4 (wn : Int)))) h) rfl rfl rfl hq_14 ?_
      have hD : zND (LM A (va_up m 1 (ntU (drU u i_4) : Int)) (va_up r 1 (va_up (ntR ((drR (r 1) u w i_4)) (drU u i_4)) 4 (wn : Int)))) := hD
      refine Zn.ifc (c := .ne) (off := 7) 119 (by decide +kernel) rfl ⟨by omega, by omega⟩ (fun c_15 => ?_) (fun c_15 => ?_)
      · have c_15 : (va_up (ntR ((drR (r 1) u w i_4)) (drU u i_4)) 4 (wn : Int)) ((wn / 65536 % 13 : Nat) + 18) ≠ 0 := c_15
        refine Zn.seg (pc2 := 122) (ls2 := [some (za (A 0)), some (zi (n : Int)), some (zi (i_4 : Int)), some (zi ((wn / 65536 : Nat) : Int)), some (zi (((wn / 65536 % 13 : Nat) : Int) - 6)), some (zi (((wn / 65536 / 16 % 199 : Nat) : Int) - 99))]) (st2 := [zi (((wn / 65536 % 13 : Nat) : Int) - 6), za (A 0), zi (((wn / 65536 / 16 % 199 : Nat) : Int) - 99), zi (((wn / 65536 % 13 : Nat) : Int) - 6), za (A 0)]) [(119, .aload_n 0), (120, .iload 4)] (by decide +kernel) rfl ?_
        refine Zn.call (ins := .invokevirtual 81) [za (A 0), zi (((wn / 65536 % 13 : Nat) : Int) - 6)] [zi (((wn / 65536 / 16 % 199 : Nat) : Int) - 99), zi (((wn / 65536 % 13 : Nat) : Int) - 6), za (A 0)] (by decide +kernel) rfl rfl rfl ⟨rfl, rfl⟩ ⟨rfl, rfl, rfl⟩ rfl (zrecvV hD (p := 0) rfl rfl rfl) (sp_X8_kind (A := A) (m := va_up m 1 (ntU (drU u i_4) : Int)) (r := va_up r 1 (va_up (ntR ((drR (r 1) u w i_4)) (drU u i_4)) 4 (wn : Int))) (x := ((wn / 65536 % 13 : Nat) : Int) - 6) (p := (wn / 65536 % 13 : Nat)) (zov_all hD) hD (by first | assumption | omega) (hp_)) (fun v h2 hp => ?_)
        obtain ⟨rfl, hq_16⟩ := hp
        refine Zn.eq (pc2 := 125) (ls2 := [some (za (A 0)), some (zi (n : Int)), some (zi (i_4 : Int)), some (zi ((wn / 65536 : Nat) : Int)), some (zi (((wn / 65536 % 13 : Nat) : Int) - 6)), some (zi (((wn / 65536 / 16 % 199 : Nat) : Int) - 99))]) (st2 := [zi ((va_up (ntR ((drR (r 1) u w i_4)) (drU u i_4)) 4 (wn : Int)) ((wn / 65536 % 13 : Nat) + 18)), zi (((wn / 65536 / 16 % 199 : Nat) : Int) - 99), zi (((wn / 65536 % 13 : Nat) : Int) - 6), za (A 0)]) (h2 := zov (LM A (va_up m 1 (ntU (drU u i_4) : Int)) (va_up r 1 (va_up (ntR ((drR (r 1) u w i_4)) (drU u i_4)) 4 (wn : Int)))) h) rfl rfl rfl hq_16 ?_
        have hD : zND (LM A (va_up m 1 (ntU (drU u i_4) : Int)) (va_up r 1 (va_up (ntR ((drR (r 1) u w i_4)) (drU u i_4)) 4 (wn : Int)))) := hD
        refine Zn.call (ins := .invokevirtual 108) [za (A 0), zi (((wn / 65536 % 13 : Nat) : Int) - 6), zi (((wn / 65536 / 16 % 199 : Nat) : Int) - 99), zi ((va_up (ntR ((drR (r 1) u w i_4)) (drU u i_4)) 4 (wn : Int)) ((wn / 65536 % 13 : Nat) + 18))] [] (by decide +kernel) rfl rfl rfl ⟨rfl, rfl⟩ ⟨rfl, rfl, rfl⟩ rfl (zrecvV hD (p := 0) rfl rfl rfl) (sp_X8_sets (A := A) (m := va_up m 1 (ntU (drU u i_4) : Int)) (r := va_up r 1 (va_up (ntR ((drR (r 1) u w i_4)) (drU u i_4)) 4 (wn : Int))) (x := ((wn / 65536 % 13 : Nat) : Int) - 6) (y := ((wn / 65536 / 16 % 199 : Nat) : Int) - 99) (k := (va_up (ntR ((drR (r 1) u w i_4)) (drU u i_4)) 4 (wn : Int)) ((wn / 65536 % 13 : Nat) + 18)) (p := (wn / 65536 % 13 : Nat)) (zov_all hD) hD (by first | assumption | omega) (by first | assumption | omega)) (fun v h2 hp => ?_)
        obtain ⟨rfl, hq_17⟩ := hp
        refine Zn.eq (pc2 := 128) (ls2 := [some (za (A 0)), some (zi (n : Int)), some (zi (i_4 : Int)), some (zi ((wn / 65536 : Nat) : Int)), some (zi (((wn / 65536 % 13 : Nat) : Int) - 6)), some (zi (((wn / 65536 / 16 % 199 : Nat) : Int) - 99))]) (st2 := []) (h2 := zov (LM A (va_up m 1 (ntU (drU u i_4) : Int)) (va_up r 1 (va_up (va_up ((va_up (ntR ((drR (r 1) u w i_4)) (drU u i_4)) 4 (wn : Int))) ((wn / 65536 % 13 : Nat) + 5) (((wn / 65536 / 16 % 199 : Nat) : Int) - 99)) ((wn / 65536 % 13 : Nat) + 18) ((va_up (ntR ((drR (r 1) u w i_4)) (drU u i_4)) 4 (wn : Int)) ((wn / 65536 % 13 : Nat) + 18))))) h) rfl rfl rfl (hq_17.trans ((LM_over _ _ _ _ _ _).trans rfl)) ?_
        have hD : zND (LM A (va_up m 1 (ntU (drU u i_4) : Int)) (va_up r 1 (va_up (va_up ((va_up (ntR ((drR (r 1) u w i_4)) (drU u i_4)) 4 (wn : Int))) ((wn / 65536 % 13 : Nat) + 5) (((wn / 65536 / 16 % 199 : Nat) : Int) - 99)) ((wn / 65536 % 13 : Nat) + 18) ((va_up (ntR ((drR (r 1) u w i_4)) (drU u i_4)) 4 (wn : Int)) ((wn / 65536 % 13 : Nat) + 18))))) := hD
        refine Zn.seg (pc2 := 16) (ls2 := [some (za (A 0)), some (zi (n : Int)), some (zi ((i_4 : Int) + 1)), some (zi ((wn / 65536 : Nat) : Int)), some (zi (((wn / 65536 % 13 : Nat) : Int) - 6)), some (zi (((wn / 65536 / 16 % 199 : Nat) : Int) - 99))]) (st2 := []) [(128, .iinc 2 1), (131, .goto (-115))] (by decide +kernel) rfl ?_
        exact Zn.eq rfl (zcons rfl (zcons rfl (zcons (congrArg (fun z => some (zi z)) (by omega)) rfl))) rfl (by first | (exfalso; omega) | (rw [drU, drR]; first | rw [dr1_t hwn (by omega) (by omega)] | rw [dr1_t2 hwn (by omega) (by omega)] | rw [dr1_f hwn (by omega) (by omega)])) (ih_9 (some (zi ((wn / 65536 : Nat) : Int))) (some (zi (((wn / 65536 % 13 : Nat) : Int) - 6))) (some (zi (((wn / 65536 / 16 % 199 : Nat) : Int) - 99))))
      · have c_15 : ¬ ((va_up (ntR ((drR (r 1) u w i_4)) (drU u i_4)) 4 (wn : Int)) ((wn / 65536 % 13 : Nat) + 18) ≠ 0) := c_15
        refine Zn.seg (pc2 := 125) (ls2 := [some (za (A 0)), some (zi (n : Int)), some (zi (i_4 : Int)), some (zi ((wn / 65536 : Nat) : Int)), some (zi (((wn / 65536 % 13 : Nat) : Int) - 6)), some (zi (((wn / 65536 / 16 % 199 : Nat) : Int) - 99))]) (st2 := [zi 1, zi (((wn / 65536 / 16 % 199 : Nat) : Int) - 99), zi (((wn / 65536 % 13 : Nat) : Int) - 6), za (A 0)]) [(115, .iconst 1), (116, .goto 9)] (by decide +kernel) rfl ?_
        refine Zn.call (ins := .invokevirtual 108) [za (A 0), zi (((wn / 65536 % 13 : Nat) : Int) - 6), zi (((wn / 65536 / 16 % 199 : Nat) : Int) - 99), zi 1] [] (by decide +kernel) rfl rfl rfl ⟨rfl, rfl⟩ ⟨rfl, rfl, rfl⟩ rfl (zrecvV hD (p := 0) rfl rfl rfl) (sp_X8_sets (A := A) (m := va_up m 1 (ntU (drU u i_4) : Int)) (r := va_up r 1 (va_up (ntR ((drR (r 1) u w i_4)) (drU u i_4)) 4 (wn : Int))) (x := ((wn / 65536 % 13 : Nat) : Int) - 6) (y := ((wn / 65536 / 16 % 199 : Nat) : Int) - 99) (k := 1) (p := (wn / 65536 % 13 : Nat)) (zov_all hD) hD (by first | assumption | omega) (by first | assumption | omega)) (fun v h2 hp => ?_)
        obtain ⟨rfl, hq_18⟩ := hp
        refine Zn.eq (pc2 := 128) (ls2 := [some (za (A 0)), some (zi (n : Int)), some (zi (i_4 : Int)), some (zi ((wn / 65536 : Nat) : Int)), some (zi (((wn / 65536 % 13 : Nat) : Int) - 6)), some (zi (((wn / 65536 / 16 % 199 : Nat) : Int) - 99))]) (st2 := []) (h2 := zov (LM A (va_up m 1 (ntU (drU u i_4) : Int)) (va_up r 1 (va_up (va_up ((va_up (ntR ((drR (r 1) u w i_4)) (drU u i_4)) 4 (wn : Int))) ((wn / 65536 % 13 : Nat) + 5) (((wn / 65536 / 16 % 199 : Nat) : Int) - 99)) ((wn / 65536 % 13 : Nat) + 18) 1))) h) rfl rfl rfl (hq_18.trans ((LM_over _ _ _ _ _ _).trans rfl)) ?_
        have hD : zND (LM A (va_up m 1 (ntU (drU u i_4) : Int)) (va_up r 1 (va_up (va_up ((va_up (ntR ((drR (r 1) u w i_4)) (drU u i_4)) 4 (wn : Int))) ((wn / 65536 % 13 : Nat) + 5) (((wn / 65536 / 16 % 199 : Nat) : Int) - 99)) ((wn / 65536 % 13 : Nat) + 18) 1))) := hD
        refine Zn.seg (pc2 := 16) (ls2 := [some (za (A 0)), some (zi (n : Int)), some (zi ((i_4 : Int) + 1)), some (zi ((wn / 65536 : Nat) : Int)), some (zi (((wn / 65536 % 13 : Nat) : Int) - 6)), some (zi (((wn / 65536 / 16 % 199 : Nat) : Int) - 99))]) (st2 := []) [(128, .iinc 2 1), (131, .goto (-115))] (by decide +kernel) rfl ?_
        exact Zn.eq rfl (zcons rfl (zcons rfl (zcons (congrArg (fun z => some (zi z)) (by omega)) rfl))) rfl (by first | (exfalso; omega) | (rw [drU, drR]; first | rw [dr1_t hwn (by omega) (by omega)] | rw [dr1_t2 hwn (by omega) (by omega)] | rw [dr1_f hwn (by omega) (by omega)])) (ih_9 (some (zi ((wn / 65536 : Nat) : Int))) (some (zi (((wn / 65536 % 13 : Nat) : Int) - 6))) (some (zi (((wn / 65536 / 16 % 199 : Nat) : Int) - 99))))
    · have c_13 : ¬ (0 < (va_up (ntR ((drR (r 1) u w i_4)) (drU u i_4)) 4 (wn : Int)) ((wn / 65536 % 13 : Nat) + 18)) := c_13
      refine Zn.seg (pc2 := 93) (ls2 := [some (za (A 0)), some (zi (n : Int)), some (zi (i_4 : Int)), some (zi ((wn / 65536 : Nat) : Int)), some (zi (((wn / 65536 % 13 : Nat) : Int) - 6)), some (zi (((wn / 65536 / 16 % 199 : Nat) : Int) - 99))]) (st2 := [zi 0, za (A 0)]) [(91, .aload_n 0), (92, .iconst 0)] (by decide +kernel) rfl ?_
      refine Zn.call (ins := .invokevirtual 88) [za (A 0), zi 0] [] (by decide +kernel) rfl rfl rfl ⟨rfl, rfl⟩ ⟨rfl, rfl, rfl⟩ rfl (zrecvV hD (p := 0) rfl rfl rfl) (sp_X8_many (A := A) (m := va_up m 1 (ntU (drU u i_4) : Int)) (r := va_up r 1 (va_up (ntR ((drR (r 1) u w i_4)) (drU u i_4)) 4 (wn : Int))) (k := 0) (zov_all hD) hD (hkw) (⟨by decide, by decide⟩)) (fun v h2 hp => ?_)
      obtain ⟨rfl, hq_19⟩ := hp
      refine Zn.eq (pc2 := 96) (ls2 := [some (za (A 0)), some (zi (n : Int)), some (zi (i_4 : Int)), some (zi ((wn / 65536 : Nat) : Int)), some (zi (((wn / 65536 % 13 : Nat) : Int) - 6)), some (zi (((wn / 65536 / 16 % 199 : Nat) : Int) - 99))]) (st2 := [zi (manyN ((va_up (ntR ((drR (r 1) u w i_4)) (drU u i_4)) 4 (wn : Int))) 0 13 : Int)]) (h2 := zov (LM A (va_up m 1 (ntU (drU u i_4) : Int)) (va_up r 1 (va_up (ntR ((drR (r 1) u w i_4)) (drU u i_4)) 4 (wn : Int)))) h) rfl rfl rfl hq_19 ?_
      have hD : zND (LM A (va_up m 1 (ntU (drU u i_4) : Int)) (va_up r 1 (va_up (ntR ((drR (r 1) u w i_4)) (drU u i_4)) 4 (wn : Int)))) := hD
      have q_20 := manyN_le ((va_up (ntR ((drR (r 1) u w i_4)) (drU u i_4)) 4 (wn : Int))) 0 13
      refine Zn.seg (pc2 := 98) (ls2 := [some (za (A 0)), some (zi (n : Int)), some (zi (i_4 : Int)), some (zi ((wn / 65536 : Nat) : Int)), some (zi (((wn / 65536 % 13 : Nat) : Int) - 6)), some (zi (((wn / 65536 / 16 % 199 : Nat) : Int) - 99))]) (st2 := [zi 8, zi (manyN ((va_up (ntR ((drR (r 1) u w i_4)) (drU u i_4)) 4 (wn : Int))) 0 13 : Int)]) [(96, .bipush 8)] (by decide +kernel) rfl ?_
      refine Zn.icmp (c := .ge) (off := 30) 128 (by decide +kernel) rfl ⟨by omega, by omega⟩ ⟨by decide, by decide⟩ (fun c_21 => ?_) (fun c_21 => ?_)
      · have c_21 : 8 ≤ (manyN ((va_up (ntR ((drR (r 1) u w i_4)) (drU u i_4)) 4 (wn : Int))) 0 13 : Int) := c_21
        refine Zn.seg (pc2 := 16) (ls2 := [some (za (A 0)), some (zi (n : Int)), some (zi ((i_4 : Int) + 1)), some (zi ((wn / 65536 : Nat) : Int)), some (zi (((wn / 65536 % 13 : Nat) : Int) - 6)), some (zi (((wn / 65536 / 16 % 199 : Nat) : Int) - 99))]) (st2 := []) [(128, .iinc 2 1), (131, .goto (-115))] (by decide +kernel) rfl ?_
        exact Zn.eq rfl (zcons rfl (zcons rfl (zcons (congrArg (fun z => some (zi z)) (by omega)) rfl))) rfl (by first | (exfalso; omega) | (rw [drU, drR]; first | rw [dr1_t hwn (by omega) (by omega)] | rw [dr1_t2 hwn (by omega) (by omega)] | rw [dr1_f hwn (by omega) (by omega)])) (ih_9 (some (zi ((wn / 65536 : Nat) : Int))) (some (zi (((wn / 65536 % 13 : Nat) : Int) - 6))) (some (zi (((wn / 65536 / 16 % 199 : Nat) : Int) - 99))))
      · have c_21 : ¬ (8 ≤ (manyN ((va_up (ntR ((drR (r 1) u w i_4)) (drU u i_4)) 4 (wn : Int))) 0 13 : Int)) := c_21
        refine Zn.seg (pc2 := 109) (ls2 := [some (za (A 0)), some (zi (n : Int)), some (zi (i_4 : Int)), some (zi ((wn / 65536 : Nat) : Int)), some (zi (((wn / 65536 % 13 : Nat) : Int) - 6)), some (zi (((wn / 65536 / 16 % 199 : Nat) : Int) - 99))]) (st2 := [zi (((wn / 65536 % 13 : Nat) : Int) - 6), za (A 0), zi (((wn / 65536 / 16 % 199 : Nat) : Int) - 99), zi (((wn / 65536 % 13 : Nat) : Int) - 6), za (A 0)]) [(101, .aload_n 0), (102, .iload 4), (104, .iload 5), (106, .aload_n 0), (107, .iload 4)] (by decide +kernel) rfl ?_
        refine Zn.call (ins := .invokevirtual 81) [za (A 0), zi (((wn / 65536 % 13 : Nat) : Int) - 6)] [zi (((wn / 65536 / 16 % 199 : Nat) : Int) - 99), zi (((wn / 65536 % 13 : Nat) : Int) - 6), za (A 0)] (by decide +kernel) rfl rfl rfl ⟨rfl, rfl⟩ ⟨rfl, rfl, rfl⟩ rfl (zrecvV hD (p := 0) rfl rfl rfl) (sp_X8_kind (A := A) (m := va_up m 1 (ntU (drU u i_4) : Int)) (r := va_up r 1 (va_up (ntR ((drR (r 1) u w i_4)) (drU u i_4)) 4 (wn : Int))) (x := ((wn / 65536 % 13 : Nat) : Int) - 6) (p := (wn / 65536 % 13 : Nat)) (zov_all hD) hD (by first | assumption | omega) (hp_)) (fun v h2 hp => ?_)
        obtain ⟨rfl, hq_22⟩ := hp
        refine Zn.eq (pc2 := 112) (ls2 := [some (za (A 0)), some (zi (n : Int)), some (zi (i_4 : Int)), some (zi ((wn / 65536 : Nat) : Int)), some (zi (((wn / 65536 % 13 : Nat) : Int) - 6)), some (zi (((wn / 65536 / 16 % 199 : Nat) : Int) - 99))]) (st2 := [zi ((va_up (ntR ((drR (r 1) u w i_4)) (drU u i_4)) 4 (wn : Int)) ((wn / 65536 % 13 : Nat) + 18)), zi (((wn / 65536 / 16 % 199 : Nat) : Int) - 99), zi (((wn / 65536 % 13 : Nat) : Int) - 6), za (A 0)]) (h2 := zov (LM A (va_up m 1 (ntU (drU u i_4) : Int)) (va_up r 1 (va_up (ntR ((drR (r 1) u w i_4)) (drU u i_4)) 4 (wn : Int)))) h) rfl rfl rfl hq_22 ?_
        have hD : zND (LM A (va_up m 1 (ntU (drU u i_4) : Int)) (va_up r 1 (va_up (ntR ((drR (r 1) u w i_4)) (drU u i_4)) 4 (wn : Int)))) := hD
        refine Zn.ifc (c := .ne) (off := 7) 119 (by decide +kernel) rfl ⟨by omega, by omega⟩ (fun c_23 => ?_) (fun c_23 => ?_)
        · have c_23 : (va_up (ntR ((drR (r 1) u w i_4)) (drU u i_4)) 4 (wn : Int)) ((wn / 65536 % 13 : Nat) + 18) ≠ 0 := c_23
          refine Zn.seg (pc2 := 122) (ls2 := [some (za (A 0)), some (zi (n : Int)), some (zi (i_4 : Int)), some (zi ((wn / 65536 : Nat) : Int)), some (zi (((wn / 65536 % 13 : Nat) : Int) - 6)), some (zi (((wn / 65536 / 16 % 199 : Nat) : Int) - 99))]) (st2 := [zi (((wn / 65536 % 13 : Nat) : Int) - 6), za (A 0), zi (((wn / 65536 / 16 % 199 : Nat) : Int) - 99), zi (((wn / 65536 % 13 : Nat) : Int) - 6), za (A 0)]) [(119, .aload_n 0), (120, .iload 4)] (by decide +kernel) rfl ?_
          refine Zn.call (ins := .invokevirtual 81) [za (A 0), zi (((wn / 65536 % 13 : Nat) : Int) - 6)] [zi (((wn / 65536 / 16 % 199 : Nat) : Int) - 99), zi (((wn / 65536 % 13 : Nat) : Int) - 6), za (A 0)] (by decide +kernel) rfl rfl rfl ⟨rfl, rfl⟩ ⟨rfl, rfl, rfl⟩ rfl (zrecvV hD (p := 0) rfl rfl rfl) (sp_X8_kind (A := A) (m := va_up m 1 (ntU (drU u i_4) : Int)) (r := va_up r 1 (va_up (ntR ((drR (r 1) u w i_4)) (drU u i_4)) 4 (wn : Int))) (x := ((wn / 65536 % 13 : Nat) : Int) - 6) (p := (wn / 65536 % 13 : Nat)) (zov_all hD) hD (by first | assumption | omega) (hp_)) (fun v h2 hp => ?_)
          obtain ⟨rfl, hq_24⟩ := hp
          refine Zn.eq (pc2 := 125) (ls2 := [some (za (A 0)), some (zi (n : Int)), some (zi (i_4 : Int)), some (zi ((wn / 65536 : Nat) : Int)), some (zi (((wn / 65536 % 13 : Nat) : Int) - 6)), some (zi (((wn / 65536 / 16 % 199 : Nat) : Int) - 99))]) (st2 := [zi ((va_up (ntR ((drR (r 1) u w i_4)) (drU u i_4)) 4 (wn : Int)) ((wn / 65536 % 13 : Nat) + 18)), zi (((wn / 65536 / 16 % 199 : Nat) : Int) - 99), zi (((wn / 65536 % 13 : Nat) : Int) - 6), za (A 0)]) (h2 := zov (LM A (va_up m 1 (ntU (drU u i_4) : Int)) (va_up r 1 (va_up (ntR ((drR (r 1) u w i_4)) (drU u i_4)) 4 (wn : Int)))) h) rfl rfl rfl hq_24 ?_
          have hD : zND (LM A (va_up m 1 (ntU (drU u i_4) : Int)) (va_up r 1 (va_up (ntR ((drR (r 1) u w i_4)) (drU u i_4)) 4 (wn : Int)))) := hD
          refine Zn.call (ins := .invokevirtual 108) [za (A 0), zi (((wn / 65536 % 13 : Nat) : Int) - 6), zi (((wn / 65536 / 16 % 199 : Nat) : Int) - 99), zi ((va_up (ntR ((drR (r 1) u w i_4)) (drU u i_4)) 4 (wn : Int)) ((wn / 65536 % 13 : Nat) + 18))] [] (by decide +kernel) rfl rfl rfl ⟨rfl, rfl⟩ ⟨rfl, rfl, rfl⟩ rfl (zrecvV hD (p := 0) rfl rfl rfl) (sp_X8_sets (A := A) (m := va_up m 1 (ntU (drU u i_4) : Int)) (r := va_up r 1 (va_up (ntR ((drR (r 1) u w i_4)) (drU u i_4)) 4 (wn : Int))) (x := ((wn / 65536 % 13 : Nat) : Int) - 6) (y := ((wn / 65536 / 16 % 199 : Nat) : Int) - 99) (k := (va_up (ntR ((drR (r 1) u w i_4)) (drU u i_4)) 4 (wn : Int)) ((wn / 65536 % 13 : Nat) + 18)) (p := (wn / 65536 % 13 : Nat)) (zov_all hD) hD (by first | assumption | omega) (by first | assumption | omega)) (fun v h2 hp => ?_)
          obtain ⟨rfl, hq_25⟩ := hp
          refine Zn.eq (pc2 := 128) (ls2 := [some (za (A 0)), some (zi (n : Int)), some (zi (i_4 : Int)), some (zi ((wn / 65536 : Nat) : Int)), some (zi (((wn / 65536 % 13 : Nat) : Int) - 6)), some (zi (((wn / 65536 / 16 % 199 : Nat) : Int) - 99))]) (st2 := []) (h2 := zov (LM A (va_up m 1 (ntU (drU u i_4) : Int)) (va_up r 1 (va_up (va_up ((va_up (ntR ((drR (r 1) u w i_4)) (drU u i_4)) 4 (wn : Int))) ((wn / 65536 % 13 : Nat) + 5) (((wn / 65536 / 16 % 199 : Nat) : Int) - 99)) ((wn / 65536 % 13 : Nat) + 18) ((va_up (ntR ((drR (r 1) u w i_4)) (drU u i_4)) 4 (wn : Int)) ((wn / 65536 % 13 : Nat) + 18))))) h) rfl rfl rfl (hq_25.trans ((LM_over _ _ _ _ _ _).trans rfl)) ?_
          have hD : zND (LM A (va_up m 1 (ntU (drU u i_4) : Int)) (va_up r 1 (va_up (va_up ((va_up (ntR ((drR (r 1) u w i_4)) (drU u i_4)) 4 (wn : Int))) ((wn / 65536 % 13 : Nat) + 5) (((wn / 65536 / 16 % 199 : Nat) : Int) - 99)) ((wn / 65536 % 13 : Nat) + 18) ((va_up (ntR ((drR (r 1) u w i_4)) (drU u i_4)) 4 (wn : Int)) ((wn / 65536 % 13 : Nat) + 18))))) := hD
          refine Zn.seg (pc2 := 16) (ls2 := [some (za (A 0)), some (zi (n : Int)), some (zi ((i_4 : Int) + 1)), some (zi ((wn / 65536 : Nat) : Int)), some (zi (((wn / 65536 % 13 : Nat) : Int) - 6)), some (zi (((wn / 65536 / 16 % 199 : Nat) : Int) - 99))]) (st2 := []) [(128, .iinc 2 1), (131, .goto (-115))] (by decide +kernel) rfl ?_
          exact Zn.eq rfl (zcons rfl (zcons rfl (zcons (congrArg (fun z => some (zi z)) (by omega)) rfl))) rfl (by first | (exfalso; omega) | (rw [drU, drR]; first | rw [dr1_t hwn (by omega) (by omega)] | rw [dr1_t2 hwn (by omega) (by omega)] | rw [dr1_f hwn (by omega) (by omega)])) (ih_9 (some (zi ((wn / 65536 : Nat) : Int))) (some (zi (((wn / 65536 % 13 : Nat) : Int) - 6))) (some (zi (((wn / 65536 / 16 % 199 : Nat) : Int) - 99))))
        · have c_23 : ¬ ((va_up (ntR ((drR (r 1) u w i_4)) (drU u i_4)) 4 (wn : Int)) ((wn / 65536 % 13 : Nat) + 18) ≠ 0) := c_23
          refine Zn.seg (pc2 := 125) (ls2 := [some (za (A 0)), some (zi (n : Int)), some (zi (i_4 : Int)), some (zi ((wn / 65536 : Nat) : Int)), some (zi (((wn / 65536 % 13 : Nat) : Int) - 6)), some (zi (((wn / 65536 / 16 % 199 : Nat) : Int) - 99))]) (st2 := [zi 1, zi (((wn / 65536 / 16 % 199 : Nat) : Int) - 99), zi (((wn / 65536 % 13 : Nat) : Int) - 6), za (A 0)]) [(115, .iconst 1), (116, .goto 9)] (by decide +kernel) rfl ?_
          refine Zn.call (ins := .invokevirtual 108) [za (A 0), zi (((wn / 65536 % 13 : Nat) : Int) - 6), zi (((wn / 65536 / 16 % 199 : Nat) : Int) - 99), zi 1] [] (by decide +kernel) rfl rfl rfl ⟨rfl, rfl⟩ ⟨rfl, rfl, rfl⟩ rfl (zrecvV hD (p := 0) rfl rfl rfl) (sp_X8_sets (A := A) (m := va_up m 1 (ntU (drU u i_4) : Int)) (r := va_up r 1 (va_up (ntR ((drR (r 1) u w i_4)) (drU u i_4)) 4 (wn : Int))) (x := ((wn / 65536 % 13 : Nat) : Int) - 6) (y := ((wn / 65536 / 16 % 199 : Nat) : Int) - 99) (k := 1) (p := (wn / 65536 % 13 : Nat)) (zov_all hD) hD (by first | assumption | omega) (by first | assumption | omega)) (fun v h2 hp => ?_)
          obtain ⟨rfl, hq_26⟩ := hp
          refine Zn.eq (pc2 := 128) (ls2 := [some (za (A 0)), some (zi (n : Int)), some (zi (i_4 : Int)), some (zi ((wn / 65536 : Nat) : Int)), some (zi (((wn / 65536 % 13 : Nat) : Int) - 6)), some (zi (((wn / 65536 / 16 % 199 : Nat) : Int) - 99))]) (st2 := []) (h2 := zov (LM A (va_up m 1 (ntU (drU u i_4) : Int)) (va_up r 1 (va_up (va_up ((va_up (ntR ((drR (r 1) u w i_4)) (drU u i_4)) 4 (wn : Int))) ((wn / 65536 % 13 : Nat) + 5) (((wn / 65536 / 16 % 199 : Nat) : Int) - 99)) ((wn / 65536 % 13 : Nat) + 18) 1))) h) rfl rfl rfl (hq_26.trans ((LM_over _ _ _ _ _ _).trans rfl)) ?_
          have hD : zND (LM A (va_up m 1 (ntU (drU u i_4) : Int)) (va_up r 1 (va_up (va_up ((va_up (ntR ((drR (r 1) u w i_4)) (drU u i_4)) 4 (wn : Int))) ((wn / 65536 % 13 : Nat) + 5) (((wn / 65536 / 16 % 199 : Nat) : Int) - 99)) ((wn / 65536 % 13 : Nat) + 18) 1))) := hD
          refine Zn.seg (pc2 := 16) (ls2 := [some (za (A 0)), some (zi (n : Int)), some (zi ((i_4 : Int) + 1)), some (zi ((wn / 65536 : Nat) : Int)), some (zi (((wn / 65536 % 13 : Nat) : Int) - 6)), some (zi (((wn / 65536 / 16 % 199 : Nat) : Int) - 99))]) (st2 := []) [(128, .iinc 2 1), (131, .goto (-115))] (by decide +kernel) rfl ?_
          exact Zn.eq rfl (zcons rfl (zcons rfl (zcons (congrArg (fun z => some (zi z)) (by omega)) rfl))) rfl (by first | (exfalso; omega) | (rw [drU, drR]; first | rw [dr1_t hwn (by omega) (by omega)] | rw [dr1_t2 hwn (by omega) (by omega)] | rw [dr1_f hwn (by omega) (by omega)])) (ih_9 (some (zi ((wn / 65536 : Nat) : Int))) (some (zi (((wn / 65536 % 13 : Nat) : Int) - 6))) (some (zi (((wn / 65536 / 16 % 199 : Nat) : Int) - 99))))
  · skip
    refine Zn.seg (pc2 := 18) (ls2 := [some (za (A 0)), some (zi (n : Int)), some (zi (n : Int)), j_5, j_6, j_7]) (st2 := [zi (n : Int), zi (n : Int)]) [(16, .iload_n 2), (17, .iload_n 1)] (by decide +kernel) rfl ?_
    refine Zn.icmp (c := .ge) (off := 116) 134 (by decide +kernel) rfl ⟨by omega, by omega⟩ ⟨by omega, by omega⟩ (fun c_27 => ?_) (fun c_27 => absurd (show (n : Int) ≤ (n : Int) from by omega) c_27)
    have c_27 : (n : Int) ≤ (n : Int) := c_27
    refine Zn.seg (pc2 := 136) (ls2 := [some (za (A 0)), some (zi (n : Int)), some (zi (n : Int)), j_5, j_6, j_7]) (st2 := [zi 0, za (A 0)]) [(134, .aload_n 0), (135, .iconst 0)] (by decide +kernel) rfl ?_
    refine Zn.call (ins := .invokevirtual 88) [za (A 0), zi 0] [] (by decide +kernel) rfl rfl rfl ⟨rfl, rfl⟩ ⟨rfl, rfl, rfl⟩ rfl (zrecvV hD (p := 0) rfl rfl rfl) (sp_X8_many (A := A) (m := va_up m 1 (drU u n : Int)) (r := va_up r 1 (drR (r 1) u w n)) (k := 0) (zov_all hD) hD (drR_ok (u := u) hk hw n) (⟨by decide, by decide⟩)) (fun v h2 hp => ?_)
    obtain ⟨rfl, hq_28⟩ := hp
    refine Zn.eq (pc2 := 139) (ls2 := [some (za (A 0)), some (zi (n : Int)), some (zi (n : Int)), j_5, j_6, j_7]) (st2 := [zi (manyN ((drR (r 1) u w n)) 0 13 : Int)]) (h2 := zov (LM A (va_up m 1 (drU u n : Int)) (va_up r 1 (drR (r 1) u w n))) h) rfl rfl rfl hq_28 ?_
    have hD : zND (LM A (va_up m 1 (drU u n : Int)) (va_up r 1 (drR (r 1) u w n))) := hD
    have q_29 := manyN_le ((drR (r 1) u w n)) 0 13
    exact Zn.iret (by decide +kernel) rfl (⟨by first | rfl | (refine congrArg some (congrArg zi ?_); first | omega | (simp_all; done) | (simp_all; omega)), rfl⟩)
