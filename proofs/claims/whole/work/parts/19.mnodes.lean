/-! the reference's numbers: nodes, differences, the level error -/
/-- a row of the reference, as calls leave it -/
def ROK (R : Nat → Int) : Prop := kOK R ∧ (0 ≤ R 0 ∧ R 0 ≤ 3) ∧ qOK (fun j => R (j + 1)) ∧ (∀ p, p < 13 → -99 ≤ R (p + 5) ∧ R (p + 5) ≤ 99) ∧ manyN R 0 13 ≤ 8 ∧ (manyN R 2 13 : Int) ≤ R 0 ∧ (0 ≤ R 4 ∧ R 4 < 2147483648)
theorem va_self {α : Type} (f : Nat → α) (k : Nat) : va_up f k (f k) = f := va_eta f k rfl
/-- a list laid over a row -/
def arL (l : List Int) (f : Nat → Int) : Nat → Int := fun j => l.getD j (f j)
theorem arL_nil (f : Nat → Int) : arL [] f = f := rfl
theorem arL_snoc {l : List Int} {f : Nat → Int} {v : Int} : va_up (arL l f) l.length v = arL (l ++ [v]) f := by
  funext j
  simp only [va_up, arL, List.getD_eq_getElem?_getD]
  by_cases e : j = l.length
  · subst e
    rw [if_pos rfl, List.getElem?_append_right (Nat.le_refl _), Nat.sub_self]
    rfl
  · rw [if_neg e]
    by_cases h2 : j < l.length
    · rw [List.getElem?_append_left h2]
    · rw [List.getElem?_append_right (by omega), List.getElem?_eq_none (by omega), List.getElem?_eq_none (by simp only [List.length_cons, List.length_nil]; omega)]
theorem arL_lt {l : List Int} {f : Nat → Int} {j : Nat} (h : j < l.length) : arL l f j = l.getD j 0 := by
  simp only [arL, List.getD_eq_getElem?_getD, List.getElem?_eq_getElem h, Option.getD_some]
/-- the places that a test takes, below k -/
def plB (b : Nat → Bool) (k : Nat) : List Nat := (List.range k).filter b
theorem plB_0 (b : Nat → Bool) : plB b 0 = [] := rfl
theorem plB_t {b : Nat → Bool} {k : Nat} (h : b k = true) : plB b (k + 1) = plB b k ++ [k] := by
  simp [plB, List.range_succ, List.filter_append, List.filter_cons, h]
theorem plB_f {b : Nat → Bool} {k : Nat} (h : b k = false) : plB b (k + 1) = plB b k := by
  simp [plB, List.range_succ, List.filter_append, List.filter_cons, h]
theorem pln_t {b : Nat → Bool} {k : Nat} (h : b k = true) : ((plB b (k + 1)).length : Int) = (plB b k).length + 1 := by
  rw [plB_t h]
  simp
theorem pln_mono (b : Nat → Bool) {a : Nat} : ∀ {c : Nat}, a ≤ c → (plB b a).length ≤ (plB b c).length
  | 0, h => by rw [Nat.le_zero.mp h]; exact Nat.le_refl _
  | c + 1, h => by
    by_cases e : a = c + 1
    · rw [e]; exact Nat.le_refl _
    · have := pln_mono b (a := a) (c := c) (by omega)
      cases hb : b c with
      | true => have := pln_t hb; omega
      | false => rw [plB_f hb]; exact this
theorem pln_lt {b : Nat → Bool} {k : Nat} (h : k < 13) (hb : b k = true) : (plB b k).length < (plB b 13).length := by
  have h1 := pln_t hb
  have h2 := pln_mono b (show k + 1 ≤ 13 by omega)
  omega
theorem plB_mem {b : Nat → Bool} {k p : Nat} : p ∈ plB b k ↔ p < k ∧ b p = true := by simp [plB]
theorem arL_t {b : Nat → Bool} {k : Nat} {F : Nat → Int} {f : Nat → Int} (h : b k = true) : arL ((plB b (k + 1)).map F) f = va_up (arL ((plB b k).map F) f) (plB b k).length (F k) := by
  rw [plB_t h, List.map_append, ← List.length_map (f := F) (as := plB b k), arL_snoc]
  rfl
/-- nodes: the points of a set that are free, and all fixed ones -/
def selB (R : Nat → Int) (s : Nat) : Nat → Bool := fun p => decide (R (p + 18) = 2 ∨ R (p + 18) = 1 ∧ bt s p = 1)
theorem selB_t {R : Nat → Int} {s p : Nat} (h : R (p + 18) = 2 ∨ R (p + 18) = 1 ∧ bt s p = 1) : selB R s p = true := decide_eq_true h
theorem selB_f {R : Nat → Int} {s p : Nat} (h : ¬ (R (p + 18) = 2 ∨ R (p + 18) = 1 ∧ bt s p = 1)) : selB R s p = false := decide_eq_false h
def nX (p : Nat) : Int := (p : Int) - 6
def nY (R : Nat → Int) (p : Nat) : Int := R (p + 5) * qv (fun j => R (j + 1)) ((p : Int) - 6)
def nF (R : Nat → Int) (p : Nat) : Int := if R (p + 18) = 1 then 1 else 0
theorem nF_1 {R : Nat → Int} {p : Nat} (h : R (p + 18) = 1) : nF R p = 1 := if_pos h
theorem nF_0 {R : Nat → Int} {p : Nat} (h : ¬ R (p + 18) = 1) : nF R p = 0 := if_neg h
/-- differences of all but one, multiplied -/
def dfB (f : Nat → Int) (c a : Nat) : Nat → Int
  | 0 => 1
  | k + 1 => dfB f c a k * (if a = c ∨ a + k + 1 = c then 1 else f (a + k + 1) - f a)
def dfA (f : Nat → Int) (c n : Nat) : Nat → Int
  | 0 => 1
  | a + 1 => dfA f c n a * dfB f c a (n - (a + 1))
def bdN (f g : Nat → Int) (n : Nat) : Nat → Int
  | 0 => 0
  | i + 1 => bdN f g n i + (if (n - 1 - i) % 2 = 0 then dfA f i n n * g i else -(dfA f i n n * g i))
theorem gcd_st {a b : Int} (ha : 0 ≤ a) (hb : 0 < b) : 0 ≤ a.tmod b ∧ a.tmod b < b ∧ Int.gcd b (a.tmod b) = Int.gcd a b := by
  refine ⟨Int.tmod_nonneg b ha, Int.tmod_lt_of_pos a hb, ?_⟩
  obtain ⟨n, rfl⟩ := Int.eq_ofNat_of_zero_le ha
  obtain ⟨k, rfl⟩ := Int.eq_ofNat_of_zero_le (Int.le_of_lt hb)
  rw [← Int.ofNat_tmod]
  show Nat.gcd k (n % k) = Nat.gcd n k
  rw [Nat.gcd_comm, ← Nat.gcd_rec, Nat.gcd_comm]
theorem ball_s {P : Nat → Prop} {n : Nat} (h : ∀ p, p < n → P p) (hn : P n) : ∀ p, p < n + 1 → P p := fun p hp => by
  by_cases e : p = n
  · rw [e]; exact hn
  · exact h p (by omega)
/-- whether a set is a reference -/
def refP (R : Nat → Int) (s : Nat) : Prop := (∀ p, p < 13 → bt s p = 1 → R (p + 18) = 1) ∧ (pop s : Int) = R 0 + 2 - (manyN R 2 13 : Int)
noncomputable def refV (R : Nat → Int) (s : Nat) : Int := @ite Int (refP R s) (Classical.propDecidable _) 1 0
theorem refV_y {R : Nat → Int} {s : Nat} (h : refP R s) : refV R s = 1 := @if_pos _ (Classical.propDecidable _) h _ _ _
theorem refV_n {R : Nat → Int} {s : Nat} (h : ¬ refP R s) : refV R s = 0 := @if_neg _ (Classical.propDecidable _) h _ _ _
/-- how many fixed points lie above a place, up to k further on -/
def fxA (R : Nat → Int) (p : Nat) : Nat → Nat
  | 0 => 0
  | k + 1 => fxA R p k + (if R (p + k + 1 + 18) = 2 then 1 else 0)
theorem fxA_le (R : Nat → Int) (p : Nat) : ∀ k, fxA R p k ≤ k
  | 0 => Nat.le_refl 0
  | k + 1 => by
    have := fxA_le R p k
    rw [fxA]
    split <;> omega
theorem sp_X8_differences {h : xH} {A : Nat → Nat} {m : Nat → Int} {r : Nat → Nat → Int} {c n : Nat} (hL : ∀ q ∈ LM A m r, h q.1 = zcE q.2) (hD : zND (LM A m r)) (hn : n ≤ 8) (hc : c < 100) (hf : ∀ j, j < n → -6 ≤ r 11 j ∧ r 11 j ≤ 6) : zEv k_X8_differences [za (A 0), zi (c : Int), zi (n : Int)] h (fun v h2 => v = some (zj (dfA (r 11) c n n)) ∧ h2 = h) := by
  have hh : h = zov (LM A m r) h := zov_self hL
  refine zEv.body (I := (8, xI_X8_differences, 7, 0, 0, 0, 0, false)) (rt := (some .long)) [some (za (A 0)), some (zi (c : Int)), some (zi (n : Int)), none, none, none, none] rfl rfl rfl rfl ?_
  refine Zn.eq rfl rfl rfl hh ?_
  have hD : zND (LM A m r) := hD
  refine Zn.seg (pc2 := 5) (ls2 := [some (za (A 0)), some (zi (c : Int)), some (zi (n : Int)), some (zj 1), none, some (zi 0), none]) (st2 := []) [(0, .lconst 1), (1, .lstore_n 3), (2, .iconst 0), (3, .istore 5)] (by decide +kernel) rfl ?_
  refine Zn.eq (pc2 := 5) (ls2 := [some (za (A 0)), some (zi (c : Int)), some (zi (n : Int)), some (zj (dfA (r 11) c n 0)), none, some (zi (0 : Int)), none]) (st2 := []) (h2 := zov (LM A m r) h) rfl (zcons rfl (zcons rfl (zcons rfl (zcons (congrArg (fun z => some (zj z)) (by first | rfl | omega | simp)) (zcons rfl (zcons (congrArg (fun z => some (zi z)) (by first | rfl | omega | simp)) rfl)))))) rfl (rfl) ?_
  have hD : zND (LM A m r) := hD
  refine xloop (P := fun i_1 => ∀ j_3 : Option zV, Zn (8, xI_X8_differences, 7, 0, 0, 0, 0, false) (some .long) 5 [some (za (A 0)), some (zi (c : Int)), some (zi (n : Int)), some (zj (dfA (r 11) c n i_1)), none, some (zi (i_1 : Int)), j_3] [] (zov (LM A m r) h) _) (n) (fun i_1 hi_4 ih_5 j_3 => ?_) (fun j_3 => ?_) none
  · have hi_ : i_1 < n := hi_4
    have hfa := hf i_1 (by omega)
    refine Zn.seg (pc2 := 8) (ls2 := [some (za (A 0)), some (zi (c : Int)), some (zi (n : Int)), some (zj (dfA (r 11) c n i_1)), none, some (zi (i_1 : Int)), j_3]) (st2 := [zi (n : Int), zi (i_1 : Int)]) [(5, .iload 5), (7, .iload_n 2)] (by decide +kernel) rfl ?_
    refine Zn.icmp (c := .ge) (off := 62) 70 (by decide +kernel) rfl ⟨by omega, by omega⟩ ⟨by omega, by omega⟩ (fun c_6 => absurd (show (n : Int) ≤ (i_1 : Int) from c_6) (by omega)) (fun c_6 => ?_)
    have c_6 : ¬ ((n : Int) ≤ (i_1 : Int)) := c_6
    refine Zn.seg (pc2 := 17) (ls2 := [some (za (A 0)), some (zi (c : Int)), some (zi (n : Int)), some (zj (dfA (r 11) c n i_1)), none, some (zi (i_1 : Int)), some (zi ((i_1 : Int) + 1))]) (st2 := []) [(11, .iload 5), (13, .iconst 1), (14, .iadd), (15, .istore 6)] (by decide +kernel) rfl ?_
    refine Zn.eq (pc2 := 17) (ls2 := [some (za (A 0)), some (zi (c : Int)), some (zi (n : Int)), some (zj (dfA (r 11) c n i_1 * dfB (r 11) c i_1 0)), none, some (zi (i_1 : Int)), some (zi ((i_1 : Int) + 1 + (0 : Int)))]) (st2 := []) (h2 := zov (LM A m r) h) rfl (zcons rfl (zcons rfl (zcons rfl (zcons (congrArg (fun z => some (zj z)) (by rw [dfB, Int.mul_one])) (zcons rfl (zcons rfl (zcons (congrArg (fun z => some (zi z)) (by first | rfl | omega | simp)) rfl))))))) rfl (rfl) ?_
    have hD : zND (LM A m r) := hD
    refine xloop (P := fun i_7 => Zn (8, xI_X8_differences, 7, 0, 0, 0, 0, false) (some .long) 17 [some (za (A 0)), some (zi (c : Int)), some (zi (n : Int)), some (zj (dfA (r 11) c n i_1 * dfB (r 11) c i_1 i_7)), none, some (zi (i_1 : Int)), some (zi ((i_1 : Int) + 1 + (i_7 : Int)))] [] (zov (LM A m r) h) _) ((n - (i_1 + 1))) (fun i_7 hi_9 ih_10 => ?_) ?_
    · have hi_ : i_7 < (n - (i_1 + 1)) := hi_9
      have hfb := hf (i_1 + i_7 + 1) (by omega)
      refine Zn.seg (pc2 := 20) (ls2 := [some (za (A 0)), some (zi (c : Int)), some (zi (n : Int)), some (zj (dfA (r 11) c n i_1 * dfB (r 11) c i_1 i_7)), none, some (zi (i_1 : Int)), some (zi ((i_1 : Int) + 1 + (i_7 : Int)))]) (st2 := [zi (n : Int), zi ((i_1 : Int) + 1 + (i_7 : Int))]) [(17, .iload 6), (19, .iload_n 2)] (by decide +kernel) rfl ?_
      refine Zn.icmp (c := .ge) (off := 44) 64 (by decide +kernel) rfl ⟨by omega, by omega⟩ ⟨by omega, by omega⟩ (fun c_11 => absurd (show (n : Int) ≤ (i_1 : Int) + 1 + (i_7 : Int) from c_11) (by omega)) (fun c_11 => ?_)
      have c_11 : ¬ ((n : Int) ≤ (i_1 : Int) + 1 + (i_7 : Int)) := c_11
      refine Zn.seg (pc2 := 27) (ls2 := [some (za (A 0)), some (zi (c : Int)), some (zi (n : Int)), some (zj (dfA (r 11) c n i_1 * dfB (r 11) c i_1 i_7)), none, some (zi (i_1 : Int)), some (zi ((i_1 : Int) + 1 + (i_7 : Int)))]) (st2 := [zi (c : Int), zi (i_1 : Int), zj (dfA (r 11) c n i_1 * dfB (r 11) c i_1 i_7)]) [(23, .lload_n 3), (24, .iload 5), (26, .iload_n 1)] (by decide +kernel) rfl ?_
      refine Zn.icmp (c := .eq) (off := 9) 36 (by decide +kernel) rfl ⟨by omega, by omega⟩ ⟨by omega, by omega⟩ (fun c_12 => ?_) (fun c_12 => ?_)
      · have c_12 : (i_1 : Int) = (c : Int) := c_12
        refine Zn.seg (pc2 := 17) (ls2 := [some (za (A 0)), some (zi (c : Int)), some (zi (n : Int)), some (zj ((dfA (r 11) c n i_1 * dfB (r 11) c i_1 i_7) * 1)), none, some (zi (i_1 : Int)), some (zi ((i_1 : Int) + 1 + (i_7 : Int) + 1))]) (st2 := []) [(36, .lconst 1), (37, .goto 19), (56, .lmul), (57, .lstore_n 3), (58, .iinc 6 1), (61, .goto (-44))] (by decide +kernel) rfl ?_
        exact Zn.eq rfl (zcons rfl (zcons rfl (zcons rfl (zcons (congrArg (fun z => some (zj z)) (by rw [dfB]; first | rw [if_pos (by omega), Int.mul_assoc] | rw [if_neg (by omega), Int.mul_assoc])) (zcons rfl (zcons rfl (zcons (congrArg (fun z => some (zi z)) (by omega)) rfl))))))) rfl (rfl) (ih_10)
      · have c_12 : ¬ ((i_1 : Int) = (c : Int)) := c_12
        refine Zn.seg (pc2 := 33) (ls2 := [some (za (A 0)), some (zi (c : Int)), some (zi (n : Int)), some (zj (dfA (r 11) c n i_1 * dfB (r 11) c i_1 i_7)), none, some (zi (i_1 : Int)), some (zi ((i_1 : Int) + 1 + (i_7 : Int)))]) (st2 := [zi (c : Int), zi ((i_1 : Int) + 1 + (i_7 : Int)), zj (dfA (r 11) c n i_1 * dfB (r 11) c i_1 i_7)]) [(30, .iload 6), (32, .iload_n 1)] (by decide +kernel) rfl ?_
        refine Zn.icmp (c := .ne) (off := 7) 40 (by decide +kernel) rfl ⟨by omega, by omega⟩ ⟨by omega, by omega⟩ (fun c_13 => ?_) (fun c_13 => ?_)
        · have c_13 : (i_1 : Int) + 1 + (i_7 : Int) ≠ (c : Int) := c_13
          refine Zn.seg (pc2 := 41) (ls2 := [some (za (A 0)), some (zi (c : Int)), some (zi (n : Int)), some (zj (dfA (r 11) c n i_1 * dfB (r 11) c i_1 i_7)), none, some (zi (i_1 : Int)), some (zi ((i_1 : Int) + 1 + (i_7 : Int)))]) (st2 := [za (A 0), zj (dfA (r 11) c n i_1 * dfB (r 11) c i_1 i_7)]) [(40, .aload_n 0)] (by decide +kernel) rfl ?_
          refine Zn.get (ix := 45) hD 0 (by decide +kernel) rfl rfl rfl ?_
          refine Zn.seg (pc2 := 46) (ls2 := [some (za (A 0)), some (zi (c : Int)), some (zi (n : Int)), some (zj (dfA (r 11) c n i_1 * dfB (r 11) c i_1 i_7)), none, some (zi (i_1 : Int)), some (zi ((i_1 : Int) + 1 + (i_7 : Int)))]) (st2 := [zi ((i_1 : Int) + 1 + (i_7 : Int)), za (A 11), zj (dfA (r 11) c n i_1 * dfB (r 11) c i_1 i_7)]) [(44, .iload 6)] (by decide +kernel) rfl ?_
          refine Zn.iald hD 11 (i_1 + i_7 + 1) (by decide +kernel) rfl (by omega) (by omega) rfl ?_
          refine Zn.seg (pc2 := 48) (ls2 := [some (za (A 0)), some (zi (c : Int)), some (zi (n : Int)), some (zj (dfA (r 11) c n i_1 * dfB (r 11) c i_1 i_7)), none, some (zi (i_1 : Int)), some (zi ((i_1 : Int) + 1 + (i_7 : Int)))]) (st2 := [za (A 0), zi ((r 11) (i_1 + i_7 + 1)), zj (dfA (r 11) c n i_1 * dfB (r 11) c i_1 i_7)]) [(47, .aload_n 0)] (by decide +kernel) rfl ?_
          refine Zn.get (ix := 45) hD 0 (by decide +kernel) rfl rfl rfl ?_
          refine Zn.seg (pc2 := 53) (ls2 := [some (za (A 0)), some (zi (c : Int)), some (zi (n : Int)), some (zj (dfA (r 11) c n i_1 * dfB (r 11) c i_1 i_7)), none, some (zi (i_1 : Int)), some (zi ((i_1 : Int) + 1 + (i_7 : Int)))]) (st2 := [zi (i_1 : Int), za (A 11), zi ((r 11) (i_1 + i_7 + 1)), zj (dfA (r 11) c n i_1 * dfB (r 11) c i_1 i_7)]) [(51, .iload 5)] (by decide +kernel) rfl ?_
          refine Zn.iald hD 11 (i_1) (by decide +kernel) rfl (by omega) (by omega) rfl ?_
          refine Zn.seg (pc2 := 55) (ls2 := [some (za (A 0)), some (zi (c : Int)), some (zi (n : Int)), some (zj (dfA (r 11) c n i_1 * dfB (r 11) c i_1 i_7)), none, some (zi (i_1 : Int)), some (zi ((i_1 : Int) + 1 + (i_7 : Int)))]) (st2 := [zi ((r 11) (i_1 + i_7 + 1) - ((r 11) i_1)), zj (dfA (r 11) c n i_1 * dfB (r 11) c i_1 i_7)]) [(54, .isub)] (by decide +kernel) rfl ?_
          refine Zn.i2l (by decide +kernel) ⟨by omega, by omega⟩ ?_
          refine Zn.seg (pc2 := 17) (ls2 := [some (za (A 0)), some (zi (c : Int)), some (zi (n : Int)), some (zj ((dfA (r 11) c n i_1 * dfB (r 11) c i_1 i_7) * ((r 11) (i_1 + i_7 + 1) - ((r 11) i_1)))), none, some (zi (i_1 : Int)), some (zi ((i_1 : Int) + 1 + (i_7 : Int) + 1))]) (st2 := []) [(56, .lmul), (57, .lstore_n 3), (58, .iinc 6 1), (61, .goto (-44))] (by decide +kernel) rfl ?_
          exact Zn.eq rfl (zcons rfl (zcons rfl (zcons rfl (zcons (congrArg (fun z => some (zj z)) (by rw [dfB]; first | rw [if_pos (by omega), Int.mul_assoc] | rw [if_neg (by omega), Int.mul_assoc])) (zcons rfl (zcons rfl (zcons (congrArg (fun z => some (zi z)) (by omega)) rfl))))))) rfl (rfl) (ih_10)
        · have c_13 : ¬ ((i_1 : Int) + 1 + (i_7 : Int) ≠ (c : Int)) := c_13
          refine Zn.seg (pc2 := 17) (ls2 := [some (za (A 0)), some (zi (c : Int)), some (zi (n : Int)), some (zj ((dfA (r 11) c n i_1 * dfB (r 11) c i_1 i_7) * 1)), none, some (zi (i_1 : Int)), some (zi ((i_1 : Int) + 1 + (i_7 : Int) + 1))]) (st2 := []) [(36, .lconst 1), (37, .goto 19), (56, .lmul), (57, .lstore_n 3), (58, .iinc 6 1), (61, .goto (-44))] (by decide +kernel) rfl ?_
          exact Zn.eq rfl (zcons rfl (zcons rfl (zcons rfl (zcons (congrArg (fun z => some (zj z)) (by rw [dfB]; first | rw [if_pos (by omega), Int.mul_assoc] | rw [if_neg (by omega), Int.mul_assoc])) (zcons rfl (zcons rfl (zcons (congrArg (fun z => some (zi z)) (by omega)) rfl))))))) rfl (rfl) (ih_10)
    · skip
      refine Zn.seg (pc2 := 20) (ls2 := [some (za (A 0)), some (zi (c : Int)), some (zi (n : Int)), some (zj (dfA (r 11) c n i_1 * dfB (r 11) c i_1 (n - (i_1 + 1)))), none, some (zi (i_1 : Int)), some (zi ((i_1 : Int) + 1 + ((n - (i_1 + 1) : Nat) : Int)))]) (st2 := [zi (n : Int), zi ((i_1 : Int) + 1 + ((n - (i_1 + 1) : Nat) : Int))]) [(17, .iload 6), (19, .iload_n 2)] (by decide +kernel) rfl ?_
      refine Zn.icmp (c := .ge) (off := 44) 64 (by decide +kernel) rfl ⟨by omega, by omega⟩ ⟨by omega, by omega⟩ (fun c_14 => ?_) (fun c_14 => absurd (show (n : Int) ≤ (i_1 : Int) + 1 + ((n - (i_1 + 1) : Nat) : Int) from by omega) c_14)
      have c_14 : (n : Int) ≤ (i_1 : Int) + 1 + ((n - (i_1 + 1) : Nat) : Int) := c_14
      refine Zn.seg (pc2 := 5) (ls2 := [some (za (A 0)), some (zi (c : Int)), some (zi (n : Int)), some (zj (dfA (r 11) c n i_1 * dfB (r 11) c i_1 (n - (i_1 + 1)))), none, some (zi ((i_1 : Int) + 1)), some (zi ((i_1 : Int) + 1 + ((n - (i_1 + 1) : Nat) : Int)))]) (st2 := []) [(64, .iinc 5 1), (67, .goto (-62))] (by decide +kernel) rfl ?_
      exact Zn.eq rfl (zcons rfl (zcons rfl (zcons rfl (zcons rfl (zcons rfl (zcons (congrArg (fun z => some (zi z)) (by omega)) rfl)))))) rfl (rfl) (ih_5 (some (zi ((i_1 : Int) + 1 + ((n - (i_1 + 1) : Nat) : Int)))))
  · skip
    refine Zn.seg (pc2 := 8) (ls2 := [some (za (A 0)), some (zi (c : Int)), some (zi (n : Int)), some (zj (dfA (r 11) c n n)), none, some (zi (n : Int)), j_3]) (st2 := [zi (n : Int), zi (n : Int)]) [(5, .iload 5), (7, .iload_n 2)] (by decide +kernel) rfl ?_
    refine Zn.icmp (c := .ge) (off := 62) 70 (by decide +kernel) rfl ⟨by omega, by omega⟩ ⟨by omega, by omega⟩ (fun c_15 => ?_) (fun c_15 => absurd (show (n : Int) ≤ (n : Int) from by omega) c_15)
    have c_15 : (n : Int) ≤ (n : Int) := c_15
    refine Zn.seg (pc2 := 71) (ls2 := [some (za (A 0)), some (zi (c : Int)), some (zi (n : Int)), some (zj (dfA (r 11) c n n)), none, some (zi (n : Int)), j_3]) (st2 := [zj (dfA (r 11) c n n)]) [(70, .lload_n 3)] (by decide +kernel) rfl ?_
    exact Zn.lret (by decide +kernel) rfl (⟨by first | rfl | (refine congrArg some (congrArg zj ?_); first | omega | (simp_all; done) | (simp_all; omega)), hh.symm⟩)
theorem sp_X8_plain {h : xH} {x : Int} (h1 : -9223372036854775807 ≤ x) (h2 : x ≤ 9223372036854775807) : zEv k_X8_plain [zj x] h (fun v h2 => v = some (zj (x.natAbs : Int)) ∧ h2 = h) := by
  have hD : ([] : List Nat).Nodup := List.nodup_nil
  have hh : h = zov [] h := zov_self (fun _ q => absurd q List.not_mem_nil)
  refine zEv.body (I := (8, xI_X8_plain, 2, 0, 0, 0, 0, false)) (rt := (some .long)) [some (zj x), none] rfl rfl rfl rfl ?_
  refine Zn.eq rfl rfl rfl hh ?_
  have hD : zND ([]) := hD
  refine Zn.seg (pc2 := 2) (ls2 := [some (zj x), none]) (st2 := [zj 0, zj x]) [(0, .lload_n 0), (1, .lconst 0)] (by decide +kernel) rfl ?_
  refine Zn.lcmpif (c := .ge) (off := (8)) 11 (by decide +kernel) (by decide +kernel) rfl ⟨by omega, by omega⟩ ⟨by decide, by decide⟩ (fun c_1 => ?_) (fun c_1 => ?_)
  · have c_1 : 0 ≤ x := c_1
    refine Zn.seg (pc2 := 12) (ls2 := [some (zj x), none]) (st2 := [zj x]) [(11, .lload_n 0)] (by decide +kernel) rfl ?_
    exact Zn.lret (by decide +kernel) rfl (⟨by first | rfl | (refine congrArg some (congrArg zj ?_); first | omega | (simp_all; done) | (simp_all; omega)), hh.symm⟩)
  · have c_1 : ¬ (0 ≤ x) := c_1
    refine Zn.seg (pc2 := 12) (ls2 := [some (zj x), none]) (st2 := [zj (-x)]) [(6, .lload_n 0), (7, .lneg), (8, .goto 4)] (by decide +kernel) rfl ?_
    exact Zn.lret (by decide +kernel) rfl (⟨by first | rfl | (refine congrArg some (congrArg zj ?_); first | omega | (simp_all; done) | (simp_all; omega)), hh.symm⟩)
theorem sp_X8_common {h : xH} {x y : Int} (h1 : -9223372036854775807 ≤ x ∧ x ≤ 9223372036854775807) (h2 : -9223372036854775807 ≤ y ∧ y ≤ 9223372036854775807) : zEv k_X8_common [zj x, zj y] h (fun v h2 => v = some (zj (Int.gcd x y : Int)) ∧ h2 = h) := by
  have hD : ([] : List Nat).Nodup := List.nodup_nil
  have hh : h = zov [] h := zov_self (fun _ q => absurd q List.not_mem_nil)
  refine zEv.body (I := (8, xI_X8_common, 10, 0, 0, 0, 0, false)) (rt := (some .long)) [some (zj x), none, some (zj y), none, none, none, none, none, none, none] rfl rfl rfl rfl ?_
  refine Zn.eq rfl rfl rfl hh ?_
  have hD : zND ([]) := hD
  refine Zn.seg (pc2 := 2) (ls2 := [some (zj x), none, some (zj y), none, none, none, none, none, none, none]) (st2 := [zj 0, zj x]) [(0, .lload_n 0), (1, .lconst 0)] (by decide +kernel) rfl ?_
  refine Zn.lcmpif (c := .ge) (off := (8)) 11 (by decide +kernel) (by decide +kernel) rfl ⟨by omega, by omega⟩ ⟨by decide, by decide⟩ (fun c_1 => ?_) (fun c_1 => ?_)
  · have c_1 : 0 ≤ x := c_1
    refine Zn.seg (pc2 := 16) (ls2 := [some (zj x), none, some (zj y), none, some (zj x), none, none, none, none, none]) (st2 := [zj 0, zj y]) [(11, .lload_n 0), (12, .lstore 4), (14, .lload_n 2), (15, .lconst 0)] (by decide +kernel) rfl ?_
    refine Zn.lcmpif (c := .ge) (off := (8)) 25 (by decide +kernel) (by decide +kernel) rfl ⟨by omega, by omega⟩ ⟨by decide, by decide⟩ (fun c_2 => ?_) (fun c_2 => ?_)
    · have c_2 : 0 ≤ y := c_2
      refine Zn.seg (pc2 := 28) (ls2 := [some (zj x), none, some (zj y), none, some (zj x), none, some (zj y), none, none, none]) (st2 := []) [(25, .lload_n 2), (26, .lstore 6)] (by decide +kernel) rfl ?_
      refine Zn.eq (pc2 := 28) (ls2 := [some (zj x), none, some (zj y), none, some (zj x), none, some (zj y), none, none, none]) (st2 := []) (h2 := zov ([]) h) rfl rfl rfl (rfl) ?_
      have hD : zND ([]) := hD
      refine xloop (P := fun i_3 => ∀ (o_ : Int), ∀ (t_ : Int), ∀ j_8 j_9 : Option zV, (0 ≤ o_ ∧ o_ ≤ 9223372036854775807 ∧ 0 ≤ t_ ∧ t_ ≤ 9223372036854775807 ∧ t_ + (i_3 : Int) ≤ (y.natAbs : Int) ∧ Int.gcd o_ t_ = Int.gcd x y) → Zn (8, xI_X8_common, 10, 0, 0, 0, 0, false) (some .long) 28 [some (zj x), none, some (zj y), none, some (zj o_), none, some (zj t_), none, j_8, j_9] [] (zov ([]) h) _) (y.natAbs + 1) (fun i_3 hi_10 ih_11 o_ t_ j_8 j_9 fa_12 => ?_) (fun o_ t_ j_8 j_9 fa_12 => ?_) x y none none (by refine ⟨by omega, by omega, by omega, by omega, by omega, ?_⟩; unfold Int.gcd; congr 1 <;> omega)
      · have hi_ : i_3 < y.natAbs + 1 := hi_10
        obtain ⟨f1_, f2_, f3_, f4_, f6_, f5_⟩ := fa_12
        refine Zn.seg (pc2 := 31) (ls2 := [some (zj x), none, some (zj y), none, some (zj o_), none, some (zj t_), none, j_8, j_9]) (st2 := [zj 0, zj t_]) [(28, .lload 6), (30, .lconst 0)] (by decide +kernel) rfl ?_
        refine Zn.lcmpif (c := .eq) (off := (21)) 53 (by decide +kernel) (by decide +kernel) rfl ⟨by omega, by omega⟩ ⟨by decide, by decide⟩ (fun c_13 => ?_) (fun c_13 => ?_)
        · have c_13 : t_ = 0 := c_13
          refine Zn.seg (pc2 := 55) (ls2 := [some (zj x), none, some (zj y), none, some (zj o_), none, some (zj t_), none, j_8, j_9]) (st2 := [zj o_]) [(53, .lload 4)] (by decide +kernel) rfl ?_
          exact Zn.lret (by decide +kernel) rfl (⟨by refine congrArg some (congrArg zj ?_); first | (rw [← f5_, show t_ = 0 from by omega, Int.gcd_zero_right]; omega), hh.symm⟩)
        · have c_13 : ¬ (t_ = 0) := c_13
          refine Zn.seg (pc2 := 39) (ls2 := [some (zj x), none, some (zj y), none, some (zj o_), none, some (zj t_), none, j_8, j_9]) (st2 := [zj t_, zj o_]) [(35, .lload 4), (37, .lload 6)] (by decide +kernel) rfl ?_
          refine Zn.lrem (by decide +kernel) ⟨by omega, by omega⟩ ⟨by omega, by omega⟩ (by omega) ?_
          refine Zn.seg (pc2 := 28) (ls2 := [some (zj x), none, some (zj y), none, some (zj t_), none, some (zj (o_.tmod t_)), none, some (zj (o_.tmod t_)), none]) (st2 := []) [(40, .lstore 8), (42, .lload 6), (44, .lstore 4), (46, .lload 8), (48, .lstore 6), (50, .goto (-22))] (by decide +kernel) rfl ?_
          exact Zn.eq rfl rfl rfl (rfl) (ih_11 t_ (o_.tmod t_) (some (zj (o_.tmod t_))) none (by have hgs := gcd_st (a := o_) (b := t_) (by omega) (by omega); exact ⟨by omega, by omega, hgs.1, by omega, by omega, hgs.2.2.trans f5_⟩))
      · exact absurd (show False from by (obtain ⟨f1_, f2_, f3_, f4_, f6_, f5_⟩ := fa_12; omega)) (fun q_ => q_)
    · have c_2 : ¬ (0 ≤ y) := c_2
      refine Zn.seg (pc2 := 28) (ls2 := [some (zj x), none, some (zj y), none, some (zj x), none, some (zj (-y)), none, none, none]) (st2 := []) [(20, .lload_n 2), (21, .lneg), (22, .goto 4), (26, .lstore 6)] (by decide +kernel) rfl ?_
      refine Zn.eq (pc2 := 28) (ls2 := [some (zj x), none, some (zj y), none, some (zj x), none, some (zj (-y)), none, none, none]) (st2 := []) (h2 := zov ([]) h) rfl rfl rfl (rfl) ?_
      have hD : zND ([]) := hD
      refine xloop (P := fun i_14 => ∀ (o_ : Int), ∀ (t_ : Int), ∀ j_19 j_20 : Option zV, (0 ≤ o_ ∧ o_ ≤ 9223372036854775807 ∧ 0 ≤ t_ ∧ t_ ≤ 9223372036854775807 ∧ t_ + (i_14 : Int) ≤ (y.natAbs : Int) ∧ Int.gcd o_ t_ = Int.gcd x y) → Zn (8, xI_X8_common, 10, 0, 0, 0, 0, false) (some .long) 28 [some (zj x), none, some (zj y), none, some (zj o_), none, some (zj t_), none, j_19, j_20] [] (zov ([]) h) _) (y.natAbs + 1) (fun i_14 hi_21 ih_22 o_ t_ j_19 j_20 fa_23 => ?_) (fun o_ t_ j_19 j_20 fa_23 => ?_) x (-y) none none (by refine ⟨by omega, by omega, by omega, by omega, by omega, ?_⟩; unfold Int.gcd; congr 1 <;> omega)
      · have hi_ : i_14 < y.natAbs + 1 := hi_21
        obtain ⟨f1_, f2_, f3_, f4_, f6_, f5_⟩ := fa_23
        refine Zn.seg (pc2 := 31) (ls2 := [some (zj x), none, some (zj y), none, some (zj o_), none, some (zj t_), none, j_19, j_20]) (st2 := [zj 0, zj t_]) [(28, .lload 6), (30, .lconst 0)] (by decide +kernel) rfl ?_
        refine Zn.lcmpif (c := .eq) (off := (21)) 53 (by decide +kernel) (by decide +kernel) rfl ⟨by omega, by omega⟩ ⟨by decide, by decide⟩ (fun c_24 => ?_) (fun c_24 => ?_)
        · have c_24 : t_ = 0 := c_24
          refine Zn.seg (pc2 := 55) (ls2 := [some (zj x), none, some (zj y), none, some (zj o_), none, some (zj t_), none, j_19, j_20]) (st2 := [zj o_]) [(53, .lload 4)] (by decide +kernel) rfl ?_
          exact Zn.lret (by decide +kernel) rfl (⟨by refine congrArg some (congrArg zj ?_); first | (rw [← f5_, show t_ = 0 from by omega, Int.gcd_zero_right]; omega), hh.symm⟩)
        · have c_24 : ¬ (t_ = 0) := c_24
          refine Zn.seg (pc2 := 39) (ls2 := [some (zj x), none, some (zj y), none, some (zj o_), none, some (zj t_), none, j_19, j_20]) (st2 := [zj t_, zj o_]) [(35, .lload 4), (37, .lload 6)] (by decide +kernel) rfl ?_
          refine Zn.lrem (by decide +kernel) ⟨by omega, by omega⟩ ⟨by omega, by omega⟩ (by omega) ?_
          refine Zn.seg (pc2 := 28) (ls2 := [some (zj x), none, some (zj y), none, some (zj t_), none, some (zj (o_.tmod t_)), none, some (zj (o_.tmod t_)), none]) (st2 := []) [(40, .lstore 8), (42, .lload 6), (44, .lstore 4), (46, .lload 8), (48, .lstore 6), (50, .goto (-22))] (by decide +kernel) rfl ?_
          exact Zn.eq rfl rfl rfl (rfl) (ih_22 t_ (o_.tmod t_) (some (zj (o_.tmod t_))) none (by have hgs := gcd_st (a := o_) (b := t_) (by omega) (by omega); exact ⟨by omega, by omega, hgs.1, by omega, by omega, hgs.2.2.trans f5_⟩))
      · exact absurd (show False from by (obtain ⟨f1_, f2_, f3_, f4_, f6_, f5_⟩ := fa_23; omega)) (fun q_ => q_)
  · have c_1 : ¬ (0 ≤ x) := c_1
    refine Zn.seg (pc2 := 16) (ls2 := [some (zj x), none, some (zj y), none, some (zj (-x)), none, none, none, none, none]) (st2 := [zj 0, zj y]) [(6, .lload_n 0), (7, .lneg), (8, .goto 4), (12, .lstore 4), (14, .lload_n 2), (15, .lconst 0)] (by decide +kernel) rfl ?_
    refine Zn.lcmpif (c := .ge) (off := (8)) 25 (by decide +kernel) (by decide +kernel) rfl ⟨by omega, by omega⟩ ⟨by decide, by decide⟩ (fun c_25 => ?_) (fun c_25 => ?_)
    · have c_25 : 0 ≤ y := c_25
      refine Zn.seg (pc2 := 28) (ls2 := [some (zj x), none, some (zj y), none, some (zj (-x)), none, some (zj y), none, none, none]) (st2 := []) [(25, .lload_n 2), (26, .lstore 6)] (by decide +kernel) rfl ?_
      refine Zn.eq (pc2 := 28) (ls2 := [some (zj x), none, some (zj y), none, some (zj (-x)), none, some (zj y), none, none, none]) (st2 := []) (h2 := zov ([]) h) rfl rfl rfl (rfl) ?_
      have hD : zND ([]) := hD
      refine xloop (P := fun i_26 => ∀ (o_ : Int), ∀ (t_ : Int), ∀ j_31 j_32 : Option zV, (0 ≤ o_ ∧ o_ ≤ 9223372036854775807 ∧ 0 ≤ t_ ∧ t_ ≤ 9223372036854775807 ∧ t_ + (i_26 : Int) ≤ (y.natAbs : Int) ∧ Int.gcd o_ t_ = Int.gcd x y) → Zn (8, xI_X8_common, 10, 0, 0, 0, 0, false) (some .long) 28 [some (zj x), none, some (zj y), none, some (zj o_), none, some (zj t_), none, j_31, j_32] [] (zov ([]) h) _) (y.natAbs + 1) (fun i_26 hi_33 ih_34 o_ t_ j_31 j_32 fa_35 => ?_) (fun o_ t_ j_31 j_32 fa_35 => ?_) (-x) y none none (by refine ⟨by omega, by omega, by omega, by omega, by omega, ?_⟩; unfold Int.gcd; congr 1 <;> omega)
      · have hi_ : i_26 < y.natAbs + 1 := hi_33
        obtain ⟨f1_, f2_, f3_, f4_, f6_, f5_⟩ := fa_35
        refine Zn.seg (pc2 := 31) (ls2 := [some (zj x), none, some (zj y), none, some (zj o_), none, some (zj t_), none, j_31, j_32]) (st2 := [zj 0, zj t_]) [(28, .lload 6), (30, .lconst 0)] (by decide +kernel) rfl ?_
        refine Zn.lcmpif (c := .eq) (off := (21)) 53 (by decide +kernel) (by decide +kernel) rfl ⟨by omega, by omega⟩ ⟨by decide, by decide⟩ (fun c_36 => ?_) (fun c_36 => ?_)
        · have c_36 : t_ = 0 := c_36
          refine Zn.seg (pc2 := 55) (ls2 := [some (zj x), none, some (zj y), none, some (zj o_), none, some (zj t_), none, j_31, j_32]) (st2 := [zj o_]) [(53, .lload 4)] (by decide +kernel) rfl ?_
          exact Zn.lret (by decide +kernel) rfl (⟨by refine congrArg some (congrArg zj ?_); first | (rw [← f5_, show t_ = 0 from by omega, Int.gcd_zero_right]; omega), hh.symm⟩)
        · have c_36 : ¬ (t_ = 0) := c_36
          refine Zn.seg (pc2 := 39) (ls2 := [some (zj x), none, some (zj y), none, some (zj o_), none, some (zj t_), none, j_31, j_32]) (st2 := [zj t_, zj o_]) [(35, .lload 4), (37, .lload 6)] (by decide +kernel) rfl ?_
          refine Zn.lrem (by decide +kernel) ⟨by omega, by omega⟩ ⟨by omega, by omega⟩ (by omega) ?_
          refine Zn.seg (pc2 := 28) (ls2 := [some (zj x), none, some (zj y), none, some (zj t_), none, some (zj (o_.tmod t_)), none, some (zj (o_.tmod t_)), none]) (st2 := []) [(40, .lstore 8), (42, .lload 6), (44, .lstore 4), (46, .lload 8), (48, .lstore 6), (50, .goto (-22))] (by decide +kernel) rfl ?_
          exact Zn.eq rfl rfl rfl (rfl) (ih_34 t_ (o_.tmod t_) (some (zj (o_.tmod t_))) none (by have hgs := gcd_st (a := o_) (b := t_) (by omega) (by omega); exact ⟨by omega, by omega, hgs.1, by omega, by omega, hgs.2.2.trans f5_⟩))
      · exact absurd (show False from by (obtain ⟨f1_, f2_, f3_, f4_, f6_, f5_⟩ := fa_35; omega)) (fun q_ => q_)
    · have c_25 : ¬ (0 ≤ y) := c_25
      refine Zn.seg (pc2 := 28) (ls2 := [some (zj x), none, some (zj y), none, some (zj (-x)), none, some (zj (-y)), none, none, none]) (st2 := []) [(20, .lload_n 2), (21, .lneg), (22, .goto 4), (26, .lstore 6)] (by decide +kernel) rfl ?_
      refine Zn.eq (pc2 := 28) (ls2 := [some (zj x), none, some (zj y), none, some (zj (-x)), none, some (zj (-y)), none, none, none]) (st2 := []) (h2 := zov ([]) h) rfl rfl rfl (rfl) ?_
      have hD : zND ([]) := hD
      refine xloop (P := fun i_37 => ∀ (o_ : Int), ∀ (t_ : Int), ∀ j_42 j_43 : Option zV, (0 ≤ o_ ∧ o_ ≤ 9223372036854775807 ∧ 0 ≤ t_ ∧ t_ ≤ 9223372036854775807 ∧ t_ + (i_37 : Int) ≤ (y.natAbs : Int) ∧ Int.gcd o_ t_ = Int.gcd x y) → Zn (8, xI_X8_common, 10, 0, 0, 0, 0, false) (some .long) 28 [some (zj x), none, some (zj y), none, some (zj o_), none, some (zj t_), none, j_42, j_43] [] (zov ([]) h) _) (y.natAbs + 1) (fun i_37 hi_44 ih_45 o_ t_ j_42 j_43 fa_46 => ?_) (fun o_ t_ j_42 j_43 fa_46 => ?_) (-x) (-y) none none (by refine ⟨by omega, by omega, by omega, by omega, by omega, ?_⟩; unfold Int.gcd; congr 1 <;> omega)
      · have hi_ : i_37 < y.natAbs + 1 := hi_44
        obtain ⟨f1_, f2_, f3_, f4_, f6_, f5_⟩ := fa_46
        refine Zn.seg (pc2 := 31) (ls2 := [some (zj x), none, some (zj y), none, some (zj o_), none, some (zj t_), none, j_42, j_43]) (st2 := [zj 0, zj t_]) [(28, .lload 6), (30, .lconst 0)] (by decide +kernel) rfl ?_
        refine Zn.lcmpif (c := .eq) (off := (21)) 53 (by decide +kernel) (by decide +kernel) rfl ⟨by omega, by omega⟩ ⟨by decide, by decide⟩ (fun c_47 => ?_) (fun c_47 => ?_)
        · have c_47 : t_ = 0 := c_47
          refine Zn.seg (pc2 := 55) (ls2 := [some (zj x), none, some (zj y), none, some (zj o_), none, some (zj t_), none, j_42, j_43]) (st2 := [zj o_]) [(53, .lload 4)] (by decide +kernel) rfl ?_
          exact Zn.lret (by decide +kernel) rfl (⟨by refine congrArg some (congrArg zj ?_); first | (rw [← f5_, show t_ = 0 from by omega, Int.gcd_zero_right]; omega), hh.symm⟩)
        · have c_47 : ¬ (t_ = 0) := c_47
          refine Zn.seg (pc2 := 39) (ls2 := [some (zj x), none, some (zj y), none, some (zj o_), none, some (zj t_), none, j_42, j_43]) (st2 := [zj t_, zj o_]) [(35, .lload 4), (37, .lload 6)] (by decide +kernel) rfl ?_
          refine Zn.lrem (by decide +kernel) ⟨by omega, by omega⟩ ⟨by omega, by omega⟩ (by omega) ?_
          refine Zn.seg (pc2 := 28) (ls2 := [some (zj x), none, some (zj y), none, some (zj t_), none, some (zj (o_.tmod t_)), none, some (zj (o_.tmod t_)), none]) (st2 := []) [(40, .lstore 8), (42, .lload 6), (44, .lstore 4), (46, .lload 8), (48, .lstore 6), (50, .goto (-22))] (by decide +kernel) rfl ?_
          exact Zn.eq rfl rfl rfl (rfl) (ih_45 t_ (o_.tmod t_) (some (zj (o_.tmod t_))) none (by have hgs := gcd_st (a := o_) (b := t_) (by omega) (by omega); exact ⟨by omega, by omega, hgs.1, by omega, by omega, hgs.2.2.trans f5_⟩))
      · exact absurd (show False from by (obtain ⟨f1_, f2_, f3_, f4_, f6_, f5_⟩ := fa_46; omega)) (fun q_ => q_)
theorem sp_X8_bend {h : xH} {A : Nat → Nat} {m : Nat → Int} {r : Nat → Nat → Int} {n : Nat} (hL : ∀ q ∈ LM A m r, h q.1 = zcE q.2) (hD : zND (LM A m r)) (hm : m 19 = (n : Int)) (hn : n ≤ 8) (hf : ∀ j, j < n → -6 ≤ r 11 j ∧ r 11 j ≤ 6) (hg : ∀ j, j < n → zInI (r 12 j)) : zEv k_X8_bend [za (A 0)] h (fun v h2 => v = some (zj (bdN (r 11) (r 12) n n)) ∧ h2 = h) := by
  have hh : h = zov (LM A m r) h := zov_self hL
  refine zEv.body (I := (8, xI_X8_bend, 6, 1, 26, 0, 0, false)) (rt := (some .long)) [some (za (A 0)), none, none, none, none, none] rfl rfl rfl rfl ?_
  refine Zn.eq rfl rfl rfl hh ?_
  have hD : zND (LM A m r) := hD
  refine Zn.seg (pc2 := 4) (ls2 := [some (za (A 0)), some (zj 0), none, some (zi 0), none, none]) (st2 := []) [(0, .lconst 0), (1, .lstore_n 1), (2, .iconst 0), (3, .istore_n 3)] (by decide +kernel) rfl ?_
  refine Zn.eq (pc2 := 4) (ls2 := [some (za (A 0)), some (zj (bdN (r 11) (r 12) n 0)), none, some (zi (0 : Int)), none, none]) (st2 := []) (h2 := zov (LM A m r) h) rfl (zcons rfl (zcons (congrArg (fun z => some (zj z)) (by first | rfl | omega | simp)) (zcons rfl (zcons (congrArg (fun z => some (zi z)) (by first | rfl | omega | simp)) rfl)))) rfl (rfl) ?_
  have hD : zND (LM A m r) := hD
  refine xloop (P := fun i_1 => ∀ j_3 j_4 : Option zV, Zn (8, xI_X8_bend, 6, 1, 26, 0, 0, false) (some .long) 4 [some (za (A 0)), some (zj (bdN (r 11) (r 12) n i_1)), none, some (zi (i_1 : Int)), j_3, j_4] [] (zov (LM A m r) h) _) (n) (fun i_1 hi_5 ih_6 j_3 j_4 => ?_) (fun j_3 j_4 => ?_) none none
  · have hi_ : i_1 < n := hi_5
    refine Zn.seg (pc2 := 6) (ls2 := [some (za (A 0)), some (zj (bdN (r 11) (r 12) n i_1)), none, some (zi (i_1 : Int)), j_3, j_4]) (st2 := [za (A 0), zi (i_1 : Int)]) [(4, .iload_n 3), (5, .aload_n 0)] (by decide +kernel) rfl ?_
    refine Zn.get (ix := 178) hD 0 (by decide +kernel) rfl rfl rfl ?_
    refine Zn.topi (y := (n : Int)) (hm) ?_
    refine Zn.icmp (c := .ge) (off := 52) 61 (by decide +kernel) rfl ⟨by omega, by omega⟩ ⟨by omega, by omega⟩ (fun c_7 => absurd (show (n : Int) ≤ (i_1 : Int) from c_7) (by omega)) (fun c_7 => ?_)
    have c_7 : ¬ ((n : Int) ≤ (i_1 : Int)) := c_7
    refine Zn.seg (pc2 := 15) (ls2 := [some (za (A 0)), some (zj (bdN (r 11) (r 12) n i_1)), none, some (zi (i_1 : Int)), j_3, j_4]) (st2 := [za (A 0), zi (i_1 : Int), za (A 0)]) [(12, .aload_n 0), (13, .iload_n 3), (14, .aload_n 0)] (by decide +kernel) rfl ?_
    refine Zn.get (ix := 178) hD 0 (by decide +kernel) rfl rfl rfl ?_
    refine Zn.topi (y := (n : Int)) (hm) ?_
    refine Zn.call (ins := .invokevirtual 181) [za (A 0), zi (i_1 : Int), zi (n : Int)] [] (by decide +kernel) rfl rfl rfl ⟨rfl, rfl⟩ ⟨rfl, rfl, rfl⟩ rfl (zrecvV hD (p := 0) rfl rfl rfl) (sp_X8_differences (A := A) (m := m) (r := r) (c := i_1) (n := n) (zov_all hD) hD (by first | assumption | omega) (by first | assumption | omega) (by first | assumption | omega)) (fun v h2 hp => ?_)
    obtain ⟨rfl, hq_8⟩ := hp
    refine Zn.eq (pc2 := 21) (ls2 := [some (za (A 0)), some (zj (bdN (r 11) (r 12) n i_1)), none, some (zi (i_1 : Int)), j_3, j_4]) (st2 := [zj (dfA (r 11) i_1 n n)]) (h2 := zov (LM A m r) h) rfl rfl rfl hq_8 ?_
    have hD : zND (LM A m r) := hD
    refine Zn.seg (pc2 := 22) (ls2 := [some (za (A 0)), some (zj (bdN (r 11) (r 12) n i_1)), none, some (zi (i_1 : Int)), j_3, j_4]) (st2 := [za (A 0), zj (dfA (r 11) i_1 n n)]) [(21, .aload_n 0)] (by decide +kernel) rfl ?_
    refine Zn.get (ix := 48) hD 0 (by decide +kernel) rfl rfl rfl ?_
    refine Zn.seg (pc2 := 26) (ls2 := [some (za (A 0)), some (zj (bdN (r 11) (r 12) n i_1)), none, some (zi (i_1 : Int)), j_3, j_4]) (st2 := [zi (i_1 : Int), za (A 12), zj (dfA (r 11) i_1 n n)]) [(25, .iload_n 3)] (by decide +kernel) rfl ?_
    refine Zn.iald hD 12 (i_1) (by decide +kernel) rfl (by omega) (by omega) rfl ?_
    refine Zn.i2l (by decide +kernel) (hg _ (by omega)) ?_
    refine Zn.seg (pc2 := 33) (ls2 := [some (za (A 0)), some (zj (bdN (r 11) (r 12) n i_1)), none, some (zi (i_1 : Int)), some (zj ((dfA (r 11) i_1 n n) * ((r 12) i_1))), none]) (st2 := [za (A 0), zj (bdN (r 11) (r 12) n i_1)]) [(28, .lmul), (29, .lstore 4), (31, .lload_n 1), (32, .aload_n 0)] (by decide +kernel) rfl ?_
    refine Zn.get (ix := 178) hD 0 (by decide +kernel) rfl rfl rfl ?_
    refine Zn.topi (y := (n : Int)) (hm) ?_
    refine Zn.seg (pc2 := 41) (ls2 := [some (za (A 0)), some (zj (bdN (r 11) (r 12) n i_1)), none, some (zi (i_1 : Int)), some (zj ((dfA (r 11) i_1 n n) * ((r 12) i_1))), none]) (st2 := [zi 2, zi ((n : Int) - 1 - (i_1 : Int)), zj (bdN (r 11) (r 12) n i_1)]) [(36, .iconst 1), (37, .isub), (38, .iload_n 3), (39, .isub), (40, .iconst 2)] (by decide +kernel) rfl ?_
    refine Zn.irem (by decide +kernel) ⟨by omega, by omega⟩ ⟨by decide, by decide⟩ (by omega) ?_
    refine Zn.topi (y := (((n - 1 - i_1) % 2 : Nat) : Int)) (by rw [show (n : Int) - 1 - (i_1 : Int) = ((n - 1 - i_1 : Nat) : Int) from by omega]; exact ntm 2 rfl) ?_
    refine Zn.ifc (c := .ne) (off := 8) 50 (by decide +kernel) rfl ⟨by omega, by omega⟩ (fun c_9 => ?_) (fun c_9 => ?_)
    · have c_9 : (((n - 1 - i_1) % 2 : Nat) : Int) ≠ 0 := c_9
      refine Zn.seg (pc2 := 4) (ls2 := [some (za (A 0)), some (zj (bdN (r 11) (r 12) n i_1 + (-((dfA (r 11) i_1 n n) * ((r 12) i_1))))), none, some (zi ((i_1 : Int) + 1)), some (zj ((dfA (r 11) i_1 n n) * ((r 12) i_1))), none]) (st2 := []) [(50, .lload 4), (52, .lneg), (53, .ladd), (54, .lstore_n 1), (55, .iinc 3 1), (58, .goto (-54))] (by decide +kernel) rfl ?_
      exact Zn.eq rfl (zcons rfl (zcons (congrArg (fun z => some (zj z)) (by rw [bdN]; first | rw [if_pos (by omega)] | rw [if_neg (by omega)])) (zcons rfl (zcons (congrArg (fun z => some (zi z)) (by omega)) rfl)))) rfl (rfl) (ih_6 (some (zj ((dfA (r 11) i_1 n n) * ((r 12) i_1)))) none)
    · have c_9 : ¬ ((((n - 1 - i_1) % 2 : Nat) : Int) ≠ 0) := c_9
      refine Zn.seg (pc2 := 4) (ls2 := [some (za (A 0)), some (zj (bdN (r 11) (r 12) n i_1 + ((dfA (r 11) i_1 n n) * ((r 12) i_1)))), none, some (zi ((i_1 : Int) + 1)), some (zj ((dfA (r 11) i_1 n n) * ((r 12) i_1))), none]) (st2 := []) [(45, .lload 4), (47, .goto 6), (53, .ladd), (54, .lstore_n 1), (55, .iinc 3 1), (58, .goto (-54))] (by decide +kernel) rfl ?_
      exact Zn.eq rfl (zcons rfl (zcons (congrArg (fun z => some (zj z)) (by rw [bdN]; first | rw [if_pos (by omega)] | rw [if_neg (by omega)])) (zcons rfl (zcons (congrArg (fun z => some (zi z)) (by omega)) rfl)))) rfl (rfl) (ih_6 (some (zj ((dfA (r 11) i_1 n n) * ((r 12) i_1)))) none)
  · skip
    refine Zn.seg (pc2 := 6) (ls2 := [some (za (A 0)), some (zj (bdN (r 11) (r 12) n n)), none, some (zi (n : Int)), j_3, j_4]) (st2 := [za (A 0), zi (n : Int)]) [(4, .iload_n 3), (5, .aload_n 0)] (by decide +kernel) rfl ?_
    refine Zn.get (ix := 178) hD 0 (by decide +kernel) rfl rfl rfl ?_
    refine Zn.topi (y := (n : Int)) (hm) ?_
    refine Zn.icmp (c := .ge) (off := 52) 61 (by decide +kernel) rfl ⟨by omega, by omega⟩ ⟨by omega, by omega⟩ (fun c_10 => ?_) (fun c_10 => absurd (show (n : Int) ≤ (n : Int) from by omega) c_10)
    have c_10 : (n : Int) ≤ (n : Int) := c_10
    refine Zn.seg (pc2 := 62) (ls2 := [some (za (A 0)), some (zj (bdN (r 11) (r 12) n n)), none, some (zi (n : Int)), j_3, j_4]) (st2 := [zj (bdN (r 11) (r 12) n n)]) [(61, .lload_n 1)] (by decide +kernel) rfl ?_
    exact Zn.lret (by decide +kernel) rfl (⟨by first | rfl | (refine congrArg some (congrArg zj ?_); first | omega | (simp_all; done) | (simp_all; omega)), hh.symm⟩)
theorem sp_X8_takes_ {h : xH} {A : Nat → Nat} {m : Nat → Int} {r : Nat → Nat → Int} {x y e : Int} {n : Nat} (hL : ∀ q ∈ LM A m r, h q.1 = zcE q.2) (hD : zND (LM A m r)) (hm : m 19 = (n : Int)) (hn : n < 8) (he : e = 0 ∨ e = 1) : zEv k_X8_takes_ [za (A 0), zi x, zi y, zi e] h (fun v h2 => v = none ∧ h2 = zov (LM A (va_up m 19 ((n : Int) + 1)) (va_up (va_up (va_up r 11 (va_up (r 11) n x)) 12 (va_up (r 12) n y)) 13 (va_up (r 13) n e))) h) := by
  have hh : h = zov (LM A m r) h := zov_self hL
  refine zEv.body (I := (8, xI_X8_takes_, 4, 0, 0, 0, 0, false)) (rt := none) [some (za (A 0)), some (zi x), some (zi y), some (zi e)] rfl rfl rfl rfl ?_
  refine Zn.eq rfl rfl rfl hh ?_
  have hD : zND (LM A m r) := hD
  refine Zn.seg (pc2 := 1) (ls2 := [some (za (A 0)), some (zi x), some (zi y), some (zi e)]) (st2 := [za (A 0)]) [(0, .aload_n 0)] (by decide +kernel) rfl ?_
  refine Zn.get (ix := 45) hD 0 (by decide +kernel) rfl rfl rfl ?_
  refine Zn.seg (pc2 := 5) (ls2 := [some (za (A 0)), some (zi x), some (zi y), some (zi e)]) (st2 := [za (A 0), za (A 11)]) [(4, .aload_n 0)] (by decide +kernel) rfl ?_
  refine Zn.get (ix := 178) hD 0 (by decide +kernel) rfl rfl rfl ?_
  refine Zn.topi (y := (n : Int)) (hm) ?_
  refine Zn.seg (pc2 := 9) (ls2 := [some (za (A 0)), some (zi x), some (zi y), some (zi e)]) (st2 := [zi x, zi (n : Int), za (A 11)]) [(8, .iload_n 1)] (by decide +kernel) rfl ?_
  refine Zn.iast hD 11 (n) (by decide +kernel) rfl (by omega) (by omega) rfl ?_
  refine Zn.eq (h2 := zov (LM A m (va_up r 11 (va_up (r 11) n x))) h) rfl rfl rfl (rfl) ?_
  have hD : zND (LM A m (va_up r 11 (va_up (r 11) n x))) := hD
  refine Zn.seg (pc2 := 11) (ls2 := [some (za (A 0)), some (zi x), some (zi y), some (zi e)]) (st2 := [za (A 0)]) [(10, .aload_n 0)] (by decide +kernel) rfl ?_
  refine Zn.get (ix := 48) hD 0 (by decide +kernel) rfl rfl rfl ?_
  refine Zn.seg (pc2 := 15) (ls2 := [some (za (A 0)), some (zi x), some (zi y), some (zi e)]) (st2 := [za (A 0), za (A 12)]) [(14, .aload_n 0)] (by decide +kernel) rfl ?_
  refine Zn.get (ix := 178) hD 0 (by decide +kernel) rfl rfl rfl ?_
  refine Zn.topi (y := (n : Int)) (hm) ?_
  refine Zn.seg (pc2 := 19) (ls2 := [some (za (A 0)), some (zi x), some (zi y), some (zi e)]) (st2 := [zi y, zi (n : Int), za (A 12)]) [(18, .iload_n 2)] (by decide +kernel) rfl ?_
  refine Zn.iast hD 12 (n) (by decide +kernel) rfl (by omega) (by omega) rfl ?_
  refine Zn.eq (h2 := zov (LM A m (va_up (va_up r 11 (va_up (r 11) n x)) 12 (va_up (r 12) n y))) h) rfl rfl rfl (rfl) ?_
  have hD : zND (LM A m (va_up (va_up r 11 (va_up (r 11) n x)) 12 (va_up (r 12) n y))) := hD
  refine Zn.seg (pc2 := 21) (ls2 := [some (za (A 0)), some (zi x), some (zi y), some (zi e)]) (st2 := [za (A 0)]) [(20, .aload_n 0)] (by decide +kernel) rfl ?_
  refine Zn.get (ix := 51) hD 0 (by decide +kernel) rfl rfl rfl ?_
  refine Zn.seg (pc2 := 25) (ls2 := [some (za (A 0)), some (zi x), some (zi y), some (zi e)]) (st2 := [za (A 0), za (A 13)]) [(24, .aload_n 0)] (by decide +kernel) rfl ?_
  refine Zn.get (ix := 178) hD 0 (by decide +kernel) rfl rfl rfl ?_
  refine Zn.topi (y := (n : Int)) (hm) ?_
  refine Zn.seg (pc2 := 29) (ls2 := [some (za (A 0)), some (zi x), some (zi y), some (zi e)]) (st2 := [zi e, zi (n : Int), za (A 13)]) [(28, .iload_n 3)] (by decide +kernel) rfl ?_
  refine Zn.bast hD 13 (n) (by decide +kernel) rfl (by exact he) (by omega) (by omega) rfl ?_
  refine Zn.eq (h2 := zov (LM A m (va_up (va_up (va_up r 11 (va_up (r 11) n x)) 12 (va_up (r 12) n y)) 13 (va_up (r 13) n e))) h) rfl rfl rfl (rfl) ?_
  have hD : zND (LM A m (va_up (va_up (va_up r 11 (va_up (r 11) n x)) 12 (va_up (r 12) n y)) 13 (va_up (r 13) n e))) := hD
  refine Zn.seg (pc2 := 32) (ls2 := [some (za (A 0)), some (zi x), some (zi y), some (zi e)]) (st2 := [za (A 0), za (A 0)]) [(30, .aload_n 0), (31, .dup)] (by decide +kernel) rfl ?_
  refine Zn.get (ix := 178) hD 0 (by decide +kernel) rfl rfl rfl ?_
  refine Zn.topi (y := (n : Int)) (hm) ?_
  refine Zn.seg (pc2 := 37) (ls2 := [some (za (A 0)), some (zi x), some (zi y), some (zi e)]) (st2 := [zi ((n : Int) + 1), za (A 0)]) [(35, .iconst 1), (36, .iadd)] (by decide +kernel) rfl ?_
  refine Zn.put (ix := 178) hD 0 (by decide +kernel) rfl rfl rfl rfl rfl ?_
  refine Zn.eq (h2 := zov (LM A (va_up m 19 ((n : Int) + 1)) (va_up (va_up (va_up r 11 (va_up (r 11) n x)) 12 (va_up (r 12) n y)) 13 (va_up (r 13) n e))) h) rfl rfl rfl rfl ?_
  have hD : zND (LM A (va_up m 19 ((n : Int) + 1)) (va_up (va_up (va_up r 11 (va_up (r 11) n x)) 12 (va_up (r 12) n y)) 13 (va_up (r 13) n e))) := hD
  exact Zn.vret (by decide +kernel) rfl (⟨rfl, rfl⟩)
theorem sp_X8_takesSet {h : xH} {A : Nat → Nat} {m : Nat → Int} {r : Nat → Nat → Int} {s : Nat} (hL : ∀ q ∈ LM A m r, h q.1 = zcE q.2) (hD : zND (LM A m r)) (hs : s < 8192) (hR : ROK (r 1)) (hl : (plB (selB (r 1) s) 13).length ≤ 8) : zEv k_X8_takesSet [za (A 0), zi (s : Int)] h (fun v h2 => v = none ∧ h2 = zov (LM A (va_up m 19 ((plB (selB (r 1) s) 13).length : Int)) (va_up (va_up (va_up r 11 (arL ((plB (selB (r 1) s) 13).map nX) (r 11))) 12 (arL ((plB (selB (r 1) s) 13).map (nY (r 1))) (r 12))) 13 (arL ((plB (selB (r 1) s) 13).map (nF (r 1))) (r 13)))) h) := by
  have hh : h = zov (LM A m r) h := zov_self hL
  have hk := hR.1
  refine zEv.body (I := (8, xI_X8_takesSet, 3, 1, 23, 0, 0, false)) (rt := none) [some (za (A 0)), some (zi (s : Int)), none] rfl rfl rfl rfl ?_
  refine Zn.eq rfl rfl rfl hh ?_
  have hD : zND (LM A m r) := hD
  refine Zn.seg (pc2 := 2) (ls2 := [some (za (A 0)), some (zi (s : Int)), none]) (st2 := [zi 0, za (A 0)]) [(0, .aload_n 0), (1, .iconst 0)] (by decide +kernel) rfl ?_
  refine Zn.put (ix := 178) hD 0 (by decide +kernel) rfl rfl rfl rfl rfl ?_
  refine Zn.eq (h2 := zov (LM A (va_up m 19 0) r) h) rfl rfl rfl rfl ?_
  have hD : zND (LM A (va_up m 19 0) r) := hD
  refine Zn.seg (pc2 := 8) (ls2 := [some (za (A 0)), some (zi (s : Int)), some (zi (-6))]) (st2 := []) [(5, .bipush (-6)), (7, .istore_n 2)] (by decide +kernel) rfl ?_
  refine Zn.eq (pc2 := 8) (ls2 := [some (za (A 0)), some (zi (s : Int)), some (zi ((0 : Int) - 6))]) (st2 := []) (h2 := zov (LM A (va_up m 19 ((plB (selB (r 1) s) 0).length : Int)) (va_up (va_up (va_up r 11 (arL ((plB (selB (r 1) s) 0).map nX) (r 11))) 12 (arL ((plB (selB (r 1) s) 0).map (nY (r 1))) (r 12))) 13 (arL ((plB (selB (r 1) s) 0).map (nF (r 1))) (r 13)))) h) rfl (zcons rfl (zcons rfl (zcons (congrArg (fun z => some (zi z)) (by first | rfl | omega | simp)) rfl))) rfl (by simp only [plB_0, List.map_nil, arL_nil, va_self, List.length_nil] <;> rfl) ?_
  have hD : zND (LM A (va_up m 19 ((plB (selB (r 1) s) 0).length : Int)) (va_up (va_up (va_up r 11 (arL ((plB (selB (r 1) s) 0).map nX) (r 11))) 12 (arL ((plB (selB (r 1) s) 0).map (nY (r 1))) (r 12))) 13 (arL ((plB (selB (r 1) s) 0).map (nF (r 1))) (r 13)))) := hD
  refine xloop (P := fun i_1 => Zn (8, xI_X8_takesSet, 3, 1, 23, 0, 0, false) none 8 [some (za (A 0)), some (zi (s : Int)), some (zi ((i_1 : Int) - 6))] [] (zov (LM A (va_up m 19 ((plB (selB (r 1) s) i_1).length : Int)) (va_up (va_up (va_up r 11 (arL ((plB (selB (r 1) s) i_1).map nX) (r 11))) 12 (arL ((plB (selB (r 1) s) i_1).map (nY (r 1))) (r 12))) 13 (arL ((plB (selB (r 1) s) i_1).map (nF (r 1))) (r 13)))) h) _) (13) (fun i_1 hi_2 ih_3 => ?_) ?_
  · have hi_ : i_1 < 13 := hi_2
    have hki := hk i_1 (by omega)
    have hbl := bt_lt s i_1
    refine Zn.seg (pc2 := 11) (ls2 := [some (za (A 0)), some (zi (s : Int)), some (zi ((i_1 : Int) - 6))]) (st2 := [zi 7, zi ((i_1 : Int) - 6)]) [(8, .iload_n 2), (9, .bipush 7)] (by decide +kernel) rfl ?_
    refine Zn.icmp (c := .ge) (off := 69) 80 (by decide +kernel) rfl ⟨by omega, by omega⟩ ⟨by decide, by decide⟩ (fun c_4 => absurd (show 7 ≤ (i_1 : Int) - 6 from c_4) (by omega)) (fun c_4 => ?_)
    have c_4 : ¬ (7 ≤ (i_1 : Int) - 6) := c_4
    refine Zn.seg (pc2 := 16) (ls2 := [some (za (A 0)), some (zi (s : Int)), some (zi ((i_1 : Int) - 6))]) (st2 := [zi ((i_1 : Int) - 6), za (A 0)]) [(14, .aload_n 0), (15, .iload_n 2)] (by decide +kernel) rfl ?_
    refine Zn.call (ins := .invokevirtual 81) [za (A 0), zi ((i_1 : Int) - 6)] [] (by decide +kernel) rfl rfl rfl ⟨rfl, rfl⟩ ⟨rfl, rfl, rfl⟩ rfl (zrecvV hD (p := 0) rfl rfl rfl) (sp_X8_kind (A := A) (m := va_up m 19 ((plB (selB (r 1) s) i_1).length : Int)) (r := va_up (va_up (va_up r 11 (arL ((plB (selB (r 1) s) i_1).map nX) (r 11))) 12 (arL ((plB (selB (r 1) s) i_1).map (nY (r 1))) (r 12))) 13 (arL ((plB (selB (r 1) s) i_1).map (nF (r 1))) (r 13))) (x := (i_1 : Int) - 6) (p := i_1) (zov_all hD) hD (by first | assumption | omega) (by first | assumption | omega)) (fun v h2 hp => ?_)
    obtain ⟨rfl, hq_5⟩ := hp
    refine Zn.eq (pc2 := 19) (ls2 := [some (za (A 0)), some (zi (s : Int)), some (zi ((i_1 : Int) - 6))]) (st2 := [zi ((r 1) (i_1 + 18))]) (h2 := zov (LM A (va_up m 19 ((plB (selB (r 1) s) i_1).length : Int)) (va_up (va_up (va_up r 11 (arL ((plB (selB (r 1) s) i_1).map nX) (r 11))) 12 (arL ((plB (selB (r 1) s) i_1).map (nY (r 1))) (r 12))) 13 (arL ((plB (selB (r 1) s) i_1).map (nF (r 1))) (r 13)))) h) rfl rfl rfl hq_5 ?_
    have hD : zND (LM A (va_up m 19 ((plB (selB (r 1) s) i_1).length : Int)) (va_up (va_up (va_up r 11 (arL ((plB (selB (r 1) s) i_1).map nX) (r 11))) 12 (arL ((plB (selB (r 1) s) i_1).map (nY (r 1))) (r 12))) 13 (arL ((plB (selB (r 1) s) i_1).map (nF (r 1))) (r 13)))) := hD
    refine Zn.seg (pc2 := 20) (ls2 := [some (za (A 0)), some (zi (s : Int)), some (zi ((i_1 : Int) - 6))]) (st2 := [zi 2, zi ((r 1) (i_1 + 18))]) [(19, .iconst 2)] (by decide +kernel) rfl ?_
    refine Zn.icmp (c := .eq) (off := 24) 44 (by decide +kernel) rfl ⟨by omega, by omega⟩ ⟨by decide, by decide⟩ (fun c_6 => ?_) (fun c_6 => ?_)
    · have c_6 : (r 1) (i_1 + 18) = 2 := c_6
      refine Zn.seg (pc2 := 48) (ls2 := [some (za (A 0)), some (zi (s : Int)), some (zi ((i_1 : Int) - 6))]) (st2 := [zi ((i_1 : Int) - 6), za (A 0), zi ((i_1 : Int) - 6), za (A 0)]) [(44, .aload_n 0), (45, .iload_n 2), (46, .aload_n 0), (47, .iload_n 2)] (by decide +kernel) rfl ?_
      refine Zn.call (ins := .invokevirtual 102) [za (A 0), zi ((i_1 : Int) - 6)] [zi ((i_1 : Int) - 6), za (A 0)] (by decide +kernel) rfl rfl rfl ⟨rfl, rfl⟩ ⟨rfl, rfl, rfl⟩ rfl (zrecvV hD (p := 0) rfl rfl rfl) (sp_X8_y (A := A) (m := va_up m 19 ((plB (selB (r 1) s) i_1).length : Int)) (r := va_up (va_up (va_up r 11 (arL ((plB (selB (r 1) s) i_1).map nX) (r 11))) 12 (arL ((plB (selB (r 1) s) i_1).map (nY (r 1))) (r 12))) 13 (arL ((plB (selB (r 1) s) i_1).map (nF (r 1))) (r 13))) (x := (i_1 : Int) - 6) (p := i_1) (zov_all hD) hD (by first | assumption | omega) (by first | assumption | omega)) (fun v h2 hp => ?_)
      obtain ⟨rfl, hq_7⟩ := hp
      refine Zn.eq (pc2 := 51) (ls2 := [some (za (A 0)), some (zi (s : Int)), some (zi ((i_1 : Int) - 6))]) (st2 := [zi ((r 1) (i_1 + 5)), zi ((i_1 : Int) - 6), za (A 0)]) (h2 := zov (LM A (va_up m 19 ((plB (selB (r 1) s) i_1).length : Int)) (va_up (va_up (va_up r 11 (arL ((plB (selB (r 1) s) i_1).map nX) (r 11))) 12 (arL ((plB (selB (r 1) s) i_1).map (nY (r 1))) (r 12))) 13 (arL ((plB (selB (r 1) s) i_1).map (nF (r 1))) (r 13)))) h) rfl rfl rfl hq_7 ?_
      have hD : zND (LM A (va_up m 19 ((plB (selB (r 1) s) i_1).length : Int)) (va_up (va_up (va_up r 11 (arL ((plB (selB (r 1) s) i_1).map nX) (r 11))) 12 (arL ((plB (selB (r 1) s) i_1).map (nY (r 1))) (r 12))) 13 (arL ((plB (selB (r 1) s) i_1).map (nF (r 1))) (r 13)))) := hD
      refine Zn.seg (pc2 := 53) (ls2 := [some (za (A 0)), some (zi (s : Int)), some (zi ((i_1 : Int) - 6))]) (st2 := [zi ((i_1 : Int) - 6), za (A 0), zi ((r 1) (i_1 + 5)), zi ((i_1 : Int) - 6), za (A 0)]) [(51, .aload_n 0), (52, .iload_n 2)] (by decide +kernel) rfl ?_
      refine Zn.call (ins := .invokevirtual 85) [za (A 0), zi ((i_1 : Int) - 6)] [zi ((r 1) (i_1 + 5)), zi ((i_1 : Int) - 6), za (A 0)] (by decide +kernel) rfl rfl rfl ⟨rfl, rfl⟩ ⟨rfl, rfl, rfl⟩ rfl (zrecvV hD (p := 0) rfl rfl rfl) (sp_X8_beneath (A := A) (m := va_up m 19 ((plB (selB (r 1) s) i_1).length : Int)) (r := va_up (va_up (va_up r 11 (arL ((plB (selB (r 1) s) i_1).map nX) (r 11))) 12 (arL ((plB (selB (r 1) s) i_1).map (nY (r 1))) (r 12))) 13 (arL ((plB (selB (r 1) s) i_1).map (nF (r 1))) (r 13))) (x := (i_1 : Int) - 6) (zov_all hD) hD) (fun v h2 hp => ?_)
      obtain ⟨rfl, hq_8⟩ := hp
      refine Zn.eq (pc2 := 56) (ls2 := [some (za (A 0)), some (zi (s : Int)), some (zi ((i_1 : Int) - 6))]) (st2 := [zi (qv (fun j => (r 1) (j + 1)) ((i_1 : Int) - 6)), zi ((r 1) (i_1 + 5)), zi ((i_1 : Int) - 6), za (A 0)]) (h2 := zov (LM A (va_up m 19 ((plB (selB (r 1) s) i_1).length : Int)) (va_up (va_up (va_up r 11 (arL ((plB (selB (r 1) s) i_1).map nX) (r 11))) 12 (arL ((plB (selB (r 1) s) i_1).map (nY (r 1))) (r 12))) 13 (arL ((plB (selB (r 1) s) i_1).map (nF (r 1))) (r 13)))) h) rfl rfl rfl hq_8 ?_
      have hD : zND (LM A (va_up m 19 ((plB (selB (r 1) s) i_1).length : Int)) (va_up (va_up (va_up r 11 (arL ((plB (selB (r 1) s) i_1).map nX) (r 11))) 12 (arL ((plB (selB (r 1) s) i_1).map (nY (r 1))) (r 12))) 13 (arL ((plB (selB (r 1) s) i_1).map (nF (r 1))) (r 13)))) := hD
      refine Zn.seg (pc2 := 59) (ls2 := [some (za (A 0)), some (zi (s : Int)), some (zi ((i_1 : Int) - 6))]) (st2 := [zi ((i_1 : Int) - 6), za (A 0), zi (((r 1) (i_1 + 5)) * (qv (fun j => (r 1) (j + 1)) ((i_1 : Int) - 6))), zi ((i_1 : Int) - 6), za (A 0)]) [(56, .imul), (57, .aload_n 0), (58, .iload_n 2)] (by decide +kernel) rfl ?_
      refine Zn.call (ins := .invokevirtual 81) [za (A 0), zi ((i_1 : Int) - 6)] [zi (((r 1) (i_1 + 5)) * (qv (fun j => (r 1) (j + 1)) ((i_1 : Int) - 6))), zi ((i_1 : Int) - 6), za (A 0)] (by decide +kernel) rfl rfl rfl ⟨rfl, rfl⟩ ⟨rfl, rfl, rfl⟩ rfl (zrecvV hD (p := 0) rfl rfl rfl) (sp_X8_kind (A := A) (m := va_up m 19 ((plB (selB (r 1) s) i_1).length : Int)) (r := va_up (va_up (va_up r 11 (arL ((plB (selB (r 1) s) i_1).map nX) (r 11))) 12 (arL ((plB (selB (r 1) s) i_1).map (nY (r 1))) (r 12))) 13 (arL ((plB (selB (r 1) s) i_1).map (nF (r 1))) (r 13))) (x := (i_1 : Int) - 6) (p := i_1) (zov_all hD) hD (by first | assumption | omega) (by first | assumption | omega)) (fun v h2 hp => ?_)
      obtain ⟨rfl, hq_9⟩ := hp
      refine Zn.eq (pc2 := 62) (ls2 := [some (za (A 0)), some (zi (s : Int)), some (zi ((i_1 : Int) - 6))]) (st2 := [zi ((r 1) (i_1 + 18)), zi (((r 1) (i_1 + 5)) * (qv (fun j => (r 1) (j + 1)) ((i_1 : Int) - 6))), zi ((i_1 : Int) - 6), za (A 0)]) (h2 := zov (LM A (va_up m 19 ((plB (selB (r 1) s) i_1).length : Int)) (va_up (va_up (va_up r 11 (arL ((plB (selB (r 1) s) i_1).map nX) (r 11))) 12 (arL ((plB (selB (r 1) s) i_1).map (nY (r 1))) (r 12))) 13 (arL ((plB (selB (r 1) s) i_1).map (nF (r 1))) (r 13)))) h) rfl rfl rfl hq_9 ?_
      have hD : zND (LM A (va_up m 19 ((plB (selB (r 1) s) i_1).length : Int)) (va_up (va_up (va_up r 11 (arL ((plB (selB (r 1) s) i_1).map nX) (r 11))) 12 (arL ((plB (selB (r 1) s) i_1).map (nY (r 1))) (r 12))) 13 (arL ((plB (selB (r 1) s) i_1).map (nF (r 1))) (r 13)))) := hD
      refine Zn.seg (pc2 := 63) (ls2 := [some (za (A 0)), some (zi (s : Int)), some (zi ((i_1 : Int) - 6))]) (st2 := [zi 1, zi ((r 1) (i_1 + 18)), zi (((r 1) (i_1 + 5)) * (qv (fun j => (r 1) (j + 1)) ((i_1 : Int) - 6))), zi ((i_1 : Int) - 6), za (A 0)]) [(62, .iconst 1)] (by decide +kernel) rfl ?_
      refine Zn.icmp (c := .ne) (off := 7) 70 (by decide +kernel) rfl ⟨by omega, by omega⟩ ⟨by decide, by decide⟩ (fun c_10 => ?_) (fun c_10 => ?_)
      · have c_10 : (r 1) (i_1 + 18) ≠ 1 := c_10
        refine Zn.seg (pc2 := 71) (ls2 := [some (za (A 0)), some (zi (s : Int)), some (zi ((i_1 : Int) - 6))]) (st2 := [zi 0, zi (((r 1) (i_1 + 5)) * (qv (fun j => (r 1) (j + 1)) ((i_1 : Int) - 6))), zi ((i_1 : Int) - 6), za (A 0)]) [(70, .iconst 0)] (by decide +kernel) rfl ?_
        refine Zn.call (ins := .invokevirtual 185) [za (A 0), zi ((i_1 : Int) - 6), zi (((r 1) (i_1 + 5)) * (qv (fun j => (r 1) (j + 1)) ((i_1 : Int) - 6))), zi 0] [] (by decide +kernel) rfl rfl rfl ⟨rfl, rfl⟩ ⟨rfl, rfl, rfl⟩ rfl (zrecvV hD (p := 0) rfl rfl rfl) (sp_X8_takes_ (A := A) (m := va_up m 19 ((plB (selB (r 1) s) i_1).length : Int)) (r := va_up (va_up (va_up r 11 (arL ((plB (selB (r 1) s) i_1).map nX) (r 11))) 12 (arL ((plB (selB (r 1) s) i_1).map (nY (r 1))) (r 12))) 13 (arL ((plB (selB (r 1) s) i_1).map (nF (r 1))) (r 13))) (x := (i_1 : Int) - 6) (y := ((r 1) (i_1 + 5)) * (qv (fun j => (r 1) (j + 1)) ((i_1 : Int) - 6))) (e := 0) (n := (plB (selB (r 1) s) i_1).length) (zov_all hD) hD (va_up_s _ _ _) (by have := pln_lt (b := selB (r 1) s) hi_ (selB_t (by omega)); omega) (by decide)) (fun v h2 hp => ?_)
        obtain ⟨rfl, hq_11⟩ := hp
        refine Zn.eq (pc2 := 74) (ls2 := [some (za (A 0)), some (zi (s : Int)), some (zi ((i_1 : Int) - 6))]) (st2 := []) (h2 := zov (LM A (va_up m 19 ((((plB (selB (r 1) s) i_1).length) : Int) + 1)) (va_up (va_up (va_up r 11 (va_up ((arL ((plB (selB (r 1) s) i_1).map nX) (r 11))) ((plB (selB (r 1) s) i_1).length) ((i_1 : Int) - 6))) 12 (va_up ((arL ((plB (selB (r 1) s) i_1).map (nY (r 1))) (r 12))) ((plB (selB (r 1) s) i_1).length) (((r 1) (i_1 + 5)) * (qv (fun j => (r 1) (j + 1)) ((i_1 : Int) - 6))))) 13 (va_up ((arL ((plB (selB (r 1) s) i_1).map (nF (r 1))) (r 13))) ((plB (selB (r 1) s) i_1).length) 0))) h) rfl rfl rfl (hq_11.trans ((LM_over _ _ _ _ _ _).trans rfl)) ?_
        have hD : zND (LM A (va_up m 19 ((((plB (selB (r 1) s) i_1).length) : Int) + 1)) (va_up (va_up (va_up r 11 (va_up ((arL ((plB (selB (r 1) s) i_1).map nX) (r 11))) ((plB (selB (r 1) s) i_1).length) ((i_1 : Int) - 6))) 12 (va_up ((arL ((plB (selB (r 1) s) i_1).map (nY (r 1))) (r 12))) ((plB (selB (r 1) s) i_1).length) (((r 1) (i_1 + 5)) * (qv (fun j => (r 1) (j + 1)) ((i_1 : Int) - 6))))) 13 (va_up ((arL ((plB (selB (r 1) s) i_1).map (nF (r 1))) (r 13))) ((plB (selB (r 1) s) i_1).length) 0))) := hD
        refine Zn.seg (pc2 := 8) (ls2 := [some (za (A 0)), some (zi (s : Int)), some (zi ((i_1 : Int) - 6 + 1))]) (st2 := []) [(74, .iinc 2 1), (77, .goto (-69))] (by decide +kernel) rfl ?_
        exact Zn.eq rfl (zcons rfl (zcons rfl (zcons (congrArg (fun z => some (zi z)) (by omega)) rfl))) rfl (by first | (exfalso; omega) | (rw [arL_t (F := nX) (selB_t (by omega)), arL_t (F := nY (r 1)) (selB_t (by omega)), arL_t (F := nF (r 1)) (selB_t (by omega)), pln_t (selB_t (by omega))]; first | rw [nF_1 (by omega)] <;> rfl | rw [nF_0 (by omega)] <;> rfl) | rw [plB_f (selB_f (by omega))]) (ih_3)
      · have c_10 : ¬ ((r 1) (i_1 + 18) ≠ 1) := c_10
        refine Zn.seg (pc2 := 71) (ls2 := [some (za (A 0)), some (zi (s : Int)), some (zi ((i_1 : Int) - 6))]) (st2 := [zi 1, zi (((r 1) (i_1 + 5)) * (qv (fun j => (r 1) (j + 1)) ((i_1 : Int) - 6))), zi ((i_1 : Int) - 6), za (A 0)]) [(66, .iconst 1), (67, .goto 4)] (by decide +kernel) rfl ?_
        refine Zn.call (ins := .invokevirtual 185) [za (A 0), zi ((i_1 : Int) - 6), zi (((r 1) (i_1 + 5)) * (qv (fun j => (r 1) (j + 1)) ((i_1 : Int) - 6))), zi 1] [] (by decide +kernel) rfl rfl rfl ⟨rfl, rfl⟩ ⟨rfl, rfl, rfl⟩ rfl (zrecvV hD (p := 0) rfl rfl rfl) (sp_X8_takes_ (A := A) (m := va_up m 19 ((plB (selB (r 1) s) i_1).length : Int)) (r := va_up (va_up (va_up r 11 (arL ((plB (selB (r 1) s) i_1).map nX) (r 11))) 12 (arL ((plB (selB (r 1) s) i_1).map (nY (r 1))) (r 12))) 13 (arL ((plB (selB (r 1) s) i_1).map (nF (r 1))) (r 13))) (x := (i_1 : Int) - 6) (y := ((r 1) (i_1 + 5)) * (qv (fun j => (r 1) (j + 1)) ((i_1 : Int) - 6))) (e := 1) (n := (plB (selB (r 1) s) i_1).length) (zov_all hD) hD (va_up_s _ _ _) (by have := pln_lt (b := selB (r 1) s) hi_ (selB_t (by omega)); omega) (by decide)) (fun v h2 hp => ?_)
        obtain ⟨rfl, hq_12⟩ := hp
        refine Zn.eq (pc2 := 74) (ls2 := [some (za (A 0)), some (zi (s : Int)), some (zi ((i_1 : Int) - 6))]) (st2 := []) (h2 := zov (LM A (va_up m 19 ((((plB (selB (r 1) s) i_1).length) : Int) + 1)) (va_up (va_up (va_up r 11 (va_up ((arL ((plB (selB (r 1) s) i_1).map nX) (r 11))) ((plB (selB (r 1) s) i_1).length) ((i_1 : Int) - 6))) 12 (va_up ((arL ((plB (selB (r 1) s) i_1).map (nY (r 1))) (r 12))) ((plB (selB (r 1) s) i_1).length) (((r 1) (i_1 + 5)) * (qv (fun j => (r 1) (j + 1)) ((i_1 : Int) - 6))))) 13 (va_up ((arL ((plB (selB (r 1) s) i_1).map (nF (r 1))) (r 13))) ((plB (selB (r 1) s) i_1).length) 1))) h) rfl rfl rfl (hq_12.trans ((LM_over _ _ _ _ _ _).trans rfl)) ?_
        have hD : zND (LM A (va_up m 19 ((((plB (selB (r 1) s) i_1).length) : Int) + 1)) (va_up (va_up (va_up r 11 (va_up ((arL ((plB (selB (r 1) s) i_1).map nX) (r 11))) ((plB (selB (r 1) s) i_1).length) ((i_1 : Int) - 6))) 12 (va_up ((arL ((plB (selB (r 1) s) i_1).map (nY (r 1))) (r 12))) ((plB (selB (r 1) s) i_1).length) (((r 1) (i_1 + 5)) * (qv (fun j => (r 1) (j + 1)) ((i_1 : Int) - 6))))) 13 (va_up ((arL ((plB (selB (r 1) s) i_1).map (nF (r 1))) (r 13))) ((plB (selB (r 1) s) i_1).length) 1))) := hD
        refine Zn.seg (pc2 := 8) (ls2 := [some (za (A 0)), some (zi (s : Int)), some (zi ((i_1 : Int) - 6 + 1))]) (st2 := []) [(74, .iinc 2 1), (77, .goto (-69))] (by decide +kernel) rfl ?_
        exact Zn.eq rfl (zcons rfl (zcons rfl (zcons (congrArg (fun z => some (zi z)) (by omega)) rfl))) rfl (by first | (exfalso; omega) | (rw [arL_t (F := nX) (selB_t (by omega)), arL_t (F := nY (r 1)) (selB_t (by omega)), arL_t (F := nF (r 1)) (selB_t (by omega)), pln_t (selB_t (by omega))]; first | rw [nF_1 (by omega)] <;> rfl | rw [nF_0 (by omega)] <;> rfl) | rw [plB_f (selB_f (by omega))]) (ih_3)
    · have c_6 : ¬ ((r 1) (i_1 + 18) = 2) := c_6
      refine Zn.seg (pc2 := 25) (ls2 := [some (za (A 0)), some (zi (s : Int)), some (zi ((i_1 : Int) - 6))]) (st2 := [zi ((i_1 : Int) - 6), za (A 0)]) [(23, .aload_n 0), (24, .iload_n 2)] (by decide +kernel) rfl ?_
      refine Zn.call (ins := .invokevirtual 81) [za (A 0), zi ((i_1 : Int) - 6)] [] (by decide +kernel) rfl rfl rfl ⟨rfl, rfl⟩ ⟨rfl, rfl, rfl⟩ rfl (zrecvV hD (p := 0) rfl rfl rfl) (sp_X8_kind (A := A) (m := va_up m 19 ((plB (selB (r 1) s) i_1).length : Int)) (r := va_up (va_up (va_up r 11 (arL ((plB (selB (r 1) s) i_1).map nX) (r 11))) 12 (arL ((plB (selB (r 1) s) i_1).map (nY (r 1))) (r 12))) 13 (arL ((plB (selB (r 1) s) i_1).map (nF (r 1))) (r 13))) (x := (i_1 : Int) - 6) (p := i_1) (zov_all hD) hD (by first | assumption | omega) (by first | assumption | omega)) (fun v h2 hp => ?_)
      obtain ⟨rfl, hq_13⟩ := hp
      refine Zn.eq (pc2 := 28) (ls2 := [some (za (A 0)), some (zi (s : Int)), some (zi ((i_1 : Int) - 6))]) (st2 := [zi ((r 1) (i_1 + 18))]) (h2 := zov (LM A (va_up m 19 ((plB (selB (r 1) s) i_1).length : Int)) (va_up (va_up (va_up r 11 (arL ((plB (selB (r 1) s) i_1).map nX) (r 11))) 12 (arL ((plB (selB (r 1) s) i_1).map (nY (r 1))) (r 12))) 13 (arL ((plB (selB (r 1) s) i_1).map (nF (r 1))) (r 13)))) h) rfl rfl rfl hq_13 ?_
      have hD : zND (LM A (va_up m 19 ((plB (selB (r 1) s) i_1).length : Int)) (va_up (va_up (va_up r 11 (arL ((plB (selB (r 1) s) i_1).map nX) (r 11))) 12 (arL ((plB (selB (r 1) s) i_1).map (nY (r 1))) (r 12))) 13 (arL ((plB (selB (r 1) s) i_1).map (nF (r 1))) (r 13)))) := hD
      refine Zn.seg (pc2 := 29) (ls2 := [some (za (A 0)), some (zi (s : Int)), some (zi ((i_1 : Int) - 6))]) (st2 := [zi 1, zi ((r 1) (i_1 + 18))]) [(28, .iconst 1)] (by decide +kernel) rfl ?_
      refine Zn.icmp (c := .ne) (off := 45) 74 (by decide +kernel) rfl ⟨by omega, by omega⟩ ⟨by decide, by decide⟩ (fun c_14 => ?_) (fun c_14 => ?_)
      · have c_14 : (r 1) (i_1 + 18) ≠ 1 := c_14
        refine Zn.seg (pc2 := 8) (ls2 := [some (za (A 0)), some (zi (s : Int)), some (zi ((i_1 : Int) - 6 + 1))]) (st2 := []) [(74, .iinc 2 1), (77, .goto (-69))] (by decide +kernel) rfl ?_
        exact Zn.eq rfl (zcons rfl (zcons rfl (zcons (congrArg (fun z => some (zi z)) (by omega)) rfl))) rfl (by first | (exfalso; omega) | (rw [arL_t (F := nX) (selB_t (by omega)), arL_t (F := nY (r 1)) (selB_t (by omega)), arL_t (F := nF (r 1)) (selB_t (by omega)), pln_t (selB_t (by omega))]; first | rw [nF_1 (by omega)] <;> rfl | rw [nF_0 (by omega)] <;> rfl) | rw [plB_f (selB_f (by omega))]) (ih_3)
      · have c_14 : ¬ ((r 1) (i_1 + 18) ≠ 1) := c_14
        refine Zn.seg (pc2 := 37) (ls2 := [some (za (A 0)), some (zi (s : Int)), some (zi ((i_1 : Int) - 6))]) (st2 := [zi ((i_1 : Int) - 6 + 6), zi (s : Int)]) [(32, .iload_n 1), (33, .iload_n 2), (34, .bipush 6), (36, .iadd)] (by decide +kernel) rfl ?_
        refine Zn.ishr (((s / 2 ^ i_1 : Nat) : Int)) (by decide +kernel) (zshrz (by omega) (by omega) (by omega)) ?_
        refine Zn.seg (pc2 := 39) (ls2 := [some (za (A 0)), some (zi (s : Int)), some (zi ((i_1 : Int) - 6))]) (st2 := [zi 1, zi ((s / 2 ^ i_1 : Nat) : Int)]) [(38, .iconst 1)] (by decide +kernel) rfl ?_
        refine Zn.iand ((bt s i_1 : Int)) (by decide +kernel) (zbt (by omega)) ?_
        refine Zn.seg (pc2 := 41) (ls2 := [some (za (A 0)), some (zi (s : Int)), some (zi ((i_1 : Int) - 6))]) (st2 := [zi 1, zi (bt s i_1 : Int)]) [(40, .iconst 1)] (by decide +kernel) rfl ?_
        refine Zn.icmp (c := .ne) (off := 33) 74 (by decide +kernel) rfl ⟨by omega, by omega⟩ ⟨by decide, by decide⟩ (fun c_15 => ?_) (fun c_15 => ?_)
        · have c_15 : (bt s i_1 : Int) ≠ 1 := c_15
          refine Zn.seg (pc2 := 8) (ls2 := [some (za (A 0)), some (zi (s : Int)), some (zi ((i_1 : Int) - 6 + 1))]) (st2 := []) [(74, .iinc 2 1), (77, .goto (-69))] (by decide +kernel) rfl ?_
          exact Zn.eq rfl (zcons rfl (zcons rfl (zcons (congrArg (fun z => some (zi z)) (by omega)) rfl))) rfl (by first | (exfalso; omega) | (rw [arL_t (F := nX) (selB_t (by omega)), arL_t (F := nY (r 1)) (selB_t (by omega)), arL_t (F := nF (r 1)) (selB_t (by omega)), pln_t (selB_t (by omega))]; first | rw [nF_1 (by omega)] <;> rfl | rw [nF_0 (by omega)] <;> rfl) | rw [plB_f (selB_f (by omega))]) (ih_3)
        · have c_15 : ¬ ((bt s i_1 : Int) ≠ 1) := c_15
          refine Zn.seg (pc2 := 48) (ls2 := [some (za (A 0)), some (zi (s : Int)), some (zi ((i_1 : Int) - 6))]) (st2 := [zi ((i_1 : Int) - 6), za (A 0), zi ((i_1 : Int) - 6), za (A 0)]) [(44, .aload_n 0), (45, .iload_n 2), (46, .aload_n 0), (47, .iload_n 2)] (by decide +kernel) rfl ?_
          refine Zn.call (ins := .invokevirtual 102) [za (A 0), zi ((i_1 : Int) - 6)] [zi ((i_1 : Int) - 6), za (A 0)] (by decide +kernel) rfl rfl rfl ⟨rfl, rfl⟩ ⟨rfl, rfl, rfl⟩ rfl (zrecvV hD (p := 0) rfl rfl rfl) (sp_X8_y (A := A) (m := va_up m 19 ((plB (selB (r 1) s) i_1).length : Int)) (r := va_up (va_up (va_up r 11 (arL ((plB (selB (r 1) s) i_1).map nX) (r 11))) 12 (arL ((plB (selB (r 1) s) i_1).map (nY (r 1))) (r 12))) 13 (arL ((plB (selB (r 1) s) i_1).map (nF (r 1))) (r 13))) (x := (i_1 : Int) - 6) (p := i_1) (zov_all hD) hD (by first | assumption | omega) (by first | assumption | omega)) (fun v h2 hp => ?_)
          obtain ⟨rfl, hq_16⟩ := hp
          refine Zn.eq (pc2 := 51) (ls2 := [some (za (A 0)), some (zi (s : Int)), some (zi ((i_1 : Int) - 6))]) (st2 := [zi ((r 1) (i_1 + 5)), zi ((i_1 : Int) - 6), za (A 0)]) (h2 := zov (LM A (va_up m 19 ((plB (selB (r 1) s) i_1).length : Int)) (va_up (va_up (va_up r 11 (arL ((plB (selB (r 1) s) i_1).map nX) (r 11))) 12 (arL ((plB (selB (r 1) s) i_1).map (nY (r 1))) (r 12))) 13 (arL ((plB (selB (r 1) s) i_1).map (nF (r 1))) (r 13)))) h) rfl rfl rfl hq_16 ?_
          have hD : zND (LM A (va_up m 19 ((plB (selB (r 1) s) i_1).length : Int)) (va_up (va_up (va_up r 11 (arL ((plB (selB (r 1) s) i_1).map nX) (r 11))) 12 (arL ((plB (selB (r 1) s) i_1).map (nY (r 1))) (r 12))) 13 (arL ((plB (selB (r 1) s) i_1).map (nF (r 1))) (r 13)))) := hD
          refine Zn.seg (pc2 := 53) (ls2 := [some (za (A 0)), some (zi (s : Int)), some (zi ((i_1 : Int) - 6))]) (st2 := [zi ((i_1 : Int) - 6), za (A 0), zi ((r 1) (i_1 + 5)), zi ((i_1 : Int) - 6), za (A 0)]) [(51, .aload_n 0), (52, .iload_n 2)] (by decide +kernel) rfl ?_
          refine Zn.call (ins := .invokevirtual 85) [za (A 0), zi ((i_1 : Int) - 6)] [zi ((r 1) (i_1 + 5)), zi ((i_1 : Int) - 6), za (A 0)] (by decide +kernel) rfl rfl rfl ⟨rfl, rfl⟩ ⟨rfl, rfl, rfl⟩ rfl (zrecvV hD (p := 0) rfl rfl rfl) (sp_X8_beneath (A := A) (m := va_up m 19 ((plB (selB (r 1) s) i_1).length : Int)) (r := va_up (va_up (va_up r 11 (arL ((plB (selB (r 1) s) i_1).map nX) (r 11))) 12 (arL ((plB (selB (r 1) s) i_1).map (nY (r 1))) (r 12))) 13 (arL ((plB (selB (r 1) s) i_1).map (nF (r 1))) (r 13))) (x := (i_1 : Int) - 6) (zov_all hD) hD) (fun v h2 hp => ?_)
          obtain ⟨rfl, hq_17⟩ := hp
          refine Zn.eq (pc2 := 56) (ls2 := [some (za (A 0)), some (zi (s : Int)), some (zi ((i_1 : Int) - 6))]) (st2 := [zi (qv (fun j => (r 1) (j + 1)) ((i_1 : Int) - 6)), zi ((r 1) (i_1 + 5)), zi ((i_1 : Int) - 6), za (A 0)]) (h2 := zov (LM A (va_up m 19 ((plB (selB (r 1) s) i_1).length : Int)) (va_up (va_up (va_up r 11 (arL ((plB (selB (r 1) s) i_1).map nX) (r 11))) 12 (arL ((plB (selB (r 1) s) i_1).map (nY (r 1))) (r 12))) 13 (arL ((plB (selB (r 1) s) i_1).map (nF (r 1))) (r 13)))) h) rfl rfl rfl hq_17 ?_
          have hD : zND (LM A (va_up m 19 ((plB (selB (r 1) s) i_1).length : Int)) (va_up (va_up (va_up r 11 (arL ((plB (selB (r 1) s) i_1).map nX) (r 11))) 12 (arL ((plB (selB (r 1) s) i_1).map (nY (r 1))) (r 12))) 13 (arL ((plB (selB (r 1) s) i_1).map (nF (r 1))) (r 13)))) := hD
          refine Zn.seg (pc2 := 59) (ls2 := [some (za (A 0)), some (zi (s : Int)), some (zi ((i_1 : Int) - 6))]) (st2 := [zi ((i_1 : Int) - 6), za (A 0), zi (((r 1) (i_1 + 5)) * (qv (fun j => (r 1) (j + 1)) ((i_1 : Int) - 6))), zi ((i_1 : Int) - 6), za (A 0)]) [(56, .imul), (57, .aload_n 0), (58, .iload_n 2)] (by decide +kernel) rfl ?_
          refine Zn.call (ins := .invokevirtual 81) [za (A 0), zi ((i_1 : Int) - 6)] [zi (((r 1) (i_1 + 5)) * (qv (fun j => (r 1) (j + 1)) ((i_1 : Int) - 6))), zi ((i_1 : Int) - 6), za (A 0)] (by decide +kernel) rfl rfl rfl ⟨rfl, rfl⟩ ⟨rfl, rfl, rfl⟩ rfl (zrecvV hD (p := 0) rfl rfl rfl) (sp_X8_kind (A := A) (m := va_up m 19 ((plB (selB (r 1) s) i_1).length : Int)) (r := va_up (va_up (va_up r 11 (arL ((plB (selB (r 1) s) i_1).map nX) (r 11))) 12 (arL ((plB (selB (r 1) s) i_1).map (nY (r 1))) (r 12))) 13 (arL ((plB (selB (r 1) s) i_1).map (nF (r 1))) (r 13))) (x := (i_1 : Int) - 6) (p := i_1) (zov_all hD) hD (by first | assumption | omega) (by first | assumption | omega)) (fun v h2 hp => ?_)
          obtain ⟨rfl, hq_18⟩ := hp
          refine Zn.eq (pc2 := 62) (ls2 := [some (za (A 0)), some (zi (s : Int)), some (zi ((i_1 : Int) - 6))]) (st2 := [zi ((r 1) (i_1 + 18)), zi (((r 1) (i_1 + 5)) * (qv (fun j => (r 1) (j + 1)) ((i_1 : Int) - 6))), zi ((i_1 : Int) - 6), za (A 0)]) (h2 := zov (LM A (va_up m 19 ((plB (selB (r 1) s) i_1).length : Int)) (va_up (va_up (va_up r 11 (arL ((plB (selB (r 1) s) i_1).map nX) (r 11))) 12 (arL ((plB (selB (r 1) s) i_1).map (nY (r 1))) (r 12))) 13 (arL ((plB (selB (r 1) s) i_1).map (nF (r 1))) (r 13)))) h) rfl rfl rfl hq_18 ?_
          have hD : zND (LM A (va_up m 19 ((plB (selB (r 1) s) i_1).length : Int)) (va_up (va_up (va_up r 11 (arL ((plB (selB (r 1) s) i_1).map nX) (r 11))) 12 (arL ((plB (selB (r 1) s) i_1).map (nY (r 1))) (r 12))) 13 (arL ((plB (selB (r 1) s) i_1).map (nF (r 1))) (r 13)))) := hD
          refine Zn.seg (pc2 := 63) (ls2 := [some (za (A 0)), some (zi (s : Int)), some (zi ((i_1 : Int) - 6))]) (st2 := [zi 1, zi ((r 1) (i_1 + 18)), zi (((r 1) (i_1 + 5)) * (qv (fun j => (r 1) (j + 1)) ((i_1 : Int) - 6))), zi ((i_1 : Int) - 6), za (A 0)]) [(62, .iconst 1)] (by decide +kernel) rfl ?_
          refine Zn.icmp (c := .ne) (off := 7) 70 (by decide +kernel) rfl ⟨by omega, by omega⟩ ⟨by decide, by decide⟩ (fun c_19 => ?_) (fun c_19 => ?_)
          · have c_19 : (r 1) (i_1 + 18) ≠ 1 := c_19
            refine Zn.seg (pc2 := 71) (ls2 := [some (za (A 0)), some (zi (s : Int)), some (zi ((i_1 : Int) - 6))]) (st2 := [zi 0, zi (((r 1) (i_1 + 5)) * (qv (fun j => (r 1) (j + 1)) ((i_1 : Int) - 6))), zi ((i_1 : Int) - 6), za (A 0)]) [(70, .iconst 0)] (by decide +kernel) rfl ?_
            refine Zn.call (ins := .invokevirtual 185) [za (A 0), zi ((i_1 : Int) - 6), zi (((r 1) (i_1 + 5)) * (qv (fun j => (r 1) (j + 1)) ((i_1 : Int) - 6))), zi 0] [] (by decide +kernel) rfl rfl rfl ⟨rfl, rfl⟩ ⟨rfl, rfl, rfl⟩ rfl (zrecvV hD (p := 0) rfl rfl rfl) (sp_X8_takes_ (A := A) (m := va_up m 19 ((plB (selB (r 1) s) i_1).length : Int)) (r := va_up (va_up (va_up r 11 (arL ((plB (selB (r 1) s) i_1).map nX) (r 11))) 12 (arL ((plB (selB (r 1) s) i_1).map (nY (r 1))) (r 12))) 13 (arL ((plB (selB (r 1) s) i_1).map (nF (r 1))) (r 13))) (x := (i_1 : Int) - 6) (y := ((r 1) (i_1 + 5)) * (qv (fun j => (r 1) (j + 1)) ((i_1 : Int) - 6))) (e := 0) (n := (plB (selB (r 1) s) i_1).length) (zov_all hD) hD (va_up_s _ _ _) (by have := pln_lt (b := selB (r 1) s) hi_ (selB_t (by omega)); omega) (by decide)) (fun v h2 hp => ?_)
            obtain ⟨rfl, hq_20⟩ := hp
            refine Zn.eq (pc2 := 74) (ls2 := [some (za (A 0)), some (zi (s : Int)), some (zi ((i_1 : Int) - 6))]) (st2 := []) (h2 := zov (LM A (va_up m 19 ((((plB (selB (r 1) s) i_1).length) : Int) + 1)) (va_up (va_up (va_up r 11 (va_up ((arL ((plB (selB (r 1) s) i_1).map nX) (r 11))) ((plB (selB (r 1) s) i_1).length) ((i_1 : Int) - 6))) 12 (va_up ((arL ((plB (selB (r 1) s) i_1).map (nY (r 1))) (r 12))) ((plB (selB (r 1) s) i_1).length) (((r 1) (i_1 + 5)) * (qv (fun j => (r 1) (j + 1)) ((i_1 : Int) - 6))))) 13 (va_up ((arL ((plB (selB (r 1) s) i_1).map (nF (r 1))) (r 13))) ((plB (selB (r 1) s) i_1).length) 0))) h) rfl rfl rfl (hq_20.trans ((LM_over _ _ _ _ _ _).trans rfl)) ?_
            have hD : zND (LM A (va_up m 19 ((((plB (selB (r 1) s) i_1).length) : Int) + 1)) (va_up (va_up (va_up r 11 (va_up ((arL ((plB (selB (r 1) s) i_1).map nX) (r 11))) ((plB (selB (r 1) s) i_1).length) ((i_1 : Int) - 6))) 12 (va_up ((arL ((plB (selB (r 1) s) i_1).map (nY (r 1))) (r 12))) ((plB (selB (r 1) s) i_1).length) (((r 1) (i_1 + 5)) * (qv (fun j => (r 1) (j + 1)) ((i_1 : Int) - 6))))) 13 (va_up ((arL ((plB (selB (r 1) s) i_1).map (nF (r 1))) (r 13))) ((plB (selB (r 1) s) i_1).length) 0))) := hD
            refine Zn.seg (pc2 := 8) (ls2 := [some (za (A 0)), some (zi (s : Int)), some (zi ((i_1 : Int) - 6 + 1))]) (st2 := []) [(74, .iinc 2 1), (77, .goto (-69))] (by decide +kernel) rfl ?_
            exact Zn.eq rfl (zcons rfl (zcons rfl (zcons (congrArg (fun z => some (zi z)) (by omega)) rfl))) rfl (by first | (exfalso; omega) | (rw [arL_t (F := nX) (selB_t (by omega)), arL_t (F := nY (r 1)) (selB_t (by omega)), arL_t (F := nF (r 1)) (selB_t (by omega)), pln_t (selB_t (by omega))]; first | rw [nF_1 (by omega)] <;> rfl | rw [nF_0 (by omega)] <;> rfl) | rw [plB_f (selB_f (by omega))]) (ih_3)
          · have c_19 : ¬ ((r 1) (i_1 + 18) ≠ 1) := c_19
            refine Zn.seg (pc2 := 71) (ls2 := [some (za (A 0)), some (zi (s : Int)), some (zi ((i_1 : Int) - 6))]) (st2 := [zi 1, zi (((r 1) (i_1 + 5)) * (qv (fun j => (r 1) (j + 1)) ((i_1 : Int) - 6))), zi ((i_1 : Int) - 6), za (A 0)]) [(66, .iconst 1), (67, .goto 4)] (by decide +kernel) rfl ?_
            refine Zn.call (ins := .invokevirtual 185) [za (A 0), zi ((i_1 : Int) - 6), zi (((r 1) (i_1 + 5)) * (qv (fun j => (r 1) (j + 1)) ((i_1 : Int) - 6))), zi 1] [] (by decide +kernel) rfl rfl rfl ⟨rfl, rfl⟩ ⟨rfl, rfl, rfl⟩ rfl (zrecvV hD (p := 0) rfl rfl rfl) (sp_X8_takes_ (A := A) (m := va_up m 19 ((plB (selB (r 1) s) i_1).length : Int)) (r := va_up (va_up (va_up r 11 (arL ((plB (selB (r 1) s) i_1).map nX) (r 11))) 12 (arL ((plB (selB (r 1) s) i_1).map (nY (r 1))) (r 12))) 13 (arL ((plB (selB (r 1) s) i_1).map (nF (r 1))) (r 13))) (x := (i_1 : Int) - 6) (y := ((r 1) (i_1 + 5)) * (qv (fun j => (r 1) (j + 1)) ((i_1 : Int) - 6))) (e := 1) (n := (plB (selB (r 1) s) i_1).length) (zov_all hD) hD (va_up_s _ _ _) (by have := pln_lt (b := selB (r 1) s) hi_ (selB_t (by omega)); omega) (by decide)) (fun v h2 hp => ?_)
            obtain ⟨rfl, hq_21⟩ := hp
            refine Zn.eq (pc2 := 74) (ls2 := [some (za (A 0)), some (zi (s : Int)), some (zi ((i_1 : Int) - 6))]) (st2 := []) (h2 := zov (LM A (va_up m 19 ((((plB (selB (r 1) s) i_1).length) : Int) + 1)) (va_up (va_up (va_up r 11 (va_up ((arL ((plB (selB (r 1) s) i_1).map nX) (r 11))) ((plB (selB (r 1) s) i_1).length) ((i_1 : Int) - 6))) 12 (va_up ((arL ((plB (selB (r 1) s) i_1).map (nY (r 1))) (r 12))) ((plB (selB (r 1) s) i_1).length) (((r 1) (i_1 + 5)) * (qv (fun j => (r 1) (j + 1)) ((i_1 : Int) - 6))))) 13 (va_up ((arL ((plB (selB (r 1) s) i_1).map (nF (r 1))) (r 13))) ((plB (selB (r 1) s) i_1).length) 1))) h) rfl rfl rfl (hq_21.trans ((LM_over _ _ _ _ _ _).trans rfl)) ?_
            have hD : zND (LM A (va_up m 19 ((((plB (selB (r 1) s) i_1).length) : Int) + 1)) (va_up (va_up (va_up r 11 (va_up ((arL ((plB (selB (r 1) s) i_1).map nX) (r 11))) ((plB (selB (r 1) s) i_1).length) ((i_1 : Int) - 6))) 12 (va_up ((arL ((plB (selB (r 1) s) i_1).map (nY (r 1))) (r 12))) ((plB (selB (r 1) s) i_1).length) (((r 1) (i_1 + 5)) * (qv (fun j => (r 1) (j + 1)) ((i_1 : Int) - 6))))) 13 (va_up ((arL ((plB (selB (r 1) s) i_1).map (nF (r 1))) (r 13))) ((plB (selB (r 1) s) i_1).length) 1))) := hD
            refine Zn.seg (pc2 := 8) (ls2 := [some (za (A 0)), some (zi (s : Int)), some (zi ((i_1 : Int) - 6 + 1))]) (st2 := []) [(74, .iinc 2 1), (77, .goto (-69))] (by decide +kernel) rfl ?_
            exact Zn.eq rfl (zcons rfl (zcons rfl (zcons (congrArg (fun z => some (zi z)) (by omega)) rfl))) rfl (by first | (exfalso; omega) | (rw [arL_t (F := nX) (selB_t (by omega)), arL_t (F := nY (r 1)) (selB_t (by omega)), arL_t (F := nF (r 1)) (selB_t (by omega)), pln_t (selB_t (by omega))]; first | rw [nF_1 (by omega)] <;> rfl | rw [nF_0 (by omega)] <;> rfl) | rw [plB_f (selB_f (by omega))]) (ih_3)
  · skip
    refine Zn.seg (pc2 := 11) (ls2 := [some (za (A 0)), some (zi (s : Int)), some (zi ((13 : Int) - 6))]) (st2 := [zi 7, zi ((13 : Int) - 6)]) [(8, .iload_n 2), (9, .bipush 7)] (by decide +kernel) rfl ?_
    refine Zn.icmp (c := .ge) (off := 69) 80 (by decide +kernel) rfl ⟨by omega, by omega⟩ ⟨by decide, by decide⟩ (fun c_22 => ?_) (fun c_22 => absurd (show 7 ≤ (13 : Int) - 6 from by decide) c_22)
    have c_22 : 7 ≤ (13 : Int) - 6 := c_22
    exact Zn.vret (by decide +kernel) rfl (⟨rfl, rfl⟩)
theorem sp_X8_isReference {h : xH} {A : Nat → Nat} {m : Nat → Int} {r : Nat → Nat → Int} {s : Nat} (hL : ∀ q ∈ LM A m r, h q.1 = zcE q.2) (hD : zND (LM A m r)) (hs : s < 8192) (hR : ROK (r 1)) : zEv k_X8_isReference [za (A 0), zi (s : Int)] h (fun v h2 => v = some (zi (refV (r 1) s)) ∧ h2 = h) := by
  have hh : h = zov (LM A m r) h := zov_self hL
  have hk := hR.1
  have hd := hR.2.1
  refine zEv.body (I := (8, xI_X8_isReference, 4, 3, 64, 0, 0, false)) (rt := (some .boolean)) [some (za (A 0)), some (zi (s : Int)), none, none] rfl rfl rfl rfl ?_
  refine Zn.eq rfl rfl rfl hh ?_
  have hD : zND (LM A m r) := hD
  refine Zn.seg (pc2 := 5) (ls2 := [some (za (A 0)), some (zi (s : Int)), some (zi 0), some (zi (-6))]) (st2 := []) [(0, .iconst 0), (1, .istore_n 2), (2, .bipush (-6)), (4, .istore_n 3)] (by decide +kernel) rfl ?_
  refine Zn.eq (pc2 := 5) (ls2 := [some (za (A 0)), some (zi (s : Int)), some (zi (popN s 0 : Int)), some (zi ((0 : Int) - 6))]) (st2 := []) (h2 := zov (LM A m r) h) rfl (zcons rfl (zcons rfl (zcons (congrArg (fun z => some (zi z)) (by first | rfl | omega | simp)) (zcons (congrArg (fun z => some (zi z)) (by first | rfl | omega | simp)) rfl)))) rfl (rfl) ?_
  have hD : zND (LM A m r) := hD
  refine xloop (P := fun i_1 => (∀ p, p < i_1 → bt s p = 1 → r 1 (p + 18) = 1) → Zn (8, xI_X8_isReference, 4, 3, 64, 0, 0, false) (some .boolean) 5 [some (za (A 0)), some (zi (s : Int)), some (zi (popN s i_1 : Int)), some (zi ((i_1 : Int) - 6))] [] (zov (LM A m r) h) _) (13) (fun i_1 hi_2 ih_3 fa_4 => ?_) (fun fa_4 => ?_) (fun p hp => absurd hp (Nat.not_lt_zero p))
  · have hi_ : i_1 < 13 := hi_2
    have hbl := bt_lt s i_1
    have hki := hk i_1 (by omega)
    refine Zn.seg (pc2 := 8) (ls2 := [some (za (A 0)), some (zi (s : Int)), some (zi (popN s i_1 : Int)), some (zi ((i_1 : Int) - 6))]) (st2 := [zi 7, zi ((i_1 : Int) - 6)]) [(5, .iload_n 3), (6, .bipush 7)] (by decide +kernel) rfl ?_
    refine Zn.icmp (c := .ge) (off := 35) 43 (by decide +kernel) rfl ⟨by omega, by omega⟩ ⟨by decide, by decide⟩ (fun c_5 => absurd (show 7 ≤ (i_1 : Int) - 6 from c_5) (by omega)) (fun c_5 => ?_)
    have c_5 : ¬ (7 ≤ (i_1 : Int) - 6) := c_5
    refine Zn.seg (pc2 := 16) (ls2 := [some (za (A 0)), some (zi (s : Int)), some (zi (popN s i_1 : Int)), some (zi ((i_1 : Int) - 6))]) (st2 := [zi ((i_1 : Int) - 6 + 6), zi (s : Int)]) [(11, .iload_n 1), (12, .iload_n 3), (13, .bipush 6), (15, .iadd)] (by decide +kernel) rfl ?_
    refine Zn.ishr (((s / 2 ^ i_1 : Nat) : Int)) (by decide +kernel) (zshrz (by omega) (by omega) (by omega)) ?_
    refine Zn.seg (pc2 := 18) (ls2 := [some (za (A 0)), some (zi (s : Int)), some (zi (popN s i_1 : Int)), some (zi ((i_1 : Int) - 6))]) (st2 := [zi 1, zi ((s / 2 ^ i_1 : Nat) : Int)]) [(17, .iconst 1)] (by decide +kernel) rfl ?_
    refine Zn.iand ((bt s i_1 : Int)) (by decide +kernel) (zbt (by omega)) ?_
    refine Zn.seg (pc2 := 20) (ls2 := [some (za (A 0)), some (zi (s : Int)), some (zi (popN s i_1 : Int)), some (zi ((i_1 : Int) - 6))]) (st2 := [zi 1, zi (bt s i_1 : Int)]) [(19, .iconst 1)] (by decide +kernel) rfl ?_
    refine Zn.icmp (c := .ne) (off := 17) 37 (by decide +kernel) rfl ⟨by omega, by omega⟩ ⟨by decide, by decide⟩ (fun c_6 => ?_) (fun c_6 => ?_)
    · have c_6 : (bt s i_1 : Int) ≠ 1 := c_6
      refine Zn.seg (pc2 := 5) (ls2 := [some (za (A 0)), some (zi (s : Int)), some (zi (popN s i_1 : Int)), some (zi ((i_1 : Int) - 6 + 1))]) (st2 := []) [(37, .iinc 3 1), (40, .goto (-35))] (by decide +kernel) rfl ?_
      exact Zn.eq rfl (zcons rfl (zcons rfl (zcons (congrArg (fun z => some (zi z)) (by have hbl := bt_lt s i_1; rw [popN]; omega)) (zcons (congrArg (fun z => some (zi z)) (by omega)) rfl)))) rfl (rfl) (ih_3 (ball_s fa_4 (fun hb_ => by omega)))
    · have c_6 : ¬ ((bt s i_1 : Int) ≠ 1) := c_6
      refine Zn.seg (pc2 := 25) (ls2 := [some (za (A 0)), some (zi (s : Int)), some (zi (popN s i_1 : Int)), some (zi ((i_1 : Int) - 6))]) (st2 := [zi ((i_1 : Int) - 6), za (A 0)]) [(23, .aload_n 0), (24, .iload_n 3)] (by decide +kernel) rfl ?_
      refine Zn.call (ins := .invokevirtual 81) [za (A 0), zi ((i_1 : Int) - 6)] [] (by decide +kernel) rfl rfl rfl ⟨rfl, rfl⟩ ⟨rfl, rfl, rfl⟩ rfl (zrecvV hD (p := 0) rfl rfl rfl) (sp_X8_kind (A := A) (m := m) (r := r) (x := (i_1 : Int) - 6) (p := i_1) (zov_all hD) hD (by first | assumption | omega) (by first | assumption | omega)) (fun v h2 hp => ?_)
      obtain ⟨rfl, hq_7⟩ := hp
      refine Zn.eq (pc2 := 28) (ls2 := [some (za (A 0)), some (zi (s : Int)), some (zi (popN s i_1 : Int)), some (zi ((i_1 : Int) - 6))]) (st2 := [zi (r 1 (i_1 + 18))]) (h2 := zov (LM A m r) h) rfl rfl rfl hq_7 ?_
      have hD : zND (LM A m r) := hD
      refine Zn.seg (pc2 := 29) (ls2 := [some (za (A 0)), some (zi (s : Int)), some (zi (popN s i_1 : Int)), some (zi ((i_1 : Int) - 6))]) (st2 := [zi 1, zi (r 1 (i_1 + 18))]) [(28, .iconst 1)] (by decide +kernel) rfl ?_
      refine Zn.icmp (c := .eq) (off := 5) 34 (by decide +kernel) rfl ⟨by omega, by omega⟩ ⟨by decide, by decide⟩ (fun c_8 => ?_) (fun c_8 => ?_)
      · have c_8 : r 1 (i_1 + 18) = 1 := c_8
        refine Zn.seg (pc2 := 5) (ls2 := [some (za (A 0)), some (zi (s : Int)), some (zi ((popN s i_1 : Int) + 1)), some (zi ((i_1 : Int) - 6 + 1))]) (st2 := []) [(34, .iinc 2 1), (37, .iinc 3 1), (40, .goto (-35))] (by decide +kernel) rfl ?_
        exact Zn.eq rfl (zcons rfl (zcons rfl (zcons (congrArg (fun z => some (zi z)) (by have hbl := bt_lt s i_1; rw [popN]; omega)) (zcons (congrArg (fun z => some (zi z)) (by omega)) rfl)))) rfl (rfl) (ih_3 (ball_s fa_4 (fun hb_ => by omega)))
      · have c_8 : ¬ (r 1 (i_1 + 18) = 1) := c_8
        refine Zn.seg (pc2 := 33) (ls2 := [some (za (A 0)), some (zi (s : Int)), some (zi (popN s i_1 : Int)), some (zi ((i_1 : Int) - 6))]) (st2 := [zi 0]) [(32, .iconst 0)] (by decide +kernel) rfl ?_
        exact Zn.bret (by decide +kernel) rfl (by first | decide | omega) (⟨by refine congrArg some (congrArg zi ?_); first | rw [refV_n (fun q_ => by have := q_.1 _ (by assumption) (by omega); omega)] | rw [refV_y ⟨by assumption, by unfold pop; omega⟩] | rw [refV_n (fun q_ => by have := q_.2; unfold pop at this; omega)], hh.symm⟩)
  · skip
    refine Zn.seg (pc2 := 8) (ls2 := [some (za (A 0)), some (zi (s : Int)), some (zi (popN s 13 : Int)), some (zi ((13 : Int) - 6))]) (st2 := [zi 7, zi ((13 : Int) - 6)]) [(5, .iload_n 3), (6, .bipush 7)] (by decide +kernel) rfl ?_
    refine Zn.icmp (c := .ge) (off := 35) 43 (by decide +kernel) rfl ⟨by omega, by omega⟩ ⟨by decide, by decide⟩ (fun c_9 => ?_) (fun c_9 => absurd (show 7 ≤ (13 : Int) - 6 from by decide) c_9)
    have c_9 : 7 ≤ (13 : Int) - 6 := c_9
    refine Zn.seg (pc2 := 45) (ls2 := [some (za (A 0)), some (zi (s : Int)), some (zi (popN s 13 : Int)), some (zi ((13 : Int) - 6))]) (st2 := [za (A 0), zi (popN s 13 : Int)]) [(43, .iload_n 2), (44, .aload_n 0)] (by decide +kernel) rfl ?_
    refine Zn.call (ins := .invokevirtual 129) [za (A 0)] [zi (popN s 13 : Int)] (by decide +kernel) rfl rfl rfl ⟨rfl, rfl⟩ ⟨rfl, rfl, rfl⟩ rfl (zrecvV hD (p := 0) rfl rfl rfl) (sp_X8_size (A := A) (m := m) (r := r) (zov_all hD) hD (by first | assumption | omega) (by first | assumption | omega)) (fun v h2 hp => ?_)
    obtain ⟨rfl, hq_10⟩ := hp
    refine Zn.eq (pc2 := 48) (ls2 := [some (za (A 0)), some (zi (s : Int)), some (zi (popN s 13 : Int)), some (zi ((13 : Int) - 6))]) (st2 := [zi (r 1 0 + 2 - (manyN (r 1) 2 13 : Int)), zi (popN s 13 : Int)]) (h2 := zov (LM A m r) h) rfl rfl rfl hq_10 ?_
    have hD : zND (LM A m r) := hD
    refine Zn.icmp (c := .ne) (off := 7) 55 (by decide +kernel) rfl ⟨by have := popN_le s 13; omega, by have := popN_le s 13; omega⟩ ⟨by have := manyN_le (r 1) 2 13; omega, by have := manyN_le (r 1) 2 13; omega⟩ (fun c_11 => ?_) (fun c_11 => ?_)
    · have c_11 : (popN s 13 : Int) ≠ r 1 0 + 2 - (manyN (r 1) 2 13 : Int) := c_11
      refine Zn.seg (pc2 := 56) (ls2 := [some (za (A 0)), some (zi (s : Int)), some (zi (popN s 13 : Int)), some (zi ((13 : Int) - 6))]) (st2 := [zi 0]) [(55, .iconst 0)] (by decide +kernel) rfl ?_
      exact Zn.bret (by decide +kernel) rfl (by first | decide | omega) (⟨by refine congrArg some (congrArg zi ?_); first | rw [refV_n (fun q_ => by have := q_.1 _ (by assumption) (by omega); omega)] | rw [refV_y ⟨by assumption, by unfold pop; omega⟩] | rw [refV_n (fun q_ => by have := q_.2; unfold pop at this; omega)], hh.symm⟩)
    · have c_11 : ¬ ((popN s 13 : Int) ≠ r 1 0 + 2 - (manyN (r 1) 2 13 : Int)) := c_11
      refine Zn.seg (pc2 := 56) (ls2 := [some (za (A 0)), some (zi (s : Int)), some (zi (popN s 13 : Int)), some (zi ((13 : Int) - 6))]) (st2 := [zi 1]) [(51, .iconst 1), (52, .goto 4)] (by decide +kernel) rfl ?_
      exact Zn.bret (by decide +kernel) rfl (by first | decide | omega) (⟨by refine congrArg some (congrArg zi ?_); first | rw [refV_n (fun q_ => by have := q_.1 _ (by assumption) (by omega); omega)] | rw [refV_y ⟨by assumption, by unfold pop; omega⟩] | rw [refV_n (fun q_ => by have := q_.2; unfold pop at this; omega)], hh.symm⟩)
theorem sp_X8_fixedAbove {h : xH} {A : Nat → Nat} {m : Nat → Int} {r : Nat → Nat → Int} {x : Int} {p : Nat} (hL : ∀ q ∈ LM A m r, h q.1 = zcE q.2) (hD : zND (LM A m r)) (hx : x = (p : Int) - 6) (hp : p < 13) (hk : kOK (r 1)) : zEv k_X8_fixedAbove [za (A 0), zi x] h (fun v h2 => v = some (zi (fxA (r 1) p (12 - p) : Int)) ∧ h2 = h) := by
  have hh : h = zov (LM A m r) h := zov_self hL
  have hfl0 := fxA_le (r 1) p (12 - p)
  refine zEv.body (I := (8, xI_X8_fixedAbove, 4, 1, 21, 0, 0, false)) (rt := (some .int)) [some (za (A 0)), some (zi x), none, none] rfl rfl rfl rfl ?_
  refine Zn.eq rfl rfl rfl hh ?_
  have hD : zND (LM A m r) := hD
  refine Zn.seg (pc2 := 6) (ls2 := [some (za (A 0)), some (zi x), some (zi 0), some (zi (x + 1))]) (st2 := []) [(0, .iconst 0), (1, .istore_n 2), (2, .iload_n 1), (3, .iconst 1), (4, .iadd), (5, .istore_n 3)] (by decide +kernel) rfl ?_
  refine Zn.eq (pc2 := 6) (ls2 := [some (za (A 0)), some (zi x), some (zi (fxA (r 1) p 0 : Int)), some (zi ((p : Int) - 5 + (0 : Int)))]) (st2 := []) (h2 := zov (LM A m r) h) rfl (zcons rfl (zcons rfl (zcons (congrArg (fun z => some (zi z)) (by first | rfl | omega)) (zcons (congrArg (fun z => some (zi z)) (by first | rfl | omega)) rfl)))) rfl (rfl) ?_
  have hD : zND (LM A m r) := hD
  refine xloop (P := fun i_1 => Zn (8, xI_X8_fixedAbove, 4, 1, 21, 0, 0, false) (some .int) 6 [some (za (A 0)), some (zi x), some (zi (fxA (r 1) p i_1 : Int)), some (zi ((p : Int) - 5 + (i_1 : Int)))] [] (zov (LM A m r) h) _) (12 - p) (fun i_1 hi_2 ih_3 => ?_) ?_
  · have hi_ : i_1 < 12 - p := hi_2
    have hki := hk (p + i_1 + 1) (by omega)
    have hfl := fxA_le (r 1) p i_1
    refine Zn.seg (pc2 := 9) (ls2 := [some (za (A 0)), some (zi x), some (zi (fxA (r 1) p i_1 : Int)), some (zi ((p : Int) - 5 + (i_1 : Int)))]) (st2 := [zi 7, zi ((p : Int) - 5 + (i_1 : Int))]) [(6, .iload_n 3), (7, .bipush 7)] (by decide +kernel) rfl ?_
    refine Zn.icmp (c := .ge) (off := 26) 35 (by decide +kernel) rfl ⟨by omega, by omega⟩ ⟨by decide, by decide⟩ (fun c_4 => absurd (show 7 ≤ (p : Int) - 5 + (i_1 : Int) from c_4) (by omega)) (fun c_4 => ?_)
    have c_4 : ¬ (7 ≤ (p : Int) - 5 + (i_1 : Int)) := c_4
    refine Zn.seg (pc2 := 15) (ls2 := [some (za (A 0)), some (zi x), some (zi (fxA (r 1) p i_1 : Int)), some (zi ((p : Int) - 5 + (i_1 : Int)))]) (st2 := [zi ((p : Int) - 5 + (i_1 : Int)), za (A 0), zi (fxA (r 1) p i_1 : Int)]) [(12, .iload_n 2), (13, .aload_n 0), (14, .iload_n 3)] (by decide +kernel) rfl ?_
    refine Zn.call (ins := .invokevirtual 81) [za (A 0), zi ((p : Int) - 5 + (i_1 : Int))] [zi (fxA (r 1) p i_1 : Int)] (by decide +kernel) rfl rfl rfl ⟨rfl, rfl⟩ ⟨rfl, rfl, rfl⟩ rfl (zrecvV hD (p := 0) rfl rfl rfl) (sp_X8_kind (A := A) (m := m) (r := r) (x := (p : Int) - 5 + (i_1 : Int)) (p := p + i_1 + 1) (zov_all hD) hD (by first | assumption | omega) (by first | assumption | omega)) (fun v h2 hp => ?_)
    obtain ⟨rfl, hq_5⟩ := hp
    refine Zn.eq (pc2 := 18) (ls2 := [some (za (A 0)), some (zi x), some (zi (fxA (r 1) p i_1 : Int)), some (zi ((p : Int) - 5 + (i_1 : Int)))]) (st2 := [zi (r 1 ((p + i_1 + 1) + 18)), zi (fxA (r 1) p i_1 : Int)]) (h2 := zov (LM A m r) h) rfl rfl rfl hq_5 ?_
    have hD : zND (LM A m r) := hD
    refine Zn.seg (pc2 := 19) (ls2 := [some (za (A 0)), some (zi x), some (zi (fxA (r 1) p i_1 : Int)), some (zi ((p : Int) - 5 + (i_1 : Int)))]) (st2 := [zi 2, zi (r 1 ((p + i_1 + 1) + 18)), zi (fxA (r 1) p i_1 : Int)]) [(18, .iconst 2)] (by decide +kernel) rfl ?_
    refine Zn.icmp (c := .ne) (off := 7) 26 (by decide +kernel) rfl ⟨by omega, by omega⟩ ⟨by decide, by decide⟩ (fun c_6 => ?_) (fun c_6 => ?_)
    · have c_6 : r 1 ((p + i_1 + 1) + 18) ≠ 2 := c_6
      refine Zn.seg (pc2 := 6) (ls2 := [some (za (A 0)), some (zi x), some (zi ((fxA (r 1) p i_1 : Int) + 0)), some (zi ((p : Int) - 5 + (i_1 : Int) + 1))]) (st2 := []) [(26, .iconst 0), (27, .iadd), (28, .istore_n 2), (29, .iinc 3 1), (32, .goto (-26))] (by decide +kernel) rfl ?_
      exact Zn.eq rfl (zcons rfl (zcons rfl (zcons (congrArg (fun z => some (zi z)) (by rw [fxA]; first | rw [if_pos (by omega)]; omega | rw [if_neg (by omega)]; omega)) (zcons (congrArg (fun z => some (zi z)) (by omega)) rfl)))) rfl (rfl) (ih_3)
    · have c_6 : ¬ (r 1 ((p + i_1 + 1) + 18) ≠ 2) := c_6
      refine Zn.seg (pc2 := 6) (ls2 := [some (za (A 0)), some (zi x), some (zi ((fxA (r 1) p i_1 : Int) + 1)), some (zi ((p : Int) - 5 + (i_1 : Int) + 1))]) (st2 := []) [(22, .iconst 1), (23, .goto 4), (27, .iadd), (28, .istore_n 2), (29, .iinc 3 1), (32, .goto (-26))] (by decide +kernel) rfl ?_
      exact Zn.eq rfl (zcons rfl (zcons rfl (zcons (congrArg (fun z => some (zi z)) (by rw [fxA]; first | rw [if_pos (by omega)]; omega | rw [if_neg (by omega)]; omega)) (zcons (congrArg (fun z => some (zi z)) (by omega)) rfl)))) rfl (rfl) (ih_3)
  · skip
    refine Zn.seg (pc2 := 9) (ls2 := [some (za (A 0)), some (zi x), some (zi (fxA (r 1) p (12 - p) : Int)), some (zi ((p : Int) - 5 + ((12 - p : Nat) : Int)))]) (st2 := [zi 7, zi ((p : Int) - 5 + ((12 - p : Nat) : Int))]) [(6, .iload_n 3), (7, .bipush 7)] (by decide +kernel) rfl ?_
    refine Zn.icmp (c := .ge) (off := 26) 35 (by decide +kernel) rfl ⟨by omega, by omega⟩ ⟨by decide, by decide⟩ (fun c_7 => ?_) (fun c_7 => absurd (show 7 ≤ (p : Int) - 5 + ((12 - p : Nat) : Int) from by omega) c_7)
    have c_7 : 7 ≤ (p : Int) - 5 + ((12 - p : Nat) : Int) := c_7
    refine Zn.seg (pc2 := 36) (ls2 := [some (za (A 0)), some (zi x), some (zi (fxA (r 1) p (12 - p) : Int)), some (zi ((p : Int) - 5 + ((12 - p : Nat) : Int)))]) (st2 := [zi (fxA (r 1) p (12 - p) : Int)]) [(35, .iload_n 2)] (by decide +kernel) rfl ?_
    exact Zn.iret (by decide +kernel) rfl (⟨by first | rfl | (refine congrArg some (congrArg zi ?_); first | omega | (simp_all; done) | (simp_all; omega)), hh.symm⟩)
