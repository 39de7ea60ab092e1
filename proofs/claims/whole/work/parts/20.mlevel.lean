/-! the reference's level error and its fit -/
def nfP (l : List Nat) (j : Nat) : Nat := l.getD j 0
def nfX (l : List Nat) (j : Nat) : Int := (nfP l j : Int) - 6
def nfY (R : Nat → Int) (l : List Nat) (j : Nat) : Int := nY R (nfP l j)
theorem arL_m {l : List Nat} {F : Nat → Int} {f : Nat → Int} {j : Nat} (h : j < l.length) : arL (l.map F) f j = F (nfP l j) := by
  simp only [arL, nfP, List.getD_eq_getElem?_getD, List.getElem?_map, List.getElem?_eq_getElem h, Option.map_some, Option.getD_some]
theorem nfP_in {l : List Nat} {j : Nat} (h : j < l.length) : nfP l j ∈ l := by
  simp only [nfP, List.getD_eq_getElem?_getD, List.getElem?_eq_getElem h, Option.getD_some]
  exact List.getElem_mem h
theorem nfP_lt {l : List Nat} {b : Nat → Bool} {j : Nat} (hL : l = plB b 13) (h : j < l.length) : nfP l j < 13 := by
  have h2 := nfP_in h
  have h3 : ∀ p, p ∈ l → p < 13 := fun p hp => by
    rw [hL] at hp
    exact (plB_mem.mp hp).1
  exact h3 _ h2
theorem ROK_q {R : Nat → Int} (h : ROK R) {p : Nat} (hp : p < 13) : -129 ≤ qv (fun j => R (j + 1)) ((p : Int) - 6) ∧ qv (fun j => R (j + 1)) ((p : Int) - 6) ≤ 129 := qv_le h.2.2.1 (by omega) (by omega)
theorem mul_bd {a b A B : Int} (h1 : -A ≤ a) (h2 : a ≤ A) (h3 : -B ≤ b) (h4 : b ≤ B) : -(A * B) ≤ a * b ∧ a * b ≤ A * B := by
  have e1 : (a * b).natAbs = a.natAbs * b.natAbs := Int.natAbs_mul a b
  have e2 : a.natAbs * b.natAbs ≤ A.natAbs * B.natAbs := Nat.mul_le_mul (by omega) (by omega)
  have e3 : (A * B).natAbs = A.natAbs * B.natAbs := Int.natAbs_mul A B
  have e4 : 0 ≤ A * B := Int.mul_nonneg (by omega) (by omega)
  omega
theorem ROK_y {R : Nat → Int} (h : ROK R) {p : Nat} (hp : p < 13) : -12771 ≤ nY R p ∧ nY R p ≤ 12771 := by
  have h1 := h.2.2.2.1 p hp
  have h2 := ROK_q h hp
  exact mul_bd (A := 99) (B := 129) h1.1 h1.2 h2.1 h2.2
theorem nF_spec (R : Nat → Int) (p : Nat) : (nF R p = 1 ∧ R (p + 18) = 1) ∨ (nF R p = 0 ∧ R (p + 18) ≠ 1) := by
  unfold nF
  split
  · exact Or.inl ⟨rfl, by assumption⟩
  · exact Or.inr ⟨rfl, by assumption⟩
/-- how many of the first nodes are free -/
def frC (R : Nat → Int) (l : List Nat) : Nat → Nat
  | 0 => 0
  | i + 1 => frC R l i + (if R (nfP l i + 18) = 1 then 1 else 0)
theorem frC_le (R : Nat → Int) (l : List Nat) : ∀ i, frC R l i ≤ i
  | 0 => Nat.le_refl 0
  | i + 1 => by
    have := frC_le R l i
    rw [frC]
    split <;> omega
def lvS (R : Nat → Int) (l : List Nat) : Nat → Int
  | 0 => 0
  | i + 1 => lvS R l i + (if R (nfP l i + 18) = 1 then dfA (nfX l) i l.length l.length * ((qv (fun j => R (j + 1)) ((nfP l i : Int) - 6)).natAbs : Int) else 0)
def lvO (R : Nat → Int) (l : List Nat) : Int := bdN (nfX l) (nfY R l) l.length l.length
def lvA (off sum : Int) (free : Nat) : Int := if free % 2 = 1 then off.tdiv (Int.gcd off sum : Int) else (-off).tdiv (Int.gcd off sum : Int)
theorem dfB_congr {f g : Nat → Int} {c a n : Nat} (h : ∀ j, j < n → f j = g j) : ∀ {k : Nat}, a + k + 1 ≤ n → dfB f c a k = dfB g c a k
  | 0, _ => rfl
  | k + 1, hk => by rw [dfB, dfB, dfB_congr h (k := k) (by omega), h (a + k + 1) (by omega), h a (by omega)]
theorem dfA_congr2 {f g : Nat → Int} {c n : Nat} (h : ∀ j, j < n → f j = g j) : ∀ {a : Nat}, a ≤ n → dfA f c n a = dfA g c n a
  | 0, _ => rfl
  | a + 1, ha => by rw [dfA, dfA, dfA_congr2 h (a := a) (by omega), dfB_congr h (by omega)]
theorem dfA_congr {f g : Nat → Int} {c n : Nat} (h : ∀ j, j < n → f j = g j) : dfA f c n n = dfA g c n n := dfA_congr2 h (Nat.le_refl n)
theorem bdN_congr2 {f g f2 g2 : Nat → Int} {n : Nat} (h : ∀ j, j < n → f j = f2 j) (h2 : ∀ j, j < n → g j = g2 j) : ∀ {i : Nat}, i ≤ n → bdN f g n i = bdN f2 g2 n i
  | 0, _ => rfl
  | i + 1, hi => by rw [bdN, bdN, bdN_congr2 h h2 (i := i) (by omega), dfA_congr h, h2 i (by omega)]
theorem bdN_congr {f g f2 g2 : Nat → Int} {n : Nat} (h : ∀ j, j < n → f j = f2 j) (h2 : ∀ j, j < n → g j = g2 j) : bdN f g n n = bdN f2 g2 n n := bdN_congr2 h h2 (Nat.le_refl n)
theorem gcd_rng {a b : Int} (hb : 0 < b) : 0 < (Int.gcd a b : Int) ∧ (Int.gcd a b : Int) ≤ b := by
  have h1 : 0 < b.natAbs := by omega
  have h2 : Nat.gcd a.natAbs b.natAbs ≤ b.natAbs := Nat.gcd_le_right _ h1
  have h3 : 0 < Nat.gcd a.natAbs b.natAbs := Nat.gcd_pos_of_pos_right _ h1
  have h4 : (Int.gcd a b : Int) = (Nat.gcd a.natAbs b.natAbs : Int) := rfl
  omega
theorem gcd_rng0 {a b : Int} (hb : b ≠ 0) : 0 < (Int.gcd a b : Int) ∧ (Int.gcd a b : Int) ≤ (b.natAbs : Int) := by
  have h1 : 0 < b.natAbs := by omega
  have h2 : Nat.gcd a.natAbs b.natAbs ≤ b.natAbs := Nat.gcd_le_right _ h1
  have h3 : 0 < Nat.gcd a.natAbs b.natAbs := Nat.gcd_pos_of_pos_right _ h1
  have h4 : (Int.gcd a b : Int) = (Nat.gcd a.natAbs b.natAbs : Int) := rfl
  omega
theorem cpF_st {f g : Nat → Int} {k : Nat} {v : Int} (h : v = f k) : va_up (cpF f g k) k v = cpF f g (k + 1) := by rw [h, cpF_step]
theorem cpF_st2 {f g : Nat → Int} {k : Nat} {v1 v2 : Int} (h : v2 = f k) : va_up (va_up (cpF f g k) k v1) k v2 = cpF f g (k + 1) := by
  rw [← cpF_step, ← h]
  funext j
  simp only [va_up]
  split <;> rfl
/-- y times what is beneath less the level error, times the number below -/
def fpV (R : Nat → Int) (l : List Nat) (a b : Int) (i : Nat) : Int := if R (nfP l i + 18) = 1 then nY R (nfP l i) * b - (if (frC R l i + fxA R (nfP l i) (12 - nfP l i)) % 2 = 0 then a * ((qv (fun j => R (j + 1)) ((nfP l i : Int) - 6)).natAbs : Int) else -(a * ((qv (fun j => R (j + 1)) ((nfP l i : Int) - 6)).natAbs : Int))) else nY R (nfP l i) * b
def vdB (f : Nat → Int) (a : Nat) : Nat → Int
  | 0 => 1
  | k + 1 => vdB f a k * (f (a + k + 1) - f a)
def vdA (f : Nat → Int) (n : Nat) : Nat → Int
  | 0 => 1
  | a + 1 => vdA f n a * vdB f a (n - (a + 1))
def sgT (n i : Nat) : Int := if (n - 1 - i) % 2 = 0 then 1 else -1
def pxN (f : Nat → Int) (x : Int) (i : Nat) : Nat → Int
  | 0 => 1
  | j + 1 => pxN f x i j * (if j = i then 1 else x - f j)
def upN (f g : Nat → Int) (x : Int) (n : Nat) : Nat → Int
  | 0 => 0
  | i + 1 => upN f g x n i + g i * (sgT n i * dfA f i n n) * pxN f x i n
def fdU (u w : Int) : Int := if w < 0 then (-u).tdiv (Int.gcd u w : Int) else u.tdiv (Int.gcd u w : Int)
def cmpV (a b c d : Int) : Int := if a * d < c * b then -1 else if a * d = c * b then 0 else 1
theorem tdv_r {a b : Int} (ha : 0 ≤ a) (hb : 0 < b) : 0 ≤ a.tdiv b ∧ a.tdiv b ≤ a ∧ 0 ≤ a.tmod b ∧ a.tmod b < b ∧ a = b * a.tdiv b + a.tmod b := by
  refine ⟨Int.tdiv_nonneg ha (by omega), ?_, Int.tmod_nonneg b ha, Int.tmod_lt_of_pos a hb, (Int.mul_tdiv_add_tmod a b).symm⟩
  have h1 := Int.tmod_nonneg b ha
  have h2 := Int.mul_tdiv_add_tmod a b
  have h3 : 0 ≤ a.tdiv b := Int.tdiv_nonneg ha (by omega)
  have h4 : 0 ≤ (b - 1) * a.tdiv b := Int.mul_nonneg (by omega) h3
  rw [Int.sub_mul] at h4
  omega
theorem cmp_st {a b c d : Int} (ha : 0 ≤ a) (hb : 0 < b) (hc : 0 ≤ c) (hd : 0 < d) : (a.tdiv b < c.tdiv d → cmpV a b c d = -1) ∧ (c.tdiv d < a.tdiv b → cmpV a b c d = 1) ∧
    (a.tdiv b = c.tdiv d → (a.tmod b = 0 ∨ c.tmod d = 0) → cmpV a b c d = if a.tmod b = c.tmod d then 0 else if a.tmod b = 0 then -1 else 1) ∧
    (a.tdiv b = c.tdiv d → cmpV d (c.tmod d) b (a.tmod b) = cmpV a b c d) := by
  have ⟨p1, p2, p3, p4, p5⟩ := tdv_r ha hb
  have ⟨q1, q2, q3, q4, q5⟩ := tdv_r hc hd
  generalize a.tdiv b = k at *
  generalize c.tdiv d = j at *
  generalize a.tmod b = e at *
  generalize c.tmod d = f at *
  subst p5
  subst q5
  have x1 : (b * k + e) * d = b * d * k + e * d := by rw [Int.add_mul]; congr 1; rw [Int.mul_right_comm]
  have x2 : (d * j + f) * b = b * d * j + f * b := by rw [Int.add_mul]; congr 1; rw [Int.mul_right_comm, Int.mul_comm d b]
  have y1 : 0 ≤ e * d := Int.mul_nonneg p3 (by omega)
  have y2 : 0 ≤ f * b := Int.mul_nonneg q3 (by omega)
  have y3 : e * d < b * d := Int.mul_lt_mul_of_pos_right p4 hd
  have y4 : f * b < b * d := by rw [Int.mul_comm b d]; exact Int.mul_lt_mul_of_pos_right q4 hb
  have y5 : 0 < b * d := Int.mul_pos hb hd
  unfold cmpV
  rw [x1, x2]
  refine ⟨fun h => ?_, fun h => ?_, fun h h2 => ?_, fun h => ?_⟩
  · have z := Int.mul_le_mul_of_nonneg_left (show k + 1 ≤ j by omega) (Int.le_of_lt y5)
    rw [Int.mul_add] at z
    rw [if_pos (by omega)]
  · have z := Int.mul_le_mul_of_nonneg_left (show j + 1 ≤ k by omega) (Int.le_of_lt y5)
    rw [Int.mul_add] at z
    rw [if_neg (by omega), if_neg (by omega)]
  · subst h
    rcases h2 with rfl | rfl
    · by_cases hf : f = 0
      · subst hf
        simp
      · have : 0 < f * b := Int.mul_pos (by omega) hb
        rw [if_pos (by omega), if_neg (by omega), if_pos rfl]
    · by_cases he : e = 0
      · subst he
        simp
      · have : 0 < e * d := Int.mul_pos (by omega) hd
        rw [if_neg (by omega), if_neg (by omega), if_neg he, if_neg he]
  · subst h
    rw [Int.mul_comm d e, Int.mul_comm b f]
    by_cases g1 : e * d < f * b
    · rw [if_pos g1, if_pos (by omega)]
    · by_cases g2 : e * d = f * b
      · rw [if_neg g1, if_pos g2, if_neg (by omega), if_pos (by omega)]
      · rw [if_neg g1, if_neg g2, if_neg (by omega), if_neg (by omega)]
def sgV (x : Int) : Int := if x < 0 then -1 else if 0 < x then 1 else 0
theorem sgV_spec (x : Int) : (sgV x = -1 ∧ x < 0) ∨ (sgV x = 1 ∧ 0 < x) ∨ (sgV x = 0 ∧ x = 0) := by
  unfold sgV
  split
  · exact Or.inl ⟨rfl, by assumption⟩
  · split
    · exact Or.inr (Or.inl ⟨rfl, by assumption⟩)
    · exact Or.inr (Or.inr ⟨rfl, by omega⟩)
def tauV (R : Nat → Int) (p : Nat) : Int := if fxA R p (12 - p) % 2 = 0 then 1 else -1
theorem manyN_c (R : Nat → Int) (k : Int) (n : Nat) : (0 < R (n + 18) ∧ (k = 0 ∨ R (n + 18) = k) ∧ manyN R k (n + 1) = manyN R k n + 1) ∨ (¬ (0 < R (n + 18) ∧ (k = 0 ∨ R (n + 18) = k)) ∧ manyN R k (n + 1) = manyN R k n) := by
  by_cases h : 0 < R (n + 18) ∧ (k = 0 ∨ R (n + 18) = k)
  · exact Or.inl ⟨h.1, h.2, manyN_t h.1 h.2⟩
  · exact Or.inr ⟨h, manyN_f h⟩
/-- the first free points, as many as a reference has -/
def frsB (R : Nat → Int) : Nat → Bool := fun p => decide (R (p + 18) = 1 ∧ (manyN R 1 p : Int) < R 0 + 2 - (manyN R 2 13 : Int))
theorem sp_X8_takesSet2 {h : xH} {A : Nat → Nat} {m : Nat → Int} {r : Nat → Nat → Int} {s : Nat} {l : List Nat} (hL : ∀ q ∈ LM A m r, h q.1 = zcE q.2) (hD : zND (LM A m r)) (hs : s < 8192) (hR : ROK (r 1)) (hLl : l = plB (selB (r 1) s) 13) (hl : l.length ≤ 8) : zEv k_X8_takesSet [za (A 0), zi (s : Int)] h (fun v h2 => v = none ∧ h2 = zov (LM A (va_up m 19 (l.length : Int)) (va_up (va_up (va_up r 11 (arL (l.map nX) (r 11))) 12 (arL (l.map (nY (r 1))) (r 12))) 13 (arL (l.map (nF (r 1))) (r 13)))) h) := by
  subst hLl
  exact sp_X8_takesSet hL hD hs hR hl
set_option maxHeartbeats 1000000 in
theorem sp_X8_levels {h : xH} {A : Nat → Nat} {m : Nat → Int} {r : Nat → Nat → Int} {s : Nat} {l : List Nat} {a b : Int} (hL : ∀ q ∈ LM A m r, h q.1 = zcE q.2) (hD : zND (LM A m r)) (hs : s < 8192) (hR : ROK (r 1)) (hLl : l = plB (selB (r 1) s) 13) (hl : l.length ≤ 8) (hsp : 0 < lvS (r 1) l l.length ∧ lvS (r 1) l l.length ≤ 4611686018427387904) (hob : -4611686018427387904 ≤ lvO (r 1) l ∧ lvO (r 1) l ≤ 4611686018427387904) (ha : a = lvA (lvO (r 1) l) (lvS (r 1) l l.length) (frC (r 1) l l.length)) (hb : b = (lvS (r 1) l l.length).tdiv (Int.gcd (lvO (r 1) l) (lvS (r 1) l l.length) : Int)) : zEv k_X8_levels [za (A 0), zi (s : Int)] h (fun v h2 => v = none ∧ h2 = zov (LM A (va_up (va_up (va_up m 19 (l.length : Int)) 20 a) 21 b) (va_up (va_up (va_up r 11 (arL (l.map nX) (r 11))) 12 (arL (l.map (nY (r 1))) (r 12))) 13 (arL (l.map (nF (r 1))) (r 13)))) h) := by
  have hh : h = zov (LM A m r) h := zov_self hL
  have hfc := frC_le (r 1) l l.length
  refine zEv.body (I := (8, xI_X8_levels, 9, 2, 51, 0, 0, false)) (rt := none) [some (za (A 0)), some (zi (s : Int)), none, none, none, none, none, none, none] rfl rfl rfl rfl ?_
  refine Zn.eq rfl rfl rfl hh ?_
  have hD : zND (LM A m r) := hD
  refine Zn.seg (pc2 := 2) (ls2 := [some (za (A 0)), some (zi (s : Int)), none, none, none, none, none, none, none]) (st2 := [zi (s : Int), za (A 0)]) [(0, .aload_n 0), (1, .iload_n 1)] (by decide +kernel) rfl ?_
  refine Zn.call (ins := .invokevirtual 188) [za (A 0), zi (s : Int)] [] (by decide +kernel) rfl rfl rfl ⟨rfl, rfl⟩ ⟨rfl, rfl, rfl⟩ rfl (zrecvV hD (p := 0) rfl rfl rfl) (sp_X8_takesSet2 (A := A) (m := m) (r := r) (s := s) (l := l) (zov_all hD) hD (by first | assumption | omega) (by first | assumption | omega) (by first | assumption | omega) (by first | assumption | omega)) (fun v h2 hp => ?_)
  obtain ⟨rfl, hq_1⟩ := hp
  refine Zn.eq (pc2 := 5) (ls2 := [some (za (A 0)), some (zi (s : Int)), none, none, none, none, none, none, none]) (st2 := []) (h2 := zov (LM A (va_up m 19 (l.length : Int)) (va_up (va_up (va_up r 11 (arL (l.map nX) (r 11))) 12 (arL (l.map (nY (r 1))) (r 12))) 13 (arL (l.map (nF (r 1))) (r 13)))) h) rfl rfl rfl (hq_1.trans (LM_over _ _ _ _ _ _)) ?_
  have hD : zND (LM A (va_up m 19 (l.length : Int)) (va_up (va_up (va_up r 11 (arL (l.map nX) (r 11))) 12 (arL (l.map (nY (r 1))) (r 12))) 13 (arL (l.map (nF (r 1))) (r 13)))) := hD
  refine Zn.seg (pc2 := 13) (ls2 := [some (za (A 0)), some (zi (s : Int)), some (zj 0), none, some (zi 0), some (zi 0), none, none, none]) (st2 := []) [(5, .lconst 0), (6, .lstore_n 2), (7, .iconst 0), (8, .istore 4), (10, .iconst 0), (11, .istore 5)] (by decide +kernel) rfl ?_
  refine Zn.eq (pc2 := 13) (ls2 := [some (za (A 0)), some (zi (s : Int)), some (zj (lvS (r 1) l 0)), none, some (zi (frC (r 1) l 0 : Int)), some (zi (0 : Int)), none, none, none]) (st2 := []) (h2 := zov (LM A (va_up m 19 (l.length : Int)) (va_up (va_up (va_up r 11 (arL (l.map nX) (r 11))) 12 (arL (l.map (nY (r 1))) (r 12))) 13 (arL (l.map (nF (r 1))) (r 13)))) h) rfl (zcons rfl (zcons rfl (zcons (congrArg (fun z => some (zj z)) (by first | rfl | omega | simp)) (zcons rfl (zcons (congrArg (fun z => some (zi z)) (by first | rfl | omega | simp)) (zcons (congrArg (fun z => some (zi z)) (by first | rfl | omega | simp)) rfl)))))) rfl (rfl) ?_
  have hD : zND (LM A (va_up m 19 (l.length : Int)) (va_up (va_up (va_up r 11 (arL (l.map nX) (r 11))) 12 (arL (l.map (nY (r 1))) (r 12))) 13 (arL (l.map (nF (r 1))) (r 13)))) := hD
  refine xloop (P := fun i_2 => ∀ j_4 j_5 j_6 : Option zV, Zn (8, xI_X8_levels, 9, 2, 51, 0, 0, false) none 13 [some (za (A 0)), some (zi (s : Int)), some (zj (lvS (r 1) l i_2)), none, some (zi (frC (r 1) l i_2 : Int)), some (zi (i_2 : Int)), j_4, j_5, j_6] [] (zov (LM A (va_up m 19 (l.length : Int)) (va_up (va_up (va_up r 11 (arL (l.map nX) (r 11))) 12 (arL (l.map (nY (r 1))) (r 12))) 13 (arL (l.map (nF (r 1))) (r 13)))) h) _) (l.length) (fun i_2 hi_7 ih_8 j_4 j_5 j_6 => ?_) (fun j_4 j_5 j_6 => ?_) none none none
  · have hi_ : i_2 < l.length := hi_7
    have hnl := nfP_lt hLl hi_
    have hqr := ROK_q hR hnl
    have hnf := nF_spec (r 1) (nfP l i_2)
    have hfc := frC_le (r 1) l i_2
    have hyr := ROK_y hR hnl
    refine Zn.seg (pc2 := 16) (ls2 := [some (za (A 0)), some (zi (s : Int)), some (zj (lvS (r 1) l i_2)), none, some (zi (frC (r 1) l i_2 : Int)), some (zi (i_2 : Int)), j_4, j_5, j_6]) (st2 := [za (A 0), zi (i_2 : Int)]) [(13, .iload 5), (15, .aload_n 0)] (by decide +kernel) rfl ?_
    refine Zn.get (ix := 178) hD 0 (by decide +kernel) rfl rfl rfl ?_
    refine Zn.eq (st2 := [zi (l.length : Int), zi (i_2 : Int)]) rfl rfl rfl rfl ?_
    refine Zn.icmp (c := .ge) (off := 72) 91 (by decide +kernel) rfl ⟨by omega, by omega⟩ ⟨by omega, by omega⟩ (fun c_9 => absurd (show (l.length : Int) ≤ (i_2 : Int) from c_9) (by omega)) (fun c_9 => ?_)
    have c_9 : ¬ ((l.length : Int) ≤ (i_2 : Int)) := c_9
    refine Zn.seg (pc2 := 24) (ls2 := [some (za (A 0)), some (zi (s : Int)), some (zj (lvS (r 1) l i_2)), none, some (zi (frC (r 1) l i_2 : Int)), some (zi (i_2 : Int)), j_4, j_5, j_6]) (st2 := [za (A 0), zj (lvS (r 1) l i_2)]) [(22, .lload_n 2), (23, .aload_n 0)] (by decide +kernel) rfl ?_
    refine Zn.get (ix := 51) hD 0 (by decide +kernel) rfl rfl rfl ?_
    refine Zn.seg (pc2 := 29) (ls2 := [some (za (A 0)), some (zi (s : Int)), some (zj (lvS (r 1) l i_2)), none, some (zi (frC (r 1) l i_2 : Int)), some (zi (i_2 : Int)), j_4, j_5, j_6]) (st2 := [zi (i_2 : Int), za (A 13), zj (lvS (r 1) l i_2)]) [(27, .iload 5)] (by decide +kernel) rfl ?_
    refine Zn.bald hD 13 (i_2) (by decide +kernel) rfl (by omega) (by omega) rfl ?_
    refine Zn.eq (st2 := [zi ((arL (l.map (nF (r 1))) (r 13)) i_2), zj (lvS (r 1) l i_2)]) rfl rfl rfl rfl ?_
    refine Zn.topi (y := nF (r 1) (nfP l i_2)) (arL_m (F := nF (r 1)) (by omega)) ?_
    refine Zn.ifc (c := .eq) (off := 32) 62 (by decide +kernel) rfl ⟨by omega, by omega⟩ (fun c_10 => ?_) (fun c_10 => ?_)
    · have c_10 : nF (r 1) (nfP l i_2) = 0 := c_10
      refine Zn.seg (pc2 := 68) (ls2 := [some (za (A 0)), some (zi (s : Int)), some (zj (lvS (r 1) l i_2 + 0)), none, some (zi (frC (r 1) l i_2 : Int)), some (zi (i_2 : Int)), j_4, j_5, j_6]) (st2 := [za (A 0), zi (frC (r 1) l i_2 : Int)]) [(62, .lconst 0), (63, .ladd), (64, .lstore_n 2), (65, .iload 4), (67, .aload_n 0)] (by decide +kernel) rfl ?_
      refine Zn.get (ix := 51) hD 0 (by decide +kernel) rfl rfl rfl ?_
      refine Zn.seg (pc2 := 73) (ls2 := [some (za (A 0)), some (zi (s : Int)), some (zj (lvS (r 1) l i_2 + 0)), none, some (zi (frC (r 1) l i_2 : Int)), some (zi (i_2 : Int)), j_4, j_5, j_6]) (st2 := [zi (i_2 : Int), za (A 13), zi (frC (r 1) l i_2 : Int)]) [(71, .iload 5)] (by decide +kernel) rfl ?_
      refine Zn.bald hD 13 (i_2) (by decide +kernel) rfl (by omega) (by omega) rfl ?_
      refine Zn.eq (st2 := [zi ((arL (l.map (nF (r 1))) (r 13)) i_2), zi (frC (r 1) l i_2 : Int)]) rfl rfl rfl rfl ?_
      refine Zn.topi (y := nF (r 1) (nfP l i_2)) (arL_m (F := nF (r 1)) (by omega)) ?_
      refine Zn.ifc (c := .eq) (off := 7) 81 (by decide +kernel) rfl ⟨by omega, by omega⟩ (fun c_11 => ?_) (fun c_11 => ?_)
      · have c_11 : nF (r 1) (nfP l i_2) = 0 := c_11
        refine Zn.seg (pc2 := 13) (ls2 := [some (za (A 0)), some (zi (s : Int)), some (zj (lvS (r 1) l i_2 + 0)), none, some (zi ((frC (r 1) l i_2 : Int) + 0)), some (zi ((i_2 : Int) + 1)), j_4, j_5, j_6]) (st2 := []) [(81, .iconst 0), (82, .iadd), (83, .istore 4), (85, .iinc 5 1), (88, .goto (-75))] (by decide +kernel) rfl ?_
        exact Zn.eq rfl (zcons rfl (zcons rfl (zcons (congrArg (fun z => some (zj z)) (by rw [lvS]; first | (exfalso; omega) | rw [if_pos (by omega)] | rw [if_neg (by omega)])) (zcons rfl (zcons (congrArg (fun z => some (zi z)) (by rw [frC]; first | (exfalso; omega) | (rw [if_pos (by omega)]; omega) | (rw [if_neg (by omega)]; omega))) (zcons (congrArg (fun z => some (zi z)) (by omega)) rfl)))))) rfl (rfl) (ih_8 j_4 j_5 j_6)
      · have c_11 : ¬ (nF (r 1) (nfP l i_2) = 0) := c_11
        refine Zn.seg (pc2 := 13) (ls2 := [some (za (A 0)), some (zi (s : Int)), some (zj (lvS (r 1) l i_2 + 0)), none, some (zi ((frC (r 1) l i_2 : Int) + 1)), some (zi ((i_2 : Int) + 1)), j_4, j_5, j_6]) (st2 := []) [(77, .iconst 1), (78, .goto 4), (82, .iadd), (83, .istore 4), (85, .iinc 5 1), (88, .goto (-75))] (by decide +kernel) rfl ?_
        exact Zn.eq rfl (zcons rfl (zcons rfl (zcons (congrArg (fun z => some (zj z)) (by rw [lvS]; first | (exfalso; omega) | rw [if_pos (by omega)] | rw [if_neg (by omega)])) (zcons rfl (zcons (congrArg (fun z => some (zi z)) (by rw [frC]; first | (exfalso; omega) | (rw [if_pos (by omega)]; omega) | (rw [if_neg (by omega)]; omega))) (zcons (congrArg (fun z => some (zi z)) (by omega)) rfl)))))) rfl (rfl) (ih_8 j_4 j_5 j_6)
    · have c_10 : ¬ (nF (r 1) (nfP l i_2) = 0) := c_10
      refine Zn.seg (pc2 := 37) (ls2 := [some (za (A 0)), some (zi (s : Int)), some (zj (lvS (r 1) l i_2)), none, some (zi (frC (r 1) l i_2 : Int)), some (zi (i_2 : Int)), j_4, j_5, j_6]) (st2 := [za (A 0), zi (i_2 : Int), za (A 0), zj (lvS (r 1) l i_2)]) [(33, .aload_n 0), (34, .iload 5), (36, .aload_n 0)] (by decide +kernel) rfl ?_
      refine Zn.get (ix := 178) hD 0 (by decide +kernel) rfl rfl rfl ?_
      refine Zn.eq (st2 := [zi (l.length : Int), zi (i_2 : Int), za (A 0), zj (lvS (r 1) l i_2)]) rfl rfl rfl rfl ?_
      refine Zn.call (ins := .invokevirtual 181) [za (A 0), zi (i_2 : Int), zi (l.length : Int)] [zj (lvS (r 1) l i_2)] (by decide +kernel) rfl rfl rfl ⟨rfl, rfl⟩ ⟨rfl, rfl, rfl⟩ rfl (zrecvV hD (p := 0) rfl rfl rfl) (sp_X8_differences (A := A) (m := va_up m 19 (l.length : Int)) (r := va_up (va_up (va_up r 11 (arL (l.map nX) (r 11))) 12 (arL (l.map (nY (r 1))) (r 12))) 13 (arL (l.map (nF (r 1))) (r 13))) (c := i_2) (n := l.length) (zov_all hD) hD (hl) (by omega) (fun j hj => by rw [show (va_up (va_up (va_up r 11 (arL (l.map nX) (r 11))) 12 (arL (l.map (nY (r 1))) (r 12))) 13 (arL (l.map (nF (r 1))) (r 13))) 11 = arL (l.map nX) (r 11) from rfl, arL_m hj]; have := nfP_lt hLl hj; unfold nX; omega)) (fun v h2 hp => ?_)
      obtain ⟨rfl, hq_12⟩ := hp
      refine Zn.eq (pc2 := 43) (ls2 := [some (za (A 0)), some (zi (s : Int)), some (zj (lvS (r 1) l i_2)), none, some (zi (frC (r 1) l i_2 : Int)), some (zi (i_2 : Int)), j_4, j_5, j_6]) (st2 := [zj (dfA ((arL (l.map nX) (r 11))) i_2 l.length l.length), zj (lvS (r 1) l i_2)]) (h2 := zov (LM A (va_up m 19 (l.length : Int)) (va_up (va_up (va_up r 11 (arL (l.map nX) (r 11))) 12 (arL (l.map (nY (r 1))) (r 12))) 13 (arL (l.map (nF (r 1))) (r 13)))) h) rfl rfl rfl hq_12 ?_
      have hD : zND (LM A (va_up m 19 (l.length : Int)) (va_up (va_up (va_up r 11 (arL (l.map nX) (r 11))) 12 (arL (l.map (nY (r 1))) (r 12))) 13 (arL (l.map (nF (r 1))) (r 13)))) := hD
      refine Zn.topj (y := dfA (nfX l) i_2 l.length l.length) (congrArg zJ (dfA_congr (fun j hj => arL_m (F := nX) hj))) ?_
      refine Zn.seg (pc2 := 45) (ls2 := [some (za (A 0)), some (zi (s : Int)), some (zj (lvS (r 1) l i_2)), none, some (zi (frC (r 1) l i_2 : Int)), some (zi (i_2 : Int)), j_4, j_5, j_6]) (st2 := [za (A 0), za (A 0), zj (dfA (nfX l) i_2 l.length l.length), zj (lvS (r 1) l i_2)]) [(43, .aload_n 0), (44, .aload_n 0)] (by decide +kernel) rfl ?_
      refine Zn.get (ix := 45) hD 0 (by decide +kernel) rfl rfl rfl ?_
      refine Zn.seg (pc2 := 50) (ls2 := [some (za (A 0)), some (zi (s : Int)), some (zj (lvS (r 1) l i_2)), none, some (zi (frC (r 1) l i_2 : Int)), some (zi (i_2 : Int)), j_4, j_5, j_6]) (st2 := [zi (i_2 : Int), za (A 11), za (A 0), zj (dfA (nfX l) i_2 l.length l.length), zj (lvS (r 1) l i_2)]) [(48, .iload 5)] (by decide +kernel) rfl ?_
      refine Zn.iald hD 11 (i_2) (by decide +kernel) rfl (by omega) (by omega) rfl ?_
      refine Zn.eq (st2 := [zi ((arL (l.map nX) (r 11)) i_2), za (A 0), zj (dfA (nfX l) i_2 l.length l.length), zj (lvS (r 1) l i_2)]) rfl rfl rfl rfl ?_
      refine Zn.topi (y := (nfP l i_2 : Int) - 6) (arL_m (F := nX) (by omega)) ?_
      refine Zn.call (ins := .invokevirtual 85) [za (A 0), zi ((nfP l i_2 : Int) - 6)] [zj (dfA (nfX l) i_2 l.length l.length), zj (lvS (r 1) l i_2)] (by decide +kernel) rfl rfl rfl ⟨rfl, rfl⟩ ⟨rfl, rfl, rfl⟩ rfl (zrecvV hD (p := 0) rfl rfl rfl) (sp_X8_beneath (A := A) (m := va_up m 19 (l.length : Int)) (r := va_up (va_up (va_up r 11 (arL (l.map nX) (r 11))) 12 (arL (l.map (nY (r 1))) (r 12))) 13 (arL (l.map (nF (r 1))) (r 13))) (x := (nfP l i_2 : Int) - 6) (zov_all hD) hD) (fun v h2 hp => ?_)
      obtain ⟨rfl, hq_13⟩ := hp
      refine Zn.eq (pc2 := 54) (ls2 := [some (za (A 0)), some (zi (s : Int)), some (zj (lvS (r 1) l i_2)), none, some (zi (frC (r 1) l i_2 : Int)), some (zi (i_2 : Int)), j_4, j_5, j_6]) (st2 := [zi (qv (fun j => (r 1) (j + 1)) ((nfP l i_2 : Int) - 6)), zj (dfA (nfX l) i_2 l.length l.length), zj (lvS (r 1) l i_2)]) (h2 := zov (LM A (va_up m 19 (l.length : Int)) (va_up (va_up (va_up r 11 (arL (l.map nX) (r 11))) 12 (arL (l.map (nY (r 1))) (r 12))) 13 (arL (l.map (nF (r 1))) (r 13)))) h) rfl rfl rfl hq_13 ?_
      have hD : zND (LM A (va_up m 19 (l.length : Int)) (va_up (va_up (va_up r 11 (arL (l.map nX) (r 11))) 12 (arL (l.map (nY (r 1))) (r 12))) 13 (arL (l.map (nF (r 1))) (r 13)))) := hD
      refine Zn.i2l (by decide +kernel) ⟨by omega, by omega⟩ ?_
      refine Zn.call (ins := .invokestatic 192) [zj (qv (fun j => (r 1) (j + 1)) ((nfP l i_2 : Int) - 6))] [zj (dfA (nfX l) i_2 l.length l.length), zj (lvS (r 1) l i_2)] (by decide +kernel) rfl rfl rfl ⟨rfl, rfl⟩ ⟨rfl, rfl, rfl⟩ rfl (zrecvS (by decide)) (sp_X8_plain (x := qv (fun j => (r 1) (j + 1)) ((nfP l i_2 : Int) - 6)) (by first | assumption | omega) (by first | assumption | omega)) (fun v h2 hp => ?_)
      obtain ⟨rfl, hq_14⟩ := hp
      refine Zn.eq (pc2 := 58) (ls2 := [some (za (A 0)), some (zi (s : Int)), some (zj (lvS (r 1) l i_2)), none, some (zi (frC (r 1) l i_2 : Int)), some (zi (i_2 : Int)), j_4, j_5, j_6]) (st2 := [zj ((qv (fun j => (r 1) (j + 1)) ((nfP l i_2 : Int) - 6)).natAbs : Int), zj (dfA (nfX l) i_2 l.length l.length), zj (lvS (r 1) l i_2)]) (h2 := zov (LM A (va_up m 19 (l.length : Int)) (va_up (va_up (va_up r 11 (arL (l.map nX) (r 11))) 12 (arL (l.map (nY (r 1))) (r 12))) 13 (arL (l.map (nF (r 1))) (r 13)))) h) rfl rfl rfl hq_14 ?_
      have hD : zND (LM A (va_up m 19 (l.length : Int)) (va_up (va_up (va_up r 11 (arL (l.map nX) (r 11))) 12 (arL (l.map (nY (r 1))) (r 12))) 13 (arL (l.map (nF (r 1))) (r 13)))) := hD
      refine Zn.seg (pc2 := 68) (ls2 := [some (za (A 0)), some (zi (s : Int)), some (zj (lvS (r 1) l i_2 + ((dfA (nfX l) i_2 l.length l.length) * ((qv (fun j => (r 1) (j + 1)) ((nfP l i_2 : Int) - 6)).natAbs : Int)))), none, some (zi (frC (r 1) l i_2 : Int)), some (zi (i_2 : Int)), j_4, j_5, j_6]) (st2 := [za (A 0), zi (frC (r 1) l i_2 : Int)]) [(58, .lmul), (59, .goto 4), (63, .ladd), (64, .lstore_n 2), (65, .iload 4), (67, .aload_n 0)] (by decide +kernel) rfl ?_
      refine Zn.get (ix := 51) hD 0 (by decide +kernel) rfl rfl rfl ?_
      refine Zn.seg (pc2 := 73) (ls2 := [some (za (A 0)), some (zi (s : Int)), some (zj (lvS (r 1) l i_2 + ((dfA (nfX l) i_2 l.length l.length) * ((qv (fun j => (r 1) (j + 1)) ((nfP l i_2 : Int) - 6)).natAbs : Int)))), none, some (zi (frC (r 1) l i_2 : Int)), some (zi (i_2 : Int)), j_4, j_5, j_6]) (st2 := [zi (i_2 : Int), za (A 13), zi (frC (r 1) l i_2 : Int)]) [(71, .iload 5)] (by decide +kernel) rfl ?_
      refine Zn.bald hD 13 (i_2) (by decide +kernel) rfl (by omega) (by omega) rfl ?_
      refine Zn.eq (st2 := [zi ((arL (l.map (nF (r 1))) (r 13)) i_2), zi (frC (r 1) l i_2 : Int)]) rfl rfl rfl rfl ?_
      refine Zn.topi (y := nF (r 1) (nfP l i_2)) (arL_m (F := nF (r 1)) (by omega)) ?_
      refine Zn.ifc (c := .eq) (off := 7) 81 (by decide +kernel) rfl ⟨by omega, by omega⟩ (fun c_15 => ?_) (fun c_15 => ?_)
      · have c_15 : nF (r 1) (nfP l i_2) = 0 := c_15
        refine Zn.seg (pc2 := 13) (ls2 := [some (za (A 0)), some (zi (s : Int)), some (zj (lvS (r 1) l i_2 + ((dfA (nfX l) i_2 l.length l.length) * ((qv (fun j => (r 1) (j + 1)) ((nfP l i_2 : Int) - 6)).natAbs : Int)))), none, some (zi ((frC (r 1) l i_2 : Int) + 0)), some (zi ((i_2 : Int) + 1)), j_4, j_5, j_6]) (st2 := []) [(81, .iconst 0), (82, .iadd), (83, .istore 4), (85, .iinc 5 1), (88, .goto (-75))] (by decide +kernel) rfl ?_
        exact Zn.eq rfl (zcons rfl (zcons rfl (zcons (congrArg (fun z => some (zj z)) (by rw [lvS]; first | (exfalso; omega) | rw [if_pos (by omega)] | rw [if_neg (by omega)])) (zcons rfl (zcons (congrArg (fun z => some (zi z)) (by rw [frC]; first | (exfalso; omega) | (rw [if_pos (by omega)]; omega) | (rw [if_neg (by omega)]; omega))) (zcons (congrArg (fun z => some (zi z)) (by omega)) rfl)))))) rfl (rfl) (ih_8 j_4 j_5 j_6)
      · have c_15 : ¬ (nF (r 1) (nfP l i_2) = 0) := c_15
        refine Zn.seg (pc2 := 13) (ls2 := [some (za (A 0)), some (zi (s : Int)), some (zj (lvS (r 1) l i_2 + ((dfA (nfX l) i_2 l.length l.length) * ((qv (fun j => (r 1) (j + 1)) ((nfP l i_2 : Int) - 6)).natAbs : Int)))), none, some (zi ((frC (r 1) l i_2 : Int) + 1)), some (zi ((i_2 : Int) + 1)), j_4, j_5, j_6]) (st2 := []) [(77, .iconst 1), (78, .goto 4), (82, .iadd), (83, .istore 4), (85, .iinc 5 1), (88, .goto (-75))] (by decide +kernel) rfl ?_
        exact Zn.eq rfl (zcons rfl (zcons rfl (zcons (congrArg (fun z => some (zj z)) (by rw [lvS]; first | (exfalso; omega) | rw [if_pos (by omega)] | rw [if_neg (by omega)])) (zcons rfl (zcons (congrArg (fun z => some (zi z)) (by rw [frC]; first | (exfalso; omega) | (rw [if_pos (by omega)]; omega) | (rw [if_neg (by omega)]; omega))) (zcons (congrArg (fun z => some (zi z)) (by omega)) rfl)))))) rfl (rfl) (ih_8 j_4 j_5 j_6)
  · skip
    have hfc := frC_le (r 1) l l.length
    refine Zn.seg (pc2 := 16) (ls2 := [some (za (A 0)), some (zi (s : Int)), some (zj (lvS (r 1) l l.length)), none, some (zi (frC (r 1) l l.length : Int)), some (zi (l.length : Int)), j_4, j_5, j_6]) (st2 := [za (A 0), zi (l.length : Int)]) [(13, .iload 5), (15, .aload_n 0)] (by decide +kernel) rfl ?_
    refine Zn.get (ix := 178) hD 0 (by decide +kernel) rfl rfl rfl ?_
    refine Zn.eq (st2 := [zi (l.length : Int), zi (l.length : Int)]) rfl rfl rfl rfl ?_
    refine Zn.icmp (c := .ge) (off := 72) 91 (by decide +kernel) rfl ⟨by omega, by omega⟩ ⟨by omega, by omega⟩ (fun c_16 => ?_) (fun c_16 => absurd (show (l.length : Int) ≤ (l.length : Int) from by omega) c_16)
    have c_16 : (l.length : Int) ≤ (l.length : Int) := c_16
    refine Zn.seg (pc2 := 92) (ls2 := [some (za (A 0)), some (zi (s : Int)), some (zj (lvS (r 1) l l.length)), none, some (zi (frC (r 1) l l.length : Int)), some (zi (l.length : Int)), j_4, j_5, j_6]) (st2 := [za (A 0)]) [(91, .aload_n 0)] (by decide +kernel) rfl ?_
    refine Zn.call (ins := .invokevirtual 196) [za (A 0)] [] (by decide +kernel) rfl rfl rfl ⟨rfl, rfl⟩ ⟨rfl, rfl, rfl⟩ rfl (zrecvV hD (p := 0) rfl rfl rfl) (sp_X8_bend (A := A) (m := va_up m 19 (l.length : Int)) (r := va_up (va_up (va_up r 11 (arL (l.map nX) (r 11))) 12 (arL (l.map (nY (r 1))) (r 12))) 13 (arL (l.map (nF (r 1))) (r 13))) (n := l.length) (zov_all hD) hD (rfl) (hl) (fun j hj => by rw [show (va_up (va_up (va_up r 11 (arL (l.map nX) (r 11))) 12 (arL (l.map (nY (r 1))) (r 12))) 13 (arL (l.map (nF (r 1))) (r 13))) 11 = arL (l.map nX) (r 11) from rfl, arL_m hj]; have := nfP_lt hLl hj; unfold nX; omega) (fun j hj => by rw [show (va_up (va_up (va_up r 11 (arL (l.map nX) (r 11))) 12 (arL (l.map (nY (r 1))) (r 12))) 13 (arL (l.map (nF (r 1))) (r 13))) 12 = arL (l.map (nY (r 1))) (r 12) from rfl, arL_m hj]; have := ROK_y hR (nfP_lt hLl hj); exact ⟨by omega, by omega⟩)) (fun v h2 hp => ?_)
    obtain ⟨rfl, hq_17⟩ := hp
    refine Zn.eq (pc2 := 95) (ls2 := [some (za (A 0)), some (zi (s : Int)), some (zj (lvS (r 1) l l.length)), none, some (zi (frC (r 1) l l.length : Int)), some (zi (l.length : Int)), j_4, j_5, j_6]) (st2 := [zj (bdN ((arL (l.map nX) (r 11))) ((arL (l.map (nY (r 1))) (r 12))) l.length l.length)]) (h2 := zov (LM A (va_up m 19 (l.length : Int)) (va_up (va_up (va_up r 11 (arL (l.map nX) (r 11))) 12 (arL (l.map (nY (r 1))) (r 12))) 13 (arL (l.map (nF (r 1))) (r 13)))) h) rfl rfl rfl hq_17 ?_
    have hD : zND (LM A (va_up m 19 (l.length : Int)) (va_up (va_up (va_up r 11 (arL (l.map nX) (r 11))) 12 (arL (l.map (nY (r 1))) (r 12))) 13 (arL (l.map (nF (r 1))) (r 13)))) := hD
    have hgc := gcd_rng (a := lvO (r 1) l) hsp.1
    refine Zn.topj (y := lvO (r 1) l) (congrArg zJ (bdN_congr (fun j hj => arL_m (F := nX) hj) (fun j hj => arL_m (F := nY (r 1)) hj))) ?_
    refine Zn.seg (pc2 := 100) (ls2 := [some (za (A 0)), some (zi (s : Int)), some (zj (lvS (r 1) l l.length)), none, some (zi (frC (r 1) l l.length : Int)), some (zj (lvO (r 1) l)), none, j_5, j_6]) (st2 := [zj (lvS (r 1) l l.length), zj (lvO (r 1) l)]) [(95, .lstore 5), (97, .lload 5), (99, .lload_n 2)] (by decide +kernel) rfl ?_
    refine Zn.call (ins := .invokestatic 200) [zj (lvO (r 1) l), zj (lvS (r 1) l l.length)] [] (by decide +kernel) rfl rfl rfl ⟨rfl, rfl⟩ ⟨rfl, rfl, rfl⟩ rfl (zrecvS (by decide)) (sp_X8_common (x := lvO (r 1) l) (y := lvS (r 1) l l.length) (by first | assumption | omega) (by first | assumption | omega)) (fun v h2 hp => ?_)
    obtain ⟨rfl, hq_18⟩ := hp
    refine Zn.eq (pc2 := 103) (ls2 := [some (za (A 0)), some (zi (s : Int)), some (zj (lvS (r 1) l l.length)), none, some (zi (frC (r 1) l l.length : Int)), some (zj (lvO (r 1) l)), none, j_5, j_6]) (st2 := [zj (Int.gcd (lvO (r 1) l) (lvS (r 1) l l.length) : Int)]) (h2 := zov (LM A (va_up m 19 (l.length : Int)) (va_up (va_up (va_up r 11 (arL (l.map nX) (r 11))) 12 (arL (l.map (nY (r 1))) (r 12))) 13 (arL (l.map (nF (r 1))) (r 13)))) h) rfl rfl rfl hq_18 ?_
    have hD : zND (LM A (va_up m 19 (l.length : Int)) (va_up (va_up (va_up r 11 (arL (l.map nX) (r 11))) 12 (arL (l.map (nY (r 1))) (r 12))) 13 (arL (l.map (nF (r 1))) (r 13)))) := hD
    refine Zn.seg (pc2 := 109) (ls2 := [some (za (A 0)), some (zi (s : Int)), some (zj (lvS (r 1) l l.length)), none, some (zi (frC (r 1) l l.length : Int)), some (zj (lvO (r 1) l)), none, some (zj (Int.gcd (lvO (r 1) l) (lvS (r 1) l l.length) : Int)), none]) (st2 := [zi 2, zi (frC (r 1) l l.length : Int), za (A 0)]) [(103, .lstore 7), (105, .aload_n 0), (106, .iload 4), (108, .iconst 2)] (by decide +kernel) rfl ?_
    refine Zn.irem (by decide +kernel) ⟨by omega, by omega⟩ ⟨by decide, by decide⟩ (by omega) ?_
    refine Zn.topi (y := ((frC (r 1) l l.length % 2 : Nat) : Int)) (ntm 2 rfl) ?_
    refine Zn.seg (pc2 := 111) (ls2 := [some (za (A 0)), some (zi (s : Int)), some (zj (lvS (r 1) l l.length)), none, some (zi (frC (r 1) l l.length : Int)), some (zj (lvO (r 1) l)), none, some (zj (Int.gcd (lvO (r 1) l) (lvS (r 1) l l.length) : Int)), none]) (st2 := [zi 1, zi ((frC (r 1) l l.length % 2 : Nat) : Int), za (A 0)]) [(110, .iconst 1)] (by decide +kernel) rfl ?_
    refine Zn.icmp (c := .ne) (off := 11) 122 (by decide +kernel) rfl ⟨by omega, by omega⟩ ⟨by decide, by decide⟩ (fun c_19 => ?_) (fun c_19 => ?_)
    · have c_19 : ((frC (r 1) l l.length % 2 : Nat) : Int) ≠ 1 := c_19
      refine Zn.seg (pc2 := 127) (ls2 := [some (za (A 0)), some (zi (s : Int)), some (zj (lvS (r 1) l l.length)), none, some (zi (frC (r 1) l l.length : Int)), some (zj (lvO (r 1) l)), none, some (zj (Int.gcd (lvO (r 1) l) (lvS (r 1) l l.length) : Int)), none]) (st2 := [zj (Int.gcd (lvO (r 1) l) (lvS (r 1) l l.length) : Int), zj (-(lvO (r 1) l)), za (A 0)]) [(122, .lload 5), (124, .lneg), (125, .lload 7)] (by decide +kernel) rfl ?_
      refine Zn.ldiv (by decide +kernel) ⟨by omega, by omega⟩ ⟨by omega, by omega⟩ (by omega) ?_
      refine Zn.put (ix := 204) hD 0 (by decide +kernel) rfl rfl rfl rfl rfl ?_
      refine Zn.eq (h2 := zov (LM A (va_up (va_up m 19 (l.length : Int)) 20 ((-(lvO (r 1) l)).tdiv (Int.gcd (lvO (r 1) l) (lvS (r 1) l l.length) : Int))) (va_up (va_up (va_up r 11 (arL (l.map nX) (r 11))) 12 (arL (l.map (nY (r 1))) (r 12))) 13 (arL (l.map (nF (r 1))) (r 13)))) h) rfl rfl rfl rfl ?_
      have hD : zND (LM A (va_up (va_up m 19 (l.length : Int)) 20 ((-(lvO (r 1) l)).tdiv (Int.gcd (lvO (r 1) l) (lvS (r 1) l l.length) : Int))) (va_up (va_up (va_up r 11 (arL (l.map nX) (r 11))) 12 (arL (l.map (nY (r 1))) (r 12))) 13 (arL (l.map (nF (r 1))) (r 13)))) := hD
      refine Zn.seg (pc2 := 135) (ls2 := [some (za (A 0)), some (zi (s : Int)), some (zj (lvS (r 1) l l.length)), none, some (zi (frC (r 1) l l.length : Int)), some (zj (lvO (r 1) l)), none, some (zj (Int.gcd (lvO (r 1) l) (lvS (r 1) l l.length) : Int)), none]) (st2 := [zj (Int.gcd (lvO (r 1) l) (lvS (r 1) l l.length) : Int), zj (lvS (r 1) l l.length), za (A 0)]) [(131, .aload_n 0), (132, .lload_n 2), (133, .lload 7)] (by decide +kernel) rfl ?_
      refine Zn.ldiv (by decide +kernel) ⟨by omega, by omega⟩ ⟨by omega, by omega⟩ (by omega) ?_
      refine Zn.put (ix := 208) hD 0 (by decide +kernel) rfl rfl rfl rfl rfl ?_
      refine Zn.eq (h2 := zov (LM A (va_up (va_up (va_up m 19 (l.length : Int)) 20 ((-(lvO (r 1) l)).tdiv (Int.gcd (lvO (r 1) l) (lvS (r 1) l l.length) : Int))) 21 ((lvS (r 1) l l.length).tdiv (Int.gcd (lvO (r 1) l) (lvS (r 1) l l.length) : Int))) (va_up (va_up (va_up r 11 (arL (l.map nX) (r 11))) 12 (arL (l.map (nY (r 1))) (r 12))) 13 (arL (l.map (nF (r 1))) (r 13)))) h) rfl rfl rfl rfl ?_
      have hD : zND (LM A (va_up (va_up (va_up m 19 (l.length : Int)) 20 ((-(lvO (r 1) l)).tdiv (Int.gcd (lvO (r 1) l) (lvS (r 1) l l.length) : Int))) 21 ((lvS (r 1) l l.length).tdiv (Int.gcd (lvO (r 1) l) (lvS (r 1) l l.length) : Int))) (va_up (va_up (va_up r 11 (arL (l.map nX) (r 11))) 12 (arL (l.map (nY (r 1))) (r 12))) 13 (arL (l.map (nF (r 1))) (r 13)))) := hD
      exact Zn.vret (by decide +kernel) rfl (⟨rfl, by rw [ha, hb]; first | rw [lvA, if_pos (by omega)] | rw [lvA, if_neg (by omega)]⟩)
    · have c_19 : ¬ (((frC (r 1) l l.length % 2 : Nat) : Int) ≠ 1) := c_19
      refine Zn.seg (pc2 := 118) (ls2 := [some (za (A 0)), some (zi (s : Int)), some (zj (lvS (r 1) l l.length)), none, some (zi (frC (r 1) l l.length : Int)), some (zj (lvO (r 1) l)), none, some (zj (Int.gcd (lvO (r 1) l) (lvS (r 1) l l.length) : Int)), none]) (st2 := [zj (Int.gcd (lvO (r 1) l) (lvS (r 1) l l.length) : Int), zj (lvO (r 1) l), za (A 0)]) [(114, .lload 5), (116, .lload 7)] (by decide +kernel) rfl ?_
      refine Zn.ldiv (by decide +kernel) ⟨by omega, by omega⟩ ⟨by omega, by omega⟩ (by omega) ?_
      refine Zn.seg (pc2 := 128) (ls2 := [some (za (A 0)), some (zi (s : Int)), some (zj (lvS (r 1) l l.length)), none, some (zi (frC (r 1) l l.length : Int)), some (zj (lvO (r 1) l)), none, some (zj (Int.gcd (lvO (r 1) l) (lvS (r 1) l l.length) : Int)), none]) (st2 := [zj ((lvO (r 1) l).tdiv (Int.gcd (lvO (r 1) l) (lvS (r 1) l l.length) : Int)), za (A 0)]) [(119, .goto 9)] (by decide +kernel) rfl ?_
      refine Zn.put (ix := 204) hD 0 (by decide +kernel) rfl rfl rfl rfl rfl ?_
      refine Zn.eq (h2 := zov (LM A (va_up (va_up m 19 (l.length : Int)) 20 ((lvO (r 1) l).tdiv (Int.gcd (lvO (r 1) l) (lvS (r 1) l l.length) : Int))) (va_up (va_up (va_up r 11 (arL (l.map nX) (r 11))) 12 (arL (l.map (nY (r 1))) (r 12))) 13 (arL (l.map (nF (r 1))) (r 13)))) h) rfl rfl rfl rfl ?_
      have hD : zND (LM A (va_up (va_up m 19 (l.length : Int)) 20 ((lvO (r 1) l).tdiv (Int.gcd (lvO (r 1) l) (lvS (r 1) l l.length) : Int))) (va_up (va_up (va_up r 11 (arL (l.map nX) (r 11))) 12 (arL (l.map (nY (r 1))) (r 12))) 13 (arL (l.map (nF (r 1))) (r 13)))) := hD
      refine Zn.seg (pc2 := 135) (ls2 := [some (za (A 0)), some (zi (s : Int)), some (zj (lvS (r 1) l l.length)), none, some (zi (frC (r 1) l l.length : Int)), some (zj (lvO (r 1) l)), none, some (zj (Int.gcd (lvO (r 1) l) (lvS (r 1) l l.length) : Int)), none]) (st2 := [zj (Int.gcd (lvO (r 1) l) (lvS (r 1) l l.length) : Int), zj (lvS (r 1) l l.length), za (A 0)]) [(131, .aload_n 0), (132, .lload_n 2), (133, .lload 7)] (by decide +kernel) rfl ?_
      refine Zn.ldiv (by decide +kernel) ⟨by omega, by omega⟩ ⟨by omega, by omega⟩ (by omega) ?_
      refine Zn.put (ix := 208) hD 0 (by decide +kernel) rfl rfl rfl rfl rfl ?_
      refine Zn.eq (h2 := zov (LM A (va_up (va_up (va_up m 19 (l.length : Int)) 20 ((lvO (r 1) l).tdiv (Int.gcd (lvO (r 1) l) (lvS (r 1) l l.length) : Int))) 21 ((lvS (r 1) l l.length).tdiv (Int.gcd (lvO (r 1) l) (lvS (r 1) l l.length) : Int))) (va_up (va_up (va_up r 11 (arL (l.map nX) (r 11))) 12 (arL (l.map (nY (r 1))) (r 12))) 13 (arL (l.map (nF (r 1))) (r 13)))) h) rfl rfl rfl rfl ?_
      have hD : zND (LM A (va_up (va_up (va_up m 19 (l.length : Int)) 20 ((lvO (r 1) l).tdiv (Int.gcd (lvO (r 1) l) (lvS (r 1) l l.length) : Int))) 21 ((lvS (r 1) l l.length).tdiv (Int.gcd (lvO (r 1) l) (lvS (r 1) l l.length) : Int))) (va_up (va_up (va_up r 11 (arL (l.map nX) (r 11))) 12 (arL (l.map (nY (r 1))) (r 12))) 13 (arL (l.map (nF (r 1))) (r 13)))) := hD
      exact Zn.vret (by decide +kernel) rfl (⟨rfl, by rw [ha, hb]; first | rw [lvA, if_pos (by omega)] | rw [lvA, if_neg (by omega)]⟩)
set_option maxHeartbeats 1000000 in
theorem sp_X8_fits {h : xH} {A : Nat → Nat} {m : Nat → Int} {r : Nat → Nat → Int} {s d : Nat} {l : List Nat} {a b : Int} (hL : ∀ q ∈ LM A m r, h q.1 = zcE q.2) (hD : zND (LM A m r)) (hs : s < 8192) (hR : ROK (r 1)) (hLl : l = plB (selB (r 1) s) 13) (hl : l.length ≤ 8) (hsp : 0 < lvS (r 1) l l.length ∧ lvS (r 1) l l.length ≤ 4611686018427387904) (hob : -4611686018427387904 ≤ lvO (r 1) l ∧ lvO (r 1) l ≤ 4611686018427387904) (ha : a = lvA (lvO (r 1) l) (lvS (r 1) l l.length) (frC (r 1) l l.length)) (hb : b = (lvS (r 1) l l.length).tdiv (Int.gcd (lvO (r 1) l) (lvS (r 1) l l.length) : Int)) (hd : r 1 0 = (d : Int)) (hd3 : d ≤ 3) (hdl : d + 1 ≤ l.length) : zEv k_X8_fits [za (A 0), zi (s : Int)] h (fun v h2 => v = none ∧ h2 = zov (LM A (va_up (va_up (va_up (va_up (va_up m 19 (l.length : Int)) 20 a) 21 b) 24 b) 25 ((d : Int) + 1)) (va_up (va_up (va_up (va_up (va_up r 11 (arL (l.map nX) (r 11))) 12 (arL (l.map (nY (r 1))) (r 12))) 13 (arL (l.map (nF (r 1))) (r 13))) 14 (cpF (nfX l) (r 14) (d + 1))) 15 (cpF (fpV (r 1) l a b) (r 15) (d + 1)))) h) := by
  have hh : h = zov (LM A m r) h := zov_self hL
  refine zEv.body (I := (8, xI_X8_fits, 6, 3, 79, 0, 0, false)) (rt := none) [some (za (A 0)), some (zi (s : Int)), none, none, none, none] rfl rfl rfl rfl ?_
  refine Zn.eq rfl rfl rfl hh ?_
  have hD : zND (LM A m r) := hD
  refine Zn.seg (pc2 := 2) (ls2 := [some (za (A 0)), some (zi (s : Int)), none, none, none, none]) (st2 := [zi (s : Int), za (A 0)]) [(0, .aload_n 0), (1, .iload_n 1)] (by decide +kernel) rfl ?_
  refine Zn.call (ins := .invokevirtual 211) [za (A 0), zi (s : Int)] [] (by decide +kernel) rfl rfl rfl ⟨rfl, rfl⟩ ⟨rfl, rfl, rfl⟩ rfl (zrecvV hD (p := 0) rfl rfl rfl) (sp_X8_levels (A := A) (m := m) (r := r) (s := s) (l := l) (a := a) (b := b) (zov_all hD) hD (by first | assumption | omega) (by first | assumption | omega) (by first | assumption | omega) (by first | assumption | omega) (by first | assumption | omega) (by first | assumption | omega) (by first | assumption | omega) (by first | assumption | omega)) (fun v h2 hp => ?_)
  obtain ⟨rfl, hq_1⟩ := hp
  refine Zn.eq (pc2 := 5) (ls2 := [some (za (A 0)), some (zi (s : Int)), none, none, none, none]) (st2 := []) (h2 := zov (LM A (va_up (va_up (va_up m 19 (l.length : Int)) 20 a) 21 b) (va_up (va_up (va_up r 11 (arL (l.map nX) (r 11))) 12 (arL (l.map (nY (r 1))) (r 12))) 13 (arL (l.map (nF (r 1))) (r 13)))) h) rfl rfl rfl (hq_1.trans (LM_over _ _ _ _ _ _)) ?_
  have hD : zND (LM A (va_up (va_up (va_up m 19 (l.length : Int)) 20 a) 21 b) (va_up (va_up (va_up r 11 (arL (l.map nX) (r 11))) 12 (arL (l.map (nY (r 1))) (r 12))) 13 (arL (l.map (nF (r 1))) (r 13)))) := hD
  refine Zn.seg (pc2 := 7) (ls2 := [some (za (A 0)), some (zi (s : Int)), none, none, none, none]) (st2 := [za (A 0), za (A 0)]) [(5, .aload_n 0), (6, .aload_n 0)] (by decide +kernel) rfl ?_
  refine Zn.get (ix := 208) hD 0 (by decide +kernel) rfl rfl rfl ?_
  refine Zn.eq (st2 := [zj b, za (A 0)]) rfl rfl rfl rfl ?_
  refine Zn.put (ix := 214) hD 0 (by decide +kernel) rfl rfl rfl rfl rfl ?_
  refine Zn.eq (h2 := zov (LM A (va_up (va_up (va_up (va_up m 19 (l.length : Int)) 20 a) 21 b) 24 b) (va_up (va_up (va_up r 11 (arL (l.map nX) (r 11))) 12 (arL (l.map (nY (r 1))) (r 12))) 13 (arL (l.map (nF (r 1))) (r 13)))) h) rfl rfl rfl rfl ?_
  have hD : zND (LM A (va_up (va_up (va_up (va_up m 19 (l.length : Int)) 20 a) 21 b) 24 b) (va_up (va_up (va_up r 11 (arL (l.map nX) (r 11))) 12 (arL (l.map (nY (r 1))) (r 12))) 13 (arL (l.map (nF (r 1))) (r 13)))) := hD
  refine Zn.seg (pc2 := 15) (ls2 := [some (za (A 0)), some (zi (s : Int)), none, none, none, none]) (st2 := [za (A 0), za (A 0)]) [(13, .aload_n 0), (14, .aload_n 0)] (by decide +kernel) rfl ?_
  refine Zn.get (ix := 7) hD 0 (by decide +kernel) rfl rfl rfl ?_
  refine Zn.seg (pc2 := 19) (ls2 := [some (za (A 0)), some (zi (s : Int)), none, none, none, none]) (st2 := [zi 0, za (A 1), za (A 0)]) [(18, .iconst 0)] (by decide +kernel) rfl ?_
  refine Zn.iald hD 1 (0) (by decide +kernel) rfl (rfl) (by decide) rfl ?_
  refine Zn.eq (st2 := [zi ((r 1) 0), za (A 0)]) rfl rfl rfl rfl ?_
  refine Zn.topi (y := (d : Int)) (hd) ?_
  refine Zn.seg (pc2 := 22) (ls2 := [some (za (A 0)), some (zi (s : Int)), none, none, none, none]) (st2 := [zi ((d : Int) + 1), za (A 0)]) [(20, .iconst 1), (21, .iadd)] (by decide +kernel) rfl ?_
  refine Zn.put (ix := 217) hD 0 (by decide +kernel) rfl rfl rfl rfl rfl ?_
  refine Zn.eq (h2 := zov (LM A (va_up (va_up (va_up (va_up (va_up m 19 (l.length : Int)) 20 a) 21 b) 24 b) 25 ((d : Int) + 1)) (va_up (va_up (va_up r 11 (arL (l.map nX) (r 11))) 12 (arL (l.map (nY (r 1))) (r 12))) 13 (arL (l.map (nF (r 1))) (r 13)))) h) rfl rfl rfl rfl ?_
  have hD : zND (LM A (va_up (va_up (va_up (va_up (va_up m 19 (l.length : Int)) 20 a) 21 b) 24 b) 25 ((d : Int) + 1)) (va_up (va_up (va_up r 11 (arL (l.map nX) (r 11))) 12 (arL (l.map (nY (r 1))) (r 12))) 13 (arL (l.map (nF (r 1))) (r 13)))) := hD
  refine Zn.seg (pc2 := 29) (ls2 := [some (za (A 0)), some (zi (s : Int)), some (zi 0), some (zi 0), none, none]) (st2 := []) [(25, .iconst 0), (26, .istore_n 2), (27, .iconst 0), (28, .istore_n 3)] (by decide +kernel) rfl ?_
  refine Zn.eq (pc2 := 29) (ls2 := [some (za (A 0)), some (zi (s : Int)), some (zi (frC (r 1) l 0 : Int)), some (zi (0 : Int)), none, none]) (st2 := []) (h2 := zov (LM A (va_up (va_up (va_up (va_up (va_up m 19 (l.length : Int)) 20 a) 21 b) 24 b) 25 ((d : Int) + 1)) (va_up (va_up (va_up (va_up (va_up r 11 (arL (l.map nX) (r 11))) 12 (arL (l.map (nY (r 1))) (r 12))) 13 (arL (l.map (nF (r 1))) (r 13))) 14 (cpF (nfX l) (r 14) 0)) 15 (cpF (fpV (r 1) l a b) (r 15) 0))) h) rfl (zcons rfl (zcons rfl (zcons (congrArg (fun z => some (zi z)) (by first | rfl | omega | simp)) (zcons (congrArg (fun z => some (zi z)) (by first | rfl | omega | simp)) rfl)))) rfl (by simp only [cpF_zero] <;> rfl) ?_
  have hD : zND (LM A (va_up (va_up (va_up (va_up (va_up m 19 (l.length : Int)) 20 a) 21 b) 24 b) 25 ((d : Int) + 1)) (va_up (va_up (va_up (va_up (va_up r 11 (arL (l.map nX) (r 11))) 12 (arL (l.map (nY (r 1))) (r 12))) 13 (arL (l.map (nF (r 1))) (r 13))) 14 (cpF (nfX l) (r 14) 0)) 15 (cpF (fpV (r 1) l a b) (r 15) 0))) := hD
  refine xloop (P := fun i_2 => ∀ j_3 j_4 : Option zV, Zn (8, xI_X8_fits, 6, 3, 79, 0, 0, false) none 29 [some (za (A 0)), some (zi (s : Int)), some (zi (frC (r 1) l i_2 : Int)), some (zi (i_2 : Int)), j_3, j_4] [] (zov (LM A (va_up (va_up (va_up (va_up (va_up m 19 (l.length : Int)) 20 a) 21 b) 24 b) 25 ((d : Int) + 1)) (va_up (va_up (va_up (va_up (va_up r 11 (arL (l.map nX) (r 11))) 12 (arL (l.map (nY (r 1))) (r 12))) 13 (arL (l.map (nF (r 1))) (r 13))) 14 (cpF (nfX l) (r 14) i_2)) 15 (cpF (fpV (r 1) l a b) (r 15) i_2))) h) _) ((d + 1)) (fun i_2 hi_5 ih_6 j_3 j_4 => ?_) (fun j_3 j_4 => ?_) none none
  · have hi_ : i_2 < (d + 1) := hi_5
    have hi_ : i_2 < l.length := by omega
    have hnl := nfP_lt hLl hi_
    have hqr := ROK_q hR hnl
    have hnf := nF_spec (r 1) (nfP l i_2)
    have hfc := frC_le (r 1) l i_2
    have hyr := ROK_y hR hnl
    have hfa := fxA_le (r 1) (nfP l i_2) (12 - nfP l i_2)
    refine Zn.seg (pc2 := 31) (ls2 := [some (za (A 0)), some (zi (s : Int)), some (zi (frC (r 1) l i_2 : Int)), some (zi (i_2 : Int)), j_3, j_4]) (st2 := [za (A 0), zi (i_2 : Int)]) [(29, .iload_n 3), (30, .aload_n 0)] (by decide +kernel) rfl ?_
    refine Zn.get (ix := 217) hD 0 (by decide +kernel) rfl rfl rfl ?_
    refine Zn.eq (st2 := [zi ((d : Int) + 1), zi (i_2 : Int)]) rfl rfl rfl rfl ?_
    refine Zn.icmp (c := .ge) (off := 106) 140 (by decide +kernel) rfl ⟨by omega, by omega⟩ ⟨by omega, by omega⟩ (fun c_7 => absurd (show (d : Int) + 1 ≤ (i_2 : Int) from c_7) (by omega)) (fun c_7 => ?_)
    have c_7 : ¬ ((d : Int) + 1 ≤ (i_2 : Int)) := c_7
    refine Zn.seg (pc2 := 38) (ls2 := [some (za (A 0)), some (zi (s : Int)), some (zi (frC (r 1) l i_2 : Int)), some (zi (i_2 : Int)), j_3, j_4]) (st2 := [za (A 0)]) [(37, .aload_n 0)] (by decide +kernel) rfl ?_
    refine Zn.get (ix := 55) hD 0 (by decide +kernel) rfl rfl rfl ?_
    refine Zn.seg (pc2 := 43) (ls2 := [some (za (A 0)), some (zi (s : Int)), some (zi (frC (r 1) l i_2 : Int)), some (zi (i_2 : Int)), j_3, j_4]) (st2 := [za (A 0), zi (i_2 : Int), za (A 14)]) [(41, .iload_n 3), (42, .aload_n 0)] (by decide +kernel) rfl ?_
    refine Zn.get (ix := 45) hD 0 (by decide +kernel) rfl rfl rfl ?_
    refine Zn.seg (pc2 := 47) (ls2 := [some (za (A 0)), some (zi (s : Int)), some (zi (frC (r 1) l i_2 : Int)), some (zi (i_2 : Int)), j_3, j_4]) (st2 := [zi (i_2 : Int), za (A 11), zi (i_2 : Int), za (A 14)]) [(46, .iload_n 3)] (by decide +kernel) rfl ?_
    refine Zn.iald hD 11 (i_2) (by decide +kernel) rfl (by omega) (by omega) rfl ?_
    refine Zn.eq (st2 := [zi ((arL (l.map nX) (r 11)) i_2), zi (i_2 : Int), za (A 14)]) rfl rfl rfl rfl ?_
    refine Zn.topi (y := (nfP l i_2 : Int) - 6) (arL_m (F := nX) (by omega)) ?_
    refine Zn.iast hD 14 (i_2) (by decide +kernel) rfl (by omega) (by omega) rfl ?_
    refine Zn.eq (h2 := zov (LM A (va_up (va_up (va_up (va_up (va_up m 19 (l.length : Int)) 20 a) 21 b) 24 b) 25 ((d : Int) + 1)) (va_up (va_up (va_up (va_up (va_up r 11 (arL (l.map nX) (r 11))) 12 (arL (l.map (nY (r 1))) (r 12))) 13 (arL (l.map (nF (r 1))) (r 13))) 14 (va_up (cpF (nfX l) (r 14) i_2) i_2 ((nfP l i_2 : Int) - 6))) 15 (cpF (fpV (r 1) l a b) (r 15) i_2))) h) rfl rfl rfl (rfl) ?_
    have hD : zND (LM A (va_up (va_up (va_up (va_up (va_up m 19 (l.length : Int)) 20 a) 21 b) 24 b) 25 ((d : Int) + 1)) (va_up (va_up (va_up (va_up (va_up r 11 (arL (l.map nX) (r 11))) 12 (arL (l.map (nY (r 1))) (r 12))) 13 (arL (l.map (nF (r 1))) (r 13))) 14 (va_up (cpF (nfX l) (r 14) i_2) i_2 ((nfP l i_2 : Int) - 6))) 15 (cpF (fpV (r 1) l a b) (r 15) i_2))) := hD
    refine Zn.seg (pc2 := 50) (ls2 := [some (za (A 0)), some (zi (s : Int)), some (zi (frC (r 1) l i_2 : Int)), some (zi (i_2 : Int)), j_3, j_4]) (st2 := [za (A 0)]) [(49, .aload_n 0)] (by decide +kernel) rfl ?_
    refine Zn.get (ix := 58) hD 0 (by decide +kernel) rfl rfl rfl ?_
    refine Zn.seg (pc2 := 55) (ls2 := [some (za (A 0)), some (zi (s : Int)), some (zi (frC (r 1) l i_2 : Int)), some (zi (i_2 : Int)), j_3, j_4]) (st2 := [za (A 0), zi (i_2 : Int), za (A 15)]) [(53, .iload_n 3), (54, .aload_n 0)] (by decide +kernel) rfl ?_
    refine Zn.get (ix := 48) hD 0 (by decide +kernel) rfl rfl rfl ?_
    refine Zn.seg (pc2 := 59) (ls2 := [some (za (A 0)), some (zi (s : Int)), some (zi (frC (r 1) l i_2 : Int)), some (zi (i_2 : Int)), j_3, j_4]) (st2 := [zi (i_2 : Int), za (A 12), zi (i_2 : Int), za (A 15)]) [(58, .iload_n 3)] (by decide +kernel) rfl ?_
    refine Zn.iald hD 12 (i_2) (by decide +kernel) rfl (by omega) (by omega) rfl ?_
    refine Zn.eq (st2 := [zi ((arL (l.map (nY (r 1))) (r 12)) i_2), zi (i_2 : Int), za (A 15)]) rfl rfl rfl rfl ?_
    refine Zn.topi (y := nY (r 1) (nfP l i_2)) (arL_m (F := nY (r 1)) (by omega)) ?_
    refine Zn.i2l (by decide +kernel) ⟨by omega, by omega⟩ ?_
    refine Zn.seg (pc2 := 62) (ls2 := [some (za (A 0)), some (zi (s : Int)), some (zi (frC (r 1) l i_2 : Int)), some (zi (i_2 : Int)), j_3, j_4]) (st2 := [za (A 0), zj (nY (r 1) (nfP l i_2)), zi (i_2 : Int), za (A 15)]) [(61, .aload_n 0)] (by decide +kernel) rfl ?_
    refine Zn.get (ix := 208) hD 0 (by decide +kernel) rfl rfl rfl ?_
    refine Zn.eq (st2 := [zj b, zj (nY (r 1) (nfP l i_2)), zi (i_2 : Int), za (A 15)]) rfl rfl rfl rfl ?_
    refine Zn.seg (pc2 := 66) (ls2 := [some (za (A 0)), some (zi (s : Int)), some (zi (frC (r 1) l i_2 : Int)), some (zi (i_2 : Int)), j_3, j_4]) (st2 := [zj ((nY (r 1) (nfP l i_2)) * b), zi (i_2 : Int), za (A 15)]) [(65, .lmul)] (by decide +kernel) rfl ?_
    refine Zn.last hD 15 (i_2) (by decide +kernel) rfl (by omega) (by omega) rfl ?_
    refine Zn.eq (h2 := zov (LM A (va_up (va_up (va_up (va_up (va_up m 19 (l.length : Int)) 20 a) 21 b) 24 b) 25 ((d : Int) + 1)) (va_up (va_up (va_up (va_up (va_up r 11 (arL (l.map nX) (r 11))) 12 (arL (l.map (nY (r 1))) (r 12))) 13 (arL (l.map (nF (r 1))) (r 13))) 14 (va_up (cpF (nfX l) (r 14) i_2) i_2 ((nfP l i_2 : Int) - 6))) 15 (va_up (cpF (fpV (r 1) l a b) (r 15) i_2) i_2 ((nY (r 1) (nfP l i_2)) * b)))) h) rfl rfl rfl (rfl) ?_
    have hD : zND (LM A (va_up (va_up (va_up (va_up (va_up m 19 (l.length : Int)) 20 a) 21 b) 24 b) 25 ((d : Int) + 1)) (va_up (va_up (va_up (va_up (va_up r 11 (arL (l.map nX) (r 11))) 12 (arL (l.map (nY (r 1))) (r 12))) 13 (arL (l.map (nF (r 1))) (r 13))) 14 (va_up (cpF (nfX l) (r 14) i_2) i_2 ((nfP l i_2 : Int) - 6))) 15 (va_up (cpF (fpV (r 1) l a b) (r 15) i_2) i_2 ((nY (r 1) (nfP l i_2)) * b)))) := hD
    refine Zn.seg (pc2 := 68) (ls2 := [some (za (A 0)), some (zi (s : Int)), some (zi (frC (r 1) l i_2 : Int)), some (zi (i_2 : Int)), j_3, j_4]) (st2 := [za (A 0)]) [(67, .aload_n 0)] (by decide +kernel) rfl ?_
    refine Zn.get (ix := 51) hD 0 (by decide +kernel) rfl rfl rfl ?_
    refine Zn.seg (pc2 := 72) (ls2 := [some (za (A 0)), some (zi (s : Int)), some (zi (frC (r 1) l i_2 : Int)), some (zi (i_2 : Int)), j_3, j_4]) (st2 := [zi (i_2 : Int), za (A 13)]) [(71, .iload_n 3)] (by decide +kernel) rfl ?_
    refine Zn.bald hD 13 (i_2) (by decide +kernel) rfl (by omega) (by omega) rfl ?_
    refine Zn.eq (st2 := [zi ((arL (l.map (nF (r 1))) (r 13)) i_2)]) rfl rfl rfl rfl ?_
    refine Zn.topi (y := nF (r 1) (nfP l i_2)) (arL_m (F := nF (r 1)) (by omega)) ?_
    refine Zn.ifc (c := .eq) (off := 61) 134 (by decide +kernel) rfl ⟨by omega, by omega⟩ (fun c_8 => ?_) (fun c_8 => ?_)
    · have c_8 : nF (r 1) (nfP l i_2) = 0 := c_8
      refine Zn.seg (pc2 := 29) (ls2 := [some (za (A 0)), some (zi (s : Int)), some (zi (frC (r 1) l i_2 : Int)), some (zi ((i_2 : Int) + 1)), j_3, j_4]) (st2 := []) [(134, .iinc 3 1), (137, .goto (-108))] (by decide +kernel) rfl ?_
      exact Zn.eq rfl (zcons rfl (zcons rfl (zcons (congrArg (fun z => some (zi z)) (by rw [frC]; first | (exfalso; omega) | (rw [if_pos (by omega)]; omega) | (rw [if_neg (by omega)]; omega))) (zcons (congrArg (fun z => some (zi z)) (by omega)) rfl)))) rfl (by first | (exfalso; omega) | rw [cpF_st (f := nfX l) (by rfl), cpF_st2 (f := fpV (r 1) l a b) (by unfold fpV; rw [if_pos (by omega), if_pos (by omega)])] | rw [cpF_st (f := nfX l) (by rfl), cpF_st2 (f := fpV (r 1) l a b) (by unfold fpV; rw [if_pos (by omega), if_neg (by omega)])] | rw [cpF_st (f := nfX l) (by rfl), cpF_st (f := fpV (r 1) l a b) (by unfold fpV; rw [if_neg (by omega)])]) (ih_6 j_3 j_4)
    · have c_8 : ¬ (nF (r 1) (nfP l i_2) = 0) := c_8
      refine Zn.seg (pc2 := 77) (ls2 := [some (za (A 0)), some (zi (s : Int)), some (zi (frC (r 1) l i_2 : Int)), some (zi (i_2 : Int)), j_3, j_4]) (st2 := [za (A 0)]) [(76, .aload_n 0)] (by decide +kernel) rfl ?_
      refine Zn.get (ix := 204) hD 0 (by decide +kernel) rfl rfl rfl ?_
      refine Zn.eq (st2 := [zj a]) rfl rfl rfl rfl ?_
      refine Zn.seg (pc2 := 82) (ls2 := [some (za (A 0)), some (zi (s : Int)), some (zi (frC (r 1) l i_2 : Int)), some (zi (i_2 : Int)), j_3, j_4]) (st2 := [za (A 0), za (A 0), zj a]) [(80, .aload_n 0), (81, .aload_n 0)] (by decide +kernel) rfl ?_
      refine Zn.get (ix := 45) hD 0 (by decide +kernel) rfl rfl rfl ?_
      refine Zn.seg (pc2 := 86) (ls2 := [some (za (A 0)), some (zi (s : Int)), some (zi (frC (r 1) l i_2 : Int)), some (zi (i_2 : Int)), j_3, j_4]) (st2 := [zi (i_2 : Int), za (A 11), za (A 0), zj a]) [(85, .iload_n 3)] (by decide +kernel) rfl ?_
      refine Zn.iald hD 11 (i_2) (by decide +kernel) rfl (by omega) (by omega) rfl ?_
      refine Zn.eq (st2 := [zi ((arL (l.map nX) (r 11)) i_2), za (A 0), zj a]) rfl rfl rfl rfl ?_
      refine Zn.topi (y := (nfP l i_2 : Int) - 6) (arL_m (F := nX) (by omega)) ?_
      refine Zn.call (ins := .invokevirtual 85) [za (A 0), zi ((nfP l i_2 : Int) - 6)] [zj a] (by decide +kernel) rfl rfl rfl ⟨rfl, rfl⟩ ⟨rfl, rfl, rfl⟩ rfl (zrecvV hD (p := 0) rfl rfl rfl) (sp_X8_beneath (A := A) (m := va_up (va_up (va_up (va_up (va_up m 19 (l.length : Int)) 20 a) 21 b) 24 b) 25 ((d : Int) + 1)) (r := va_up (va_up (va_up (va_up (va_up r 11 (arL (l.map nX) (r 11))) 12 (arL (l.map (nY (r 1))) (r 12))) 13 (arL (l.map (nF (r 1))) (r 13))) 14 (va_up (cpF (nfX l) (r 14) i_2) i_2 ((nfP l i_2 : Int) - 6))) 15 (va_up (cpF (fpV (r 1) l a b) (r 15) i_2) i_2 ((nY (r 1) (nfP l i_2)) * b))) (x := (nfP l i_2 : Int) - 6) (zov_all hD) hD) (fun v h2 hp => ?_)
      obtain ⟨rfl, hq_9⟩ := hp
      refine Zn.eq (pc2 := 90) (ls2 := [some (za (A 0)), some (zi (s : Int)), some (zi (frC (r 1) l i_2 : Int)), some (zi (i_2 : Int)), j_3, j_4]) (st2 := [zi (qv (fun j => (r 1) (j + 1)) ((nfP l i_2 : Int) - 6)), zj a]) (h2 := zov (LM A (va_up (va_up (va_up (va_up (va_up m 19 (l.length : Int)) 20 a) 21 b) 24 b) 25 ((d : Int) + 1)) (va_up (va_up (va_up (va_up (va_up r 11 (arL (l.map nX) (r 11))) 12 (arL (l.map (nY (r 1))) (r 12))) 13 (arL (l.map (nF (r 1))) (r 13))) 14 (va_up (cpF (nfX l) (r 14) i_2) i_2 ((nfP l i_2 : Int) - 6))) 15 (va_up (cpF (fpV (r 1) l a b) (r 15) i_2) i_2 ((nY (r 1) (nfP l i_2)) * b)))) h) rfl rfl rfl hq_9 ?_
      have hD : zND (LM A (va_up (va_up (va_up (va_up (va_up m 19 (l.length : Int)) 20 a) 21 b) 24 b) 25 ((d : Int) + 1)) (va_up (va_up (va_up (va_up (va_up r 11 (arL (l.map nX) (r 11))) 12 (arL (l.map (nY (r 1))) (r 12))) 13 (arL (l.map (nF (r 1))) (r 13))) 14 (va_up (cpF (nfX l) (r 14) i_2) i_2 ((nfP l i_2 : Int) - 6))) 15 (va_up (cpF (fpV (r 1) l a b) (r 15) i_2) i_2 ((nY (r 1) (nfP l i_2)) * b)))) := hD
      refine Zn.i2l (by decide +kernel) ⟨by omega, by omega⟩ ?_
      refine Zn.call (ins := .invokestatic 192) [zj (qv (fun j => (r 1) (j + 1)) ((nfP l i_2 : Int) - 6))] [zj a] (by decide +kernel) rfl rfl rfl ⟨rfl, rfl⟩ ⟨rfl, rfl, rfl⟩ rfl (zrecvS (by decide)) (sp_X8_plain (x := qv (fun j => (r 1) (j + 1)) ((nfP l i_2 : Int) - 6)) (by first | assumption | omega) (by first | assumption | omega)) (fun v h2 hp => ?_)
      obtain ⟨rfl, hq_10⟩ := hp
      refine Zn.eq (pc2 := 94) (ls2 := [some (za (A 0)), some (zi (s : Int)), some (zi (frC (r 1) l i_2 : Int)), some (zi (i_2 : Int)), j_3, j_4]) (st2 := [zj ((qv (fun j => (r 1) (j + 1)) ((nfP l i_2 : Int) - 6)).natAbs : Int), zj a]) (h2 := zov (LM A (va_up (va_up (va_up (va_up (va_up m 19 (l.length : Int)) 20 a) 21 b) 24 b) 25 ((d : Int) + 1)) (va_up (va_up (va_up (va_up (va_up r 11 (arL (l.map nX) (r 11))) 12 (arL (l.map (nY (r 1))) (r 12))) 13 (arL (l.map (nF (r 1))) (r 13))) 14 (va_up (cpF (nfX l) (r 14) i_2) i_2 ((nfP l i_2 : Int) - 6))) 15 (va_up (cpF (fpV (r 1) l a b) (r 15) i_2) i_2 ((nY (r 1) (nfP l i_2)) * b)))) h) rfl rfl rfl hq_10 ?_
      have hD : zND (LM A (va_up (va_up (va_up (va_up (va_up m 19 (l.length : Int)) 20 a) 21 b) 24 b) 25 ((d : Int) + 1)) (va_up (va_up (va_up (va_up (va_up r 11 (arL (l.map nX) (r 11))) 12 (arL (l.map (nY (r 1))) (r 12))) 13 (arL (l.map (nF (r 1))) (r 13))) 14 (va_up (cpF (nfX l) (r 14) i_2) i_2 ((nfP l i_2 : Int) - 6))) 15 (va_up (cpF (fpV (r 1) l a b) (r 15) i_2) i_2 ((nY (r 1) (nfP l i_2)) * b)))) := hD
      refine Zn.seg (pc2 := 98) (ls2 := [some (za (A 0)), some (zi (s : Int)), some (zi (frC (r 1) l i_2 : Int)), some (zi (i_2 : Int)), some (zj (a * ((qv (fun j => (r 1) (j + 1)) ((nfP l i_2 : Int) - 6)).natAbs : Int))), none]) (st2 := [za (A 0)]) [(94, .lmul), (95, .lstore 4), (97, .aload_n 0)] (by decide +kernel) rfl ?_
      refine Zn.get (ix := 58) hD 0 (by decide +kernel) rfl rfl rfl ?_
      refine Zn.seg (pc2 := 103) (ls2 := [some (za (A 0)), some (zi (s : Int)), some (zi (frC (r 1) l i_2 : Int)), some (zi (i_2 : Int)), some (zj (a * ((qv (fun j => (r 1) (j + 1)) ((nfP l i_2 : Int) - 6)).natAbs : Int))), none]) (st2 := [zi (i_2 : Int), za (A 15), zi (i_2 : Int), za (A 15)]) [(101, .iload_n 3), (102, .dup2)] (by decide +kernel) rfl ?_
      refine Zn.lald hD 15 (i_2) (by decide +kernel) rfl (by omega) (by omega) rfl ?_
      refine Zn.eq (st2 := [zj ((va_up (cpF (fpV (r 1) l a b) (r 15) i_2) i_2 ((nY (r 1) (nfP l i_2)) * b)) i_2), zi (i_2 : Int), za (A 15)]) rfl rfl rfl rfl ?_
      refine Zn.topj (y := nY (r 1) (nfP l i_2) * b) (congrArg zJ (va_up_s _ _ _)) ?_
      refine Zn.seg (pc2 := 107) (ls2 := [some (za (A 0)), some (zi (s : Int)), some (zi (frC (r 1) l i_2 : Int)), some (zi (i_2 : Int)), some (zj (a * ((qv (fun j => (r 1) (j + 1)) ((nfP l i_2 : Int) - 6)).natAbs : Int))), none]) (st2 := [za (A 0), za (A 0), zi (frC (r 1) l i_2 : Int), zj (nY (r 1) (nfP l i_2) * b), zi (i_2 : Int), za (A 15)]) [(104, .iload_n 2), (105, .aload_n 0), (106, .aload_n 0)] (by decide +kernel) rfl ?_
      refine Zn.get (ix := 45) hD 0 (by decide +kernel) rfl rfl rfl ?_
      refine Zn.seg (pc2 := 111) (ls2 := [some (za (A 0)), some (zi (s : Int)), some (zi (frC (r 1) l i_2 : Int)), some (zi (i_2 : Int)), some (zj (a * ((qv (fun j => (r 1) (j + 1)) ((nfP l i_2 : Int) - 6)).natAbs : Int))), none]) (st2 := [zi (i_2 : Int), za (A 11), za (A 0), zi (frC (r 1) l i_2 : Int), zj (nY (r 1) (nfP l i_2) * b), zi (i_2 : Int), za (A 15)]) [(110, .iload_n 3)] (by decide +kernel) rfl ?_
      refine Zn.iald hD 11 (i_2) (by decide +kernel) rfl (by omega) (by omega) rfl ?_
      refine Zn.eq (st2 := [zi ((arL (l.map nX) (r 11)) i_2), za (A 0), zi (frC (r 1) l i_2 : Int), zj (nY (r 1) (nfP l i_2) * b), zi (i_2 : Int), za (A 15)]) rfl rfl rfl rfl ?_
      refine Zn.topi (y := (nfP l i_2 : Int) - 6) (arL_m (F := nX) (by omega)) ?_
      refine Zn.call (ins := .invokevirtual 220) [za (A 0), zi ((nfP l i_2 : Int) - 6)] [zi (frC (r 1) l i_2 : Int), zj (nY (r 1) (nfP l i_2) * b), zi (i_2 : Int), za (A 15)] (by decide +kernel) rfl rfl rfl ⟨rfl, rfl⟩ ⟨rfl, rfl, rfl⟩ rfl (zrecvV hD (p := 0) rfl rfl rfl) (sp_X8_fixedAbove (A := A) (m := va_up (va_up (va_up (va_up (va_up m 19 (l.length : Int)) 20 a) 21 b) 24 b) 25 ((d : Int) + 1)) (r := va_up (va_up (va_up (va_up (va_up r 11 (arL (l.map nX) (r 11))) 12 (arL (l.map (nY (r 1))) (r 12))) 13 (arL (l.map (nF (r 1))) (r 13))) 14 (va_up (cpF (nfX l) (r 14) i_2) i_2 ((nfP l i_2 : Int) - 6))) 15 (va_up (cpF (fpV (r 1) l a b) (r 15) i_2) i_2 ((nY (r 1) (nfP l i_2)) * b))) (x := (nfP l i_2 : Int) - 6) (p := nfP l i_2) (zov_all hD) hD (rfl) (hnl) (hR.1)) (fun v h2 hp => ?_)
      obtain ⟨rfl, hq_11⟩ := hp
      refine Zn.eq (pc2 := 115) (ls2 := [some (za (A 0)), some (zi (s : Int)), some (zi (frC (r 1) l i_2 : Int)), some (zi (i_2 : Int)), some (zj (a * ((qv (fun j => (r 1) (j + 1)) ((nfP l i_2 : Int) - 6)).natAbs : Int))), none]) (st2 := [zi (fxA ((r 1)) (nfP l i_2) (12 - (nfP l i_2)) : Int), zi (frC (r 1) l i_2 : Int), zj (nY (r 1) (nfP l i_2) * b), zi (i_2 : Int), za (A 15)]) (h2 := zov (LM A (va_up (va_up (va_up (va_up (va_up m 19 (l.length : Int)) 20 a) 21 b) 24 b) 25 ((d : Int) + 1)) (va_up (va_up (va_up (va_up (va_up r 11 (arL (l.map nX) (r 11))) 12 (arL (l.map (nY (r 1))) (r 12))) 13 (arL (l.map (nF (r 1))) (r 13))) 14 (va_up (cpF (nfX l) (r 14) i_2) i_2 ((nfP l i_2 : Int) - 6))) 15 (va_up (cpF (fpV (r 1) l a b) (r 15) i_2) i_2 ((nY (r 1) (nfP l i_2)) * b)))) h) rfl rfl rfl hq_11 ?_
      have hD : zND (LM A (va_up (va_up (va_up (va_up (va_up m 19 (l.length : Int)) 20 a) 21 b) 24 b) 25 ((d : Int) + 1)) (va_up (va_up (va_up (va_up (va_up r 11 (arL (l.map nX) (r 11))) 12 (arL (l.map (nY (r 1))) (r 12))) 13 (arL (l.map (nF (r 1))) (r 13))) 14 (va_up (cpF (nfX l) (r 14) i_2) i_2 ((nfP l i_2 : Int) - 6))) 15 (va_up (cpF (fpV (r 1) l a b) (r 15) i_2) i_2 ((nY (r 1) (nfP l i_2)) * b)))) := hD
      have q_12 := fxA_le ((r 1)) (nfP l i_2) (12 - (nfP l i_2))
      refine Zn.seg (pc2 := 117) (ls2 := [some (za (A 0)), some (zi (s : Int)), some (zi (frC (r 1) l i_2 : Int)), some (zi (i_2 : Int)), some (zj (a * ((qv (fun j => (r 1) (j + 1)) ((nfP l i_2 : Int) - 6)).natAbs : Int))), none]) (st2 := [zi 2, zi ((frC (r 1) l i_2 : Int) + (fxA ((r 1)) (nfP l i_2) (12 - (nfP l i_2)) : Int)), zj (nY (r 1) (nfP l i_2) * b), zi (i_2 : Int), za (A 15)]) [(115, .iadd), (116, .iconst 2)] (by decide +kernel) rfl ?_
      refine Zn.irem (by decide +kernel) ⟨by omega, by omega⟩ ⟨by decide, by decide⟩ (by omega) ?_
      refine Zn.topi (y := (((frC (r 1) l i_2 + fxA (r 1) (nfP l i_2) (12 - nfP l i_2)) % 2 : Nat) : Int)) (by rw [← Int.natCast_add]; exact ntm 2 rfl) ?_
      refine Zn.ifc (c := .ne) (off := 8) 126 (by decide +kernel) rfl ⟨by omega, by omega⟩ (fun c_13 => ?_) (fun c_13 => ?_)
      · have c_13 : (((frC (r 1) l i_2 + fxA (r 1) (nfP l i_2) (12 - nfP l i_2)) % 2 : Nat) : Int) ≠ 0 := c_13
        refine Zn.seg (pc2 := 130) (ls2 := [some (za (A 0)), some (zi (s : Int)), some (zi (frC (r 1) l i_2 : Int)), some (zi (i_2 : Int)), some (zj (a * ((qv (fun j => (r 1) (j + 1)) ((nfP l i_2 : Int) - 6)).natAbs : Int))), none]) (st2 := [zj (nY (r 1) (nfP l i_2) * b - (-(a * ((qv (fun j => (r 1) (j + 1)) ((nfP l i_2 : Int) - 6)).natAbs : Int)))), zi (i_2 : Int), za (A 15)]) [(126, .lload 4), (128, .lneg), (129, .lsub)] (by decide +kernel) rfl ?_
        refine Zn.last hD 15 (i_2) (by decide +kernel) rfl (by omega) (by omega) rfl ?_
        refine Zn.eq (h2 := zov (LM A (va_up (va_up (va_up (va_up (va_up m 19 (l.length : Int)) 20 a) 21 b) 24 b) 25 ((d : Int) + 1)) (va_up (va_up (va_up (va_up (va_up r 11 (arL (l.map nX) (r 11))) 12 (arL (l.map (nY (r 1))) (r 12))) 13 (arL (l.map (nF (r 1))) (r 13))) 14 (va_up (cpF (nfX l) (r 14) i_2) i_2 ((nfP l i_2 : Int) - 6))) 15 (va_up (va_up (cpF (fpV (r 1) l a b) (r 15) i_2) i_2 ((nY (r 1) (nfP l i_2)) * b)) i_2 (nY (r 1) (nfP l i_2) * b - (-(a * ((qv (fun j => (r 1) (j + 1)) ((nfP l i_2 : Int) - 6)).natAbs : Int))))))) h) rfl rfl rfl (rfl) ?_
        have hD : zND (LM A (va_up (va_up (va_up (va_up (va_up m 19 (l.length : Int)) 20 a) 21 b) 24 b) 25 ((d : Int) + 1)) (va_up (va_up (va_up (va_up (va_up r 11 (arL (l.map nX) (r 11))) 12 (arL (l.map (nY (r 1))) (r 12))) 13 (arL (l.map (nF (r 1))) (r 13))) 14 (va_up (cpF (nfX l) (r 14) i_2) i_2 ((nfP l i_2 : Int) - 6))) 15 (va_up (va_up (cpF (fpV (r 1) l a b) (r 15) i_2) i_2 ((nY (r 1) (nfP l i_2)) * b)) i_2 (nY (r 1) (nfP l i_2) * b - (-(a * ((qv (fun j => (r 1) (j + 1)) ((nfP l i_2 : Int) - 6)).natAbs : Int))))))) := hD
        refine Zn.seg (pc2 := 29) (ls2 := [some (za (A 0)), some (zi (s : Int)), some (zi ((frC (r 1) l i_2 : Int) + 1)), some (zi ((i_2 : Int) + 1)), some (zj (a * ((qv (fun j => (r 1) (j + 1)) ((nfP l i_2 : Int) - 6)).natAbs : Int))), none]) (st2 := []) [(131, .iinc 2 1), (134, .iinc 3 1), (137, .goto (-108))] (by decide +kernel) rfl ?_
        exact Zn.eq rfl (zcons rfl (zcons rfl (zcons (congrArg (fun z => some (zi z)) (by rw [frC]; first | (exfalso; omega) | (rw [if_pos (by omega)]; omega) | (rw [if_neg (by omega)]; omega))) (zcons (congrArg (fun z => some (zi z)) (by omega)) rfl)))) rfl (by first | (exfalso; omega) | rw [cpF_st (f := nfX l) (by rfl), cpF_st2 (f := fpV (r 1) l a b) (by unfold fpV; rw [if_pos (by omega), if_pos (by omega)])] | rw [cpF_st (f := nfX l) (by rfl), cpF_st2 (f := fpV (r 1) l a b) (by unfold fpV; rw [if_pos (by omega), if_neg (by omega)])] | rw [cpF_st (f := nfX l) (by rfl), cpF_st (f := fpV (r 1) l a b) (by unfold fpV; rw [if_neg (by omega)])]) (ih_6 (some (zj (a * ((qv (fun j => (r 1) (j + 1)) ((nfP l i_2 : Int) - 6)).natAbs : Int)))) none)
      · have c_13 : ¬ ((((frC (r 1) l i_2 + fxA (r 1) (nfP l i_2) (12 - nfP l i_2)) % 2 : Nat) : Int) ≠ 0) := c_13
        refine Zn.seg (pc2 := 130) (ls2 := [some (za (A 0)), some (zi (s : Int)), some (zi (frC (r 1) l i_2 : Int)), some (zi (i_2 : Int)), some (zj (a * ((qv (fun j => (r 1) (j + 1)) ((nfP l i_2 : Int) - 6)).natAbs : Int))), none]) (st2 := [zj (nY (r 1) (nfP l i_2) * b - (a * ((qv (fun j => (r 1) (j + 1)) ((nfP l i_2 : Int) - 6)).natAbs : Int))), zi (i_2 : Int), za (A 15)]) [(121, .lload 4), (123, .goto 6), (129, .lsub)] (by decide +kernel) rfl ?_
        refine Zn.last hD 15 (i_2) (by decide +kernel) rfl (by omega) (by omega) rfl ?_
        refine Zn.eq (h2 := zov (LM A (va_up (va_up (va_up (va_up (va_up m 19 (l.length : Int)) 20 a) 21 b) 24 b) 25 ((d : Int) + 1)) (va_up (va_up (va_up (va_up (va_up r 11 (arL (l.map nX) (r 11))) 12 (arL (l.map (nY (r 1))) (r 12))) 13 (arL (l.map (nF (r 1))) (r 13))) 14 (va_up (cpF (nfX l) (r 14) i_2) i_2 ((nfP l i_2 : Int) - 6))) 15 (va_up (va_up (cpF (fpV (r 1) l a b) (r 15) i_2) i_2 ((nY (r 1) (nfP l i_2)) * b)) i_2 (nY (r 1) (nfP l i_2) * b - (a * ((qv (fun j => (r 1) (j + 1)) ((nfP l i_2 : Int) - 6)).natAbs : Int)))))) h) rfl rfl rfl (rfl) ?_
        have hD : zND (LM A (va_up (va_up (va_up (va_up (va_up m 19 (l.length : Int)) 20 a) 21 b) 24 b) 25 ((d : Int) + 1)) (va_up (va_up (va_up (va_up (va_up r 11 (arL (l.map nX) (r 11))) 12 (arL (l.map (nY (r 1))) (r 12))) 13 (arL (l.map (nF (r 1))) (r 13))) 14 (va_up (cpF (nfX l) (r 14) i_2) i_2 ((nfP l i_2 : Int) - 6))) 15 (va_up (va_up (cpF (fpV (r 1) l a b) (r 15) i_2) i_2 ((nY (r 1) (nfP l i_2)) * b)) i_2 (nY (r 1) (nfP l i_2) * b - (a * ((qv (fun j => (r 1) (j + 1)) ((nfP l i_2 : Int) - 6)).natAbs : Int)))))) := hD
        refine Zn.seg (pc2 := 29) (ls2 := [some (za (A 0)), some (zi (s : Int)), some (zi ((frC (r 1) l i_2 : Int) + 1)), some (zi ((i_2 : Int) + 1)), some (zj (a * ((qv (fun j => (r 1) (j + 1)) ((nfP l i_2 : Int) - 6)).natAbs : Int))), none]) (st2 := []) [(131, .iinc 2 1), (134, .iinc 3 1), (137, .goto (-108))] (by decide +kernel) rfl ?_
        exact Zn.eq rfl (zcons rfl (zcons rfl (zcons (congrArg (fun z => some (zi z)) (by rw [frC]; first | (exfalso; omega) | (rw [if_pos (by omega)]; omega) | (rw [if_neg (by omega)]; omega))) (zcons (congrArg (fun z => some (zi z)) (by omega)) rfl)))) rfl (by first | (exfalso; omega) | rw [cpF_st (f := nfX l) (by rfl), cpF_st2 (f := fpV (r 1) l a b) (by unfold fpV; rw [if_pos (by omega), if_pos (by omega)])] | rw [cpF_st (f := nfX l) (by rfl), cpF_st2 (f := fpV (r 1) l a b) (by unfold fpV; rw [if_pos (by omega), if_neg (by omega)])] | rw [cpF_st (f := nfX l) (by rfl), cpF_st (f := fpV (r 1) l a b) (by unfold fpV; rw [if_neg (by omega)])]) (ih_6 (some (zj (a * ((qv (fun j => (r 1) (j + 1)) ((nfP l i_2 : Int) - 6)).natAbs : Int)))) none)
  · skip
    refine Zn.seg (pc2 := 31) (ls2 := [some (za (A 0)), some (zi (s : Int)), some (zi (frC (r 1) l (d + 1) : Int)), some (zi ((d + 1) : Int)), j_3, j_4]) (st2 := [za (A 0), zi ((d + 1) : Int)]) [(29, .iload_n 3), (30, .aload_n 0)] (by decide +kernel) rfl ?_
    refine Zn.get (ix := 217) hD 0 (by decide +kernel) rfl rfl rfl ?_
    refine Zn.eq (st2 := [zi ((d : Int) + 1), zi ((d + 1) : Int)]) rfl rfl rfl rfl ?_
    refine Zn.icmp (c := .ge) (off := 106) 140 (by decide +kernel) rfl ⟨by omega, by omega⟩ ⟨by omega, by omega⟩ (fun c_14 => ?_) (fun c_14 => absurd (show (d : Int) + 1 ≤ ((d + 1) : Int) from by omega) c_14)
    have c_14 : (d : Int) + 1 ≤ ((d + 1) : Int) := c_14
    exact Zn.vret (by decide +kernel) rfl (⟨rfl, rfl⟩)
theorem sp_X8_fitsAll {h : xH} {A : Nat → Nat} {m : Nat → Int} {r : Nat → Nat → Int} {l : List Nat} (hL : ∀ q ∈ LM A m r, h q.1 = zcE q.2) (hD : zND (LM A m r)) (hR : ROK (r 1)) (hLl : l = plB (selB (r 1) 8191) 13) (hl : l.length ≤ 4) : zEv k_X8_fitsAll [za (A 0)] h (fun v h2 => v = none ∧ h2 = zov (LM A (va_up (va_up (va_up m 19 (l.length : Int)) 24 1) 25 (l.length : Int)) (va_up (va_up (va_up (va_up (va_up r 11 (arL (l.map nX) (r 11))) 12 (arL (l.map (nY (r 1))) (r 12))) 13 (arL (l.map (nF (r 1))) (r 13))) 14 (cpF (nfX l) (r 14) l.length)) 15 (cpF (fun j => nY (r 1) (nfP l j)) (r 15) l.length))) h) := by
  have hh : h = zov (LM A m r) h := zov_self hL
  refine zEv.body (I := (8, xI_X8_fitsAll, 2, 2, 45, 0, 0, false)) (rt := none) [some (za (A 0)), none] rfl rfl rfl rfl ?_
  refine Zn.eq rfl rfl rfl hh ?_
  have hD : zND (LM A m r) := hD
  refine Zn.seg (pc2 := 4) (ls2 := [some (za (A 0)), none]) (st2 := [zi 8191, za (A 0)]) [(0, .aload_n 0), (1, .sipush 8191)] (by decide +kernel) rfl ?_
  refine Zn.call (ins := .invokevirtual 188) [za (A 0), zi 8191] [] (by decide +kernel) rfl rfl rfl ⟨rfl, rfl⟩ ⟨rfl, rfl, rfl⟩ rfl (zrecvV hD (p := 0) rfl rfl rfl) (sp_X8_takesSet2 (A := A) (m := m) (r := r) (s := 8191) (l := l) (zov_all hD) hD (by decide) (by first | assumption | omega) (by first | assumption | omega) (by omega)) (fun v h2 hp => ?_)
  obtain ⟨rfl, hq_1⟩ := hp
  refine Zn.eq (pc2 := 7) (ls2 := [some (za (A 0)), none]) (st2 := []) (h2 := zov (LM A (va_up m 19 (l.length : Int)) (va_up (va_up (va_up r 11 (arL (l.map nX) (r 11))) 12 (arL (l.map (nY (r 1))) (r 12))) 13 (arL (l.map (nF (r 1))) (r 13)))) h) rfl rfl rfl (hq_1.trans (LM_over _ _ _ _ _ _)) ?_
  have hD : zND (LM A (va_up m 19 (l.length : Int)) (va_up (va_up (va_up r 11 (arL (l.map nX) (r 11))) 12 (arL (l.map (nY (r 1))) (r 12))) 13 (arL (l.map (nF (r 1))) (r 13)))) := hD
  refine Zn.seg (pc2 := 9) (ls2 := [some (za (A 0)), none]) (st2 := [zj 1, za (A 0)]) [(7, .aload_n 0), (8, .lconst 1)] (by decide +kernel) rfl ?_
  refine Zn.put (ix := 214) hD 0 (by decide +kernel) rfl rfl rfl rfl rfl ?_
  refine Zn.eq (h2 := zov (LM A (va_up (va_up m 19 (l.length : Int)) 24 1) (va_up (va_up (va_up r 11 (arL (l.map nX) (r 11))) 12 (arL (l.map (nY (r 1))) (r 12))) 13 (arL (l.map (nF (r 1))) (r 13)))) h) rfl rfl rfl rfl ?_
  have hD : zND (LM A (va_up (va_up m 19 (l.length : Int)) 24 1) (va_up (va_up (va_up r 11 (arL (l.map nX) (r 11))) 12 (arL (l.map (nY (r 1))) (r 12))) 13 (arL (l.map (nF (r 1))) (r 13)))) := hD
  refine Zn.seg (pc2 := 14) (ls2 := [some (za (A 0)), none]) (st2 := [za (A 0), za (A 0)]) [(12, .aload_n 0), (13, .aload_n 0)] (by decide +kernel) rfl ?_
  refine Zn.get (ix := 178) hD 0 (by decide +kernel) rfl rfl rfl ?_
  refine Zn.eq (st2 := [zi (l.length : Int), za (A 0)]) rfl rfl rfl rfl ?_
  refine Zn.put (ix := 217) hD 0 (by decide +kernel) rfl rfl rfl rfl rfl ?_
  refine Zn.eq (h2 := zov (LM A (va_up (va_up (va_up m 19 (l.length : Int)) 24 1) 25 (l.length : Int)) (va_up (va_up (va_up r 11 (arL (l.map nX) (r 11))) 12 (arL (l.map (nY (r 1))) (r 12))) 13 (arL (l.map (nF (r 1))) (r 13)))) h) rfl rfl rfl rfl ?_
  have hD : zND (LM A (va_up (va_up (va_up m 19 (l.length : Int)) 24 1) 25 (l.length : Int)) (va_up (va_up (va_up r 11 (arL (l.map nX) (r 11))) 12 (arL (l.map (nY (r 1))) (r 12))) 13 (arL (l.map (nF (r 1))) (r 13)))) := hD
  refine Zn.seg (pc2 := 22) (ls2 := [some (za (A 0)), some (zi 0)]) (st2 := []) [(20, .iconst 0), (21, .istore_n 1)] (by decide +kernel) rfl ?_
  refine Zn.eq (pc2 := 22) (ls2 := [some (za (A 0)), some (zi (0 : Int))]) (st2 := []) (h2 := zov (LM A (va_up (va_up (va_up m 19 (l.length : Int)) 24 1) 25 (l.length : Int)) (va_up (va_up (va_up (va_up (va_up r 11 (arL (l.map nX) (r 11))) 12 (arL (l.map (nY (r 1))) (r 12))) 13 (arL (l.map (nF (r 1))) (r 13))) 14 (cpF (nfX l) (r 14) 0)) 15 (cpF (fun j => nY (r 1) (nfP l j)) (r 15) 0))) h) rfl (zcons rfl (zcons (congrArg (fun z => some (zi z)) (by first | rfl | omega | simp)) rfl)) rfl (by simp only [cpF_zero] <;> rfl) ?_
  have hD : zND (LM A (va_up (va_up (va_up m 19 (l.length : Int)) 24 1) 25 (l.length : Int)) (va_up (va_up (va_up (va_up (va_up r 11 (arL (l.map nX) (r 11))) 12 (arL (l.map (nY (r 1))) (r 12))) 13 (arL (l.map (nF (r 1))) (r 13))) 14 (cpF (nfX l) (r 14) 0)) 15 (cpF (fun j => nY (r 1) (nfP l j)) (r 15) 0))) := hD
  refine xloop (P := fun i_2 => Zn (8, xI_X8_fitsAll, 2, 2, 45, 0, 0, false) none 22 [some (za (A 0)), some (zi (i_2 : Int))] [] (zov (LM A (va_up (va_up (va_up m 19 (l.length : Int)) 24 1) 25 (l.length : Int)) (va_up (va_up (va_up (va_up (va_up r 11 (arL (l.map nX) (r 11))) 12 (arL (l.map (nY (r 1))) (r 12))) 13 (arL (l.map (nF (r 1))) (r 13))) 14 (cpF (nfX l) (r 14) i_2)) 15 (cpF (fun j => nY (r 1) (nfP l j)) (r 15) i_2))) h) _) (l.length) (fun i_2 hi_3 ih_4 => ?_) ?_
  · have hi_ : i_2 < l.length := hi_3
    have hnl := nfP_lt hLl hi_
    have hyr := ROK_y hR hnl
    refine Zn.seg (pc2 := 24) (ls2 := [some (za (A 0)), some (zi (i_2 : Int))]) (st2 := [za (A 0), zi (i_2 : Int)]) [(22, .iload_n 1), (23, .aload_n 0)] (by decide +kernel) rfl ?_
    refine Zn.get (ix := 217) hD 0 (by decide +kernel) rfl rfl rfl ?_
    refine Zn.eq (st2 := [zi (l.length : Int), zi (i_2 : Int)]) rfl rfl rfl rfl ?_
    refine Zn.icmp (c := .ge) (off := 34) 61 (by decide +kernel) rfl ⟨by omega, by omega⟩ ⟨by omega, by omega⟩ (fun c_5 => absurd (show (l.length : Int) ≤ (i_2 : Int) from c_5) (by omega)) (fun c_5 => ?_)
    have c_5 : ¬ ((l.length : Int) ≤ (i_2 : Int)) := c_5
    refine Zn.seg (pc2 := 31) (ls2 := [some (za (A 0)), some (zi (i_2 : Int))]) (st2 := [za (A 0)]) [(30, .aload_n 0)] (by decide +kernel) rfl ?_
    refine Zn.get (ix := 55) hD 0 (by decide +kernel) rfl rfl rfl ?_
    refine Zn.seg (pc2 := 36) (ls2 := [some (za (A 0)), some (zi (i_2 : Int))]) (st2 := [za (A 0), zi (i_2 : Int), za (A 14)]) [(34, .iload_n 1), (35, .aload_n 0)] (by decide +kernel) rfl ?_
    refine Zn.get (ix := 45) hD 0 (by decide +kernel) rfl rfl rfl ?_
    refine Zn.seg (pc2 := 40) (ls2 := [some (za (A 0)), some (zi (i_2 : Int))]) (st2 := [zi (i_2 : Int), za (A 11), zi (i_2 : Int), za (A 14)]) [(39, .iload_n 1)] (by decide +kernel) rfl ?_
    refine Zn.iald hD 11 (i_2) (by decide +kernel) rfl (by omega) (by omega) rfl ?_
    refine Zn.eq (st2 := [zi ((arL (l.map nX) (r 11)) i_2), zi (i_2 : Int), za (A 14)]) rfl rfl rfl rfl ?_
    refine Zn.topi (y := (nfP l i_2 : Int) - 6) (arL_m (F := nX) (by omega)) ?_
    refine Zn.iast hD 14 (i_2) (by decide +kernel) rfl (by omega) (by omega) rfl ?_
    refine Zn.eq (h2 := zov (LM A (va_up (va_up (va_up m 19 (l.length : Int)) 24 1) 25 (l.length : Int)) (va_up (va_up (va_up (va_up (va_up r 11 (arL (l.map nX) (r 11))) 12 (arL (l.map (nY (r 1))) (r 12))) 13 (arL (l.map (nF (r 1))) (r 13))) 14 (va_up (cpF (nfX l) (r 14) i_2) i_2 ((nfP l i_2 : Int) - 6))) 15 (cpF (fun j => nY (r 1) (nfP l j)) (r 15) i_2))) h) rfl rfl rfl (rfl) ?_
    have hD : zND (LM A (va_up (va_up (va_up m 19 (l.length : Int)) 24 1) 25 (l.length : Int)) (va_up (va_up (va_up (va_up (va_up r 11 (arL (l.map nX) (r 11))) 12 (arL (l.map (nY (r 1))) (r 12))) 13 (arL (l.map (nF (r 1))) (r 13))) 14 (va_up (cpF (nfX l) (r 14) i_2) i_2 ((nfP l i_2 : Int) - 6))) 15 (cpF (fun j => nY (r 1) (nfP l j)) (r 15) i_2))) := hD
    refine Zn.seg (pc2 := 43) (ls2 := [some (za (A 0)), some (zi (i_2 : Int))]) (st2 := [za (A 0)]) [(42, .aload_n 0)] (by decide +kernel) rfl ?_
    refine Zn.get (ix := 58) hD 0 (by decide +kernel) rfl rfl rfl ?_
    refine Zn.seg (pc2 := 48) (ls2 := [some (za (A 0)), some (zi (i_2 : Int))]) (st2 := [za (A 0), zi (i_2 : Int), za (A 15)]) [(46, .iload_n 1), (47, .aload_n 0)] (by decide +kernel) rfl ?_
    refine Zn.get (ix := 48) hD 0 (by decide +kernel) rfl rfl rfl ?_
    refine Zn.seg (pc2 := 52) (ls2 := [some (za (A 0)), some (zi (i_2 : Int))]) (st2 := [zi (i_2 : Int), za (A 12), zi (i_2 : Int), za (A 15)]) [(51, .iload_n 1)] (by decide +kernel) rfl ?_
    refine Zn.iald hD 12 (i_2) (by decide +kernel) rfl (by omega) (by omega) rfl ?_
    refine Zn.eq (st2 := [zi ((arL (l.map (nY (r 1))) (r 12)) i_2), zi (i_2 : Int), za (A 15)]) rfl rfl rfl rfl ?_
    refine Zn.topi (y := nY (r 1) (nfP l i_2)) (arL_m (F := nY (r 1)) (by omega)) ?_
    refine Zn.i2l (by decide +kernel) ⟨by omega, by omega⟩ ?_
    refine Zn.last hD 15 (i_2) (by decide +kernel) rfl (by omega) (by omega) rfl ?_
    refine Zn.eq (h2 := zov (LM A (va_up (va_up (va_up m 19 (l.length : Int)) 24 1) 25 (l.length : Int)) (va_up (va_up (va_up (va_up (va_up r 11 (arL (l.map nX) (r 11))) 12 (arL (l.map (nY (r 1))) (r 12))) 13 (arL (l.map (nF (r 1))) (r 13))) 14 (va_up (cpF (nfX l) (r 14) i_2) i_2 ((nfP l i_2 : Int) - 6))) 15 (va_up (cpF (fun j => nY (r 1) (nfP l j)) (r 15) i_2) i_2 (nY (r 1) (nfP l i_2))))) h) rfl rfl rfl (rfl) ?_
    have hD : zND (LM A (va_up (va_up (va_up m 19 (l.length : Int)) 24 1) 25 (l.length : Int)) (va_up (va_up (va_up (va_up (va_up r 11 (arL (l.map nX) (r 11))) 12 (arL (l.map (nY (r 1))) (r 12))) 13 (arL (l.map (nF (r 1))) (r 13))) 14 (va_up (cpF (nfX l) (r 14) i_2) i_2 ((nfP l i_2 : Int) - 6))) 15 (va_up (cpF (fun j => nY (r 1) (nfP l j)) (r 15) i_2) i_2 (nY (r 1) (nfP l i_2))))) := hD
    refine Zn.seg (pc2 := 22) (ls2 := [some (za (A 0)), some (zi ((i_2 : Int) + 1))]) (st2 := []) [(55, .iinc 1 1), (58, .goto (-36))] (by decide +kernel) rfl ?_
    exact Zn.eq rfl (zcons rfl (zcons (congrArg (fun z => some (zi z)) (by omega)) rfl)) rfl (by rw [cpF_st (f := nfX l) (by rfl), cpF_st (f := fun j => nY (r 1) (nfP l j)) (by rfl)]) (ih_4)
  · skip
    refine Zn.seg (pc2 := 24) (ls2 := [some (za (A 0)), some (zi (l.length : Int))]) (st2 := [za (A 0), zi (l.length : Int)]) [(22, .iload_n 1), (23, .aload_n 0)] (by decide +kernel) rfl ?_
    refine Zn.get (ix := 217) hD 0 (by decide +kernel) rfl rfl rfl ?_
    refine Zn.eq (st2 := [zi (l.length : Int), zi (l.length : Int)]) rfl rfl rfl rfl ?_
    refine Zn.icmp (c := .ge) (off := 34) 61 (by decide +kernel) rfl ⟨by omega, by omega⟩ ⟨by omega, by omega⟩ (fun c_6 => ?_) (fun c_6 => absurd (show (l.length : Int) ≤ (l.length : Int) from by omega) c_6)
    have c_6 : (l.length : Int) ≤ (l.length : Int) := c_6
    exact Zn.vret (by decide +kernel) rfl (⟨rfl, rfl⟩)
theorem sp_X8_lower {h : xH} {A : Nat → Nat} {m : Nat → Int} {r : Nat → Nat → Int} {k : Nat} (hL : ∀ q ∈ LM A m r, h q.1 = zcE q.2) (hD : zND (LM A m r)) (hm : m 25 = (k : Int)) (hk4 : k ≤ 4) (hf : ∀ j, j < k → -6 ≤ r 14 j ∧ r 14 j ≤ 6) : zEv k_X8_lower [za (A 0)] h (fun v h2 => v = some (zj (m 24 * vdA (r 14) k k)) ∧ h2 = h) := by
  have hh : h = zov (LM A m r) h := zov_self hL
  refine zEv.body (I := (8, xI_X8_lower, 5, 0, 0, 0, 0, false)) (rt := (some .long)) [some (za (A 0)), none, none, none, none] rfl rfl rfl rfl ?_
  refine Zn.eq rfl rfl rfl hh ?_
  have hD : zND (LM A m r) := hD
  refine Zn.seg (pc2 := 1) (ls2 := [some (za (A 0)), none, none, none, none]) (st2 := [za (A 0)]) [(0, .aload_n 0)] (by decide +kernel) rfl ?_
  refine Zn.get (ix := 214) hD 0 (by decide +kernel) rfl rfl rfl ?_
  refine Zn.seg (pc2 := 7) (ls2 := [some (za (A 0)), some (zj (m 24)), none, some (zi 0), none]) (st2 := []) [(4, .lstore_n 1), (5, .iconst 0), (6, .istore_n 3)] (by decide +kernel) rfl ?_
  refine Zn.eq (pc2 := 7) (ls2 := [some (za (A 0)), some (zj (m 24 * vdA (r 14) k 0)), none, some (zi (0 : Int)), none]) (st2 := []) (h2 := zov (LM A m r) h) rfl (zcons rfl (zcons (congrArg (fun z => some (zj z)) (by rw [vdA, Int.mul_one])) (zcons rfl (zcons (congrArg (fun z => some (zi z)) (by first | rfl | omega | simp)) rfl)))) rfl (rfl) ?_
  have hD : zND (LM A m r) := hD
  refine xloop (P := fun i_1 => ∀ j_3 : Option zV, Zn (8, xI_X8_lower, 5, 0, 0, 0, 0, false) (some .long) 7 [some (za (A 0)), some (zj (m 24 * vdA (r 14) k i_1)), none, some (zi (i_1 : Int)), j_3] [] (zov (LM A m r) h) _) (k) (fun i_1 hi_4 ih_5 j_3 => ?_) (fun j_3 => ?_) none
  · have hi_ : i_1 < k := hi_4
    have hfa := hf i_1 (by omega)
    refine Zn.seg (pc2 := 9) (ls2 := [some (za (A 0)), some (zj (m 24 * vdA (r 14) k i_1)), none, some (zi (i_1 : Int)), j_3]) (st2 := [za (A 0), zi (i_1 : Int)]) [(7, .iload_n 3), (8, .aload_n 0)] (by decide +kernel) rfl ?_
    refine Zn.get (ix := 217) hD 0 (by decide +kernel) rfl rfl rfl ?_
    refine Zn.topi (y := (k : Int)) (hm) ?_
    refine Zn.icmp (c := .ge) (off := 47) 59 (by decide +kernel) rfl ⟨by omega, by omega⟩ ⟨by omega, by omega⟩ (fun c_6 => absurd (show (k : Int) ≤ (i_1 : Int) from c_6) (by omega)) (fun c_6 => ?_)
    have c_6 : ¬ ((k : Int) ≤ (i_1 : Int)) := c_6
    refine Zn.seg (pc2 := 20) (ls2 := [some (za (A 0)), some (zj (m 24 * vdA (r 14) k i_1)), none, some (zi (i_1 : Int)), some (zi ((i_1 : Int) + 1))]) (st2 := []) [(15, .iload_n 3), (16, .iconst 1), (17, .iadd), (18, .istore 4)] (by decide +kernel) rfl ?_
    refine Zn.eq (pc2 := 20) (ls2 := [some (za (A 0)), some (zj (m 24 * vdA (r 14) k i_1 * vdB (r 14) i_1 0)), none, some (zi (i_1 : Int)), some (zi ((i_1 : Int) + 1 + (0 : Int)))]) (st2 := []) (h2 := zov (LM A m r) h) rfl (zcons rfl (zcons (congrArg (fun z => some (zj z)) (by rw [vdB, Int.mul_one])) (zcons rfl (zcons rfl (zcons (congrArg (fun z => some (zi z)) (by first | rfl | omega | simp)) rfl))))) rfl (rfl) ?_
    have hD : zND (LM A m r) := hD
    refine xloop (P := fun i_7 => Zn (8, xI_X8_lower, 5, 0, 0, 0, 0, false) (some .long) 20 [some (za (A 0)), some (zj (m 24 * vdA (r 14) k i_1 * vdB (r 14) i_1 i_7)), none, some (zi (i_1 : Int)), some (zi ((i_1 : Int) + 1 + (i_7 : Int)))] [] (zov (LM A m r) h) _) ((k - (i_1 + 1))) (fun i_7 hi_9 ih_10 => ?_) ?_
    · have hi_ : i_7 < (k - (i_1 + 1)) := hi_9
      have hfb := hf (i_1 + i_7 + 1) (by omega)
      refine Zn.seg (pc2 := 23) (ls2 := [some (za (A 0)), some (zj (m 24 * vdA (r 14) k i_1 * vdB (r 14) i_1 i_7)), none, some (zi (i_1 : Int)), some (zi ((i_1 : Int) + 1 + (i_7 : Int)))]) (st2 := [za (A 0), zi ((i_1 : Int) + 1 + (i_7 : Int))]) [(20, .iload 4), (22, .aload_n 0)] (by decide +kernel) rfl ?_
      refine Zn.get (ix := 217) hD 0 (by decide +kernel) rfl rfl rfl ?_
      refine Zn.topi (y := (k : Int)) (hm) ?_
      refine Zn.icmp (c := .ge) (off := 27) 53 (by decide +kernel) rfl ⟨by omega, by omega⟩ ⟨by omega, by omega⟩ (fun c_11 => absurd (show (k : Int) ≤ (i_1 : Int) + 1 + (i_7 : Int) from c_11) (by omega)) (fun c_11 => ?_)
      have c_11 : ¬ ((k : Int) ≤ (i_1 : Int) + 1 + (i_7 : Int)) := c_11
      refine Zn.seg (pc2 := 31) (ls2 := [some (za (A 0)), some (zj (m 24 * vdA (r 14) k i_1 * vdB (r 14) i_1 i_7)), none, some (zi (i_1 : Int)), some (zi ((i_1 : Int) + 1 + (i_7 : Int)))]) (st2 := [za (A 0), zj (m 24 * vdA (r 14) k i_1 * vdB (r 14) i_1 i_7)]) [(29, .lload_n 1), (30, .aload_n 0)] (by decide +kernel) rfl ?_
      refine Zn.get (ix := 55) hD 0 (by decide +kernel) rfl rfl rfl ?_
      refine Zn.seg (pc2 := 36) (ls2 := [some (za (A 0)), some (zj (m 24 * vdA (r 14) k i_1 * vdB (r 14) i_1 i_7)), none, some (zi (i_1 : Int)), some (zi ((i_1 : Int) + 1 + (i_7 : Int)))]) (st2 := [zi ((i_1 : Int) + 1 + (i_7 : Int)), za (A 14), zj (m 24 * vdA (r 14) k i_1 * vdB (r 14) i_1 i_7)]) [(34, .iload 4)] (by decide +kernel) rfl ?_
      refine Zn.iald hD 14 (i_1 + i_7 + 1) (by decide +kernel) rfl (by omega) (by omega) rfl ?_
      refine Zn.seg (pc2 := 38) (ls2 := [some (za (A 0)), some (zj (m 24 * vdA (r 14) k i_1 * vdB (r 14) i_1 i_7)), none, some (zi (i_1 : Int)), some (zi ((i_1 : Int) + 1 + (i_7 : Int)))]) (st2 := [za (A 0), zi ((r 14) (i_1 + i_7 + 1)), zj (m 24 * vdA (r 14) k i_1 * vdB (r 14) i_1 i_7)]) [(37, .aload_n 0)] (by decide +kernel) rfl ?_
      refine Zn.get (ix := 55) hD 0 (by decide +kernel) rfl rfl rfl ?_
      refine Zn.seg (pc2 := 42) (ls2 := [some (za (A 0)), some (zj (m 24 * vdA (r 14) k i_1 * vdB (r 14) i_1 i_7)), none, some (zi (i_1 : Int)), some (zi ((i_1 : Int) + 1 + (i_7 : Int)))]) (st2 := [zi (i_1 : Int), za (A 14), zi ((r 14) (i_1 + i_7 + 1)), zj (m 24 * vdA (r 14) k i_1 * vdB (r 14) i_1 i_7)]) [(41, .iload_n 3)] (by decide +kernel) rfl ?_
      refine Zn.iald hD 14 (i_1) (by decide +kernel) rfl (by omega) (by omega) rfl ?_
      refine Zn.seg (pc2 := 44) (ls2 := [some (za (A 0)), some (zj (m 24 * vdA (r 14) k i_1 * vdB (r 14) i_1 i_7)), none, some (zi (i_1 : Int)), some (zi ((i_1 : Int) + 1 + (i_7 : Int)))]) (st2 := [zi ((r 14) (i_1 + i_7 + 1) - ((r 14) i_1)), zj (m 24 * vdA (r 14) k i_1 * vdB (r 14) i_1 i_7)]) [(43, .isub)] (by decide +kernel) rfl ?_
      refine Zn.i2l (by decide +kernel) ⟨by omega, by omega⟩ ?_
      refine Zn.seg (pc2 := 20) (ls2 := [some (za (A 0)), some (zj ((m 24 * vdA (r 14) k i_1 * vdB (r 14) i_1 i_7) * ((r 14) (i_1 + i_7 + 1) - ((r 14) i_1)))), none, some (zi (i_1 : Int)), some (zi ((i_1 : Int) + 1 + (i_7 : Int) + 1))]) (st2 := []) [(45, .lmul), (46, .lstore_n 1), (47, .iinc 4 1), (50, .goto (-30))] (by decide +kernel) rfl ?_
      exact Zn.eq rfl (zcons rfl (zcons (congrArg (fun z => some (zj z)) (by rw [vdB, Int.mul_assoc])) (zcons rfl (zcons rfl (zcons (congrArg (fun z => some (zi z)) (by omega)) rfl))))) rfl (rfl) (ih_10)
    · skip
      refine Zn.seg (pc2 := 23) (ls2 := [some (za (A 0)), some (zj (m 24 * vdA (r 14) k i_1 * vdB (r 14) i_1 (k - (i_1 + 1)))), none, some (zi (i_1 : Int)), some (zi ((i_1 : Int) + 1 + ((k - (i_1 + 1) : Nat) : Int)))]) (st2 := [za (A 0), zi ((i_1 : Int) + 1 + ((k - (i_1 + 1) : Nat) : Int))]) [(20, .iload 4), (22, .aload_n 0)] (by decide +kernel) rfl ?_
      refine Zn.get (ix := 217) hD 0 (by decide +kernel) rfl rfl rfl ?_
      refine Zn.topi (y := (k : Int)) (hm) ?_
      refine Zn.icmp (c := .ge) (off := 27) 53 (by decide +kernel) rfl ⟨by omega, by omega⟩ ⟨by omega, by omega⟩ (fun c_12 => ?_) (fun c_12 => absurd (show (k : Int) ≤ (i_1 : Int) + 1 + ((k - (i_1 + 1) : Nat) : Int) from by omega) c_12)
      have c_12 : (k : Int) ≤ (i_1 : Int) + 1 + ((k - (i_1 + 1) : Nat) : Int) := c_12
      refine Zn.seg (pc2 := 7) (ls2 := [some (za (A 0)), some (zj (m 24 * vdA (r 14) k i_1 * vdB (r 14) i_1 (k - (i_1 + 1)))), none, some (zi ((i_1 : Int) + 1)), some (zi ((i_1 : Int) + 1 + ((k - (i_1 + 1) : Nat) : Int)))]) (st2 := []) [(53, .iinc 3 1), (56, .goto (-49))] (by decide +kernel) rfl ?_
      exact Zn.eq rfl (zcons rfl (zcons (congrArg (fun z => some (zj z)) (by rw [vdA, Int.mul_assoc])) (zcons rfl (zcons (congrArg (fun z => some (zi z)) (by omega)) rfl)))) rfl (rfl) (ih_5 (some (zi ((i_1 : Int) + 1 + ((k - (i_1 + 1) : Nat) : Int)))))
  · skip
    refine Zn.seg (pc2 := 9) (ls2 := [some (za (A 0)), some (zj (m 24 * vdA (r 14) k k)), none, some (zi (k : Int)), j_3]) (st2 := [za (A 0), zi (k : Int)]) [(7, .iload_n 3), (8, .aload_n 0)] (by decide +kernel) rfl ?_
    refine Zn.get (ix := 217) hD 0 (by decide +kernel) rfl rfl rfl ?_
    refine Zn.topi (y := (k : Int)) (hm) ?_
    refine Zn.icmp (c := .ge) (off := 47) 59 (by decide +kernel) rfl ⟨by omega, by omega⟩ ⟨by omega, by omega⟩ (fun c_13 => ?_) (fun c_13 => absurd (show (k : Int) ≤ (k : Int) from by omega) c_13)
    have c_13 : (k : Int) ≤ (k : Int) := c_13
    refine Zn.seg (pc2 := 60) (ls2 := [some (za (A 0)), some (zj (m 24 * vdA (r 14) k k)), none, some (zi (k : Int)), j_3]) (st2 := [zj (m 24 * vdA (r 14) k k)]) [(59, .lload_n 1)] (by decide +kernel) rfl ?_
    exact Zn.lret (by decide +kernel) rfl (⟨by first | rfl | (refine congrArg some (congrArg zj ?_); first | omega | (simp_all; done) | (simp_all; omega)), hh.symm⟩)
theorem sp_X8_partOf {h : xH} {A : Nat → Nat} {m : Nat → Int} {r : Nat → Nat → Int} {k c : Nat} (hL : ∀ q ∈ LM A m r, h q.1 = zcE q.2) (hD : zND (LM A m r)) (hm : m 25 = (k : Int)) (hk4 : k ≤ 4) (hf : ∀ j, j < k → -6 ≤ r 14 j ∧ r 14 j ≤ 6) (hc : c < k) : zEv k_X8_partOf [za (A 0), zi (c : Int)] h (fun v h2 => v = some (zj (sgT k c * dfA (r 14) c k k)) ∧ h2 = h) := by
  have hh : h = zov (LM A m r) h := zov_self hL
  refine zEv.body (I := (8, xI_X8_partOf, 6, 0, 0, 0, 0, false)) (rt := (some .long)) [some (za (A 0)), some (zi (c : Int)), none, none, none, none] rfl rfl rfl rfl ?_
  refine Zn.eq rfl rfl rfl hh ?_
  have hD : zND (LM A m r) := hD
  refine Zn.seg (pc2 := 1) (ls2 := [some (za (A 0)), some (zi (c : Int)), none, none, none, none]) (st2 := [za (A 0)]) [(0, .aload_n 0)] (by decide +kernel) rfl ?_
  refine Zn.get (ix := 217) hD 0 (by decide +kernel) rfl rfl rfl ?_
  refine Zn.topi (y := (k : Int)) (hm) ?_
  refine Zn.seg (pc2 := 9) (ls2 := [some (za (A 0)), some (zi (c : Int)), none, none, none, none]) (st2 := [zi 2, zi ((k : Int) - 1 - (c : Int))]) [(4, .iconst 1), (5, .isub), (6, .iload_n 1), (7, .isub), (8, .iconst 2)] (by decide +kernel) rfl ?_
  refine Zn.irem (by decide +kernel) ⟨by omega, by omega⟩ ⟨by decide, by decide⟩ (by omega) ?_
  refine Zn.topi (y := (((k - 1 - c) % 2 : Nat) : Int)) (by rw [show (k : Int) - 1 - (c : Int) = ((k - 1 - c : Nat) : Int) from by omega]; exact ntm 2 rfl) ?_
  refine Zn.ifc (c := .ne) (off := 7) 17 (by decide +kernel) rfl ⟨by omega, by omega⟩ (fun c_1 => ?_) (fun c_1 => ?_)
  · have c_1 : (((k - 1 - c) % 2 : Nat) : Int) ≠ 0 := c_1
    refine Zn.seg (pc2 := 24) (ls2 := [some (za (A 0)), some (zi (c : Int)), some (zj (-1)), none, some (zi 0), none]) (st2 := []) [(17, .ldc2_w 223), (20, .lstore_n 2), (21, .iconst 0), (22, .istore 4)] (by decide +kernel) rfl ?_
    refine Zn.eq (pc2 := 24) (ls2 := [some (za (A 0)), some (zi (c : Int)), some (zj (sgT k c * dfA (r 14) c k 0)), none, some (zi (0 : Int)), none]) (st2 := []) (h2 := zov (LM A m r) h) rfl (zcons rfl (zcons rfl (zcons (congrArg (fun z => some (zj z)) (by rw [dfA, Int.mul_one, sgT]; first | rw [if_pos (by omega)] | rw [if_neg (by omega)])) (zcons rfl (zcons (congrArg (fun z => some (zi z)) (by first | rfl | omega | simp)) rfl))))) rfl (rfl) ?_
    have hD : zND (LM A m r) := hD
    refine xloop (P := fun i_2 => ∀ j_4 : Option zV, Zn (8, xI_X8_partOf, 6, 0, 0, 0, 0, false) (some .long) 24 [some (za (A 0)), some (zi (c : Int)), some (zj (sgT k c * dfA (r 14) c k i_2)), none, some (zi (i_2 : Int)), j_4] [] (zov (LM A m r) h) _) (k) (fun i_2 hi_5 ih_6 j_4 => ?_) (fun j_4 => ?_) none
    · have hi_ : i_2 < k := hi_5
      have hfa := hf i_2 (by omega)
      refine Zn.seg (pc2 := 27) (ls2 := [some (za (A 0)), some (zi (c : Int)), some (zj (sgT k c * dfA (r 14) c k i_2)), none, some (zi (i_2 : Int)), j_4]) (st2 := [za (A 0), zi (i_2 : Int)]) [(24, .iload 4), (26, .aload_n 0)] (by decide +kernel) rfl ?_
      refine Zn.get (ix := 217) hD 0 (by decide +kernel) rfl rfl rfl ?_
      refine Zn.topi (y := (k : Int)) (hm) ?_
      refine Zn.icmp (c := .ge) (off := 65) 95 (by decide +kernel) rfl ⟨by omega, by omega⟩ ⟨by omega, by omega⟩ (fun c_7 => absurd (show (k : Int) ≤ (i_2 : Int) from c_7) (by omega)) (fun c_7 => ?_)
      have c_7 : ¬ ((k : Int) ≤ (i_2 : Int)) := c_7
      refine Zn.seg (pc2 := 39) (ls2 := [some (za (A 0)), some (zi (c : Int)), some (zj (sgT k c * dfA (r 14) c k i_2)), none, some (zi (i_2 : Int)), some (zi ((i_2 : Int) + 1))]) (st2 := []) [(33, .iload 4), (35, .iconst 1), (36, .iadd), (37, .istore 5)] (by decide +kernel) rfl ?_
      refine Zn.eq (pc2 := 39) (ls2 := [some (za (A 0)), some (zi (c : Int)), some (zj (sgT k c * dfA (r 14) c k i_2 * dfB (r 14) c i_2 0)), none, some (zi (i_2 : Int)), some (zi ((i_2 : Int) + 1 + (0 : Int)))]) (st2 := []) (h2 := zov (LM A m r) h) rfl (zcons rfl (zcons rfl (zcons (congrArg (fun z => some (zj z)) (by rw [dfB, Int.mul_one])) (zcons rfl (zcons rfl (zcons (congrArg (fun z => some (zi z)) (by first | rfl | omega | simp)) rfl)))))) rfl (rfl) ?_
      have hD : zND (LM A m r) := hD
      refine xloop (P := fun i_8 => Zn (8, xI_X8_partOf, 6, 0, 0, 0, 0, false) (some .long) 39 [some (za (A 0)), some (zi (c : Int)), some (zj (sgT k c * dfA (r 14) c k i_2 * dfB (r 14) c i_2 i_8)), none, some (zi (i_2 : Int)), some (zi ((i_2 : Int) + 1 + (i_8 : Int)))] [] (zov (LM A m r) h) _) ((k - (i_2 + 1))) (fun i_8 hi_10 ih_11 => ?_) ?_
      · have hi_ : i_8 < (k - (i_2 + 1)) := hi_10
        have hfb := hf (i_2 + i_8 + 1) (by omega)
        refine Zn.seg (pc2 := 42) (ls2 := [some (za (A 0)), some (zi (c : Int)), some (zj (sgT k c * dfA (r 14) c k i_2 * dfB (r 14) c i_2 i_8)), none, some (zi (i_2 : Int)), some (zi ((i_2 : Int) + 1 + (i_8 : Int)))]) (st2 := [za (A 0), zi ((i_2 : Int) + 1 + (i_8 : Int))]) [(39, .iload 5), (41, .aload_n 0)] (by decide +kernel) rfl ?_
        refine Zn.get (ix := 217) hD 0 (by decide +kernel) rfl rfl rfl ?_
        refine Zn.topi (y := (k : Int)) (hm) ?_
        refine Zn.icmp (c := .ge) (off := 44) 89 (by decide +kernel) rfl ⟨by omega, by omega⟩ ⟨by omega, by omega⟩ (fun c_12 => absurd (show (k : Int) ≤ (i_2 : Int) + 1 + (i_8 : Int) from c_12) (by omega)) (fun c_12 => ?_)
        have c_12 : ¬ ((k : Int) ≤ (i_2 : Int) + 1 + (i_8 : Int)) := c_12
        refine Zn.seg (pc2 := 52) (ls2 := [some (za (A 0)), some (zi (c : Int)), some (zj (sgT k c * dfA (r 14) c k i_2 * dfB (r 14) c i_2 i_8)), none, some (zi (i_2 : Int)), some (zi ((i_2 : Int) + 1 + (i_8 : Int)))]) (st2 := [zi (c : Int), zi (i_2 : Int), zj (sgT k c * dfA (r 14) c k i_2 * dfB (r 14) c i_2 i_8)]) [(48, .lload_n 2), (49, .iload 4), (51, .iload_n 1)] (by decide +kernel) rfl ?_
        refine Zn.icmp (c := .eq) (off := 9) 61 (by decide +kernel) rfl ⟨by omega, by omega⟩ ⟨by omega, by omega⟩ (fun c_13 => ?_) (fun c_13 => ?_)
        · have c_13 : (i_2 : Int) = (c : Int) := c_13
          refine Zn.seg (pc2 := 39) (ls2 := [some (za (A 0)), some (zi (c : Int)), some (zj ((sgT k c * dfA (r 14) c k i_2 * dfB (r 14) c i_2 i_8) * 1)), none, some (zi (i_2 : Int)), some (zi ((i_2 : Int) + 1 + (i_8 : Int) + 1))]) (st2 := []) [(61, .lconst 1), (62, .goto 19), (81, .lmul), (82, .lstore_n 2), (83, .iinc 5 1), (86, .goto (-47))] (by decide +kernel) rfl ?_
          exact Zn.eq rfl (zcons rfl (zcons rfl (zcons (congrArg (fun z => some (zj z)) (by rw [dfB]; first | rw [if_pos (by omega), Int.mul_assoc] | rw [if_neg (by omega), Int.mul_assoc])) (zcons rfl (zcons rfl (zcons (congrArg (fun z => some (zi z)) (by omega)) rfl)))))) rfl (rfl) (ih_11)
        · have c_13 : ¬ ((i_2 : Int) = (c : Int)) := c_13
          refine Zn.seg (pc2 := 58) (ls2 := [some (za (A 0)), some (zi (c : Int)), some (zj (sgT k c * dfA (r 14) c k i_2 * dfB (r 14) c i_2 i_8)), none, some (zi (i_2 : Int)), some (zi ((i_2 : Int) + 1 + (i_8 : Int)))]) (st2 := [zi (c : Int), zi ((i_2 : Int) + 1 + (i_8 : Int)), zj (sgT k c * dfA (r 14) c k i_2 * dfB (r 14) c i_2 i_8)]) [(55, .iload 5), (57, .iload_n 1)] (by decide +kernel) rfl ?_
          refine Zn.icmp (c := .ne) (off := 7) 65 (by decide +kernel) rfl ⟨by omega, by omega⟩ ⟨by omega, by omega⟩ (fun c_14 => ?_) (fun c_14 => ?_)
          · have c_14 : (i_2 : Int) + 1 + (i_8 : Int) ≠ (c : Int) := c_14
            refine Zn.seg (pc2 := 66) (ls2 := [some (za (A 0)), some (zi (c : Int)), some (zj (sgT k c * dfA (r 14) c k i_2 * dfB (r 14) c i_2 i_8)), none, some (zi (i_2 : Int)), some (zi ((i_2 : Int) + 1 + (i_8 : Int)))]) (st2 := [za (A 0), zj (sgT k c * dfA (r 14) c k i_2 * dfB (r 14) c i_2 i_8)]) [(65, .aload_n 0)] (by decide +kernel) rfl ?_
            refine Zn.get (ix := 55) hD 0 (by decide +kernel) rfl rfl rfl ?_
            refine Zn.seg (pc2 := 71) (ls2 := [some (za (A 0)), some (zi (c : Int)), some (zj (sgT k c * dfA (r 14) c k i_2 * dfB (r 14) c i_2 i_8)), none, some (zi (i_2 : Int)), some (zi ((i_2 : Int) + 1 + (i_8 : Int)))]) (st2 := [zi ((i_2 : Int) + 1 + (i_8 : Int)), za (A 14), zj (sgT k c * dfA (r 14) c k i_2 * dfB (r 14) c i_2 i_8)]) [(69, .iload 5)] (by decide +kernel) rfl ?_
            refine Zn.iald hD 14 (i_2 + i_8 + 1) (by decide +kernel) rfl (by omega) (by omega) rfl ?_
            refine Zn.seg (pc2 := 73) (ls2 := [some (za (A 0)), some (zi (c : Int)), some (zj (sgT k c * dfA (r 14) c k i_2 * dfB (r 14) c i_2 i_8)), none, some (zi (i_2 : Int)), some (zi ((i_2 : Int) + 1 + (i_8 : Int)))]) (st2 := [za (A 0), zi ((r 14) (i_2 + i_8 + 1)), zj (sgT k c * dfA (r 14) c k i_2 * dfB (r 14) c i_2 i_8)]) [(72, .aload_n 0)] (by decide +kernel) rfl ?_
            refine Zn.get (ix := 55) hD 0 (by decide +kernel) rfl rfl rfl ?_
            refine Zn.seg (pc2 := 78) (ls2 := [some (za (A 0)), some (zi (c : Int)), some (zj (sgT k c * dfA (r 14) c k i_2 * dfB (r 14) c i_2 i_8)), none, some (zi (i_2 : Int)), some (zi ((i_2 : Int) + 1 + (i_8 : Int)))]) (st2 := [zi (i_2 : Int), za (A 14), zi ((r 14) (i_2 + i_8 + 1)), zj (sgT k c * dfA (r 14) c k i_2 * dfB (r 14) c i_2 i_8)]) [(76, .iload 4)] (by decide +kernel) rfl ?_
            refine Zn.iald hD 14 (i_2) (by decide +kernel) rfl (by omega) (by omega) rfl ?_
            refine Zn.seg (pc2 := 80) (ls2 := [some (za (A 0)), some (zi (c : Int)), some (zj (sgT k c * dfA (r 14) c k i_2 * dfB (r 14) c i_2 i_8)), none, some (zi (i_2 : Int)), some (zi ((i_2 : Int) + 1 + (i_8 : Int)))]) (st2 := [zi ((r 14) (i_2 + i_8 + 1) - ((r 14) i_2)), zj (sgT k c * dfA (r 14) c k i_2 * dfB (r 14) c i_2 i_8)]) [(79, .isub)] (by decide +kernel) rfl ?_
            refine Zn.i2l (by decide +kernel) ⟨by omega, by omega⟩ ?_
            refine Zn.seg (pc2 := 39) (ls2 := [some (za (A 0)), some (zi (c : Int)), some (zj ((sgT k c * dfA (r 14) c k i_2 * dfB (r 14) c i_2 i_8) * ((r 14) (i_2 + i_8 + 1) - ((r 14) i_2)))), none, some (zi (i_2 : Int)), some (zi ((i_2 : Int) + 1 + (i_8 : Int) + 1))]) (st2 := []) [(81, .lmul), (82, .lstore_n 2), (83, .iinc 5 1), (86, .goto (-47))] (by decide +kernel) rfl ?_
            exact Zn.eq rfl (zcons rfl (zcons rfl (zcons (congrArg (fun z => some (zj z)) (by rw [dfB]; first | rw [if_pos (by omega), Int.mul_assoc] | rw [if_neg (by omega), Int.mul_assoc])) (zcons rfl (zcons rfl (zcons (congrArg (fun z => some (zi z)) (by omega)) rfl)))))) rfl (rfl) (ih_11)
          · have c_14 : ¬ ((i_2 : Int) + 1 + (i_8 : Int) ≠ (c : Int)) := c_14
            refine Zn.seg (pc2 := 39) (ls2 := [some (za (A 0)), some (zi (c : Int)), some (zj ((sgT k c * dfA (r 14) c k i_2 * dfB (r 14) c i_2 i_8) * 1)), none, some (zi (i_2 : Int)), some (zi ((i_2 : Int) + 1 + (i_8 : Int) + 1))]) (st2 := []) [(61, .lconst 1), (62, .goto 19), (81, .lmul), (82, .lstore_n 2), (83, .iinc 5 1), (86, .goto (-47))] (by decide +kernel) rfl ?_
            exact Zn.eq rfl (zcons rfl (zcons rfl (zcons (congrArg (fun z => some (zj z)) (by rw [dfB]; first | rw [if_pos (by omega), Int.mul_assoc] | rw [if_neg (by omega), Int.mul_assoc])) (zcons rfl (zcons rfl (zcons (congrArg (fun z => some (zi z)) (by omega)) rfl)))))) rfl (rfl) (ih_11)
      · skip
        refine Zn.seg (pc2 := 42) (ls2 := [some (za (A 0)), some (zi (c : Int)), some (zj (sgT k c * dfA (r 14) c k i_2 * dfB (r 14) c i_2 (k - (i_2 + 1)))), none, some (zi (i_2 : Int)), some (zi ((i_2 : Int) + 1 + ((k - (i_2 + 1) : Nat) : Int)))]) (st2 := [za (A 0), zi ((i_2 : Int) + 1 + ((k - (i_2 + 1) : Nat) : Int))]) [(39, .iload 5), (41, .aload_n 0)] (by decide +kernel) rfl ?_
        refine Zn.get (ix := 217) hD 0 (by decide +kernel) rfl rfl rfl ?_
        refine Zn.topi (y := (k : Int)) (hm) ?_
        refine Zn.icmp (c := .ge) (off := 44) 89 (by decide +kernel) rfl ⟨by omega, by omega⟩ ⟨by omega, by omega⟩ (fun c_15 => ?_) (fun c_15 => absurd (show (k : Int) ≤ (i_2 : Int) + 1 + ((k - (i_2 + 1) : Nat) : Int) from by omega) c_15)
        have c_15 : (k : Int) ≤ (i_2 : Int) + 1 + ((k - (i_2 + 1) : Nat) : Int) := c_15
        refine Zn.seg (pc2 := 24) (ls2 := [some (za (A 0)), some (zi (c : Int)), some (zj (sgT k c * dfA (r 14) c k i_2 * dfB (r 14) c i_2 (k - (i_2 + 1)))), none, some (zi ((i_2 : Int) + 1)), some (zi ((i_2 : Int) + 1 + ((k - (i_2 + 1) : Nat) : Int)))]) (st2 := []) [(89, .iinc 4 1), (92, .goto (-68))] (by decide +kernel) rfl ?_
        exact Zn.eq rfl (zcons rfl (zcons rfl (zcons (congrArg (fun z => some (zj z)) (by rw [dfA, Int.mul_assoc])) (zcons rfl (zcons (congrArg (fun z => some (zi z)) (by omega)) rfl))))) rfl (rfl) (ih_6 (some (zi ((i_2 : Int) + 1 + ((k - (i_2 + 1) : Nat) : Int)))))
    · skip
      refine Zn.seg (pc2 := 27) (ls2 := [some (za (A 0)), some (zi (c : Int)), some (zj (sgT k c * dfA (r 14) c k k)), none, some (zi (k : Int)), j_4]) (st2 := [za (A 0), zi (k : Int)]) [(24, .iload 4), (26, .aload_n 0)] (by decide +kernel) rfl ?_
      refine Zn.get (ix := 217) hD 0 (by decide +kernel) rfl rfl rfl ?_
      refine Zn.topi (y := (k : Int)) (hm) ?_
      refine Zn.icmp (c := .ge) (off := 65) 95 (by decide +kernel) rfl ⟨by omega, by omega⟩ ⟨by omega, by omega⟩ (fun c_16 => ?_) (fun c_16 => absurd (show (k : Int) ≤ (k : Int) from by omega) c_16)
      have c_16 : (k : Int) ≤ (k : Int) := c_16
      refine Zn.seg (pc2 := 96) (ls2 := [some (za (A 0)), some (zi (c : Int)), some (zj (sgT k c * dfA (r 14) c k k)), none, some (zi (k : Int)), j_4]) (st2 := [zj (sgT k c * dfA (r 14) c k k)]) [(95, .lload_n 2)] (by decide +kernel) rfl ?_
      exact Zn.lret (by decide +kernel) rfl (⟨by first | rfl | (refine congrArg some (congrArg zj ?_); first | omega | (simp_all; done) | (simp_all; omega)), hh.symm⟩)
  · have c_1 : ¬ ((((k - 1 - c) % 2 : Nat) : Int) ≠ 0) := c_1
    refine Zn.seg (pc2 := 24) (ls2 := [some (za (A 0)), some (zi (c : Int)), some (zj 1), none, some (zi 0), none]) (st2 := []) [(13, .lconst 1), (14, .goto 6), (20, .lstore_n 2), (21, .iconst 0), (22, .istore 4)] (by decide +kernel) rfl ?_
    refine Zn.eq (pc2 := 24) (ls2 := [some (za (A 0)), some (zi (c : Int)), some (zj (sgT k c * dfA (r 14) c k 0)), none, some (zi (0 : Int)), none]) (st2 := []) (h2 := zov (LM A m r) h) rfl (zcons rfl (zcons rfl (zcons (congrArg (fun z => some (zj z)) (by rw [dfA, Int.mul_one, sgT]; first | rw [if_pos (by omega)] | rw [if_neg (by omega)])) (zcons rfl (zcons (congrArg (fun z => some (zi z)) (by first | rfl | omega | simp)) rfl))))) rfl (rfl) ?_
    have hD : zND (LM A m r) := hD
    refine xloop (P := fun i_17 => ∀ j_19 : Option zV, Zn (8, xI_X8_partOf, 6, 0, 0, 0, 0, false) (some .long) 24 [some (za (A 0)), some (zi (c : Int)), some (zj (sgT k c * dfA (r 14) c k i_17)), none, some (zi (i_17 : Int)), j_19] [] (zov (LM A m r) h) _) (k) (fun i_17 hi_20 ih_21 j_19 => ?_) (fun j_19 => ?_) none
    · have hi_ : i_17 < k := hi_20
      have hfa := hf i_17 (by omega)
      refine Zn.seg (pc2 := 27) (ls2 := [some (za (A 0)), some (zi (c : Int)), some (zj (sgT k c * dfA (r 14) c k i_17)), none, some (zi (i_17 : Int)), j_19]) (st2 := [za (A 0), zi (i_17 : Int)]) [(24, .iload 4), (26, .aload_n 0)] (by decide +kernel) rfl ?_
      refine Zn.get (ix := 217) hD 0 (by decide +kernel) rfl rfl rfl ?_
      refine Zn.topi (y := (k : Int)) (hm) ?_
      refine Zn.icmp (c := .ge) (off := 65) 95 (by decide +kernel) rfl ⟨by omega, by omega⟩ ⟨by omega, by omega⟩ (fun c_22 => absurd (show (k : Int) ≤ (i_17 : Int) from c_22) (by omega)) (fun c_22 => ?_)
      have c_22 : ¬ ((k : Int) ≤ (i_17 : Int)) := c_22
      refine Zn.seg (pc2 := 39) (ls2 := [some (za (A 0)), some (zi (c : Int)), some (zj (sgT k c * dfA (r 14) c k i_17)), none, some (zi (i_17 : Int)), some (zi ((i_17 : Int) + 1))]) (st2 := []) [(33, .iload 4), (35, .iconst 1), (36, .iadd), (37, .istore 5)] (by decide +kernel) rfl ?_
      refine Zn.eq (pc2 := 39) (ls2 := [some (za (A 0)), some (zi (c : Int)), some (zj (sgT k c * dfA (r 14) c k i_17 * dfB (r 14) c i_17 0)), none, some (zi (i_17 : Int)), some (zi ((i_17 : Int) + 1 + (0 : Int)))]) (st2 := []) (h2 := zov (LM A m r) h) rfl (zcons rfl (zcons rfl (zcons (congrArg (fun z => some (zj z)) (by rw [dfB, Int.mul_one])) (zcons rfl (zcons rfl (zcons (congrArg (fun z => some (zi z)) (by first | rfl | omega | simp)) rfl)))))) rfl (rfl) ?_
      have hD : zND (LM A m r) := hD
      refine xloop (P := fun i_23 => Zn (8, xI_X8_partOf, 6, 0, 0, 0, 0, false) (some .long) 39 [some (za (A 0)), some (zi (c : Int)), some (zj (sgT k c * dfA (r 14) c k i_17 * dfB (r 14) c i_17 i_23)), none, some (zi (i_17 : Int)), some (zi ((i_17 : Int) + 1 + (i_23 : Int)))] [] (zov (LM A m r) h) _) ((k - (i_17 + 1))) (fun i_23 hi_25 ih_26 => ?_) ?_
      · have hi_ : i_23 < (k - (i_17 + 1)) := hi_25
        have hfb := hf (i_17 + i_23 + 1) (by omega)
        refine Zn.seg (pc2 := 42) (ls2 := [some (za (A 0)), some (zi (c : Int)), some (zj (sgT k c * dfA (r 14) c k i_17 * dfB (r 14) c i_17 i_23)), none, some (zi (i_17 : Int)), some (zi ((i_17 : Int) + 1 + (i_23 : Int)))]) (st2 := [za (A 0), zi ((i_17 : Int) + 1 + (i_23 : Int))]) [(39, .iload 5), (41, .aload_n 0)] (by decide +kernel) rfl ?_
        refine Zn.get (ix := 217) hD 0 (by decide +kernel) rfl rfl rfl ?_
        refine Zn.topi (y := (k : Int)) (hm) ?_
        refine Zn.icmp (c := .ge) (off := 44) 89 (by decide +kernel) rfl ⟨by omega, by omega⟩ ⟨by omega, by omega⟩ (fun c_27 => absurd (show (k : Int) ≤ (i_17 : Int) + 1 + (i_23 : Int) from c_27) (by omega)) (fun c_27 => ?_)
        have c_27 : ¬ ((k : Int) ≤ (i_17 : Int) + 1 + (i_23 : Int)) := c_27
        refine Zn.seg (pc2 := 52) (ls2 := [some (za (A 0)), some (zi (c : Int)), some (zj (sgT k c * dfA (r 14) c k i_17 * dfB (r 14) c i_17 i_23)), none, some (zi (i_17 : Int)), some (zi ((i_17 : Int) + 1 + (i_23 : Int)))]) (st2 := [zi (c : Int), zi (i_17 : Int), zj (sgT k c * dfA (r 14) c k i_17 * dfB (r 14) c i_17 i_23)]) [(48, .lload_n 2), (49, .iload 4), (51, .iload_n 1)] (by decide +kernel) rfl ?_
        refine Zn.icmp (c := .eq) (off := 9) 61 (by decide +kernel) rfl ⟨by omega, by omega⟩ ⟨by omega, by omega⟩ (fun c_28 => ?_) (fun c_28 => ?_)
        · have c_28 : (i_17 : Int) = (c : Int) := c_28
          refine Zn.seg (pc2 := 39) (ls2 := [some (za (A 0)), some (zi (c : Int)), some (zj ((sgT k c * dfA (r 14) c k i_17 * dfB (r 14) c i_17 i_23) * 1)), none, some (zi (i_17 : Int)), some (zi ((i_17 : Int) + 1 + (i_23 : Int) + 1))]) (st2 := []) [(61, .lconst 1), (62, .goto 19), (81, .lmul), (82, .lstore_n 2), (83, .iinc 5 1), (86, .goto (-47))] (by decide +kernel) rfl ?_
          exact Zn.eq rfl (zcons rfl (zcons rfl (zcons (congrArg (fun z => some (zj z)) (by rw [dfB]; first | rw [if_pos (by omega), Int.mul_assoc] | rw [if_neg (by omega), Int.mul_assoc])) (zcons rfl (zcons rfl (zcons (congrArg (fun z => some (zi z)) (by omega)) rfl)))))) rfl (rfl) (ih_26)
        · have c_28 : ¬ ((i_17 : Int) = (c : Int)) := c_28
          refine Zn.seg (pc2 := 58) (ls2 := [some (za (A 0)), some (zi (c : Int)), some (zj (sgT k c * dfA (r 14) c k i_17 * dfB (r 14) c i_17 i_23)), none, some (zi (i_17 : Int)), some (zi ((i_17 : Int) + 1 + (i_23 : Int)))]) (st2 := [zi (c : Int), zi ((i_17 : Int) + 1 + (i_23 : Int)), zj (sgT k c * dfA (r 14) c k i_17 * dfB (r 14) c i_17 i_23)]) [(55, .iload 5), (57, .iload_n 1)] (by decide +kernel) rfl ?_
          refine Zn.icmp (c := .ne) (off := 7) 65 (by decide +kernel) rfl ⟨by omega, by omega⟩ ⟨by omega, by omega⟩ (fun c_29 => ?_) (fun c_29 => ?_)
          · have c_29 : (i_17 : Int) + 1 + (i_23 : Int) ≠ (c : Int) := c_29
            refine Zn.seg (pc2 := 66) (ls2 := [some (za (A 0)), some (zi (c : Int)), some (zj (sgT k c * dfA (r 14) c k i_17 * dfB (r 14) c i_17 i_23)), none, some (zi (i_17 : Int)), some (zi ((i_17 : Int) + 1 + (i_23 : Int)))]) (st2 := [za (A 0), zj (sgT k c * dfA (r 14) c k i_17 * dfB (r 14) c i_17 i_23)]) [(65, .aload_n 0)] (by decide +kernel) rfl ?_
            refine Zn.get (ix := 55) hD 0 (by decide +kernel) rfl rfl rfl ?_
            refine Zn.seg (pc2 := 71) (ls2 := [some (za (A 0)), some (zi (c : Int)), some (zj (sgT k c * dfA (r 14) c k i_17 * dfB (r 14) c i_17 i_23)), none, some (zi (i_17 : Int)), some (zi ((i_17 : Int) + 1 + (i_23 : Int)))]) (st2 := [zi ((i_17 : Int) + 1 + (i_23 : Int)), za (A 14), zj (sgT k c * dfA (r 14) c k i_17 * dfB (r 14) c i_17 i_23)]) [(69, .iload 5)] (by decide +kernel) rfl ?_
            refine Zn.iald hD 14 (i_17 + i_23 + 1) (by decide +kernel) rfl (by omega) (by omega) rfl ?_
            refine Zn.seg (pc2 := 73) (ls2 := [some (za (A 0)), some (zi (c : Int)), some (zj (sgT k c * dfA (r 14) c k i_17 * dfB (r 14) c i_17 i_23)), none, some (zi (i_17 : Int)), some (zi ((i_17 : Int) + 1 + (i_23 : Int)))]) (st2 := [za (A 0), zi ((r 14) (i_17 + i_23 + 1)), zj (sgT k c * dfA (r 14) c k i_17 * dfB (r 14) c i_17 i_23)]) [(72, .aload_n 0)] (by decide +kernel) rfl ?_
            refine Zn.get (ix := 55) hD 0 (by decide +kernel) rfl rfl rfl ?_
            refine Zn.seg (pc2 := 78) (ls2 := [some (za (A 0)), some (zi (c : Int)), some (zj (sgT k c * dfA (r 14) c k i_17 * dfB (r 14) c i_17 i_23)), none, some (zi (i_17 : Int)), some (zi ((i_17 : Int) + 1 + (i_23 : Int)))]) (st2 := [zi (i_17 : Int), za (A 14), zi ((r 14) (i_17 + i_23 + 1)), zj (sgT k c * dfA (r 14) c k i_17 * dfB (r 14) c i_17 i_23)]) [(76, .iload 4)] (by decide +kernel) rfl ?_
            refine Zn.iald hD 14 (i_17) (by decide +kernel) rfl (by omega) (by omega) rfl ?_
            refine Zn.seg (pc2 := 80) (ls2 := [some (za (A 0)), some (zi (c : Int)), some (zj (sgT k c * dfA (r 14) c k i_17 * dfB (r 14) c i_17 i_23)), none, some (zi (i_17 : Int)), some (zi ((i_17 : Int) + 1 + (i_23 : Int)))]) (st2 := [zi ((r 14) (i_17 + i_23 + 1) - ((r 14) i_17)), zj (sgT k c * dfA (r 14) c k i_17 * dfB (r 14) c i_17 i_23)]) [(79, .isub)] (by decide +kernel) rfl ?_
            refine Zn.i2l (by decide +kernel) ⟨by omega, by omega⟩ ?_
            refine Zn.seg (pc2 := 39) (ls2 := [some (za (A 0)), some (zi (c : Int)), some (zj ((sgT k c * dfA (r 14) c k i_17 * dfB (r 14) c i_17 i_23) * ((r 14) (i_17 + i_23 + 1) - ((r 14) i_17)))), none, some (zi (i_17 : Int)), some (zi ((i_17 : Int) + 1 + (i_23 : Int) + 1))]) (st2 := []) [(81, .lmul), (82, .lstore_n 2), (83, .iinc 5 1), (86, .goto (-47))] (by decide +kernel) rfl ?_
            exact Zn.eq rfl (zcons rfl (zcons rfl (zcons (congrArg (fun z => some (zj z)) (by rw [dfB]; first | rw [if_pos (by omega), Int.mul_assoc] | rw [if_neg (by omega), Int.mul_assoc])) (zcons rfl (zcons rfl (zcons (congrArg (fun z => some (zi z)) (by omega)) rfl)))))) rfl (rfl) (ih_26)
          · have c_29 : ¬ ((i_17 : Int) + 1 + (i_23 : Int) ≠ (c : Int)) := c_29
            refine Zn.seg (pc2 := 39) (ls2 := [some (za (A 0)), some (zi (c : Int)), some (zj ((sgT k c * dfA (r 14) c k i_17 * dfB (r 14) c i_17 i_23) * 1)), none, some (zi (i_17 : Int)), some (zi ((i_17 : Int) + 1 + (i_23 : Int) + 1))]) (st2 := []) [(61, .lconst 1), (62, .goto 19), (81, .lmul), (82, .lstore_n 2), (83, .iinc 5 1), (86, .goto (-47))] (by decide +kernel) rfl ?_
            exact Zn.eq rfl (zcons rfl (zcons rfl (zcons (congrArg (fun z => some (zj z)) (by rw [dfB]; first | rw [if_pos (by omega), Int.mul_assoc] | rw [if_neg (by omega), Int.mul_assoc])) (zcons rfl (zcons rfl (zcons (congrArg (fun z => some (zi z)) (by omega)) rfl)))))) rfl (rfl) (ih_26)
      · skip
        refine Zn.seg (pc2 := 42) (ls2 := [some (za (A 0)), some (zi (c : Int)), some (zj (sgT k c * dfA (r 14) c k i_17 * dfB (r 14) c i_17 (k - (i_17 + 1)))), none, some (zi (i_17 : Int)), some (zi ((i_17 : Int) + 1 + ((k - (i_17 + 1) : Nat) : Int)))]) (st2 := [za (A 0), zi ((i_17 : Int) + 1 + ((k - (i_17 + 1) : Nat) : Int))]) [(39, .iload 5), (41, .aload_n 0)] (by decide +kernel) rfl ?_
        refine Zn.get (ix := 217) hD 0 (by decide +kernel) rfl rfl rfl ?_
        refine Zn.topi (y := (k : Int)) (hm) ?_
        refine Zn.icmp (c := .ge) (off := 44) 89 (by decide +kernel) rfl ⟨by omega, by omega⟩ ⟨by omega, by omega⟩ (fun c_30 => ?_) (fun c_30 => absurd (show (k : Int) ≤ (i_17 : Int) + 1 + ((k - (i_17 + 1) : Nat) : Int) from by omega) c_30)
        have c_30 : (k : Int) ≤ (i_17 : Int) + 1 + ((k - (i_17 + 1) : Nat) : Int) := c_30
        refine Zn.seg (pc2 := 24) (ls2 := [some (za (A 0)), some (zi (c : Int)), some (zj (sgT k c * dfA (r 14) c k i_17 * dfB (r 14) c i_17 (k - (i_17 + 1)))), none, some (zi ((i_17 : Int) + 1)), some (zi ((i_17 : Int) + 1 + ((k - (i_17 + 1) : Nat) : Int)))]) (st2 := []) [(89, .iinc 4 1), (92, .goto (-68))] (by decide +kernel) rfl ?_
        exact Zn.eq rfl (zcons rfl (zcons rfl (zcons (congrArg (fun z => some (zj z)) (by rw [dfA, Int.mul_assoc])) (zcons rfl (zcons (congrArg (fun z => some (zi z)) (by omega)) rfl))))) rfl (rfl) (ih_21 (some (zi ((i_17 : Int) + 1 + ((k - (i_17 + 1) : Nat) : Int)))))
    · skip
      refine Zn.seg (pc2 := 27) (ls2 := [some (za (A 0)), some (zi (c : Int)), some (zj (sgT k c * dfA (r 14) c k k)), none, some (zi (k : Int)), j_19]) (st2 := [za (A 0), zi (k : Int)]) [(24, .iload 4), (26, .aload_n 0)] (by decide +kernel) rfl ?_
      refine Zn.get (ix := 217) hD 0 (by decide +kernel) rfl rfl rfl ?_
      refine Zn.topi (y := (k : Int)) (hm) ?_
      refine Zn.icmp (c := .ge) (off := 65) 95 (by decide +kernel) rfl ⟨by omega, by omega⟩ ⟨by omega, by omega⟩ (fun c_31 => ?_) (fun c_31 => absurd (show (k : Int) ≤ (k : Int) from by omega) c_31)
      have c_31 : (k : Int) ≤ (k : Int) := c_31
      refine Zn.seg (pc2 := 96) (ls2 := [some (za (A 0)), some (zi (c : Int)), some (zj (sgT k c * dfA (r 14) c k k)), none, some (zi (k : Int)), j_19]) (st2 := [zj (sgT k c * dfA (r 14) c k k)]) [(95, .lload_n 2)] (by decide +kernel) rfl ?_
      exact Zn.lret (by decide +kernel) rfl (⟨by first | rfl | (refine congrArg some (congrArg zj ?_); first | omega | (simp_all; done) | (simp_all; omega)), hh.symm⟩)
theorem sp_X8_upper {h : xH} {A : Nat → Nat} {m : Nat → Int} {r : Nat → Nat → Int} {x : Int} {k : Nat} (hL : ∀ q ∈ LM A m r, h q.1 = zcE q.2) (hD : zND (LM A m r)) (hm : m 25 = (k : Int)) (hk4 : k ≤ 4) (hf : ∀ j, j < k → -6 ≤ r 14 j ∧ r 14 j ≤ 6) (hx : -6 ≤ x ∧ x ≤ 6) : zEv k_X8_upper [za (A 0), zi x] h (fun v h2 => v = some (zj (upN (r 14) (r 15) x k k)) ∧ h2 = h) := by
  have hh : h = zov (LM A m r) h := zov_self hL
  refine zEv.body (I := (8, xI_X8_upper, 8, 1, 25, 0, 0, false)) (rt := (some .long)) [some (za (A 0)), some (zi x), none, none, none, none, none, none] rfl rfl rfl rfl ?_
  refine Zn.eq rfl rfl rfl hh ?_
  have hD : zND (LM A m r) := hD
  refine Zn.seg (pc2 := 5) (ls2 := [some (za (A 0)), some (zi x), some (zj 0), none, some (zi 0), none, none, none]) (st2 := []) [(0, .lconst 0), (1, .lstore_n 2), (2, .iconst 0), (3, .istore 4)] (by decide +kernel) rfl ?_
  refine Zn.eq (pc2 := 5) (ls2 := [some (za (A 0)), some (zi x), some (zj (upN (r 14) (r 15) x k 0)), none, some (zi (0 : Int)), none, none, none]) (st2 := []) (h2 := zov (LM A m r) h) rfl (zcons rfl (zcons rfl (zcons (congrArg (fun z => some (zj z)) (by first | rfl | omega | simp)) (zcons rfl (zcons (congrArg (fun z => some (zi z)) (by first | rfl | omega | simp)) rfl))))) rfl (rfl) ?_
  have hD : zND (LM A m r) := hD
  refine xloop (P := fun i_1 => ∀ j_3 j_4 j_5 : Option zV, Zn (8, xI_X8_upper, 8, 1, 25, 0, 0, false) (some .long) 5 [some (za (A 0)), some (zi x), some (zj (upN (r 14) (r 15) x k i_1)), none, some (zi (i_1 : Int)), j_3, j_4, j_5] [] (zov (LM A m r) h) _) (k) (fun i_1 hi_6 ih_7 j_3 j_4 j_5 => ?_) (fun j_3 j_4 j_5 => ?_) none none none
  · have hi_ : i_1 < k := hi_6
    refine Zn.seg (pc2 := 8) (ls2 := [some (za (A 0)), some (zi x), some (zj (upN (r 14) (r 15) x k i_1)), none, some (zi (i_1 : Int)), j_3, j_4, j_5]) (st2 := [za (A 0), zi (i_1 : Int)]) [(5, .iload 4), (7, .aload_n 0)] (by decide +kernel) rfl ?_
    refine Zn.get (ix := 217) hD 0 (by decide +kernel) rfl rfl rfl ?_
    refine Zn.topi (y := (k : Int)) (hm) ?_
    refine Zn.icmp (c := .ge) (off := 74) 85 (by decide +kernel) rfl ⟨by omega, by omega⟩ ⟨by omega, by omega⟩ (fun c_8 => absurd (show (k : Int) ≤ (i_1 : Int) from c_8) (by omega)) (fun c_8 => ?_)
    have c_8 : ¬ ((k : Int) ≤ (i_1 : Int)) := c_8
    refine Zn.seg (pc2 := 15) (ls2 := [some (za (A 0)), some (zi x), some (zj (upN (r 14) (r 15) x k i_1)), none, some (zi (i_1 : Int)), j_3, j_4, j_5]) (st2 := [za (A 0)]) [(14, .aload_n 0)] (by decide +kernel) rfl ?_
    refine Zn.get (ix := 58) hD 0 (by decide +kernel) rfl rfl rfl ?_
    refine Zn.seg (pc2 := 20) (ls2 := [some (za (A 0)), some (zi x), some (zj (upN (r 14) (r 15) x k i_1)), none, some (zi (i_1 : Int)), j_3, j_4, j_5]) (st2 := [zi (i_1 : Int), za (A 15)]) [(18, .iload 4)] (by decide +kernel) rfl ?_
    refine Zn.lald hD 15 (i_1) (by decide +kernel) rfl (by omega) (by omega) rfl ?_
    refine Zn.seg (pc2 := 24) (ls2 := [some (za (A 0)), some (zi x), some (zj (upN (r 14) (r 15) x k i_1)), none, some (zi (i_1 : Int)), j_3, j_4, j_5]) (st2 := [zi (i_1 : Int), za (A 0), zj ((r 15) i_1)]) [(21, .aload_n 0), (22, .iload 4)] (by decide +kernel) rfl ?_
    refine Zn.call (ins := .invokevirtual 225) [za (A 0), zi (i_1 : Int)] [zj ((r 15) i_1)] (by decide +kernel) rfl rfl rfl ⟨rfl, rfl⟩ ⟨rfl, rfl, rfl⟩ rfl (zrecvV hD (p := 0) rfl rfl rfl) (sp_X8_partOf (A := A) (m := m) (r := r) (k := k) (c := i_1) (zov_all hD) hD (by first | assumption | omega) (by first | assumption | omega) (by first | assumption | omega) (by first | assumption | omega)) (fun v h2 hp => ?_)
    obtain ⟨rfl, hq_9⟩ := hp
    refine Zn.eq (pc2 := 27) (ls2 := [some (za (A 0)), some (zi x), some (zj (upN (r 14) (r 15) x k i_1)), none, some (zi (i_1 : Int)), j_3, j_4, j_5]) (st2 := [zj (sgT k i_1 * dfA (r 14) i_1 k k), zj ((r 15) i_1)]) (h2 := zov (LM A m r) h) rfl rfl rfl hq_9 ?_
    have hD : zND (LM A m r) := hD
    refine Zn.seg (pc2 := 33) (ls2 := [some (za (A 0)), some (zi x), some (zj (upN (r 14) (r 15) x k i_1)), none, some (zi (i_1 : Int)), some (zj (((r 15) i_1) * (sgT k i_1 * dfA (r 14) i_1 k k))), none, some (zi 0)]) (st2 := []) [(27, .lmul), (28, .lstore 5), (30, .iconst 0), (31, .istore 7)] (by decide +kernel) rfl ?_
    refine Zn.eq (pc2 := 33) (ls2 := [some (za (A 0)), some (zi x), some (zj (upN (r 14) (r 15) x k i_1)), none, some (zi (i_1 : Int)), some (zj (r 15 i_1 * (sgT k i_1 * dfA (r 14) i_1 k k) * pxN (r 14) x i_1 0)), none, some (zi (0 : Int))]) (st2 := []) (h2 := zov (LM A m r) h) rfl (zcons rfl (zcons rfl (zcons rfl (zcons rfl (zcons rfl (zcons (congrArg (fun z => some (zj z)) (by rw [pxN, Int.mul_one])) (zcons rfl (zcons (congrArg (fun z => some (zi z)) (by first | rfl | omega | simp)) rfl)))))))) rfl (rfl) ?_
    have hD : zND (LM A m r) := hD
    refine xloop (P := fun i_10 => Zn (8, xI_X8_upper, 8, 1, 25, 0, 0, false) (some .long) 33 [some (za (A 0)), some (zi x), some (zj (upN (r 14) (r 15) x k i_1)), none, some (zi (i_1 : Int)), some (zj (r 15 i_1 * (sgT k i_1 * dfA (r 14) i_1 k k) * pxN (r 14) x i_1 i_10)), none, some (zi (i_10 : Int))] [] (zov (LM A m r) h) _) (k) (fun i_10 hi_13 ih_14 => ?_) ?_
    · have hi_ : i_10 < k := hi_13
      have hfb := hf i_10 (by omega)
      refine Zn.seg (pc2 := 36) (ls2 := [some (za (A 0)), some (zi x), some (zj (upN (r 14) (r 15) x k i_1)), none, some (zi (i_1 : Int)), some (zj (r 15 i_1 * (sgT k i_1 * dfA (r 14) i_1 k k) * pxN (r 14) x i_1 i_10)), none, some (zi (i_10 : Int))]) (st2 := [za (A 0), zi (i_10 : Int)]) [(33, .iload 7), (35, .aload_n 0)] (by decide +kernel) rfl ?_
      refine Zn.get (ix := 217) hD 0 (by decide +kernel) rfl rfl rfl ?_
      refine Zn.topi (y := (k : Int)) (hm) ?_
      refine Zn.icmp (c := .ge) (off := 35) 74 (by decide +kernel) rfl ⟨by omega, by omega⟩ ⟨by omega, by omega⟩ (fun c_15 => absurd (show (k : Int) ≤ (i_10 : Int) from c_15) (by omega)) (fun c_15 => ?_)
      have c_15 : ¬ ((k : Int) ≤ (i_10 : Int)) := c_15
      refine Zn.seg (pc2 := 48) (ls2 := [some (za (A 0)), some (zi x), some (zj (upN (r 14) (r 15) x k i_1)), none, some (zi (i_1 : Int)), some (zj (r 15 i_1 * (sgT k i_1 * dfA (r 14) i_1 k k) * pxN (r 14) x i_1 i_10)), none, some (zi (i_10 : Int))]) (st2 := [zi (i_1 : Int), zi (i_10 : Int), zj (r 15 i_1 * (sgT k i_1 * dfA (r 14) i_1 k k) * pxN (r 14) x i_1 i_10)]) [(42, .lload 5), (44, .iload 7), (46, .iload 4)] (by decide +kernel) rfl ?_
      refine Zn.icmp (c := .ne) (off := 7) 55 (by decide +kernel) rfl ⟨by omega, by omega⟩ ⟨by omega, by omega⟩ (fun c_16 => ?_) (fun c_16 => ?_)
      · have c_16 : (i_10 : Int) ≠ (i_1 : Int) := c_16
        refine Zn.seg (pc2 := 57) (ls2 := [some (za (A 0)), some (zi x), some (zj (upN (r 14) (r 15) x k i_1)), none, some (zi (i_1 : Int)), some (zj (r 15 i_1 * (sgT k i_1 * dfA (r 14) i_1 k k) * pxN (r 14) x i_1 i_10)), none, some (zi (i_10 : Int))]) (st2 := [za (A 0), zi x, zj (r 15 i_1 * (sgT k i_1 * dfA (r 14) i_1 k k) * pxN (r 14) x i_1 i_10)]) [(55, .iload_n 1), (56, .aload_n 0)] (by decide +kernel) rfl ?_
        refine Zn.get (ix := 55) hD 0 (by decide +kernel) rfl rfl rfl ?_
        refine Zn.seg (pc2 := 62) (ls2 := [some (za (A 0)), some (zi x), some (zj (upN (r 14) (r 15) x k i_1)), none, some (zi (i_1 : Int)), some (zj (r 15 i_1 * (sgT k i_1 * dfA (r 14) i_1 k k) * pxN (r 14) x i_1 i_10)), none, some (zi (i_10 : Int))]) (st2 := [zi (i_10 : Int), za (A 14), zi x, zj (r 15 i_1 * (sgT k i_1 * dfA (r 14) i_1 k k) * pxN (r 14) x i_1 i_10)]) [(60, .iload 7)] (by decide +kernel) rfl ?_
        refine Zn.iald hD 14 (i_10) (by decide +kernel) rfl (by omega) (by omega) rfl ?_
        refine Zn.seg (pc2 := 64) (ls2 := [some (za (A 0)), some (zi x), some (zj (upN (r 14) (r 15) x k i_1)), none, some (zi (i_1 : Int)), some (zj (r 15 i_1 * (sgT k i_1 * dfA (r 14) i_1 k k) * pxN (r 14) x i_1 i_10)), none, some (zi (i_10 : Int))]) (st2 := [zi (x - ((r 14) i_10)), zj (r 15 i_1 * (sgT k i_1 * dfA (r 14) i_1 k k) * pxN (r 14) x i_1 i_10)]) [(63, .isub)] (by decide +kernel) rfl ?_
        refine Zn.i2l (by decide +kernel) ⟨by omega, by omega⟩ ?_
        refine Zn.seg (pc2 := 33) (ls2 := [some (za (A 0)), some (zi x), some (zj (upN (r 14) (r 15) x k i_1)), none, some (zi (i_1 : Int)), some (zj ((r 15 i_1 * (sgT k i_1 * dfA (r 14) i_1 k k) * pxN (r 14) x i_1 i_10) * (x - ((r 14) i_10)))), none, some (zi ((i_10 : Int) + 1))]) (st2 := []) [(65, .lmul), (66, .lstore 5), (68, .iinc 7 1), (71, .goto (-38))] (by decide +kernel) rfl ?_
        exact Zn.eq rfl (zcons rfl (zcons rfl (zcons rfl (zcons rfl (zcons rfl (zcons (congrArg (fun z => some (zj z)) (by rw [pxN]; first | rw [if_pos (by omega), Int.mul_assoc] | rw [if_neg (by omega), Int.mul_assoc])) (zcons rfl (zcons (congrArg (fun z => some (zi z)) (by omega)) rfl)))))))) rfl (rfl) (ih_14)
      · have c_16 : ¬ ((i_10 : Int) ≠ (i_1 : Int)) := c_16
        refine Zn.seg (pc2 := 33) (ls2 := [some (za (A 0)), some (zi x), some (zj (upN (r 14) (r 15) x k i_1)), none, some (zi (i_1 : Int)), some (zj ((r 15 i_1 * (sgT k i_1 * dfA (r 14) i_1 k k) * pxN (r 14) x i_1 i_10) * 1)), none, some (zi ((i_10 : Int) + 1))]) (st2 := []) [(51, .lconst 1), (52, .goto 13), (65, .lmul), (66, .lstore 5), (68, .iinc 7 1), (71, .goto (-38))] (by decide +kernel) rfl ?_
        exact Zn.eq rfl (zcons rfl (zcons rfl (zcons rfl (zcons rfl (zcons rfl (zcons (congrArg (fun z => some (zj z)) (by rw [pxN]; first | rw [if_pos (by omega), Int.mul_assoc] | rw [if_neg (by omega), Int.mul_assoc])) (zcons rfl (zcons (congrArg (fun z => some (zi z)) (by omega)) rfl)))))))) rfl (rfl) (ih_14)
    · skip
      refine Zn.seg (pc2 := 36) (ls2 := [some (za (A 0)), some (zi x), some (zj (upN (r 14) (r 15) x k i_1)), none, some (zi (i_1 : Int)), some (zj (r 15 i_1 * (sgT k i_1 * dfA (r 14) i_1 k k) * pxN (r 14) x i_1 k)), none, some (zi (k : Int))]) (st2 := [za (A 0), zi (k : Int)]) [(33, .iload 7), (35, .aload_n 0)] (by decide +kernel) rfl ?_
      refine Zn.get (ix := 217) hD 0 (by decide +kernel) rfl rfl rfl ?_
      refine Zn.topi (y := (k : Int)) (hm) ?_
      refine Zn.icmp (c := .ge) (off := 35) 74 (by decide +kernel) rfl ⟨by omega, by omega⟩ ⟨by omega, by omega⟩ (fun c_17 => ?_) (fun c_17 => absurd (show (k : Int) ≤ (k : Int) from by omega) c_17)
      have c_17 : (k : Int) ≤ (k : Int) := c_17
      refine Zn.seg (pc2 := 5) (ls2 := [some (za (A 0)), some (zi x), some (zj (upN (r 14) (r 15) x k i_1 + (r 15 i_1 * (sgT k i_1 * dfA (r 14) i_1 k k) * pxN (r 14) x i_1 k))), none, some (zi ((i_1 : Int) + 1)), some (zj (r 15 i_1 * (sgT k i_1 * dfA (r 14) i_1 k k) * pxN (r 14) x i_1 k)), none, some (zi (k : Int))]) (st2 := []) [(74, .lload_n 2), (75, .lload 5), (77, .ladd), (78, .lstore_n 2), (79, .iinc 4 1), (82, .goto (-77))] (by decide +kernel) rfl ?_
      exact Zn.eq rfl (zcons rfl (zcons rfl (zcons rfl (zcons rfl (zcons (congrArg (fun z => some (zi z)) (by omega)) rfl))))) rfl (rfl) (ih_7 (some (zj (r 15 i_1 * (sgT k i_1 * dfA (r 14) i_1 k k) * pxN (r 14) x i_1 k))) none (some (zi (k : Int))))
  · skip
    refine Zn.seg (pc2 := 8) (ls2 := [some (za (A 0)), some (zi x), some (zj (upN (r 14) (r 15) x k k)), none, some (zi (k : Int)), j_3, j_4, j_5]) (st2 := [za (A 0), zi (k : Int)]) [(5, .iload 4), (7, .aload_n 0)] (by decide +kernel) rfl ?_
    refine Zn.get (ix := 217) hD 0 (by decide +kernel) rfl rfl rfl ?_
    refine Zn.topi (y := (k : Int)) (hm) ?_
    refine Zn.icmp (c := .ge) (off := 74) 85 (by decide +kernel) rfl ⟨by omega, by omega⟩ ⟨by omega, by omega⟩ (fun c_18 => ?_) (fun c_18 => absurd (show (k : Int) ≤ (k : Int) from by omega) c_18)
    have c_18 : (k : Int) ≤ (k : Int) := c_18
    refine Zn.seg (pc2 := 86) (ls2 := [some (za (A 0)), some (zi x), some (zj (upN (r 14) (r 15) x k k)), none, some (zi (k : Int)), j_3, j_4, j_5]) (st2 := [zj (upN (r 14) (r 15) x k k)]) [(85, .lload_n 2)] (by decide +kernel) rfl ?_
    exact Zn.lret (by decide +kernel) rfl (⟨by first | rfl | (refine congrArg some (congrArg zj ?_); first | omega | (simp_all; done) | (simp_all; omega)), hh.symm⟩)
theorem sp_X8_finds {h : xH} {A : Nat → Nat} {m : Nat → Int} {r : Nat → Nat → Int} {u w : Int} (hL : ∀ q ∈ LM A m r, h q.1 = zcE q.2) (hD : zND (LM A m r)) (hu : -9223372036854775807 ≤ u ∧ u ≤ 9223372036854775807) (hw : -9223372036854775807 ≤ w ∧ w ≤ 9223372036854775807) (hw0 : w ≠ 0) : zEv k_X8_finds [za (A 0), zj u, zj w] h (fun v h2 => v = none ∧ h2 = zov (LM A (va_up (va_up m 26 (fdU u w)) 27 ((w.natAbs : Int).tdiv (Int.gcd u w : Int))) r) h) := by
  have hh : h = zov (LM A m r) h := zov_self hL
  refine zEv.body (I := (8, xI_X8_finds, 7, 1, 29, 0, 0, false)) (rt := none) [some (za (A 0)), some (zj u), none, some (zj w), none, none, none] rfl rfl rfl rfl ?_
  refine Zn.eq rfl rfl rfl hh ?_
  have hD : zND (LM A m r) := hD
  refine Zn.seg (pc2 := 2) (ls2 := [some (za (A 0)), some (zj u), none, some (zj w), none, none, none]) (st2 := [zj w, zj u]) [(0, .lload_n 1), (1, .lload_n 3)] (by decide +kernel) rfl ?_
  refine Zn.call (ins := .invokestatic 200) [zj u, zj w] [] (by decide +kernel) rfl rfl rfl ⟨rfl, rfl⟩ ⟨rfl, rfl, rfl⟩ rfl (zrecvS (by decide)) (sp_X8_common (x := u) (y := w) (by first | assumption | omega) (by first | assumption | omega)) (fun v h2 hp => ?_)
  obtain ⟨rfl, hq_1⟩ := hp
  refine Zn.eq (pc2 := 5) (ls2 := [some (za (A 0)), some (zj u), none, some (zj w), none, none, none]) (st2 := [zj (Int.gcd u w : Int)]) (h2 := zov (LM A m r) h) rfl rfl rfl hq_1 ?_
  have hD : zND (LM A m r) := hD
  have hgc := gcd_rng0 (a := u) hw0
  refine Zn.seg (pc2 := 10) (ls2 := [some (za (A 0)), some (zj u), none, some (zj w), none, some (zj (Int.gcd u w : Int)), none]) (st2 := [zj 0, zj w, za (A 0)]) [(5, .lstore 5), (7, .aload_n 0), (8, .lload_n 3), (9, .lconst 0)] (by decide +kernel) rfl ?_
  refine Zn.lcmpif (c := .ge) (off := (11)) 22 (by decide +kernel) (by decide +kernel) rfl ⟨by omega, by omega⟩ ⟨by decide, by decide⟩ (fun c_2 => ?_) (fun c_2 => ?_)
  · have c_2 : 0 ≤ w := c_2
    refine Zn.seg (pc2 := 25) (ls2 := [some (za (A 0)), some (zj u), none, some (zj w), none, some (zj (Int.gcd u w : Int)), none]) (st2 := [zj (Int.gcd u w : Int), zj u, za (A 0)]) [(22, .lload_n 1), (23, .lload 5)] (by decide +kernel) rfl ?_
    refine Zn.ldiv (by decide +kernel) ⟨by omega, by omega⟩ ⟨by omega, by omega⟩ (by omega) ?_
    refine Zn.put (ix := 229) hD 0 (by decide +kernel) rfl rfl rfl rfl rfl ?_
    refine Zn.eq (h2 := zov (LM A (va_up m 26 (u.tdiv (Int.gcd u w : Int))) r) h) rfl rfl rfl rfl ?_
    have hD : zND (LM A (va_up m 26 (u.tdiv (Int.gcd u w : Int))) r) := hD
    refine Zn.seg (pc2 := 31) (ls2 := [some (za (A 0)), some (zj u), none, some (zj w), none, some (zj (Int.gcd u w : Int)), none]) (st2 := [zj w, za (A 0)]) [(29, .aload_n 0), (30, .lload_n 3)] (by decide +kernel) rfl ?_
    refine Zn.call (ins := .invokestatic 192) [zj w] [za (A 0)] (by decide +kernel) rfl rfl rfl ⟨rfl, rfl⟩ ⟨rfl, rfl, rfl⟩ rfl (zrecvS (by decide)) (sp_X8_plain (x := w) (by first | assumption | omega) (by first | assumption | omega)) (fun v h2 hp => ?_)
    obtain ⟨rfl, hq_3⟩ := hp
    refine Zn.eq (pc2 := 34) (ls2 := [some (za (A 0)), some (zj u), none, some (zj w), none, some (zj (Int.gcd u w : Int)), none]) (st2 := [zj (w.natAbs : Int), za (A 0)]) (h2 := zov (LM A (va_up m 26 (u.tdiv (Int.gcd u w : Int))) r) h) rfl rfl rfl hq_3 ?_
    have hD : zND (LM A (va_up m 26 (u.tdiv (Int.gcd u w : Int))) r) := hD
    refine Zn.seg (pc2 := 36) (ls2 := [some (za (A 0)), some (zj u), none, some (zj w), none, some (zj (Int.gcd u w : Int)), none]) (st2 := [zj (Int.gcd u w : Int), zj (w.natAbs : Int), za (A 0)]) [(34, .lload 5)] (by decide +kernel) rfl ?_
    refine Zn.ldiv (by decide +kernel) ⟨by omega, by omega⟩ ⟨by omega, by omega⟩ (by omega) ?_
    refine Zn.put (ix := 232) hD 0 (by decide +kernel) rfl rfl rfl rfl rfl ?_
    refine Zn.eq (h2 := zov (LM A (va_up (va_up m 26 (u.tdiv (Int.gcd u w : Int))) 27 ((w.natAbs : Int).tdiv (Int.gcd u w : Int))) r) h) rfl rfl rfl rfl ?_
    have hD : zND (LM A (va_up (va_up m 26 (u.tdiv (Int.gcd u w : Int))) 27 ((w.natAbs : Int).tdiv (Int.gcd u w : Int))) r) := hD
    exact Zn.vret (by decide +kernel) rfl (⟨rfl, by first | rw [fdU, if_pos (by omega)] | rw [fdU, if_neg (by omega)]⟩)
  · have c_2 : ¬ (0 ≤ w) := c_2
    refine Zn.seg (pc2 := 18) (ls2 := [some (za (A 0)), some (zj u), none, some (zj w), none, some (zj (Int.gcd u w : Int)), none]) (st2 := [zj (Int.gcd u w : Int), zj (-u), za (A 0)]) [(14, .lload_n 1), (15, .lneg), (16, .lload 5)] (by decide +kernel) rfl ?_
    refine Zn.ldiv (by decide +kernel) ⟨by omega, by omega⟩ ⟨by omega, by omega⟩ (by omega) ?_
    refine Zn.seg (pc2 := 26) (ls2 := [some (za (A 0)), some (zj u), none, some (zj w), none, some (zj (Int.gcd u w : Int)), none]) (st2 := [zj ((-u).tdiv (Int.gcd u w : Int)), za (A 0)]) [(19, .goto 7)] (by decide +kernel) rfl ?_
    refine Zn.put (ix := 229) hD 0 (by decide +kernel) rfl rfl rfl rfl rfl ?_
    refine Zn.eq (h2 := zov (LM A (va_up m 26 ((-u).tdiv (Int.gcd u w : Int))) r) h) rfl rfl rfl rfl ?_
    have hD : zND (LM A (va_up m 26 ((-u).tdiv (Int.gcd u w : Int))) r) := hD
    refine Zn.seg (pc2 := 31) (ls2 := [some (za (A 0)), some (zj u), none, some (zj w), none, some (zj (Int.gcd u w : Int)), none]) (st2 := [zj w, za (A 0)]) [(29, .aload_n 0), (30, .lload_n 3)] (by decide +kernel) rfl ?_
    refine Zn.call (ins := .invokestatic 192) [zj w] [za (A 0)] (by decide +kernel) rfl rfl rfl ⟨rfl, rfl⟩ ⟨rfl, rfl, rfl⟩ rfl (zrecvS (by decide)) (sp_X8_plain (x := w) (by first | assumption | omega) (by first | assumption | omega)) (fun v h2 hp => ?_)
    obtain ⟨rfl, hq_4⟩ := hp
    refine Zn.eq (pc2 := 34) (ls2 := [some (za (A 0)), some (zj u), none, some (zj w), none, some (zj (Int.gcd u w : Int)), none]) (st2 := [zj (w.natAbs : Int), za (A 0)]) (h2 := zov (LM A (va_up m 26 ((-u).tdiv (Int.gcd u w : Int))) r) h) rfl rfl rfl hq_4 ?_
    have hD : zND (LM A (va_up m 26 ((-u).tdiv (Int.gcd u w : Int))) r) := hD
    refine Zn.seg (pc2 := 36) (ls2 := [some (za (A 0)), some (zj u), none, some (zj w), none, some (zj (Int.gcd u w : Int)), none]) (st2 := [zj (Int.gcd u w : Int), zj (w.natAbs : Int), za (A 0)]) [(34, .lload 5)] (by decide +kernel) rfl ?_
    refine Zn.ldiv (by decide +kernel) ⟨by omega, by omega⟩ ⟨by omega, by omega⟩ (by omega) ?_
    refine Zn.put (ix := 232) hD 0 (by decide +kernel) rfl rfl rfl rfl rfl ?_
    refine Zn.eq (h2 := zov (LM A (va_up (va_up m 26 ((-u).tdiv (Int.gcd u w : Int))) 27 ((w.natAbs : Int).tdiv (Int.gcd u w : Int))) r) h) rfl rfl rfl rfl ?_
    have hD : zND (LM A (va_up (va_up m 26 ((-u).tdiv (Int.gcd u w : Int))) 27 ((w.natAbs : Int).tdiv (Int.gcd u w : Int))) r) := hD
    exact Zn.vret (by decide +kernel) rfl (⟨rfl, by first | rw [fdU, if_pos (by omega)] | rw [fdU, if_neg (by omega)]⟩)
theorem sp_X8_findsError {h : xH} {A : Nat → Nat} {m : Nat → Int} {r : Nat → Nat → Int} {x : Int} {p k : Nat} {u w : Int} (hL : ∀ q ∈ LM A m r, h q.1 = zcE q.2) (hD : zND (LM A m r)) (hx : x = (p : Int) - 6) (hp : p < 13) (hR : ROK (r 1)) (hm : m 25 = (k : Int)) (hk4 : k ≤ 4) (hf : ∀ j, j < k → -6 ≤ r 14 j ∧ r 14 j ≤ 6) (hue : u = r 1 (p + 5) * qv (fun j => r 1 (j + 1)) x * (m 24 * vdA (r 14) k k) - upN (r 14) (r 15) x k k) (hwe : w = qv (fun j => r 1 (j + 1)) x * (m 24 * vdA (r 14) k k)) (hu : -9223372036854775807 ≤ u ∧ u ≤ 9223372036854775807) (hw : -9223372036854775807 ≤ w ∧ w ≤ 9223372036854775807) (hw0 : w ≠ 0) : zEv k_X8_findsError [za (A 0), zi x] h (fun v h2 => v = none ∧ h2 = zov (LM A (va_up (va_up m 26 (fdU u w)) 27 ((w.natAbs : Int).tdiv (Int.gcd u w : Int))) r) h) := by
  have hh : h = zov (LM A m r) h := zov_self hL
  have hqr := ROK_q hR hp
  have hyr := ROK_y hR hp
  rw [← hx] at hqr
  unfold nY at hyr
  rw [← hx] at hyr
  refine zEv.body (I := (8, xI_X8_findsError, 4, 2, 55, 0, 0, false)) (rt := none) [some (za (A 0)), some (zi x), none, none] rfl rfl rfl rfl ?_
  refine Zn.eq rfl rfl rfl hh ?_
  have hD : zND (LM A m r) := hD
  refine Zn.seg (pc2 := 1) (ls2 := [some (za (A 0)), some (zi x), none, none]) (st2 := [za (A 0)]) [(0, .aload_n 0)] (by decide +kernel) rfl ?_
  refine Zn.call (ins := .invokevirtual 235) [za (A 0)] [] (by decide +kernel) rfl rfl rfl ⟨rfl, rfl⟩ ⟨rfl, rfl, rfl⟩ rfl (zrecvV hD (p := 0) rfl rfl rfl) (sp_X8_lower (A := A) (m := m) (r := r) (k := k) (zov_all hD) hD (by first | assumption | omega) (by first | assumption | omega) (by first | assumption | omega)) (fun v h2 hp => ?_)
  obtain ⟨rfl, hq_1⟩ := hp
  refine Zn.eq (pc2 := 4) (ls2 := [some (za (A 0)), some (zi x), none, none]) (st2 := [zj (m 24 * vdA (r 14) k k)]) (h2 := zov (LM A m r) h) rfl rfl rfl hq_1 ?_
  have hD : zND (LM A m r) := hD
  refine Zn.seg (pc2 := 8) (ls2 := [some (za (A 0)), some (zi x), some (zj (m 24 * vdA (r 14) k k)), none]) (st2 := [zi x, za (A 0), za (A 0)]) [(4, .lstore_n 2), (5, .aload_n 0), (6, .aload_n 0), (7, .iload_n 1)] (by decide +kernel) rfl ?_
  refine Zn.call (ins := .invokevirtual 102) [za (A 0), zi x] [za (A 0)] (by decide +kernel) rfl rfl rfl ⟨rfl, rfl⟩ ⟨rfl, rfl, rfl⟩ rfl (zrecvV hD (p := 0) rfl rfl rfl) (sp_X8_y (A := A) (m := m) (r := r) (x := x) (p := p) (zov_all hD) hD (hx) (hp)) (fun v h2 hp => ?_)
  obtain ⟨rfl, hq_2⟩ := hp
  refine Zn.eq (pc2 := 11) (ls2 := [some (za (A 0)), some (zi x), some (zj (m 24 * vdA (r 14) k k)), none]) (st2 := [zi (r 1 (p + 5)), za (A 0)]) (h2 := zov (LM A m r) h) rfl rfl rfl hq_2 ?_
  have hD : zND (LM A m r) := hD
  refine Zn.seg (pc2 := 13) (ls2 := [some (za (A 0)), some (zi x), some (zj (m 24 * vdA (r 14) k k)), none]) (st2 := [zi x, za (A 0), zi (r 1 (p + 5)), za (A 0)]) [(11, .aload_n 0), (12, .iload_n 1)] (by decide +kernel) rfl ?_
  refine Zn.call (ins := .invokevirtual 85) [za (A 0), zi x] [zi (r 1 (p + 5)), za (A 0)] (by decide +kernel) rfl rfl rfl ⟨rfl, rfl⟩ ⟨rfl, rfl, rfl⟩ rfl (zrecvV hD (p := 0) rfl rfl rfl) (sp_X8_beneath (A := A) (m := m) (r := r) (x := x) (zov_all hD) hD) (fun v h2 hp => ?_)
  obtain ⟨rfl, hq_3⟩ := hp
  refine Zn.eq (pc2 := 16) (ls2 := [some (za (A 0)), some (zi x), some (zj (m 24 * vdA (r 14) k k)), none]) (st2 := [zi (qv (fun j => r 1 (j + 1)) x), zi (r 1 (p + 5)), za (A 0)]) (h2 := zov (LM A m r) h) rfl rfl rfl hq_3 ?_
  have hD : zND (LM A m r) := hD
  refine Zn.seg (pc2 := 17) (ls2 := [some (za (A 0)), some (zi x), some (zj (m 24 * vdA (r 14) k k)), none]) (st2 := [zi ((r 1 (p + 5)) * (qv (fun j => r 1 (j + 1)) x)), za (A 0)]) [(16, .imul)] (by decide +kernel) rfl ?_
  refine Zn.i2l (by decide +kernel) ⟨by omega, by omega⟩ ?_
  refine Zn.seg (pc2 := 22) (ls2 := [some (za (A 0)), some (zi x), some (zj (m 24 * vdA (r 14) k k)), none]) (st2 := [zi x, za (A 0), zj (((r 1 (p + 5)) * (qv (fun j => r 1 (j + 1)) x)) * (m 24 * vdA (r 14) k k)), za (A 0)]) [(18, .lload_n 2), (19, .lmul), (20, .aload_n 0), (21, .iload_n 1)] (by decide +kernel) rfl ?_
  refine Zn.call (ins := .invokevirtual 238) [za (A 0), zi x] [zj (((r 1 (p + 5)) * (qv (fun j => r 1 (j + 1)) x)) * (m 24 * vdA (r 14) k k)), za (A 0)] (by decide +kernel) rfl rfl rfl ⟨rfl, rfl⟩ ⟨rfl, rfl, rfl⟩ rfl (zrecvV hD (p := 0) rfl rfl rfl) (sp_X8_upper (A := A) (m := m) (r := r) (x := x) (k := k) (zov_all hD) hD (by first | assumption | omega) (by first | assumption | omega) (by first | assumption | omega) (by first | assumption | omega)) (fun v h2 hp => ?_)
  obtain ⟨rfl, hq_4⟩ := hp
  refine Zn.eq (pc2 := 25) (ls2 := [some (za (A 0)), some (zi x), some (zj (m 24 * vdA (r 14) k k)), none]) (st2 := [zj (upN (r 14) (r 15) x k k), zj (((r 1 (p + 5)) * (qv (fun j => r 1 (j + 1)) x)) * (m 24 * vdA (r 14) k k)), za (A 0)]) (h2 := zov (LM A m r) h) rfl rfl rfl hq_4 ?_
  have hD : zND (LM A m r) := hD
  refine Zn.seg (pc2 := 28) (ls2 := [some (za (A 0)), some (zi x), some (zj (m 24 * vdA (r 14) k k)), none]) (st2 := [zi x, za (A 0), zj (((r 1 (p + 5)) * (qv (fun j => r 1 (j + 1)) x)) * (m 24 * vdA (r 14) k k) - (upN (r 14) (r 15) x k k)), za (A 0)]) [(25, .lsub), (26, .aload_n 0), (27, .iload_n 1)] (by decide +kernel) rfl ?_
  refine Zn.call (ins := .invokevirtual 85) [za (A 0), zi x] [zj (((r 1 (p + 5)) * (qv (fun j => r 1 (j + 1)) x)) * (m 24 * vdA (r 14) k k) - (upN (r 14) (r 15) x k k)), za (A 0)] (by decide +kernel) rfl rfl rfl ⟨rfl, rfl⟩ ⟨rfl, rfl, rfl⟩ rfl (zrecvV hD (p := 0) rfl rfl rfl) (sp_X8_beneath (A := A) (m := m) (r := r) (x := x) (zov_all hD) hD) (fun v h2 hp => ?_)
  obtain ⟨rfl, hq_5⟩ := hp
  refine Zn.eq (pc2 := 31) (ls2 := [some (za (A 0)), some (zi x), some (zj (m 24 * vdA (r 14) k k)), none]) (st2 := [zi (qv (fun j => r 1 (j + 1)) x), zj (((r 1 (p + 5)) * (qv (fun j => r 1 (j + 1)) x)) * (m 24 * vdA (r 14) k k) - (upN (r 14) (r 15) x k k)), za (A 0)]) (h2 := zov (LM A m r) h) rfl rfl rfl hq_5 ?_
  have hD : zND (LM A m r) := hD
  refine Zn.i2l (by decide +kernel) ⟨by omega, by omega⟩ ?_
  refine Zn.seg (pc2 := 34) (ls2 := [some (za (A 0)), some (zi x), some (zj (m 24 * vdA (r 14) k k)), none]) (st2 := [zj ((qv (fun j => r 1 (j + 1)) x) * (m 24 * vdA (r 14) k k)), zj (((r 1 (p + 5)) * (qv (fun j => r 1 (j + 1)) x)) * (m 24 * vdA (r 14) k k) - (upN (r 14) (r 15) x k k)), za (A 0)]) [(32, .lload_n 2), (33, .lmul)] (by decide +kernel) rfl ?_
  refine Zn.call (ins := .invokevirtual 241) [za (A 0), zj (((r 1 (p + 5)) * (qv (fun j => r 1 (j + 1)) x)) * (m 24 * vdA (r 14) k k) - (upN (r 14) (r 15) x k k)), zj ((qv (fun j => r 1 (j + 1)) x) * (m 24 * vdA (r 14) k k))] [] (by decide +kernel) rfl rfl rfl ⟨rfl, rfl⟩ ⟨rfl, rfl, rfl⟩ rfl (zrecvV hD (p := 0) rfl rfl rfl) (sp_X8_finds (A := A) (m := m) (r := r) (u := ((r 1 (p + 5)) * (qv (fun j => r 1 (j + 1)) x)) * (m 24 * vdA (r 14) k k) - (upN (r 14) (r 15) x k k)) (w := (qv (fun j => r 1 (j + 1)) x) * (m 24 * vdA (r 14) k k)) (zov_all hD) hD (by rw [← hue]; exact hu) (by rw [← hwe]; exact hw) (by rw [← hwe]; exact hw0)) (fun v h2 hp => ?_)
  obtain ⟨rfl, hq_6⟩ := hp
  refine Zn.eq (pc2 := 37) (ls2 := [some (za (A 0)), some (zi x), some (zj (m 24 * vdA (r 14) k k)), none]) (st2 := []) (h2 := zov (LM A (va_up (va_up m 26 (fdU (((r 1 (p + 5)) * (qv (fun j => r 1 (j + 1)) x)) * (m 24 * vdA (r 14) k k) - (upN (r 14) (r 15) x k k)) ((qv (fun j => r 1 (j + 1)) x) * (m 24 * vdA (r 14) k k)))) 27 ((((qv (fun j => r 1 (j + 1)) x) * (m 24 * vdA (r 14) k k)).natAbs : Int).tdiv (Int.gcd (((r 1 (p + 5)) * (qv (fun j => r 1 (j + 1)) x)) * (m 24 * vdA (r 14) k k) - (upN (r 14) (r 15) x k k)) ((qv (fun j => r 1 (j + 1)) x) * (m 24 * vdA (r 14) k k)) : Int))) r) h) rfl rfl rfl (hq_6.trans (LM_over _ _ _ _ _ _)) ?_
  have hD : zND (LM A (va_up (va_up m 26 (fdU (((r 1 (p + 5)) * (qv (fun j => r 1 (j + 1)) x)) * (m 24 * vdA (r 14) k k) - (upN (r 14) (r 15) x k k)) ((qv (fun j => r 1 (j + 1)) x) * (m 24 * vdA (r 14) k k)))) 27 ((((qv (fun j => r 1 (j + 1)) x) * (m 24 * vdA (r 14) k k)).natAbs : Int).tdiv (Int.gcd (((r 1 (p + 5)) * (qv (fun j => r 1 (j + 1)) x)) * (m 24 * vdA (r 14) k k) - (upN (r 14) (r 15) x k k)) ((qv (fun j => r 1 (j + 1)) x) * (m 24 * vdA (r 14) k k)) : Int))) r) := hD
  exact Zn.vret (by decide +kernel) rfl (⟨rfl, by rw [hue, hwe]⟩)
theorem sp_X8_compare {h : xH} {x y z w : Int} (h_x : 0 ≤ x ∧ x ≤ 9223372036854775807) (h_y : 0 < y ∧ y ≤ 9223372036854775807) (h_z : 0 ≤ z ∧ z ≤ 9223372036854775807) (h_w : 0 < w ∧ w ≤ 9223372036854775807) : zEv k_X8_compare [zj x, zj y, zj z, zj w] h (fun v h2 => v = some (zi (cmpV x y z w)) ∧ h2 = h) := by
  have hD : ([] : List Nat).Nodup := List.nodup_nil
  have hh : h = zov [] h := zov_self (fun _ q => absurd q List.not_mem_nil)
  refine zEv.body (I := (8, xI_X8_compare, 20, 0, 0, 0, 0, false)) (rt := (some .int)) [some (zj x), none, some (zj y), none, some (zj z), none, some (zj w), none, none, none, none, none, none, none, none, none, none, none, none, none] rfl rfl rfl rfl ?_
  refine Zn.eq rfl rfl rfl hh ?_
  have hD : zND ([]) := hD
  refine Zn.seg (pc2 := 14) (ls2 := [some (zj x), none, some (zj y), none, some (zj z), none, some (zj w), none, some (zj x), none, some (zj y), none, some (zj z), none, some (zj w), none, none, none, none, none]) (st2 := []) [(0, .lload_n 0), (1, .lstore 8), (3, .lload_n 2), (4, .lstore 10), (6, .lload 4), (8, .lstore 12), (10, .lload 6), (12, .lstore 14)] (by decide +kernel) rfl ?_
  refine Zn.eq (pc2 := 14) (ls2 := [some (zj x), none, some (zj y), none, some (zj z), none, some (zj w), none, some (zj x), none, some (zj y), none, some (zj z), none, some (zj w), none, none, none, none, none]) (st2 := []) (h2 := zov ([]) h) rfl rfl rfl (rfl) ?_
  have hD : zND ([]) := hD
  refine xloop (P := fun i_1 => ∀ (o1 : Int), ∀ (t2 : Int), ∀ (o3 : Int), ∀ (t4 : Int), ∀ j_10 j_11 j_12 j_13 : Option zV, ((0 ≤ o1 ∧ o1 ≤ 9223372036854775807) ∧ (0 < t2 ∧ t2 ≤ 9223372036854775807) ∧ (0 ≤ o3 ∧ o3 ≤ 9223372036854775807) ∧ (0 < t4 ∧ t4 ≤ 9223372036854775807) ∧ t2 + t4 + (i_1 : Int) ≤ (y.natAbs : Int) + (w.natAbs : Int) ∧ cmpV o1 t2 o3 t4 = cmpV x y z w) → Zn (8, xI_X8_compare, 20, 0, 0, 0, 0, false) (some .int) 14 [some (zj x), none, some (zj y), none, some (zj z), none, some (zj w), none, some (zj o1), none, some (zj t2), none, some (zj o3), none, some (zj t4), none, j_10, j_11, j_12, j_13] [] (zov ([]) h) _) ((y.natAbs + w.natAbs + 1)) (fun i_1 hi_14 ih_15 o1 t2 o3 t4 j_10 j_11 j_12 j_13 fa_16 => ?_) (fun o1 t2 o3 t4 j_10 j_11 j_12 j_13 fa_16 => ?_) x y z w none none none none (⟨h_x, h_y, h_z, h_w, by omega, rfl⟩)
  · have hi_ : i_1 < (y.natAbs + w.natAbs + 1) := hi_14
    obtain ⟨⟨f1a, f1b⟩, ⟨f2a, f2b⟩, ⟨f3a, f3b⟩, ⟨f4a, f4b⟩, f5_, f6_⟩ := fa_16
    have q1_ := tdv_r f1a f2a
    have q2_ := tdv_r f3a f4a
    have q3_ := cmp_st f1a f2a f3a f4a
    refine Zn.seg (pc2 := 18) (ls2 := [some (zj x), none, some (zj y), none, some (zj z), none, some (zj w), none, some (zj o1), none, some (zj t2), none, some (zj o3), none, some (zj t4), none, j_10, j_11, j_12, j_13]) (st2 := [zj t2, zj o1]) [(14, .lload 8), (16, .lload 10)] (by decide +kernel) rfl ?_
    refine Zn.ldiv (by decide +kernel) ⟨by omega, by omega⟩ ⟨by omega, by omega⟩ (by omega) ?_
    refine Zn.seg (pc2 := 23) (ls2 := [some (zj x), none, some (zj y), none, some (zj z), none, some (zj w), none, some (zj o1), none, some (zj t2), none, some (zj o3), none, some (zj t4), none, j_10, j_11, j_12, j_13]) (st2 := [zj t4, zj o3, zj (o1.tdiv t2)]) [(19, .lload 12), (21, .lload 14)] (by decide +kernel) rfl ?_
    refine Zn.ldiv (by decide +kernel) ⟨by omega, by omega⟩ ⟨by omega, by omega⟩ (by omega) ?_
    refine Zn.lcmpif (c := .ne) (off := (75)) 100 (by decide +kernel) (by decide +kernel) rfl ⟨by omega, by omega⟩ ⟨by omega, by omega⟩ (fun c_17 => ?_) (fun c_17 => ?_)
    · have c_17 : o1.tdiv t2 ≠ o3.tdiv t4 := c_17
      refine Zn.seg (pc2 := 104) (ls2 := [some (zj x), none, some (zj y), none, some (zj z), none, some (zj w), none, some (zj o1), none, some (zj t2), none, some (zj o3), none, some (zj t4), none, j_10, j_11, j_12, j_13]) (st2 := [zj t2, zj o1]) [(100, .lload 8), (102, .lload 10)] (by decide +kernel) rfl ?_
      refine Zn.ldiv (by decide +kernel) ⟨by omega, by omega⟩ ⟨by omega, by omega⟩ (by omega) ?_
      refine Zn.seg (pc2 := 109) (ls2 := [some (zj x), none, some (zj y), none, some (zj z), none, some (zj w), none, some (zj o1), none, some (zj t2), none, some (zj o3), none, some (zj t4), none, j_10, j_11, j_12, j_13]) (st2 := [zj t4, zj o3, zj (o1.tdiv t2)]) [(105, .lload 12), (107, .lload 14)] (by decide +kernel) rfl ?_
      refine Zn.ldiv (by decide +kernel) ⟨by omega, by omega⟩ ⟨by omega, by omega⟩ (by omega) ?_
      refine Zn.lcmpif (c := .ge) (off := (7)) 118 (by decide +kernel) (by decide +kernel) rfl ⟨by omega, by omega⟩ ⟨by omega, by omega⟩ (fun c_18 => ?_) (fun c_18 => ?_)
      · have c_18 : o3.tdiv t4 ≤ o1.tdiv t2 := c_18
        refine Zn.seg (pc2 := 119) (ls2 := [some (zj x), none, some (zj y), none, some (zj z), none, some (zj w), none, some (zj o1), none, some (zj t2), none, some (zj o3), none, some (zj t4), none, j_10, j_11, j_12, j_13]) (st2 := [zi 1]) [(118, .iconst 1)] (by decide +kernel) rfl ?_
        exact Zn.iret (by decide +kernel) rfl (⟨by refine congrArg some (congrArg zi ?_); rw [← f6_]; first | exact ((q3_.1 (by omega))).symm | exact ((q3_.2.1 (by omega))).symm | (have e_ := q3_.2.2.1 (by omega) (by omega); split at e_ <;> first | exact e_.symm | omega | (split at e_ <;> first | exact e_.symm | omega)), hh.symm⟩)
      · have c_18 : ¬ (o3.tdiv t4 ≤ o1.tdiv t2) := c_18
        refine Zn.seg (pc2 := 119) (ls2 := [some (zj x), none, some (zj y), none, some (zj z), none, some (zj w), none, some (zj o1), none, some (zj t2), none, some (zj o3), none, some (zj t4), none, j_10, j_11, j_12, j_13]) (st2 := [zi (-1)]) [(114, .iconst (-1)), (115, .goto 4)] (by decide +kernel) rfl ?_
        exact Zn.iret (by decide +kernel) rfl (⟨by refine congrArg some (congrArg zi ?_); rw [← f6_]; first | exact ((q3_.1 (by omega))).symm | exact ((q3_.2.1 (by omega))).symm | (have e_ := q3_.2.2.1 (by omega) (by omega); split at e_ <;> first | exact e_.symm | omega | (split at e_ <;> first | exact e_.symm | omega)), hh.symm⟩)
    · have c_17 : ¬ (o1.tdiv t2 ≠ o3.tdiv t4) := c_17
      refine Zn.seg (pc2 := 32) (ls2 := [some (zj x), none, some (zj y), none, some (zj z), none, some (zj w), none, some (zj o1), none, some (zj t2), none, some (zj o3), none, some (zj t4), none, j_10, j_11, j_12, j_13]) (st2 := [zj t2, zj o1]) [(28, .lload 8), (30, .lload 10)] (by decide +kernel) rfl ?_
      refine Zn.lrem (by decide +kernel) ⟨by omega, by omega⟩ ⟨by omega, by omega⟩ (by omega) ?_
      refine Zn.seg (pc2 := 39) (ls2 := [some (zj x), none, some (zj y), none, some (zj z), none, some (zj w), none, some (zj o1), none, some (zj t2), none, some (zj o3), none, some (zj t4), none, some (zj (o1.tmod t2)), none, j_12, j_13]) (st2 := [zj t4, zj o3]) [(33, .lstore 16), (35, .lload 12), (37, .lload 14)] (by decide +kernel) rfl ?_
      refine Zn.lrem (by decide +kernel) ⟨by omega, by omega⟩ ⟨by omega, by omega⟩ (by omega) ?_
      refine Zn.seg (pc2 := 45) (ls2 := [some (zj x), none, some (zj y), none, some (zj z), none, some (zj w), none, some (zj o1), none, some (zj t2), none, some (zj o3), none, some (zj t4), none, some (zj (o1.tmod t2)), none, some (zj (o3.tmod t4)), none]) (st2 := [zj 0, zj (o1.tmod t2)]) [(40, .lstore 18), (42, .lload 16), (44, .lconst 0)] (by decide +kernel) rfl ?_
      refine Zn.lcmpif (c := .eq) (off := (10)) 56 (by decide +kernel) (by decide +kernel) rfl ⟨by omega, by omega⟩ ⟨by decide, by decide⟩ (fun c_19 => ?_) (fun c_19 => ?_)
      · have c_19 : o1.tmod t2 = 0 := c_19
        refine Zn.seg (pc2 := 60) (ls2 := [some (zj x), none, some (zj y), none, some (zj z), none, some (zj w), none, some (zj o1), none, some (zj t2), none, some (zj o3), none, some (zj t4), none, some (zj (o1.tmod t2)), none, some (zj (o3.tmod t4)), none]) (st2 := [zj (o3.tmod t4), zj (o1.tmod t2)]) [(56, .lload 16), (58, .lload 18)] (by decide +kernel) rfl ?_
        refine Zn.lcmpif (c := .ne) (off := (7)) 68 (by decide +kernel) (by decide +kernel) rfl ⟨by omega, by omega⟩ ⟨by omega, by omega⟩ (fun c_20 => ?_) (fun c_20 => ?_)
        · have c_20 : o1.tmod t2 ≠ o3.tmod t4 := c_20
          refine Zn.seg (pc2 := 71) (ls2 := [some (zj x), none, some (zj y), none, some (zj z), none, some (zj w), none, some (zj o1), none, some (zj t2), none, some (zj o3), none, some (zj t4), none, some (zj (o1.tmod t2)), none, some (zj (o3.tmod t4)), none]) (st2 := [zj 0, zj (o1.tmod t2)]) [(68, .lload 16), (70, .lconst 0)] (by decide +kernel) rfl ?_
          refine Zn.lcmpif (c := .ne) (off := (7)) 79 (by decide +kernel) (by decide +kernel) rfl ⟨by omega, by omega⟩ ⟨by decide, by decide⟩ (fun c_21 => ?_) (fun c_21 => ?_)
          · have c_21 : o1.tmod t2 ≠ 0 := c_21
            refine Zn.seg (pc2 := 80) (ls2 := [some (zj x), none, some (zj y), none, some (zj z), none, some (zj w), none, some (zj o1), none, some (zj t2), none, some (zj o3), none, some (zj t4), none, some (zj (o1.tmod t2)), none, some (zj (o3.tmod t4)), none]) (st2 := [zi 1]) [(79, .iconst 1)] (by decide +kernel) rfl ?_
            exact Zn.iret (by decide +kernel) rfl (⟨by refine congrArg some (congrArg zi ?_); rw [← f6_]; first | exact ((q3_.1 (by omega))).symm | exact ((q3_.2.1 (by omega))).symm | (have e_ := q3_.2.2.1 (by omega) (by omega); split at e_ <;> first | exact e_.symm | omega | (split at e_ <;> first | exact e_.symm | omega)), hh.symm⟩)
          · have c_21 : ¬ (o1.tmod t2 ≠ 0) := c_21
            refine Zn.seg (pc2 := 80) (ls2 := [some (zj x), none, some (zj y), none, some (zj z), none, some (zj w), none, some (zj o1), none, some (zj t2), none, some (zj o3), none, some (zj t4), none, some (zj (o1.tmod t2)), none, some (zj (o3.tmod t4)), none]) (st2 := [zi (-1)]) [(75, .iconst (-1)), (76, .goto 4)] (by decide +kernel) rfl ?_
            exact Zn.iret (by decide +kernel) rfl (⟨by refine congrArg some (congrArg zi ?_); rw [← f6_]; first | exact ((q3_.1 (by omega))).symm | exact ((q3_.2.1 (by omega))).symm | (have e_ := q3_.2.2.1 (by omega) (by omega); split at e_ <;> first | exact e_.symm | omega | (split at e_ <;> first | exact e_.symm | omega)), hh.symm⟩)
        · have c_20 : ¬ (o1.tmod t2 ≠ o3.tmod t4) := c_20
          refine Zn.seg (pc2 := 80) (ls2 := [some (zj x), none, some (zj y), none, some (zj z), none, some (zj w), none, some (zj o1), none, some (zj t2), none, some (zj o3), none, some (zj t4), none, some (zj (o1.tmod t2)), none, some (zj (o3.tmod t4)), none]) (st2 := [zi 0]) [(64, .iconst 0), (65, .goto 15)] (by decide +kernel) rfl ?_
          exact Zn.iret (by decide +kernel) rfl (⟨by refine congrArg some (congrArg zi ?_); rw [← f6_]; first | exact ((q3_.1 (by omega))).symm | exact ((q3_.2.1 (by omega))).symm | (have e_ := q3_.2.2.1 (by omega) (by omega); split at e_ <;> first | exact e_.symm | omega | (split at e_ <;> first | exact e_.symm | omega)), hh.symm⟩)
      · have c_19 : ¬ (o1.tmod t2 = 0) := c_19
        refine Zn.seg (pc2 := 52) (ls2 := [some (zj x), none, some (zj y), none, some (zj z), none, some (zj w), none, some (zj o1), none, some (zj t2), none, some (zj o3), none, some (zj t4), none, some (zj (o1.tmod t2)), none, some (zj (o3.tmod t4)), none]) (st2 := [zj 0, zj (o3.tmod t4)]) [(49, .lload 18), (51, .lconst 0)] (by decide +kernel) rfl ?_
        refine Zn.lcmpif (c := .ne) (off := (28)) 81 (by decide +kernel) (by decide +kernel) rfl ⟨by omega, by omega⟩ ⟨by decide, by decide⟩ (fun c_22 => ?_) (fun c_22 => ?_)
        · have c_22 : o3.tmod t4 ≠ 0 := c_22
          refine Zn.seg (pc2 := 14) (ls2 := [some (zj x), none, some (zj y), none, some (zj z), none, some (zj w), none, some (zj t4), none, some (zj (o3.tmod t4)), none, some (zj t2), none, some (zj (o1.tmod t2)), none, some (zj (o1.tmod t2)), none, some (zj (o3.tmod t4)), none]) (st2 := []) [(81, .lload 14), (83, .lstore 8), (85, .lload 16), (87, .lstore 14), (89, .lload 10), (91, .lstore 12), (93, .lload 18), (95, .lstore 10), (97, .goto (-83))] (by decide +kernel) rfl ?_
          exact Zn.eq rfl rfl rfl (rfl) (ih_15 t4 (o3.tmod t4) t2 (o1.tmod t2) (some (zj (o1.tmod t2))) none (some (zj (o3.tmod t4))) none (⟨⟨by omega, by omega⟩, ⟨by omega, by omega⟩, ⟨by omega, by omega⟩, ⟨by omega, by omega⟩, by omega, (q3_.2.2.2 (by omega)).trans f6_⟩))
        · have c_22 : ¬ (o3.tmod t4 ≠ 0) := c_22
          refine Zn.seg (pc2 := 60) (ls2 := [some (zj x), none, some (zj y), none, some (zj z), none, some (zj w), none, some (zj o1), none, some (zj t2), none, some (zj o3), none, some (zj t4), none, some (zj (o1.tmod t2)), none, some (zj (o3.tmod t4)), none]) (st2 := [zj (o3.tmod t4), zj (o1.tmod t2)]) [(56, .lload 16), (58, .lload 18)] (by decide +kernel) rfl ?_
          refine Zn.lcmpif (c := .ne) (off := (7)) 68 (by decide +kernel) (by decide +kernel) rfl ⟨by omega, by omega⟩ ⟨by omega, by omega⟩ (fun c_23 => ?_) (fun c_23 => ?_)
          · have c_23 : o1.tmod t2 ≠ o3.tmod t4 := c_23
            refine Zn.seg (pc2 := 71) (ls2 := [some (zj x), none, some (zj y), none, some (zj z), none, some (zj w), none, some (zj o1), none, some (zj t2), none, some (zj o3), none, some (zj t4), none, some (zj (o1.tmod t2)), none, some (zj (o3.tmod t4)), none]) (st2 := [zj 0, zj (o1.tmod t2)]) [(68, .lload 16), (70, .lconst 0)] (by decide +kernel) rfl ?_
            refine Zn.lcmpif (c := .ne) (off := (7)) 79 (by decide +kernel) (by decide +kernel) rfl ⟨by omega, by omega⟩ ⟨by decide, by decide⟩ (fun c_24 => ?_) (fun c_24 => ?_)
            · have c_24 : o1.tmod t2 ≠ 0 := c_24
              refine Zn.seg (pc2 := 80) (ls2 := [some (zj x), none, some (zj y), none, some (zj z), none, some (zj w), none, some (zj o1), none, some (zj t2), none, some (zj o3), none, some (zj t4), none, some (zj (o1.tmod t2)), none, some (zj (o3.tmod t4)), none]) (st2 := [zi 1]) [(79, .iconst 1)] (by decide +kernel) rfl ?_
              exact Zn.iret (by decide +kernel) rfl (⟨by refine congrArg some (congrArg zi ?_); rw [← f6_]; first | exact ((q3_.1 (by omega))).symm | exact ((q3_.2.1 (by omega))).symm | (have e_ := q3_.2.2.1 (by omega) (by omega); split at e_ <;> first | exact e_.symm | omega | (split at e_ <;> first | exact e_.symm | omega)), hh.symm⟩)
            · have c_24 : ¬ (o1.tmod t2 ≠ 0) := c_24
              refine Zn.seg (pc2 := 80) (ls2 := [some (zj x), none, some (zj y), none, some (zj z), none, some (zj w), none, some (zj o1), none, some (zj t2), none, some (zj o3), none, some (zj t4), none, some (zj (o1.tmod t2)), none, some (zj (o3.tmod t4)), none]) (st2 := [zi (-1)]) [(75, .iconst (-1)), (76, .goto 4)] (by decide +kernel) rfl ?_
              exact Zn.iret (by decide +kernel) rfl (⟨by refine congrArg some (congrArg zi ?_); rw [← f6_]; first | exact ((q3_.1 (by omega))).symm | exact ((q3_.2.1 (by omega))).symm | (have e_ := q3_.2.2.1 (by omega) (by omega); split at e_ <;> first | exact e_.symm | omega | (split at e_ <;> first | exact e_.symm | omega)), hh.symm⟩)
          · have c_23 : ¬ (o1.tmod t2 ≠ o3.tmod t4) := c_23
            refine Zn.seg (pc2 := 80) (ls2 := [some (zj x), none, some (zj y), none, some (zj z), none, some (zj w), none, some (zj o1), none, some (zj t2), none, some (zj o3), none, some (zj t4), none, some (zj (o1.tmod t2)), none, some (zj (o3.tmod t4)), none]) (st2 := [zi 0]) [(64, .iconst 0), (65, .goto 15)] (by decide +kernel) rfl ?_
            exact Zn.iret (by decide +kernel) rfl (⟨by refine congrArg some (congrArg zi ?_); rw [← f6_]; first | exact ((q3_.1 (by omega))).symm | exact ((q3_.2.1 (by omega))).symm | (have e_ := q3_.2.2.1 (by omega) (by omega); split at e_ <;> first | exact e_.symm | omega | (split at e_ <;> first | exact e_.symm | omega)), hh.symm⟩)
  · exact absurd (show False from by (obtain ⟨⟨f1a, f1b⟩, ⟨f2a, f2b⟩, ⟨f3a, f3b⟩, ⟨f4a, f4b⟩, f5_, f6_⟩ := fa_16; omega)) (fun q_ => q_)
theorem sp_X8_sign {h : xH} {x : Int} (hx : zInL x) : zEv k_X8_sign [zj x] h (fun v h2 => v = some (zi (sgV x)) ∧ h2 = h) := by
  have hD : ([] : List Nat).Nodup := List.nodup_nil
  have hh : h = zov [] h := zov_self (fun _ q => absurd q List.not_mem_nil)
  have hx1 := hx.1
  have hx2 := hx.2
  have hsg := sgV_spec x
  refine zEv.body (I := (8, xI_X8_sign, 2, 0, 0, 0, 0, false)) (rt := (some .int)) [some (zj x), none] rfl rfl rfl rfl ?_
  refine Zn.eq rfl rfl rfl hh ?_
  have hD : zND ([]) := hD
  refine Zn.seg (pc2 := 2) (ls2 := [some (zj x), none]) (st2 := [zj 0, zj x]) [(0, .lload_n 0), (1, .lconst 0)] (by decide +kernel) rfl ?_
  refine Zn.lcmpif (c := .ge) (off := (7)) 10 (by decide +kernel) (by decide +kernel) rfl ⟨by omega, by omega⟩ ⟨by decide, by decide⟩ (fun c_1 => ?_) (fun c_1 => ?_)
  · have c_1 : 0 ≤ x := c_1
    refine Zn.seg (pc2 := 12) (ls2 := [some (zj x), none]) (st2 := [zj 0, zj x]) [(10, .lload_n 0), (11, .lconst 0)] (by decide +kernel) rfl ?_
    refine Zn.lcmpif (c := .le) (off := (7)) 20 (by decide +kernel) (by decide +kernel) rfl ⟨by omega, by omega⟩ ⟨by decide, by decide⟩ (fun c_2 => ?_) (fun c_2 => ?_)
    · have c_2 : x ≤ 0 := c_2
      refine Zn.seg (pc2 := 21) (ls2 := [some (zj x), none]) (st2 := [zi 0]) [(20, .iconst 0)] (by decide +kernel) rfl ?_
      exact Zn.iret (by decide +kernel) rfl (⟨by first | rfl | (refine congrArg some (congrArg zi ?_); first | omega | (simp_all; done) | (simp_all; omega)), hh.symm⟩)
    · have c_2 : ¬ (x ≤ 0) := c_2
      refine Zn.seg (pc2 := 21) (ls2 := [some (zj x), none]) (st2 := [zi 1]) [(16, .iconst 1), (17, .goto 4)] (by decide +kernel) rfl ?_
      exact Zn.iret (by decide +kernel) rfl (⟨by first | rfl | (refine congrArg some (congrArg zi ?_); first | omega | (simp_all; done) | (simp_all; omega)), hh.symm⟩)
  · have c_1 : ¬ (0 ≤ x) := c_1
    refine Zn.seg (pc2 := 21) (ls2 := [some (zj x), none]) (st2 := [zi (-1)]) [(6, .iconst (-1)), (7, .goto 14)] (by decide +kernel) rfl ?_
    exact Zn.iret (by decide +kernel) rfl (⟨by first | rfl | (refine congrArg some (congrArg zi ?_); first | omega | (simp_all; done) | (simp_all; omega)), hh.symm⟩)
theorem sp_X8_leanAt {h : xH} {A : Nat → Nat} {m : Nat → Int} {r : Nat → Nat → Int} {x : Int} {p : Nat} (hL : ∀ q ∈ LM A m r, h q.1 = zcE q.2) (hD : zND (LM A m r)) (hx : x = (p : Int) - 6) (hp : p < 13) (hR : ROK (r 1)) (hu : zInL (m 26)) : zEv k_X8_leanAt [za (A 0), zi x] h (fun v h2 => v = some (zi (sgV (m 26) * sgV (qv (fun j => r 1 (j + 1)) x) * tauV (r 1) p)) ∧ h2 = h) := by
  have hh : h = zov (LM A m r) h := zov_self hL
  have hfa := fxA_le (r 1) p (12 - p)
  have hqr := ROK_q hR hp
  rw [← hx] at hqr
  refine zEv.body (I := (8, xI_X8_leanAt, 3, 2, 44, 0, 0, false)) (rt := (some .int)) [some (za (A 0)), some (zi x), none] rfl rfl rfl rfl ?_
  refine Zn.eq rfl rfl rfl hh ?_
  have hD : zND (LM A m r) := hD
  refine Zn.seg (pc2 := 2) (ls2 := [some (za (A 0)), some (zi x), none]) (st2 := [zi x, za (A 0)]) [(0, .aload_n 0), (1, .iload_n 1)] (by decide +kernel) rfl ?_
  refine Zn.call (ins := .invokevirtual 220) [za (A 0), zi x] [] (by decide +kernel) rfl rfl rfl ⟨rfl, rfl⟩ ⟨rfl, rfl, rfl⟩ rfl (zrecvV hD (p := 0) rfl rfl rfl) (sp_X8_fixedAbove (A := A) (m := m) (r := r) (x := x) (p := p) (zov_all hD) hD (hx) (hp) (hR.1)) (fun v h2 hp => ?_)
  obtain ⟨rfl, hq_1⟩ := hp
  refine Zn.eq (pc2 := 5) (ls2 := [some (za (A 0)), some (zi x), none]) (st2 := [zi (fxA (r 1) p (12 - p) : Int)]) (h2 := zov (LM A m r) h) rfl rfl rfl hq_1 ?_
  have hD : zND (LM A m r) := hD
  have q_2 := fxA_le (r 1) p (12 - p)
  refine Zn.seg (pc2 := 6) (ls2 := [some (za (A 0)), some (zi x), none]) (st2 := [zi 2, zi (fxA (r 1) p (12 - p) : Int)]) [(5, .iconst 2)] (by decide +kernel) rfl ?_
  refine Zn.irem (by decide +kernel) ⟨by omega, by omega⟩ ⟨by decide, by decide⟩ (by omega) ?_
  refine Zn.topi (y := ((fxA (r 1) p (12 - p) % 2 : Nat) : Int)) (ntm 2 rfl) ?_
  refine Zn.ifc (c := .ne) (off := 7) 14 (by decide +kernel) rfl ⟨by omega, by omega⟩ (fun c_3 => ?_) (fun c_3 => ?_)
  · have c_3 : ((fxA (r 1) p (12 - p) % 2 : Nat) : Int) ≠ 0 := c_3
    refine Zn.seg (pc2 := 17) (ls2 := [some (za (A 0)), some (zi x), some (zi (-1))]) (st2 := [za (A 0)]) [(14, .iconst (-1)), (15, .istore_n 2), (16, .aload_n 0)] (by decide +kernel) rfl ?_
    refine Zn.get (ix := 229) hD 0 (by decide +kernel) rfl rfl rfl ?_
    refine Zn.call (ins := .invokestatic 270) [zj (m 26)] [] (by decide +kernel) rfl rfl rfl ⟨rfl, rfl⟩ ⟨rfl, rfl, rfl⟩ rfl (zrecvS (by decide)) (sp_X8_sign (x := m 26) (hu)) (fun v h2 hp => ?_)
    obtain ⟨rfl, hq_4⟩ := hp
    refine Zn.eq (pc2 := 23) (ls2 := [some (za (A 0)), some (zi x), some (zi (-1))]) (st2 := [zi (sgV (m 26))]) (h2 := zov (LM A m r) h) rfl rfl rfl hq_4 ?_
    have hD : zND (LM A m r) := hD
    have q_5 := sgV_spec (m 26)
    refine Zn.seg (pc2 := 25) (ls2 := [some (za (A 0)), some (zi x), some (zi (-1))]) (st2 := [zi x, za (A 0), zi (sgV (m 26))]) [(23, .aload_n 0), (24, .iload_n 1)] (by decide +kernel) rfl ?_
    refine Zn.call (ins := .invokevirtual 85) [za (A 0), zi x] [zi (sgV (m 26))] (by decide +kernel) rfl rfl rfl ⟨rfl, rfl⟩ ⟨rfl, rfl, rfl⟩ rfl (zrecvV hD (p := 0) rfl rfl rfl) (sp_X8_beneath (A := A) (m := m) (r := r) (x := x) (zov_all hD) hD) (fun v h2 hp => ?_)
    obtain ⟨rfl, hq_6⟩ := hp
    refine Zn.eq (pc2 := 28) (ls2 := [some (za (A 0)), some (zi x), some (zi (-1))]) (st2 := [zi (qv (fun j => r 1 (j + 1)) x), zi (sgV (m 26))]) (h2 := zov (LM A m r) h) rfl rfl rfl hq_6 ?_
    have hD : zND (LM A m r) := hD
    refine Zn.i2l (by decide +kernel) ⟨by omega, by omega⟩ ?_
    refine Zn.call (ins := .invokestatic 270) [zj (qv (fun j => r 1 (j + 1)) x)] [zi (sgV (m 26))] (by decide +kernel) rfl rfl rfl ⟨rfl, rfl⟩ ⟨rfl, rfl, rfl⟩ rfl (zrecvS (by decide)) (sp_X8_sign (x := qv (fun j => r 1 (j + 1)) x) (⟨by omega, by omega⟩)) (fun v h2 hp => ?_)
    obtain ⟨rfl, hq_7⟩ := hp
    refine Zn.eq (pc2 := 32) (ls2 := [some (za (A 0)), some (zi x), some (zi (-1))]) (st2 := [zi (sgV (qv (fun j => r 1 (j + 1)) x)), zi (sgV (m 26))]) (h2 := zov (LM A m r) h) rfl rfl rfl hq_7 ?_
    have hD : zND (LM A m r) := hD
    have q_8 := sgV_spec (qv (fun j => r 1 (j + 1)) x)
    refine Zn.seg (pc2 := 35) (ls2 := [some (za (A 0)), some (zi x), some (zi (-1))]) (st2 := [zi (((sgV (m 26)) * (sgV (qv (fun j => r 1 (j + 1)) x))) * (-1))]) [(32, .imul), (33, .iload_n 2), (34, .imul)] (by decide +kernel) rfl ?_
    exact Zn.iret (by decide +kernel) rfl (⟨by refine congrArg some (congrArg zi ?_); rw [tauV]; first | rw [if_pos (by omega)] | rw [if_neg (by omega)], hh.symm⟩)
  · have c_3 : ¬ (((fxA (r 1) p (12 - p) % 2 : Nat) : Int) ≠ 0) := c_3
    refine Zn.seg (pc2 := 17) (ls2 := [some (za (A 0)), some (zi x), some (zi 1)]) (st2 := [za (A 0)]) [(10, .iconst 1), (11, .goto 4), (15, .istore_n 2), (16, .aload_n 0)] (by decide +kernel) rfl ?_
    refine Zn.get (ix := 229) hD 0 (by decide +kernel) rfl rfl rfl ?_
    refine Zn.call (ins := .invokestatic 270) [zj (m 26)] [] (by decide +kernel) rfl rfl rfl ⟨rfl, rfl⟩ ⟨rfl, rfl, rfl⟩ rfl (zrecvS (by decide)) (sp_X8_sign (x := m 26) (hu)) (fun v h2 hp => ?_)
    obtain ⟨rfl, hq_9⟩ := hp
    refine Zn.eq (pc2 := 23) (ls2 := [some (za (A 0)), some (zi x), some (zi 1)]) (st2 := [zi (sgV (m 26))]) (h2 := zov (LM A m r) h) rfl rfl rfl hq_9 ?_
    have hD : zND (LM A m r) := hD
    have q_10 := sgV_spec (m 26)
    refine Zn.seg (pc2 := 25) (ls2 := [some (za (A 0)), some (zi x), some (zi 1)]) (st2 := [zi x, za (A 0), zi (sgV (m 26))]) [(23, .aload_n 0), (24, .iload_n 1)] (by decide +kernel) rfl ?_
    refine Zn.call (ins := .invokevirtual 85) [za (A 0), zi x] [zi (sgV (m 26))] (by decide +kernel) rfl rfl rfl ⟨rfl, rfl⟩ ⟨rfl, rfl, rfl⟩ rfl (zrecvV hD (p := 0) rfl rfl rfl) (sp_X8_beneath (A := A) (m := m) (r := r) (x := x) (zov_all hD) hD) (fun v h2 hp => ?_)
    obtain ⟨rfl, hq_11⟩ := hp
    refine Zn.eq (pc2 := 28) (ls2 := [some (za (A 0)), some (zi x), some (zi 1)]) (st2 := [zi (qv (fun j => r 1 (j + 1)) x), zi (sgV (m 26))]) (h2 := zov (LM A m r) h) rfl rfl rfl hq_11 ?_
    have hD : zND (LM A m r) := hD
    refine Zn.i2l (by decide +kernel) ⟨by omega, by omega⟩ ?_
    refine Zn.call (ins := .invokestatic 270) [zj (qv (fun j => r 1 (j + 1)) x)] [zi (sgV (m 26))] (by decide +kernel) rfl rfl rfl ⟨rfl, rfl⟩ ⟨rfl, rfl, rfl⟩ rfl (zrecvS (by decide)) (sp_X8_sign (x := qv (fun j => r 1 (j + 1)) x) (⟨by omega, by omega⟩)) (fun v h2 hp => ?_)
    obtain ⟨rfl, hq_12⟩ := hp
    refine Zn.eq (pc2 := 32) (ls2 := [some (za (A 0)), some (zi x), some (zi 1)]) (st2 := [zi (sgV (qv (fun j => r 1 (j + 1)) x)), zi (sgV (m 26))]) (h2 := zov (LM A m r) h) rfl rfl rfl hq_12 ?_
    have hD : zND (LM A m r) := hD
    have q_13 := sgV_spec (qv (fun j => r 1 (j + 1)) x)
    refine Zn.seg (pc2 := 35) (ls2 := [some (za (A 0)), some (zi x), some (zi 1)]) (st2 := [zi (((sgV (m 26)) * (sgV (qv (fun j => r 1 (j + 1)) x))) * 1)]) [(32, .imul), (33, .iload_n 2), (34, .imul)] (by decide +kernel) rfl ?_
    exact Zn.iret (by decide +kernel) rfl (⟨by refine congrArg some (congrArg zi ?_); rw [tauV]; first | rw [if_pos (by omega)] | rw [if_neg (by omega)], hh.symm⟩)
theorem sp_X8_firstSet {h : xH} {A : Nat → Nat} {m : Nat → Int} {r : Nat → Nat → Int}  (hL : ∀ q ∈ LM A m r, h q.1 = zcE q.2) (hD : zND (LM A m r)) (hR : ROK (r 1)) : zEv k_X8_firstSet [za (A 0)] h (fun v h2 => v = some (zi (mk (frsB (r 1)) : Int)) ∧ h2 = h) := by
  have hh : h = zov (LM A m r) h := zov_self hL
  have hk := hR.1
  have hd := hR.2.1
  have hmn := manyN_le (r 1) 2 13
  have hmd := hR.2.2.2.2.2.1
  refine zEv.body (I := (8, xI_X8_firstSet, 4, 3, 64, 0, 0, false)) (rt := (some .int)) [some (za (A 0)), none, none, none] rfl rfl rfl rfl ?_
  refine Zn.eq rfl rfl rfl hh ?_
  have hD : zND (LM A m r) := hD
  refine Zn.seg (pc2 := 7) (ls2 := [some (za (A 0)), some (zi 0), some (zi 0), some (zi (-6))]) (st2 := []) [(0, .iconst 0), (1, .istore_n 1), (2, .iconst 0), (3, .istore_n 2), (4, .bipush (-6)), (6, .istore_n 3)] (by decide +kernel) rfl ?_
  refine Zn.eq (pc2 := 7) (ls2 := [some (za (A 0)), some (zi (mkN (frsB (r 1)) 0 : Int)), some (zi (min (manyN (r 1) 1 0 : Int) (r 1 0 + 2 - (manyN (r 1) 2 13 : Int)))), some (zi ((0 : Int) - 6))]) (st2 := []) (h2 := zov (LM A m r) h) rfl (zcons rfl (zcons (congrArg (fun z => some (zi z)) (by first | rfl | omega | simp)) (zcons (congrArg (fun z => some (zi z)) (by have h0_ : manyN (r 1) 1 0 = 0 := rfl; omega)) (zcons (congrArg (fun z => some (zi z)) (by first | rfl | omega | simp)) rfl)))) rfl (rfl) ?_
  have hD : zND (LM A m r) := hD
  refine xloop (P := fun i_1 => Zn (8, xI_X8_firstSet, 4, 3, 64, 0, 0, false) (some .int) 7 [some (za (A 0)), some (zi (mkN (frsB (r 1)) i_1 : Int)), some (zi (min (manyN (r 1) 1 i_1 : Int) (r 1 0 + 2 - (manyN (r 1) 2 13 : Int)))), some (zi ((i_1 : Int) - 6))] [] (zov (LM A m r) h) _) (13) (fun i_1 hi_2 ih_3 => ?_) ?_
  · have hi_ : i_1 < 13 := hi_2
    have hmk := mkN_lt (frsB (r 1)) (k := i_1) (by omega)
    have hpw := pw_lt (p := i_1) (by omega)
    have hki := hk i_1 (by omega)
    have hmi := manyN_le (r 1) 1 i_1
    have hmc := manyN_c (r 1) 1 i_1
    refine Zn.seg (pc2 := 10) (ls2 := [some (za (A 0)), some (zi (mkN (frsB (r 1)) i_1 : Int)), some (zi (min (manyN (r 1) 1 i_1 : Int) (r 1 0 + 2 - (manyN (r 1) 2 13 : Int)))), some (zi ((i_1 : Int) - 6))]) (st2 := [zi 7, zi ((i_1 : Int) - 6)]) [(7, .iload_n 3), (8, .bipush 7)] (by decide +kernel) rfl ?_
    refine Zn.icmp (c := .ge) (off := 38) 48 (by decide +kernel) rfl ⟨by omega, by omega⟩ ⟨by decide, by decide⟩ (fun c_4 => absurd (show 7 ≤ (i_1 : Int) - 6 from c_4) (by omega)) (fun c_4 => ?_)
    have c_4 : ¬ (7 ≤ (i_1 : Int) - 6) := c_4
    refine Zn.seg (pc2 := 15) (ls2 := [some (za (A 0)), some (zi (mkN (frsB (r 1)) i_1 : Int)), some (zi (min (manyN (r 1) 1 i_1 : Int) (r 1 0 + 2 - (manyN (r 1) 2 13 : Int)))), some (zi ((i_1 : Int) - 6))]) (st2 := [zi ((i_1 : Int) - 6), za (A 0)]) [(13, .aload_n 0), (14, .iload_n 3)] (by decide +kernel) rfl ?_
    refine Zn.call (ins := .invokevirtual 81) [za (A 0), zi ((i_1 : Int) - 6)] [] (by decide +kernel) rfl rfl rfl ⟨rfl, rfl⟩ ⟨rfl, rfl, rfl⟩ rfl (zrecvV hD (p := 0) rfl rfl rfl) (sp_X8_kind (A := A) (m := m) (r := r) (x := (i_1 : Int) - 6) (p := i_1) (zov_all hD) hD (by first | assumption | omega) (by first | assumption | omega)) (fun v h2 hp => ?_)
    obtain ⟨rfl, hq_5⟩ := hp
    refine Zn.eq (pc2 := 18) (ls2 := [some (za (A 0)), some (zi (mkN (frsB (r 1)) i_1 : Int)), some (zi (min (manyN (r 1) 1 i_1 : Int) (r 1 0 + 2 - (manyN (r 1) 2 13 : Int)))), some (zi ((i_1 : Int) - 6))]) (st2 := [zi (r 1 (i_1 + 18))]) (h2 := zov (LM A m r) h) rfl rfl rfl hq_5 ?_
    have hD : zND (LM A m r) := hD
    refine Zn.seg (pc2 := 19) (ls2 := [some (za (A 0)), some (zi (mkN (frsB (r 1)) i_1 : Int)), some (zi (min (manyN (r 1) 1 i_1 : Int) (r 1 0 + 2 - (manyN (r 1) 2 13 : Int)))), some (zi ((i_1 : Int) - 6))]) (st2 := [zi 1, zi (r 1 (i_1 + 18))]) [(18, .iconst 1)] (by decide +kernel) rfl ?_
    refine Zn.icmp (c := .ne) (off := 23) 42 (by decide +kernel) rfl ⟨by omega, by omega⟩ ⟨by decide, by decide⟩ (fun c_6 => ?_) (fun c_6 => ?_)
    · have c_6 : r 1 (i_1 + 18) ≠ 1 := c_6
      refine Zn.seg (pc2 := 7) (ls2 := [some (za (A 0)), some (zi (mkN (frsB (r 1)) i_1 : Int)), some (zi (min (manyN (r 1) 1 i_1 : Int) (r 1 0 + 2 - (manyN (r 1) 2 13 : Int)))), some (zi ((i_1 : Int) - 6 + 1))]) (st2 := []) [(42, .iinc 3 1), (45, .goto (-38))] (by decide +kernel) rfl ?_
      exact Zn.eq rfl (zcons rfl (zcons (congrArg (fun z => some (zi z)) (by first | rw [mkN_t (by simp only [frsB, decide_eq_true_eq]; omega)] | rw [mkN_f (by simp only [frsB, decide_eq_true_eq]; omega)])) (zcons (congrArg (fun z => some (zi z)) (by omega)) (zcons (congrArg (fun z => some (zi z)) (by omega)) rfl)))) rfl (rfl) (ih_3)
    · have c_6 : ¬ (r 1 (i_1 + 18) ≠ 1) := c_6
      refine Zn.seg (pc2 := 24) (ls2 := [some (za (A 0)), some (zi (mkN (frsB (r 1)) i_1 : Int)), some (zi (min (manyN (r 1) 1 i_1 : Int) (r 1 0 + 2 - (manyN (r 1) 2 13 : Int)))), some (zi ((i_1 : Int) - 6))]) (st2 := [za (A 0), zi (min (manyN (r 1) 1 i_1 : Int) (r 1 0 + 2 - (manyN (r 1) 2 13 : Int)))]) [(22, .iload_n 2), (23, .aload_n 0)] (by decide +kernel) rfl ?_
      refine Zn.call (ins := .invokevirtual 129) [za (A 0)] [zi (min (manyN (r 1) 1 i_1 : Int) (r 1 0 + 2 - (manyN (r 1) 2 13 : Int)))] (by decide +kernel) rfl rfl rfl ⟨rfl, rfl⟩ ⟨rfl, rfl, rfl⟩ rfl (zrecvV hD (p := 0) rfl rfl rfl) (sp_X8_size (A := A) (m := m) (r := r) (zov_all hD) hD (by first | assumption | omega) (by first | assumption | omega)) (fun v h2 hp => ?_)
      obtain ⟨rfl, hq_7⟩ := hp
      refine Zn.eq (pc2 := 27) (ls2 := [some (za (A 0)), some (zi (mkN (frsB (r 1)) i_1 : Int)), some (zi (min (manyN (r 1) 1 i_1 : Int) (r 1 0 + 2 - (manyN (r 1) 2 13 : Int)))), some (zi ((i_1 : Int) - 6))]) (st2 := [zi (r 1 0 + 2 - (manyN (r 1) 2 13 : Int)), zi (min (manyN (r 1) 1 i_1 : Int) (r 1 0 + 2 - (manyN (r 1) 2 13 : Int)))]) (h2 := zov (LM A m r) h) rfl rfl rfl hq_7 ?_
      have hD : zND (LM A m r) := hD
      refine Zn.icmp (c := .ge) (off := 15) 42 (by decide +kernel) rfl ⟨by omega, by omega⟩ ⟨by omega, by omega⟩ (fun c_8 => ?_) (fun c_8 => ?_)
      · have c_8 : r 1 0 + 2 - (manyN (r 1) 2 13 : Int) ≤ min (manyN (r 1) 1 i_1 : Int) (r 1 0 + 2 - (manyN (r 1) 2 13 : Int)) := c_8
        refine Zn.seg (pc2 := 7) (ls2 := [some (za (A 0)), some (zi (mkN (frsB (r 1)) i_1 : Int)), some (zi (min (manyN (r 1) 1 i_1 : Int) (r 1 0 + 2 - (manyN (r 1) 2 13 : Int)))), some (zi ((i_1 : Int) - 6 + 1))]) (st2 := []) [(42, .iinc 3 1), (45, .goto (-38))] (by decide +kernel) rfl ?_
        exact Zn.eq rfl (zcons rfl (zcons (congrArg (fun z => some (zi z)) (by first | rw [mkN_t (by simp only [frsB, decide_eq_true_eq]; omega)] | rw [mkN_f (by simp only [frsB, decide_eq_true_eq]; omega)])) (zcons (congrArg (fun z => some (zi z)) (by omega)) (zcons (congrArg (fun z => some (zi z)) (by omega)) rfl)))) rfl (rfl) (ih_3)
      · have c_8 : ¬ (r 1 0 + 2 - (manyN (r 1) 2 13 : Int) ≤ min (manyN (r 1) 1 i_1 : Int) (r 1 0 + 2 - (manyN (r 1) 2 13 : Int))) := c_8
        refine Zn.seg (pc2 := 36) (ls2 := [some (za (A 0)), some (zi (mkN (frsB (r 1)) i_1 : Int)), some (zi (min (manyN (r 1) 1 i_1 : Int) (r 1 0 + 2 - (manyN (r 1) 2 13 : Int)))), some (zi ((i_1 : Int) - 6))]) (st2 := [zi ((i_1 : Int) - 6 + 6), zi 1, zi (mkN (frsB (r 1)) i_1 : Int)]) [(30, .iload_n 1), (31, .iconst 1), (32, .iload_n 3), (33, .bipush 6), (35, .iadd)] (by decide +kernel) rfl ?_
        refine Zn.ishl (((2 ^ i_1 : Nat) : Int)) (by decide +kernel) (zshl1z (by omega) (by omega)) ?_
        refine Zn.ior ((((mkN (frsB (r 1)) i_1) ||| (2 ^ i_1) : Nat) : Int)) (by decide +kernel) (zor (by omega) (by omega)) ?_
        refine Zn.seg (pc2 := 7) (ls2 := [some (za (A 0)), some (zi (((mkN (frsB (r 1)) i_1) ||| (2 ^ i_1) : Nat) : Int)), some (zi (min (manyN (r 1) 1 i_1 : Int) (r 1 0 + 2 - (manyN (r 1) 2 13 : Int)) + 1)), some (zi ((i_1 : Int) - 6 + 1))]) (st2 := []) [(38, .istore_n 1), (39, .iinc 2 1), (42, .iinc 3 1), (45, .goto (-38))] (by decide +kernel) rfl ?_
        exact Zn.eq rfl (zcons rfl (zcons (congrArg (fun z => some (zi z)) (by first | rw [mkN_t (by simp only [frsB, decide_eq_true_eq]; omega)] | rw [mkN_f (by simp only [frsB, decide_eq_true_eq]; omega)])) (zcons (congrArg (fun z => some (zi z)) (by omega)) (zcons (congrArg (fun z => some (zi z)) (by omega)) rfl)))) rfl (rfl) (ih_3)
  · skip
    refine Zn.seg (pc2 := 10) (ls2 := [some (za (A 0)), some (zi (mkN (frsB (r 1)) 13 : Int)), some (zi (min (manyN (r 1) 1 13 : Int) (r 1 0 + 2 - (manyN (r 1) 2 13 : Int)))), some (zi ((13 : Int) - 6))]) (st2 := [zi 7, zi ((13 : Int) - 6)]) [(7, .iload_n 3), (8, .bipush 7)] (by decide +kernel) rfl ?_
    refine Zn.icmp (c := .ge) (off := 38) 48 (by decide +kernel) rfl ⟨by omega, by omega⟩ ⟨by decide, by decide⟩ (fun c_9 => ?_) (fun c_9 => absurd (show 7 ≤ (13 : Int) - 6 from by decide) c_9)
    have c_9 : 7 ≤ (13 : Int) - 6 := c_9
    refine Zn.seg (pc2 := 49) (ls2 := [some (za (A 0)), some (zi (mkN (frsB (r 1)) 13 : Int)), some (zi (min (manyN (r 1) 1 13 : Int) (r 1 0 + 2 - (manyN (r 1) 2 13 : Int)))), some (zi ((13 : Int) - 6))]) (st2 := [zi (mkN (frsB (r 1)) 13 : Int)]) [(48, .iload_n 1)] (by decide +kernel) rfl ?_
    exact Zn.iret (by decide +kernel) rfl (⟨by first | rfl | (refine congrArg some (congrArg zi ?_); first | omega | (simp_all; done) | (simp_all; omega)), hh.symm⟩)
