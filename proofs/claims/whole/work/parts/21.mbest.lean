/-! the reference's best fit; what is reached; turns -/
def goS (s p : Nat) (f g : Int) : Nat → Int × Int × Int × Int × Int
  | 0 => (-4, -4, -4, -4, g)
  | k + 1 => if bt s k = 1 then (if (goS s p f g k).1 = -4 then (k : Int) else (goS s p f g k).1, (k : Int), if k < p then (if (goS s p f g k).2.2.2.2 = f then (k : Int) else -4) else (goS s p f g k).2.2.1,
      if k < p then (goS s p f g k).2.2.2.1 else if (goS s p f g k).2.2.2.1 = -4 then (if (goS s p f g k).2.2.2.2 = f then (k : Int) else 13) else (goS s p f g k).2.2.2.1, -(goS s p f g k).2.2.2.2) else goS s p f g k
theorem goS_c (s p : Nat) (f g : Int) (k : Nat) : (bt s k ≠ 1 ∧ goS s p f g (k + 1) = goS s p f g k ∧ (goS s p f g (k + 1)).1 = (goS s p f g k).1 ∧ (goS s p f g (k + 1)).2.1 = (goS s p f g k).2.1 ∧ (goS s p f g (k + 1)).2.2.1 = (goS s p f g k).2.2.1 ∧ (goS s p f g (k + 1)).2.2.2.1 = (goS s p f g k).2.2.2.1 ∧ (goS s p f g (k + 1)).2.2.2.2 = (goS s p f g k).2.2.2.2) ∨
    (bt s k = 1 ∧ (((goS s p f g k).1 = -4 ∧ (goS s p f g (k + 1)).1 = k) ∨ ((goS s p f g k).1 ≠ -4 ∧ (goS s p f g (k + 1)).1 = (goS s p f g k).1)) ∧ (goS s p f g (k + 1)).2.1 = k ∧
      ((k < p ∧ ((goS s p f g k).2.2.2.2 = f ∧ (goS s p f g (k + 1)).2.2.1 = k ∨ (goS s p f g k).2.2.2.2 ≠ f ∧ (goS s p f g (k + 1)).2.2.1 = -4) ∧ (goS s p f g (k + 1)).2.2.2.1 = (goS s p f g k).2.2.2.1) ∨
       (¬ k < p ∧ (goS s p f g (k + 1)).2.2.1 = (goS s p f g k).2.2.1 ∧ (((goS s p f g k).2.2.2.1 ≠ -4 ∧ (goS s p f g (k + 1)).2.2.2.1 = (goS s p f g k).2.2.2.1) ∨ ((goS s p f g k).2.2.2.1 = -4 ∧ ((goS s p f g k).2.2.2.2 = f ∧ (goS s p f g (k + 1)).2.2.2.1 = k ∨ (goS s p f g k).2.2.2.2 ≠ f ∧ (goS s p f g (k + 1)).2.2.2.1 = 13))))) ∧
      (goS s p f g (k + 1)).2.2.2.2 = -(goS s p f g k).2.2.2.2) := by
  rw [goS]
  generalize goS s p f g k = t
  by_cases h : bt s k = 1
  · rw [if_pos h]
    refine Or.inr ⟨h, ?_, rfl, ?_, rfl⟩
    · dsimp only
      split
      · exact Or.inl ⟨by assumption, rfl⟩
      · exact Or.inr ⟨by assumption, rfl⟩
    · dsimp only
      by_cases h2 : k < p
      · rw [if_pos h2, if_pos h2]
        refine Or.inl ⟨h2, ?_, rfl⟩
        split
        · exact Or.inl ⟨by assumption, rfl⟩
        · exact Or.inr ⟨by assumption, rfl⟩
      · rw [if_neg h2, if_neg h2]
        refine Or.inr ⟨h2, rfl, ?_⟩
        split
        · refine Or.inr ⟨by assumption, ?_⟩
          split
          · exact Or.inl ⟨by assumption, rfl⟩
          · exact Or.inr ⟨by assumption, rfl⟩
        · exact Or.inl ⟨by assumption, rfl⟩
  · rw [if_neg h]
    exact Or.inl ⟨h, rfl, rfl, rfl, rfl, rfl, rfl⟩
theorem goS_r {s p : Nat} {f g : Int} (hg : -1 ≤ g ∧ g ≤ 1) : ∀ k, (-4 ≤ (goS s p f g k).1 ∧ (goS s p f g k).1 < (k : Int)) ∧ (-4 ≤ (goS s p f g k).2.1 ∧ (goS s p f g k).2.1 < (k : Int)) ∧ (-4 ≤ (goS s p f g k).2.2.1 ∧ (goS s p f g k).2.2.1 < (k : Int)) ∧ (-4 ≤ (goS s p f g k).2.2.2.1 ∧ (goS s p f g k).2.2.2.1 ≤ 13 + (k : Int)) ∧ (-1 ≤ (goS s p f g k).2.2.2.2 ∧ (goS s p f g k).2.2.2.2 ≤ 1)
  | 0 => by
    simp only [goS]
    omega
  | k + 1 => by
    have h := goS_r (s := s) (p := p) (f := f) hg k
    have c := goS_c s p f g k
    generalize goS s p f g (k + 1) = u at *
    generalize goS s p f g k = t at *
    omega
def goV (s p : Nat) (f g : Int) : Int := if (goS s p f g 13).2.2.1 ≠ -4 then (goS s p f g 13).2.2.1 else if (goS s p f g 13).2.2.2.1 ≠ -4 ∧ (goS s p f g 13).2.2.2.1 < 13 then (goS s p f g 13).2.2.2.1 else if (p : Int) < (goS s p f g 13).1 then (goS s p f g 13).2.1 else (goS s p f g 13).1
theorem vdB_congr {f g : Nat → Int} {n a : Nat} (h : ∀ j, j < n → f j = g j) : ∀ {k : Nat}, a + k + 1 ≤ n → vdB f a k = vdB g a k
  | 0, _ => rfl
  | k + 1, hk => by rw [vdB, vdB, vdB_congr h (k := k) (by omega), h (a + k + 1) (by omega), h a (by omega)]
theorem vdA_congr2 {f g : Nat → Int} {n : Nat} (h : ∀ j, j < n → f j = g j) : ∀ {a : Nat}, a ≤ n → vdA f n a = vdA g n a
  | 0, _ => rfl
  | a + 1, ha => by rw [vdA, vdA, vdA_congr2 h (a := a) (by omega), vdB_congr h (by omega)]
theorem vdA_congr {f g : Nat → Int} {n : Nat} (h : ∀ j, j < n → f j = g j) : vdA f n n = vdA g n n := vdA_congr2 h (Nat.le_refl n)
theorem pxN_congr {f g : Nat → Int} {x : Int} {i n : Nat} (h : ∀ j, j < n → f j = g j) : ∀ {k : Nat}, k ≤ n → pxN f x i k = pxN g x i k
  | 0, _ => rfl
  | k + 1, hk => by rw [pxN, pxN, pxN_congr h (k := k) (by omega), h k (by omega)]
theorem upN_congr2 {f g f2 g2 : Nat → Int} {x : Int} {n : Nat} (h : ∀ j, j < n → f j = f2 j) (h2 : ∀ j, j < n → g j = g2 j) : ∀ {i : Nat}, i ≤ n → upN f g x n i = upN f2 g2 x n i
  | 0, _ => rfl
  | i + 1, hi => by rw [upN, upN, upN_congr2 h h2 (i := i) (by omega), dfA_congr h, h2 i (by omega), pxN_congr h (Nat.le_refl n)]
theorem upN_congr {f g f2 g2 : Nat → Int} {x : Int} {n : Nat} (h : ∀ j, j < n → f j = f2 j) (h2 : ∀ j, j < n → g j = g2 j) : upN f g x n n = upN f2 g2 x n n := upN_congr2 h h2 (Nat.le_refl n)
/-- a fit: k nodes X, with P there, over c -/
def GOK (X P : Nat → Int) (k : Nat) (c : Int) : Prop := k ≤ 4 ∧ (∀ j, j < k → -6 ≤ X j ∧ X j ≤ 6) ∧ (0 < c * vdA X k k ∧ c * vdA X k k ≤ 281474976710656) ∧ ∀ p : Nat, p < 13 → -4611686018427387904 ≤ upN X P ((p : Int) - 6) k k ∧ upN X P ((p : Int) - 6) k k ≤ 4611686018427387904
def uG (R X P : Nat → Int) (k : Nat) (c : Int) (p : Nat) : Int := nY R p * (c * vdA X k k) - upN X P ((p : Int) - 6) k k
def wG (R X : Nat → Int) (k : Nat) (c : Int) (p : Nat) : Int := qv (fun j => R (j + 1)) ((p : Int) - 6) * (c * vdA X k k)
def eUG (R X P : Nat → Int) (k : Nat) (c : Int) (p : Nat) : Int := fdU (uG R X P k c p) (wG R X k c p)
def eDG (R X P : Nat → Int) (k : Nat) (c : Int) (p : Nat) : Int := ((wG R X k c p).natAbs : Int).tdiv (Int.gcd (uG R X P k c p) (wG R X k c p) : Int)
theorem ug_bd {R X P : Nat → Int} {k : Nat} {c : Int} {p : Nat} (hR : ROK R) (hp : p < 13) (hG : GOK X P k c) : (-9223372036854775807 ≤ uG R X P k c p ∧ uG R X P k c p ≤ 9223372036854775807) ∧ (-9223372036854775807 ≤ wG R X k c p ∧ wG R X k c p ≤ 9223372036854775807) := by
  have h1 := ROK_y hR hp
  have h2 := ROK_q hR hp
  have h3 := hG.2.2.1
  have h4 := hG.2.2.2 p hp
  have h5 := mul_bd (A := 12771) (B := 281474976710656) h1.1 h1.2 (show -281474976710656 ≤ c * vdA X k k by omega) h3.2
  have h6 := mul_bd (A := 129) (B := 281474976710656) h2.1 h2.2 (show -281474976710656 ≤ c * vdA X k k by omega) h3.2
  unfold uG wG
  omega
theorem wg_ne {R X P : Nat → Int} {k : Nat} {c : Int} {p : Nat} (hq : qv (fun j => R (j + 1)) ((p : Int) - 6) ≠ 0) (hG : GOK X P k c) : wG R X k c p ≠ 0 := by
  have h3 := hG.2.2.1
  exact Int.mul_ne_zero hq (by omega)
theorem gcd_dl {a b : Int} : (Int.gcd a b : Int) ∣ a := Int.gcd_dvd_left ..
theorem gcd_dr {a b : Int} : (Int.gcd a b : Int) ∣ b := Int.gcd_dvd_right ..
theorem tdv_b {a b : Int} {B : Int} (h : -B ≤ a) (h2 : a ≤ B) (hb : 0 < b) : -B ≤ a.tdiv b ∧ a.tdiv b ≤ B := by
  have e : (a.tdiv b).natAbs = a.natAbs / b.natAbs := Int.natAbs_tdiv a b
  have e2 : a.natAbs / b.natAbs ≤ a.natAbs := Nat.div_le_self _ _
  omega
theorem eg_bd {R X P : Nat → Int} {k : Nat} {c : Int} {p : Nat} (hR : ROK R) (hp : p < 13) (hG : GOK X P k c) (hq : qv (fun j => R (j + 1)) ((p : Int) - 6) ≠ 0) : 0 < eDG R X P k c p ∧ (-9223372036854775807 ≤ eUG R X P k c p ∧ eUG R X P k c p ≤ 9223372036854775807) ∧ eDG R X P k c p ≤ 9223372036854775807 := by
  have hw := wg_ne (P := P) hq hG
  have hb := ug_bd hR hp hG
  have hg := gcd_rng0 (a := uG R X P k c p) hw
  generalize hgg : (Int.gcd (uG R X P k c p) (wG R X k c p) : Int) = g at *
  have hd : g ∣ ((wG R X k c p).natAbs : Int) := by
    rw [← hgg]
    exact Int.dvd_natAbs.mpr gcd_dr
  refine ⟨?_, ?_, ?_⟩
  · unfold eDG
    rw [hgg]
    obtain ⟨z, hz⟩ := hd
    rw [hz, Int.mul_tdiv_cancel_left _ (by omega)]
    have : 0 < g * z := by omega
    exact Int.pos_of_mul_pos_right this hg.1
  · unfold eUG fdU
    rw [hgg]
    split
    · exact tdv_b (by omega) (by omega) hg.1
    · exact tdv_b (by omega) (by omega) hg.1
  · unfold eDG
    rw [hgg]
    exact (tdv_b (B := 9223372036854775807) (by omega) (by omega) hg.1).2
def rchB (R X P : Nat → Int) (k : Nat) (c bu bd o : Int) : Nat → Bool := fun p => decide (R (p + 18) = 1 ∧ cmpV ((eUG R X P k c p).natAbs : Int) (eDG R X P k c p) bu bd = 0 ∧ (o = 0 ∨ 0 < eUG R X P k c p))
theorem bt_rch {R X P : Nat → Int} {k : Nat} {c bu bd o : Int} {p : Nat} (hp : p < 13) : bt (mk (rchB R X P k c bu bd o)) p = 1 → R (p + 18) = 1 := fun h => by
  rw [bt_mk _ hp] at h
  by_cases e : rchB R X P k c bu bd o p = true
  · simp only [rchB, decide_eq_true_eq] at e
    exact e.1
  · rw [if_neg e] at h
    cases h
def lnG (R X P : Nat → Int) (k : Nat) (c : Int) (p : Nat) : Int := sgV (eUG R X P k c p) * sgV (qv (fun j => R (j + 1)) ((p : Int) - 6)) * tauV R p
theorem lnG_b (R X P : Nat → Int) (k : Nat) (c : Int) (p : Nat) : -1 ≤ lnG R X P k c p ∧ lnG R X P k c p ≤ 1 := by
  have h1 := sgV_spec (eUG R X P k c p)
  have h2 := sgV_spec (qv (fun j => R (j + 1)) ((p : Int) - 6))
  have h3 : tauV R p = 1 ∨ tauV R p = -1 := by
    unfold tauV
    split
    · exact Or.inl rfl
    · exact Or.inr rfl
  unfold lnG
  generalize sgV (eUG R X P k c p) = a at *
  generalize sgV (qv (fun j => R (j + 1)) ((p : Int) - 6)) = b at *
  generalize tauV R p = t at *
  rcases h1 with ⟨rfl, _⟩ | ⟨rfl, _⟩ | ⟨rfl, _⟩ <;> rcases h2 with ⟨rfl, _⟩ | ⟨rfl, _⟩ | ⟨rfl, _⟩ <;> rcases h3 with rfl | rfl <;> decide
def trN (R X P : Nat → Int) (k : Nat) (c : Int) (S : Nat) : Nat → Nat × Int
  | 0 => (0, 0)
  | j + 1 => if bt S j = 1 then ((trN R X P k c S j).1 + (if lnG R X P k c j ≠ (trN R X P k c S j).2 then 1 else 0), lnG R X P k c j) else trN R X P k c S j
theorem trN_c (R X P : Nat → Int) (k : Nat) (c : Int) (S j : Nat) : (bt S j = 1 ∧ (trN R X P k c S (j + 1)).2 = lnG R X P k c j ∧ (lnG R X P k c j ≠ (trN R X P k c S j).2 ∧ (trN R X P k c S (j + 1)).1 = (trN R X P k c S j).1 + 1 ∨ lnG R X P k c j = (trN R X P k c S j).2 ∧ (trN R X P k c S (j + 1)).1 = (trN R X P k c S j).1)) ∨ (bt S j ≠ 1 ∧ (trN R X P k c S (j + 1)).2 = (trN R X P k c S j).2 ∧ (trN R X P k c S (j + 1)).1 = (trN R X P k c S j).1) := by
  rw [trN]
  generalize trN R X P k c S j = t
  by_cases h : bt S j = 1
  · rw [if_pos h]
    refine Or.inl ⟨h, rfl, ?_⟩
    by_cases h2 : lnG R X P k c j ≠ t.2
    · rw [if_pos h2]
      exact Or.inl ⟨h2, rfl⟩
    · rw [if_neg h2]
      exact Or.inr ⟨by omega, rfl⟩
  · rw [if_neg h]
    exact Or.inr ⟨h, rfl, rfl⟩
theorem trN_l (R X P : Nat → Int) (k : Nat) (c : Int) (S : Nat) : ∀ j, (trN R X P k c S j).1 ≤ j ∧ -1 ≤ (trN R X P k c S j).2 ∧ (trN R X P k c S j).2 ≤ 1
  | 0 => by
    simp only [trN]
    omega
  | j + 1 => by
    have h := trN_l R X P k c S j
    have h2 := trN_c R X P k c S j
    have h3 := lnG_b R X P k c j
    omega
/-- the level error of a reference -/
def lOf (R : Nat → Int) (s : Nat) : List Nat := plB (selB R s) 13
def aOf (R : Nat → Int) (s : Nat) : Int := lvA (lvO R (lOf R s)) (lvS R (lOf R s) (lOf R s).length) (frC R (lOf R s) (lOf R s).length)
def bOf (R : Nat → Int) (s : Nat) : Int := (lvS R (lOf R s) (lOf R s).length).tdiv (Int.gcd (lvO R (lOf R s)) (lvS R (lOf R s) (lOf R s).length) : Int)
def SOK (R : Nat → Int) (d s : Nat) : Prop := ((lOf R s).length ≤ 8 ∧ d + 1 ≤ (lOf R s).length ∧ (0 < lvS R (lOf R s) (lOf R s).length ∧ lvS R (lOf R s) (lOf R s).length ≤ 4611686018427387904) ∧ (-4611686018427387904 ≤ lvO R (lOf R s) ∧ lvO R (lOf R s) ≤ 4611686018427387904)) ∧ GOK (nfX (lOf R s)) (fpV R (lOf R s) (aOf R s) (bOf R s)) (d + 1) (bOf R s)
theorem ab_rng {R : Nat → Int} {d s : Nat} (h : SOK R d s) : (-9223372036854775807 ≤ aOf R s ∧ aOf R s ≤ 9223372036854775807) ∧ (0 < bOf R s ∧ bOf R s ≤ 9223372036854775807) := by
  have h1 := h.1.2.2.1
  have h2 := h.1.2.2.2
  have hg := gcd_rng (a := lvO R (lOf R s)) h1.1
  have hd : (Int.gcd (lvO R (lOf R s)) (lvS R (lOf R s) (lOf R s).length) : Int) ∣ lvS R (lOf R s) (lOf R s).length := gcd_dr
  unfold aOf bOf lvA
  generalize (Int.gcd (lvO R (lOf R s)) (lvS R (lOf R s) (lOf R s).length) : Int) = g at *
  refine ⟨?_, ?_, ?_⟩
  · split
    · exact tdv_b (by omega) (by omega) hg.1
    · exact tdv_b (by omega) (by omega) hg.1
  · obtain ⟨z, hz⟩ := hd
    rw [hz, Int.mul_tdiv_cancel_left _ (by omega)]
    exact Int.pos_of_mul_pos_right (show 0 < g * z by omega) hg.1
  · exact (tdv_b (B := 9223372036854775807) (by omega) (by omega) hg.1).2
theorem refV_c (R : Nat → Int) (s : Nat) : (refP R s ∧ refV R s = 1) ∨ (¬ refP R s ∧ refV R s = 0) := by
  by_cases h : refP R s
  · exact Or.inl ⟨h, refV_y h⟩
  · exact Or.inr ⟨h, refV_n h⟩
theorem refV_b (R : Nat → Int) (s : Nat) : 0 ≤ refV R s ∧ refV R s ≤ 1 := by
  rcases refV_c R s with ⟨_, h⟩ | ⟨_, h⟩ <;> omega
/-- the best so far -/
def FB (R : Nat → Int) (s : Nat) (u w : Int) (k : Nat) : Prop := (s = 0 ∧ u = 0 ∧ w = 1 ∧ ∀ t, t < k → ¬ refP R t) ∨ (s ≠ 0 ∧ s < 8192 ∧ refP R s ∧ u = ((aOf R s).natAbs : Int) ∧ w = bOf R s ∧ ∀ t, t < k → refP R t → cmpV ((aOf R t).natAbs : Int) (bOf R t) u w ≤ 0)
def FBE (R : Nat → Int) (s : Nat) : Prop := s < 8192 ∧ refP R s ∧ ∀ t, t < 8192 → refP R t → cmpV ((aOf R t).natAbs : Int) (bOf R t) ((aOf R s).natAbs : Int) (bOf R s) ≤ 0
theorem FB_0 (R : Nat → Int) : FB R 0 0 1 0 := Or.inl ⟨rfl, rfl, rfl, fun t ht => absurd ht (Nat.not_lt_zero t)⟩
theorem FB_lt {R : Nat → Int} {s : Nat} {u w : Int} {k : Nat} (h : FB R s u w k) : s < 8192 := by
  rcases h with ⟨h, _⟩ | ⟨_, h, _⟩ <;> omega
theorem FB_rng {R : Nat → Int} {d s : Nat} {u w : Int} {k : Nat} (hS : ∀ t, t < 8192 → refP R t → SOK R d t) (h : FB R s u w k) : (0 ≤ u ∧ u ≤ 9223372036854775807) ∧ (0 < w ∧ w ≤ 9223372036854775807) := by
  rcases h with ⟨_, rfl, rfl, _⟩ | ⟨_, h1, h2, rfl, rfl, _⟩
  · exact ⟨⟨by decide, by decide⟩, by decide, by decide⟩
  · have := ab_rng (hS s h1 h2)
    omega
theorem cmpV_c (a b c d : Int) : (cmpV a b c d = -1 ∧ a * d < c * b) ∨ (cmpV a b c d = 0 ∧ a * d = c * b) ∨ (cmpV a b c d = 1 ∧ c * b < a * d) := by
  unfold cmpV
  split
  · exact Or.inl ⟨rfl, by assumption⟩
  · split
    · exact Or.inr (Or.inl ⟨rfl, by assumption⟩)
    · exact Or.inr (Or.inr ⟨rfl, by omega⟩)
theorem cmpV_b (a b c d : Int) : -1 ≤ cmpV a b c d ∧ cmpV a b c d ≤ 1 := by
  have := cmpV_c a b c d
  omega
theorem frac_tr {a b c d e f : Int} (hb : 0 < b) (hd : 0 < d) (hf : 0 < f) (h1 : a * d ≤ c * b) (h2 : c * f ≤ e * d) : a * f ≤ e * b := by
  have x1 := Int.mul_le_mul_of_nonneg_right h1 (Int.le_of_lt hf)
  have x2 := Int.mul_le_mul_of_nonneg_right h2 (Int.le_of_lt hb)
  have x3 : (a * f) * d ≤ (e * b) * d := by
    have e1 : a * f * d = a * d * f := Int.mul_right_comm a f d
    have e2 : e * b * d = e * d * b := Int.mul_right_comm e b d
    have e3 : c * b * f = c * f * b := Int.mul_right_comm c b f
    omega
  exact Int.le_of_mul_le_mul_right x3 hd
theorem FB_step {R : Nat → Int} {d s k : Nat} {u w : Int} {s2 : Nat} {u2 w2 : Int} (h : FB R s u w k) (hS : ∀ t, t < 8192 → refP R t → SOK R d t) (hc : (¬ refP R k ∧ s2 = s ∧ u2 = u ∧ w2 = w) ∨ (refP R k ∧ k < 8192 ∧ (s = 0 ∨ 0 < cmpV ((aOf R k).natAbs : Int) (bOf R k) u w) ∧ s2 = k ∧ u2 = ((aOf R k).natAbs : Int) ∧ w2 = bOf R k) ∨ (refP R k ∧ s ≠ 0 ∧ cmpV ((aOf R k).natAbs : Int) (bOf R k) u w ≤ 0 ∧ s2 = s ∧ u2 = u ∧ w2 = w)) (hk : k < 8192) (h0 : ¬ refP R 0) : FB R s2 u2 w2 (k + 1) := by
  have hw := FB_rng hS h
  rcases hc with ⟨q, rfl, rfl, rfl⟩ | ⟨q, q1, q2, rfl, rfl, rfl⟩ | ⟨q, q1, q2, rfl, rfl, rfl⟩
  · rcases h with ⟨a1, a2, a3, a4⟩ | ⟨a1, a2, a3, a4, a5, a6⟩
    · exact Or.inl ⟨a1, a2, a3, ball_s a4 q⟩
    · exact Or.inr ⟨a1, a2, a3, a4, a5, ball_s a6 (fun z => absurd z q)⟩
  · have hb := ab_rng (hS s2 q1 q)
    refine Or.inr ⟨fun z => h0 (z ▸ q), q1, q, rfl, rfl, ball_s (fun t ht hr => ?_) (fun _ => by rw [cmpV, if_neg (by omega), if_pos rfl]; decide)⟩
    rcases h with ⟨a1, a2, a3, a4⟩ | ⟨a1, a2, a3, a4, a5, a6⟩
    · exact absurd hr (a4 t ht)
    · have z1 := a6 t ht hr
      have z2 := cmpV_c ((aOf R t).natAbs : Int) (bOf R t) u w
      have z3 := cmpV_c ((aOf R s2).natAbs : Int) (bOf R s2) u w
      have z4 := cmpV_c ((aOf R t).natAbs : Int) (bOf R t) ((aOf R s2).natAbs : Int) (bOf R s2)
      have z5 := frac_tr (ab_rng (hS t (by omega) hr)).2.1 hw.2.1 hb.2.1 (show ((aOf R t).natAbs : Int) * w ≤ u * bOf R t by omega) (show u * bOf R s2 ≤ ((aOf R s2).natAbs : Int) * w by omega)
      omega
  · rcases h with ⟨a1, a2, a3, a4⟩ | ⟨a1, a2, a3, a4, a5, a6⟩
    · exact absurd a1 q1
    · exact Or.inr ⟨a1, a2, a3, a4, a5, ball_s a6 (fun _ => q2)⟩
theorem FB_end {R : Nat → Int} {s : Nat} {u w : Int} (h : FB R s u w 8192) (hx : ∃ t, t < 8192 ∧ refP R t) : s < 8192 ∧ refP R s ∧ u = ((aOf R s).natAbs : Int) ∧ w = bOf R s ∧ ∀ t, t < 8192 → refP R t → cmpV ((aOf R t).natAbs : Int) (bOf R t) ((aOf R s).natAbs : Int) (bOf R s) ≤ 0 := by
  obtain ⟨t, h1, h2⟩ := hx
  rcases h with ⟨a1, a2, a3, a4⟩ | ⟨a1, a2, a3, a4, a5, a6⟩
  · exact absurd h2 (a4 t h1)
  · subst a4
    subst a5
    exact ⟨a2, a3, rfl, rfl, a6⟩
theorem ref0 {R : Nat → Int} {d : Nat} (hd : R 0 = (d : Int)) (hm : (manyN R 2 13 : Int) ≤ R 0) : ¬ refP R 0 := fun h => by
  have h1 := h.2
  have h2 : pop 0 = 0 := by decide
  omega
theorem sp_X8_goesOut {h : xH} {A : Nat → Nat} {m : Nat → Int} {r : Nat → Nat → Int} {s p : Nat} {x f_ g_ : Int} (hL : ∀ q ∈ LM A m r, h q.1 = zcE q.2) (hD : zND (LM A m r)) (hs : s < 8192) (hx : x = (p : Int) - 6) (hp : p < 13) (hf : -1 ≤ f_ ∧ f_ ≤ 1) (hg : -1 ≤ g_ ∧ g_ ≤ 1) : zEv k_X8_goesOut [za (A 0), zi (s : Int), zi x, zi f_, zi g_] h (fun v h2 => v = some (zi (goV s p f_ g_)) ∧ h2 = h) := by
  have hh : h = zov (LM A m r) h := zov_self hL
  refine zEv.body (I := (8, xI_X8_goesOut, 11, 0, 0, 0, 0, false)) (rt := (some .int)) [some (za (A 0)), some (zi (s : Int)), some (zi x), some (zi f_), some (zi g_), none, none, none, none, none, none] rfl rfl rfl rfl ?_
  refine Zn.eq rfl rfl rfl hh ?_
  have hD : zND (LM A m r) := hD
  refine Zn.seg (pc2 := 23) (ls2 := [some (za (A 0)), some (zi (s : Int)), some (zi x), some (zi f_), some (zi g_), some (zi (-4)), some (zi (-4)), some (zi (-4)), some (zi (-4)), some (zi g_), some (zi 0)]) (st2 := []) [(0, .bipush (-4)), (2, .istore 5), (4, .bipush (-4)), (6, .istore 6), (8, .bipush (-4)), (10, .istore 7), (12, .bipush (-4)), (14, .istore 8), (16, .iload 4), (18, .istore 9), (20, .iconst 0), (21, .istore 10)] (by decide +kernel) rfl ?_
  refine Zn.eq (pc2 := 23) (ls2 := [some (za (A 0)), some (zi (s : Int)), some (zi x), some (zi f_), some (zi g_), some (zi ((goS s p f_ g_ 0).1)), some (zi ((goS s p f_ g_ 0).2.1)), some (zi ((goS s p f_ g_ 0).2.2.1)), some (zi ((goS s p f_ g_ 0).2.2.2.1)), some (zi ((goS s p f_ g_ 0).2.2.2.2)), some (zi (0 : Int))]) (st2 := []) (h2 := zov (LM A m r) h) rfl rfl rfl (rfl) ?_
  have hD : zND (LM A m r) := hD
  refine xloop (P := fun i_1 => Zn (8, xI_X8_goesOut, 11, 0, 0, 0, 0, false) (some .int) 23 [some (za (A 0)), some (zi (s : Int)), some (zi x), some (zi f_), some (zi g_), some (zi ((goS s p f_ g_ i_1).1)), some (zi ((goS s p f_ g_ i_1).2.1)), some (zi ((goS s p f_ g_ i_1).2.2.1)), some (zi ((goS s p f_ g_ i_1).2.2.2.1)), some (zi ((goS s p f_ g_ i_1).2.2.2.2)), some (zi (i_1 : Int))] [] (zov (LM A m r) h) _) (13) (fun i_1 hi_2 ih_3 => ?_) ?_
  · have hi_ : i_1 < 13 := hi_2
    have hgr := goS_r (s := s) (p := p) (f := f_) (g := g_) hg i_1
    have hbl := bt_lt s i_1
    have hgc := goS_c s p f_ g_ i_1
    refine Zn.seg (pc2 := 27) (ls2 := [some (za (A 0)), some (zi (s : Int)), some (zi x), some (zi f_), some (zi g_), some (zi ((goS s p f_ g_ i_1).1)), some (zi ((goS s p f_ g_ i_1).2.1)), some (zi ((goS s p f_ g_ i_1).2.2.1)), some (zi ((goS s p f_ g_ i_1).2.2.2.1)), some (zi ((goS s p f_ g_ i_1).2.2.2.2)), some (zi (i_1 : Int))]) (st2 := [zi 13, zi (i_1 : Int)]) [(23, .iload 10), (25, .bipush 13)] (by decide +kernel) rfl ?_
    refine Zn.icmp (c := .ge) (off := 93) 120 (by decide +kernel) rfl ⟨by omega, by omega⟩ ⟨by decide, by decide⟩ (fun c_4 => absurd (show 13 ≤ (i_1 : Int) from c_4) (by omega)) (fun c_4 => ?_)
    have c_4 : ¬ (13 ≤ (i_1 : Int)) := c_4
    refine Zn.seg (pc2 := 33) (ls2 := [some (za (A 0)), some (zi (s : Int)), some (zi x), some (zi f_), some (zi g_), some (zi ((goS s p f_ g_ i_1).1)), some (zi ((goS s p f_ g_ i_1).2.1)), some (zi ((goS s p f_ g_ i_1).2.2.1)), some (zi ((goS s p f_ g_ i_1).2.2.2.1)), some (zi ((goS s p f_ g_ i_1).2.2.2.2)), some (zi (i_1 : Int))]) (st2 := [zi (i_1 : Int), zi (s : Int)]) [(30, .iload_n 1), (31, .iload 10)] (by decide +kernel) rfl ?_
    refine Zn.ishr (((s / 2 ^ i_1 : Nat) : Int)) (by decide +kernel) (zshrz (by omega) (by omega) (by omega)) ?_
    refine Zn.seg (pc2 := 35) (ls2 := [some (za (A 0)), some (zi (s : Int)), some (zi x), some (zi f_), some (zi g_), some (zi ((goS s p f_ g_ i_1).1)), some (zi ((goS s p f_ g_ i_1).2.1)), some (zi ((goS s p f_ g_ i_1).2.2.1)), some (zi ((goS s p f_ g_ i_1).2.2.2.1)), some (zi ((goS s p f_ g_ i_1).2.2.2.2)), some (zi (i_1 : Int))]) (st2 := [zi 1, zi ((s / 2 ^ i_1 : Nat) : Int)]) [(34, .iconst 1)] (by decide +kernel) rfl ?_
    refine Zn.iand ((bt s i_1 : Int)) (by decide +kernel) (zbt (by omega)) ?_
    refine Zn.seg (pc2 := 37) (ls2 := [some (za (A 0)), some (zi (s : Int)), some (zi x), some (zi f_), some (zi g_), some (zi ((goS s p f_ g_ i_1).1)), some (zi ((goS s p f_ g_ i_1).2.1)), some (zi ((goS s p f_ g_ i_1).2.2.1)), some (zi ((goS s p f_ g_ i_1).2.2.2.1)), some (zi ((goS s p f_ g_ i_1).2.2.2.2)), some (zi (i_1 : Int))]) (st2 := [zi 1, zi (bt s i_1 : Int)]) [(36, .iconst 1)] (by decide +kernel) rfl ?_
    refine Zn.icmp (c := .ne) (off := 77) 114 (by decide +kernel) rfl ⟨by omega, by omega⟩ ⟨by decide, by decide⟩ (fun c_5 => ?_) (fun c_5 => ?_)
    · have c_5 : (bt s i_1 : Int) ≠ 1 := c_5
      refine Zn.seg (pc2 := 23) (ls2 := [some (za (A 0)), some (zi (s : Int)), some (zi x), some (zi f_), some (zi g_), some (zi ((goS s p f_ g_ i_1).1)), some (zi ((goS s p f_ g_ i_1).2.1)), some (zi ((goS s p f_ g_ i_1).2.2.1)), some (zi ((goS s p f_ g_ i_1).2.2.2.1)), some (zi ((goS s p f_ g_ i_1).2.2.2.2)), some (zi ((i_1 : Int) + 1))]) (st2 := []) [(114, .iinc 10 1), (117, .goto (-94))] (by decide +kernel) rfl ?_
      exact Zn.eq rfl (zcons rfl (zcons rfl (zcons rfl (zcons rfl (zcons rfl (zcons (congrArg (fun z => some (zi z)) (by omega)) (zcons (congrArg (fun z => some (zi z)) (by omega)) (zcons (congrArg (fun z => some (zi z)) (by omega)) (zcons (congrArg (fun z => some (zi z)) (by omega)) (zcons (congrArg (fun z => some (zi z)) (by omega)) (zcons (congrArg (fun z => some (zi z)) (by omega)) rfl))))))))))) rfl (rfl) (ih_3)
    · have c_5 : ¬ ((bt s i_1 : Int) ≠ 1) := c_5
      refine Zn.seg (pc2 := 44) (ls2 := [some (za (A 0)), some (zi (s : Int)), some (zi x), some (zi f_), some (zi g_), some (zi ((goS s p f_ g_ i_1).1)), some (zi ((goS s p f_ g_ i_1).2.1)), some (zi ((goS s p f_ g_ i_1).2.2.1)), some (zi ((goS s p f_ g_ i_1).2.2.2.1)), some (zi ((goS s p f_ g_ i_1).2.2.2.2)), some (zi (i_1 : Int))]) (st2 := [zi (-4), zi ((goS s p f_ g_ i_1).1)]) [(40, .iload 5), (42, .bipush (-4))] (by decide +kernel) rfl ?_
      refine Zn.icmp (c := .ne) (off := 8) 52 (by decide +kernel) rfl ⟨by omega, by omega⟩ ⟨by decide, by decide⟩ (fun c_6 => ?_) (fun c_6 => ?_)
      · have c_6 : (goS s p f_ g_ i_1).1 ≠ (-4) := c_6
        refine Zn.seg (pc2 := 66) (ls2 := [some (za (A 0)), some (zi (s : Int)), some (zi x), some (zi f_), some (zi g_), some (zi ((goS s p f_ g_ i_1).1)), some (zi (i_1 : Int)), some (zi ((goS s p f_ g_ i_1).2.2.1)), some (zi ((goS s p f_ g_ i_1).2.2.2.1)), some (zi ((goS s p f_ g_ i_1).2.2.2.2)), some (zi (i_1 : Int))]) (st2 := [zi (x + 6), zi (i_1 : Int)]) [(52, .iload 5), (54, .istore 5), (56, .iload 10), (58, .istore 6), (60, .iload 10), (62, .iload_n 2), (63, .bipush 6), (65, .iadd)] (by decide +kernel) rfl ?_
        refine Zn.icmp (c := .ge) (off := 21) 87 (by decide +kernel) rfl ⟨by omega, by omega⟩ ⟨by omega, by omega⟩ (fun c_7 => ?_) (fun c_7 => ?_)
        · have c_7 : x + 6 ≤ (i_1 : Int) := c_7
          refine Zn.seg (pc2 := 91) (ls2 := [some (za (A 0)), some (zi (s : Int)), some (zi x), some (zi f_), some (zi g_), some (zi ((goS s p f_ g_ i_1).1)), some (zi (i_1 : Int)), some (zi ((goS s p f_ g_ i_1).2.2.1)), some (zi ((goS s p f_ g_ i_1).2.2.2.1)), some (zi ((goS s p f_ g_ i_1).2.2.2.2)), some (zi (i_1 : Int))]) (st2 := [zi (-4), zi ((goS s p f_ g_ i_1).2.2.2.1)]) [(87, .iload 8), (89, .bipush (-4))] (by decide +kernel) rfl ?_
          refine Zn.icmp (c := .ne) (off := 18) 109 (by decide +kernel) rfl ⟨by omega, by omega⟩ ⟨by decide, by decide⟩ (fun c_8 => ?_) (fun c_8 => ?_)
          · have c_8 : (goS s p f_ g_ i_1).2.2.2.1 ≠ (-4) := c_8
            refine Zn.seg (pc2 := 23) (ls2 := [some (za (A 0)), some (zi (s : Int)), some (zi x), some (zi f_), some (zi g_), some (zi ((goS s p f_ g_ i_1).1)), some (zi (i_1 : Int)), some (zi ((goS s p f_ g_ i_1).2.2.1)), some (zi ((goS s p f_ g_ i_1).2.2.2.1)), some (zi (-((goS s p f_ g_ i_1).2.2.2.2))), some (zi ((i_1 : Int) + 1))]) (st2 := []) [(109, .iload 9), (111, .ineg), (112, .istore 9), (114, .iinc 10 1), (117, .goto (-94))] (by decide +kernel) rfl ?_
            exact Zn.eq rfl (zcons rfl (zcons rfl (zcons rfl (zcons rfl (zcons rfl (zcons (congrArg (fun z => some (zi z)) (by omega)) (zcons (congrArg (fun z => some (zi z)) (by omega)) (zcons (congrArg (fun z => some (zi z)) (by omega)) (zcons (congrArg (fun z => some (zi z)) (by omega)) (zcons (congrArg (fun z => some (zi z)) (by omega)) (zcons (congrArg (fun z => some (zi z)) (by omega)) rfl))))))))))) rfl (rfl) (ih_3)
          · have c_8 : ¬ ((goS s p f_ g_ i_1).2.2.2.1 ≠ (-4)) := c_8
            refine Zn.seg (pc2 := 97) (ls2 := [some (za (A 0)), some (zi (s : Int)), some (zi x), some (zi f_), some (zi g_), some (zi ((goS s p f_ g_ i_1).1)), some (zi (i_1 : Int)), some (zi ((goS s p f_ g_ i_1).2.2.1)), some (zi ((goS s p f_ g_ i_1).2.2.2.1)), some (zi ((goS s p f_ g_ i_1).2.2.2.2)), some (zi (i_1 : Int))]) (st2 := [zi f_, zi ((goS s p f_ g_ i_1).2.2.2.2)]) [(94, .iload 9), (96, .iload_n 3)] (by decide +kernel) rfl ?_
            refine Zn.icmp (c := .ne) (off := 8) 105 (by decide +kernel) rfl ⟨by omega, by omega⟩ ⟨by omega, by omega⟩ (fun c_9 => ?_) (fun c_9 => ?_)
            · have c_9 : (goS s p f_ g_ i_1).2.2.2.2 ≠ f_ := c_9
              refine Zn.seg (pc2 := 23) (ls2 := [some (za (A 0)), some (zi (s : Int)), some (zi x), some (zi f_), some (zi g_), some (zi ((goS s p f_ g_ i_1).1)), some (zi (i_1 : Int)), some (zi ((goS s p f_ g_ i_1).2.2.1)), some (zi 13), some (zi (-((goS s p f_ g_ i_1).2.2.2.2))), some (zi ((i_1 : Int) + 1))]) (st2 := []) [(105, .bipush 13), (107, .istore 8), (109, .iload 9), (111, .ineg), (112, .istore 9), (114, .iinc 10 1), (117, .goto (-94))] (by decide +kernel) rfl ?_
              exact Zn.eq rfl (zcons rfl (zcons rfl (zcons rfl (zcons rfl (zcons rfl (zcons (congrArg (fun z => some (zi z)) (by omega)) (zcons (congrArg (fun z => some (zi z)) (by omega)) (zcons (congrArg (fun z => some (zi z)) (by omega)) (zcons (congrArg (fun z => some (zi z)) (by omega)) (zcons (congrArg (fun z => some (zi z)) (by omega)) (zcons (congrArg (fun z => some (zi z)) (by omega)) rfl))))))))))) rfl (rfl) (ih_3)
            · have c_9 : ¬ ((goS s p f_ g_ i_1).2.2.2.2 ≠ f_) := c_9
              refine Zn.seg (pc2 := 23) (ls2 := [some (za (A 0)), some (zi (s : Int)), some (zi x), some (zi f_), some (zi g_), some (zi ((goS s p f_ g_ i_1).1)), some (zi (i_1 : Int)), some (zi ((goS s p f_ g_ i_1).2.2.1)), some (zi (i_1 : Int)), some (zi (-((goS s p f_ g_ i_1).2.2.2.2))), some (zi ((i_1 : Int) + 1))]) (st2 := []) [(100, .iload 10), (102, .goto 5), (107, .istore 8), (109, .iload 9), (111, .ineg), (112, .istore 9), (114, .iinc 10 1), (117, .goto (-94))] (by decide +kernel) rfl ?_
              exact Zn.eq rfl (zcons rfl (zcons rfl (zcons rfl (zcons rfl (zcons rfl (zcons (congrArg (fun z => some (zi z)) (by omega)) (zcons (congrArg (fun z => some (zi z)) (by omega)) (zcons (congrArg (fun z => some (zi z)) (by omega)) (zcons (congrArg (fun z => some (zi z)) (by omega)) (zcons (congrArg (fun z => some (zi z)) (by omega)) (zcons (congrArg (fun z => some (zi z)) (by omega)) rfl))))))))))) rfl (rfl) (ih_3)
        · have c_7 : ¬ (x + 6 ≤ (i_1 : Int)) := c_7
          refine Zn.seg (pc2 := 72) (ls2 := [some (za (A 0)), some (zi (s : Int)), some (zi x), some (zi f_), some (zi g_), some (zi ((goS s p f_ g_ i_1).1)), some (zi (i_1 : Int)), some (zi ((goS s p f_ g_ i_1).2.2.1)), some (zi ((goS s p f_ g_ i_1).2.2.2.1)), some (zi ((goS s p f_ g_ i_1).2.2.2.2)), some (zi (i_1 : Int))]) (st2 := [zi f_, zi ((goS s p f_ g_ i_1).2.2.2.2)]) [(69, .iload 9), (71, .iload_n 3)] (by decide +kernel) rfl ?_
          refine Zn.icmp (c := .ne) (off := 8) 80 (by decide +kernel) rfl ⟨by omega, by omega⟩ ⟨by omega, by omega⟩ (fun c_10 => ?_) (fun c_10 => ?_)
          · have c_10 : (goS s p f_ g_ i_1).2.2.2.2 ≠ f_ := c_10
            refine Zn.seg (pc2 := 23) (ls2 := [some (za (A 0)), some (zi (s : Int)), some (zi x), some (zi f_), some (zi g_), some (zi ((goS s p f_ g_ i_1).1)), some (zi (i_1 : Int)), some (zi (-4)), some (zi ((goS s p f_ g_ i_1).2.2.2.1)), some (zi (-((goS s p f_ g_ i_1).2.2.2.2))), some (zi ((i_1 : Int) + 1))]) (st2 := []) [(80, .bipush (-4)), (82, .istore 7), (84, .goto 25), (109, .iload 9), (111, .ineg), (112, .istore 9), (114, .iinc 10 1), (117, .goto (-94))] (by decide +kernel) rfl ?_
            exact Zn.eq rfl (zcons rfl (zcons rfl (zcons rfl (zcons rfl (zcons rfl (zcons (congrArg (fun z => some (zi z)) (by omega)) (zcons (congrArg (fun z => some (zi z)) (by omega)) (zcons (congrArg (fun z => some (zi z)) (by omega)) (zcons (congrArg (fun z => some (zi z)) (by omega)) (zcons (congrArg (fun z => some (zi z)) (by omega)) (zcons (congrArg (fun z => some (zi z)) (by omega)) rfl))))))))))) rfl (rfl) (ih_3)
          · have c_10 : ¬ ((goS s p f_ g_ i_1).2.2.2.2 ≠ f_) := c_10
            refine Zn.seg (pc2 := 23) (ls2 := [some (za (A 0)), some (zi (s : Int)), some (zi x), some (zi f_), some (zi g_), some (zi ((goS s p f_ g_ i_1).1)), some (zi (i_1 : Int)), some (zi (i_1 : Int)), some (zi ((goS s p f_ g_ i_1).2.2.2.1)), some (zi (-((goS s p f_ g_ i_1).2.2.2.2))), some (zi ((i_1 : Int) + 1))]) (st2 := []) [(75, .iload 10), (77, .goto 5), (82, .istore 7), (84, .goto 25), (109, .iload 9), (111, .ineg), (112, .istore 9), (114, .iinc 10 1), (117, .goto (-94))] (by decide +kernel) rfl ?_
            exact Zn.eq rfl (zcons rfl (zcons rfl (zcons rfl (zcons rfl (zcons rfl (zcons (congrArg (fun z => some (zi z)) (by omega)) (zcons (congrArg (fun z => some (zi z)) (by omega)) (zcons (congrArg (fun z => some (zi z)) (by omega)) (zcons (congrArg (fun z => some (zi z)) (by omega)) (zcons (congrArg (fun z => some (zi z)) (by omega)) (zcons (congrArg (fun z => some (zi z)) (by omega)) rfl))))))))))) rfl (rfl) (ih_3)
      · have c_6 : ¬ ((goS s p f_ g_ i_1).1 ≠ (-4)) := c_6
        refine Zn.seg (pc2 := 66) (ls2 := [some (za (A 0)), some (zi (s : Int)), some (zi x), some (zi f_), some (zi g_), some (zi (i_1 : Int)), some (zi (i_1 : Int)), some (zi ((goS s p f_ g_ i_1).2.2.1)), some (zi ((goS s p f_ g_ i_1).2.2.2.1)), some (zi ((goS s p f_ g_ i_1).2.2.2.2)), some (zi (i_1 : Int))]) (st2 := [zi (x + 6), zi (i_1 : Int)]) [(47, .iload 10), (49, .goto 5), (54, .istore 5), (56, .iload 10), (58, .istore 6), (60, .iload 10), (62, .iload_n 2), (63, .bipush 6), (65, .iadd)] (by decide +kernel) rfl ?_
        refine Zn.icmp (c := .ge) (off := 21) 87 (by decide +kernel) rfl ⟨by omega, by omega⟩ ⟨by omega, by omega⟩ (fun c_11 => ?_) (fun c_11 => ?_)
        · have c_11 : x + 6 ≤ (i_1 : Int) := c_11
          refine Zn.seg (pc2 := 91) (ls2 := [some (za (A 0)), some (zi (s : Int)), some (zi x), some (zi f_), some (zi g_), some (zi (i_1 : Int)), some (zi (i_1 : Int)), some (zi ((goS s p f_ g_ i_1).2.2.1)), some (zi ((goS s p f_ g_ i_1).2.2.2.1)), some (zi ((goS s p f_ g_ i_1).2.2.2.2)), some (zi (i_1 : Int))]) (st2 := [zi (-4), zi ((goS s p f_ g_ i_1).2.2.2.1)]) [(87, .iload 8), (89, .bipush (-4))] (by decide +kernel) rfl ?_
          refine Zn.icmp (c := .ne) (off := 18) 109 (by decide +kernel) rfl ⟨by omega, by omega⟩ ⟨by decide, by decide⟩ (fun c_12 => ?_) (fun c_12 => ?_)
          · have c_12 : (goS s p f_ g_ i_1).2.2.2.1 ≠ (-4) := c_12
            refine Zn.seg (pc2 := 23) (ls2 := [some (za (A 0)), some (zi (s : Int)), some (zi x), some (zi f_), some (zi g_), some (zi (i_1 : Int)), some (zi (i_1 : Int)), some (zi ((goS s p f_ g_ i_1).2.2.1)), some (zi ((goS s p f_ g_ i_1).2.2.2.1)), some (zi (-((goS s p f_ g_ i_1).2.2.2.2))), some (zi ((i_1 : Int) + 1))]) (st2 := []) [(109, .iload 9), (111, .ineg), (112, .istore 9), (114, .iinc 10 1), (117, .goto (-94))] (by decide +kernel) rfl ?_
            exact Zn.eq rfl (zcons rfl (zcons rfl (zcons rfl (zcons rfl (zcons rfl (zcons (congrArg (fun z => some (zi z)) (by omega)) (zcons (congrArg (fun z => some (zi z)) (by omega)) (zcons (congrArg (fun z => some (zi z)) (by omega)) (zcons (congrArg (fun z => some (zi z)) (by omega)) (zcons (congrArg (fun z => some (zi z)) (by omega)) (zcons (congrArg (fun z => some (zi z)) (by omega)) rfl))))))))))) rfl (rfl) (ih_3)
          · have c_12 : ¬ ((goS s p f_ g_ i_1).2.2.2.1 ≠ (-4)) := c_12
            refine Zn.seg (pc2 := 97) (ls2 := [some (za (A 0)), some (zi (s : Int)), some (zi x), some (zi f_), some (zi g_), some (zi (i_1 : Int)), some (zi (i_1 : Int)), some (zi ((goS s p f_ g_ i_1).2.2.1)), some (zi ((goS s p f_ g_ i_1).2.2.2.1)), some (zi ((goS s p f_ g_ i_1).2.2.2.2)), some (zi (i_1 : Int))]) (st2 := [zi f_, zi ((goS s p f_ g_ i_1).2.2.2.2)]) [(94, .iload 9), (96, .iload_n 3)] (by decide +kernel) rfl ?_
            refine Zn.icmp (c := .ne) (off := 8) 105 (by decide +kernel) rfl ⟨by omega, by omega⟩ ⟨by omega, by omega⟩ (fun c_13 => ?_) (fun c_13 => ?_)
            · have c_13 : (goS s p f_ g_ i_1).2.2.2.2 ≠ f_ := c_13
              refine Zn.seg (pc2 := 23) (ls2 := [some (za (A 0)), some (zi (s : Int)), some (zi x), some (zi f_), some (zi g_), some (zi (i_1 : Int)), some (zi (i_1 : Int)), some (zi ((goS s p f_ g_ i_1).2.2.1)), some (zi 13), some (zi (-((goS s p f_ g_ i_1).2.2.2.2))), some (zi ((i_1 : Int) + 1))]) (st2 := []) [(105, .bipush 13), (107, .istore 8), (109, .iload 9), (111, .ineg), (112, .istore 9), (114, .iinc 10 1), (117, .goto (-94))] (by decide +kernel) rfl ?_
              exact Zn.eq rfl (zcons rfl (zcons rfl (zcons rfl (zcons rfl (zcons rfl (zcons (congrArg (fun z => some (zi z)) (by omega)) (zcons (congrArg (fun z => some (zi z)) (by omega)) (zcons (congrArg (fun z => some (zi z)) (by omega)) (zcons (congrArg (fun z => some (zi z)) (by omega)) (zcons (congrArg (fun z => some (zi z)) (by omega)) (zcons (congrArg (fun z => some (zi z)) (by omega)) rfl))))))))))) rfl (rfl) (ih_3)
            · have c_13 : ¬ ((goS s p f_ g_ i_1).2.2.2.2 ≠ f_) := c_13
              refine Zn.seg (pc2 := 23) (ls2 := [some (za (A 0)), some (zi (s : Int)), some (zi x), some (zi f_), some (zi g_), some (zi (i_1 : Int)), some (zi (i_1 : Int)), some (zi ((goS s p f_ g_ i_1).2.2.1)), some (zi (i_1 : Int)), some (zi (-((goS s p f_ g_ i_1).2.2.2.2))), some (zi ((i_1 : Int) + 1))]) (st2 := []) [(100, .iload 10), (102, .goto 5), (107, .istore 8), (109, .iload 9), (111, .ineg), (112, .istore 9), (114, .iinc 10 1), (117, .goto (-94))] (by decide +kernel) rfl ?_
              exact Zn.eq rfl (zcons rfl (zcons rfl (zcons rfl (zcons rfl (zcons rfl (zcons (congrArg (fun z => some (zi z)) (by omega)) (zcons (congrArg (fun z => some (zi z)) (by omega)) (zcons (congrArg (fun z => some (zi z)) (by omega)) (zcons (congrArg (fun z => some (zi z)) (by omega)) (zcons (congrArg (fun z => some (zi z)) (by omega)) (zcons (congrArg (fun z => some (zi z)) (by omega)) rfl))))))))))) rfl (rfl) (ih_3)
        · have c_11 : ¬ (x + 6 ≤ (i_1 : Int)) := c_11
          refine Zn.seg (pc2 := 72) (ls2 := [some (za (A 0)), some (zi (s : Int)), some (zi x), some (zi f_), some (zi g_), some (zi (i_1 : Int)), some (zi (i_1 : Int)), some (zi ((goS s p f_ g_ i_1).2.2.1)), some (zi ((goS s p f_ g_ i_1).2.2.2.1)), some (zi ((goS s p f_ g_ i_1).2.2.2.2)), some (zi (i_1 : Int))]) (st2 := [zi f_, zi ((goS s p f_ g_ i_1).2.2.2.2)]) [(69, .iload 9), (71, .iload_n 3)] (by decide +kernel) rfl ?_
          refine Zn.icmp (c := .ne) (off := 8) 80 (by decide +kernel) rfl ⟨by omega, by omega⟩ ⟨by omega, by omega⟩ (fun c_14 => ?_) (fun c_14 => ?_)
          · have c_14 : (goS s p f_ g_ i_1).2.2.2.2 ≠ f_ := c_14
            refine Zn.seg (pc2 := 23) (ls2 := [some (za (A 0)), some (zi (s : Int)), some (zi x), some (zi f_), some (zi g_), some (zi (i_1 : Int)), some (zi (i_1 : Int)), some (zi (-4)), some (zi ((goS s p f_ g_ i_1).2.2.2.1)), some (zi (-((goS s p f_ g_ i_1).2.2.2.2))), some (zi ((i_1 : Int) + 1))]) (st2 := []) [(80, .bipush (-4)), (82, .istore 7), (84, .goto 25), (109, .iload 9), (111, .ineg), (112, .istore 9), (114, .iinc 10 1), (117, .goto (-94))] (by decide +kernel) rfl ?_
            exact Zn.eq rfl (zcons rfl (zcons rfl (zcons rfl (zcons rfl (zcons rfl (zcons (congrArg (fun z => some (zi z)) (by omega)) (zcons (congrArg (fun z => some (zi z)) (by omega)) (zcons (congrArg (fun z => some (zi z)) (by omega)) (zcons (congrArg (fun z => some (zi z)) (by omega)) (zcons (congrArg (fun z => some (zi z)) (by omega)) (zcons (congrArg (fun z => some (zi z)) (by omega)) rfl))))))))))) rfl (rfl) (ih_3)
          · have c_14 : ¬ ((goS s p f_ g_ i_1).2.2.2.2 ≠ f_) := c_14
            refine Zn.seg (pc2 := 23) (ls2 := [some (za (A 0)), some (zi (s : Int)), some (zi x), some (zi f_), some (zi g_), some (zi (i_1 : Int)), some (zi (i_1 : Int)), some (zi (i_1 : Int)), some (zi ((goS s p f_ g_ i_1).2.2.2.1)), some (zi (-((goS s p f_ g_ i_1).2.2.2.2))), some (zi ((i_1 : Int) + 1))]) (st2 := []) [(75, .iload 10), (77, .goto 5), (82, .istore 7), (84, .goto 25), (109, .iload 9), (111, .ineg), (112, .istore 9), (114, .iinc 10 1), (117, .goto (-94))] (by decide +kernel) rfl ?_
            exact Zn.eq rfl (zcons rfl (zcons rfl (zcons rfl (zcons rfl (zcons rfl (zcons (congrArg (fun z => some (zi z)) (by omega)) (zcons (congrArg (fun z => some (zi z)) (by omega)) (zcons (congrArg (fun z => some (zi z)) (by omega)) (zcons (congrArg (fun z => some (zi z)) (by omega)) (zcons (congrArg (fun z => some (zi z)) (by omega)) (zcons (congrArg (fun z => some (zi z)) (by omega)) rfl))))))))))) rfl (rfl) (ih_3)
  · skip
    have hgr := goS_r (s := s) (p := p) (f := f_) (g := g_) hg 13
    refine Zn.seg (pc2 := 27) (ls2 := [some (za (A 0)), some (zi (s : Int)), some (zi x), some (zi f_), some (zi g_), some (zi ((goS s p f_ g_ 13).1)), some (zi ((goS s p f_ g_ 13).2.1)), some (zi ((goS s p f_ g_ 13).2.2.1)), some (zi ((goS s p f_ g_ 13).2.2.2.1)), some (zi ((goS s p f_ g_ 13).2.2.2.2)), some (zi (13 : Int))]) (st2 := [zi 13, zi (13 : Int)]) [(23, .iload 10), (25, .bipush 13)] (by decide +kernel) rfl ?_
    refine Zn.icmp (c := .ge) (off := 93) 120 (by decide +kernel) rfl ⟨by omega, by omega⟩ ⟨by decide, by decide⟩ (fun c_15 => ?_) (fun c_15 => absurd (show 13 ≤ (13 : Int) from by decide) c_15)
    have c_15 : 13 ≤ (13 : Int) := c_15
    refine Zn.seg (pc2 := 124) (ls2 := [some (za (A 0)), some (zi (s : Int)), some (zi x), some (zi f_), some (zi g_), some (zi ((goS s p f_ g_ 13).1)), some (zi ((goS s p f_ g_ 13).2.1)), some (zi ((goS s p f_ g_ 13).2.2.1)), some (zi ((goS s p f_ g_ 13).2.2.2.1)), some (zi ((goS s p f_ g_ 13).2.2.2.2)), some (zi (13 : Int))]) (st2 := [zi (-4), zi ((goS s p f_ g_ 13).2.2.1)]) [(120, .iload 7), (122, .bipush (-4))] (by decide +kernel) rfl ?_
    refine Zn.icmp (c := .eq) (off := 8) 132 (by decide +kernel) rfl ⟨by omega, by omega⟩ ⟨by decide, by decide⟩ (fun c_16 => ?_) (fun c_16 => ?_)
    · have c_16 : (goS s p f_ g_ 13).2.2.1 = (-4) := c_16
      refine Zn.seg (pc2 := 136) (ls2 := [some (za (A 0)), some (zi (s : Int)), some (zi x), some (zi f_), some (zi g_), some (zi ((goS s p f_ g_ 13).1)), some (zi ((goS s p f_ g_ 13).2.1)), some (zi ((goS s p f_ g_ 13).2.2.1)), some (zi ((goS s p f_ g_ 13).2.2.2.1)), some (zi ((goS s p f_ g_ 13).2.2.2.2)), some (zi (13 : Int))]) (st2 := [zi (-4), zi ((goS s p f_ g_ 13).2.2.2.1)]) [(132, .iload 8), (134, .bipush (-4))] (by decide +kernel) rfl ?_
      refine Zn.icmp (c := .eq) (off := 15) 151 (by decide +kernel) rfl ⟨by omega, by omega⟩ ⟨by decide, by decide⟩ (fun c_17 => ?_) (fun c_17 => ?_)
      · have c_17 : (goS s p f_ g_ 13).2.2.2.1 = (-4) := c_17
        refine Zn.seg (pc2 := 157) (ls2 := [some (za (A 0)), some (zi (s : Int)), some (zi x), some (zi f_), some (zi g_), some (zi ((goS s p f_ g_ 13).1)), some (zi ((goS s p f_ g_ 13).2.1)), some (zi ((goS s p f_ g_ 13).2.2.1)), some (zi ((goS s p f_ g_ 13).2.2.2.1)), some (zi ((goS s p f_ g_ 13).2.2.2.2)), some (zi (13 : Int))]) (st2 := [zi (x + 6), zi ((goS s p f_ g_ 13).1)]) [(151, .iload 5), (153, .iload_n 2), (154, .bipush 6), (156, .iadd)] (by decide +kernel) rfl ?_
        refine Zn.icmp (c := .le) (off := 8) 165 (by decide +kernel) rfl ⟨by omega, by omega⟩ ⟨by omega, by omega⟩ (fun c_18 => ?_) (fun c_18 => ?_)
        · have c_18 : (goS s p f_ g_ 13).1 ≤ x + 6 := c_18
          refine Zn.seg (pc2 := 167) (ls2 := [some (za (A 0)), some (zi (s : Int)), some (zi x), some (zi f_), some (zi g_), some (zi ((goS s p f_ g_ 13).1)), some (zi ((goS s p f_ g_ 13).2.1)), some (zi ((goS s p f_ g_ 13).2.2.1)), some (zi ((goS s p f_ g_ 13).2.2.2.1)), some (zi ((goS s p f_ g_ 13).2.2.2.2)), some (zi (13 : Int))]) (st2 := [zi ((goS s p f_ g_ 13).1)]) [(165, .iload 5)] (by decide +kernel) rfl ?_
          exact Zn.iret (by decide +kernel) rfl (⟨by refine congrArg some (congrArg zi ?_); rw [goV]; first | (rw [if_pos (by omega)]; done) | (rw [if_neg (by omega), if_pos (by omega)]; done) | (rw [if_neg (by omega), if_neg (by omega), if_pos (by omega)]; done) | (rw [if_neg (by omega), if_neg (by omega), if_neg (by omega)]; done), hh.symm⟩)
        · have c_18 : ¬ ((goS s p f_ g_ 13).1 ≤ x + 6) := c_18
          refine Zn.seg (pc2 := 167) (ls2 := [some (za (A 0)), some (zi (s : Int)), some (zi x), some (zi f_), some (zi g_), some (zi ((goS s p f_ g_ 13).1)), some (zi ((goS s p f_ g_ 13).2.1)), some (zi ((goS s p f_ g_ 13).2.2.1)), some (zi ((goS s p f_ g_ 13).2.2.2.1)), some (zi ((goS s p f_ g_ 13).2.2.2.2)), some (zi (13 : Int))]) (st2 := [zi ((goS s p f_ g_ 13).2.1)]) [(160, .iload 6), (162, .goto 5)] (by decide +kernel) rfl ?_
          exact Zn.iret (by decide +kernel) rfl (⟨by refine congrArg some (congrArg zi ?_); rw [goV]; first | (rw [if_pos (by omega)]; done) | (rw [if_neg (by omega), if_pos (by omega)]; done) | (rw [if_neg (by omega), if_neg (by omega), if_pos (by omega)]; done) | (rw [if_neg (by omega), if_neg (by omega), if_neg (by omega)]; done), hh.symm⟩)
      · have c_17 : ¬ ((goS s p f_ g_ 13).2.2.2.1 = (-4)) := c_17
        refine Zn.seg (pc2 := 143) (ls2 := [some (za (A 0)), some (zi (s : Int)), some (zi x), some (zi f_), some (zi g_), some (zi ((goS s p f_ g_ 13).1)), some (zi ((goS s p f_ g_ 13).2.1)), some (zi ((goS s p f_ g_ 13).2.2.1)), some (zi ((goS s p f_ g_ 13).2.2.2.1)), some (zi ((goS s p f_ g_ 13).2.2.2.2)), some (zi (13 : Int))]) (st2 := [zi 13, zi ((goS s p f_ g_ 13).2.2.2.1)]) [(139, .iload 8), (141, .bipush 13)] (by decide +kernel) rfl ?_
        refine Zn.icmp (c := .ge) (off := 8) 151 (by decide +kernel) rfl ⟨by omega, by omega⟩ ⟨by decide, by decide⟩ (fun c_19 => ?_) (fun c_19 => ?_)
        · have c_19 : 13 ≤ (goS s p f_ g_ 13).2.2.2.1 := c_19
          refine Zn.seg (pc2 := 157) (ls2 := [some (za (A 0)), some (zi (s : Int)), some (zi x), some (zi f_), some (zi g_), some (zi ((goS s p f_ g_ 13).1)), some (zi ((goS s p f_ g_ 13).2.1)), some (zi ((goS s p f_ g_ 13).2.2.1)), some (zi ((goS s p f_ g_ 13).2.2.2.1)), some (zi ((goS s p f_ g_ 13).2.2.2.2)), some (zi (13 : Int))]) (st2 := [zi (x + 6), zi ((goS s p f_ g_ 13).1)]) [(151, .iload 5), (153, .iload_n 2), (154, .bipush 6), (156, .iadd)] (by decide +kernel) rfl ?_
          refine Zn.icmp (c := .le) (off := 8) 165 (by decide +kernel) rfl ⟨by omega, by omega⟩ ⟨by omega, by omega⟩ (fun c_20 => ?_) (fun c_20 => ?_)
          · have c_20 : (goS s p f_ g_ 13).1 ≤ x + 6 := c_20
            refine Zn.seg (pc2 := 167) (ls2 := [some (za (A 0)), some (zi (s : Int)), some (zi x), some (zi f_), some (zi g_), some (zi ((goS s p f_ g_ 13).1)), some (zi ((goS s p f_ g_ 13).2.1)), some (zi ((goS s p f_ g_ 13).2.2.1)), some (zi ((goS s p f_ g_ 13).2.2.2.1)), some (zi ((goS s p f_ g_ 13).2.2.2.2)), some (zi (13 : Int))]) (st2 := [zi ((goS s p f_ g_ 13).1)]) [(165, .iload 5)] (by decide +kernel) rfl ?_
            exact Zn.iret (by decide +kernel) rfl (⟨by refine congrArg some (congrArg zi ?_); rw [goV]; first | (rw [if_pos (by omega)]; done) | (rw [if_neg (by omega), if_pos (by omega)]; done) | (rw [if_neg (by omega), if_neg (by omega), if_pos (by omega)]; done) | (rw [if_neg (by omega), if_neg (by omega), if_neg (by omega)]; done), hh.symm⟩)
          · have c_20 : ¬ ((goS s p f_ g_ 13).1 ≤ x + 6) := c_20
            refine Zn.seg (pc2 := 167) (ls2 := [some (za (A 0)), some (zi (s : Int)), some (zi x), some (zi f_), some (zi g_), some (zi ((goS s p f_ g_ 13).1)), some (zi ((goS s p f_ g_ 13).2.1)), some (zi ((goS s p f_ g_ 13).2.2.1)), some (zi ((goS s p f_ g_ 13).2.2.2.1)), some (zi ((goS s p f_ g_ 13).2.2.2.2)), some (zi (13 : Int))]) (st2 := [zi ((goS s p f_ g_ 13).2.1)]) [(160, .iload 6), (162, .goto 5)] (by decide +kernel) rfl ?_
            exact Zn.iret (by decide +kernel) rfl (⟨by refine congrArg some (congrArg zi ?_); rw [goV]; first | (rw [if_pos (by omega)]; done) | (rw [if_neg (by omega), if_pos (by omega)]; done) | (rw [if_neg (by omega), if_neg (by omega), if_pos (by omega)]; done) | (rw [if_neg (by omega), if_neg (by omega), if_neg (by omega)]; done), hh.symm⟩)
        · have c_19 : ¬ (13 ≤ (goS s p f_ g_ 13).2.2.2.1) := c_19
          refine Zn.seg (pc2 := 167) (ls2 := [some (za (A 0)), some (zi (s : Int)), some (zi x), some (zi f_), some (zi g_), some (zi ((goS s p f_ g_ 13).1)), some (zi ((goS s p f_ g_ 13).2.1)), some (zi ((goS s p f_ g_ 13).2.2.1)), some (zi ((goS s p f_ g_ 13).2.2.2.1)), some (zi ((goS s p f_ g_ 13).2.2.2.2)), some (zi (13 : Int))]) (st2 := [zi ((goS s p f_ g_ 13).2.2.2.1)]) [(146, .iload 8), (148, .goto 19)] (by decide +kernel) rfl ?_
          exact Zn.iret (by decide +kernel) rfl (⟨by refine congrArg some (congrArg zi ?_); rw [goV]; first | (rw [if_pos (by omega)]; done) | (rw [if_neg (by omega), if_pos (by omega)]; done) | (rw [if_neg (by omega), if_neg (by omega), if_pos (by omega)]; done) | (rw [if_neg (by omega), if_neg (by omega), if_neg (by omega)]; done), hh.symm⟩)
    · have c_16 : ¬ ((goS s p f_ g_ 13).2.2.1 = (-4)) := c_16
      refine Zn.seg (pc2 := 167) (ls2 := [some (za (A 0)), some (zi (s : Int)), some (zi x), some (zi f_), some (zi g_), some (zi ((goS s p f_ g_ 13).1)), some (zi ((goS s p f_ g_ 13).2.1)), some (zi ((goS s p f_ g_ 13).2.2.1)), some (zi ((goS s p f_ g_ 13).2.2.2.1)), some (zi ((goS s p f_ g_ 13).2.2.2.2)), some (zi (13 : Int))]) (st2 := [zi ((goS s p f_ g_ 13).2.2.1)]) [(127, .iload 7), (129, .goto 38)] (by decide +kernel) rfl ?_
      exact Zn.iret (by decide +kernel) rfl (⟨by refine congrArg some (congrArg zi ?_); rw [goV]; first | (rw [if_pos (by omega)]; done) | (rw [if_neg (by omega), if_pos (by omega)]; done) | (rw [if_neg (by omega), if_neg (by omega), if_pos (by omega)]; done) | (rw [if_neg (by omega), if_neg (by omega), if_neg (by omega)]; done), hh.symm⟩)
theorem sp_X8_findsErrorG {h : xH} {A : Nat → Nat} {m : Nat → Int} {r : Nat → Nat → Int} {x : Int} {p k : Nat} {c : Int} {X P : Nat → Int} (hL : ∀ q ∈ LM A m r, h q.1 = zcE q.2) (hD : zND (LM A m r)) (hx : x = (p : Int) - 6) (hp : p < 13) (hR : ROK (r 1)) (hm24 : m 24 = c) (hm : m 25 = (k : Int)) (hX : ∀ j, j < k → r 14 j = X j) (hP : ∀ j, j < k → r 15 j = P j) (hG : GOK X P k c) (hq : qv (fun j => r 1 (j + 1)) ((p : Int) - 6) ≠ 0) : zEv k_X8_findsError [za (A 0), zi x] h (fun v h2 => v = none ∧ h2 = zov (LM A (va_up (va_up m 26 (eUG (r 1) X P k c p)) 27 (eDG (r 1) X P k c p)) r) h) := by
  have hv := vdA_congr hX
  have hu := upN_congr (x := (p : Int) - 6) hX hP
  have hb := ug_bd hR hp hG
  refine sp_X8_findsError (u := uG (r 1) X P k c p) (w := wG (r 1) X k c p) hL hD hx hp hR hm hG.1 (fun j hj => by rw [hX j hj]; exact hG.2.1 j hj) ?_ ?_ ?_ ?_ ?_
  · rw [uG, nY, hm24, hv, hx, hu]
  · rw [wG, hm24, hv, hx]
  · exact hb.1
  · exact hb.2
  · exact wg_ne hq hG
set_option maxHeartbeats 1000000 in
theorem sp_X8_reached {h : xH} {A : Nat → Nat} {m : Nat → Int} {r : Nat → Nat → Int} {k : Nat} {c : Int} {bu bd o : Int} {X P : Nat → Int} (hL : ∀ q ∈ LM A m r, h q.1 = zcE q.2) (hD : zND (LM A m r)) (hR : ROK (r 1)) (hnp : ∀ p : Nat, p < 13 → 0 < r 1 (p + 18) → qv (fun j => r 1 (j + 1)) ((p : Int) - 6) ≠ 0) (hm24 : m 24 = c) (hm : m 25 = (k : Int)) (hX : ∀ j, j < k → r 14 j = X j) (hP : ∀ j, j < k → r 15 j = P j) (hG : GOK X P k c) (hbu : m 29 = bu) (hbd : m 30 = bd) (hbr : (0 ≤ bu ∧ bu ≤ 9223372036854775807) ∧ (0 < bd ∧ bd ≤ 9223372036854775807)) (ho : o = 0 ∨ o = 1) : zEv k_X8_reached [za (A 0), zi o] h (fun v h2 => ∃ e1 : Int, ∃ e2 : Int, v = some (zi (mk (rchB (r 1) X P k c bu bd o) : Int)) ∧ h2 = zov (LM A (va_up (va_up m 26 e1) 27 e2) r) h) := by
  have hh : h = zov (LM A m r) h := zov_self hL
  have hk := hR.1
  refine zEv.body (I := (8, xI_X8_reached, 4, 3, 78, 0, 0, false)) (rt := (some .int)) [some (za (A 0)), some (zi o), none, none] rfl rfl rfl rfl ?_
  refine Zn.eq rfl rfl rfl hh ?_
  have hD : zND (LM A m r) := hD
  refine Zn.seg (pc2 := 5) (ls2 := [some (za (A 0)), some (zi o), some (zi 0), some (zi (-6))]) (st2 := []) [(0, .iconst 0), (1, .istore_n 2), (2, .bipush (-6)), (4, .istore_n 3)] (by decide +kernel) rfl ?_
  refine Zn.eq (pc2 := 5) (ls2 := [some (za (A 0)), some (zi o), some (zi (mkN (rchB (r 1) X P k c bu bd o) 0 : Int)), some (zi ((0 : Int) - 6))]) (st2 := []) (h2 := zov (LM A (va_up (va_up m 26 (m 26)) 27 (m 27)) r) h) rfl (zcons rfl (zcons rfl (zcons (congrArg (fun z => some (zi z)) (by first | rfl | omega | simp)) (zcons (congrArg (fun z => some (zi z)) (by first | rfl | omega | simp)) rfl)))) rfl (by rw [va_self, va_self]) ?_
  have hD : zND (LM A (va_up (va_up m 26 (m 26)) 27 (m 27)) r) := hD
  refine xloop (P := fun i_1 => ∀ (e1 : Int), ∀ (e2 : Int), Zn (8, xI_X8_reached, 4, 3, 78, 0, 0, false) (some .int) 5 [some (za (A 0)), some (zi o), some (zi (mkN (rchB (r 1) X P k c bu bd o) i_1 : Int)), some (zi ((i_1 : Int) - 6))] [] (zov (LM A (va_up (va_up m 26 e1) 27 e2) r) h) _) (13) (fun i_1 hi_2 ih_3 e1 e2 => ?_) (fun e1 e2 => ?_) (m 26) (m 27)
  · have hi_ : i_1 < 13 := hi_2
    have hmk := mkN_lt (rchB (r 1) X P k c bu bd o) (k := i_1) (by omega)
    have hpw := pw_lt (p := i_1) (by omega)
    have hki := hk i_1 (by omega)
    have hee := eg_bd hR hi_ hG
    refine Zn.seg (pc2 := 8) (ls2 := [some (za (A 0)), some (zi o), some (zi (mkN (rchB (r 1) X P k c bu bd o) i_1 : Int)), some (zi ((i_1 : Int) - 6))]) (st2 := [zi 7, zi ((i_1 : Int) - 6)]) [(5, .iload_n 3), (6, .bipush 7)] (by decide +kernel) rfl ?_
    refine Zn.icmp (c := .ge) (off := 74) 82 (by decide +kernel) rfl ⟨by omega, by omega⟩ ⟨by decide, by decide⟩ (fun c_4 => absurd (show 7 ≤ (i_1 : Int) - 6 from c_4) (by omega)) (fun c_4 => ?_)
    have c_4 : ¬ (7 ≤ (i_1 : Int) - 6) := c_4
    refine Zn.seg (pc2 := 13) (ls2 := [some (za (A 0)), some (zi o), some (zi (mkN (rchB (r 1) X P k c bu bd o) i_1 : Int)), some (zi ((i_1 : Int) - 6))]) (st2 := [zi ((i_1 : Int) - 6), za (A 0)]) [(11, .aload_n 0), (12, .iload_n 3)] (by decide +kernel) rfl ?_
    refine Zn.call (ins := .invokevirtual 81) [za (A 0), zi ((i_1 : Int) - 6)] [] (by decide +kernel) rfl rfl rfl ⟨rfl, rfl⟩ ⟨rfl, rfl, rfl⟩ rfl (zrecvV hD (p := 0) rfl rfl rfl) (sp_X8_kind (A := A) (m := va_up (va_up m 26 e1) 27 e2) (r := r) (x := (i_1 : Int) - 6) (p := i_1) (zov_all hD) hD (by first | assumption | omega) (by first | assumption | omega)) (fun v h2 hp => ?_)
    obtain ⟨rfl, hq_5⟩ := hp
    refine Zn.eq (pc2 := 16) (ls2 := [some (za (A 0)), some (zi o), some (zi (mkN (rchB (r 1) X P k c bu bd o) i_1 : Int)), some (zi ((i_1 : Int) - 6))]) (st2 := [zi (r 1 (i_1 + 18))]) (h2 := zov (LM A (va_up (va_up m 26 e1) 27 e2) r) h) rfl rfl rfl hq_5 ?_
    have hD : zND (LM A (va_up (va_up m 26 e1) 27 e2) r) := hD
    refine Zn.seg (pc2 := 17) (ls2 := [some (za (A 0)), some (zi o), some (zi (mkN (rchB (r 1) X P k c bu bd o) i_1 : Int)), some (zi ((i_1 : Int) - 6))]) (st2 := [zi 1, zi (r 1 (i_1 + 18))]) [(16, .iconst 1)] (by decide +kernel) rfl ?_
    refine Zn.icmp (c := .ne) (off := 59) 76 (by decide +kernel) rfl ⟨by omega, by omega⟩ ⟨by decide, by decide⟩ (fun c_6 => ?_) (fun c_6 => ?_)
    · have c_6 : r 1 (i_1 + 18) ≠ 1 := c_6
      refine Zn.seg (pc2 := 5) (ls2 := [some (za (A 0)), some (zi o), some (zi (mkN (rchB (r 1) X P k c bu bd o) i_1 : Int)), some (zi ((i_1 : Int) - 6 + 1))]) (st2 := []) [(76, .iinc 3 1), (79, .goto (-74))] (by decide +kernel) rfl ?_
      exact Zn.eq rfl (zcons rfl (zcons rfl (zcons (congrArg (fun z => some (zi z)) (by first | rw [mkN_t (by simp only [rchB, decide_eq_true_eq]; omega)] | rw [mkN_f (by simp only [rchB, decide_eq_true_eq]; omega)])) (zcons (congrArg (fun z => some (zi z)) (by omega)) rfl)))) rfl (rfl) (ih_3 e1 e2)
    · have c_6 : ¬ (r 1 (i_1 + 18) ≠ 1) := c_6
      refine Zn.seg (pc2 := 22) (ls2 := [some (za (A 0)), some (zi o), some (zi (mkN (rchB (r 1) X P k c bu bd o) i_1 : Int)), some (zi ((i_1 : Int) - 6))]) (st2 := [zi ((i_1 : Int) - 6), za (A 0)]) [(20, .aload_n 0), (21, .iload_n 3)] (by decide +kernel) rfl ?_
      refine Zn.call (ins := .invokevirtual 289) [za (A 0), zi ((i_1 : Int) - 6)] [] (by decide +kernel) rfl rfl rfl ⟨rfl, rfl⟩ ⟨rfl, rfl, rfl⟩ rfl (zrecvV hD (p := 0) rfl rfl rfl) (sp_X8_findsErrorG (A := A) (m := va_up (va_up m 26 e1) 27 e2) (r := r) (x := (i_1 : Int) - 6) (p := i_1) (k := k) (c := c) (X := X) (P := P) (zov_all hD) hD (rfl) (hi_) (by first | assumption | omega) (hm24) (hm) (hX) (hP) (hG) (hnp _ hi_ (by omega))) (fun v h2 hp => ?_)
      obtain ⟨rfl, hq_7⟩ := hp
      refine Zn.eq (pc2 := 25) (ls2 := [some (za (A 0)), some (zi o), some (zi (mkN (rchB (r 1) X P k c bu bd o) i_1 : Int)), some (zi ((i_1 : Int) - 6))]) (st2 := []) (h2 := zov (LM A (va_up (va_up m 26 (eUG (r 1) X P k c i_1)) 27 (eDG (r 1) X P k c i_1)) r) h) rfl rfl rfl (hq_7.trans ((LM_over _ _ _ _ _ _).trans rfl)) ?_
      have hD : zND (LM A (va_up (va_up m 26 (eUG (r 1) X P k c i_1)) 27 (eDG (r 1) X P k c i_1)) r) := hD
      have heb := hee (hnp _ hi_ (by omega))
      refine Zn.seg (pc2 := 27) (ls2 := [some (za (A 0)), some (zi o), some (zi (mkN (rchB (r 1) X P k c bu bd o) i_1 : Int)), some (zi ((i_1 : Int) - 6))]) (st2 := [za (A 0), zi (mkN (rchB (r 1) X P k c bu bd o) i_1 : Int)]) [(25, .iload_n 2), (26, .aload_n 0)] (by decide +kernel) rfl ?_
      refine Zn.get (ix := 229) hD 0 (by decide +kernel) rfl rfl rfl ?_
      refine Zn.eq (st2 := [zj (eUG (r 1) X P k c i_1), zi (mkN (rchB (r 1) X P k c bu bd o) i_1 : Int)]) rfl rfl rfl rfl ?_
      refine Zn.call (ins := .invokestatic 192) [zj (eUG (r 1) X P k c i_1)] [zi (mkN (rchB (r 1) X P k c bu bd o) i_1 : Int)] (by decide +kernel) rfl rfl rfl ⟨rfl, rfl⟩ ⟨rfl, rfl, rfl⟩ rfl (zrecvS (by decide)) (sp_X8_plain (x := eUG (r 1) X P k c i_1) (by omega) (by omega)) (fun v h2 hp => ?_)
      obtain ⟨rfl, hq_8⟩ := hp
      refine Zn.eq (pc2 := 33) (ls2 := [some (za (A 0)), some (zi o), some (zi (mkN (rchB (r 1) X P k c bu bd o) i_1 : Int)), some (zi ((i_1 : Int) - 6))]) (st2 := [zj ((eUG (r 1) X P k c i_1).natAbs : Int), zi (mkN (rchB (r 1) X P k c bu bd o) i_1 : Int)]) (h2 := zov (LM A (va_up (va_up m 26 (eUG (r 1) X P k c i_1)) 27 (eDG (r 1) X P k c i_1)) r) h) rfl rfl rfl hq_8 ?_
      have hD : zND (LM A (va_up (va_up m 26 (eUG (r 1) X P k c i_1)) 27 (eDG (r 1) X P k c i_1)) r) := hD
      refine Zn.seg (pc2 := 34) (ls2 := [some (za (A 0)), some (zi o), some (zi (mkN (rchB (r 1) X P k c bu bd o) i_1 : Int)), some (zi ((i_1 : Int) - 6))]) (st2 := [za (A 0), zj ((eUG (r 1) X P k c i_1).natAbs : Int), zi (mkN (rchB (r 1) X P k c bu bd o) i_1 : Int)]) [(33, .aload_n 0)] (by decide +kernel) rfl ?_
      refine Zn.get (ix := 232) hD 0 (by decide +kernel) rfl rfl rfl ?_
      refine Zn.eq (st2 := [zj (eDG (r 1) X P k c i_1), zj ((eUG (r 1) X P k c i_1).natAbs : Int), zi (mkN (rchB (r 1) X P k c bu bd o) i_1 : Int)]) rfl rfl rfl rfl ?_
      refine Zn.seg (pc2 := 38) (ls2 := [some (za (A 0)), some (zi o), some (zi (mkN (rchB (r 1) X P k c bu bd o) i_1 : Int)), some (zi ((i_1 : Int) - 6))]) (st2 := [za (A 0), zj (eDG (r 1) X P k c i_1), zj ((eUG (r 1) X P k c i_1).natAbs : Int), zi (mkN (rchB (r 1) X P k c bu bd o) i_1 : Int)]) [(37, .aload_n 0)] (by decide +kernel) rfl ?_
      refine Zn.get (ix := 248) hD 0 (by decide +kernel) rfl rfl rfl ?_
      refine Zn.eq (st2 := [zj (m 29), zj (eDG (r 1) X P k c i_1), zj ((eUG (r 1) X P k c i_1).natAbs : Int), zi (mkN (rchB (r 1) X P k c bu bd o) i_1 : Int)]) rfl rfl rfl rfl ?_
      refine Zn.topj (y := bu) (congrArg zJ (hbu)) ?_
      refine Zn.seg (pc2 := 42) (ls2 := [some (za (A 0)), some (zi o), some (zi (mkN (rchB (r 1) X P k c bu bd o) i_1 : Int)), some (zi ((i_1 : Int) - 6))]) (st2 := [za (A 0), zj bu, zj (eDG (r 1) X P k c i_1), zj ((eUG (r 1) X P k c i_1).natAbs : Int), zi (mkN (rchB (r 1) X P k c bu bd o) i_1 : Int)]) [(41, .aload_n 0)] (by decide +kernel) rfl ?_
      refine Zn.get (ix := 251) hD 0 (by decide +kernel) rfl rfl rfl ?_
      refine Zn.eq (st2 := [zj (m 30), zj bu, zj (eDG (r 1) X P k c i_1), zj ((eUG (r 1) X P k c i_1).natAbs : Int), zi (mkN (rchB (r 1) X P k c bu bd o) i_1 : Int)]) rfl rfl rfl rfl ?_
      refine Zn.topj (y := bd) (congrArg zJ (hbd)) ?_
      refine Zn.call (ins := .invokestatic 257) [zj ((eUG (r 1) X P k c i_1).natAbs : Int), zj (eDG (r 1) X P k c i_1), zj bu, zj bd] [zi (mkN (rchB (r 1) X P k c bu bd o) i_1 : Int)] (by decide +kernel) rfl rfl rfl ⟨rfl, rfl⟩ ⟨rfl, rfl, rfl⟩ rfl (zrecvS (by decide)) (sp_X8_compare (x := ((eUG (r 1) X P k c i_1).natAbs : Int)) (y := eDG (r 1) X P k c i_1) (z := bu) (w := bd) (⟨by omega, by omega⟩) (⟨(hee (hnp _ hi_ (by omega))).1, by omega⟩) (hbr.1) (hbr.2)) (fun v h2 hp => ?_)
      obtain ⟨rfl, hq_9⟩ := hp
      refine Zn.eq (pc2 := 48) (ls2 := [some (za (A 0)), some (zi o), some (zi (mkN (rchB (r 1) X P k c bu bd o) i_1 : Int)), some (zi ((i_1 : Int) - 6))]) (st2 := [zi (cmpV ((eUG (r 1) X P k c i_1).natAbs : Int) (eDG (r 1) X P k c i_1) bu bd), zi (mkN (rchB (r 1) X P k c bu bd o) i_1 : Int)]) (h2 := zov (LM A (va_up (va_up m 26 (eUG (r 1) X P k c i_1)) 27 (eDG (r 1) X P k c i_1)) r) h) rfl rfl rfl hq_9 ?_
      have hD : zND (LM A (va_up (va_up m 26 (eUG (r 1) X P k c i_1)) 27 (eDG (r 1) X P k c i_1)) r) := hD
      have q_10 := cmpV_b ((eUG (r 1) X P k c i_1).natAbs : Int) (eDG (r 1) X P k c i_1) bu bd
      refine Zn.ifc (c := .ne) (off := 25) 73 (by decide +kernel) rfl ⟨by omega, by omega⟩ (fun c_11 => ?_) (fun c_11 => ?_)
      · have c_11 : cmpV ((eUG (r 1) X P k c i_1).natAbs : Int) (eDG (r 1) X P k c i_1) bu bd ≠ 0 := c_11
        refine Zn.seg (pc2 := 74) (ls2 := [some (za (A 0)), some (zi o), some (zi (mkN (rchB (r 1) X P k c bu bd o) i_1 : Int)), some (zi ((i_1 : Int) - 6))]) (st2 := [zi 0, zi (mkN (rchB (r 1) X P k c bu bd o) i_1 : Int)]) [(73, .iconst 0)] (by decide +kernel) rfl ?_
        refine Zn.ior ((mkN (rchB (r 1) X P k c bu bd o) i_1 : Int)) (by decide +kernel) (zor0 _) ?_
        refine Zn.seg (pc2 := 5) (ls2 := [some (za (A 0)), some (zi o), some (zi (mkN (rchB (r 1) X P k c bu bd o) i_1 : Int)), some (zi ((i_1 : Int) - 6 + 1))]) (st2 := []) [(75, .istore_n 2), (76, .iinc 3 1), (79, .goto (-74))] (by decide +kernel) rfl ?_
        exact Zn.eq rfl (zcons rfl (zcons rfl (zcons (congrArg (fun z => some (zi z)) (by first | rw [mkN_t (by simp only [rchB, decide_eq_true_eq]; omega)] | rw [mkN_f (by simp only [rchB, decide_eq_true_eq]; omega)])) (zcons (congrArg (fun z => some (zi z)) (by omega)) rfl)))) rfl (rfl) (ih_3 (eUG (r 1) X P k c i_1) (eDG (r 1) X P k c i_1))
      · have c_11 : ¬ (cmpV ((eUG (r 1) X P k c i_1).natAbs : Int) (eDG (r 1) X P k c i_1) bu bd ≠ 0) := c_11
        refine Zn.seg (pc2 := 52) (ls2 := [some (za (A 0)), some (zi o), some (zi (mkN (rchB (r 1) X P k c bu bd o) i_1 : Int)), some (zi ((i_1 : Int) - 6))]) (st2 := [zi o, zi (mkN (rchB (r 1) X P k c bu bd o) i_1 : Int)]) [(51, .iload_n 1)] (by decide +kernel) rfl ?_
        refine Zn.ifc (c := .eq) (off := 12) 64 (by decide +kernel) rfl ⟨by omega, by omega⟩ (fun c_12 => ?_) (fun c_12 => ?_)
        · have c_12 : o = 0 := c_12
          refine Zn.seg (pc2 := 69) (ls2 := [some (za (A 0)), some (zi o), some (zi (mkN (rchB (r 1) X P k c bu bd o) i_1 : Int)), some (zi ((i_1 : Int) - 6))]) (st2 := [zi ((i_1 : Int) - 6 + 6), zi 1, zi (mkN (rchB (r 1) X P k c bu bd o) i_1 : Int)]) [(64, .iconst 1), (65, .iload_n 3), (66, .bipush 6), (68, .iadd)] (by decide +kernel) rfl ?_
          refine Zn.ishl (((2 ^ i_1 : Nat) : Int)) (by decide +kernel) (zshl1z (by omega) (by omega)) ?_
          refine Zn.seg (pc2 := 74) (ls2 := [some (za (A 0)), some (zi o), some (zi (mkN (rchB (r 1) X P k c bu bd o) i_1 : Int)), some (zi ((i_1 : Int) - 6))]) (st2 := [zi ((2 ^ i_1 : Nat) : Int), zi (mkN (rchB (r 1) X P k c bu bd o) i_1 : Int)]) [(70, .goto 4)] (by decide +kernel) rfl ?_
          refine Zn.ior ((((mkN (rchB (r 1) X P k c bu bd o) i_1) ||| (2 ^ i_1) : Nat) : Int)) (by decide +kernel) (zor (by omega) (by omega)) ?_
          refine Zn.seg (pc2 := 5) (ls2 := [some (za (A 0)), some (zi o), some (zi (((mkN (rchB (r 1) X P k c bu bd o) i_1) ||| (2 ^ i_1) : Nat) : Int)), some (zi ((i_1 : Int) - 6 + 1))]) (st2 := []) [(75, .istore_n 2), (76, .iinc 3 1), (79, .goto (-74))] (by decide +kernel) rfl ?_
          exact Zn.eq rfl (zcons rfl (zcons rfl (zcons (congrArg (fun z => some (zi z)) (by first | rw [mkN_t (by simp only [rchB, decide_eq_true_eq]; omega)] | rw [mkN_f (by simp only [rchB, decide_eq_true_eq]; omega)])) (zcons (congrArg (fun z => some (zi z)) (by omega)) rfl)))) rfl (rfl) (ih_3 (eUG (r 1) X P k c i_1) (eDG (r 1) X P k c i_1))
        · have c_12 : ¬ (o = 0) := c_12
          refine Zn.seg (pc2 := 56) (ls2 := [some (za (A 0)), some (zi o), some (zi (mkN (rchB (r 1) X P k c bu bd o) i_1 : Int)), some (zi ((i_1 : Int) - 6))]) (st2 := [za (A 0), zi (mkN (rchB (r 1) X P k c bu bd o) i_1 : Int)]) [(55, .aload_n 0)] (by decide +kernel) rfl ?_
          refine Zn.get (ix := 229) hD 0 (by decide +kernel) rfl rfl rfl ?_
          refine Zn.eq (st2 := [zj (eUG (r 1) X P k c i_1), zi (mkN (rchB (r 1) X P k c bu bd o) i_1 : Int)]) rfl rfl rfl rfl ?_
          refine Zn.seg (pc2 := 60) (ls2 := [some (za (A 0)), some (zi o), some (zi (mkN (rchB (r 1) X P k c bu bd o) i_1 : Int)), some (zi ((i_1 : Int) - 6))]) (st2 := [zj 0, zj (eUG (r 1) X P k c i_1), zi (mkN (rchB (r 1) X P k c bu bd o) i_1 : Int)]) [(59, .lconst 0)] (by decide +kernel) rfl ?_
          refine Zn.lcmpif (c := .le) (off := (12)) 73 (by decide +kernel) (by decide +kernel) rfl ⟨by omega, by omega⟩ ⟨by decide, by decide⟩ (fun c_13 => ?_) (fun c_13 => ?_)
          · have c_13 : eUG (r 1) X P k c i_1 ≤ 0 := c_13
            refine Zn.seg (pc2 := 74) (ls2 := [some (za (A 0)), some (zi o), some (zi (mkN (rchB (r 1) X P k c bu bd o) i_1 : Int)), some (zi ((i_1 : Int) - 6))]) (st2 := [zi 0, zi (mkN (rchB (r 1) X P k c bu bd o) i_1 : Int)]) [(73, .iconst 0)] (by decide +kernel) rfl ?_
            refine Zn.ior ((mkN (rchB (r 1) X P k c bu bd o) i_1 : Int)) (by decide +kernel) (zor0 _) ?_
            refine Zn.seg (pc2 := 5) (ls2 := [some (za (A 0)), some (zi o), some (zi (mkN (rchB (r 1) X P k c bu bd o) i_1 : Int)), some (zi ((i_1 : Int) - 6 + 1))]) (st2 := []) [(75, .istore_n 2), (76, .iinc 3 1), (79, .goto (-74))] (by decide +kernel) rfl ?_
            exact Zn.eq rfl (zcons rfl (zcons rfl (zcons (congrArg (fun z => some (zi z)) (by first | rw [mkN_t (by simp only [rchB, decide_eq_true_eq]; omega)] | rw [mkN_f (by simp only [rchB, decide_eq_true_eq]; omega)])) (zcons (congrArg (fun z => some (zi z)) (by omega)) rfl)))) rfl (rfl) (ih_3 (eUG (r 1) X P k c i_1) (eDG (r 1) X P k c i_1))
          · have c_13 : ¬ (eUG (r 1) X P k c i_1 ≤ 0) := c_13
            refine Zn.seg (pc2 := 69) (ls2 := [some (za (A 0)), some (zi o), some (zi (mkN (rchB (r 1) X P k c bu bd o) i_1 : Int)), some (zi ((i_1 : Int) - 6))]) (st2 := [zi ((i_1 : Int) - 6 + 6), zi 1, zi (mkN (rchB (r 1) X P k c bu bd o) i_1 : Int)]) [(64, .iconst 1), (65, .iload_n 3), (66, .bipush 6), (68, .iadd)] (by decide +kernel) rfl ?_
            refine Zn.ishl (((2 ^ i_1 : Nat) : Int)) (by decide +kernel) (zshl1z (by omega) (by omega)) ?_
            refine Zn.seg (pc2 := 74) (ls2 := [some (za (A 0)), some (zi o), some (zi (mkN (rchB (r 1) X P k c bu bd o) i_1 : Int)), some (zi ((i_1 : Int) - 6))]) (st2 := [zi ((2 ^ i_1 : Nat) : Int), zi (mkN (rchB (r 1) X P k c bu bd o) i_1 : Int)]) [(70, .goto 4)] (by decide +kernel) rfl ?_
            refine Zn.ior ((((mkN (rchB (r 1) X P k c bu bd o) i_1) ||| (2 ^ i_1) : Nat) : Int)) (by decide +kernel) (zor (by omega) (by omega)) ?_
            refine Zn.seg (pc2 := 5) (ls2 := [some (za (A 0)), some (zi o), some (zi (((mkN (rchB (r 1) X P k c bu bd o) i_1) ||| (2 ^ i_1) : Nat) : Int)), some (zi ((i_1 : Int) - 6 + 1))]) (st2 := []) [(75, .istore_n 2), (76, .iinc 3 1), (79, .goto (-74))] (by decide +kernel) rfl ?_
            exact Zn.eq rfl (zcons rfl (zcons rfl (zcons (congrArg (fun z => some (zi z)) (by first | rw [mkN_t (by simp only [rchB, decide_eq_true_eq]; omega)] | rw [mkN_f (by simp only [rchB, decide_eq_true_eq]; omega)])) (zcons (congrArg (fun z => some (zi z)) (by omega)) rfl)))) rfl (rfl) (ih_3 (eUG (r 1) X P k c i_1) (eDG (r 1) X P k c i_1))
  · skip
    refine Zn.seg (pc2 := 8) (ls2 := [some (za (A 0)), some (zi o), some (zi (mkN (rchB (r 1) X P k c bu bd o) 13 : Int)), some (zi ((13 : Int) - 6))]) (st2 := [zi 7, zi ((13 : Int) - 6)]) [(5, .iload_n 3), (6, .bipush 7)] (by decide +kernel) rfl ?_
    refine Zn.icmp (c := .ge) (off := 74) 82 (by decide +kernel) rfl ⟨by omega, by omega⟩ ⟨by decide, by decide⟩ (fun c_14 => ?_) (fun c_14 => absurd (show 7 ≤ (13 : Int) - 6 from by decide) c_14)
    have c_14 : 7 ≤ (13 : Int) - 6 := c_14
    refine Zn.seg (pc2 := 83) (ls2 := [some (za (A 0)), some (zi o), some (zi (mkN (rchB (r 1) X P k c bu bd o) 13 : Int)), some (zi ((13 : Int) - 6))]) (st2 := [zi (mkN (rchB (r 1) X P k c bu bd o) 13 : Int)]) [(82, .iload_n 2)] (by decide +kernel) rfl ?_
    exact Zn.iret (by decide +kernel) rfl (⟨_, _, rfl, rfl⟩)
set_option maxHeartbeats 1000000 in
theorem sp_X8_turns_pos {h : xH} {A : Nat → Nat} {m : Nat → Int} {r : Nat → Nat → Int} {k : Nat} {c : Int} {bu bd : Int} {X P : Nat → Int} (hL : ∀ q ∈ LM A m r, h q.1 = zcE q.2) (hD : zND (LM A m r)) (hR : ROK (r 1)) (hnp : ∀ p : Nat, p < 13 → 0 < r 1 (p + 18) → qv (fun j => r 1 (j + 1)) ((p : Int) - 6) ≠ 0) (hm24 : m 24 = c) (hm : m 25 = (k : Int)) (hX : ∀ j, j < k → r 14 j = X j) (hP : ∀ j, j < k → r 15 j = P j) (hG : GOK X P k c) (hbu : m 29 = bu) (hbd : m 30 = bd) (hbr : (0 ≤ bu ∧ bu ≤ 9223372036854775807) ∧ (0 < bd ∧ bd ≤ 9223372036854775807)) (hb0 : 0 < bu) : zEv k_X8_turns [za (A 0)] h (fun v h2 => ∃ e1 : Int, ∃ e2 : Int, v = some (zi ((trN (r 1) X P k c (mk (rchB (r 1) X P k c bu bd 0)) 13).1 : Int)) ∧ h2 = zov (LM A (va_up (va_up m 26 e1) 27 e2) r) h) := by
  have hh : h = zov (LM A m r) h := zov_self hL
  have hk := hR.1
  refine zEv.body (I := (8, xI_X8_turns, 5, 4, 101, 0, 0, false)) (rt := (some .int)) [some (za (A 0)), none, none, none, none] rfl rfl rfl rfl ?_
  refine Zn.eq rfl rfl rfl hh ?_
  have hD : zND (LM A m r) := hD
  refine Zn.seg (pc2 := 6) (ls2 := [some (za (A 0)), some (zi 0), some (zi 0), none, none]) (st2 := [zi 0, za (A 0)]) [(0, .iconst 0), (1, .istore_n 1), (2, .iconst 0), (3, .istore_n 2), (4, .aload_n 0), (5, .iconst 0)] (by decide +kernel) rfl ?_
  refine Zn.call (ins := .invokevirtual 305) [za (A 0), zi 0] [] (by decide +kernel) rfl rfl rfl ⟨rfl, rfl⟩ ⟨rfl, rfl, rfl⟩ rfl (zrecvV hD (p := 0) rfl rfl rfl) (sp_X8_reached (A := A) (m := m) (r := r) (k := k) (c := c) (bu := bu) (bd := bd) (o := 0) (X := X) (P := P) (zov_all hD) hD (hR) (hnp) (hm24) (hm) (hX) (hP) (hG) (hbu) (hbd) (hbr) (Or.inl rfl)) (fun v h2 hp => ?_)
  obtain ⟨e1_, e2_, rfl, hq_1⟩ := hp
  refine Zn.eq (pc2 := 9) (ls2 := [some (za (A 0)), some (zi 0), some (zi 0), none, none]) (st2 := [zi (mk (rchB (r 1) X P k c bu bd 0) : Int)]) (h2 := zov (LM A (va_up (va_up m 26 e1_) 27 e2_) r) h) rfl rfl rfl (hq_1.trans (LM_over _ _ _ _ _ _)) ?_
  have hD : zND (LM A (va_up (va_up m 26 e1_) 27 e2_) r) := hD
  refine Zn.seg (pc2 := 14) (ls2 := [some (za (A 0)), some (zi 0), some (zi 0), some (zi (mk (rchB (r 1) X P k c bu bd 0) : Int)), some (zi (-6))]) (st2 := []) [(9, .istore_n 3), (10, .bipush (-6)), (12, .istore 4)] (by decide +kernel) rfl ?_
  refine Zn.eq (pc2 := 14) (ls2 := [some (za (A 0)), some (zi ((trN (r 1) X P k c (mk (rchB (r 1) X P k c bu bd 0)) 0).1 : Int)), some (zi ((trN (r 1) X P k c (mk (rchB (r 1) X P k c bu bd 0)) 0).2)), some (zi (mk (rchB (r 1) X P k c bu bd 0) : Int)), some (zi ((0 : Int) - 6))]) (st2 := []) (h2 := zov (LM A (va_up (va_up m 26 e1_) 27 e2_) r) h) rfl rfl rfl (rfl) ?_
  have hD : zND (LM A (va_up (va_up m 26 e1_) 27 e2_) r) := hD
  refine xloop (P := fun i_2 => ∀ (e1 : Int), ∀ (e2 : Int), Zn (8, xI_X8_turns, 5, 4, 101, 0, 0, false) (some .int) 14 [some (za (A 0)), some (zi ((trN (r 1) X P k c (mk (rchB (r 1) X P k c bu bd 0)) i_2).1 : Int)), some (zi ((trN (r 1) X P k c (mk (rchB (r 1) X P k c bu bd 0)) i_2).2)), some (zi (mk (rchB (r 1) X P k c bu bd 0) : Int)), some (zi ((i_2 : Int) - 6))] [] (zov (LM A (va_up (va_up m 26 e1) 27 e2) r) h) _) (13) (fun i_2 hi_3 ih_4 e1 e2 => ?_) (fun e1 e2 => ?_) e1_ e2_
  · have hi_ : i_2 < 13 := hi_3
    have hbl := bt_lt (mk (rchB (r 1) X P k c bu bd 0)) i_2
    have hmk := mk_lt (rchB (r 1) X P k c bu bd 0)
    have hki := hk i_2 (by omega)
    have hee := eg_bd hR hi_ hG
    have htc := trN_c (r 1) X P k c (mk (rchB (r 1) X P k c bu bd 0)) i_2
    have htl := trN_l (r 1) X P k c (mk (rchB (r 1) X P k c bu bd 0)) i_2
    have hlb := lnG_b (r 1) X P k c i_2
    have hbr_ := bt_rch (R := r 1) (X := X) (P := P) (k := k) (c := c) (bu := bu) (bd := bd) (o := 0) hi_
    refine Zn.seg (pc2 := 18) (ls2 := [some (za (A 0)), some (zi ((trN (r 1) X P k c (mk (rchB (r 1) X P k c bu bd 0)) i_2).1 : Int)), some (zi ((trN (r 1) X P k c (mk (rchB (r 1) X P k c bu bd 0)) i_2).2)), some (zi (mk (rchB (r 1) X P k c bu bd 0) : Int)), some (zi ((i_2 : Int) - 6))]) (st2 := [zi 7, zi ((i_2 : Int) - 6)]) [(14, .iload 4), (16, .bipush 7)] (by decide +kernel) rfl ?_
    refine Zn.icmp (c := .ge) (off := 62) 80 (by decide +kernel) rfl ⟨by omega, by omega⟩ ⟨by decide, by decide⟩ (fun c_5 => absurd (show 7 ≤ (i_2 : Int) - 6 from c_5) (by omega)) (fun c_5 => ?_)
    have c_5 : ¬ (7 ≤ (i_2 : Int) - 6) := c_5
    refine Zn.seg (pc2 := 22) (ls2 := [some (za (A 0)), some (zi ((trN (r 1) X P k c (mk (rchB (r 1) X P k c bu bd 0)) i_2).1 : Int)), some (zi ((trN (r 1) X P k c (mk (rchB (r 1) X P k c bu bd 0)) i_2).2)), some (zi (mk (rchB (r 1) X P k c bu bd 0) : Int)), some (zi ((i_2 : Int) - 6))]) (st2 := [za (A 0)]) [(21, .aload_n 0)] (by decide +kernel) rfl ?_
    refine Zn.get (ix := 248) hD 0 (by decide +kernel) rfl rfl rfl ?_
    refine Zn.eq (st2 := [zj (m 29)]) rfl rfl rfl rfl ?_
    refine Zn.topj (y := bu) (congrArg zJ (hbu)) ?_
    refine Zn.seg (pc2 := 26) (ls2 := [some (za (A 0)), some (zi ((trN (r 1) X P k c (mk (rchB (r 1) X P k c bu bd 0)) i_2).1 : Int)), some (zi ((trN (r 1) X P k c (mk (rchB (r 1) X P k c bu bd 0)) i_2).2)), some (zi (mk (rchB (r 1) X P k c bu bd 0) : Int)), some (zi ((i_2 : Int) - 6))]) (st2 := [zj 0, zj bu]) [(25, .lconst 0)] (by decide +kernel) rfl ?_
    refine Zn.lcmpif (c := .le) (off := (53)) 80 (by decide +kernel) (by decide +kernel) rfl ⟨by omega, by omega⟩ ⟨by decide, by decide⟩ (fun c_6 => absurd (show bu ≤ 0 from c_6) (by omega)) (fun c_6 => ?_)
    have c_6 : ¬ (bu ≤ 0) := c_6
    refine Zn.seg (pc2 := 36) (ls2 := [some (za (A 0)), some (zi ((trN (r 1) X P k c (mk (rchB (r 1) X P k c bu bd 0)) i_2).1 : Int)), some (zi ((trN (r 1) X P k c (mk (rchB (r 1) X P k c bu bd 0)) i_2).2)), some (zi (mk (rchB (r 1) X P k c bu bd 0) : Int)), some (zi ((i_2 : Int) - 6))]) (st2 := [zi ((i_2 : Int) - 6 + 6), zi (mk (rchB (r 1) X P k c bu bd 0) : Int)]) [(30, .iload_n 3), (31, .iload 4), (33, .bipush 6), (35, .iadd)] (by decide +kernel) rfl ?_
    refine Zn.ishr ((((mk (rchB (r 1) X P k c bu bd 0)) / 2 ^ i_2 : Nat) : Int)) (by decide +kernel) (zshrz (by omega) (by omega) (by omega)) ?_
    refine Zn.seg (pc2 := 38) (ls2 := [some (za (A 0)), some (zi ((trN (r 1) X P k c (mk (rchB (r 1) X P k c bu bd 0)) i_2).1 : Int)), some (zi ((trN (r 1) X P k c (mk (rchB (r 1) X P k c bu bd 0)) i_2).2)), some (zi (mk (rchB (r 1) X P k c bu bd 0) : Int)), some (zi ((i_2 : Int) - 6))]) (st2 := [zi 1, zi (((mk (rchB (r 1) X P k c bu bd 0)) / 2 ^ i_2 : Nat) : Int)]) [(37, .iconst 1)] (by decide +kernel) rfl ?_
    refine Zn.iand ((bt (mk (rchB (r 1) X P k c bu bd 0)) i_2 : Int)) (by decide +kernel) (zbt (by omega)) ?_
    refine Zn.seg (pc2 := 40) (ls2 := [some (za (A 0)), some (zi ((trN (r 1) X P k c (mk (rchB (r 1) X P k c bu bd 0)) i_2).1 : Int)), some (zi ((trN (r 1) X P k c (mk (rchB (r 1) X P k c bu bd 0)) i_2).2)), some (zi (mk (rchB (r 1) X P k c bu bd 0) : Int)), some (zi ((i_2 : Int) - 6))]) (st2 := [zi 1, zi (bt (mk (rchB (r 1) X P k c bu bd 0)) i_2 : Int)]) [(39, .iconst 1)] (by decide +kernel) rfl ?_
    refine Zn.icmp (c := .ne) (off := 34) 74 (by decide +kernel) rfl ⟨by omega, by omega⟩ ⟨by decide, by decide⟩ (fun c_7 => ?_) (fun c_7 => ?_)
    · have c_7 : (bt (mk (rchB (r 1) X P k c bu bd 0)) i_2 : Int) ≠ 1 := c_7
      refine Zn.seg (pc2 := 14) (ls2 := [some (za (A 0)), some (zi ((trN (r 1) X P k c (mk (rchB (r 1) X P k c bu bd 0)) i_2).1 : Int)), some (zi ((trN (r 1) X P k c (mk (rchB (r 1) X P k c bu bd 0)) i_2).2)), some (zi (mk (rchB (r 1) X P k c bu bd 0) : Int)), some (zi ((i_2 : Int) - 6 + 1))]) (st2 := []) [(74, .iinc 4 1), (77, .goto (-63))] (by decide +kernel) rfl ?_
      exact Zn.eq rfl (zcons rfl (zcons (congrArg (fun z => some (zi z)) (by omega)) (zcons (congrArg (fun z => some (zi z)) (by omega)) (zcons rfl (zcons (congrArg (fun z => some (zi z)) (by omega)) rfl))))) rfl (rfl) (ih_4 e1 e2)
    · have c_7 : ¬ ((bt (mk (rchB (r 1) X P k c bu bd 0)) i_2 : Int) ≠ 1) := c_7
      refine Zn.seg (pc2 := 46) (ls2 := [some (za (A 0)), some (zi ((trN (r 1) X P k c (mk (rchB (r 1) X P k c bu bd 0)) i_2).1 : Int)), some (zi ((trN (r 1) X P k c (mk (rchB (r 1) X P k c bu bd 0)) i_2).2)), some (zi (mk (rchB (r 1) X P k c bu bd 0) : Int)), some (zi ((i_2 : Int) - 6))]) (st2 := [zi ((i_2 : Int) - 6), za (A 0)]) [(43, .aload_n 0), (44, .iload 4)] (by decide +kernel) rfl ?_
      refine Zn.call (ins := .invokevirtual 289) [za (A 0), zi ((i_2 : Int) - 6)] [] (by decide +kernel) rfl rfl rfl ⟨rfl, rfl⟩ ⟨rfl, rfl, rfl⟩ rfl (zrecvV hD (p := 0) rfl rfl rfl) (sp_X8_findsErrorG (A := A) (m := va_up (va_up m 26 e1) 27 e2) (r := r) (x := (i_2 : Int) - 6) (p := i_2) (k := k) (c := c) (X := X) (P := P) (zov_all hD) hD (rfl) (hi_) (by first | assumption | omega) (hm24) (hm) (hX) (hP) (hG) (hnp _ hi_ (by have := hbr_ (by omega); omega))) (fun v h2 hp => ?_)
      obtain ⟨rfl, hq_8⟩ := hp
      refine Zn.eq (pc2 := 49) (ls2 := [some (za (A 0)), some (zi ((trN (r 1) X P k c (mk (rchB (r 1) X P k c bu bd 0)) i_2).1 : Int)), some (zi ((trN (r 1) X P k c (mk (rchB (r 1) X P k c bu bd 0)) i_2).2)), some (zi (mk (rchB (r 1) X P k c bu bd 0) : Int)), some (zi ((i_2 : Int) - 6))]) (st2 := []) (h2 := zov (LM A (va_up (va_up m 26 (eUG (r 1) X P k c i_2)) 27 (eDG (r 1) X P k c i_2)) r) h) rfl rfl rfl (hq_8.trans ((LM_over _ _ _ _ _ _).trans rfl)) ?_
      have hD : zND (LM A (va_up (va_up m 26 (eUG (r 1) X P k c i_2)) 27 (eDG (r 1) X P k c i_2)) r) := hD
      have heb := hee (hnp _ hi_ (by have := hbr_ (by omega); omega))
      refine Zn.seg (pc2 := 53) (ls2 := [some (za (A 0)), some (zi ((trN (r 1) X P k c (mk (rchB (r 1) X P k c bu bd 0)) i_2).1 : Int)), some (zi ((trN (r 1) X P k c (mk (rchB (r 1) X P k c bu bd 0)) i_2).2)), some (zi (mk (rchB (r 1) X P k c bu bd 0) : Int)), some (zi ((i_2 : Int) - 6))]) (st2 := [zi ((i_2 : Int) - 6), za (A 0), zi ((trN (r 1) X P k c (mk (rchB (r 1) X P k c bu bd 0)) i_2).1 : Int)]) [(49, .iload_n 1), (50, .aload_n 0), (51, .iload 4)] (by decide +kernel) rfl ?_
      refine Zn.call (ins := .invokevirtual 292) [za (A 0), zi ((i_2 : Int) - 6)] [zi ((trN (r 1) X P k c (mk (rchB (r 1) X P k c bu bd 0)) i_2).1 : Int)] (by decide +kernel) rfl rfl rfl ⟨rfl, rfl⟩ ⟨rfl, rfl, rfl⟩ rfl (zrecvV hD (p := 0) rfl rfl rfl) (sp_X8_leanAt (A := A) (m := va_up (va_up m 26 (eUG (r 1) X P k c i_2)) 27 (eDG (r 1) X P k c i_2)) (r := r) (x := (i_2 : Int) - 6) (p := i_2) (zov_all hD) hD (rfl) (hi_) (by first | assumption | omega) (⟨by show -9223372036854775808 ≤ eUG (r 1) X P k c _; omega, by show eUG (r 1) X P k c _ ≤ 9223372036854775807; omega⟩)) (fun v h2 hp => ?_)
      obtain ⟨rfl, hq_9⟩ := hp
      refine Zn.eq (pc2 := 56) (ls2 := [some (za (A 0)), some (zi ((trN (r 1) X P k c (mk (rchB (r 1) X P k c bu bd 0)) i_2).1 : Int)), some (zi ((trN (r 1) X P k c (mk (rchB (r 1) X P k c bu bd 0)) i_2).2)), some (zi (mk (rchB (r 1) X P k c bu bd 0) : Int)), some (zi ((i_2 : Int) - 6))]) (st2 := [zi (sgV ((eUG (r 1) X P k c i_2)) * sgV (qv (fun j => r 1 (j + 1)) ((i_2 : Int) - 6)) * tauV (r 1) i_2), zi ((trN (r 1) X P k c (mk (rchB (r 1) X P k c bu bd 0)) i_2).1 : Int)]) (h2 := zov (LM A (va_up (va_up m 26 (eUG (r 1) X P k c i_2)) 27 (eDG (r 1) X P k c i_2)) r) h) rfl rfl rfl hq_9 ?_
      have hD : zND (LM A (va_up (va_up m 26 (eUG (r 1) X P k c i_2)) 27 (eDG (r 1) X P k c i_2)) r) := hD
      refine Zn.topi (y := lnG (r 1) X P k c i_2) (rfl) ?_
      refine Zn.seg (pc2 := 57) (ls2 := [some (za (A 0)), some (zi ((trN (r 1) X P k c (mk (rchB (r 1) X P k c bu bd 0)) i_2).1 : Int)), some (zi ((trN (r 1) X P k c (mk (rchB (r 1) X P k c bu bd 0)) i_2).2)), some (zi (mk (rchB (r 1) X P k c bu bd 0) : Int)), some (zi ((i_2 : Int) - 6))]) (st2 := [zi ((trN (r 1) X P k c (mk (rchB (r 1) X P k c bu bd 0)) i_2).2), zi (lnG (r 1) X P k c i_2), zi ((trN (r 1) X P k c (mk (rchB (r 1) X P k c bu bd 0)) i_2).1 : Int)]) [(56, .iload_n 2)] (by decide +kernel) rfl ?_
      refine Zn.icmp (c := .eq) (off := 7) 64 (by decide +kernel) rfl ⟨by omega, by omega⟩ ⟨by omega, by omega⟩ (fun c_10 => ?_) (fun c_10 => ?_)
      · have c_10 : lnG (r 1) X P k c i_2 = (trN (r 1) X P k c (mk (rchB (r 1) X P k c bu bd 0)) i_2).2 := c_10
        refine Zn.seg (pc2 := 70) (ls2 := [some (za (A 0)), some (zi (((trN (r 1) X P k c (mk (rchB (r 1) X P k c bu bd 0)) i_2).1 : Int) + 0)), some (zi ((trN (r 1) X P k c (mk (rchB (r 1) X P k c bu bd 0)) i_2).2)), some (zi (mk (rchB (r 1) X P k c bu bd 0) : Int)), some (zi ((i_2 : Int) - 6))]) (st2 := [zi ((i_2 : Int) - 6), za (A 0)]) [(64, .iconst 0), (65, .iadd), (66, .istore_n 1), (67, .aload_n 0), (68, .iload 4)] (by decide +kernel) rfl ?_
        refine Zn.call (ins := .invokevirtual 292) [za (A 0), zi ((i_2 : Int) - 6)] [] (by decide +kernel) rfl rfl rfl ⟨rfl, rfl⟩ ⟨rfl, rfl, rfl⟩ rfl (zrecvV hD (p := 0) rfl rfl rfl) (sp_X8_leanAt (A := A) (m := va_up (va_up m 26 (eUG (r 1) X P k c i_2)) 27 (eDG (r 1) X P k c i_2)) (r := r) (x := (i_2 : Int) - 6) (p := i_2) (zov_all hD) hD (rfl) (hi_) (by first | assumption | omega) (⟨by show -9223372036854775808 ≤ eUG (r 1) X P k c _; omega, by show eUG (r 1) X P k c _ ≤ 9223372036854775807; omega⟩)) (fun v h2 hp => ?_)
        obtain ⟨rfl, hq_11⟩ := hp
        refine Zn.eq (pc2 := 73) (ls2 := [some (za (A 0)), some (zi (((trN (r 1) X P k c (mk (rchB (r 1) X P k c bu bd 0)) i_2).1 : Int) + 0)), some (zi ((trN (r 1) X P k c (mk (rchB (r 1) X P k c bu bd 0)) i_2).2)), some (zi (mk (rchB (r 1) X P k c bu bd 0) : Int)), some (zi ((i_2 : Int) - 6))]) (st2 := [zi (sgV ((eUG (r 1) X P k c i_2)) * sgV (qv (fun j => r 1 (j + 1)) ((i_2 : Int) - 6)) * tauV (r 1) i_2)]) (h2 := zov (LM A (va_up (va_up m 26 (eUG (r 1) X P k c i_2)) 27 (eDG (r 1) X P k c i_2)) r) h) rfl rfl rfl hq_11 ?_
        have hD : zND (LM A (va_up (va_up m 26 (eUG (r 1) X P k c i_2)) 27 (eDG (r 1) X P k c i_2)) r) := hD
        refine Zn.topi (y := lnG (r 1) X P k c i_2) (rfl) ?_
        refine Zn.seg (pc2 := 14) (ls2 := [some (za (A 0)), some (zi (((trN (r 1) X P k c (mk (rchB (r 1) X P k c bu bd 0)) i_2).1 : Int) + 0)), some (zi (lnG (r 1) X P k c i_2)), some (zi (mk (rchB (r 1) X P k c bu bd 0) : Int)), some (zi ((i_2 : Int) - 6 + 1))]) (st2 := []) [(73, .istore_n 2), (74, .iinc 4 1), (77, .goto (-63))] (by decide +kernel) rfl ?_
        exact Zn.eq rfl (zcons rfl (zcons (congrArg (fun z => some (zi z)) (by omega)) (zcons (congrArg (fun z => some (zi z)) (by omega)) (zcons rfl (zcons (congrArg (fun z => some (zi z)) (by omega)) rfl))))) rfl (rfl) (ih_4 (eUG (r 1) X P k c i_2) (eDG (r 1) X P k c i_2))
      · have c_10 : ¬ (lnG (r 1) X P k c i_2 = (trN (r 1) X P k c (mk (rchB (r 1) X P k c bu bd 0)) i_2).2) := c_10
        refine Zn.seg (pc2 := 70) (ls2 := [some (za (A 0)), some (zi (((trN (r 1) X P k c (mk (rchB (r 1) X P k c bu bd 0)) i_2).1 : Int) + 1)), some (zi ((trN (r 1) X P k c (mk (rchB (r 1) X P k c bu bd 0)) i_2).2)), some (zi (mk (rchB (r 1) X P k c bu bd 0) : Int)), some (zi ((i_2 : Int) - 6))]) (st2 := [zi ((i_2 : Int) - 6), za (A 0)]) [(60, .iconst 1), (61, .goto 4), (65, .iadd), (66, .istore_n 1), (67, .aload_n 0), (68, .iload 4)] (by decide +kernel) rfl ?_
        refine Zn.call (ins := .invokevirtual 292) [za (A 0), zi ((i_2 : Int) - 6)] [] (by decide +kernel) rfl rfl rfl ⟨rfl, rfl⟩ ⟨rfl, rfl, rfl⟩ rfl (zrecvV hD (p := 0) rfl rfl rfl) (sp_X8_leanAt (A := A) (m := va_up (va_up m 26 (eUG (r 1) X P k c i_2)) 27 (eDG (r 1) X P k c i_2)) (r := r) (x := (i_2 : Int) - 6) (p := i_2) (zov_all hD) hD (rfl) (hi_) (by first | assumption | omega) (⟨by show -9223372036854775808 ≤ eUG (r 1) X P k c _; omega, by show eUG (r 1) X P k c _ ≤ 9223372036854775807; omega⟩)) (fun v h2 hp => ?_)
        obtain ⟨rfl, hq_12⟩ := hp
        refine Zn.eq (pc2 := 73) (ls2 := [some (za (A 0)), some (zi (((trN (r 1) X P k c (mk (rchB (r 1) X P k c bu bd 0)) i_2).1 : Int) + 1)), some (zi ((trN (r 1) X P k c (mk (rchB (r 1) X P k c bu bd 0)) i_2).2)), some (zi (mk (rchB (r 1) X P k c bu bd 0) : Int)), some (zi ((i_2 : Int) - 6))]) (st2 := [zi (sgV ((eUG (r 1) X P k c i_2)) * sgV (qv (fun j => r 1 (j + 1)) ((i_2 : Int) - 6)) * tauV (r 1) i_2)]) (h2 := zov (LM A (va_up (va_up m 26 (eUG (r 1) X P k c i_2)) 27 (eDG (r 1) X P k c i_2)) r) h) rfl rfl rfl hq_12 ?_
        have hD : zND (LM A (va_up (va_up m 26 (eUG (r 1) X P k c i_2)) 27 (eDG (r 1) X P k c i_2)) r) := hD
        refine Zn.topi (y := lnG (r 1) X P k c i_2) (rfl) ?_
        refine Zn.seg (pc2 := 14) (ls2 := [some (za (A 0)), some (zi (((trN (r 1) X P k c (mk (rchB (r 1) X P k c bu bd 0)) i_2).1 : Int) + 1)), some (zi (lnG (r 1) X P k c i_2)), some (zi (mk (rchB (r 1) X P k c bu bd 0) : Int)), some (zi ((i_2 : Int) - 6 + 1))]) (st2 := []) [(73, .istore_n 2), (74, .iinc 4 1), (77, .goto (-63))] (by decide +kernel) rfl ?_
        exact Zn.eq rfl (zcons rfl (zcons (congrArg (fun z => some (zi z)) (by omega)) (zcons (congrArg (fun z => some (zi z)) (by omega)) (zcons rfl (zcons (congrArg (fun z => some (zi z)) (by omega)) rfl))))) rfl (rfl) (ih_4 (eUG (r 1) X P k c i_2) (eDG (r 1) X P k c i_2))
  · skip
    refine Zn.seg (pc2 := 18) (ls2 := [some (za (A 0)), some (zi ((trN (r 1) X P k c (mk (rchB (r 1) X P k c bu bd 0)) 13).1 : Int)), some (zi ((trN (r 1) X P k c (mk (rchB (r 1) X P k c bu bd 0)) 13).2)), some (zi (mk (rchB (r 1) X P k c bu bd 0) : Int)), some (zi ((13 : Int) - 6))]) (st2 := [zi 7, zi ((13 : Int) - 6)]) [(14, .iload 4), (16, .bipush 7)] (by decide +kernel) rfl ?_
    refine Zn.icmp (c := .ge) (off := 62) 80 (by decide +kernel) rfl ⟨by omega, by omega⟩ ⟨by decide, by decide⟩ (fun c_13 => ?_) (fun c_13 => absurd (show 7 ≤ (13 : Int) - 6 from by decide) c_13)
    have c_13 : 7 ≤ (13 : Int) - 6 := c_13
    refine Zn.seg (pc2 := 81) (ls2 := [some (za (A 0)), some (zi ((trN (r 1) X P k c (mk (rchB (r 1) X P k c bu bd 0)) 13).1 : Int)), some (zi ((trN (r 1) X P k c (mk (rchB (r 1) X P k c bu bd 0)) 13).2)), some (zi (mk (rchB (r 1) X P k c bu bd 0) : Int)), some (zi ((13 : Int) - 6))]) (st2 := [zi ((trN (r 1) X P k c (mk (rchB (r 1) X P k c bu bd 0)) 13).1 : Int)]) [(80, .iload_n 1)] (by decide +kernel) rfl ?_
    exact Zn.iret (by decide +kernel) rfl (⟨_, _, rfl, rfl⟩)
theorem sp_X8_turns_zero {h : xH} {A : Nat → Nat} {m : Nat → Int} {r : Nat → Nat → Int} {k : Nat} {c : Int} {bu bd : Int} {X P : Nat → Int} (hL : ∀ q ∈ LM A m r, h q.1 = zcE q.2) (hD : zND (LM A m r)) (hR : ROK (r 1)) (hnp : ∀ p : Nat, p < 13 → 0 < r 1 (p + 18) → qv (fun j => r 1 (j + 1)) ((p : Int) - 6) ≠ 0) (hm24 : m 24 = c) (hm : m 25 = (k : Int)) (hX : ∀ j, j < k → r 14 j = X j) (hP : ∀ j, j < k → r 15 j = P j) (hG : GOK X P k c) (hbu : m 29 = bu) (hbd : m 30 = bd) (hbr : (0 ≤ bu ∧ bu ≤ 9223372036854775807) ∧ (0 < bd ∧ bd ≤ 9223372036854775807)) (hb0 : bu = 0) : zEv k_X8_turns [za (A 0)] h (fun v h2 => ∃ e1 : Int, ∃ e2 : Int, v = some (zi 0) ∧ h2 = zov (LM A (va_up (va_up m 26 e1) 27 e2) r) h) := by
  have hh : h = zov (LM A m r) h := zov_self hL
  refine zEv.body (I := (8, xI_X8_turns, 5, 4, 101, 0, 0, false)) (rt := (some .int)) [some (za (A 0)), none, none, none, none] rfl rfl rfl rfl ?_
  refine Zn.eq rfl rfl rfl hh ?_
  have hD : zND (LM A m r) := hD
  refine Zn.seg (pc2 := 6) (ls2 := [some (za (A 0)), some (zi 0), some (zi 0), none, none]) (st2 := [zi 0, za (A 0)]) [(0, .iconst 0), (1, .istore_n 1), (2, .iconst 0), (3, .istore_n 2), (4, .aload_n 0), (5, .iconst 0)] (by decide +kernel) rfl ?_
  refine Zn.call (ins := .invokevirtual 305) [za (A 0), zi 0] [] (by decide +kernel) rfl rfl rfl ⟨rfl, rfl⟩ ⟨rfl, rfl, rfl⟩ rfl (zrecvV hD (p := 0) rfl rfl rfl) (sp_X8_reached (A := A) (m := m) (r := r) (k := k) (c := c) (bu := bu) (bd := bd) (o := 0) (X := X) (P := P) (zov_all hD) hD (hR) (hnp) (hm24) (hm) (hX) (hP) (hG) (hbu) (hbd) (hbr) (Or.inl rfl)) (fun v h2 hp => ?_)
  obtain ⟨e1_, e2_, rfl, hq_1⟩ := hp
  refine Zn.eq (pc2 := 9) (ls2 := [some (za (A 0)), some (zi 0), some (zi 0), none, none]) (st2 := [zi (mk (rchB (r 1) X P k c bu bd 0) : Int)]) (h2 := zov (LM A (va_up (va_up m 26 e1_) 27 e2_) r) h) rfl rfl rfl (hq_1.trans (LM_over _ _ _ _ _ _)) ?_
  have hD : zND (LM A (va_up (va_up m 26 e1_) 27 e2_) r) := hD
  refine Zn.seg (pc2 := 18) (ls2 := [some (za (A 0)), some (zi 0), some (zi 0), some (zi (mk (rchB (r 1) X P k c bu bd 0) : Int)), some (zi (-6))]) (st2 := [zi 7, zi (-6)]) [(9, .istore_n 3), (10, .bipush (-6)), (12, .istore 4), (14, .iload 4), (16, .bipush 7)] (by decide +kernel) rfl ?_
  refine Zn.icmp (c := .ge) (off := 62) 80 (by decide +kernel) rfl ⟨by decide, by decide⟩ ⟨by decide, by decide⟩ (fun c_2 => absurd (show 7 ≤ (-6 : Int) from c_2) (by decide)) (fun c_2 => ?_)
  have c_2 : ¬ (7 ≤ (-6 : Int)) := c_2
  refine Zn.seg (pc2 := 22) (ls2 := [some (za (A 0)), some (zi 0), some (zi 0), some (zi (mk (rchB (r 1) X P k c bu bd 0) : Int)), some (zi (-6))]) (st2 := [za (A 0)]) [(21, .aload_n 0)] (by decide +kernel) rfl ?_
  refine Zn.get (ix := 248) hD 0 (by decide +kernel) rfl rfl rfl ?_
  refine Zn.eq (st2 := [zj (m 29)]) rfl rfl rfl rfl ?_
  refine Zn.topj (y := bu) (congrArg zJ (hbu)) ?_
  refine Zn.seg (pc2 := 26) (ls2 := [some (za (A 0)), some (zi 0), some (zi 0), some (zi (mk (rchB (r 1) X P k c bu bd 0) : Int)), some (zi (-6))]) (st2 := [zj 0, zj bu]) [(25, .lconst 0)] (by decide +kernel) rfl ?_
  refine Zn.lcmpif (c := .le) (off := (53)) 80 (by decide +kernel) (by decide +kernel) rfl ⟨by omega, by omega⟩ ⟨by decide, by decide⟩ (fun c_3 => ?_) (fun c_3 => absurd (show bu ≤ 0 from by omega) c_3)
  have c_3 : bu ≤ 0 := c_3
  refine Zn.seg (pc2 := 81) (ls2 := [some (za (A 0)), some (zi 0), some (zi 0), some (zi (mk (rchB (r 1) X P k c bu bd 0) : Int)), some (zi (-6))]) (st2 := [zi 0]) [(80, .iload_n 1)] (by decide +kernel) rfl ?_
  exact Zn.iret (by decide +kernel) rfl (⟨_, _, rfl, rfl⟩)
set_option maxHeartbeats 2000000 in
theorem sp_X8_findsBest {h : xH} {A : Nat → Nat} {m : Nat → Int} {r : Nat → Nat → Int} {d : Nat} (hL : ∀ q ∈ LM A m r, h q.1 = zcE q.2) (hD : zND (LM A m r)) (hR : ROK (r 1)) (hd : r 1 0 = (d : Int)) (hd3 : d ≤ 3) (hS : ∀ t, t < 8192 → refP (r 1) t → SOK (r 1) d t) (hex : ∃ t, t < 8192 ∧ refP (r 1) t) : zEv k_X8_findsBest [za (A 0)] h (fun v h2 => ∃ bs : Nat, ∃ x1 : Nat → Int, ∃ x2 : Nat → Int, ∃ x3 : Nat → Int, ∃ x4 : Nat → Int, ∃ x5 : Nat → Int, v = none ∧ h2 = zov (LM A (va_up (va_up (va_up (va_up (va_up (va_up (va_up (va_up m 19 ((lOf (r 1) bs).length : Int)) 20 (aOf (r 1) bs)) 21 (bOf (r 1) bs)) 24 (bOf (r 1) bs)) 25 ((d : Int) + 1)) 28 (bs : Int)) 29 ((aOf (r 1) bs).natAbs : Int)) 30 (bOf (r 1) bs)) (va_up (va_up (va_up (va_up (va_up r 11 x1) 12 x2) 13 x3) 14 (cpF (nfX (lOf (r 1) bs)) x4 (d + 1))) 15 (cpF (fpV (r 1) (lOf (r 1) bs) (aOf (r 1) bs) (bOf (r 1) bs)) x5 (d + 1)))) h ∧ FBE (r 1) bs) := by
  have hh : h = zov (LM A m r) h := zov_self hL
  refine zEv.body (I := (8, xI_X8_findsBest, 2, 4, 104, 0, 0, false)) (rt := none) [some (za (A 0)), none] rfl rfl rfl rfl ?_
  refine Zn.eq rfl rfl rfl hh ?_
  have hD : zND (LM A m r) := hD
  refine Zn.seg (pc2 := 2) (ls2 := [some (za (A 0)), none]) (st2 := [zi 0, za (A 0)]) [(0, .aload_n 0), (1, .iconst 0)] (by decide +kernel) rfl ?_
  refine Zn.put (ix := 245) hD 0 (by decide +kernel) rfl rfl rfl rfl rfl ?_
  refine Zn.eq (h2 := zov (LM A (va_up m 28 0) r) h) rfl rfl rfl rfl ?_
  have hD : zND (LM A (va_up m 28 0) r) := hD
  refine Zn.seg (pc2 := 7) (ls2 := [some (za (A 0)), none]) (st2 := [zj 0, za (A 0)]) [(5, .aload_n 0), (6, .lconst 0)] (by decide +kernel) rfl ?_
  refine Zn.put (ix := 248) hD 0 (by decide +kernel) rfl rfl rfl rfl rfl ?_
  refine Zn.eq (h2 := zov (LM A (va_up (va_up m 28 0) 29 0) r) h) rfl rfl rfl rfl ?_
  have hD : zND (LM A (va_up (va_up m 28 0) 29 0) r) := hD
  refine Zn.seg (pc2 := 12) (ls2 := [some (za (A 0)), none]) (st2 := [zj 1, za (A 0)]) [(10, .aload_n 0), (11, .lconst 1)] (by decide +kernel) rfl ?_
  refine Zn.put (ix := 251) hD 0 (by decide +kernel) rfl rfl rfl rfl rfl ?_
  refine Zn.eq (h2 := zov (LM A (va_up (va_up (va_up m 28 0) 29 0) 30 1) r) h) rfl rfl rfl rfl ?_
  have hD : zND (LM A (va_up (va_up (va_up m 28 0) 29 0) 30 1) r) := hD
  refine Zn.seg (pc2 := 17) (ls2 := [some (za (A 0)), some (zi 0)]) (st2 := []) [(15, .iconst 0), (16, .istore_n 1)] (by decide +kernel) rfl ?_
  refine Zn.eq (pc2 := 17) (ls2 := [some (za (A 0)), some (zi (0 : Int))]) (st2 := []) (h2 := zov (LM A (va_up (va_up (va_up (va_up (va_up (va_up m 19 (m 19)) 20 (m 20)) 21 (m 21)) 28 (0 : Int)) 29 0) 30 1) (va_up (va_up (va_up r 11 (r 11)) 12 (r 12)) 13 (r 13))) h) rfl rfl rfl (by simp only [va_self] <;> rfl) ?_
  have hD : zND (LM A (va_up (va_up (va_up (va_up (va_up (va_up m 19 (m 19)) 20 (m 20)) 21 (m 21)) 28 (0 : Int)) 29 0) 30 1) (va_up (va_up (va_up r 11 (r 11)) 12 (r 12)) 13 (r 13))) := hD
  refine xloop (P := fun i_1 => ∀ (n1 : Nat → Int), ∀ (n2 : Nat → Int), ∀ (n3 : Nat → Int), ∀ (t_ : Int), ∀ (a_ : Int), ∀ (b_ : Int), ∀ (bs : Nat), ∀ (bu : Int), ∀ (bd : Int), (FB (r 1) bs bu bd i_1) → Zn (8, xI_X8_findsBest, 2, 4, 104, 0, 0, false) none 17 [some (za (A 0)), some (zi (i_1 : Int))] [] (zov (LM A (va_up (va_up (va_up (va_up (va_up (va_up m 19 t_) 20 a_) 21 b_) 28 (bs : Int)) 29 bu) 30 bd) (va_up (va_up (va_up r 11 n1) 12 n2) 13 n3)) h) _) (8192) (fun i_1 hi_2 ih_3 n1 n2 n3 t_ a_ b_ bs bu bd fa_4 => ?_) (fun n1 n2 n3 t_ a_ b_ bs bu bd fa_4 => ?_) (r 11) (r 12) (r 13) (m 19) (m 20) (m 21) 0 0 1 (FB_0 (r 1))
  · have hi_ : i_1 < 8192 := hi_2
    have hrf := refV_c (r 1) i_1
    have hrv := refV_b (r 1) i_1
    have hfb := FB_rng (d := d) hS fa_4
    have hbs := FB_lt fa_4
    have hrp : refV (r 1) i_1 ≠ 0 → refP (r 1) i_1 := fun q_ => by rcases hrf with ⟨q1, q2⟩ | ⟨q1, q2⟩; exact q1; exact absurd q2 q_
    refine Zn.seg (pc2 := 21) (ls2 := [some (za (A 0)), some (zi (i_1 : Int))]) (st2 := [zi 8192, zi (i_1 : Int)]) [(17, .iload_n 1), (18, .sipush 8192)] (by decide +kernel) rfl ?_
    refine Zn.icmp (c := .ge) (off := 78) 99 (by decide +kernel) rfl ⟨by omega, by omega⟩ ⟨by decide, by decide⟩ (fun c_5 => absurd (show 8192 ≤ (i_1 : Int) from c_5) (by omega)) (fun c_5 => ?_)
    have c_5 : ¬ (8192 ≤ (i_1 : Int)) := c_5
    refine Zn.seg (pc2 := 26) (ls2 := [some (za (A 0)), some (zi (i_1 : Int))]) (st2 := [zi (i_1 : Int), za (A 0)]) [(24, .aload_n 0), (25, .iload_n 1)] (by decide +kernel) rfl ?_
    refine Zn.call (ins := .invokevirtual 254) [za (A 0), zi (i_1 : Int)] [] (by decide +kernel) rfl rfl rfl ⟨rfl, rfl⟩ ⟨rfl, rfl, rfl⟩ rfl (zrecvV hD (p := 0) rfl rfl rfl) (sp_X8_isReference (A := A) (m := va_up (va_up (va_up (va_up (va_up (va_up m 19 t_) 20 a_) 21 b_) 28 (bs : Int)) 29 bu) 30 bd) (r := va_up (va_up (va_up r 11 n1) 12 n2) 13 n3) (s := i_1) (zov_all hD) hD (by first | assumption | omega) (by first | assumption | omega)) (fun v h2 hp => ?_)
    obtain ⟨rfl, hq_6⟩ := hp
    refine Zn.eq (pc2 := 29) (ls2 := [some (za (A 0)), some (zi (i_1 : Int))]) (st2 := [zi (refV ((r 1)) i_1)]) (h2 := zov (LM A (va_up (va_up (va_up (va_up (va_up (va_up m 19 t_) 20 a_) 21 b_) 28 (bs : Int)) 29 bu) 30 bd) (va_up (va_up (va_up r 11 n1) 12 n2) 13 n3)) h) rfl rfl rfl hq_6 ?_
    have hD : zND (LM A (va_up (va_up (va_up (va_up (va_up (va_up m 19 t_) 20 a_) 21 b_) 28 (bs : Int)) 29 bu) 30 bd) (va_up (va_up (va_up r 11 n1) 12 n2) 13 n3)) := hD
    refine Zn.ifc (c := .eq) (off := 64) 93 (by decide +kernel) rfl ⟨by omega, by omega⟩ (fun c_7 => ?_) (fun c_7 => ?_)
    · have c_7 : refV ((r 1)) i_1 = 0 := c_7
      refine Zn.seg (pc2 := 17) (ls2 := [some (za (A 0)), some (zi ((i_1 : Int) + 1))]) (st2 := []) [(93, .iinc 1 1), (96, .goto (-79))] (by decide +kernel) rfl ?_
      exact Zn.eq rfl (zcons rfl (zcons (congrArg (fun z => some (zi z)) (by omega)) rfl)) rfl (rfl) (ih_3 n1 n2 n3 t_ a_ b_ bs bu bd (FB_step fa_4 hS (by rcases hrf with ⟨q1, q2⟩ | ⟨q1, q2⟩ <;> first | (exfalso; omega) | exact Or.inl ⟨q1, rfl, rfl, rfl⟩ | exact Or.inr (Or.inl ⟨q1, hi_, by omega, rfl, rfl, rfl⟩) | exact Or.inr (Or.inr ⟨q1, by omega, by omega, rfl, rfl, rfl⟩)) hi_ (ref0 hd hR.2.2.2.2.2.1)))
    · have c_7 : ¬ (refV ((r 1)) i_1 = 0) := c_7
      refine Zn.seg (pc2 := 34) (ls2 := [some (za (A 0)), some (zi (i_1 : Int))]) (st2 := [zi (i_1 : Int), za (A 0)]) [(32, .aload_n 0), (33, .iload_n 1)] (by decide +kernel) rfl ?_
      refine Zn.call (ins := .invokevirtual 211) [za (A 0), zi (i_1 : Int)] [] (by decide +kernel) rfl rfl rfl ⟨rfl, rfl⟩ ⟨rfl, rfl, rfl⟩ rfl (zrecvV hD (p := 0) rfl rfl rfl) (sp_X8_levels (A := A) (m := va_up (va_up (va_up (va_up (va_up (va_up m 19 t_) 20 a_) 21 b_) 28 (bs : Int)) 29 bu) 30 bd) (r := va_up (va_up (va_up r 11 n1) 12 n2) 13 n3) (s := i_1) (l := (lOf (r 1) i_1)) (a := (aOf (r 1) i_1)) (b := (bOf (r 1) i_1)) (zov_all hD) hD (by first | assumption | omega) (hR) (rfl) ((hS _ hi_ (hrp (by omega))).1.1) ((hS _ hi_ (hrp (by omega))).1.2.2.1) ((hS _ hi_ (hrp (by omega))).1.2.2.2) (rfl) (rfl)) (fun v h2 hp => ?_)
      obtain ⟨rfl, hq_8⟩ := hp
      refine Zn.eq (pc2 := 37) (ls2 := [some (za (A 0)), some (zi (i_1 : Int))]) (st2 := []) (h2 := zov (LM A (va_up (va_up (va_up (va_up (va_up (va_up m 19 ((lOf (r 1) i_1).length : Int)) 20 (aOf (r 1) i_1)) 21 (bOf (r 1) i_1)) 28 (bs : Int)) 29 bu) 30 bd) (va_up (va_up (va_up r 11 (arL ((lOf (r 1) i_1).map nX) (n1))) 12 (arL ((lOf (r 1) i_1).map (nY ((r 1)))) (n2))) 13 (arL ((lOf (r 1) i_1).map (nF ((r 1)))) (n3)))) h) rfl rfl rfl (hq_8.trans ((LM_over _ _ _ _ _ _).trans rfl)) ?_
      have hD : zND (LM A (va_up (va_up (va_up (va_up (va_up (va_up m 19 ((lOf (r 1) i_1).length : Int)) 20 (aOf (r 1) i_1)) 21 (bOf (r 1) i_1)) 28 (bs : Int)) 29 bu) 30 bd) (va_up (va_up (va_up r 11 (arL ((lOf (r 1) i_1).map nX) (n1))) 12 (arL ((lOf (r 1) i_1).map (nY ((r 1)))) (n2))) 13 (arL ((lOf (r 1) i_1).map (nF ((r 1)))) (n3)))) := hD
      refine Zn.seg (pc2 := 38) (ls2 := [some (za (A 0)), some (zi (i_1 : Int))]) (st2 := [za (A 0)]) [(37, .aload_n 0)] (by decide +kernel) rfl ?_
      refine Zn.get (ix := 245) hD 0 (by decide +kernel) rfl rfl rfl ?_
      refine Zn.eq (st2 := [zi (bs : Int)]) rfl rfl rfl rfl ?_
      refine Zn.ifc (c := .eq) (off := 28) 69 (by decide +kernel) rfl ⟨by omega, by omega⟩ (fun c_9 => ?_) (fun c_9 => ?_)
      · have c_9 : (bs : Int) = 0 := c_9
        refine Zn.seg (pc2 := 71) (ls2 := [some (za (A 0)), some (zi (i_1 : Int))]) (st2 := [zi (i_1 : Int), za (A 0)]) [(69, .aload_n 0), (70, .iload_n 1)] (by decide +kernel) rfl ?_
        refine Zn.put (ix := 245) hD 0 (by decide +kernel) rfl rfl rfl rfl rfl ?_
        refine Zn.eq (h2 := zov (LM A (va_up (va_up (va_up (va_up (va_up (va_up m 19 ((lOf (r 1) i_1).length : Int)) 20 (aOf (r 1) i_1)) 21 (bOf (r 1) i_1)) 28 (i_1 : Int)) 29 bu) 30 bd) (va_up (va_up (va_up r 11 (arL ((lOf (r 1) i_1).map nX) (n1))) 12 (arL ((lOf (r 1) i_1).map (nY ((r 1)))) (n2))) 13 (arL ((lOf (r 1) i_1).map (nF ((r 1)))) (n3)))) h) rfl rfl rfl rfl ?_
        have hD : zND (LM A (va_up (va_up (va_up (va_up (va_up (va_up m 19 ((lOf (r 1) i_1).length : Int)) 20 (aOf (r 1) i_1)) 21 (bOf (r 1) i_1)) 28 (i_1 : Int)) 29 bu) 30 bd) (va_up (va_up (va_up r 11 (arL ((lOf (r 1) i_1).map nX) (n1))) 12 (arL ((lOf (r 1) i_1).map (nY ((r 1)))) (n2))) 13 (arL ((lOf (r 1) i_1).map (nF ((r 1)))) (n3)))) := hD
        refine Zn.seg (pc2 := 76) (ls2 := [some (za (A 0)), some (zi (i_1 : Int))]) (st2 := [za (A 0), za (A 0)]) [(74, .aload_n 0), (75, .aload_n 0)] (by decide +kernel) rfl ?_
        refine Zn.get (ix := 204) hD 0 (by decide +kernel) rfl rfl rfl ?_
        refine Zn.eq (st2 := [zj (aOf (r 1) i_1), za (A 0)]) rfl rfl rfl rfl ?_
        refine Zn.call (ins := .invokestatic 192) [zj (aOf (r 1) i_1)] [za (A 0)] (by decide +kernel) rfl rfl rfl ⟨rfl, rfl⟩ ⟨rfl, rfl, rfl⟩ rfl (zrecvS (by decide)) (sp_X8_plain (x := aOf (r 1) i_1) ((ab_rng (hS _ hi_ (hrp (by omega)))).1.1) ((ab_rng (hS _ hi_ (hrp (by omega)))).1.2)) (fun v h2 hp => ?_)
        obtain ⟨rfl, hq_10⟩ := hp
        refine Zn.eq (pc2 := 82) (ls2 := [some (za (A 0)), some (zi (i_1 : Int))]) (st2 := [zj ((aOf (r 1) i_1).natAbs : Int), za (A 0)]) (h2 := zov (LM A (va_up (va_up (va_up (va_up (va_up (va_up m 19 ((lOf (r 1) i_1).length : Int)) 20 (aOf (r 1) i_1)) 21 (bOf (r 1) i_1)) 28 (i_1 : Int)) 29 bu) 30 bd) (va_up (va_up (va_up r 11 (arL ((lOf (r 1) i_1).map nX) (n1))) 12 (arL ((lOf (r 1) i_1).map (nY ((r 1)))) (n2))) 13 (arL ((lOf (r 1) i_1).map (nF ((r 1)))) (n3)))) h) rfl rfl rfl hq_10 ?_
        have hD : zND (LM A (va_up (va_up (va_up (va_up (va_up (va_up m 19 ((lOf (r 1) i_1).length : Int)) 20 (aOf (r 1) i_1)) 21 (bOf (r 1) i_1)) 28 (i_1 : Int)) 29 bu) 30 bd) (va_up (va_up (va_up r 11 (arL ((lOf (r 1) i_1).map nX) (n1))) 12 (arL ((lOf (r 1) i_1).map (nY ((r 1)))) (n2))) 13 (arL ((lOf (r 1) i_1).map (nF ((r 1)))) (n3)))) := hD
        refine Zn.put (ix := 248) hD 0 (by decide +kernel) rfl rfl rfl rfl rfl ?_
        refine Zn.eq (h2 := zov (LM A (va_up (va_up (va_up (va_up (va_up (va_up m 19 ((lOf (r 1) i_1).length : Int)) 20 (aOf (r 1) i_1)) 21 (bOf (r 1) i_1)) 28 (i_1 : Int)) 29 ((aOf (r 1) i_1).natAbs : Int)) 30 bd) (va_up (va_up (va_up r 11 (arL ((lOf (r 1) i_1).map nX) (n1))) 12 (arL ((lOf (r 1) i_1).map (nY ((r 1)))) (n2))) 13 (arL ((lOf (r 1) i_1).map (nF ((r 1)))) (n3)))) h) rfl rfl rfl rfl ?_
        have hD : zND (LM A (va_up (va_up (va_up (va_up (va_up (va_up m 19 ((lOf (r 1) i_1).length : Int)) 20 (aOf (r 1) i_1)) 21 (bOf (r 1) i_1)) 28 (i_1 : Int)) 29 ((aOf (r 1) i_1).natAbs : Int)) 30 bd) (va_up (va_up (va_up r 11 (arL ((lOf (r 1) i_1).map nX) (n1))) 12 (arL ((lOf (r 1) i_1).map (nY ((r 1)))) (n2))) 13 (arL ((lOf (r 1) i_1).map (nF ((r 1)))) (n3)))) := hD
        refine Zn.seg (pc2 := 87) (ls2 := [some (za (A 0)), some (zi (i_1 : Int))]) (st2 := [za (A 0), za (A 0)]) [(85, .aload_n 0), (86, .aload_n 0)] (by decide +kernel) rfl ?_
        refine Zn.get (ix := 208) hD 0 (by decide +kernel) rfl rfl rfl ?_
        refine Zn.eq (st2 := [zj (bOf (r 1) i_1), za (A 0)]) rfl rfl rfl rfl ?_
        refine Zn.put (ix := 251) hD 0 (by decide +kernel) rfl rfl rfl rfl rfl ?_
        refine Zn.eq (h2 := zov (LM A (va_up (va_up (va_up (va_up (va_up (va_up m 19 ((lOf (r 1) i_1).length : Int)) 20 (aOf (r 1) i_1)) 21 (bOf (r 1) i_1)) 28 (i_1 : Int)) 29 ((aOf (r 1) i_1).natAbs : Int)) 30 (bOf (r 1) i_1)) (va_up (va_up (va_up r 11 (arL ((lOf (r 1) i_1).map nX) (n1))) 12 (arL ((lOf (r 1) i_1).map (nY ((r 1)))) (n2))) 13 (arL ((lOf (r 1) i_1).map (nF ((r 1)))) (n3)))) h) rfl rfl rfl rfl ?_
        have hD : zND (LM A (va_up (va_up (va_up (va_up (va_up (va_up m 19 ((lOf (r 1) i_1).length : Int)) 20 (aOf (r 1) i_1)) 21 (bOf (r 1) i_1)) 28 (i_1 : Int)) 29 ((aOf (r 1) i_1).natAbs : Int)) 30 (bOf (r 1) i_1)) (va_up (va_up (va_up r 11 (arL ((lOf (r 1) i_1).map nX) (n1))) 12 (arL ((lOf (r 1) i_1).map (nY ((r 1)))) (n2))) 13 (arL ((lOf (r 1) i_1).map (nF ((r 1)))) (n3)))) := hD
        refine Zn.seg (pc2 := 17) (ls2 := [some (za (A 0)), some (zi ((i_1 : Int) + 1))]) (st2 := []) [(93, .iinc 1 1), (96, .goto (-79))] (by decide +kernel) rfl ?_
        exact Zn.eq rfl (zcons rfl (zcons (congrArg (fun z => some (zi z)) (by omega)) rfl)) rfl (rfl) (ih_3 (arL ((lOf (r 1) i_1).map nX) (n1)) (arL ((lOf (r 1) i_1).map (nY ((r 1)))) (n2)) (arL ((lOf (r 1) i_1).map (nF ((r 1)))) (n3)) ((lOf (r 1) i_1).length : Int) (aOf (r 1) i_1) (bOf (r 1) i_1) i_1 ((aOf (r 1) i_1).natAbs : Int) (bOf (r 1) i_1) (FB_step fa_4 hS (by rcases hrf with ⟨q1, q2⟩ | ⟨q1, q2⟩ <;> first | (exfalso; omega) | exact Or.inl ⟨q1, rfl, rfl, rfl⟩ | exact Or.inr (Or.inl ⟨q1, hi_, by omega, rfl, rfl, rfl⟩) | exact Or.inr (Or.inr ⟨q1, by omega, by omega, rfl, rfl, rfl⟩)) hi_ (ref0 hd hR.2.2.2.2.2.1)))
      · have c_9 : ¬ ((bs : Int) = 0) := c_9
        refine Zn.seg (pc2 := 45) (ls2 := [some (za (A 0)), some (zi (i_1 : Int))]) (st2 := [za (A 0)]) [(44, .aload_n 0)] (by decide +kernel) rfl ?_
        refine Zn.get (ix := 204) hD 0 (by decide +kernel) rfl rfl rfl ?_
        refine Zn.eq (st2 := [zj (aOf (r 1) i_1)]) rfl rfl rfl rfl ?_
        refine Zn.call (ins := .invokestatic 192) [zj (aOf (r 1) i_1)] [] (by decide +kernel) rfl rfl rfl ⟨rfl, rfl⟩ ⟨rfl, rfl, rfl⟩ rfl (zrecvS (by decide)) (sp_X8_plain (x := aOf (r 1) i_1) ((ab_rng (hS _ hi_ (hrp (by omega)))).1.1) ((ab_rng (hS _ hi_ (hrp (by omega)))).1.2)) (fun v h2 hp => ?_)
        obtain ⟨rfl, hq_11⟩ := hp
        refine Zn.eq (pc2 := 51) (ls2 := [some (za (A 0)), some (zi (i_1 : Int))]) (st2 := [zj ((aOf (r 1) i_1).natAbs : Int)]) (h2 := zov (LM A (va_up (va_up (va_up (va_up (va_up (va_up m 19 ((lOf (r 1) i_1).length : Int)) 20 (aOf (r 1) i_1)) 21 (bOf (r 1) i_1)) 28 (bs : Int)) 29 bu) 30 bd) (va_up (va_up (va_up r 11 (arL ((lOf (r 1) i_1).map nX) (n1))) 12 (arL ((lOf (r 1) i_1).map (nY ((r 1)))) (n2))) 13 (arL ((lOf (r 1) i_1).map (nF ((r 1)))) (n3)))) h) rfl rfl rfl hq_11 ?_
        have hD : zND (LM A (va_up (va_up (va_up (va_up (va_up (va_up m 19 ((lOf (r 1) i_1).length : Int)) 20 (aOf (r 1) i_1)) 21 (bOf (r 1) i_1)) 28 (bs : Int)) 29 bu) 30 bd) (va_up (va_up (va_up r 11 (arL ((lOf (r 1) i_1).map nX) (n1))) 12 (arL ((lOf (r 1) i_1).map (nY ((r 1)))) (n2))) 13 (arL ((lOf (r 1) i_1).map (nF ((r 1)))) (n3)))) := hD
        refine Zn.seg (pc2 := 52) (ls2 := [some (za (A 0)), some (zi (i_1 : Int))]) (st2 := [za (A 0), zj ((aOf (r 1) i_1).natAbs : Int)]) [(51, .aload_n 0)] (by decide +kernel) rfl ?_
        refine Zn.get (ix := 208) hD 0 (by decide +kernel) rfl rfl rfl ?_
        refine Zn.eq (st2 := [zj (bOf (r 1) i_1), zj ((aOf (r 1) i_1).natAbs : Int)]) rfl rfl rfl rfl ?_
        refine Zn.seg (pc2 := 56) (ls2 := [some (za (A 0)), some (zi (i_1 : Int))]) (st2 := [za (A 0), zj (bOf (r 1) i_1), zj ((aOf (r 1) i_1).natAbs : Int)]) [(55, .aload_n 0)] (by decide +kernel) rfl ?_
        refine Zn.get (ix := 248) hD 0 (by decide +kernel) rfl rfl rfl ?_
        refine Zn.eq (st2 := [zj bu, zj (bOf (r 1) i_1), zj ((aOf (r 1) i_1).natAbs : Int)]) rfl rfl rfl rfl ?_
        refine Zn.seg (pc2 := 60) (ls2 := [some (za (A 0)), some (zi (i_1 : Int))]) (st2 := [za (A 0), zj bu, zj (bOf (r 1) i_1), zj ((aOf (r 1) i_1).natAbs : Int)]) [(59, .aload_n 0)] (by decide +kernel) rfl ?_
        refine Zn.get (ix := 251) hD 0 (by decide +kernel) rfl rfl rfl ?_
        refine Zn.eq (st2 := [zj bd, zj bu, zj (bOf (r 1) i_1), zj ((aOf (r 1) i_1).natAbs : Int)]) rfl rfl rfl rfl ?_
        refine Zn.call (ins := .invokestatic 257) [zj ((aOf (r 1) i_1).natAbs : Int), zj (bOf (r 1) i_1), zj bu, zj bd] [] (by decide +kernel) rfl rfl rfl ⟨rfl, rfl⟩ ⟨rfl, rfl, rfl⟩ rfl (zrecvS (by decide)) (sp_X8_compare (x := ((aOf (r 1) i_1).natAbs : Int)) (y := bOf (r 1) i_1) (z := bu) (w := bd) (⟨by omega, by have := ab_rng (hS _ hi_ (hrp (by omega))); omega⟩) ((ab_rng (hS _ hi_ (hrp (by omega)))).2) (hfb.1) (hfb.2)) (fun v h2 hp => ?_)
        obtain ⟨rfl, hq_12⟩ := hp
        refine Zn.eq (pc2 := 66) (ls2 := [some (za (A 0)), some (zi (i_1 : Int))]) (st2 := [zi (cmpV ((aOf (r 1) i_1).natAbs : Int) (bOf (r 1) i_1) bu bd)]) (h2 := zov (LM A (va_up (va_up (va_up (va_up (va_up (va_up m 19 ((lOf (r 1) i_1).length : Int)) 20 (aOf (r 1) i_1)) 21 (bOf (r 1) i_1)) 28 (bs : Int)) 29 bu) 30 bd) (va_up (va_up (va_up r 11 (arL ((lOf (r 1) i_1).map nX) (n1))) 12 (arL ((lOf (r 1) i_1).map (nY ((r 1)))) (n2))) 13 (arL ((lOf (r 1) i_1).map (nF ((r 1)))) (n3)))) h) rfl rfl rfl hq_12 ?_
        have hD : zND (LM A (va_up (va_up (va_up (va_up (va_up (va_up m 19 ((lOf (r 1) i_1).length : Int)) 20 (aOf (r 1) i_1)) 21 (bOf (r 1) i_1)) 28 (bs : Int)) 29 bu) 30 bd) (va_up (va_up (va_up r 11 (arL ((lOf (r 1) i_1).map nX) (n1))) 12 (arL ((lOf (r 1) i_1).map (nY ((r 1)))) (n2))) 13 (arL ((lOf (r 1) i_1).map (nF ((r 1)))) (n3)))) := hD
        have q_13 := cmpV_b ((aOf (r 1) i_1).natAbs : Int) (bOf (r 1) i_1) bu bd
        refine Zn.ifc (c := .le) (off := 27) 93 (by decide +kernel) rfl ⟨by omega, by omega⟩ (fun c_14 => ?_) (fun c_14 => ?_)
        · have c_14 : cmpV ((aOf (r 1) i_1).natAbs : Int) (bOf (r 1) i_1) bu bd ≤ 0 := c_14
          refine Zn.seg (pc2 := 17) (ls2 := [some (za (A 0)), some (zi ((i_1 : Int) + 1))]) (st2 := []) [(93, .iinc 1 1), (96, .goto (-79))] (by decide +kernel) rfl ?_
          exact Zn.eq rfl (zcons rfl (zcons (congrArg (fun z => some (zi z)) (by omega)) rfl)) rfl (rfl) (ih_3 (arL ((lOf (r 1) i_1).map nX) (n1)) (arL ((lOf (r 1) i_1).map (nY ((r 1)))) (n2)) (arL ((lOf (r 1) i_1).map (nF ((r 1)))) (n3)) ((lOf (r 1) i_1).length : Int) (aOf (r 1) i_1) (bOf (r 1) i_1) bs bu bd (FB_step fa_4 hS (by rcases hrf with ⟨q1, q2⟩ | ⟨q1, q2⟩ <;> first | (exfalso; omega) | exact Or.inl ⟨q1, rfl, rfl, rfl⟩ | exact Or.inr (Or.inl ⟨q1, hi_, by omega, rfl, rfl, rfl⟩) | exact Or.inr (Or.inr ⟨q1, by omega, by omega, rfl, rfl, rfl⟩)) hi_ (ref0 hd hR.2.2.2.2.2.1)))
        · have c_14 : ¬ (cmpV ((aOf (r 1) i_1).natAbs : Int) (bOf (r 1) i_1) bu bd ≤ 0) := c_14
          refine Zn.seg (pc2 := 71) (ls2 := [some (za (A 0)), some (zi (i_1 : Int))]) (st2 := [zi (i_1 : Int), za (A 0)]) [(69, .aload_n 0), (70, .iload_n 1)] (by decide +kernel) rfl ?_
          refine Zn.put (ix := 245) hD 0 (by decide +kernel) rfl rfl rfl rfl rfl ?_
          refine Zn.eq (h2 := zov (LM A (va_up (va_up (va_up (va_up (va_up (va_up m 19 ((lOf (r 1) i_1).length : Int)) 20 (aOf (r 1) i_1)) 21 (bOf (r 1) i_1)) 28 (i_1 : Int)) 29 bu) 30 bd) (va_up (va_up (va_up r 11 (arL ((lOf (r 1) i_1).map nX) (n1))) 12 (arL ((lOf (r 1) i_1).map (nY ((r 1)))) (n2))) 13 (arL ((lOf (r 1) i_1).map (nF ((r 1)))) (n3)))) h) rfl rfl rfl rfl ?_
          have hD : zND (LM A (va_up (va_up (va_up (va_up (va_up (va_up m 19 ((lOf (r 1) i_1).length : Int)) 20 (aOf (r 1) i_1)) 21 (bOf (r 1) i_1)) 28 (i_1 : Int)) 29 bu) 30 bd) (va_up (va_up (va_up r 11 (arL ((lOf (r 1) i_1).map nX) (n1))) 12 (arL ((lOf (r 1) i_1).map (nY ((r 1)))) (n2))) 13 (arL ((lOf (r 1) i_1).map (nF ((r 1)))) (n3)))) := hD
          refine Zn.seg (pc2 := 76) (ls2 := [some (za (A 0)), some (zi (i_1 : Int))]) (st2 := [za (A 0), za (A 0)]) [(74, .aload_n 0), (75, .aload_n 0)] (by decide +kernel) rfl ?_
          refine Zn.get (ix := 204) hD 0 (by decide +kernel) rfl rfl rfl ?_
          refine Zn.eq (st2 := [zj (aOf (r 1) i_1), za (A 0)]) rfl rfl rfl rfl ?_
          refine Zn.call (ins := .invokestatic 192) [zj (aOf (r 1) i_1)] [za (A 0)] (by decide +kernel) rfl rfl rfl ⟨rfl, rfl⟩ ⟨rfl, rfl, rfl⟩ rfl (zrecvS (by decide)) (sp_X8_plain (x := aOf (r 1) i_1) ((ab_rng (hS _ hi_ (hrp (by omega)))).1.1) ((ab_rng (hS _ hi_ (hrp (by omega)))).1.2)) (fun v h2 hp => ?_)
          obtain ⟨rfl, hq_15⟩ := hp
          refine Zn.eq (pc2 := 82) (ls2 := [some (za (A 0)), some (zi (i_1 : Int))]) (st2 := [zj ((aOf (r 1) i_1).natAbs : Int), za (A 0)]) (h2 := zov (LM A (va_up (va_up (va_up (va_up (va_up (va_up m 19 ((lOf (r 1) i_1).length : Int)) 20 (aOf (r 1) i_1)) 21 (bOf (r 1) i_1)) 28 (i_1 : Int)) 29 bu) 30 bd) (va_up (va_up (va_up r 11 (arL ((lOf (r 1) i_1).map nX) (n1))) 12 (arL ((lOf (r 1) i_1).map (nY ((r 1)))) (n2))) 13 (arL ((lOf (r 1) i_1).map (nF ((r 1)))) (n3)))) h) rfl rfl rfl hq_15 ?_
          have hD : zND (LM A (va_up (va_up (va_up (va_up (va_up (va_up m 19 ((lOf (r 1) i_1).length : Int)) 20 (aOf (r 1) i_1)) 21 (bOf (r 1) i_1)) 28 (i_1 : Int)) 29 bu) 30 bd) (va_up (va_up (va_up r 11 (arL ((lOf (r 1) i_1).map nX) (n1))) 12 (arL ((lOf (r 1) i_1).map (nY ((r 1)))) (n2))) 13 (arL ((lOf (r 1) i_1).map (nF ((r 1)))) (n3)))) := hD
          refine Zn.put (ix := 248) hD 0 (by decide +kernel) rfl rfl rfl rfl rfl ?_
          refine Zn.eq (h2 := zov (LM A (va_up (va_up (va_up (va_up (va_up (va_up m 19 ((lOf (r 1) i_1).length : Int)) 20 (aOf (r 1) i_1)) 21 (bOf (r 1) i_1)) 28 (i_1 : Int)) 29 ((aOf (r 1) i_1).natAbs : Int)) 30 bd) (va_up (va_up (va_up r 11 (arL ((lOf (r 1) i_1).map nX) (n1))) 12 (arL ((lOf (r 1) i_1).map (nY ((r 1)))) (n2))) 13 (arL ((lOf (r 1) i_1).map (nF ((r 1)))) (n3)))) h) rfl rfl rfl rfl ?_
          have hD : zND (LM A (va_up (va_up (va_up (va_up (va_up (va_up m 19 ((lOf (r 1) i_1).length : Int)) 20 (aOf (r 1) i_1)) 21 (bOf (r 1) i_1)) 28 (i_1 : Int)) 29 ((aOf (r 1) i_1).natAbs : Int)) 30 bd) (va_up (va_up (va_up r 11 (arL ((lOf (r 1) i_1).map nX) (n1))) 12 (arL ((lOf (r 1) i_1).map (nY ((r 1)))) (n2))) 13 (arL ((lOf (r 1) i_1).map (nF ((r 1)))) (n3)))) := hD
          refine Zn.seg (pc2 := 87) (ls2 := [some (za (A 0)), some (zi (i_1 : Int))]) (st2 := [za (A 0), za (A 0)]) [(85, .aload_n 0), (86, .aload_n 0)] (by decide +kernel) rfl ?_
          refine Zn.get (ix := 208) hD 0 (by decide +kernel) rfl rfl rfl ?_
          refine Zn.eq (st2 := [zj (bOf (r 1) i_1), za (A 0)]) rfl rfl rfl rfl ?_
          refine Zn.put (ix := 251) hD 0 (by decide +kernel) rfl rfl rfl rfl rfl ?_
          refine Zn.eq (h2 := zov (LM A (va_up (va_up (va_up (va_up (va_up (va_up m 19 ((lOf (r 1) i_1).length : Int)) 20 (aOf (r 1) i_1)) 21 (bOf (r 1) i_1)) 28 (i_1 : Int)) 29 ((aOf (r 1) i_1).natAbs : Int)) 30 (bOf (r 1) i_1)) (va_up (va_up (va_up r 11 (arL ((lOf (r 1) i_1).map nX) (n1))) 12 (arL ((lOf (r 1) i_1).map (nY ((r 1)))) (n2))) 13 (arL ((lOf (r 1) i_1).map (nF ((r 1)))) (n3)))) h) rfl rfl rfl rfl ?_
          have hD : zND (LM A (va_up (va_up (va_up (va_up (va_up (va_up m 19 ((lOf (r 1) i_1).length : Int)) 20 (aOf (r 1) i_1)) 21 (bOf (r 1) i_1)) 28 (i_1 : Int)) 29 ((aOf (r 1) i_1).natAbs : Int)) 30 (bOf (r 1) i_1)) (va_up (va_up (va_up r 11 (arL ((lOf (r 1) i_1).map nX) (n1))) 12 (arL ((lOf (r 1) i_1).map (nY ((r 1)))) (n2))) 13 (arL ((lOf (r 1) i_1).map (nF ((r 1)))) (n3)))) := hD
          refine Zn.seg (pc2 := 17) (ls2 := [some (za (A 0)), some (zi ((i_1 : Int) + 1))]) (st2 := []) [(93, .iinc 1 1), (96, .goto (-79))] (by decide +kernel) rfl ?_
          exact Zn.eq rfl (zcons rfl (zcons (congrArg (fun z => some (zi z)) (by omega)) rfl)) rfl (rfl) (ih_3 (arL ((lOf (r 1) i_1).map nX) (n1)) (arL ((lOf (r 1) i_1).map (nY ((r 1)))) (n2)) (arL ((lOf (r 1) i_1).map (nF ((r 1)))) (n3)) ((lOf (r 1) i_1).length : Int) (aOf (r 1) i_1) (bOf (r 1) i_1) i_1 ((aOf (r 1) i_1).natAbs : Int) (bOf (r 1) i_1) (FB_step fa_4 hS (by rcases hrf with ⟨q1, q2⟩ | ⟨q1, q2⟩ <;> first | (exfalso; omega) | exact Or.inl ⟨q1, rfl, rfl, rfl⟩ | exact Or.inr (Or.inl ⟨q1, hi_, by omega, rfl, rfl, rfl⟩) | exact Or.inr (Or.inr ⟨q1, by omega, by omega, rfl, rfl, rfl⟩)) hi_ (ref0 hd hR.2.2.2.2.2.1)))
  · skip
    have hbe := FB_end fa_4 hex
    have hsk := hS _ hbe.1 hbe.2.1
    have hbs := hbe.1
    refine Zn.seg (pc2 := 21) (ls2 := [some (za (A 0)), some (zi (8192 : Int))]) (st2 := [zi 8192, zi (8192 : Int)]) [(17, .iload_n 1), (18, .sipush 8192)] (by decide +kernel) rfl ?_
    refine Zn.icmp (c := .ge) (off := 78) 99 (by decide +kernel) rfl ⟨by omega, by omega⟩ ⟨by decide, by decide⟩ (fun c_16 => ?_) (fun c_16 => absurd (show 8192 ≤ (8192 : Int) from by decide) c_16)
    have c_16 : 8192 ≤ (8192 : Int) := c_16
    refine Zn.seg (pc2 := 101) (ls2 := [some (za (A 0)), some (zi (8192 : Int))]) (st2 := [za (A 0), za (A 0)]) [(99, .aload_n 0), (100, .aload_n 0)] (by decide +kernel) rfl ?_
    refine Zn.get (ix := 245) hD 0 (by decide +kernel) rfl rfl rfl ?_
    refine Zn.eq (st2 := [zi (bs : Int), za (A 0)]) rfl rfl rfl rfl ?_
    refine Zn.call (ins := .invokevirtual 261) [za (A 0), zi (bs : Int)] [] (by decide +kernel) rfl rfl rfl ⟨rfl, rfl⟩ ⟨rfl, rfl, rfl⟩ rfl (zrecvV hD (p := 0) rfl rfl rfl) (sp_X8_fits (A := A) (m := va_up (va_up (va_up (va_up (va_up (va_up m 19 t_) 20 a_) 21 b_) 28 (bs : Int)) 29 bu) 30 bd) (r := va_up (va_up (va_up r 11 n1) 12 n2) 13 n3) (s := bs) (d := d) (l := (lOf (r 1) bs)) (a := (aOf (r 1) bs)) (b := (bOf (r 1) bs)) (zov_all hD) hD (hbe.1) (hR) (rfl) (hsk.1.1) (hsk.1.2.2.1) (hsk.1.2.2.2) (rfl) (rfl) (hd) (hd3) (hsk.1.2.1)) (fun v h2 hp => ?_)
    obtain ⟨rfl, hq_17⟩ := hp
    refine Zn.eq (pc2 := 107) (ls2 := [some (za (A 0)), some (zi (8192 : Int))]) (st2 := []) (h2 := zov (LM A (va_up (va_up (va_up (va_up (va_up (va_up (va_up (va_up m 19 ((lOf (r 1) bs).length : Int)) 20 (aOf (r 1) bs)) 21 (bOf (r 1) bs)) 24 (bOf (r 1) bs)) 25 ((d : Int) + 1)) 28 (bs : Int)) 29 bu) 30 bd) (va_up (va_up (va_up (va_up (va_up r 11 (arL ((lOf (r 1) bs).map nX) (n1))) 12 (arL ((lOf (r 1) bs).map (nY ((r 1)))) (n2))) 13 (arL ((lOf (r 1) bs).map (nF ((r 1)))) (n3))) 14 (cpF (nfX (lOf (r 1) bs)) ((r 14)) (d + 1))) 15 (cpF (fpV ((r 1)) (lOf (r 1) bs) (aOf (r 1) bs) (bOf (r 1) bs)) ((r 15)) (d + 1)))) h) rfl rfl rfl (hq_17.trans ((LM_over _ _ _ _ _ _).trans rfl)) ?_
    have hD : zND (LM A (va_up (va_up (va_up (va_up (va_up (va_up (va_up (va_up m 19 ((lOf (r 1) bs).length : Int)) 20 (aOf (r 1) bs)) 21 (bOf (r 1) bs)) 24 (bOf (r 1) bs)) 25 ((d : Int) + 1)) 28 (bs : Int)) 29 bu) 30 bd) (va_up (va_up (va_up (va_up (va_up r 11 (arL ((lOf (r 1) bs).map nX) (n1))) 12 (arL ((lOf (r 1) bs).map (nY ((r 1)))) (n2))) 13 (arL ((lOf (r 1) bs).map (nF ((r 1)))) (n3))) 14 (cpF (nfX (lOf (r 1) bs)) ((r 14)) (d + 1))) 15 (cpF (fpV ((r 1)) (lOf (r 1) bs) (aOf (r 1) bs) (bOf (r 1) bs)) ((r 15)) (d + 1)))) := hD
    exact Zn.vret (by decide +kernel) rfl (⟨bs, (arL ((lOf (r 1) bs).map nX) n1), (arL ((lOf (r 1) bs).map (nY (r 1))) n2), (arL ((lOf (r 1) bs).map (nF (r 1))) n3), r 14, r 15, rfl, by rw [← hbe.2.2.1, ← hbe.2.2.2.1], hbe.1, hbe.2.1, hbe.2.2.2.2⟩)
