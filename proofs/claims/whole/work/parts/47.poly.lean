/-! polynomials by their numbers; weights that are 0 together on polynomials of too low a degree -/
def pv : (Nat → Int) → Nat → Int → Int
  | f, 0, _ => f 0
  | f, m + 1, x => f 0 + x * pv (fun k => f (k + 1)) m x
theorem pv_congr : ∀ {m : Nat} {f g : Nat → Int} {x : Int}, (∀ k, k ≤ m → f k = g k) → pv f m x = pv g m x
  | 0, f, g, x, h => h 0 (Nat.le_refl 0)
  | m + 1, f, g, x, h => by rw [pv, pv, h 0 (by omega), pv_congr (m := m) (fun k hk => h (k + 1) (by omega))]
theorem pv_const : ∀ {m : Nat} {f : Nat → Int} {x : Int}, (∀ k, 1 ≤ k → k ≤ m → f k = 0) → pv f m x = f 0
  | 0, f, x, _ => rfl
  | m + 1, f, x, h => by
    have e : pv (fun k => f (k + 1)) m x = f 1 := pv_const (m := m) (f := fun k => f (k + 1)) (fun k h1 h2 => h (k + 1) (by omega) (by omega))
    rw [pv, e, h 1 (by omega) (by omega), Int.mul_zero, Int.add_zero]
theorem pv_hi : ∀ {m d : Nat} {f : Nat → Int} {x : Int}, d ≤ m → (∀ k, d < k → k ≤ m → f k = 0) → pv f m x = pv f d x
  | m, 0, f, x, _, h => pv_const (fun k h1 h2 => h k (by omega) h2)
  | 0, d + 1, f, x, hd, _ => absurd hd (by omega)
  | m + 1, d + 1, f, x, hd, h => by rw [pv, pv, pv_hi (m := m) (d := d) (by omega) (fun k h1 h2 => h (k + 1) (by omega) (by omega))]
theorem pv_add : ∀ (m : Nat) (f g : Nat → Int) (x : Int), pv (fun k => f k + g k) m x = pv f m x + pv g m x
  | 0, f, g, x => rfl
  | m + 1, f, g, x => by
    have e := pv_add m (fun k => f (k + 1)) (fun k => g (k + 1)) x
    rw [pv, pv, pv, e, Int.mul_add]
    omega
theorem pv_smul : ∀ (m : Nat) (c : Int) (f : Nat → Int) (x : Int), pv (fun k => c * f k) m x = c * pv f m x
  | 0, c, f, x => rfl
  | m + 1, c, f, x => by
    have e := pv_smul m c (fun k => f (k + 1)) x
    rw [pv, pv, e, Int.mul_add, Int.mul_left_comm]
theorem pv_div : ∀ (m : Nat) (f : Nat → Int) (r : Int), ∃ q : Nat → Int, (∀ x, pv f (m + 1) x - pv f (m + 1) r = (x - r) * pv q m x) ∧ ((∀ k, k ≤ m → q k = 0) → ∀ k, 1 ≤ k → k ≤ m + 1 → f k = 0)
  | 0, f, r => by
    refine ⟨fun _ => f 1, fun x => ?_, fun h k h1 h2 => ?_⟩
    · show f 0 + x * f 1 - (f 0 + r * f 1) = (x - r) * f 1
      rw [Int.sub_mul]
      omega
    · have e : k = 1 := by omega
      rw [e]
      exact h 0 (Nat.le_refl 0)
  | m + 1, f, r => by
    obtain ⟨s, h1, h2⟩ := pv_div m (fun k => f (k + 1)) r
    refine ⟨fun k => if k = 0 then pv (fun k => f (k + 1)) (m + 1) r else s (k - 1), fun x => ?_, fun h k k1 k2 => ?_⟩
    · have e1 := h1 x
      have e2 : pv (fun k => if k = 0 then pv (fun k => f (k + 1)) (m + 1) r else s (k - 1)) (m + 1) x = pv (fun k => f (k + 1)) (m + 1) r + x * pv s m x := rfl
      have e3 : pv f (m + 2) x = f 0 + x * pv (fun k => f (k + 1)) (m + 1) x := rfl
      have e4 : pv f (m + 2) r = f 0 + r * pv (fun k => f (k + 1)) (m + 1) r := rfl
      rw [e2, e3, e4]
      generalize pv (fun k => f (k + 1)) (m + 1) x = a at *
      generalize pv (fun k => f (k + 1)) (m + 1) r = b at *
      generalize pv s m x = c at *
      grind
    · have h3 := h2 (fun j hj => by
        have q : (if j + 1 = 0 then pv (fun k => f (k + 1)) (m + 1) r else s (j + 1 - 1)) = 0 := h (j + 1) (by omega)
        rw [if_neg (by omega)] at q
        exact q)
      have h4 : pv (fun k => f (k + 1)) (m + 1) r = 0 := h 0 (by omega)
      rw [pv_const (fun k k1 k2 => h3 k k1 k2)] at h4
      by_cases e : k = 1
      · rw [e]
        exact h4
      · have h5 : f (k - 1 + 1) = 0 := h3 (k - 1) (by omega) (by omega)
        rw [show k - 1 + 1 = k from by omega] at h5
        exact h5
/-- a polynomial with too many zeros -/
theorem pv_zero : ∀ (m : Nat) (f xs : Nat → Int), (∀ i j, i < j → j ≤ m → xs i ≠ xs j) → (∀ i, i ≤ m → pv f m (xs i) = 0) → ∀ k, k ≤ m → f k = 0
  | 0, f, xs, _, h, k, hk => by
    rw [Nat.le_zero.mp hk]
    exact h 0 (Nat.le_refl 0)
  | m + 1, f, xs, hd, h, k, hk => by
    obtain ⟨q, h1, h2⟩ := pv_div m f (xs (m + 1))
    have h3 := pv_zero m q xs (fun i j h1 h2 => hd i j h1 (by omega)) (fun i hi => by
      have e := h1 (xs i)
      rw [h i (by omega), h (m + 1) (Nat.le_refl _), Int.sub_zero] at e
      have e2 : xs i - xs (m + 1) ≠ 0 := by
        have := hd i (m + 1) (by omega) (Nat.le_refl _)
        omega
      rcases Int.mul_eq_zero.mp e.symm with e3 | e3
      · exact absurd e3 e2
      · exact e3)
    have h4 := h2 h3
    by_cases e : k = 0
    · have h5 := h 0 (by omega)
      rw [pv_const (fun k h1 h2 => h4 k h1 h2)] at h5
      rw [e]
      exact h5
    · exact h4 k (by omega) hk
theorem ev4_pv (f : Nat → Int) (x : Int) : ev4 f x = pv f 3 x := rfl
/-- two polynomials that agree too often -/
theorem ev4_uniq {d : Nat} (hd : d ≤ 3) {f g : Nat → Int} {xs : Nat → Int} (hf : ∀ k, d < k → k < 4 → f k = 0) (hg : ∀ k, d < k → k < 4 → g k = 0) (hx : ∀ i j, i < j → j ≤ d → xs i ≠ xs j) (h : ∀ i, i ≤ d → ev4 f (xs i) = ev4 g (xs i)) : ∀ k, k < 4 → f k = g k := fun k hk => by
  have h1 := pv_zero d (fun k => f k + -1 * g k) xs hx (fun i hi => by
    have e1 := pv_add d f (fun k => -1 * g k) (xs i)
    have e2 := pv_smul d (-1) g (xs i)
    have e3 := h i hi
    rw [ev4_pv, ev4_pv, pv_hi (d := d) hd (fun k h1 h2 => hf k h1 (by omega)), pv_hi (d := d) (f := g) hd (fun k h1 h2 => hg k h1 (by omega))] at e3
    rw [e1, e2, e3]
    omega)
  by_cases e : k ≤ d
  · have h2 : f k + -1 * g k = 0 := h1 k e
    omega
  · rw [hf k (by omega) hk, hg k (by omega) hk]
def sumN (g : Nat → Int) : Nat → Int
  | 0 => 0
  | i + 1 => sumN g i + g i
theorem sumN_congr {f g : Nat → Int} : ∀ {n : Nat}, (∀ i, i < n → f i = g i) → sumN f n = sumN g n
  | 0, _ => rfl
  | n + 1, h => by rw [sumN, sumN, sumN_congr (n := n) (fun i hi => h i (by omega)), h n (by omega)]
theorem sumN_add (f g : Nat → Int) : ∀ n, sumN (fun i => f i + g i) n = sumN f n + sumN g n
  | 0 => rfl
  | n + 1 => by
    rw [sumN, sumN, sumN, sumN_add f g n]
    omega
theorem sumN_mul (c : Int) (f : Nat → Int) : ∀ n, sumN (fun i => c * f i) n = c * sumN f n
  | 0 => (Int.mul_zero c).symm
  | n + 1 => by rw [sumN, sumN, sumN_mul c f n, Int.mul_add]
theorem sumN_zero {f : Nat → Int} : ∀ {n : Nat}, (∀ i, i < n → f i = 0) → sumN f n = 0
  | 0, _ => rfl
  | n + 1, h => by
    rw [sumN, sumN_zero (n := n) (fun i hi => h i (by omega)), h n (by omega)]
    rfl
theorem sumN_le {f g : Nat → Int} : ∀ {n : Nat}, (∀ i, i < n → f i ≤ g i) → sumN f n ≤ sumN g n
  | 0, _ => Int.le_refl 0
  | n + 1, h => by
    have h1 := sumN_le (n := n) (fun i hi => h i (by omega))
    have h2 := h n (by omega)
    rw [sumN, sumN]
    omega
theorem sumN_lt {f g : Nat → Int} : ∀ {n : Nat}, (∀ i, i < n → f i ≤ g i) → (∃ i, i < n ∧ f i < g i) → sumN f n < sumN g n
  | 0, _, ⟨i, hi, _⟩ => absurd hi (Nat.not_lt_zero i)
  | n + 1, h, ⟨i, hi, hl⟩ => by
    have h1 := sumN_le (n := n) (fun i hi => h i (by omega))
    have h2 := h n (by omega)
    rw [sumN, sumN]
    by_cases e : i = n
    · rw [e] at hl
      omega
    · have h3 := sumN_lt (n := n) (fun i hi => h i (by omega)) ⟨i, by omega, hl⟩
      omega
/-- one term alone -/
theorem sumN_one {f : Nat → Int} {n j : Nat} (hj : j < n) (h : ∀ i, i < n → i ≠ j → f i = 0) : sumN f n = f j := by
  induction n with
  | zero => omega
  | succ n ih =>
    rw [sumN]
    by_cases e : j = n
    · rw [sumN_zero (fun i hi => h i (by omega) (by omega)), e, Int.zero_add]
    · rw [ih (by omega) (fun i hi => h i (by omega)), h n (by omega) (fun q => e q.symm), Int.add_zero]
theorem pxN_0 {f : Nat → Int} {x : Int} {i j : Nat} (hx : x = f j) (hij : j ≠ i) : ∀ n, j < n → pxN f x i n = 0
  | 0, h => absurd h (Nat.not_lt_zero j)
  | n + 1, h => by
    rw [pxN]
    by_cases e : j = n
    · rw [if_neg (by omega), hx, e, Int.sub_self, Int.mul_zero]
    · rw [pxN_0 hx hij n (by omega), Int.zero_mul]
theorem pxN_ap (X : Nat → Int) (i : Nat) : ∀ n, pxN X (X i) i n = apN X i n
  | 0 => rfl
  | n + 1 => by rw [pxN, apN, pxN_ap X i n]
theorem pv_mulx (g : Nat → Int) (r x : Int) (m : Nat) (hm : g m = 0) : pv (fun k => (if 0 < k then g (k - 1) else 0) - g k * r) m x = pv g m x * (x - r) := by
  have e1 : pv (fun k => (if 0 < k then g (k - 1) else 0) - g k * r) m x = pv (fun k => (if 0 < k then g (k - 1) else 0) + -r * g k) m x := pv_congr (fun k _ => by rw [Int.neg_mul, Int.mul_comm r]; omega)
  have e2 : pv (fun k => if 0 < k then g (k - 1) else 0) m x = x * pv g m x := by
    cases m with
    | zero =>
      show (0 : Int) = x * g 0
      rw [hm, Int.mul_zero]
    | succ m =>
      have e3 : pv g (m + 1) x = pv g m x := pv_hi (by omega) (fun k h1 h2 => by rw [show k = m + 1 from by omega]; exact hm)
      have e4 : pv (fun k => if 0 < k then g (k - 1) else 0) (m + 1) x = 0 + x * pv g m x := rfl
      rw [e3, e4, Int.zero_add]
  rw [e1, pv_add, pv_smul, e2, Int.mul_sub, Int.mul_comm x]
  rw [Int.neg_mul, Int.mul_comm r]
  omega
theorem pv_on (X : Nat → Int) (c : Int) (i m : Nat) (x : Int) : ∀ a, (a ≤ i → a ≤ m) → (i < a → a ≤ m + 1) → pv (onA X c i a) m x = c * pxN X x i a
  | 0, _, _ => by
    rw [pxN, Int.mul_one]
    exact pv_const (fun k h1 _ => (onA_z1 (X := X) (c := c) (i := i) (by omega)).symm)
  | a + 1, h1, h2 => by
    have ih := pv_on X c i m x a (fun h => by omega) (fun h => by omega)
    by_cases e : a = i
    · rw [onA_e e, ih, pxN, if_pos e, Int.mul_one]
    · have h3 : onA X c i a m = 0 := by
        by_cases q : a < i
        · exact (onA_hi X c i a m).1 (by omega) (by omega)
        · exact (onA_hi X c i a m).2 (by omega) (by omega)
      rw [pxN, if_neg e, ← Int.mul_assoc, ← ih, ← pv_mulx _ _ _ _ h3]
      exact pv_congr (fun k _ => onA_n e k)
/-- the greatest number of that polynomial is 1 -/
theorem onA_top (X : Nat → Int) (c : Int) (i : Nat) : ∀ a, (a ≤ i → onA X c i a a = c) ∧ (i < a → onA X c i a (a - 1) = c)
  | 0 => ⟨fun _ => rfl, fun h => absurd h (Nat.not_lt_zero i)⟩
  | a + 1 => by
    have ih := onA_top X c i a
    by_cases e : a = i
    · rw [onA_e e]
      exact ⟨fun h => by omega, fun _ => ih.1 (by omega)⟩
    · refine ⟨fun h => ?_, fun h => ?_⟩
      · rw [onA_n e, if_pos (by omega), (onA_hi X c i a (a + 1)).1 (by omega) (by omega), Int.zero_mul, Int.sub_zero]
        exact ih.1 (by omega)
      · rw [onA_n e, if_pos (by omega), (onA_hi X c i a (a + 1 - 1)).2 (by omega) (by omega), Int.zero_mul, Int.sub_zero]
        exact ih.2 (by omega)
/-- weights of nodes -/
def WT (X : Nat → Int) (n : Nat) (W : Nat → Int) (S : Int) : Prop := (∀ i, i < n → W i * apN X i n = S) ∧ ∀ i j, i < j → j < n → X i ≠ X j
theorem sum_pv (n m : Nat) (x : Int) (c : Nat → Int) (F : Nat → Nat → Int) : ∀ k, pv (fun j => sumN (fun i => c i * F i j) k) m x = sumN (fun i => c i * pv (F i) m x) k
  | 0 => by
    have := pv_const (m := m) (f := fun j => sumN (fun i => c i * F i j) 0) (x := x) (fun _ _ _ => rfl)
    exact this
  | k + 1 => by
    have e := pv_add m (fun j => sumN (fun i => c i * F i j) k) (fun j => c k * F k j) x
    have e2 := pv_smul m (c k) (F k) x
    show pv (fun j => sumN (fun i => c i * F i j) k + c k * F k j) m x = _
    rw [e, e2, sum_pv n m x c F k, sumN]
/-- weights times values of a polynomial of too low a degree are 0 together -/
theorem WT_ann {X W : Nat → Int} {n : Nat} {S : Int} (h : WT X n W S) (h2 : 2 ≤ n) {p : Nat → Int} (hp : p (n - 1) = 0) : sumN (fun i => W i * pv p (n - 1) (X i)) n = 0 := by
  have hz := pv_zero (n - 1) (fun j => sumN (fun i => (W i * pv p (n - 1) (X i)) * onA X 1 i n j) n + -S * p j) X (fun i j h1 h2 => h.2 i j h1 (by omega)) (fun j hj => by
    have e1 := pv_add (n - 1) (fun j => sumN (fun i => (W i * pv p (n - 1) (X i)) * onA X 1 i n j) n) (fun j => -S * p j) (X j)
    have e2 := pv_smul (n - 1) (-S) p (X j)
    have e3 := sum_pv n (n - 1) (X j) (fun i => W i * pv p (n - 1) (X i)) (fun i => onA X 1 i n) n
    have e4 : sumN (fun i => W i * pv p (n - 1) (X i) * pv (onA X 1 i n) (n - 1) (X j)) n = W j * pv p (n - 1) (X j) * apN X j n := by
      rw [sumN_one (j := j) (by omega)]
      · rw [pv_on X 1 j (n - 1) (X j) n (fun _ => by omega) (fun _ => by omega), pxN_ap, Int.one_mul]
      · intro i hi hij
        rw [pv_on X 1 i (n - 1) (X j) n (fun _ => by omega) (fun _ => by omega), pxN_0 rfl (fun q => hij q.symm) n (by omega), Int.mul_zero, Int.mul_zero]
    have e5 := h.1 j (by omega)
    refine e1.trans ?_
    rw [e2]
    refine (congrArg (fun z => z + -S * pv p (n - 1) (X j)) (e3.trans e4)).trans ?_
    show W j * pv p (n - 1) (X j) * apN X j n + -S * pv p (n - 1) (X j) = 0
    rw [← e5, Int.neg_mul, Int.mul_right_comm]
    omega) (n - 1) (Nat.le_refl _)
  have e6 : sumN (fun i => (W i * pv p (n - 1) (X i)) * onA X 1 i n (n - 1)) n = sumN (fun i => W i * pv p (n - 1) (X i)) n := sumN_congr (fun i hi => by rw [(onA_top X 1 i n).2 hi, Int.mul_one])
  have hz2 : sumN (fun i => (W i * pv p (n - 1) (X i)) * onA X 1 i n (n - 1)) n + -S * p (n - 1) = 0 := hz
  rw [e6, hp, Int.mul_zero, Int.add_zero] at hz2
  exact hz2
/-- two kinds of weights are one but for a number -/
theorem WT_prop {X W W2 : Nat → Int} {n : Nat} {S S2 : Int} (h : WT X n W S) (h2 : WT X n W2 S2) {i : Nat} (hi : i < n) : W i * S2 = W2 i * S := by
  rw [← h.1 i hi, ← h2.1 i hi]
  ac_rfl
