/-! sets told by a test; what is beneath -/
theorem zbt {n p : Nat} (hn : n < 8192) : zI ((n / 2 ^ p : Nat) : Int) &&& zI 1 = zI (bt n p : Int) := by
  have h : n / 2 ^ p ≤ n := Nat.div_le_self _ _
  exact zand1 (by omega)
def mkN (b : Nat → Bool) : Nat → Nat
  | 0 => 0
  | k + 1 => if b k = true then mkN b k ||| 2 ^ k else mkN b k
def mk (b : Nat → Bool) : Nat := mkN b 13
theorem mkN_lt2 (b : Nat → Bool) : ∀ k, mkN b k < 2 ^ k
  | 0 => by simp [mkN]
  | k + 1 => by
    have h := mkN_lt2 b k
    have h2 : 2 ^ k < 2 ^ (k + 1) := Nat.pow_lt_pow_right (by decide) (Nat.lt_succ_self k)
    unfold mkN
    split
    · exact Nat.or_lt_two_pow (by omega) h2
    · omega
theorem mkN_lt (b : Nat → Bool) {k : Nat} (hk : k ≤ 13) : mkN b k < 8192 := Nat.lt_of_lt_of_le (mkN_lt2 b k) (Nat.pow_le_pow_right (n := 2) (j := 13) (by decide) hk)
theorem mk_lt (b : Nat → Bool) : mk b < 8192 := mkN_lt b (Nat.le_refl 13)
theorem bt_big {n k p : Nat} (h : n < 2 ^ k) (hp : k ≤ p) : bt n p = 0 := by
  have h2 : n < 2 ^ p := Nat.lt_of_lt_of_le h (Nat.pow_le_pow_right (by decide) hp)
  unfold bt
  rw [Nat.div_eq_of_lt h2]
theorem bt_mkN (b : Nat → Bool) : ∀ (k p : Nat), bt (mkN b k) p = if p < k ∧ b p = true then 1 else 0
  | 0, p => by simp [mkN, bt]
  | k + 1, p => by
    have ih := bt_mkN b k p
    unfold mkN
    split
    · rename_i hb
      rw [bt_or, bt_pow, ih]
      by_cases h : k = p
      · subst h
        simp [hb]
      · by_cases h1 : p < k ∧ b p = true
        · rw [if_pos h1, if_neg h, if_pos ⟨by omega, h1.2⟩]
          rfl
        · rw [if_neg h1, if_neg h, if_neg (fun q => h1 ⟨by omega, q.2⟩)]
          rfl
    · rename_i hb
      rw [ih]
      by_cases h : k = p
      · subst h
        simp [hb]
      · by_cases h1 : p < k ∧ b p = true
        · rw [if_pos h1, if_pos ⟨by omega, h1.2⟩]
        · rw [if_neg h1, if_neg (fun q => h1 ⟨by omega, q.2⟩)]
theorem bt_mk (b : Nat → Bool) {p : Nat} (hp : p < 13) : bt (mk b) p = if b p = true then 1 else 0 := by
  unfold mk
  rw [bt_mkN]
  simp [hp]
theorem mk_bt {n : Nat} (hn : n < 8192) : mk (fun p => decide (bt n p = 1)) = n := by
  refine bt_ext (mk_lt _) hn fun p hp => ?_
  rw [bt_mk _ hp]
  have := bt_lt n p
  by_cases h : bt n p = 1
  · simp [h]
  · simp [h]
    omega
theorem mkN_congr {b c : Nat → Bool} : ∀ {k : Nat}, (∀ p, p < k → b p = c p) → mkN b k = mkN c k
  | 0, _ => rfl
  | k + 1, h => by
    unfold mkN
    rw [mkN_congr (k := k) (fun p hp => h p (by omega)), h k (by omega)]
theorem mk_congr {b c : Nat → Bool} (h : ∀ p, p < 13 → b p = c p) : mk b = mk c := mkN_congr h
/-- what is beneath, at an x -/
def qv (q : Nat → Int) (x : Int) : Int := q 0 + q 1 * x + q 2 * x * x
def poleB (th : Nat) (q : Nat → Int) : Nat → Bool := fun p => decide (bt th p = 1 ∧ qv q ((p : Int) - 6) = 0)
/-- what is beneath is small -/
def qOK (q : Nat → Int) : Prop := (-3 ≤ q 0 ∧ q 0 ≤ 3) ∧ (-3 ≤ q 1 ∧ q 1 ≤ 3) ∧ (-3 ≤ q 2 ∧ q 2 ≤ 3)
theorem qv_le {q : Nat → Int} (h : qOK q) {x : Int} (h1 : -6 ≤ x) (h2 : x ≤ 6) : -129 ≤ qv q x ∧ qv q x ≤ 129 := by
  obtain ⟨⟨a1, a2⟩, ⟨b1, b2⟩, c1, c2⟩ := h
  unfold qv
  rcases (show x = -6 ∨ x = -5 ∨ x = -4 ∨ x = -3 ∨ x = -2 ∨ x = -1 ∨ x = 0 ∨ x = 1 ∨ x = 2 ∨ x = 3 ∨ x = 4 ∨ x = 5 ∨ x = 6 by omega) with e | e | e | e | e | e | e | e | e | e | e | e | e <;> subst e <;> omega
/-- the lowest 31 bits -/
theorem zand31 (a : Nat) : zI (a : Int) &&& zI 2147483647 = zI ((a % 2147483648 : Nat) : Int) := by
  have h := pk_and (zI (a : Int)) (m := zI 2147483647) 31 (by decide)
  rw [h, zI_nat (a % 2147483648)]
  congr 1
  have e : (zI (a : Int)).toBitVec = BitVec.ofNat 32 a := by rw [zI_nat]; rfl
  rw [e, BitVec.toNat_ofNat]
  omega
