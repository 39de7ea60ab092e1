/-! what is told of a fraction -/
theorem mul_pos2 {a b : Int} (ha : a ≠ 0) (hb : b ≠ 0) : 0 < a * b ↔ (0 < a ↔ 0 < b) := by
  rcases Int.lt_trichotomy a 0 with q | q | q
  · rcases Int.lt_trichotomy b 0 with p | p | p
    · have := Int.mul_pos_of_neg_of_neg q p
      omega
    · exact absurd p hb
    · have := Int.mul_neg_of_neg_of_pos q p
      omega
  · exact absurd q ha
  · rcases Int.lt_trichotomy b 0 with p | p | p
    · have := Int.mul_neg_of_pos_of_neg q p
      omega
    · exact absurd p hb
    · have := Int.mul_pos q p
      omega
theorem iff4 {a b c e : Prop} (h : (a ↔ b) ↔ (c ↔ e)) : (a ↔ e) ↔ (c ↔ b) := by
  by_cases h1 : a <;> by_cases h2 : b <;> by_cases h3 : c <;> by_cases h4 : e <;> simp [h1, h2, h3, h4] at h ⊢
theorem fr_parts {x y : Int} (hy : y ≠ 0) : ∃ i j g : Int, 0 < g ∧ x = g * i ∧ y = g * j ∧ (Int.gcd x y : Int) = g ∧ Nat.gcd i.natAbs j.natAbs = 1 ∧ j ≠ 0 ∧ (x.natAbs : Int).tdiv (Int.gcd x y : Int) = (i.natAbs : Int) ∧ (y.natAbs : Int).tdiv (Int.gcd x y : Int) = (j.natAbs : Int) := by
  have hg : 0 < Int.gcd x y := Nat.pos_of_ne_zero (Int.gcd_ne_zero_right (a := x) hy)
  obtain ⟨i, hi⟩ : (Int.gcd x y : Int) ∣ x := gcd_dl
  obtain ⟨j, hj⟩ : (Int.gcd x y : Int) ∣ y := gcd_dr
  have e : Int.gcd x y = Int.gcd x y * Int.gcd i j := by
    have h : Int.gcd ((Int.gcd x y : Int) * i) ((Int.gcd x y : Int) * j) = Int.gcd x y * Int.gcd i j := by
      rw [Int.gcd_mul_left, Int.natAbs_natCast]
    rw [← hi, ← hj] at h
    exact h
  have ec : Int.gcd i j = 1 := Nat.eq_of_mul_eq_mul_left hg (by omega)
  generalize hge : (Int.gcd x y : Int) = g at *
  have hgp : 0 < g := by omega
  refine ⟨i, j, g, hgp, hi, hj, rfl, ec, fun q => ?_, ?_, ?_⟩
  · rw [q, Int.mul_zero] at hj
    exact hy hj
  · rw [hi, Int.natAbs_mul, Int.natCast_mul, Int.natAbs_of_nonneg (Int.le_of_lt hgp), Int.mul_tdiv_cancel_left _ (by omega)]
  · rw [hj, Int.natAbs_mul, Int.natCast_mul, Int.natAbs_of_nonneg (Int.le_of_lt hgp), Int.mul_tdiv_cancel_left _ (by omega)]
theorem fdU_abs (u v : Int) : ((fdU u v).natAbs : Int) = (u.natAbs : Int).tdiv (Int.gcd u v : Int) := by
  have e : ∀ a : Int, a.natAbs = u.natAbs → ((a.tdiv (Int.gcd u v : Int)).natAbs : Int) = (u.natAbs : Int).tdiv (Int.gcd u v : Int) := fun a ha => by
    rw [Int.natAbs_tdiv, ha, Int.natAbs_natCast]
    exact Int.ofNat_tdiv ..
  unfold fdU
  split
  · exact e _ (Int.natAbs_neg u)
  · exact e _ rfl
theorem tl_fr {x y u v z : Int} (hy : y ≠ 0) (hv : v ≠ 0) (h : x * v = u * y) (hz : z = 0 ∨ z = 1 ∨ z = 2) : tlV z (fdU u v) ((v.natAbs : Int).tdiv (Int.gcd u v : Int)) = frV x y z := by
  obtain ⟨i, j, g, g1, g2, g3, g4, g5, g6, g7, g8⟩ := fr_parts (x := u) hv
  obtain ⟨k, l, m, m1, m2, m3, m4, m5, m6, m7, m8⟩ := fr_parts (x := x) hy
  have hx0 : x = 0 ↔ u = 0 := by
    constructor
    · intro q
      rw [q, Int.zero_mul] at h
      rcases Int.mul_eq_zero.mp h.symm with c | c
      · exact c
      · exact absurd c hy
    · intro q
      rw [q, Int.zero_mul] at h
      rcases Int.mul_eq_zero.mp h with c | c
      · exact c
      · exact absurd c hv
  have hkj : k * j = i * l := by
    rw [m2, m3, g2, g3] at h
    have e1 : m * k * (g * j) = (m * g) * (k * j) := by ac_rfl
    have e2 : g * i * (m * l) = (m * g) * (i * l) := by ac_rfl
    rw [e1, e2] at h
    exact Int.eq_of_mul_eq_mul_left (by have := Int.mul_pos m1 g1; omega) h
  have hn : k.natAbs * j.natAbs = i.natAbs * l.natAbs := by
    rw [← Int.natAbs_mul, ← Int.natAbs_mul, hkj]
  have hc := cop_eq (Nat.pos_of_ne_zero (by omega)) (Nat.pos_of_ne_zero (by omega)) m5 g5 hn
  have hk0 : x = 0 ↔ k = 0 := by
    constructor
    · intro q
      rw [q] at m2
      rcases Int.mul_eq_zero.mp m2.symm with c | c
      · omega
      · exact c
    · intro q
      rw [m2, q, Int.mul_zero]
  rcases hz with z0 | z0 | z0
  · rw [z0, tlV, if_pos rfl, fdU_abs, g7, frV, if_neg (by decide)]
    by_cases q : x = 0
    · rw [if_pos q, if_pos rfl]
      have := hk0.mp q
      omega
    · rw [if_neg q, if_pos rfl, m7]
      omega
  · rw [z0, tlV, if_neg (by decide), if_pos rfl, g8, frV, if_neg (by decide)]
    by_cases q : x = 0
    · rw [if_pos q, if_neg (by decide)]
      have q2 := hk0.mp q
      rw [q2, show (0 : Int).natAbs = 0 from rfl, Nat.gcd_zero_left] at m5
      omega
    · rw [if_neg q, if_neg (by decide), m8]
      omega
  · rw [z0, tlV, if_neg (by decide), if_neg (by decide), frV, if_pos rfl]
    obtain ⟨f, f1, f2, -⟩ := fdU_g (u := u) hv
    by_cases q : x = 0
    · have q2 := hx0.mp q
      rw [if_pos q]
      have e : fdU u v = 0 := by
        rw [q2] at f2
        rw [show (if v < 0 then -(0 : Int) else 0) = 0 from by split <;> rfl] at f2
        rcases Int.mul_eq_zero.mp f2 with c | c
        · omega
        · rw [q2]
          exact c
      rw [if_pos e]
    · have q2 : u ≠ 0 := fun c => q (hx0.mpr c)
      rw [if_neg q]
      have s1 := mul_pos2 (a := x) (b := v) q hv
      have s2 := mul_pos2 (a := u) (b := y) q2 hy
      rw [h] at s1
      have s3 := iff4 (s1.symm.trans s2)
      have hf0 : fdU u v ≠ 0 := fun c => by
        rw [c, Int.mul_zero] at f2
        split at f2 <;> omega
      have hfs : 0 < fdU u v ↔ (0 < u ↔ 0 < v) := by
        have s4 := (mul_sg (a := fdU u v) f1).1
        rw [Int.mul_comm, f2] at s4
        rw [← s4]
        split <;> omega
      rw [if_neg hf0]
      by_cases c : 0 < x ↔ 0 < y
      · rw [if_pos c, if_pos (hfs.mpr (s3.mp c))]
      · rw [if_neg c, if_neg (fun w => c (s3.mpr (hfs.mp w)))]
