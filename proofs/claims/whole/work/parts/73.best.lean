/-! the reference's best set and the exchange's last: one level, one polynomial -/
theorem cop_td {x y : Int} (hy : 0 < y) : Int.gcd (x.tdiv (Int.gcd x y : Int)) (y.tdiv (Int.gcd x y : Int)) = 1 := by
  have hg : 0 < Int.gcd x y := Nat.pos_of_ne_zero (Int.gcd_ne_zero_right (a := x) (by omega))
  obtain ⟨i, hi⟩ : (Int.gcd x y : Int) ∣ x := gcd_dl
  obtain ⟨j, hj⟩ : (Int.gcd x y : Int) ∣ y := gcd_dr
  have e : Int.gcd x y = Int.gcd x y * Int.gcd i j := by
    have h : Int.gcd ((Int.gcd x y : Int) * i) ((Int.gcd x y : Int) * j) = Int.gcd x y * Int.gcd i j := by
      rw [Int.gcd_mul_left, Int.natAbs_natCast]
    rw [← hi, ← hj] at h
    exact h
  have e1 : x.tdiv (Int.gcd x y : Int) = i := by
    have h : ((Int.gcd x y : Int) * i).tdiv (Int.gcd x y : Int) = i := Int.mul_tdiv_cancel_left _ (by omega)
    rw [← hi] at h
    exact h
  have e2 : y.tdiv (Int.gcd x y : Int) = j := by
    have h : ((Int.gcd x y : Int) * j).tdiv (Int.gcd x y : Int) = j := Int.mul_tdiv_cancel_left _ (by omega)
    rw [← hj] at h
    exact h
  rw [e1, e2]
  exact Nat.eq_of_mul_eq_mul_left hg (by omega)
theorem cop_eq {a b c e : Nat} (hb : 0 < b) (he : 0 < e) (h1 : Nat.gcd a b = 1) (h2 : Nat.gcd c e = 1) (h : a * e = c * b) : a = c ∧ b = e := by
  have d1 : b ∣ e := Nat.Coprime.dvd_of_dvd_mul_left (m := a) ((Nat.gcd_comm b a).trans h1) ⟨c, by rw [h, Nat.mul_comm]⟩
  have d2 : e ∣ b := Nat.Coprime.dvd_of_dvd_mul_left (m := c) ((Nat.gcd_comm e c).trans h2) ⟨a, by rw [← h, Nat.mul_comm]⟩
  have q : b = e := Nat.dvd_antisymm d1 d2
  rw [q] at h
  exact ⟨Nat.eq_of_mul_eq_mul_right he h, q⟩
section
variable {R : Nat → Int} {th fx d w s t : Nat} {Y Q : Nat → Int}
theorem a_cop (hK : KR R th fx d w Y Q) (hC : COK th fx d w Y Q) (hQ : NPL th Q) (hs : s < 8192) (hr : refP R s) : Nat.gcd (aOf R s).natAbs (bOf R s).natAbs = 1 := by
  have hS := lvS_pos hK hC hQ hs hr
  have h := cop_td (x := lvO R (clL fx s)) hS
  have hl := KR_l hK hC hs hr
  have e : (aOf R s).natAbs = ((lvO R (clL fx s)).tdiv (Int.gcd (lvO R (clL fx s)) (lvS R (clL fx s) (clL fx s).length) : Int)).natAbs := by
    rw [aOf, hl, lvA]
    split
    · rfl
    · rw [Int.neg_tdiv, Int.natAbs_neg]
  rw [e, bOf, hl]
  exact h
theorem best_same (hK : KR R th fx d w Y Q) (hC : COK th fx d w Y Q) (hQ : NPL th Q) (hs : s < 8192) (hr : refP R s) (hmax : ∀ p, p < 13 → bt th p = 1 → bt fx p = 0 → bOf R s * ((uC fx Y Q s p).natAbs : Int) ≤ ((aOf R s).natAbs : Int) * ((qv Q ((p : Int) - 6)).natAbs : Int) * cB0 fx Y Q s) (hb : FBE R t) : (aOf R t).natAbs = (aOf R s).natAbs ∧ bOf R t = bOf R s ∧ cBe fx Y Q t = cBe fx Y Q s ∧ (∀ k, k < 4 → cP fx Y Q t k = cP fx Y Q s k) ∧ ∀ k, k < 4 → cB0 fx Y Q t * cT fx Y Q s k = cB0 fx Y Q s * cT fx Y Q t k := by
  obtain ⟨ht, hrt, hfb⟩ := hb
  have hB := cB_pos hK hC hQ hs hr
  have hBt := cB_pos hK hC hQ ht hrt
  have h1 := lev_le hK hC hQ hs hr hmax ht hrt
  have h2 : ((aOf R s).natAbs : Int) * bOf R t ≤ ((aOf R t).natAbs : Int) * bOf R s := by
    have h3 := hfb s hs hr
    unfold cmpV at h3
    by_cases c : ((aOf R s).natAbs : Int) * bOf R t < ((aOf R t).natAbs : Int) * bOf R s
    · exact Int.le_of_lt c
    · rw [if_neg c] at h3
      by_cases c2 : ((aOf R s).natAbs : Int) * bOf R t = ((aOf R t).natAbs : Int) * bOf R s
      · exact Int.le_of_eq c2
      · rw [if_neg c2] at h3
        exact absurd h3 (by decide)
  have hE : ((aOf R t).natAbs : Int) * bOf R s = ((aOf R s).natAbs : Int) * bOf R t := Int.le_antisymm h1 h2
  have hr2 := ((KR_ref hK hC ht).mp hrt).1
  have hp := fit_poly hK hC hQ hs hr ht hrt (fun p hp hb => hmax p hp (hr2 p hb).1 (hr2 p hb).2) hE
  have hrd := fit_red hB.2.2.2 hBt.2.2.2 hp
  have hn : (aOf R t).natAbs * (bOf R s).natAbs = (aOf R s).natAbs * (bOf R t).natAbs := by
    have h3 : (((aOf R t).natAbs * (bOf R s).natAbs : Nat) : Int) = (((aOf R s).natAbs * (bOf R t).natAbs : Nat) : Int) := by
      rw [Int.natCast_mul, Int.natCast_mul, Int.natAbs_of_nonneg (show 0 ≤ bOf R s by omega), Int.natAbs_of_nonneg (show 0 ≤ bOf R t by omega)]
      exact hE
    exact Int.ofNat.inj h3
  have hq := cop_eq (by omega) (by omega) (a_cop hK hC hQ ht hrt) (a_cop hK hC hQ hs hr) hn
  exact ⟨hq.1, by omega, hrd.1.symm, fun k hk => (hrd.2 k hk).symm, hp⟩
/-- the errors of the two, across -/
theorem best_u (h : ∀ k, k < 4 → cB0 fx Y Q t * cT fx Y Q s k = cB0 fx Y Q s * cT fx Y Q t k) (p : Nat) : cB0 fx Y Q t * uC fx Y Q s p = cB0 fx Y Q s * uC fx Y Q t p := by
  have e : cB0 fx Y Q t * ev4 (cT fx Y Q s) ((p : Int) - 6) = cB0 fx Y Q s * ev4 (cT fx Y Q t) ((p : Int) - 6) := by
    rw [← ev4_smul, ← ev4_smul]
    exact ev4_congr h
  rw [uC, uC, Int.mul_sub, Int.mul_sub, e]
  congr 1
  ac_rfl
end
