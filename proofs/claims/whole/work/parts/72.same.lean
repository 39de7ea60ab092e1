/-! the last fit of the exchange and any of the greatest level: one polynomial -/
section
variable {R : Nat → Int} {th fx d w s t : Nat} {Y Q : Nat → Int}
theorem fit_poly (hK : KR R th fx d w Y Q) (hC : COK th fx d w Y Q) (hQ : NPL th Q) (hs : s < 8192) (hr : refP R s) (ht : t < 8192) (hrt : refP R t) (hmax : ∀ p, p < 13 → bt t p = 1 → bOf R s * ((uC fx Y Q s p).natAbs : Int) ≤ ((aOf R s).natAbs : Int) * ((qv Q ((p : Int) - 6)).natAbs : Int) * cB0 fx Y Q s) (hE : ((aOf R t).natAbs : Int) * bOf R s = ((aOf R s).natAbs : Int) * bOf R t) : ∀ k, k < 4 → cB0 fx Y Q t * cT fx Y Q s k = cB0 fx Y Q s * cT fx Y Q t k := by
  have hl := ref_len hK hC ht hrt
  have h1 := cT_deg hK hC hQ hs hr
  have h2 := cT_deg hK hC hQ ht hrt
  refine ev4_uniq (d := d) hC.2.2.1 (f := fun k => cB0 fx Y Q t * cT fx Y Q s k) (g := fun k => cB0 fx Y Q s * cT fx Y Q t k) (xs := nfX (clL fx t)) (fun k hk _ => ?_) (fun k hk _ => ?_) (fun i j hij hj => ?_) (fun i hi => ?_)
  · show cB0 fx Y Q t * cT fx Y Q s k = 0
    rw [h1 k hk, Int.mul_zero]
  · show cB0 fx Y Q s * cT fx Y Q t k = 0
    rw [h2 k hk, Int.mul_zero]
  · have := nfX_lt (b := bB (t ||| fx)) rfl hij (show j < (clL fx t).length by omega)
    exact fun q => absurd q (Int.ne_of_lt this)
  · refine ev4_two _ _ _ _ _ ?_
    have h3 := fit_nodes hK hC hQ hs hr ht hrt hmax hE (show i < (clL fx t).length by omega)
    have e0 : ((nfP (clL fx t) i : Nat) : Int) - 6 = nfX (clL fx t) i := rfl
    rw [uC, uC, e0, Int.sub_mul, Int.sub_mul] at h3
    have e1 : Y (nfP (clL fx t) i) * qv Q (nfX (clL fx t) i) * cB0 fx Y Q s * cB0 fx Y Q t = Y (nfP (clL fx t) i) * qv Q (nfX (clL fx t) i) * cB0 fx Y Q t * cB0 fx Y Q s := by ac_rfl
    rw [e1] at h3
    omega
theorem shG_mul {c b : Int} (hc : 0 ≤ c) (P : Nat → Int) : ∀ k, shG (c * b) (fun k => c * P k) k = c * shG b P k
  | 0 => rfl
  | k + 1 => by
    have ih := shG_mul (b := b) hc P k
    show ((Int.gcd (shG (c * b) (fun k => c * P k) k) (c * P k) : Nat) : Int) = c * ((Int.gcd (shG b P k) (P k) : Nat) : Int)
    rw [ih, Int.gcd_mul_left, Int.natCast_mul, Int.natAbs_of_nonneg hc]
theorem shG_cg {b c : Int} {P P2 : Nat → Int} (hb : b = c) : ∀ {k : Nat}, (∀ j, j < k → P j = P2 j) → shG b P k = shG c P2 k
  | 0, _ => hb
  | k + 1, h => by
    show ((Int.gcd (shG b P k) (P k) : Nat) : Int) = ((Int.gcd (shG c P2 k) (P2 k) : Nat) : Int)
    rw [shG_cg hb (k := k) (fun j hj => h j (by omega)), h k (by omega)]
theorem td_same {a b g m x y : Int} (hg : 0 < g) (hm : 0 < m) (hx : 0 < x) (hy : 0 < y) (h1 : x * a = y * b) (h2 : x * g = y * m) (d1 : g ∣ a) (d2 : m ∣ b) : a.tdiv g = b.tdiv m := by
  obtain ⟨i, hi⟩ := d1
  obtain ⟨j, hj⟩ := d2
  rw [hi, hj, Int.mul_tdiv_cancel_left _ (by omega), Int.mul_tdiv_cancel_left _ (by omega)]
  rw [hi, hj] at h1
  have h3 : (x * g) * i = (x * g) * j := by
    have e1 : (x * g) * i = x * (g * i) := by ac_rfl
    have e2 : (y * m) * j = y * (m * j) := by ac_rfl
    rw [e1, h1, h2, e2]
  exact Int.eq_of_mul_eq_mul_left (by have := Int.mul_pos hx hg; omega) h3
/-- polynomials across: reduced, they are one -/
theorem fit_red (h1 : 0 < cB0 fx Y Q s) (h2 : 0 < cB0 fx Y Q t) (h : ∀ k, k < 4 → cB0 fx Y Q t * cT fx Y Q s k = cB0 fx Y Q s * cT fx Y Q t k) : cBe fx Y Q s = cBe fx Y Q t ∧ ∀ k, k < 4 → cP fx Y Q s k = cP fx Y Q t k := by
  have g1 := shG_b (P := cT fx Y Q s) h1 4
  have g2 := shG_b (P := cT fx Y Q t) h2 4
  have d1 := shG_dvd (P := cT fx Y Q s) (b := cB0 fx Y Q s) 4
  have d2 := shG_dvd (P := cT fx Y Q t) (b := cB0 fx Y Q t) 4
  have e : cB0 fx Y Q t * shG (cB0 fx Y Q s) (cT fx Y Q s) 4 = cB0 fx Y Q s * shG (cB0 fx Y Q t) (cT fx Y Q t) 4 := by
    rw [← shG_mul (Int.le_of_lt h2), ← shG_mul (Int.le_of_lt h1)]
    exact shG_cg (Int.mul_comm _ _) h
  refine ⟨?_, fun k hk => ?_⟩
  · exact td_same g1.1 g2.1 h2 h1 (Int.mul_comm _ _) e d1.1 d2.1
  · exact td_same g1.1 g2.1 h2 h1 (h k hk) e (d1.2 k hk) (d2.2 k hk)
end
