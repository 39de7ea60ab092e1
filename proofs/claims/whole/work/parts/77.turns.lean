/-! turns; the best set is there -/
section
variable {R : Nat → Int} {th fx d w s t : Nat} {Y Q : Nat → Int}
theorem tu_zero {fx2 r : Nat} {g : Nat → Int} (h : ∀ p, p < 13 → bt r p = 1 → g p = 0) : ∀ k, k ≤ 13 → tuN fx2 g r k = (0, 0)
  | 0, _ => rfl
  | k + 1, hk => by
    have ih := tu_zero (fx2 := fx2) h k (by omega)
    rw [tuN, ih]
    by_cases q : bt r k = 1
    · have e : laV fx2 (g k) k = 0 := if_pos (h k (by omega) q)
      rw [if_pos q, e]
      rfl
    · rw [if_neg q]
theorem ans_turns (hK : KR R th fx d w Y Q) (hC : COK th fx d w Y Q) (hQ : NPL th Q) (hs : s < 8192) (hr : refP R s) (hmax : ∀ p, p < 13 → bt th p = 1 → bt fx p = 0 → bOf R s * ((uC fx Y Q s p).natAbs : Int) ≤ ((aOf R s).natAbs : Int) * ((qv Q ((p : Int) - 6)).natAbs : Int) * cB0 fx Y Q s) (hb : FBE R t) : tnV R (XF R t) (PF R t) (d + 1) (bOf R t) ((aOf R t).natAbs : Int) (bOf R t) = ((tuN fx (cGp fx Y Q s) (mk (rcB (cGp fx Y Q s) Q (bdiff th fx) (low s))) 13).1 : Int) := by
  obtain ⟨b1, b2, b3, b4, b5⟩ := best_same hK hC hQ hs hr hmax hb
  have hgs := gap_same b3 b4
  have hB := cB_pos hK hC hQ hs hr
  have hin : ∀ p, bt (mk (rcB (cGp fx Y Q s) Q (bdiff th fx) (low s))) p = 1 → bt (bdiff th fx) p = 1 := fun p hp => by
    have hp13 : p < 13 := by
      rcases Nat.lt_or_ge p 13 with q | q
      · exact q
      · have := bt_big (n := mk (rcB (cGp fx Y Q s) Q (bdiff th fx) (low s))) (k := 13) (p := p) (mk_lt _) q
        omega
    rw [bt_mk _ hp13] at hp
    by_cases q : rcB (cGp fx Y Q s) Q (bdiff th fx) (low s) p = true
    · exact (of_decide_eq_true q).1
    · rw [if_neg q] at hp
      cases hp
  unfold tnV
  by_cases c : ((aOf R t).natAbs : Int) = 0
  · rw [if_pos c]
    have hz : ∀ p, p < 13 → bt (mk (rcB (cGp fx Y Q s) Q (bdiff th fx) (low s))) p = 1 → cGp fx Y Q s p = 0 := fun p hp hb => by
      have h1 := fr_in hC (hin p hb)
      have h2 := hmax p hp h1.1 h1.2
      rw [show ((aOf R s).natAbs : Int) = 0 by omega, Int.zero_mul, Int.zero_mul] at h2
      have hg := uC_gap hB.2.2.2 p
      have h3 : ((uC fx Y Q s p).natAbs : Int) = 0 := by
        have h4 : 0 ≤ ((uC fx Y Q s p).natAbs : Int) := by omega
        rcases Int.lt_or_le 0 ((uC fx Y Q s p).natAbs : Int) with q | q
        · have := Int.mul_pos hB.2.1 q
          omega
        · omega
      have h5 : uC fx Y Q s p = 0 := by omega
      rw [hg.2] at h5
      rcases Int.mul_eq_zero.mp h5 with q | q
      · omega
      · exact q
    rw [tu_zero hz 13 (Nat.le_refl 13)]
    rfl
  · rw [if_neg c, ans_reached hK hC hQ hs hr hmax hb, (turn_eq hK hC hQ hb.1 hb.2.1 hin 13 (Nat.le_refl 13)).1, hgs]
/-- where one reference is, a best one is -/
theorem best_there (hK : KR R th fx d w Y Q) (hC : COK th fx d w Y Q) (hQ : NPL th Q) (hs : s < 8192) (hr : refP R s) (hmax : ∀ p, p < 13 → bt th p = 1 → bt fx p = 0 → bOf R s * ((uC fx Y Q s p).natAbs : Int) ≤ ((aOf R s).natAbs : Int) * ((qv Q ((p : Int) - 6)).natAbs : Int) * cB0 fx Y Q s) : FBE R s := by
  refine ⟨hs, hr, fun t ht hrt => ?_⟩
  have h := lev_le hK hC hQ hs hr hmax ht hrt
  unfold cmpV
  by_cases c : ((aOf R t).natAbs : Int) * bOf R s < ((aOf R s).natAbs : Int) * bOf R t
  · rw [if_pos c]
    decide
  · rw [if_neg c, if_pos (Int.le_antisymm h (by omega))]
    exact Int.le_refl 0
/-- the exchange's steps, told -/
theorem ans_step (hK : KR R th fx d w Y Q) (hC : COK th fx d w Y Q) (hQ : NPL th Q) (hs : s < 8192) (hr : refP R s) : ((aOf R s).natAbs : Int) = cU fx Y Q s ∧ bOf R s = cD fx Y Q s := by
  have h1 := (lev_eq hK hC hQ hs hr).2
  exact ⟨h1.1.symm, h1.2.symm⟩
end
