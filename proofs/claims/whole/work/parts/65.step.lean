/-! a step of the exchange keeps the leans by turns -/
theorem alt_cg {u : Int} {a b : Nat} (h : a % 2 = b % 2) (q : 0 ≤ (if a % 2 = 0 then u else -u)) : 0 ≤ (if b % 2 = 0 then u else -u) := by
  rw [h] at q
  exact q
/-- m is s with w come in and g gone out -/
def STP (s w g m : Nat) : Prop := ∀ p, bt m p = if p = g then 0 else if p = w then 1 else bt s p
theorem STP_pop {s w g m : Nat} (hw : bt s w = 0) (hg : bt s g = 1) (h : STP s w g m) : ∀ k, popN m k + (if g < k then 1 else 0) = popN s k + (if w < k then 1 else 0)
  | 0 => by
    rw [if_neg (by omega), if_neg (by omega)]
    rfl
  | k + 1 => by
    have ih := STP_pop hw hg h k
    have e1 : popN m (k + 1) = popN m k + bt m k := rfl
    have e2 : popN s (k + 1) = popN s k + bt s k := rfl
    have hne : g ≠ w := fun z => by rw [z, hw] at hg; cases hg
    have hk := h k
    rw [e1, e2, hk]
    by_cases q1 : k = g
    · rw [if_pos q1, if_pos (by omega)]
      rw [if_neg (by omega)] at ih
      by_cases q2 : w < k
      · rw [if_pos q2] at ih
        rw [if_pos (by omega), q1, hg, ← q1]
        omega
      · rw [if_neg q2] at ih
        rw [if_neg (by omega), q1, hg, ← q1]
        omega
    · rw [if_neg q1]
      by_cases q2 : k = w
      · rw [if_pos q2, if_pos (show w < k + 1 by omega)]
        rw [if_neg (show ¬ w < k by omega)] at ih
        have hz : bt s k = 0 := by rw [q2]; exact hw
        rw [hz]
        by_cases q3 : g < k
        · rw [if_pos q3] at ih
          rw [if_pos (by omega)]
          omega
        · rw [if_neg q3] at ih
          rw [if_neg (by omega)]
          omega
      · rw [if_neg q2]
        have a1 : (if g < k + 1 then 1 else 0 : Nat) = if g < k then 1 else 0 := by
          by_cases q3 : g < k
          · rw [if_pos q3, if_pos (by omega)]
          · rw [if_neg q3, if_neg (by omega)]
        have a2 : (if w < k + 1 then 1 else 0 : Nat) = if w < k then 1 else 0 := by
          by_cases q3 : w < k
          · rw [if_pos q3, if_pos (by omega)]
          · rw [if_neg q3, if_neg (by omega)]
        rw [a1, a2]
        omega
theorem STP_all {s w g m : Nat} (hw13 : w < 13) (hg13 : g < 13) (hw : bt s w = 0) (hg : bt s g = 1) (h : STP s w g m) : pop m = pop s := by
  have := STP_pop hw hg h 13
  rw [if_pos hg13, if_pos hw13] at this
  unfold pop
  omega
/-- of three places: how their ranks lie -/
theorem STP_rank {s w g m p : Nat} (hw : bt s w = 0) (hg : bt s g = 1) (h : STP s w g m) (hp : bt m p = 1) (hpw : p ≠ w) : bt s p = 1 ∧ ((p < g ∧ popN s p + 1 ≤ popN s g) ∨ (g < p ∧ popN s g + 1 ≤ popN s p)) ∧ ((p < w ∧ popN s p + 1 ≤ popN s w) ∨ (w < p ∧ popN s w ≤ popN s p)) ∧ ((g < p ∧ w < p ∧ popN m p = popN s p) ∨ (g < p ∧ p < w ∧ popN m p + 1 = popN s p) ∨ (p < g ∧ w < p ∧ popN m p = popN s p + 1) ∨ (p < g ∧ p < w ∧ popN m p = popN s p)) := by
  have hk := h p
  have hc := STP_pop hw hg h p
  by_cases q1 : p = g
  · rw [if_pos q1] at hk
    omega
  · rw [if_neg q1, if_neg hpw] at hk
    have hs : bt s p = 1 := by omega
    refine ⟨hs, ?_, ?_, ?_⟩
    · rcases Nat.lt_trichotomy p g with q | q | q
      · exact Or.inl ⟨q, popN_st s q hs⟩
      · exact absurd q q1
      · exact Or.inr ⟨q, popN_st s q hg⟩
    · rcases Nat.lt_trichotomy p w with q | q | q
      · exact Or.inl ⟨q, popN_st s q hs⟩
      · exact absurd q hpw
      · exact Or.inr ⟨q, popN_up s (by omega)⟩
    · by_cases q3 : g < p
      · rw [if_pos q3] at hc
        by_cases q4 : w < p
        · rw [if_pos q4] at hc
          exact Or.inl ⟨q3, q4, by omega⟩
        · rw [if_neg q4] at hc
          exact Or.inr (Or.inl ⟨q3, by omega, by omega⟩)
      · rw [if_neg q3] at hc
        by_cases q4 : w < p
        · rw [if_pos q4] at hc
          exact Or.inr (Or.inr (Or.inl ⟨by omega, q4, by omega⟩))
        · rw [if_neg q4] at hc
          exact Or.inr (Or.inr (Or.inr ⟨by omega, by omega, by omega⟩))
theorem STP_w {s w g m : Nat} (hw : bt s w = 0) (hg : bt s g = 1) (h : STP s w g m) : (g < w ∧ popN s g + 1 ≤ popN s w ∧ popN m w + 1 = popN s w) ∨ (w < g ∧ popN s w ≤ popN s g ∧ popN m w = popN s w) := by
  have hc := STP_pop hw hg h w
  rw [if_neg (Nat.lt_irrefl w)] at hc
  rcases Nat.lt_trichotomy g w with q | q | q
  · rw [if_pos q] at hc
    exact Or.inl ⟨q, popN_st s q hg, by omega⟩
  · rw [q, hw] at hg
    cases hg
  · rw [if_neg (by omega)] at hc
    exact Or.inr ⟨q, popN_up s (by omega), by omega⟩
theorem STP_alt {s w g m v z fx : Nat} {A B : Prop} {u : Nat → Int} (hw13 : w < 13) (hw : bt s w = 0) (h : STP s w g m) (hG : GONE s w A B g) (hA : 0 < popN s w → (A ↔ (popN s w - 1 + z) % 2 = v)) (hB : B ↔ (popN s w + z) % 2 = v) (hv : v < 2)
    (hs : ∀ p, p < 13 → bt s p = 1 → 0 ≤ (if (popN s p + toV fx p + z) % 2 = 0 then u p else -u p)) (huw : 0 ≤ (if (v + toV fx w) % 2 = 0 then u w else -u w)) : ∃ z2 : Nat, ∀ p, p < 13 → bt m p = 1 → 0 ≤ (if (popN m p + toV fx p + z2) % 2 = 0 then u p else -u p) := by
  have hg := hG.1
  have cw := STP_w hw hg h
  have key : ∃ z2 : Nat, ((popN m w + z2) % 2 = v) ∧ ∀ p, p < 13 → bt m p = 1 → p ≠ w → (popN m p + z2) % 2 = (popN s p + z) % 2 := by
    have hlt : ∀ p, p < 13 → bt s p = 1 → popN s p + 1 ≤ pop s := fun p hp hb => popN_st s hp hb
    rcases hG.2 with ⟨x1, x2, x3⟩ | ⟨x1, ⟨x2, x4⟩, x3⟩ | ⟨x1, x2, x3, x4⟩ | ⟨x1, x2, x3, x4⟩
    · have hA := (hA x1).mp x2
      refine ⟨z, by omega, fun p hp hb hne => ?_⟩
      have hr := STP_rank hw hg h hb hne
      omega
    · have hB := hB.mp x4
      refine ⟨z, by omega, fun p hp hb hne => ?_⟩
      have hr := STP_rank hw hg h hb hne
      omega
    · have hB : ¬ (popN s w + z) % 2 = v := fun q => by
        have h2 : popN s w < pop s := by omega
        exact x2 ⟨h2, hB.mpr q⟩
      refine ⟨z + 1, by omega, fun p hp hb hne => ?_⟩
      have hr := STP_rank hw hg h hb hne
      have := hlt p hp hr.1
      omega
    · have hA : ¬ (popN s w - 1 + z) % 2 = v := fun q => x1 ⟨by omega, (hA (by omega)).mpr q⟩
      have hB : ¬ popN s w < pop s := fun q => x2 ⟨q, hB.mpr (by omega)⟩
      have hup := popN_up s (show w ≤ 13 by omega)
      refine ⟨z + 1, by omega, fun p hp hb hne => ?_⟩
      have hr := STP_rank hw hg h hb hne
      have := hlt p hp hr.1
      omega
  obtain ⟨z2, k1, k2⟩ := key
  refine ⟨z2, fun p hp hb => ?_⟩
  by_cases hne : p = w
  · rw [hne]
    exact alt_cg (by omega) huw
  · have hr := STP_rank hw hg h hb hne
    have e := k2 p hp hb hne
    exact alt_cg (by omega) (hs p hp hr.1)
