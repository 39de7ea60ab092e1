/-! the place that goes out: the reference's -/
/-- a lean by rank -/
def lrR (g : Int) (r : Nat) : Int := if r % 2 = 0 then g else -g
theorem lrR_s (g : Int) (r : Nat) : lrR g (r + 1) = -lrR g r := by
  unfold lrR
  by_cases q : r % 2 = 0
  · rw [if_pos q, if_neg (by omega)]
  · rw [if_neg q, if_pos (by omega)]
    omega
/-- what goS holds -/
def GSI (s p : Nat) (f g : Int) (k : Nat) (t : Int × Int × Int × Int × Int) : Prop :=
  ((t.1 = -4 ∧ popN s k = 0) ∨ (0 < popN s k ∧ ∃ a : Nat, t.1 = (a : Int) ∧ a < k ∧ bt s a = 1 ∧ popN s a = 0)) ∧
  ((t.2.1 = -4 ∧ popN s k = 0) ∨ (0 < popN s k ∧ ∃ a : Nat, t.2.1 = (a : Int) ∧ a < k ∧ bt s a = 1 ∧ popN s a + 1 = popN s k)) ∧
  ((t.2.2.1 = -4 ∧ ¬ (0 < popN s (min k p) ∧ lrR g (popN s (min k p) - 1) = f)) ∨ ((0 < popN s (min k p) ∧ lrR g (popN s (min k p) - 1) = f) ∧ ∃ a : Nat, t.2.2.1 = (a : Int) ∧ a < k ∧ bt s a = 1 ∧ popN s a + 1 = popN s (min k p))) ∧
  ((t.2.2.2.1 = -4 ∧ popN s k = popN s (min k p)) ∨ (t.2.2.2.1 = 13 ∧ popN s (min k p) < popN s k ∧ lrR g (popN s (min k p)) ≠ f) ∨ (popN s (min k p) < popN s k ∧ lrR g (popN s (min k p)) = f ∧ ∃ a : Nat, t.2.2.2.1 = (a : Int) ∧ a < k ∧ bt s a = 1 ∧ popN s a = popN s (min k p))) ∧
  t.2.2.2.2 = lrR g (popN s k)
theorem GSI_s (s p : Nat) (f g : Int) (hp : bt s p ≠ 1) : ∀ k, k ≤ 13 → GSI s p f g k (goS s p f g k)
  | 0, _ => by
    refine ⟨Or.inl ⟨rfl, rfl⟩, Or.inl ⟨rfl, rfl⟩, Or.inl ⟨rfl, fun q => ?_⟩, Or.inl ⟨rfl, rfl⟩, rfl⟩
    have h := q.1
    rw [show min 0 p = 0 by omega] at h
    exact Nat.lt_irrefl 0 h
  | k + 1, hk => by
    obtain ⟨i1, i2, i3, i4, i5⟩ := GSI_s s p f g hp k (by omega)
    have e1 : popN s (k + 1) = popN s k + bt s k := rfl
    have hb := bt_lt s k
    rcases goS_c s p f g k with ⟨c1, c2, -⟩ | ⟨c1, c2, c3, c4, c5⟩
    · have e2 : popN s (k + 1) = popN s k := by omega
      have e3 : popN s (min (k + 1) p) = popN s (min k p) := by
        by_cases q : k < p
        · rw [show min (k + 1) p = k + 1 by omega, show min k p = k by omega, e2]
        · rw [show min (k + 1) p = p by omega, show min k p = p by omega]
      rw [c2, GSI, e2, e3]
      refine ⟨?_, ?_, ?_, ?_, i5⟩
      · rcases i1 with q | ⟨q, a, a1, a2, a3⟩
        · exact Or.inl q
        · exact Or.inr ⟨q, a, a1, by omega, a3⟩
      · rcases i2 with q | ⟨q, a, a1, a2, a3⟩
        · exact Or.inl q
        · exact Or.inr ⟨q, a, a1, by omega, a3⟩
      · rcases i3 with q | ⟨q, a, a1, a2, a3⟩
        · exact Or.inl q
        · exact Or.inr ⟨q, a, a1, by omega, a3⟩
      · rcases i4 with q | q | ⟨q1, q2, a, a1, a2, a3⟩
        · exact Or.inl q
        · exact Or.inr (Or.inl q)
        · exact Or.inr (Or.inr ⟨q1, q2, a, a1, by omega, a3⟩)
    · have e2 : popN s (k + 1) = popN s k + 1 := by omega
      rw [GSI, e2]
      refine ⟨?_, ?_, ?_, ?_, ?_⟩
      · refine Or.inr ⟨by omega, ?_⟩
        rcases c2 with ⟨d1, d2⟩ | ⟨d1, d2⟩
        · refine ⟨k, d2, by omega, c1, ?_⟩
          rcases i1 with q | ⟨q, a, a1, a2, a3⟩
          · exact q.2
          · omega
        · rcases i1 with q | ⟨q, a, a1, a2, a3⟩
          · exact absurd q.1 d1
          · exact ⟨a, d2.trans a1, by omega, a3⟩
      · exact Or.inr ⟨by omega, k, c3, by omega, c1, rfl⟩
      · rcases c4 with ⟨d1, d2, -⟩ | ⟨d1, d2, -⟩
        · rw [show min (k + 1) p = k + 1 by omega, e2]
          rw [i5] at d2
          rw [show popN s k + 1 - 1 = popN s k by omega]
          rcases d2 with ⟨x1, x2⟩ | ⟨x1, x2⟩
          · exact Or.inr ⟨⟨by omega, x1⟩, k, x2, by omega, c1, rfl⟩
          · exact Or.inl ⟨x2, fun q => x1 q.2⟩
        · rw [d2, show min (k + 1) p = p by omega]
          rw [show min k p = p by omega] at i3
          rcases i3 with q | ⟨q, a, a1, a2, a3⟩
          · exact Or.inl q
          · exact Or.inr ⟨q, a, a1, by omega, a3⟩
      · rcases c4 with ⟨d1, -, d2⟩ | ⟨d1, -, d2⟩
        · rw [d2, show min (k + 1) p = k + 1 by omega, e2]
          rw [show min k p = k by omega] at i4
          rcases i4 with q | q | q
          · exact Or.inl ⟨q.1, rfl⟩
          · omega
          · omega
        · have hkp : p < k := by
            rcases Nat.lt_trichotomy k p with q | q | q
            · exact absurd q d1
            · rw [q] at c1
              exact absurd c1 hp
            · exact q
          have hpk := popN_up s (show p ≤ k by omega)
          rw [show min (k + 1) p = p by omega]
          rw [show min k p = p by omega] at i4
          rw [i5] at d2
          rcases d2 with ⟨x1, x2⟩ | ⟨x1, x2⟩
          · rw [x2]
            rcases i4 with q | q | ⟨q1, q2, a, a1, a2, a3⟩
            · exact absurd q.1 x1
            · exact Or.inr (Or.inl ⟨q.1, by omega, q.2.2⟩)
            · exact Or.inr (Or.inr ⟨by omega, q2, a, a1, by omega, a3⟩)
          · have e4 : popN s k = popN s p := by
              rcases i4 with q | q | ⟨q1, q2, a, a1, a2, a3⟩
              · exact q.2
              · omega
              · omega
            rw [e4] at x2
            rcases x2 with ⟨y1, y2⟩ | ⟨y1, y2⟩
            · exact Or.inr (Or.inr ⟨by omega, y1, k, y2, by omega, c1, e4⟩)
            · exact Or.inr (Or.inl ⟨y2, by omega, y1⟩)
      · rw [c5, i5, lrR_s]
theorem goV_gone {s p : Nat} {f g : Int} (hs : s < 8192) (h0 : s ≠ 0) (hp13 : p < 13) (hp : bt s p ≠ 1) : ∃ a : Nat, a < 13 ∧ goV s p f g = (a : Int) ∧ GONE s p (lrR g (popN s p - 1) = f) (lrR g (popN s p) = f) a := by
  obtain ⟨i1, i2, i3, i4, i5⟩ := GSI_s s p f g hp 13 (Nat.le_refl 13)
  rw [show min 13 p = p by omega] at i3 i4
  have hz := (pop_z s hs)
  have hup := popN_up s (show p ≤ 13 by omega)
  have pS : popN s 13 = pop s := rfl
  rw [pS] at i1 i2 i4
  rw [goV]
  generalize goS s p f g 13 = t at *
  rcases i3 with ⟨q1, q2⟩ | ⟨q1, a, a1, a2, a3, a4⟩
  · rw [if_neg (fun z => z q1)]
    rcases i1 with ⟨b1, b2⟩ | ⟨b1, b, b2, b3, b4, b5⟩
    · exact absurd (hz.mpr b2) h0
    rcases i2 with ⟨c1, c2⟩ | ⟨c1, c, c2, c3, c4, c5⟩
    · exact absurd (hz.mpr c2) h0
    have hne : b ≠ p := fun z => hp (z ▸ b4)
    have hfirst : (p : Int) < t.1 ↔ popN s p = 0 := by
      constructor
      · intro z
        have := popN_up s (show p ≤ b by omega)
        omega
      · intro z
        rcases Nat.lt_trichotomy p b with y | y | y
        · omega
        · exact absurd y.symm hne
        · have := popN_st s y b4
          omega
    have other : ¬ (popN s p < pop s ∧ lrR g (popN s p) = f) → ∃ a : Nat, a < 13 ∧ (if (p : Int) < t.1 then t.2.1 else t.1) = (a : Int) ∧ GONE s p (lrR g (popN s p - 1) = f) (lrR g (popN s p) = f) a := fun n2 => by
      by_cases y : (p : Int) < t.1
      · rw [if_pos y]
        exact ⟨c, c3, c2, c4, Or.inr (Or.inr (Or.inl ⟨q2, n2, hfirst.mp y, c5⟩))⟩
      · rw [if_neg y]
        exact ⟨b, b3, b2, b4, Or.inr (Or.inr (Or.inr ⟨q2, n2, fun z => y (hfirst.mpr z), b5⟩))⟩
    rcases i4 with ⟨d1, d2⟩ | ⟨d1, d2, d3⟩ | ⟨d1, d2, a, a1, a2, a3, a4⟩
    · rw [if_neg (fun z => z.1 d1)]
      exact other (fun z => by omega)
    · rw [if_neg (fun z => by omega)]
      exact other (fun z => d3 z.2)
    · rw [if_pos (by omega)]
      exact ⟨a, a2, a1, a3, Or.inr (Or.inl ⟨q2, ⟨d1, d2⟩, a4⟩)⟩
  · rw [if_pos (by omega)]
    exact ⟨a, a2, a1, a3, Or.inl ⟨q1.1, q1.2, a4⟩⟩
theorem GONE_cg {s w a : Nat} {A B C D : Prop} (h1 : 0 < popN s w → (A ↔ C)) (h2 : B ↔ D) (h : GONE s w A B a) : GONE s w C D a := by
  have e : (0 < popN s w ∧ A) ↔ (0 < popN s w ∧ C) := ⟨fun q => ⟨q.1, (h1 q.1).mp q.2⟩, fun q => ⟨q.1, (h1 q.1).mpr q.2⟩⟩
  refine ⟨h.1, ?_⟩
  rcases h.2 with ⟨x1, x2, x3⟩ | ⟨x1, x2, x3⟩ | ⟨x1, x2, x3, x4⟩ | ⟨x1, x2, x3, x4⟩
  · exact Or.inl ⟨x1, (h1 x1).mp x2, x3⟩
  · exact Or.inr (Or.inl ⟨fun q => x1 (e.mpr q), ⟨x2.1, h2.mp x2.2⟩, x3⟩)
  · exact Or.inr (Or.inr (Or.inl ⟨fun q => x1 (e.mpr q), fun q => x2 ⟨q.1, h2.mpr q.2⟩, x3, x4⟩))
  · exact Or.inr (Or.inr (Or.inr ⟨fun q => x1 (e.mpr q), fun q => x2 ⟨q.1, h2.mpr q.2⟩, x3, x4⟩))
