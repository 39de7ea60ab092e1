/-! the place that goes out: the reference's and the class's are one -/
theorem popN_st (s : Nat) {a b : Nat} (h : a < b) (hb : bt s a = 1) : popN s a + 1 ≤ popN s b := by
  have h1 := popN_up s (show a + 1 ≤ b from h)
  rw [popN] at h1
  omega
/-- places of one rank are one -/
theorem rank_inj {s a b : Nat} (ha : bt s a = 1) (hb : bt s b = 1) (h : popN s a = popN s b) : a = b := by
  rcases Nat.lt_trichotomy a b with q | q | q
  · have := popN_st s q ha
    omega
  · exact q
  · have := popN_st s q hb
    omega
theorem low_sp : ∀ n, n < 8192 → n ≠ 0 → bt n (low n) = 1 ∧ popN n (low n) = 0 ∧ low n < 13 := all13 (by decide +kernel)
theorem hi_sp : ∀ n, n < 8192 → n ≠ 0 → bt n (hiN n 13) = 1 ∧ popN n (hiN n 13) + 1 = pop n := all13 (by decide +kernel)
theorem pop_z : ∀ n, n < 8192 → (n = 0 ↔ pop n = 0) := all13 (by decide +kernel)
theorem popN_lo (s w : Nat) : ∀ k, popN (s &&& (2 ^ w - 1)) k = popN s (min w k)
  | 0 => by
    rw [show min w 0 = 0 by omega]
    rfl
  | k + 1 => by
    have ih := popN_lo s w k
    have e1 : popN (s &&& (2 ^ w - 1)) (k + 1) = popN (s &&& (2 ^ w - 1)) k + bt (s &&& (2 ^ w - 1)) k := rfl
    have e2 : popN s (k + 1) = popN s k + bt s k := rfl
    have hb := bt_lt s k
    rw [e1, ih, bt_and, bt_ones]
    by_cases q : k < w
    · rw [if_pos q, show min w (k + 1) = k + 1 by omega, show min w k = k by omega, e2]
      omega
    · rw [if_neg q, show min w (k + 1) = w by omega, show min w k = w by omega]
      omega
theorem popN_hi (s w : Nat) : ∀ k, popN (bdiff s (s &&& (2 ^ w - 1))) k + popN s (min w k) = popN s k
  | 0 => by
    rw [show min w 0 = 0 by omega]
    rfl
  | k + 1 => by
    have ih := popN_hi s w k
    have e1 : popN (bdiff s (s &&& (2 ^ w - 1))) (k + 1) = popN (bdiff s (s &&& (2 ^ w - 1))) k + bt (bdiff s (s &&& (2 ^ w - 1))) k := rfl
    have e2 : popN s (k + 1) = popN s k + bt s k := rfl
    have hb := bt_lt s k
    rw [e1, bt_diff, bt_and, bt_ones]
    by_cases q : k < w
    · rw [show min w k = k by omega] at ih
      rw [if_pos q, show min w (k + 1) = k + 1 by omega, e2]
      omega
    · rw [show min w k = w by omega] at ih
      rw [if_neg q, show min w (k + 1) = w by omega, e2]
      omega
/-- the place that goes out for w: r of the set lie below it, m are in the set; A, B: the neighbour below, above, leans as w does -/
def GONE (s w : Nat) (A B : Prop) (a : Nat) : Prop := bt s a = 1 ∧ ((0 < popN s w ∧ A ∧ popN s a + 1 = popN s w) ∨ (¬ (0 < popN s w ∧ A) ∧ (popN s w < pop s ∧ B) ∧ popN s a = popN s w) ∨ (¬ (0 < popN s w ∧ A) ∧ ¬ (popN s w < pop s ∧ B) ∧ popN s w = 0 ∧ popN s a + 1 = pop s) ∨ (¬ (0 < popN s w ∧ A) ∧ ¬ (popN s w < pop s ∧ B) ∧ popN s w ≠ 0 ∧ popN s a = 0))
theorem GONE_one {s w a b : Nat} {A B : Prop} (ha : GONE s w A B a) (hb : GONE s w A B b) : a = b := by
  refine rank_inj ha.1 hb.1 ?_
  obtain ⟨-, ha⟩ := ha
  obtain ⟨-, hb⟩ := hb
  rcases ha with ⟨x1, x2, x3⟩ | ⟨x1, x2, x3⟩ | ⟨x1, x2, x3, x4⟩ | ⟨x1, x2, x3, x4⟩
  · rcases hb with ⟨y1, y2, y3⟩ | ⟨y1, y2, y3⟩ | ⟨y1, y2, y3, y4⟩ | ⟨y1, y2, y3, y4⟩
    · omega
    · exact absurd ⟨x1, x2⟩ y1
    · exact absurd ⟨x1, x2⟩ y1
    · exact absurd ⟨x1, x2⟩ y1
  · rcases hb with ⟨y1, y2, y3⟩ | ⟨y1, y2, y3⟩ | ⟨y1, y2, y3, y4⟩ | ⟨y1, y2, y3, y4⟩
    · exact absurd ⟨y1, y2⟩ x1
    · omega
    · exact absurd x2 y2
    · exact absurd x2 y2
  · rcases hb with ⟨y1, y2, y3⟩ | ⟨y1, y2, y3⟩ | ⟨y1, y2, y3, y4⟩ | ⟨y1, y2, y3, y4⟩
    · exact absurd ⟨y1, y2⟩ x1
    · exact absurd y2 x2
    · omega
    · omega
  · rcases hb with ⟨y1, y2, y3⟩ | ⟨y1, y2, y3⟩ | ⟨y1, y2, y3, y4⟩ | ⟨y1, y2, y3, y4⟩
    · exact absurd ⟨y1, y2⟩ x1
    · exact absurd y2 x2
    · omega
    · omega
/-- the class's -/
theorem lvC_gone {fx s w ll lu : Nat} {ln g : Int} (hs : s < 8192) (h0 : s ≠ 0) (hw : w < 13) (hll : LW (s &&& (2 ^ w - 1)) ll) (hlu : LW (bdiff s (s &&& (2 ^ w - 1))) lu) : GONE s w (lnO ln (popN s w - 1) = laV fx g w) (lnO ln (popN s w) = laV fx g w) (lvC fx s w ll lu ln g) := by
  have hB : s &&& (2 ^ w - 1) < 8192 := and_lt hs
  have hU : bdiff s (s &&& (2 ^ w - 1)) < 8192 := bd_lt hs
  have eB : pop (s &&& (2 ^ w - 1)) = popN s w := by
    rw [pop, popN_lo, show min w 13 = w by omega]
  have eU : pop (bdiff s (s &&& (2 ^ w - 1))) + popN s w = pop s := by
    have := popN_hi s w 13
    rwa [show min w 13 = w by omega] at this
  have zB := pop_z _ hB
  have zU := pop_z _ hU
  have zS := pop_z _ hs
  have hup := popN_up s (show w ≤ 13 by omega)
  have pS : popN s 13 = pop s := rfl
  have lowB : s &&& (2 ^ w - 1) ≠ 0 → bt s ll = 1 ∧ popN s ll = 0 := fun q => by
    have h1 := low_sp _ hB q
    rw [← show ll = low (s &&& (2 ^ w - 1)) from hll, popN_lo, bt_and, bt_ones] at h1
    have h2 := bt_lt s ll
    by_cases c : ll < w
    · rw [if_pos c, show min w ll = ll by omega] at h1
      omega
    · rw [if_neg c] at h1
      omega
  have hiB : s &&& (2 ^ w - 1) ≠ 0 → bt s (hiN (s &&& (2 ^ w - 1)) 13) = 1 ∧ popN s (hiN (s &&& (2 ^ w - 1)) 13) + 1 = popN s w := fun q => by
    have h1 := hi_sp _ hB q
    rw [eB] at h1
    generalize hiN (s &&& (2 ^ w - 1)) 13 = a at *
    rw [popN_lo, bt_and, bt_ones] at h1
    have h2 := bt_lt s a
    by_cases c : a < w
    · rw [if_pos c, show min w a = a by omega] at h1
      omega
    · rw [if_neg c] at h1
      omega
  have lowU : bdiff s (s &&& (2 ^ w - 1)) ≠ 0 → bt s lu = 1 ∧ popN s lu = popN s w := fun q => by
    have h1 := low_sp _ hU q
    rw [← show lu = low (bdiff s (s &&& (2 ^ w - 1))) from hlu, bt_diff, bt_and, bt_ones] at h1
    have h2 := bt_lt s lu
    have h3 := popN_hi s w lu
    by_cases c : lu < w
    · rw [if_pos c] at h1
      omega
    · rw [show min w lu = w by omega] at h3
      rw [if_neg c] at h1
      omega
  have hiU : bdiff s (s &&& (2 ^ w - 1)) ≠ 0 → bt s (hiN (bdiff s (s &&& (2 ^ w - 1))) 13) = 1 ∧ popN s (hiN (bdiff s (s &&& (2 ^ w - 1))) 13) + 1 = pop s := fun q => by
    have h1 := hi_sp _ hU q
    generalize hiN (bdiff s (s &&& (2 ^ w - 1))) 13 = a at *
    rw [bt_diff, bt_and, bt_ones] at h1
    have h2 := bt_lt s a
    have h3 := popN_hi s w a
    by_cases c : a < w
    · rw [if_pos c] at h1
      omega
    · rw [show min w a = w by omega] at h3
      rw [if_neg c] at h1
      omega
  have c := lvC_c fx s w ll lu ln g
  rw [eB] at c
  generalize lvC fx s w ll lu ln g = a at *
  rcases c with ⟨⟨c1, c2⟩, c3⟩ | ⟨c1, ⟨c2, c3⟩, c4⟩ | ⟨c1, c2, c3⟩
  · rw [c3]
    have h1 := hiB c1
    exact ⟨h1.1, Or.inl ⟨by omega, c2, h1.2⟩⟩
  · rw [c4]
    have h1 := lowU c2
    refine ⟨h1.1, Or.inr (Or.inl ⟨fun q => c1 ⟨by omega, q.2⟩, ⟨by omega, c3⟩, h1.2⟩)⟩
  · have n1 : ¬ (0 < popN s w ∧ lnO ln (popN s w - 1) = laV fx g w) := fun q => c1 ⟨by omega, q.2⟩
    have n2 : ¬ (popN s w < pop s ∧ lnO ln (popN s w) = laV fx g w) := fun q => c2 ⟨by omega, q.2⟩
    rcases c3 with ⟨d1, d2⟩ | ⟨d1, d2⟩
    · rw [d2]
      have h1 := hiU (by omega)
      exact ⟨h1.1, Or.inr (Or.inr (Or.inl ⟨n1, n2, by omega, h1.2⟩))⟩
    · rw [d2]
      have h1 := lowB d1
      exact ⟨h1.1, Or.inr (Or.inr (Or.inr ⟨n1, n2, by omega, h1.2⟩))⟩
