/-! the reference's row and the class's POINTS, one and the same -/
def COK (th fx d w : Nat) (Y Q : Nat → Int) : Prop := th < 8192 ∧ fx < 8192 ∧ d ≤ 3 ∧ w < 2147483648 ∧ (∀ p, bt fx p ≤ bt th p) ∧ pop fx ≤ d ∧ pop th ≤ 8 ∧ (∀ p, p < 13 → -99 ≤ Y p ∧ Y p ≤ 99) ∧ qOK Q
def KR (R : Nat → Int) (th fx d w : Nat) (Y Q : Nat → Int) : Prop := (∀ p, p < 13 → R (p + 18) = (bt th p : Int) + (bt fx p : Int)) ∧ (∀ p, p < 13 → bt th p = 1 → R (p + 5) = Y p) ∧ (∀ p, p < 13 → -99 ≤ R (p + 5) ∧ R (p + 5) ≤ 99) ∧ (R 1 = Q 0 ∧ R 2 = Q 1 ∧ R 3 = Q 2) ∧ R 0 = (d : Int) ∧ R 4 = (w : Int)
theorem plB_cg {b c : Nat → Bool} : ∀ {k : Nat}, (∀ p, p < k → b p = c p) → plB b k = plB c k
  | 0, _ => rfl
  | k + 1, h => by
    have ih := plB_cg (k := k) (fun p hp => h p (by omega))
    have hk := h k (by omega)
    cases hb : b k with
    | true => rw [plB_t hb, plB_t (hk ▸ hb), ih]
    | false => rw [plB_f hb, plB_f (hk ▸ hb), ih]
theorem plB_n (m : Nat) : ∀ k, (plB (bB m) k).length = popN m k
  | 0 => rfl
  | k + 1 => by
    have ih := plB_n m k
    have hb := bt_lt m k
    by_cases h : bt m k = 1
    · have := pln_t (bB_t h)
      rw [popN]
      omega
    · rw [plB_f (bB_f h), ih, popN]
      omega
theorem nfP_app {l : List Nat} {p j : Nat} : nfP (l ++ [p]) j = if j < l.length then nfP l j else if j = l.length then p else 0 := by
  simp only [nfP, List.getD_eq_getElem?_getD]
  by_cases h : j < l.length
  · rw [if_pos h, List.getElem?_append_left h]
  · rw [if_neg h, List.getElem?_append_right (by omega)]
    by_cases e : j = l.length
    · rw [if_pos e, e, Nat.sub_self]
      rfl
    · rw [if_neg e, List.getElem?_eq_none (by simp only [List.length_cons, List.length_nil]; omega)]
      rfl
theorem nfP_al {l : List Nat} {p j : Nat} (h : j < l.length) : nfP (l ++ [p]) j = nfP l j := by rw [nfP_app, if_pos h]
theorem nfP_ae {l : List Nat} {p : Nat} : nfP (l ++ [p]) l.length = p := by rw [nfP_app, if_neg (Nat.lt_irrefl _), if_pos rfl]
/-- a count over the first nodes is a count over the places below -/
theorem nd_place (m : Nat) : ∀ k i, i < (plB (bB m) k).length → nfP (plB (bB m) k) i < k ∧ bt m (nfP (plB (bB m) k) i) = 1 ∧ popN m (nfP (plB (bB m) k) i) = i ∧ ∀ j, j < i → nfP (plB (bB m) (nfP (plB (bB m) k) i)) j = nfP (plB (bB m) k) j
  | 0, i, h => absurd h (Nat.not_lt_zero i)
  | k + 1, i, h => by
    by_cases hb : bt m k = 1
    · have e := plB_t (bB_t hb)
      have hl := plB_n m k
      rw [e] at h ⊢
      rw [List.length_append] at h
      simp only [List.length_cons, List.length_nil] at h
      by_cases hi : i < (plB (bB m) k).length
      · have ih := nd_place m k i hi
        rw [nfP_app, if_pos hi]
        refine ⟨by omega, ih.2.1, ih.2.2.1, fun j hj => ?_⟩
        rw [nfP_app, if_pos (by omega)]
        exact ih.2.2.2 j hj
      · have ei : i = (plB (bB m) k).length := by omega
        rw [nfP_app, if_neg hi, if_pos ei]
        refine ⟨by omega, hb, by omega, fun j hj => ?_⟩
        rw [nfP_app, if_pos (by omega)]
    · rw [plB_f (bB_f hb)] at h ⊢
      have ih := nd_place m k i h
      exact ⟨by omega, ih.2⟩
/-- every place of the set is a node -/
theorem pl_node (m : Nat) : ∀ k p, p < k → bt m p = 1 → ∃ i, i < (plB (bB m) k).length ∧ nfP (plB (bB m) k) i = p
  | 0, p, h, _ => absurd h (Nat.not_lt_zero p)
  | k + 1, p, h, hb => by
    by_cases e : p = k
    · subst e
      refine ⟨(plB (bB m) p).length, ?_, ?_⟩
      · have := pln_t (bB_t hb)
        omega
      · rw [plB_t (bB_t hb), nfP_app, if_neg (by omega), if_pos rfl]
    · obtain ⟨i, h1, h2⟩ := pl_node m k p (by omega) hb
      refine ⟨i, ?_, ?_⟩
      · have := pln_mono (bB m) (show k ≤ k + 1 by omega)
        omega
      · by_cases hk : bt m k = 1
        · rw [plB_t (bB_t hk), nfP_app, if_pos h1, h2]
        · rw [plB_f (bB_f hk), h2]
/-- a sum over nodes is a sum over places -/
def sumP (m : Nat) (g : Nat → Int) : Nat → Int
  | 0 => 0
  | k + 1 => sumP m g k + (if bt m k = 1 then g k else 0)
theorem sum_nodes (m : Nat) (g : Nat → Int) : ∀ k, sumN (fun i => g (nfP (plB (bB m) k) i)) (plB (bB m) k).length = sumP m g k
  | 0 => rfl
  | k + 1 => by
    have ih := sum_nodes m g k
    rw [sumP]
    by_cases hb : bt m k = 1
    · rw [plB_t (bB_t hb), List.length_append, if_pos hb]
      show sumN (fun i => g (nfP (plB (bB m) k ++ [k]) i)) ((plB (bB m) k).length + 1) = _
      rw [sumN, nfP_app, if_neg (by omega), if_pos rfl]
      rw [← ih]
      congr 1
      exact sumN_congr (fun i hi => by rw [nfP_app, if_pos hi])
    · rw [plB_f (bB_f hb), if_neg hb, ih, Int.add_zero]
/-- how many of the first nodes are not fixed: the rank -/
theorem frK_pl {fx s : Nat} (hs : ∀ p, bt s p = 1 → bt fx p = 0) : ∀ k, frK fx (plB (bB (s ||| fx)) k) (plB (bB (s ||| fx)) k).length = popN s k
  | 0 => rfl
  | k + 1 => by
    have ih := frK_pl hs k
    have h1 := bt_lt s k
    have h2 := bt_lt fx k
    have h3 := bt_or s fx k
    have h4 := hs k
    rw [popN]
    by_cases hb : bt (s ||| fx) k = 1
    · rw [plB_t (bB_t hb), List.length_append]
      show frK fx (plB (bB (s ||| fx)) k ++ [k]) ((plB (bB (s ||| fx)) k).length + 1) = _
      have e : ∀ i, i ≤ (plB (bB (s ||| fx)) k).length → frK fx (plB (bB (s ||| fx)) k ++ [k]) i = frK fx (plB (bB (s ||| fx)) k) i := by
        intro i
        induction i with
        | zero => intro _; rfl
        | succ i ihi => intro hi; rw [frK, frK, ihi (by omega), nfP_al hi]
      rw [frK, e _ (Nat.le_refl _), ih, nfP_ae]
      split <;> omega
    · rw [plB_f (bB_f hb), ih]
      omega
theorem frK_cg {fx : Nat} {l l2 : List Nat} : ∀ {i : Nat}, (∀ j, j < i → nfP l j = nfP l2 j) → frK fx l i = frK fx l2 i
  | 0, _ => rfl
  | i + 1, h => by rw [frK, frK, frK_cg (i := i) (fun j hj => h j (by omega)), h i (by omega)]
theorem frK_rank {fx s i : Nat} (hs : ∀ p, bt s p = 1 → bt fx p = 0) (hi : i < (clL fx s).length) : frK fx (clL fx s) i = popN s (nfP (clL fx s) i) := by
  have h := nd_place (s ||| fx) 13 i hi
  have h2 := frK_pl hs (nfP (clL fx s) i)
  have h3 : (plB (bB (s ||| fx)) (nfP (clL fx s) i)).length = i := (plB_n (s ||| fx) _).trans h.2.2.1
  rw [h3] at h2
  rw [← h2]
  exact frK_cg (fun j hj => (h.2.2.2 j hj).symm)
section
variable {R : Nat → Int} {th fx d w : Nat} {Y Q : Nat → Int}
theorem KR_qv (hK : KR R th fx d w Y Q) (x : Int) : qv (fun j => R (j + 1)) x = qv Q x := by
  obtain ⟨-, -, -, ⟨h1, h2, h3⟩, -⟩ := hK
  show R 1 + R 2 * x + R 3 * x * x = Q 0 + Q 1 * x + Q 2 * x * x
  rw [h1, h2, h3]
theorem KR_m0 (hK : KR R th fx d w Y Q) (hC : COK th fx d w Y Q) : ∀ k, k ≤ 13 → manyN R 0 k = popN th k
  | 0, _ => rfl
  | k + 1, hk => by
    have ih := KR_m0 hK hC k (by omega)
    have h1 := hK.1 k (by omega)
    have h2 := hC.2.2.2.2.1 k
    have h3 := bt_lt th k
    rw [manyN, popN, ih]
    split <;> omega
theorem KR_m2 (hK : KR R th fx d w Y Q) (hC : COK th fx d w Y Q) : ∀ k, k ≤ 13 → manyN R 2 k = popN fx k
  | 0, _ => rfl
  | k + 1, hk => by
    have ih := KR_m2 hK hC k (by omega)
    have h1 := hK.1 k (by omega)
    have h2 := hC.2.2.2.2.1 k
    have h3 := bt_lt th k
    rw [manyN, popN, ih]
    split <;> omega
theorem KR_m1 (hK : KR R th fx d w Y Q) (hC : COK th fx d w Y Q) : ∀ k, k ≤ 13 → manyN R 1 k = popN (bdiff th fx) k
  | 0, _ => rfl
  | k + 1, hk => by
    have ih := KR_m1 hK hC k (by omega)
    have h1 := hK.1 k (by omega)
    have h2 := hC.2.2.2.2.1 k
    have h3 := bt_lt th k
    have h4 := bt_diff th fx k
    rw [manyN, popN, ih]
    split <;> omega
theorem KR_qOK (hK : KR R th fx d w Y Q) (hC : COK th fx d w Y Q) : qOK (fun j => R (j + 1)) := by
  obtain ⟨-, -, -, ⟨h1, h2, h3⟩, -⟩ := hK
  have h4 := hC.2.2.2.2.2.2.2.2
  show (-3 ≤ R 1 ∧ R 1 ≤ 3) ∧ (-3 ≤ R 2 ∧ R 2 ≤ 3) ∧ (-3 ≤ R 3 ∧ R 3 ≤ 3)
  rw [h1, h2, h3]
  exact h4
theorem KR_ROK (hK : KR R th fx d w Y Q) (hC : COK th fx d w Y Q) : ROK R := by
  have h0 := KR_m0 hK hC 13 (by decide)
  have h2 := KR_m2 hK hC 13 (by decide)
  have hq := KR_qOK hK hC
  obtain ⟨k1, k2, k3, k4, k5, k6⟩ := hK
  obtain ⟨c1, c2, c3, c4, c5, c6, c7, c8, c9⟩ := hC
  refine ⟨fun p hp => ?_, by omega, hq, k3, ?_, ?_, by omega⟩
  · have := k1 p hp
    have := bt_lt th p
    have := bt_lt fx p
    omega
  · rw [h0]
    exact c7
  · rw [h2, k5]
    exact Int.ofNat_le.mpr c6
/-- what makes a reference, of the class's sets -/
theorem KR_ref (hK : KR R th fx d w Y Q) (hC : COK th fx d w Y Q) {s : Nat} (hs : s < 8192) : refP R s ↔ (∀ p, bt s p = 1 → bt th p = 1 ∧ bt fx p = 0) ∧ (pop s : Int) = (d : Int) + 2 - (pop fx : Int) := by
  have h2 := KR_m2 hK hC 13 (by decide)
  have hd := hK.2.2.2.2.1
  have hb : ∀ p, 13 ≤ p → bt s p = 0 := fun p hp => bt_big (k := 13) hs hp
  unfold refP
  rw [h2, hd]
  constructor
  · rintro ⟨a, b⟩
    refine ⟨fun p hp => ?_, b⟩
    by_cases h13 : p < 13
    · have := a p h13 hp
      have h1 := hK.1 p h13
      have h3 := hC.2.2.2.2.1 p
      have h4 := bt_lt th p
      omega
    · have := hb p (by omega)
      omega
  · rintro ⟨a, b⟩
    refine ⟨fun p h13 hp => ?_, b⟩
    have := a p hp
    have h1 := hK.1 p h13
    omega
theorem KR_l (hK : KR R th fx d w Y Q) (hC : COK th fx d w Y Q) {s : Nat} (hs : s < 8192) (hr : refP R s) : lOf R s = clL fx s := by
  have h := ((KR_ref hK hC hs).mp hr).1
  refine plB_cg (fun p hp => ?_)
  have h1 := hK.1 p hp
  have h2 := hC.2.2.2.2.1 p
  have h3 := bt_lt th p
  have h4 := bt_lt s p
  have h5 := bt_or s fx p
  have h6 := h p
  unfold selB bB
  refine decide_eq_decide.mpr ⟨fun q => ?_, fun q => ?_⟩ <;> omega
theorem pop_or {a b : Nat} (h : ∀ p, bt a p = 1 → bt b p = 0) : ∀ k, popN (a ||| b) k = popN a k + popN b k
  | 0 => rfl
  | k + 1 => by
    have ih := pop_or h k
    have h1 := bt_or a b k
    have h2 := h k
    have h3 := bt_lt a k
    have h4 := bt_lt b k
    rw [popN, popN, popN, ih]
    omega
/-- a reference's nodes are d and 2 -/
theorem ref_len (hK : KR R th fx d w Y Q) (hC : COK th fx d w Y Q) {s : Nat} (hs : s < 8192) (hr : refP R s) : (clL fx s).length = d + 2 := by
  have h := (KR_ref hK hC hs).mp hr
  have h1 := plB_n (s ||| fx) 13
  have h2 := pop_or (a := s) (b := fx) (fun p hp => (h.1 p hp).2) 13
  have h3 := h.2
  unfold pop at h3
  unfold clL
  omega
end
