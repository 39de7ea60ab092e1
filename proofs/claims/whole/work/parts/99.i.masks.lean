/-! masks of a list of places, and the sets that they stand for -/
theorem or_add (k : Nat) (_ : k < 14) (t : Nat) (ht : t < 2 ^ k) : t ||| 2 ^ k = t + 2 ^ k := by
  have h := Nat.two_pow_add_eq_or_of_lt ht 1
  rw [Nat.mul_one] at h
  rw [Nat.or_comm, ← h, Nat.add_comm]
theorem zbt0 (p : Nat) : bt 0 p = 0 := by
  unfold bt
  rw [Nat.zero_div]
theorem bt_one {n p : Nat} (h : bt n p ≠ 0) : bt n p = 1 := by
  have := bt_lt n p
  omega
theorem sumN_split (G : Nat → Int) (a : Nat) : ∀ b, sumN G (a + b) = sumN G a + sumN (fun i => G (a + i)) b
  | 0 => (Int.add_zero _).symm
  | b + 1 => by
    show sumN G (a + b) + G (a + b) = sumN G a + (sumN (fun i => G (a + i)) b + G (a + b))
    rw [sumN_split G a b]
    omega
/-- the places of a list below k -/
def lk (f k : Nat) : List Nat := plB (bB f) k
theorem lk_len (f k : Nat) : (lk f k).length = popN f k := plB_n f k
theorem lk_t {f k : Nat} (h : bt f k = 1) : lk f (k + 1) = lk f k ++ [k] := plB_t (bB_t h)
theorem lk_f {f k : Nat} (h : ¬ bt f k = 1) : lk f (k + 1) = lk f k := plB_f (bB_f h)
theorem soN_cg {l l2 : List Nat} {m m2 : Nat} : ∀ {i : Nat}, (∀ j, j < i → nfP l j = nfP l2 j) → (∀ j, j < i → bt m j = bt m2 j) → soN l m i = soN l2 m2 i
  | 0, _, _ => rfl
  | i + 1, h1, h2 => by rw [soN, soN, soN_cg (i := i) (fun j hj => h1 j (by omega)) (fun j hj => h2 j (by omega)), h1 i (by omega), h2 i (by omega)]
theorem soN_bt {l : List Nat} {m p : Nat} : ∀ {i : Nat}, (bt (soN l m i) p = 1 ↔ ∃ j, j < i ∧ bt m j = 1 ∧ nfP l j = p)
  | 0 => ⟨fun q => by rw [soN, zbt0] at q; omega, fun ⟨j, hj, _⟩ => absurd hj (Nat.not_lt_zero j)⟩
  | i + 1 => by
    have ih := soN_bt (l := l) (m := m) (p := p) (i := i)
    rw [soN]
    by_cases c : bt m i = 1
    · rw [if_pos c, bt_or, bt_pow]
      constructor
      · intro q
        by_cases e : nfP l i = p
        · exact ⟨i, Nat.lt_succ_self i, c, e⟩
        · rw [if_neg e] at q
          obtain ⟨j, h1, h2⟩ := ih.mp (by omega)
          exact ⟨j, by omega, h2⟩
      · rintro ⟨j, h1, h2, h3⟩
        have hb := bt_lt (soN l m i) p
        by_cases e : j = i
        · rw [← h3, e, if_pos rfl]
          rw [← h3, e] at hb
          omega
        · have := ih.mpr ⟨j, by omega, h2, h3⟩
          rw [this]
          split <;> rfl
    · rw [if_neg c]
      constructor
      · intro q
        obtain ⟨j, h1, h2⟩ := ih.mp q
        exact ⟨j, by omega, h2⟩
      · rintro ⟨j, h1, h2, h3⟩
        have : j ≠ i := fun e => c (e ▸ h2)
        exact ih.mpr ⟨j, by omega, h2, h3⟩
theorem lk_lt {f k j : Nat} (h : j < (lk f k).length) : nfP (lk f k) j < k ∧ bt f (nfP (lk f k) j) = 1 := by
  have := nd_place f k j h
  exact ⟨this.1, this.2.1⟩
theorem lk_inj {f k i j : Nat} (hi : i < (lk f k).length) (hj : j < (lk f k).length) (h : nfP (lk f k) i = nfP (lk f k) j) : i = j := by
  have h1 := (nd_place f k i hi).2.2.1
  have h2 := (nd_place f k j hj).2.2.1
  have h3 : nfP (plB (bB f) k) i = nfP (plB (bB f) k) j := h
  rw [h3] at h1
  omega
theorem soN_one {f k m j : Nat} (hj : j < (lk f k).length) : bt (soN (lk f k) m (lk f k).length) (nfP (lk f k) j) = 1 ↔ bt m j = 1 := by
  rw [soN_bt]
  constructor
  · rintro ⟨i, h1, h2, h3⟩
    rw [lk_inj h1 hj h3] at h2
    exact h2
  · intro h
    exact ⟨j, hj, h, rfl⟩
theorem soN_in {f k m p : Nat} (h : bt (soN (lk f k) m (lk f k).length) p = 1) : p < k ∧ bt f p = 1 := by
  obtain ⟨j, h1, -, h3⟩ := soN_bt.mp h
  rw [← h3]
  exact lk_lt h1
/-- a set of free places has a mask -/
theorem soN_to {f t : Nat} (ht : t < 8192) (hs : ∀ p, bt t p = 1 → bt f p = 1) (h8 : (lk f 13).length ≤ 8) : ∃ m, m < 2 ^ (lk f 13).length ∧ soN (lk f 13) m (lk f 13).length = t := by
  refine ⟨mkN (fun j => decide (bt t (nfP (lk f 13) j) = 1)) (lk f 13).length, mkN_lt2 _ _, ?_⟩
  have hb : ∀ j, j < (lk f 13).length → (bt (mkN (fun j => decide (bt t (nfP (lk f 13) j) = 1)) (lk f 13).length) j = 1 ↔ bt t (nfP (lk f 13) j) = 1) := fun j hj => by
    rw [bt_mkN]
    by_cases c : bt t (nfP (lk f 13) j) = 1
    · rw [if_pos ⟨hj, decide_eq_true c⟩]
      exact ⟨fun _ => c, fun _ => rfl⟩
    · rw [if_neg (fun q => c (of_decide_eq_true q.2))]
      exact ⟨fun q => by omega, fun q => absurd q c⟩
  refine bt_ext (soN_lt (fun j hj => (lk_lt hj).1) _ (Nat.le_refl _)) ht (fun p hp => ?_)
  have h1 := bt_lt (soN (lk f 13) (mkN (fun j => decide (bt t (nfP (lk f 13) j) = 1)) (lk f 13).length) (lk f 13).length) p
  have h2 := bt_lt t p
  have h3 : bt (soN (lk f 13) (mkN (fun j => decide (bt t (nfP (lk f 13) j) = 1)) (lk f 13).length) (lk f 13).length) p = 1 ↔ bt t p = 1 := by
    constructor
    · intro q
      obtain ⟨j, j1, j2, j3⟩ := soN_bt.mp q
      rw [← j3]
      exact (hb j j1).mp j2
    · intro q
      obtain ⟨j, j1, j2⟩ := pl_node f 13 p hp (hs p q)
      have j3 : nfP (lk f 13) j = p := j2
      rw [← j3] at q ⊢
      exact (soN_one j1).mpr ((hb j j1).mpr q)
  by_cases c : bt t p = 1
  · rw [h3.mpr c, c]
  · have : ¬ bt (soN (lk f 13) (mkN (fun j => decide (bt t (nfP (lk f 13) j) = 1)) (lk f 13).length) (lk f 13).length) p = 1 := fun q => c (h3.mp q)
    omega
theorem soN_pop {f m : Nat} : ∀ i, i ≤ (lk f 13).length → pop (soN (lk f 13) m i) = popN m i
  | 0, _ => by
    show pop 0 = 0
    decide
  | i + 1, hi => by
    have ih := soN_pop (f := f) (m := m) i (by omega)
    rw [soN, popN]
    by_cases c : bt m i = 1
    · rw [if_pos c, c, ← ih]
      refine pop_in (lk_lt (show i < (lk f 13).length by omega)).1 ?_
      have hb := bt_lt (soN (lk f 13) m i) (nfP (lk f 13) i)
      by_cases q : bt (soN (lk f 13) m i) (nfP (lk f 13) i) = 1
      · obtain ⟨j, h1, h2, h3⟩ := soN_bt.mp q
        have := lk_inj (show j < (lk f 13).length by omega) (show i < (lk f 13).length by omega) h3
        omega
      · omega
    · rw [if_neg c, ih]
      have := bt_lt m i
      omega
theorem pop_hi0 {m n : Nat} (h : m < 2 ^ n) : ∀ k, n ≤ k → popN m k = popN m n
  | 0, hk => by rw [Nat.le_zero.mp hk]
  | k + 1, hk => by
    by_cases e : n = k + 1
    · rw [e]
    · rw [popN, pop_hi0 h k (by omega), bt_big h (by omega)]
      omega
/-- all sets of free places by their masks -/
theorem sum_masks (f : Nat) : ∀ k, k ≤ 13 → popN f k ≤ 8 → ∀ G : Nat → Int, sumN (fun t => if bdiff t f = 0 then G t else 0) (2 ^ k) = sumN (fun m => G (soN (lk f k) m (lk f k).length)) (2 ^ (lk f k).length)
  | 0, _, _, G => by
    show (0 : Int) + (if bdiff 0 f = 0 then G 0 else 0) = 0 + G 0
    have e : bdiff 0 f = 0 := bt_ext (bd_lt (by decide)) (by decide) (fun p _ => by rw [bt_diff, zbt0]; exact Nat.zero_sub _)
    rw [if_pos e]
  | k + 1, hk, h8, G => by
    have e0 : popN f (k + 1) = popN f k + bt f k := rfl
    have ih := sum_masks f k (by omega) (by omega)
    have hkk : ∀ t, t < 2 ^ k → t ||| 2 ^ k = t + 2 ^ k := or_add k (by omega)
    have hk13 : 2 ^ k ≤ 4096 := Nat.pow_le_pow_right (n := 2) (j := 12) (by decide) (by omega)
    rw [show 2 ^ (k + 1) = 2 ^ k + 2 ^ k from by rw [Nat.pow_succ]; omega, sumN_split, ih G]
    by_cases c : bt f k = 1
    · have hl : (lk f (k + 1)).length = (lk f k).length + 1 := by
        rw [lk_t c, List.length_append]
        rfl
      rw [hl, show 2 ^ ((lk f k).length + 1) = 2 ^ (lk f k).length + 2 ^ (lk f k).length from by rw [Nat.pow_succ]; omega, sumN_split]
      have hlen := lk_len f k
      have hn8 : ∀ m, m < 2 ^ (lk f k).length → m ||| 2 ^ (lk f k).length = m + 2 ^ (lk f k).length := or_add _ (by omega)
      have hpl : ∀ j, j < (lk f k).length → nfP (lk f (k + 1)) j = nfP (lk f k) j := fun j hj => by rw [lk_t c, nfP_al hj]
      have hpe : nfP (lk f (k + 1)) (lk f k).length = k := by rw [lk_t c, nfP_ae]
      congr 1
      · refine sumN_congr (fun m hm => ?_)
        rw [soN, bt_big hm (Nat.le_refl _), if_neg (by decide)]
        exact congrArg G (soN_cg hpl (fun j _ => rfl)).symm
      · have e1 : sumN (fun i => if bdiff (2 ^ k + i) f = 0 then G (2 ^ k + i) else 0) (2 ^ k) = sumN (fun t => if bdiff t f = 0 then G (t ||| 2 ^ k) else 0) (2 ^ k) := sumN_congr (fun t ht => by
          have h1 := hkk t ht
          have h2 : bdiff (2 ^ k + t) f = 0 ↔ bdiff t f = 0 := by
            rw [Nat.add_comm, ← h1, bd_zero (or_lt (by omega) (pw_lt (by omega))), bd_zero (by omega)]
            constructor
            · intro h p hp hb
              exact h p hp (by rw [bt_or, hb]; have := bt_lt (2 ^ k) p; omega)
            · intro h p hp hb
              rw [bt_or, bt_pow] at hb
              by_cases e : k = p
              · rw [← e]
                exact c
              · rw [if_neg e] at hb
                exact h p hp (by omega)
          rw [Nat.add_comm] at h2 ⊢
          rw [← h1] at h2 ⊢
          by_cases z : bdiff t f = 0
          · rw [if_pos z, if_pos (h2.mpr z)]
          · rw [if_neg z, if_neg (fun q => z (h2.mp q))])
        rw [e1, ih (fun t => G (t ||| 2 ^ k))]
        refine sumN_congr (fun m hm => ?_)
        have h1 := hn8 m hm
        have hb : bt (m ||| 2 ^ (lk f k).length) (lk f k).length = 1 := by
          rw [bt_or, bt_pow, if_pos rfl, bt_big hm (Nat.le_refl _)]
          rfl
        show G (soN (lk f k) m (lk f k).length ||| 2 ^ k) = G (soN (lk f (k + 1)) (2 ^ (lk f k).length + m) ((lk f k).length + 1))
        rw [Nat.add_comm (2 ^ (lk f k).length), ← h1, soN, if_pos hb, hpe]
        refine congrArg (fun z => G (z ||| 2 ^ k)) (soN_cg (fun j hj => (hpl j hj).symm) (fun j hj => ?_))
        rw [bt_or, bt_pow, if_neg (by omega)]
        omega
    · rw [lk_f c]
      have e1 : sumN (fun i => if bdiff (2 ^ k + i) f = 0 then G (2 ^ k + i) else 0) (2 ^ k) = 0 := sumN_zero (fun t ht => by
        have h1 := hkk t ht
        rw [if_neg]
        rw [Nat.add_comm, ← h1, bd_zero (or_lt (by omega) (pw_lt (by omega)))]
        intro h
        have h2 := h k (by omega) (by rw [bt_or, bt_pow, if_pos rfl]; have := bt_lt t k; omega)
        exact c h2)
      rw [e1, Int.add_zero]
/-! what the class makes of its marks -/
theorem spI_all {SF : Nat → Int} {k : Nat} : ∀ M j, spI SF k M j = if j < M ∧ bt j k = 1 ∧ SF (j ^^^ 2 ^ k) ≠ 0 then 1 else SF j
  | 0, j => by
    rw [if_neg (fun q => Nat.not_lt_zero j q.1)]
    rfl
  | M + 1, j => by
    have hx : ∀ M, bt M k = 1 → bt (M ^^^ 2 ^ k) k = 0 := fun M h => by
      rw [bt_xp, if_pos rfl, h]
    rw [spI]
    by_cases c : bt M k = 1
    · have e : spI SF k M (M ^^^ 2 ^ k) = SF (M ^^^ 2 ^ k) := by
        rw [spI_all M, if_neg (fun q => by have := hx M c; omega)]
      rw [e]
      by_cases d : SF (M ^^^ 2 ^ k) ≠ 0
      · rw [if_pos ⟨c, d⟩]
        by_cases z : j = M
        · rw [z, vu_same, if_pos ⟨Nat.lt_succ_self M, c, d⟩]
        · rw [vu_ne _ _ z, spI_all M]
          by_cases q : j < M ∧ bt j k = 1 ∧ SF (j ^^^ 2 ^ k) ≠ 0
          · rw [if_pos q, if_pos ⟨by omega, q.2⟩]
          · rw [if_neg q, if_neg (fun q2 => q ⟨by omega, q2.2⟩)]
      · rw [if_neg (fun q => d q.2), spI_all M]
        by_cases q : j < M ∧ bt j k = 1 ∧ SF (j ^^^ 2 ^ k) ≠ 0
        · rw [if_pos q, if_pos ⟨by omega, q.2⟩]
        · rw [if_neg q, if_neg (fun q2 => by
            by_cases z : j = M
            · rw [z] at q2
              exact d q2.2.2
            · exact q ⟨by omega, q2.2⟩)]
    · rw [if_neg (fun q => c q.1), spI_all M]
      by_cases q : j < M ∧ bt j k = 1 ∧ SF (j ^^^ 2 ^ k) ≠ 0
      · rw [if_pos q, if_pos ⟨by omega, q.2⟩]
      · rw [if_neg q, if_neg (fun q2 => by
          by_cases z : j = M
          · rw [z] at q2
            exact c q2.2.1
          · exact q ⟨by omega, q2.2⟩)]
theorem spA_all {SF : Nat → Int} {n : Nat} (hn : n ≤ 8) : ∀ K, K ≤ n → ∀ m, m < 2 ^ n → (spA SF (2 ^ n) K m ≠ 0 ↔ ∃ m2, m2 < 2 ^ n ∧ SF m2 ≠ 0 ∧ (∀ j, j < K → bt m2 j ≤ bt m j) ∧ ∀ j, K ≤ j → bt m2 j = bt m j)
  | 0, _, m, hm => by
    have h8 := pw8 hn
    show SF m ≠ 0 ↔ _
    constructor
    · intro h
      exact ⟨m, hm, h, fun j hj => absurd hj (Nat.not_lt_zero j), fun j _ => rfl⟩
    · rintro ⟨m2, h1, h2, -, h4⟩
      have e : m2 = m := bt_ext (by omega) (by omega) (fun p _ => h4 p (Nat.zero_le p))
      rw [← e]
      exact h2
  | K + 1, hK, m, hm => by
    have ih := spA_all (SF := SF) hn K (by omega)
    have e : spA SF (2 ^ n) (K + 1) m = spI (spA SF (2 ^ n) K) K (2 ^ n) m := rfl
    rw [e, spI_all]
    have hbm := bt_lt m K
    by_cases c : bt m K = 1 ∧ spA SF (2 ^ n) K (m ^^^ 2 ^ K) ≠ 0
    · rw [if_pos ⟨hm, c⟩]
      have hx : m ^^^ 2 ^ K < 2 ^ n := xor8 rfl hm (by omega)
      obtain ⟨m2, h1, h2, h3, h4⟩ := (ih _ hx).mp c.2
      refine ⟨fun _ => ⟨m2, h1, h2, fun j hj => ?_, fun j hj => ?_⟩, fun _ => by decide⟩
      · by_cases z : j = K
        · rw [z]
          have := bt_lt m2 K
          omega
        · have h5 := h3 j (by omega)
          rw [bt_xp, if_neg z] at h5
          exact h5
      · have h5 := h4 j (by omega)
        rw [bt_xp, if_neg (by omega)] at h5
        exact h5
    · rw [if_neg (fun q => c q.2), ih m hm]
      constructor
      · rintro ⟨m2, h1, h2, h3, h4⟩
        refine ⟨m2, h1, h2, fun j hj => ?_, fun j hj => h4 j (by omega)⟩
        by_cases z : j = K
        · rw [z, h4 K (Nat.le_refl K)]
          exact Nat.le_refl _
        · exact h3 j (by omega)
      · rintro ⟨m2, h1, h2, h3, h4⟩
        have h5 := h3 K (Nat.lt_succ_self K)
        by_cases z : bt m2 K = bt m K
        · refine ⟨m2, h1, h2, fun j hj => h3 j (by omega), fun j hj => ?_⟩
          by_cases y : j = K
          · rw [y]
            exact z
          · exact h4 j (by omega)
        · have hb2 := bt_lt m2 K
          refine absurd ⟨by omega, (ih _ (xor8 rfl hm (by omega))).mpr ⟨m2, h1, h2, fun j hj => ?_, fun j hj => ?_⟩⟩ c
          · rw [bt_xp, if_neg (by omega)]
            exact h3 j (by omega)
          · rw [bt_xp]
            by_cases y : j = K
            · rw [if_pos y, y]
              omega
            · rw [if_neg y]
              exact h4 j (by omega)
theorem wy_up {W H : Nat → Int} {e : Int} {j : Nat} : ∀ {N : Nat}, j < N → sumN (fun i => va_up W j (W j + e) i * H i) N = sumN (fun i => W i * H i) N + e * H j
  | 0, h => absurd h (Nat.not_lt_zero j)
  | N + 1, h => by
    rw [sumN, sumN]
    by_cases c : j = N
    · subst c
      rw [vu_same, Int.add_mul]
      have e1 : sumN (fun i => va_up W j (W j + e) i * H i) j = sumN (fun i => W i * H i) j := sumN_congr (fun i hi => by rw [vu_ne _ _ (by omega)])
      rw [e1]
      omega
    · rw [wy_up (N := N) (by omega), vu_ne _ _ (show N ≠ j by omega)]
      omega
theorem wy_all {WY SF H : Nat → Int} {N : Nat} (hN : N ≤ 9) : ∀ M, (∀ m, m < M → pop m < N) → sumN (fun i => wyA WY SF M i * H i) N = sumN (fun m => (if SF m ≠ 0 then 1 else 0) * H (pop m)) M
  | 0, _ => by
    show sumN (fun i => cpF zF WY 9 i * H i) N = 0
    refine sumN_zero (fun i hi => ?_)
    have e : cpF zF WY 9 i = 0 := if_pos (by omega)
    rw [e, Int.zero_mul]
  | M + 1, h => by
    have ih := wy_all (WY := WY) (SF := SF) (H := H) hN M (fun m hm => h m (by omega))
    rw [sumN, ← ih]
    exact wy_up (h M (Nat.lt_succ_self M))
theorem ab_sum (W : Nat → Int) (c : Int) (f : Nat) : ∀ i, abN W c f i = sumN (fun i => W i * (pwZ (10 - c) i * pwZ c (f - i))) i
  | 0 => rfl
  | i + 1 => by
    rw [abN, sumN, ab_sum W c f i, Int.mul_assoc]
theorem pr_pw {c : Int} {f t : Nat} (h : ∀ p, bt t p = 1 → bt f p = 1) : ∀ k, popN t k ≤ popN f k ∧ prN c f t k = pwZ (10 - c) (popN t k) * pwZ c (popN f k - popN t k)
  | 0 => ⟨Nat.le_refl 0, rfl⟩
  | k + 1 => by
    obtain ⟨h1, h2⟩ := pr_pw (c := c) h k
    have b1 := bt_lt f k
    have b2 := bt_lt t k
    have h3 := h k
    rw [popN, popN, prN, h2]
    by_cases a : bt f k = 0
    · rw [if_pos a, Int.mul_one, a, show bt t k = 0 from by omega]
      exact ⟨by omega, rfl⟩
    · rw [if_neg a, show bt f k = 1 from by omega]
      by_cases b : bt t k = 1
      · rw [if_pos b, b]
        refine ⟨by omega, ?_⟩
        rw [show popN f k + 1 - (popN t k + 1) = popN f k - popN t k from by omega, pwZ]
        ac_rfl
      · rw [if_neg b, show bt t k = 0 from by omega]
        refine ⟨by omega, ?_⟩
        rw [show popN f k + 1 - (popN t k + 0) = (popN f k - popN t k) + 1 from by omega, pwZ, Nat.add_zero]
        ac_rfl
theorem pw10_z : ∀ n, pw10 n = pwZ 10 n
  | 0 => rfl
  | n + 1 => by rw [pw10, pwZ, pw10_z n]
theorem an_all (l : List Nat) (t : Nat) : ∀ j, (anV l t j ≠ 0 ↔ ∃ i, i < j ∧ t &&& nfP l i = nfP l i)
  | 0 => ⟨fun q => absurd rfl q, fun ⟨i, hi, _⟩ => absurd hi (Nat.not_lt_zero i)⟩
  | j + 1 => by
    have ih := an_all l t j
    rw [anV]
    by_cases c : anV l t j ≠ 0 ∨ t &&& nfP l j = nfP l j
    · rw [if_pos c]
      refine ⟨fun _ => ?_, fun _ => by decide⟩
      rcases c with c | c
      · obtain ⟨i, h1, h2⟩ := ih.mp c
        exact ⟨i, by omega, h2⟩
      · exact ⟨j, Nat.lt_succ_self j, c⟩
    · rw [if_neg c]
      refine ⟨fun q => absurd rfl q, fun ⟨i, h1, h2⟩ => ?_⟩
      by_cases z : i = j
      · rw [z] at h2
        exact absurd (Or.inr h2) c
      · exact absurd (Or.inl (ih.mpr ⟨i, by omega, h2⟩)) c
theorem and_sub {t s : Nat} (hs : s < 8192) : t &&& s = s ↔ ∀ p, p < 13 → bt s p = 1 → bt t p = 1 := by
  constructor
  · intro h p hp hb
    have h1 := bt_and t s p
    rw [h, hb] at h1
    have := bt_lt t p
    omega
  · intro h
    refine bt_ext (Nat.lt_of_le_of_lt Nat.and_le_right hs) hs (fun p hp => ?_)
    rw [bt_and]
    have h1 := h p hp
    have h2 := bt_lt s p
    have h3 := bt_lt t p
    by_cases c : bt s p = 1
    · have := h1 c
      omega
    · omega
