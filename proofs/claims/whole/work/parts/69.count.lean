/-! a bounded number of references; the first -/
/-- the subsets of f below k that have m places -/
def subL (f : Nat) : Nat → Nat → List Nat
  | 0, 0 => [0]
  | 0, _ + 1 => []
  | k + 1, 0 => subL f k 0
  | k + 1, m + 1 => if bt f k = 1 then subL f k (m + 1) ++ (subL f k m).map (fun x => x ||| 2 ^ k) else subL f k (m + 1)
def bino : Nat → Nat → Nat
  | 0, 0 => 1
  | 0, _ + 1 => 0
  | _ + 1, 0 => 1
  | n + 1, m + 1 => bino n (m + 1) + bino n m
theorem bino_0 (n : Nat) : bino n 0 = 1 := by
  cases n <;> rfl
theorem bino_70 : ∀ n, n < 9 → ∀ m, m < 6 → bino n m ≤ 70 := by decide
theorem subL_len (f : Nat) : ∀ k m, (subL f k m).length ≤ bino (popN f k) m
  | 0, 0 => Nat.le_refl 1
  | 0, _ + 1 => Nat.zero_le _
  | k + 1, 0 => by
    have h := subL_len f k 0
    rw [bino_0] at h ⊢
    exact h
  | k + 1, m + 1 => by
    have h1 := subL_len f k (m + 1)
    have h2 := subL_len f k m
    have e : popN f (k + 1) = popN f k + bt f k := rfl
    have hb := bt_lt f k
    rw [subL]
    by_cases q : bt f k = 1
    · rw [if_pos q, List.length_append, List.length_map, show popN f (k + 1) = popN f k + 1 by omega, bino]
      omega
    · rw [if_neg q, show popN f (k + 1) = popN f k by omega]
      exact h1
theorem subL_mem {f : Nat} : ∀ {k s m : Nat}, k ≤ 13 → s < 8192 → (∀ p, bt s p = 1 → p < k ∧ bt f p = 1) → popN s k = m → s ∈ subL f k m
  | 0, s, m, _, hs, hb, hm => by
    have e : s = 0 := bt_ext hs (by decide) (fun p _ => by
      have h1 := bt_lt s p
      have h2 : bt 0 p = 0 := by
        unfold bt
        rw [Nat.zero_div]
      by_cases q : bt s p = 1
      · exact absurd (hb p q).1 (Nat.not_lt_zero p)
      · omega)
    have e2 : m = 0 := hm.symm
    rw [e, e2]
    exact List.mem_singleton.mpr rfl
  | k + 1, s, m, hk, hs, hb, hm => by
    have e : popN s (k + 1) = popN s k + bt s k := rfl
    have hbk := bt_lt s k
    by_cases q : bt s k = 1
    · have h1 : ∀ p, bt (bdiff s (2 ^ k)) p = 1 → p < k ∧ bt f p = 1 := fun p hp => by
        rw [bt_diff, bt_pow] at hp
        have hps := bt_lt s p
        by_cases c : k = p
        · rw [if_pos c] at hp
          omega
        · rw [if_neg c] at hp
          have := hb p (by omega)
          omega
      have h2 : popN (bdiff s (2 ^ k)) k = popN s k := popN_congr (fun p hp => by
        rw [bt_diff, bt_pow, if_neg (by omega)]
        omega)
      have ih := subL_mem (f := f) (m := popN s k) (show k ≤ 13 by omega) (bd_lt hs) h1 h2
      have h3 : bdiff s (2 ^ k) ||| 2 ^ k = s := bt_ext (or_lt (bd_lt hs) (pw_lt (by omega))) hs (fun p _ => by
        rw [bt_or, bt_diff, bt_pow]
        have hps := bt_lt s p
        by_cases c : k = p
        · rw [if_pos c, ← c]
          omega
        · rw [if_neg c]
          omega)
      rw [show m = popN s k + 1 by omega, subL, if_pos (hb k q).2]
      refine List.mem_append.mpr (Or.inr (List.mem_map.mpr ⟨_, ih, h3⟩))
    · have h1 : ∀ p, bt s p = 1 → p < k ∧ bt f p = 1 := fun p hp => by
        have h := hb p hp
        have : p ≠ k := fun c => q (c ▸ hp)
        exact ⟨by omega, h.2⟩
      have ih := subL_mem (f := f) (m := m) (show k ≤ 13 by omega) hs h1 (by omega)
      cases m with
      | zero => exact ih
      | succ m =>
        rw [subL]
        split
        · exact List.mem_append.mpr (Or.inl ih)
        · exact ih
/-- different references, each below 13 places: 70 of them at most -/
theorem ref_70 {f m n : Nat} {c : Nat → Nat} (hf : pop f ≤ 8) (hm : m ≤ 5) (h : ∀ i, i < n → c i < 8192 ∧ (∀ p, bt (c i) p = 1 → p < 13 ∧ bt f p = 1) ∧ pop (c i) = m) (hd : ∀ i j, i < j → j < n → c i ≠ c j) : n ≤ 70 := by
  have h1 : ((List.range n).map c).Nodup := by
    unfold List.Nodup
    rw [List.pairwise_map]
    refine List.Pairwise.imp_of_mem (R := fun a b => a < b) ?_ List.pairwise_lt_range
    intro a b ha hb hab
    exact hd a b hab (List.mem_range.mp hb)
  have h2 : ∀ x, x ∈ (List.range n).map c → x ∈ subL f 13 m := fun x hx => by
    obtain ⟨i, hi, e⟩ := List.mem_map.mp hx
    have h3 := h i (List.mem_range.mp hi)
    rw [← e]
    exact subL_mem (Nat.le_refl 13) h3.1 h3.2.1 h3.2.2
  have h3 := List.Nodup.length_le_of_subset h1 h2
  rw [List.length_map, List.length_range] at h3
  have h4 := subL_len f 13 m
  have h5 := bino_70 (popN f 13) (show popN f 13 < 9 from Nat.lt_succ_of_le hf) m (by omega)
  omega
theorem pop_1 : ∀ k, k < 13 → pop (2 ^ k) = 1 := by decide +kernel
theorem pop_df {a b : Nat} (h : ∀ p, bt b p ≤ bt a p) : ∀ k, popN (bdiff a b) k + popN b k = popN a k
  | 0 => rfl
  | k + 1 => by
    have ih := pop_df h k
    have e1 : popN (bdiff a b) (k + 1) = popN (bdiff a b) k + bt (bdiff a b) k := rfl
    have e2 : popN b (k + 1) = popN b k + bt b k := rfl
    have e3 : popN a (k + 1) = popN a k + bt a k := rfl
    have := h k
    rw [e1, e2, e3, bt_diff]
    omega
theorem fsN_b (s m : Nat) : ∀ k, k ≤ 13 → (∀ p, bt (fsN s (m : Int) k) p = if p < k ∧ bt s p = 1 ∧ popN s p < m then 1 else 0) ∧ pop (fsN s (m : Int) k) = min (popN s k) m
  | 0, _ => by
    refine ⟨fun p => ?_, ?_⟩
    · rw [if_neg (fun q => Nat.not_lt_zero p q.1)]
      show bt 0 p = 0
      unfold bt
      rw [Nat.zero_div]
    · show pop 0 = min 0 m
      rw [show pop 0 = 0 from rfl]
      omega
  | k + 1, hk => by
    obtain ⟨h1, h2⟩ := fsN_b s m k (by omega)
    have e : popN s (k + 1) = popN s k + bt s k := rfl
    have hb := bt_lt s k
    rw [fsN]
    by_cases q : bt s k = 1 ∧ (pop (fsN s (m : Int) k) : Int) < (m : Int)
    · rw [if_pos q]
      have hq2 : popN s k < m := by omega
      refine ⟨fun p => ?_, ?_⟩
      · rw [bt_or, bt_pow, h1]
        by_cases c : k = p
        · rw [if_pos c, if_pos (show p < k + 1 ∧ bt s p = 1 ∧ popN s p < m from ⟨by omega, c ▸ q.1, c ▸ hq2⟩)]
          split <;> omega
        · rw [if_neg c]
          by_cases c2 : p < k ∧ bt s p = 1 ∧ popN s p < m
          · rw [if_pos c2, if_pos ⟨by omega, c2.2⟩]
            omega
          · rw [if_neg c2, if_neg (fun z => c2 ⟨by omega, z.2⟩)]
            omega
      · have h3 := pop_or (a := fsN s (m : Int) k) (b := 2 ^ k) (fun p hp => by
          rw [h1] at hp
          by_cases c2 : p < k ∧ bt s p = 1 ∧ popN s p < m
          · rw [bt_pow, if_neg (by omega)]
          · rw [if_neg c2] at hp
            cases hp) 13
        have h4 := pop_1 k (by omega)
        unfold pop at *
        omega
    · rw [if_neg q]
      have hq2 : ¬ (bt s k = 1 ∧ popN s k < m) := fun z => q ⟨z.1, by omega⟩
      refine ⟨fun p => ?_, by omega⟩
      rw [h1]
      by_cases c2 : p < k ∧ bt s p = 1 ∧ popN s p < m
      · rw [if_pos c2, if_pos ⟨by omega, c2.2⟩]
      · rw [if_neg c2, if_neg (fun z => by
          by_cases c : p = k
          · exact hq2 (c ▸ z.2)
          · exact c2 ⟨by omega, z.2⟩)]
section
variable {R : Nat → Int} {th fx d w s lo : Nat} {Y Q : Nat → Int}
theorem first_ref (hK : KR R th fx d w Y Q) (hC : COK th fx d w Y Q) (hm : d + 2 ≤ pop th) : mk (frsB R) = fsN (bdiff th fx) ((d : Int) + 2 - (pop fx : Int)) 13 ∧ mk (frsB R) < 8192 ∧ refP R (mk (frsB R)) := by
  have hpf := hC.2.2.2.2.2.1
  have hd2 : (d : Int) + 2 - (pop fx : Int) = ((d + 2 - pop fx : Nat) : Int) := by omega
  have hb := fsN_b (bdiff th fx) (d + 2 - pop fx) 13 (Nat.le_refl 13)
  have hdf := pop_df hC.2.2.2.2.1 13
  have e : mk (frsB R) = fsN (bdiff th fx) ((d : Int) + 2 - (pop fx : Int)) 13 := by
    rw [hd2]
    refine bt_ext (mk_lt _) (fsN_lt _ _ (Nat.le_refl 13)) (fun p hp => ?_)
    rw [bt_mk _ hp, hb.1 p]
    have h1 := KR_free hK hC hp
    have h2 := KR_m1 hK hC p (by omega)
    have h3 := KR_m2 hK hC 13 (Nat.le_refl 13)
    have h0 : R 0 = (d : Int) := hK.2.2.2.2.1
    have h5 : pop fx = popN fx 13 := rfl
    by_cases q : frsB R p = true
    · rw [if_pos q]
      have q2 := of_decide_eq_true q
      rw [if_pos ⟨hp, h1.mp q2.1, by omega⟩]
    · rw [if_neg q]
      have q2 := of_decide_eq_false (Bool.eq_false_iff.mpr q)
      rw [if_neg (fun z => q2 ⟨h1.mpr z.2.1, by omega⟩)]
  refine ⟨e, mk_lt _, (KR_ref hK hC (mk_lt _)).mpr ?_⟩
  rw [e, hd2]
  refine ⟨fun p hp => ?_, ?_⟩
  · rw [hb.1 p] at hp
    by_cases c2 : p < 13 ∧ bt (bdiff th fx) p = 1 ∧ popN (bdiff th fx) p < d + 2 - pop fx
    · exact fr_in hC c2.2.1
    · rw [if_neg c2] at hp
      cases hp
  · rw [hb.2]
    unfold pop at *
    omega
end
