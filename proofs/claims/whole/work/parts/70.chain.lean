/-! the exchange ends -/
theorem least_of (P : Nat → Prop) : ∀ k, (∃ m, m < k ∧ P m ∧ ∀ i, i < m → ¬ P i) ∨ (∀ i, i < k → ¬ P i)
  | 0 => Or.inr (fun i hi => absurd hi (Nat.not_lt_zero i))
  | k + 1 => by
    rcases least_of P k with ⟨m, h1, h2, h3⟩ | h
    · exact Or.inl ⟨m, by omega, h2, h3⟩
    · by_cases q : P k
      · exact Or.inl ⟨k, by omega, q, h⟩
      · refine Or.inr (fun i hi => ?_)
        by_cases e : i = k
        · rw [e]
          exact q
        · exact h i (by omega)
theorem fr_trans {a b c e f g : Int} (hb : 0 < b) (he : 0 < e) (hg : 0 < g) (h1 : a * e < c * b) (h2 : c * g < f * e) : a * g < f * b := by
  have h3 := Int.mul_lt_mul_of_pos_right h1 hg
  have h4 := Int.mul_lt_mul_of_pos_right h2 hb
  have e1 : a * e * g = a * g * e := by ac_rfl
  have e2 : c * b * g = c * g * b := by ac_rfl
  have e3 : f * e * b = f * b * e := by ac_rfl
  rw [e1, e2] at h3
  rw [e3] at h4
  exact Int.lt_of_mul_lt_mul_right (Int.lt_trans h3 h4) (Int.le_of_lt he)
section
variable {R : Nat → Int} {th fx d w lo : Nat} {Y Q : Nat → Int}
theorem sq_step (hK : KR R th fx d w Y Q) (hC : COK th fx d w Y Q) (hQ : NPL th Q) (h0 : bdiff th fx ≠ 0) (hlo : LW (bdiff th fx) lo) {i : Nat} (hs : sq R d i < 8192) (hr : refP R (sq R d i)) (hon : 0 < onC R d (sq R d i)) :
    ∃ a : Nat, a < 13 ∧ goO R d (sq R d i) = (a : Int) ∧ a = lvC fx (sq R d i) (wrN R d (sq R d i) 13) (low (sq R d i &&& (2 ^ wrN R d (sq R d i) 13 - 1))) (low (bdiff (sq R d i) (sq R d i &&& (2 ^ wrN R d (sq R d i) 13 - 1)))) (cL fx Y Q (sq R d i)) (cGp fx Y Q (sq R d i) (wrN R d (sq R d i) 13)) ∧ sq R d (i + 1) = bdiff (sq R d i ||| 2 ^ wrN R d (sq R d i) 13) (2 ^ a) ∧ sq R d (i + 1) < 8192 ∧ refP R (sq R d (i + 1)) ∧ ((aOf R (sq R d i)).natAbs : Int) * bOf R (sq R d (i + 1)) < ((aOf R (sq R d (i + 1))).natAbs : Int) * bOf R (sq R d i) := by
  have hf : bdiff th fx < 8192 := bd_lt hC.1
  have hw := wr_eq hK hC hQ hs hr h0 hf hlo
  have ho := on_ce hK hC hQ hs hr h0 hlo
  rw [← hw] at ho
  rw [ho.1] at hon
  exact exch_step hK hC hQ hs hr rfl ho.2.1 ho.2.2 hon rfl rfl
theorem sq_all (hK : KR R th fx d w Y Q) (hC : COK th fx d w Y Q) (hQ : NPL th Q) (h0 : bdiff th fx ≠ 0) (hlo : LW (bdiff th fx) lo) (hm : d + 2 ≤ pop th) : ∀ n, (∀ i, i < n → 0 < onC R d (sq R d i)) → (sq R d n < 8192 ∧ refP R (sq R d n)) ∧ ∀ i, i < n → ((aOf R (sq R d i)).natAbs : Int) * bOf R (sq R d n) < ((aOf R (sq R d n)).natAbs : Int) * bOf R (sq R d i)
  | 0, _ => ⟨(first_ref hK hC hm).2, fun i hi => absurd hi (Nat.not_lt_zero i)⟩
  | n + 1, h => by
    obtain ⟨ih1, ih2⟩ := sq_all hK hC hQ h0 hlo hm n (fun i hi => h i (by omega))
    obtain ⟨a, -, -, -, -, h1, h2, h3⟩ := sq_step hK hC hQ h0 hlo ih1.1 ih1.2 (h n (by omega))
    refine ⟨⟨h1, h2⟩, fun i hi => ?_⟩
    by_cases e : i = n
    · rw [e]
      exact h3
    · have h4 := ih2 i (by omega)
      have hri := (sq_all hK hC hQ h0 hlo hm i (fun j hj => h j (by omega))).1
      exact fr_trans (cB_pos hK hC hQ hri.1 hri.2).2.1 (cB_pos hK hC hQ ih1.1 ih1.2).2.1 (cB_pos hK hC hQ h1 h2).2.1 h4 h3
  termination_by n => n
theorem sq_end (hK : KR R th fx d w Y Q) (hC : COK th fx d w Y Q) (hQ : NPL th Q) (h0 : bdiff th fx ≠ 0) (hlo : LW (bdiff th fx) lo) (hm : d + 2 ≤ pop th) : ∃ M, M + 1 ≤ 70 ∧ (∀ i, i ≤ M → sq R d i < 8192 ∧ refP R (sq R d i)) ∧ (∀ i, i < M → 0 < onC R d (sq R d i)) ∧ ¬ 0 < onC R d (sq R d M) := by
  rcases least_of (fun i => ¬ 0 < onC R d (sq R d i)) 70 with ⟨M, h1, h2, h3⟩ | h
  · have h4 : ∀ i, i < M → 0 < onC R d (sq R d i) := fun i hi => by
      have := h3 i hi
      omega
    exact ⟨M, h1, fun i hi => (sq_all hK hC hQ h0 hlo hm i (fun j hj => h4 j (by omega))).1, h4, h2⟩
  · have h4 : ∀ i, i < 70 → 0 < onC R d (sq R d i) := fun i hi => by
      have := h i hi
      omega
    have h5 : ∀ n, n ≤ 70 → _ := fun n hn => sq_all hK hC hQ h0 hlo hm n (fun i hi => h4 i (by omega))
    have hpf := hC.2.2.2.2.2.1
    have hp8 := hC.2.2.2.2.2.2.1
    have hd := hC.2.2.1
    have hdf := pop_df hC.2.2.2.2.1 13
    have h6 := ref_70 (f := bdiff th fx) (m := d + 2 - pop fx) (n := 71) (c := sq R d) (by unfold pop at *; omega) (by omega) (fun i hi => by
      have h7 := (h5 i (by omega)).1
      have h8 := (KR_ref hK hC h7.1).mp h7.2
      refine ⟨h7.1, fun p hp => ⟨?_, ?_⟩, by omega⟩
      · rcases Nat.lt_or_ge p 13 with q | q
        · exact q
        · have := bt_big (n := sq R d i) (k := 13) (p := p) h7.1 q
          omega
      · have h9 := h8.1 p hp
        rw [bt_diff]
        omega) (fun i j hij hj e => by
      have h7 := (h5 j (by omega)).2 i hij
      rw [e] at h7
      exact absurd h7 (Int.lt_irrefl _))
    omega
/-- the exchange of the class is that of the reference; its last fit errs nowhere more than its level -/
theorem exch_all (hK : KR R th fx d w Y Q) (hC : COK th fx d w Y Q) (hQ : NPL th Q) (h0 : bdiff th fx ≠ 0) (hm : d + 2 ≤ pop th) (hSO : ∀ s, s < 8192 → refP R s → cSO fx Y Q s) : ∃ M, ∃ go : Nat → Nat,
    XHY th fx d Y Q M (low (bdiff th fx)) (sq R d) (fun i => wrN R d (sq R d i) 13) (fun i => low (sq R d i)) go (fun i => low (sq R d i &&& (2 ^ wrN R d (sq R d i) 13 - 1))) (fun i => low (bdiff (sq R d i) (sq R d i &&& (2 ^ wrN R d (sq R d i) 13 - 1)))) ∧
    (∀ i, i < M + 1 → sq R d i < 8192 ∧ refP R (sq R d i)) ∧ (∀ i, i < M + 1 → (0 < onC R d (sq R d i) ↔ i + 1 < M + 1)) ∧ (∀ i, i + 1 < M + 1 → goO R d (sq R d i) = (go i : Int) ∧ go i < 13) ∧
    ∀ p, p < 13 → bt th p = 1 → bt fx p = 0 → bOf R (sq R d M) * ((uC fx Y Q (sq R d M) p).natAbs : Int) ≤ ((aOf R (sq R d M)).natAbs : Int) * ((qv Q ((p : Int) - 6)).natAbs : Int) * cB0 fx Y Q (sq R d M) := by
  have hf : bdiff th fx < 8192 := bd_lt hC.1
  have hlp := low_pr hf h0 rfl
  obtain ⟨M, h1, h2, h3, h4⟩ := sq_end hK hC hQ h0 rfl hm
  have hw : ∀ i, i ≤ M → wrN R d (sq R d i) 13 = wsN (cGp fx Y Q (sq R d i)) Q (bdiff th fx) (low (bdiff th fx)) (12 - low (bdiff th fx)) := fun i hi => wr_eq hK hC hQ (h2 i hi).1 (h2 i hi).2 h0 hf rfl
  have ho : ∀ i, i ≤ M → onC R d (sq R d i) = ceG (cGp fx Y Q (sq R d i)) Q (wrN R d (sq R d i) 13) (low (sq R d i)) ∧ wrN R d (sq R d i) 13 < 13 ∧ bt (bdiff th fx) (wrN R d (sq R d i) 13) = 1 := fun i hi => by
    have h := on_ce hK hC hQ (h2 i hi).1 (h2 i hi).2 h0 rfl
    rw [← hw i hi] at h
    exact h
  have hst : ∀ i, i < M → _ := fun i hi => sq_step hK hC hQ h0 rfl (h2 i (by omega)).1 (h2 i (by omega)).2 (h3 i hi)
  have hmx : ∀ i, i ≤ M → ∀ p, p < 13 → bt (bdiff th fx) p = 1 → NWR (cGp fx Y Q (sq R d i)) Q (wrN R d (sq R d i) 13) p := fun i hi p hp hb => by
    rw [hw i hi]
    have hl13 := hlp.2.1
    exact ws_max (g := cGp fx Y Q (sq R d i)) hlp.1 hlp.2.2 (fun p hp hb => hQ p hp (fr_in hC hb).1) hl13 (12 - low (bdiff th fx)) (by omega) p (by omega) hb
  have hlow : ∀ i, i ≤ M → sq R d i ≠ 0 ∧ bt (sq R d i) (low (sq R d i)) = 1 ∧ low (sq R d i) < 13 ∧ bt (bdiff th fx) (low (sq R d i)) = 1 := fun i hi => by
    have h5 := ref_ne hK hC (h2 i hi).1 (h2 i hi).2
    have h6 := ((KR_ref hK hC (h2 i hi).1).mp (h2 i hi).2).1 _ h5.2.1
    refine ⟨h5.1, h5.2.1, h5.2.2, ?_⟩
    rw [bt_diff]
    omega
  have hce : ∀ i, i ≤ M → (0 < onC R d (sq R d i) ↔ i < M) := fun i hi => by
    constructor
    · intro q
      rcases Nat.lt_or_ge i M with c | c
      · exact c
      · rw [show i = M by omega] at q
        exact absurd q h4
    · exact h3 i
  refine ⟨M, fun i => (goO R d (sq R d i)).toNat, ⟨hC.2.2.2.2.2.1, hm, h0, rfl, hlp.2.1, h1, ?_, ?_, ?_, ?_, ?_, ?_⟩, ?_, ?_, ?_, ?_⟩
  · exact (first_ref hK hC hm).1
  · intro i hi
    exact ⟨(h2 i (by omega)).1, (hlow i (by omega)).1, hSO _ (h2 i (by omega)).1 (h2 i (by omega)).2⟩
  · intro i hi
    exact hw i (by omega)
  · intro i hi
    exact ⟨rfl, (hlow i (by omega)).2.2.1⟩
  · intro i hi
    have h5 := ho i (by omega)
    have h6 := hce i (by omega)
    have h7 := hmx i (by omega) (low (sq R d i)) (hlow i (by omega)).2.2.1 (hlow i (by omega)).2.2.2
    rw [h5.1] at h6
    have h8 := lcV_c ((cGp fx Y Q (sq R d i) (wrN R d (sq R d i) 13) * qv Q ((low (sq R d i) : Int) - 6)).natAbs : Int) ((cGp fx Y Q (sq R d i) (low (sq R d i)) * qv Q ((wrN R d (sq R d i) 13 : Int) - 6)).natAbs : Int)
    unfold NWR at h7
    have h9 : ceG (cGp fx Y Q (sq R d i)) Q (wrN R d (sq R d i) 13) (low (sq R d i)) = lcV ((cGp fx Y Q (sq R d i) (wrN R d (sq R d i) 13) * qv Q ((low (sq R d i) : Int) - 6)).natAbs : Int) ((cGp fx Y Q (sq R d i) (low (sq R d i)) * qv Q ((wrN R d (sq R d i) 13 : Int) - 6)).natAbs : Int) := rfl
    show ceG (cGp fx Y Q (sq R d i)) Q (wrN R d (sq R d i) 13) (low (sq R d i)) = 0 ↔ ¬ i + 1 < M + 1
    rw [← h9] at h8
    constructor
    · intro q c
      have := h6.mpr (by omega)
      omega
    · intro q
      have : ¬ 0 < ceG (cGp fx Y Q (sq R d i)) Q (wrN R d (sq R d i) 13) (low (sq R d i)) := fun c => q (by have := h6.mp c; omega)
      omega
  · intro i hi
    obtain ⟨a, a1, a2, a3, a4, -⟩ := hst i (by omega)
    have e : (goO R d (sq R d i)).toNat = a := by rw [a2, Int.toNat_natCast]
    show _ ∧ _ ∧ (goO R d (sq R d i)).toNat < 13 ∧ (goO R d (sq R d i)).toNat = _ ∧ _ = bdiff _ (2 ^ (goO R d (sq R d i)).toNat)
    rw [e]
    exact ⟨rfl, rfl, a1, a3, a4⟩
  · intro i hi
    exact h2 i (by omega)
  · intro i hi
    have := hce i (by omega)
    rw [this]
    omega
  · intro i hi
    obtain ⟨a, a1, a2, -⟩ := hst i (by omega)
    show goO R d (sq R d i) = ((goO R d (sq R d i)).toNat : Int) ∧ (goO R d (sq R d i)).toNat < 13
    rw [a2, Int.toNat_natCast]
    exact ⟨rfl, a1⟩
  · intro p hp ht hfp
    have hb : bt (bdiff th fx) p = 1 := by
      rw [bt_diff]
      omega
    have h5 := h2 M (Nat.le_refl M)
    have h6 := ho M (Nat.le_refl M)
    have h7 := hmx M (Nat.le_refl M) p hp hb
    have h8 := hlow M (Nat.le_refl M)
    rw [h6.1] at h4
    have h9 : ¬ 0 < ceG (cGp fx Y Q (sq R d M)) Q p (low (sq R d M)) :=
      (NWR_c _ _ _ _).mp (NWR_t (hQ _ h6.2.1 (fr_in hC h6.2.2).1) ((NWR_c _ _ _ _).mpr h4) h7)
    have h10 := cmp_own hK hC hQ h5.1 h5.2 hp h8.2.2.1 ht h8.2.1
    rw [← h10] at h9
    obtain ⟨k1, k2, g1, g2, g3, g4⟩ := e_abs hK hC hQ h5.1 h5.2 hp ht
    rw [cmpV_cg g1 g2 (l1 := 1) (l2 := 1) (by decide) (by decide) g3 g4 rfl rfl] at h9
    unfold cmpV at h9
    have h11 : ((uC fx Y Q (sq R d M) p).natAbs : Int) * bOf R (sq R d M) ≤ ((aOf R (sq R d M)).natAbs : Int) * (((qv Q ((p : Int) - 6)).natAbs : Int) * cB0 fx Y Q (sq R d M)) := by
      by_cases c : ((uC fx Y Q (sq R d M) p).natAbs : Int) * bOf R (sq R d M) < ((aOf R (sq R d M)).natAbs : Int) * (((qv Q ((p : Int) - 6)).natAbs : Int) * cB0 fx Y Q (sq R d M))
      · exact Int.le_of_lt c
      · rw [if_neg c] at h9
        by_cases c2 : ((uC fx Y Q (sq R d M) p).natAbs : Int) * bOf R (sq R d M) = ((aOf R (sq R d M)).natAbs : Int) * (((qv Q ((p : Int) - 6)).natAbs : Int) * cB0 fx Y Q (sq R d M))
        · exact Int.le_of_eq c2
        · rw [if_neg c2] at h9
          exact absurd (by decide) h9
    rw [Int.mul_comm (bOf R (sq R d M)), Int.mul_assoc]
    exact h11
end
