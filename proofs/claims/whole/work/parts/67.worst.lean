/-! the worst place: the reference's and the class's are one, and none is worse -/
section
variable {R : Nat → Int} {th fx d w s lo : Nat} {Y Q : Nat → Int}
theorem KR_free (hK : KR R th fx d w Y Q) (hC : COK th fx d w Y Q) {p : Nat} (hp : p < 13) : R (p + 18) = 1 ↔ bt (bdiff th fx) p = 1 := by
  have h1 := hK.1 p hp
  have h2 := hC.2.2.2.2.1 p
  have h3 := bt_lt th p
  rw [bt_diff]
  omega
theorem fr_in (hC : COK th fx d w Y Q) {p : Nat} (h : bt (bdiff th fx) p = 1) : bt th p = 1 ∧ bt fx p = 0 := by
  have h2 := hC.2.2.2.2.1 p
  have h3 := bt_lt th p
  rw [bt_diff] at h
  omega
theorem low_pr (hf : bdiff th fx < 8192) (h0 : bdiff th fx ≠ 0) (hlo : LW (bdiff th fx) lo) : bt (bdiff th fx) lo = 1 ∧ lo < 13 ∧ ∀ p, p < lo → bt (bdiff th fx) p = 0 := by
  have h := low_sp _ hf h0
  rw [← show lo = low (bdiff th fx) from hlo] at h
  refine ⟨h.1, h.2.2, fun p hp => ?_⟩
  have h1 := bt_lt (bdiff th fx) p
  by_cases q : bt (bdiff th fx) p = 1
  · have := popN_st _ hp q
    omega
  · omega
theorem wr_none (hK : KR R th fx d w Y Q) (hC : COK th fx d w Y Q) (hz : ∀ p, p < lo → bt (bdiff th fx) p = 0) (hlo : lo < 13) : ∀ k, k ≤ lo → wrN R d s k = 13
  | 0, _ => rfl
  | k + 1, hk => by
    rw [wrN_f (fun q => by
      have h1 := (KR_free hK hC (by omega)).mp q.1
      have h2 := hz k (by omega)
      omega)]
    exact wr_none hK hC hz hlo k (by omega)
theorem mU_13 : mU R d s 13 = -1 := if_pos rfl
theorem ws_free {g : Nat → Int} {fr lo : Nat} (h : bt fr lo = 1) : ∀ k, bt fr (wsN g Q fr lo k) = 1
  | 0 => h
  | k + 1 => by
    rw [wsN]
    split
    · exact (by assumption : _ ∧ _).1
    · exact ws_free h k
theorem wr_ws (hK : KR R th fx d w Y Q) (hC : COK th fx d w Y Q) (hQ : NPL th Q) (hs : s < 8192) (hr : refP R s) (h0 : bdiff th fx ≠ 0) (hf : bdiff th fx < 8192) (hlo : LW (bdiff th fx) lo) : ∀ k, lo + 1 + k ≤ 13 → wrN R d s (lo + 1 + k) = wsN (cGp fx Y Q s) Q (bdiff th fx) lo k
  | 0, _ => by
    obtain ⟨h1, h2, h3⟩ := low_pr hf h0 hlo
    have h4 := wr_none (s := s) hK hC h3 h2 lo (Nat.le_refl lo)
    rw [show lo + 1 + 0 = lo + 1 from rfl, wrN_t ⟨(KR_free hK hC h2).mpr h1, Or.inl (by rw [h4, mU_13]; decide)⟩]
    rfl
  | k + 1, hk => by
    obtain ⟨h1, h2, h3⟩ := low_pr hf h0 hlo
    have ih := wr_ws hK hC hQ hs hr h0 hf hlo k (by omega)
    have hwf := ws_free (g := cGp fx Y Q s) (Q := Q) h1 k
    have hwl := wsN_lt (g := cGp fx Y Q s) (Q := Q) (fr := bdiff th fx) h2 k (by omega)
    have hwt := fr_in hC hwf
    generalize hwe : wsN (cGp fx Y Q s) Q (bdiff th fx) lo k = v at *
    rw [wsN, hwe]
    have hne : v ≠ 13 := by omega
    by_cases q : bt (bdiff th fx) (lo + 1 + k) = 1
    · have hkt := fr_in hC q
      have hc := cmp_two hK hC hQ hs hr (show lo + 1 + k < 13 by omega) hwl hkt.1 hwt.1
      by_cases q2 : 0 < ceG (cGp fx Y Q s) Q (lo + 1 + k) v
      · rw [if_pos ⟨q, q2⟩]
        refine wrN_t (k := lo + 1 + k) ⟨(KR_free hK hC (show lo + 1 + k < 13 by omega)).mpr q, Or.inr ?_⟩
        rw [ih, mU_n hne, mD_n hne, hc]
        exact q2
      · rw [if_neg (fun z => q2 z.2)]
        refine (wrN_f (k := lo + 1 + k) (fun z => ?_)).trans ih
        rcases z.2 with y | y
        · rw [ih, mU_n hne] at y
          omega
        · rw [ih, mU_n hne, mD_n hne, hc] at y
          exact q2 y
    · rw [if_neg (fun z => q z.1)]
      refine (wrN_f (k := lo + 1 + k) (fun z => ?_)).trans ih
      exact q ((KR_free hK hC (show lo + 1 + k < 13 by omega)).mp z.1)
theorem wr_eq (hK : KR R th fx d w Y Q) (hC : COK th fx d w Y Q) (hQ : NPL th Q) (hs : s < 8192) (hr : refP R s) (h0 : bdiff th fx ≠ 0) (hf : bdiff th fx < 8192) (hlo : LW (bdiff th fx) lo) : wrN R d s 13 = wsN (cGp fx Y Q s) Q (bdiff th fx) lo (12 - lo) := by
  have h2 := (low_pr hf h0 hlo).2.1
  have h := wr_ws hK hC hQ hs hr h0 hf hlo (12 - lo) (by omega)
  rwa [show lo + 1 + (12 - lo) = 13 by omega] at h
/-- b is no worse than a -/
def NWR (g Q : Nat → Int) (a b : Nat) : Prop := ((g b * qv Q ((a : Int) - 6)).natAbs : Int) ≤ ((g a * qv Q ((b : Int) - 6)).natAbs : Int)
theorem NWR_c (g Q : Nat → Int) (a b : Nat) : NWR g Q a b ↔ ¬ 0 < ceG g Q b a := by
  have := lcV_c ((g b * qv Q ((a : Int) - 6)).natAbs : Int) ((g a * qv Q ((b : Int) - 6)).natAbs : Int)
  unfold NWR ceG
  omega
theorem NWR_t {g Q : Nat → Int} {a b c : Nat} (hq : qv Q ((b : Int) - 6) ≠ 0) (h1 : NWR g Q a b) (h2 : NWR g Q b c) : NWR g Q a c := by
  unfold NWR at *
  simp only [Int.natAbs_mul, Int.natCast_mul] at *
  have hb : (0 : Int) < ((qv Q ((b : Int) - 6)).natAbs : Int) := by omega
  have h3 := Int.mul_le_mul_of_nonneg_right h2 (show (0 : Int) ≤ ((qv Q ((a : Int) - 6)).natAbs : Int) by omega)
  have h4 := Int.mul_le_mul_of_nonneg_right h1 (show (0 : Int) ≤ ((qv Q ((c : Int) - 6)).natAbs : Int) by omega)
  generalize ((qv Q ((a : Int) - 6)).natAbs : Int) = qa at *
  generalize ((qv Q ((b : Int) - 6)).natAbs : Int) = qb at *
  generalize ((qv Q ((c : Int) - 6)).natAbs : Int) = qc at *
  generalize ((g a).natAbs : Int) = ga at *
  generalize ((g b).natAbs : Int) = gb at *
  generalize ((g c).natAbs : Int) = gc at *
  have h5 : gc * qa * qb ≤ ga * qc * qb := by
    have e1 : gc * qa * qb = gc * qb * qa := by ac_rfl
    have e2 : gb * qc * qa = gb * qa * qc := by ac_rfl
    have e3 : ga * qb * qc = ga * qc * qb := by ac_rfl
    rw [e1, ← e3]
    rw [e2] at h3
    exact Int.le_trans h3 h4
  exact Int.le_of_mul_le_mul_right h5 hb
theorem ws_max {g : Nat → Int} {fr : Nat} (h1 : bt fr lo = 1) (hz : ∀ p, p < lo → bt fr p = 0) (hq : ∀ p, p < 13 → bt fr p = 1 → qv Q ((p : Int) - 6) ≠ 0) (hl : lo < 13) : ∀ k, lo + 1 + k ≤ 13 → ∀ p, p < lo + 1 + k → bt fr p = 1 → NWR g Q (wsN g Q fr lo k) p
  | 0, _, p, hp, hb => by
    have e : p = lo := by
      by_cases q : p < lo
      · have := hz p q
        omega
      · omega
    rw [e]
    exact Int.le_refl _
  | k + 1, hk, p, hp, hb => by
    have hwl := wsN_lt (g := g) (Q := Q) (fr := fr) hl k (by omega)
    have hwf := ws_free (g := g) (Q := Q) h1 k
    rw [wsN]
    by_cases q : bt fr (lo + 1 + k) = 1 ∧ 0 < ceG g Q (lo + 1 + k) (wsN g Q fr lo k)
    · rw [if_pos q]
      by_cases e : p = lo + 1 + k
      · rw [e]
        exact Int.le_refl _
      · have ih := ws_max (g := g) h1 hz hq hl k (by omega) p (by omega) hb
        refine NWR_t (hq _ hwl hwf) ?_ ih
        have h := lcV_c ((g (lo + 1 + k) * qv Q ((wsN g Q fr lo k : Int) - 6)).natAbs : Int) ((g (wsN g Q fr lo k) * qv Q (((lo + 1 + k : Nat) : Int) - 6)).natAbs : Int)
        have q2 := q.2
        unfold ceG at q2
        unfold NWR
        omega
    · rw [if_neg q]
      by_cases e : p = lo + 1 + k
      · rw [e]
        exact (NWR_c _ _ _ _).mpr (fun z => q ⟨e ▸ hb, z⟩)
      · exact ws_max h1 hz hq hl k (by omega) p (by omega) hb
end
