/-! level, reached, above, turns -/
section
variable {R : Nat → Int} {th fx d w s t : Nat} {Y Q : Nat → Int}
theorem ans_level (hK : KR R th fx d w Y Q) (hC : COK th fx d w Y Q) (hQ : NPL th Q) (hs : s < 8192) (hr : refP R s) {z : Int} (hz : z = 0 ∨ z = 1 ∨ z = 2) : lvV z (aOf R s) (bOf R s) = lvX z (cU fx Y Q s) (cD fx Y Q s) (cL fx Y Q s) := by
  have h1 := (lev_eq hK hC hQ hs hr).2
  have h2 := cL_e hK hC hQ hs hr
  unfold lvV lvX
  rcases hz with q | q | q
  · rw [q, if_pos (show (0 : Int) = 0 from rfl), if_pos (show (0 : Int) = 0 from rfl), h1.1]
  · rw [q, if_neg (show ¬ (1 : Int) = 0 by decide), if_neg (show ¬ (1 : Int) = 0 by decide), if_pos (show (1 : Int) = 1 from rfl), if_pos (show (1 : Int) = 1 from rfl), h1.2]
  · rw [q, if_neg (show ¬ (2 : Int) = 0 by decide), if_neg (show ¬ (2 : Int) = 0 by decide), if_neg (show ¬ (2 : Int) = 1 by decide), if_neg (show ¬ (2 : Int) = 1 by decide)]
    rcases h2 with ⟨a, b⟩ | ⟨a, b⟩ | ⟨a, b⟩
    · rw [if_neg (show ¬ aOf R s = 0 by omega), if_pos a, b]
    · rw [if_neg (show ¬ aOf R s = 0 by omega), if_neg (show ¬ 0 < aOf R s by omega), b]
    · rw [if_pos a, b]
theorem gap_same (h1 : cBe fx Y Q t = cBe fx Y Q s) (h2 : ∀ k, k < 4 → cP fx Y Q t k = cP fx Y Q s k) : cGp fx Y Q t = cGp fx Y Q s := by
  rw [cGp, cGp, h1]
  exact gpV_congr h2
/-- an error of the best fit against the level -/
theorem cmp_best (hK : KR R th fx d w Y Q) (hC : COK th fx d w Y Q) (hQ : NPL th Q) (hs : s < 8192) (hr : refP R s) (hmax : ∀ p, p < 13 → bt th p = 1 → bt fx p = 0 → bOf R s * ((uC fx Y Q s p).natAbs : Int) ≤ ((aOf R s).natAbs : Int) * ((qv Q ((p : Int) - 6)).natAbs : Int) * cB0 fx Y Q s) (hb : FBE R t) {p : Nat} (hp : p < 13) (htp : bt th p = 1) : cmpV ((eUG R (XF R t) (PF R t) (d + 1) (bOf R t) p).natAbs : Int) (eDG R (XF R t) (PF R t) (d + 1) (bOf R t) p) ((aOf R t).natAbs : Int) (bOf R t) = ceG (cGp fx Y Q s) Q p (low s) := by
  obtain ⟨b1, b2, b3, b4, b5⟩ := best_same hK hC hQ hs hr hmax hb
  have hB := cB_pos hK hC hQ hs hr
  have hBt := cB_pos hK hC hQ hb.1 hb.2.1
  have hne := ref_ne hK hC hs hr
  rw [← cmp_own hK hC hQ hs hr hp hne.2.2 htp hne.2.1, b1, b2]
  rw [← b2]
  obtain ⟨k1, k2, g1, g2, g3, g4⟩ := e_abs hK hC hQ hb.1 hb.2.1 hp htp
  obtain ⟨l1, l2, m1, m2, m3, m4⟩ := e_abs hK hC hQ hs hr hp htp
  have hu := best_u b5 p
  have ha := natAbs_k hBt.2.2.2 hB.2.2.2 hu
  rw [cmpV_cg g1 g2 (l1 := 1) (l2 := 1) (by decide) (by decide) g3 g4 rfl rfl]
  rw [b2, cmpV_cg m1 m2 (l1 := 1) (l2 := 1) (by decide) (by decide) m3 m4 rfl rfl]
  refine cmpV_cg (l1 := 1) (l2 := 1) hB.2.2.2 hBt.2.2.2 (by decide) (by decide) ha.symm ?_ rfl rfl
  ac_rfl
/-- an error is above -/
theorem pos_best (hK : KR R th fx d w Y Q) (hC : COK th fx d w Y Q) (hQ : NPL th Q) (ht : t < 8192) (hrt : refP R t) {p : Nat} (hp : p < 13) (htp : bt th p = 1) : 0 < eUG R (XF R t) (PF R t) (d + 1) (bOf R t) p ↔ (cGp fx Y Q t p ≠ 0 ∧ (0 < cGp fx Y Q t p ↔ 0 < qv Q ((p : Int) - 6))) := by
  have hB := cB_pos hK hC hQ ht hrt
  obtain ⟨k1, k2, g1, g2, g3, -⟩ := e_rel hK hC hQ ht hrt hp htp
  have hg := uC_gap hB.2.2.2 p
  have hq := hQ p hp htp
  have s1 := mul_sg (a := eUG R (XF R t) (PF R t) (d + 1) (bOf R t) p) g1
  have s2 := mul_sg (a := if qv Q ((p : Int) - 6) < 0 then -uC fx Y Q t p else uC fx Y Q t p) g2
  have s3 := mul_sg (a := cGp fx Y Q t p) hg.1
  rw [Int.mul_comm, g3, Int.mul_comm k2] at s1
  rw [Int.mul_comm, ← hg.2] at s3
  have s4 := s1.1.symm.trans s2.1
  rw [s4]
  by_cases c : qv Q ((p : Int) - 6) < 0
  · rw [if_pos c]
    omega
  · rw [if_neg c]
    omega
/-- reached -/
theorem ans_reached (hK : KR R th fx d w Y Q) (hC : COK th fx d w Y Q) (hQ : NPL th Q) (hs : s < 8192) (hr : refP R s) (hmax : ∀ p, p < 13 → bt th p = 1 → bt fx p = 0 → bOf R s * ((uC fx Y Q s p).natAbs : Int) ≤ ((aOf R s).natAbs : Int) * ((qv Q ((p : Int) - 6)).natAbs : Int) * cB0 fx Y Q s) (hb : FBE R t) : mk (rchB R (XF R t) (PF R t) (d + 1) (bOf R t) ((aOf R t).natAbs : Int) (bOf R t) 0) = mk (rcB (cGp fx Y Q s) Q (bdiff th fx) (low s)) := by
  refine mk_congr (fun p hp => ?_)
  have h1 := KR_free hK hC hp
  unfold rchB rcB
  refine decide_eq_decide.mpr ⟨fun q => ?_, fun q => ?_⟩
  · have h2 := h1.mp q.1
    refine ⟨h2, ?_⟩
    rw [← cmp_best hK hC hQ hs hr hmax hb hp (fr_in hC h2).1]
    exact q.2.1
  · refine ⟨h1.mpr q.1, ?_, Or.inl rfl⟩
    rw [cmp_best hK hC hQ hs hr hmax hb hp (fr_in hC q.1).1]
    exact q.2
theorem ans_above (hK : KR R th fx d w Y Q) (hC : COK th fx d w Y Q) (hQ : NPL th Q) (hs : s < 8192) (hr : refP R s) (hmax : ∀ p, p < 13 → bt th p = 1 → bt fx p = 0 → bOf R s * ((uC fx Y Q s p).natAbs : Int) ≤ ((aOf R s).natAbs : Int) * ((qv Q ((p : Int) - 6)).natAbs : Int) * cB0 fx Y Q s) (hb : FBE R t) : mk (rchB R (XF R t) (PF R t) (d + 1) (bOf R t) ((aOf R t).natAbs : Int) (bOf R t) 1) = mk (raB (cGp fx Y Q s) Q (mk (rcB (cGp fx Y Q s) Q (bdiff th fx) (low s)))) := by
  obtain ⟨b1, b2, b3, b4, b5⟩ := best_same hK hC hQ hs hr hmax hb
  have hgs := gap_same b3 b4
  refine mk_congr (fun p hp => ?_)
  have h1 := KR_free hK hC hp
  have h0 : bt (mk (rcB (cGp fx Y Q s) Q (bdiff th fx) (low s))) p = 1 ↔ (bt (bdiff th fx) p = 1 ∧ ceG (cGp fx Y Q s) Q p (low s) = 0) := by
    rw [bt_mk _ hp, rcB]
    by_cases q : bt (bdiff th fx) p = 1 ∧ ceG (cGp fx Y Q s) Q p (low s) = 0
    · rw [if_pos (decide_eq_true q)]
      exact ⟨fun _ => q, fun _ => rfl⟩
    · rw [if_neg (fun z => q (of_decide_eq_true z))]
      exact ⟨fun z => absurd z (by decide), fun z => absurd z q⟩
  unfold rchB raB
  refine decide_eq_decide.mpr ⟨fun q => ?_, fun q => ?_⟩
  · have h2 := h1.mp q.1
    have h3 := (fr_in hC h2).1
    have h4 := q.2.1
    rw [cmp_best hK hC hQ hs hr hmax hb hp h3] at h4
    have h5 : 0 < eUG R (XF R t) (PF R t) (d + 1) (bOf R t) p := by
      rcases q.2.2 with c | c
      · exact absurd c (by decide)
      · exact c
    have h6 := (pos_best hK hC hQ hb.1 hb.2.1 hp h3).mp h5
    rw [hgs] at h6
    exact ⟨h0.mpr ⟨h2, h4⟩, h6⟩
  · have h2 := h0.mp q.1
    have h3 := (fr_in hC h2.1).1
    refine ⟨h1.mpr h2.1, ?_, Or.inr ?_⟩
    · rw [cmp_best hK hC hQ hs hr hmax hb hp h3]
      exact h2.2
    · refine (pos_best hK hC hQ hb.1 hb.2.1 hp h3).mpr ?_
      rw [hgs]
      exact q.2
/-- leans: the reference's 1, -1 are the class's 1, 2 -/
def leanR (a : Int) : Int := if a = 0 then 0 else if a = 1 then 1 else -1
theorem lean_eq (hK : KR R th fx d w Y Q) (hC : COK th fx d w Y Q) (hQ : NPL th Q) (ht : t < 8192) (hrt : refP R t) {p : Nat} (hp : p < 13) (hf : bt (bdiff th fx) p = 1) : lnG R (XF R t) (PF R t) (d + 1) (bOf R t) p = leanR (laV fx (cGp fx Y Q t p) p) := by
  have hB := cB_pos hK hC hQ ht hrt
  have hin := fr_in hC hf
  have hg := uC_gap hB.2.2.2 p
  have s3 := mul_sg (a := cGp fx Y Q t p) hg.1
  rw [Int.mul_comm, ← hg.2] at s3
  rw [ln_rel hK hC hQ ht hrt hp hin.1 hin.2]
  have h1 := sgV_spec (uC fx Y Q t p)
  have h2 := laV_c fx (cGp fx Y Q t p) p
  have h3 := toV_c fx p
  unfold leanR
  generalize laV fx (cGp fx Y Q t p) p = l at *
  generalize cGp fx Y Q t p = g at *
  generalize uC fx Y Q t p = u at *
  generalize toV fx p = o at *
  rcases h1 with ⟨x1, x2⟩ | ⟨x1, x2⟩ | ⟨x1, x2⟩ <;> rcases h3 with y | y <;> rw [x1, y] <;> rcases h2 with ⟨z1, z2⟩ | ⟨z1, z2, z3⟩ | ⟨z1, z2, z3⟩ <;> first | (rw [z2]; first | rfl | (exfalso; omega)) | (rw [z3]; first | rfl | (exfalso; omega))
theorem leanR_inj {g : Int} {fx2 p : Nat} {b : Int} (hb : b = 0 ∨ b = 1 ∨ b = 2) : leanR (laV fx2 g p) = leanR b ↔ laV fx2 g p = b := by
  have h := laV_c fx2 g p
  unfold leanR
  rcases h with ⟨-, z⟩ | ⟨-, -, z⟩ | ⟨-, -, z⟩ <;> rcases hb with q | q | q <;> rw [z, q] <;> decide
theorem turn_eq (hK : KR R th fx d w Y Q) (hC : COK th fx d w Y Q) (hQ : NPL th Q) (ht : t < 8192) (hrt : refP R t) {r : Nat} (hr : ∀ p, bt r p = 1 → bt (bdiff th fx) p = 1) : ∀ k, k ≤ 13 → (trN R (XF R t) (PF R t) (d + 1) (bOf R t) r k).1 = (tuN fx (cGp fx Y Q t) r k).1 ∧ (trN R (XF R t) (PF R t) (d + 1) (bOf R t) r k).2 = leanR (tuN fx (cGp fx Y Q t) r k).2 ∧ ((tuN fx (cGp fx Y Q t) r k).2 = 0 ∨ (tuN fx (cGp fx Y Q t) r k).2 = 1 ∨ (tuN fx (cGp fx Y Q t) r k).2 = 2)
  | 0, _ => ⟨rfl, rfl, Or.inl rfl⟩
  | k + 1, hk => by
    obtain ⟨i1, i2, i3⟩ := turn_eq hK hC hQ ht hrt hr k (by omega)
    rw [trN, tuN]
    by_cases q : bt r k = 1
    · rw [if_pos q, if_pos q]
      have h1 := lean_eq hK hC hQ ht hrt (show k < 13 by omega) (hr k q)
      have h2 := leanR_inj (g := cGp fx Y Q t k) (fx2 := fx) (p := k) i3
      have h3 := laV_c fx (cGp fx Y Q t k) k
      refine ⟨?_, h1, by omega⟩
      show (trN R (XF R t) (PF R t) (d + 1) (bOf R t) r k).1 + _ = (tuN fx (cGp fx Y Q t) r k).1 + _
      rw [i1, h1, i2]
      by_cases c : laV fx (cGp fx Y Q t k) k = (tuN fx (cGp fx Y Q t) r k).2
      · rw [if_neg (fun z => z (h2.mpr c)), if_neg (fun z => z c)]
      · rw [if_pos (fun z => c (h2.mp z)), if_pos c]
    · rw [if_neg q, if_neg q]
      exact ⟨i1, i2, i3⟩
end
