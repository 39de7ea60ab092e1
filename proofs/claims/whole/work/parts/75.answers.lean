/-! answers told out of the least greatest error's fit -/
theorem onA_cg {f g : Nat → Int} {c e : Int} {i : Nat} (hc : c = e) : ∀ {a : Nat}, (∀ j, j < a → f j = g j) → onA f c i a = onA g e i a
  | 0, _ => by
    rw [hc]
    rfl
  | a + 1, h => by
    have ih := onA_cg hc (i := i) (a := a) (fun j hj => h j (by omega))
    rw [onA, onA, ih, h a (by omega)]
theorem alA_cg {f g p q : Nat → Int} {n : Nat} (h1 : ∀ j, j < n → f j = g j) (h2 : ∀ j, j < n → p j = q j) : ∀ {i : Nat}, i ≤ n → alA f p n i = alA g q n i
  | 0, _ => rfl
  | i + 1, hi => by
    have ih := alA_cg h1 h2 (i := i) (by omega)
    funext k
    rw [alA, alA, ih, h2 i (by omega), dfA_congr h1, onA_cg rfl h1]
theorem cross {N A v b S G C : Int} (hS : 0 < S) (hG : 0 < G) (h1 : v * (G * N) = S * A) (h2 : G * C = S * b) : N * (b * v) = A * C := by
  have h3 : (G * S) * (N * (b * v)) = (G * S) * (A * C) := by
    have e1 : (G * S) * (N * (b * v)) = (v * (G * N)) * (b * S) := by ac_rfl
    have e2 : (G * S) * (A * C) = (S * A) * (G * C) := by ac_rfl
    rw [e1, e2, h1, h2]
    ac_rfl
  exact Int.eq_of_mul_eq_mul_left (by have := Int.mul_pos hG hS; omega) h3
section
variable {R : Nat → Int} {th fx d w s t : Nat} {Y Q : Nat → Int}
theorem cG_parts (h : 0 < cB0 fx Y Q s) : 0 < cG fx Y Q s ∧ cG fx Y Q s * cBe fx Y Q s = cB0 fx Y Q s ∧ (∀ k, k < 4 → cG fx Y Q s * cP fx Y Q s k = cT fx Y Q s k) ∧ cBe fx Y Q s ≠ 0 := by
  have h1 := shG_b (P := cT fx Y Q s) h 4
  have h2 := shG_dvd (P := cT fx Y Q s) (b := cB0 fx Y Q s) 4
  have e1 : cG fx Y Q s * cBe fx Y Q s = cB0 fx Y Q s := by
    rw [Int.mul_comm]
    exact Int.tdiv_mul_cancel h2.1
  refine ⟨h1.1, e1, fun k hk => ?_, fun q => ?_⟩
  · rw [Int.mul_comm]
    exact Int.tdiv_mul_cancel (h2.2 k hk)
  · rw [q, Int.mul_zero] at e1
    omega
/-- a fit of the reference as its answers hold it: that of a set t -/
def XPC (R : Nat → Int) (d t : Nat) (X P : Nat → Int) (c : Int) : Prop := c = bOf R t ∧ ∀ j, j < d + 1 → X j = nfX (lOf R t) j ∧ P j = fpV R (lOf R t) (aOf R t) (bOf R t) j
theorem XPC_v (hK : KR R th fx d w Y Q) (hC : COK th fx d w Y Q) (ht : t < 8192) (hrt : refP R t) {X P : Nat → Int} {c : Int} (hX : XPC R d t X P c) : c = bOf R t ∧ vdA X (d + 1) (d + 1) = vdA (nfX (clL fx t)) (d + 1) (d + 1) ∧ (∀ x, upN X P x (d + 1) (d + 1) = upN (nfX (clL fx t)) (fpV R (clL fx t) (aOf R t) (bOf R t)) x (d + 1) (d + 1)) ∧ alA X P (d + 1) (d + 1) = alA (nfX (clL fx t)) (fpV R (clL fx t) (aOf R t) (bOf R t)) (d + 1) (d + 1) ∧ 0 < vdA (nfX (clL fx t)) (d + 1) (d + 1) := by
  have hl := KR_l hK hC ht hrt
  have hX2 := hX.2
  rw [hl] at hX2
  have g1 : ∀ j, j < d + 1 → X j = nfX (clL fx t) j := fun j hj => (hX2 j hj).1
  have g2 : ∀ j, j < d + 1 → P j = fpV R (clL fx t) (aOf R t) (bOf R t) j := fun j hj => (hX2 j hj).2
  refine ⟨hX.1, vdA_congr g1, fun x => upN_congr g1 g2, alA_cg g1 g2 (Nat.le_refl _), ?_⟩
  exact vdA_pos (fun i j h1 h2 => nfX_lt (b := bB (t ||| fx)) rfl h1 (show j < (clL fx t).length by have := ref_len hK hC ht hrt; omega)) (Nat.le_refl (d + 1))
/-- a part of the polynomial -/
theorem ans_part (hK : KR R th fx d w Y Q) (hC : COK th fx d w Y Q) (hQ : NPL th Q) (ht : t < 8192) (hrt : refP R t) {X P : Nat → Int} {c : Int} (hX : XPC R d t X P c) {j : Nat} (hj : j < 4) {z : Int} (hz : z = 0 ∨ z = 1 ∨ z = 2) :
    tlV z (fdU (alA X P (d + 1) (d + 1) j) (c * vdA X (d + 1) (d + 1))) (((c * vdA X (d + 1) (d + 1)).natAbs : Int).tdiv (Int.gcd (alA X P (d + 1) (d + 1) j) (c * vdA X (d + 1) (d + 1)) : Int)) = frV (cP fx Y Q t j) (cBe fx Y Q t) z := by
  have hB := cB_pos hK hC hQ ht hrt
  have hg := cG_parts hB.2.2.2
  have hv := XPC_v hK hC ht hrt hX
  rw [hv.1, hv.2.1, hv.2.2.2.1]
  refine tl_fr hg.2.2.2 (by have := Int.mul_pos hB.2.1 hv.2.2.2.2; omega) ?_ hz
  refine cross hB.1 hg.1 ?_ (by rw [hg.2.1, hB.2.2.1])
  rw [hg.2.2.1 j hj]
  exact cT_al hK hC hQ ht hrt j hj
/-- a value -/
theorem ans_value (hK : KR R th fx d w Y Q) (hC : COK th fx d w Y Q) (hQ : NPL th Q) (ht : t < 8192) (hrt : refP R t) {X P : Nat → Int} {c : Int} (hX : XPC R d t X P c) {x : Int} (hx : qv Q x ≠ 0) {z : Int} (hz : z = 0 ∨ z = 1 ∨ z = 2) :
    tlV z (fdU (upN X P x (d + 1) (d + 1)) (qv (fun j => R (j + 1)) x * (c * vdA X (d + 1) (d + 1)))) (((qv (fun j => R (j + 1)) x * (c * vdA X (d + 1) (d + 1))).natAbs : Int).tdiv (Int.gcd (upN X P x (d + 1) (d + 1)) (qv (fun j => R (j + 1)) x * (c * vdA X (d + 1) (d + 1))) : Int)) = frV (ev4 (cP fx Y Q t) x) (cBe fx Y Q t * qv Q x) z := by
  have hB := cB_pos hK hC hQ ht hrt
  have hg := cG_parts hB.2.2.2
  have hv := XPC_v hK hC ht hrt hX
  have hd := hC.2.2.1
  rw [hv.1, hv.2.1, hv.2.2.1, KR_qv hK]
  have hcv := Int.mul_pos hB.2.1 hv.2.2.2.2
  refine tl_fr (Int.mul_ne_zero hg.2.2.2 hx) (Int.mul_ne_zero hx (by omega)) ?_ hz
  have e1 : ev4 (cT fx Y Q t) x = cG fx Y Q t * ev4 (cP fx Y Q t) x := by
    rw [← ev4_smul]
    exact ev4_congr (fun k hk => (hg.2.2.1 k hk).symm)
  have e2 : vdA (nfX (clL fx t)) (d + 1) (d + 1) * ev4 (cT fx Y Q t) x = scl (nfX (clL fx t)) (clL fx t).length * upN (nfX (clL fx t)) (fpV R (clL fx t) (aOf R t) (bOf R t)) x (d + 1) (d + 1) := by
    rw [ev_up (show d + 1 ≤ 4 by omega) _ (d + 1) (Nat.le_refl _), ← ev4_smul, ← ev4_smul]
    exact ev4_congr (cT_al hK hC hQ ht hrt)
  rw [e1] at e2
  have h := cross hB.1 hg.1 e2 (by rw [hg.2.1, hB.2.2.1])
  have q1 : ev4 (cP fx Y Q t) x * (qv Q x * (bOf R t * vdA (nfX (clL fx t)) (d + 1) (d + 1))) = ev4 (cP fx Y Q t) x * (bOf R t * vdA (nfX (clL fx t)) (d + 1) (d + 1)) * qv Q x := by ac_rfl
  rw [q1, h]
  ac_rfl
/-- an error -/
theorem ans_error (hK : KR R th fx d w Y Q) (hC : COK th fx d w Y Q) (hQ : NPL th Q) (ht : t < 8192) (hrt : refP R t) {X P : Nat → Int} {c : Int} (hX : XPC R d t X P c) {p : Nat} (hp : p < 13) (htp : bt th p = 1) {z : Int} (hz : z = 0 ∨ z = 1 ∨ z = 2) :
    tlV z (eUG R X P (d + 1) c p) (eDG R X P (d + 1) c p) = frV (cGp fx Y Q t p) (cBe fx Y Q t * qv Q ((p : Int) - 6)) z := by
  have hB := cB_pos hK hC hQ ht hrt
  have hg := cG_parts hB.2.2.2
  have hv := XPC_v hK hC ht hrt hX
  have hx := hQ p hp htp
  have hu := u_rel hK hC hQ ht hrt hp htp
  rw [(uC_gap hB.2.2.2 p).2] at hu
  have hcv := Int.mul_pos hB.2.1 hv.2.2.2.2
  have e1 : uG R X P (d + 1) c p = uG R (nfX (clL fx t)) (fpV R (clL fx t) (aOf R t) (bOf R t)) (d + 1) (bOf R t) p := by
    rw [uG, uG, hv.1, hv.2.1, hv.2.2.1]
  have e2 : wG R X (d + 1) c p = qv Q ((p : Int) - 6) * (bOf R t * vdA (nfX (clL fx t)) (d + 1) (d + 1)) := by
    rw [wG, hv.1, hv.2.1, KR_qv hK]
  rw [eUG, eDG, e1, e2]
  refine tl_fr (Int.mul_ne_zero hg.2.2.2 hx) (Int.mul_ne_zero hx (by omega)) ?_ hz
  have h := cross hB.1 hg.1 hu (by rw [hg.2.1, hB.2.2.1])
  have q1 : cGp fx Y Q t p * (qv Q ((p : Int) - 6) * (bOf R t * vdA (nfX (clL fx t)) (d + 1) (d + 1))) = cGp fx Y Q t p * (bOf R t * vdA (nfX (clL fx t)) (d + 1) (d + 1)) * qv Q ((p : Int) - 6) := by ac_rfl
  rw [q1, h]
  ac_rfl
end
