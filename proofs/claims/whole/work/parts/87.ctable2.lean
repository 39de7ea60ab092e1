/-! what that check says of a set's weights -/
theorem ckM_ok : ∀ (k b : Nat) (l : List Nat), ckM k b l = true → ∀ S, (plB (bB S) k).length ≤ b → tstM (plB (bB S) k ++ l) = true
  | 0, b, l, h, S, _ => h
  | k + 1, b, l, h0, S, hb => by
    have h1 : ckM k b l = true ∧ ∀ c, b = c + 1 → ckM k c (k :: l) = true := by
      cases b with
      | zero =>
        have h : (ckM k 0 l && true) = true := h0
        exact ⟨((Bool.and_eq_true _ _).mp h).1, fun c e => by omega⟩
      | succ b =>
        have h : (ckM k (b + 1) l && ckM k b (k :: l)) = true := h0
        refine ⟨((Bool.and_eq_true _ _).mp h).1, fun c e => ?_⟩
        rw [← Nat.succ.inj e]
        exact ((Bool.and_eq_true _ _).mp h).2
    by_cases q : bt S k = 1
    · have e := plB_t (bB_t q)
      have hl := pln_t (bB_t q)
      rw [e, List.append_assoc]
      exact ckM_ok k (b - 1) (k :: l) (h1.2 (b - 1) (by omega)) S (by omega)
    · rw [plB_f (bB_f q)] at hb ⊢
      exact ckM_ok k b l h1.1 S hb
theorem bif_beq (j i x : Nat) : (bif Nat.beq j i then 1 else x) = if j = i then 1 else x := by
  cases h : Nat.beq j i with
  | true => rw [if_pos (Nat.eq_of_beq_eq_true h)]; rfl
  | false => rw [if_neg (Nat.ne_of_beq_eq_false h)]; rfl
theorem dN_e (a b : Nat) : (((a : Int) - 6) - ((b : Int) - 6)).natAbs = dN a b := by
  unfold dN
  omega
theorem dN_6 (a : Nat) : ((a : Int) - 6).natAbs = dN a 6 := by
  unfold dN
  omega
theorem px_prM (l : List Nat) (p i : Nat) : ∀ k, (pxN (nfX l) ((p : Int) - 6) i k).natAbs = prM (dN p) l i k
  | 0 => rfl
  | k + 1 => by
    rw [pxN, prM, bif_beq, Int.natAbs_mul, px_prM l p i k]
    by_cases e : k = i
    · rw [if_pos e, if_pos e]
      rfl
    · rw [if_neg e, if_neg e]
      exact congrArg _ (dN_e p (nfP l k))
theorem ap_prM (l : List Nat) (i k : Nat) : (apN (nfX l) i k).natAbs = prM (dN (nfP l i)) l i k := by
  rw [← pxN_ap]
  exact px_prM l (nfP l i) i k
theorem on_prM (l : List Nat) (i : Nat) : ∀ a k, (onA (nfX l) 1 i a k).natAbs ≤ prM (fun x => 1 + dN x 6) l i a
  | 0, k => by
    show (if k = 0 then (1 : Int) else 0).natAbs ≤ 1
    split <;> decide
  | a + 1, k => by
    rw [prM, bif_beq]
    by_cases e : a = i
    · rw [onA_e e, if_pos e, Nat.mul_one]
      exact on_prM l i a k
    · rw [onA_n e, if_neg e]
      have h1 := on_prM l i a k
      have h2 := on_prM l i a (k - 1)
      have h3 : (onA (nfX l) 1 i a k * nfX l a).natAbs ≤ prM (fun x => 1 + dN x 6) l i a * dN (nfP l a) 6 := by
        rw [Int.natAbs_mul]
        exact Nat.mul_le_mul h1 (Nat.le_of_eq (dN_6 (nfP l a)))
      rw [Nat.mul_add, Nat.mul_one]
      generalize prM (fun x => 1 + dN x 6) l i a * dN (nfP l a) 6 = z at *
      generalize prM (fun x => 1 + dN x 6) l i a = y at *
      generalize onA (nfX l) 1 i a k * nfX l a = v at *
      by_cases c : 0 < k
      · rw [if_pos c]
        generalize onA (nfX l) 1 i a (k - 1) = u at *
        omega
      · rw [if_neg c]
        omega
theorem smM_cg {f g : Nat → Nat} : ∀ {n : Nat}, (∀ i, i < n → f i = g i) → smM f n = smM g n
  | 0, _ => rfl
  | n + 1, h => by rw [smM, smM, smM_cg (n := n) (fun i hi => h i (by omega)), h n (by omega)]
theorem smM_mul (c : Nat) (f : Nat → Nat) : ∀ n, smM (fun i => c * f i) n = c * smM f n
  | 0 => (Nat.mul_zero c).symm
  | n + 1 => by rw [smM, smM, smM_mul c f n, Nat.mul_add]
theorem smM_le {f g : Nat → Nat} : ∀ {n : Nat}, (∀ i, i < n → f i ≤ g i) → smM f n ≤ smM g n
  | 0, _ => Nat.le_refl 0
  | n + 1, h => by
    rw [smM, smM]
    exact Nat.add_le_add (smM_le (n := n) (fun i hi => h i (by omega))) (h n (by omega))
theorem sm_abs (f : Nat → Int) : ∀ n, (sumN f n).natAbs ≤ smM (fun i => (f i).natAbs) n
  | 0 => Nat.le_refl 0
  | n + 1 => by
    have := sm_abs f n
    rw [sumN, smM]
    omega
theorem gcM_cg {f g : Nat → Nat} : ∀ {n : Nat}, (∀ i, i < n → f i = g i) → gcM f n = gcM g n
  | 0, _ => rfl
  | n + 1, h => by rw [gcM, gcM, gcM_cg (n := n) (fun i hi => h i (by omega)), h n (by omega)]
theorem wR_vM (l : List Nat) (i : Nat) : (wR (nfX l) l.length i).natAbs = vM l i := by
  rw [wR, vM, Int.natAbs_tdiv, ap_prM]
  rfl
theorem gc_gcM (l : List Nat) : ∀ k, (gcW (nfX l) l.length k).natAbs = gcM (vM l) k
  | 0 => rfl
  | k + 1 => by
    rw [gcW, gcM, ← gc_gcM l k, ← wR_vM l k]
    rfl
theorem nfP_map {f : Nat → Nat} {n i : Nat} (h : i < n) : nfP ((List.range n).map f) i = f i := by
  simp [nfP, List.getD_eq_getElem?_getD, List.getElem?_map, List.getElem?_range h]
theorem le_cancel {g a b : Nat} (hg : 0 < g) (h : g * g * a ≤ b * (g * g)) : a ≤ b := by
  rw [Nat.mul_comm b] at h
  exact Nat.le_of_mul_le_mul_left h (Nat.mul_pos hg hg)
def WnM (l : List Nat) (i : Nat) : Nat := (wgt (nfX l) l.length i).natAbs
def ZnM (l : List Nat) : Nat := smM (fun i => WnM l i * qbN (nfP l i)) l.length
def SnM (l : List Nat) (e : Nat → Nat) : Nat := smM (fun i => WnM l i * qbN (nfP l i) * prM e l i l.length) l.length
theorem ts_use {l : List Nat} (hd : ∀ i, i < l.length → apN (nfX l) i l.length ∣ 479001600) (h0 : 0 < l.length) {c : Nat} {e : Nat → Nat} (h : tsM l ((List.range l.length).map (fun i => vM l i * qbN (nfP l i))) (smM (fun i => vM l i * qbN (nfP l i)) l.length) (gcM (vM l) l.length) c e = true) : 99 * ((scl (nfX l) l.length).natAbs * ZnM l) * c + 198 * ZnM l * SnM l e ≤ 71000000000000000 := by
  have hg := gcW_p hd h0
  have hdv := gcW_d hd l.length (Nat.le_refl _)
  have e0 : (gcW (nfX l) l.length l.length).natAbs = gcM (vM l) l.length := gc_gcM l l.length
  have e1 : ∀ i, i < l.length → vM l i = gcM (vM l) l.length * WnM l i := fun i hi => by
    have q : wgt (nfX l) l.length i * gcW (nfX l) l.length l.length = wR (nfX l) l.length i := Int.tdiv_mul_cancel (hdv.2.2.2 i hi)
    rw [← wR_vM, ← q, Int.natAbs_mul, e0, Nat.mul_comm]
    rfl
  have e2 : (479001600 : Nat) = gcM (vM l) l.length * (scl (nfX l) l.length).natAbs := by
    have q : scl (nfX l) l.length * gcW (nfX l) l.length l.length = 479001600 := Int.tdiv_mul_cancel (hdv.1 h0)
    have q2 := congrArg Int.natAbs q
    rw [Int.natAbs_mul, e0, Nat.mul_comm] at q2
    exact q2.symm
  have hg2 : 0 < gcM (vM l) l.length := by omega
  have e3 : smM (fun i => vM l i * qbN (nfP l i)) l.length = gcM (vM l) l.length * ZnM l := by
    rw [ZnM, ← smM_mul]
    refine smM_cg (fun i hi => ?_)
    rw [e1 i hi, Nat.mul_assoc]
  have e4 : smM (fun i => nfP ((List.range l.length).map (fun i => vM l i * qbN (nfP l i))) i * prM e l i l.length) l.length = gcM (vM l) l.length * SnM l e := by
    rw [SnM, ← smM_mul]
    refine smM_cg (fun i hi => ?_)
    rw [nfP_map hi, e1 i hi]
    ac_rfl
  have h2 := Nat.le_of_ble_eq_true h
  rw [e3, e4, e2] at h2
  refine le_cancel hg2 (Nat.le_trans (Nat.le_of_eq ?_) h2)
  generalize gcM (vM l) l.length = g
  rw [Nat.mul_add]
  congr 1 <;> ac_rfl
theorem tst_use {l : List Nat} (hd : ∀ i, i < l.length → apN (nfX l) i l.length ∣ 479001600) (h0 : 0 < l.length) (h : tstM l = true) : 198 * ZnM l * SnM l (fun x => 1 + dN x 6) ≤ 71000000000000000 ∧ ∀ p, p < 13 → 99 * ((scl (nfX l) l.length).natAbs * ZnM l) * qbN p + 198 * ZnM l * SnM l (dN p) ≤ 71000000000000000 := by
  unfold tstM at h
  rw [frM_e, frM_e, frc_e, frc_e, Bool.and_eq_true] at h
  have c1 : (List.range l.length).map (fun i => nfP ((List.range l.length).map (vM l)) i * qbN (nfP l i)) = (List.range l.length).map (fun i => vM l i * qbN (nfP l i)) := List.map_congr_left (fun i hi => by rw [nfP_map (List.mem_range.mp hi)])
  have c2 : smM (nfP ((List.range l.length).map (fun i => vM l i * qbN (nfP l i)))) l.length = smM (fun i => vM l i * qbN (nfP l i)) l.length := smM_cg (fun i hi => nfP_map hi)
  have c3 : gcM (nfP ((List.range l.length).map (vM l))) l.length = gcM (vM l) l.length := gcM_cg (fun i hi => nfP_map hi)
  rw [c1, c2, c3] at h
  refine ⟨?_, fun p hp => ts_use hd h0 (allP_ok h.2 p hp)⟩
  have := ts_use hd h0 h.1
  omega
theorem set_use {S : Nat} (h5 : (plB (bB S) 13).length ≤ 5) : tstM (plB (bB S) 13) = true := by
  have h := ckM_ok 13 5 [] ck_all S h5
  rwa [List.append_nil] at h
theorem qv_qb {Q : Nat → Int} (h : qOK Q) {p : Nat} (hp : p < 13) : (qv Q ((p : Int) - 6)).natAbs ≤ qbN p := by
  obtain ⟨⟨a1, a2⟩, ⟨b1, b2⟩, c1, c2⟩ := h
  unfold qv qbN dN
  generalize Q 0 = a at *
  generalize Q 1 = b at *
  generalize Q 2 = c at *
  rcases (show p = 0 ∨ p = 1 ∨ p = 2 ∨ p = 3 ∨ p = 4 ∨ p = 5 ∨ p = 6 ∨ p = 7 ∨ p = 8 ∨ p = 9 ∨ p = 10 ∨ p = 11 ∨ p = 12 by omega) with rfl | rfl | rfl | rfl | rfl | rfl | rfl | rfl | rfl | rfl | rfl | rfl | rfl <;> omega
