/-! rows of points that lie on one polynomial -/
def POL (d : Nat) (X Y : Nat → Int) (n : Nat) : Prop := ∃ c : Nat → Int, ∃ S : Int, S ≠ 0 ∧ (∀ k, d < k → c k = 0) ∧ ∀ j, j < n → pv c d (X j) = S * Y j
theorem POL_sub {d n m : Nat} {X Y X2 Y2 : Nat → Int} (h : POL d X Y n) (e : ∀ j, j < m → ∃ k, k < n ∧ X2 j = X k ∧ Y2 j = Y k) : POL d X2 Y2 m := by
  obtain ⟨c, S, h1, h2, h3⟩ := h
  refine ⟨c, S, h1, h2, fun j hj => ?_⟩
  obtain ⟨k, hk, e1, e2⟩ := e j hj
  rw [e1, e2]
  exact h3 k hk
theorem pol_win {d n f : Nat} {X Y W : Nat → Int} {S : Int} (hp : POL d X Y n) (hf : f + d + 2 ≤ n) (hW : WT (fun j => X (f + j)) (d + 2) W S) : sumN (fun i => W i * Y (f + i)) (d + 2) = 0 := by
  obtain ⟨c, T, hT, hc, hj⟩ := hp
  have h1 := WT_ann hW (by omega) (p := c) (hc _ (by omega))
  have e : sumN (fun i => W i * pv c (d + 2 - 1) (X (f + i))) (d + 2) = T * sumN (fun i => W i * Y (f + i)) (d + 2) := by
    rw [← sumN_mul]
    refine sumN_congr (fun i hi => ?_)
    rw [pv_hi (m := d + 2 - 1) (d := d) (by omega) (fun k h1 _ => hc k h1), hj (f + i) (by omega)]
    ac_rfl
  have h2 : T * sumN (fun i => W i * Y (f + i)) (d + 2) = 0 := e.symm.trans h1
  rcases Int.mul_eq_zero.mp h2 with q | q
  · exact absurd q hT
  · exact q
theorem win_pol {d : Nat} {X Y : Nat → Int} : ∀ n, (∀ j, j < n → -6 ≤ X j ∧ X j ≤ 6) → (∀ i j, i < j → j < n → X i ≠ X j) → (∀ f, f + d + 2 ≤ n → ∃ W S, WT (fun j => X (f + j)) (d + 2) W S ∧ S ≠ 0 ∧ sumN (fun i => W i * Y (f + i)) (d + 2) = 0) → POL d X Y n
  | 0, _, _, _ => ⟨fun _ => 0, 1, by decide, fun _ _ => rfl, fun j hj => absurd hj (Nat.not_lt_zero j)⟩
  | n + 1, hb, hd, hw => by
    by_cases q : n + 1 ≤ d + 1
    · have hdv : ∀ i, i < n + 1 → apN X i (n + 1) ∣ 479001600 := ap_dvd hb (fun a b ha hb2 hab => by
        rcases Nat.lt_or_gt_of_ne hab with c | c
        · exact hd a b c hb2
        · exact fun e => hd b a c ha e.symm)
      have hW := WT_w hdv hd
      have hs := scl_p hdv (by omega)
      refine ⟨fun k => sumN (fun i => wgt X (n + 1) i * Y i * onA X 1 i (n + 1) k) (n + 1), scl X (n + 1), by omega, fun k hk => sumN_zero (fun i hi => by rw [(onA_hi X 1 i (n + 1) k).2 hi (by omega), Int.mul_zero]), fun j hj => ?_⟩
      have h1 := WT_int hW (G := Y) hj
      have h2 := pv_hi (m := d) (d := n + 1 - 1) (f := fun k => sumN (fun i => wgt X (n + 1) i * Y i * onA X 1 i (n + 1) k) (n + 1)) (x := X j) (by omega) (fun k h1 h2 => sumN_zero (fun i hi => by rw [(onA_hi X 1 i (n + 1) k).2 hi (by omega), Int.mul_zero]))
      exact h2.trans h1
    · have ih := win_pol n (fun j hj => hb j (by omega)) (fun i j h1 h2 => hd i j h1 (by omega)) (fun f hf => hw f (by omega))
      obtain ⟨c, T, hT, hc, hj⟩ := ih
      obtain ⟨f, hf⟩ : ∃ f, f + d + 2 = n + 1 := ⟨n + 1 - (d + 2), by omega⟩
      obtain ⟨W, S, hW, hS, h0⟩ := hw f (by omega)
      refine ⟨c, T, hT, hc, fun j hj2 => ?_⟩
      by_cases e : j = n
      · have h1 := WT_ann hW (by omega) (p := c) (hc _ (by omega))
        have h2 : sumN (fun i => W i * (T * Y (f + i)) + -1 * (W i * pv c (d + 2 - 1) (X (f + i)))) (d + 2) = 0 := by
          rw [sumN_add, sumN_mul]
          have e1 : sumN (fun i => W i * (T * Y (f + i))) (d + 2) = T * sumN (fun i => W i * Y (f + i)) (d + 2) := by
            rw [← sumN_mul]
            exact sumN_congr (fun i hi => by ac_rfl)
          rw [e1, h0, h1]
          omega
        rw [sumN_one (j := d + 1) (by omega)] at h2
        · have e3 := pv_hi (m := d + 2 - 1) (d := d) (f := c) (x := X (f + (d + 1))) (by omega) (fun k h1 _ => hc k h1)
          rw [e3, show f + (d + 1) = n from by omega] at h2
          have h3 : W (d + 1) * (T * Y n - pv c d (X n)) = 0 := by
            rw [Int.mul_sub]
            omega
          rw [e]
          rcases Int.mul_eq_zero.mp h3 with z | z
          · have h4 := hW.1 (d + 1) (by omega)
            rw [z, Int.zero_mul] at h4
            exact absurd h4.symm hS
          · omega
        · intro i hi hne
          rw [pv_hi (m := d + 2 - 1) (d := d) (by omega) (fun k h1 _ => hc k h1), hj (f + i) (by omega)]
          omega
      · exact hj j (by omega)
theorem st_sum (X Y : Nat → Int) (n : Nat) : ∀ k, stN X Y n k = sumN (fun i => wgt X n i * Y i) k
  | 0 => rfl
  | k + 1 => by
    rw [stN, sumN, st_sum X Y n k]
theorem io_sum (X Y : Nat → Int) (n : Nat) : ∀ k, k ≤ n → ioN X Y n k = sgT n 0 * sumN (fun i => wdD X n i * Y i) k
  | 0, _ => (Int.mul_zero _).symm
  | k + 1, hk => by
    rw [ioN, sumN, io_sum X Y n k (by omega), Int.mul_add]
    congr 1
    rw [wdD, Int.mul_comm (Y k)]
    rcases sgT_a n 0 with ⟨a1, a2⟩ | ⟨a1, a2⟩ <;> rcases sgT_a n k with ⟨b1, b2⟩ | ⟨b1, b2⟩
    · rw [a1, b1, if_pos (by omega), Int.one_mul, Int.one_mul]
    · rw [a1, b1, if_neg (by omega), Int.one_mul, Int.neg_mul, Int.one_mul, Int.neg_mul]
    · rw [a1, b1, if_neg (by omega), Int.one_mul, Int.neg_mul, Int.one_mul]
    · rw [a1, b1, if_pos (by omega), Int.neg_mul, Int.one_mul, Int.neg_mul, Int.neg_mul, Int.one_mul, Int.neg_neg]
theorem io_zero {X Y : Nat → Int} {n : Nat} : ioN X Y n n = 0 ↔ sumN (fun i => wdD X n i * Y i) n = 0 := by
  rw [io_sum X Y n n (Nat.le_refl n)]
  rcases sgT_a n 0 with ⟨a1, a2⟩ | ⟨a1, a2⟩ <;> rw [a1] <;> omega
theorem dIs_all (lx ly : List Int) (d : Nat) : ∀ F, dIs lx ly d F ≠ 0 ↔ ∀ f, f < F → ioN (shf (ltF lx) f) (shf (ltF ly) f) (d + 2) (d + 2) = 0
  | 0 => ⟨fun _ f hf => absurd hf (Nat.not_lt_zero f), fun _ => show (1 : Int) ≠ 0 by decide⟩
  | F + 1 => by
    have ih := dIs_all lx ly d F
    rw [dIs]
    by_cases c : dIs lx ly d F ≠ 0 ∧ ioN (shf (ltF lx) F) (shf (ltF ly) F) (d + 2) (d + 2) = 0
    · rw [if_pos c]
      refine ⟨fun _ f hf => ?_, fun _ => by decide⟩
      by_cases e : f = F
      · rw [e]
        exact c.2
      · exact ih.mp c.1 f (by omega)
    · rw [if_neg c]
      refine ⟨fun q => absurd rfl q, fun q => absurd ⟨ih.mpr (fun f hf => q f (by omega)), q F (Nat.lt_succ_self F)⟩ c⟩
/-! the reference's pairs, by x -/
theorem ltF_app (a b : List Int) (j : Nat) : ltF (a ++ b) j = if j < a.length then ltF a j else ltF b (j - a.length) := by
  unfold ltF
  simp only [List.getD_eq_getElem?_getD]
  by_cases h : j < a.length
  · rw [if_pos h, List.getElem?_append_left h]
  · rw [if_neg h, List.getElem?_append_right (by omega)]
theorem ltF_map {l : List Nat} (F : Nat → Int) {j : Nat} (h : j < l.length) : ltF (l.map F) j = F (nfP l j) := by
  simp only [ltF, nfP, List.getD_eq_getElem?_getD, List.getElem?_map, List.getElem?_eq_getElem h, Option.map_some, Option.getD_some]
theorem xe_mem {X : Nat → Int} {p n j : Nat} (h : j < (plB (xeB X p) n).length) : nfP (plB (xeB X p) n) j < n ∧ X (nfP (plB (xeB X p) n) j) = (p : Int) - 6 := by
  have h1 := nfP_in h
  unfold plB at h1
  rw [List.mem_filter] at h1
  exact ⟨List.mem_range.mp h1.1, of_decide_eq_true h1.2⟩
theorem xe_has {X : Nat → Int} {p n k : Nat} (hk : k < n) (h : X k = (p : Int) - 6) : ∃ j, j < (plB (xeB X p) n).length ∧ nfP (plB (xeB X p) n) j = k := by
  have h1 : k ∈ plB (xeB X p) n := by
    unfold plB
    rw [List.mem_filter]
    exact ⟨List.mem_range.mpr hk, xeB_t h⟩
  obtain ⟨j, hj, e⟩ := List.getElem_of_mem h1
  refine ⟨j, hj, ?_⟩
  simp only [nfP, List.getD_eq_getElem?_getD, List.getElem?_eq_getElem hj, Option.getD_some]
  exact e
theorem dg_from (X Y : Nat → Int) (n : Nat) : ∀ P j : Nat, j < (dgX X n P).length → ∃ k, k < n ∧ (∃ p : Nat, p < P ∧ X k = (p : Int) - 6) ∧ ltF (dgX X n P) j = X k ∧ ltF (dgY X Y n P) j = Y k
  | 0, j, h => absurd h (Nat.not_lt_zero j)
  | P + 1, j, h => by
    have e0 := dg_len0 X Y n P
    rw [dgX_s, List.length_append, List.length_map] at h
    rw [dgX_s, dgY_s, ltF_app, ltF_app, e0]
    by_cases c : j < (dgX X n P).length
    · rw [if_pos c, if_pos c]
      obtain ⟨k, h1, ⟨p, h2, h3⟩, h4⟩ := dg_from X Y n P j c
      exact ⟨k, h1, ⟨p, by omega, h3⟩, h4⟩
    · have hj : j - (dgX X n P).length < (plB (xeB X P) n).length := by omega
      have hm := xe_mem hj
      rw [if_neg c, if_neg c, ltF_map _ hj, ltF_map _ hj]
      exact ⟨_, hm.1, ⟨P, Nat.lt_succ_self P, hm.2⟩, hm.2.symm, rfl⟩
theorem dg_to (X Y : Nat → Int) (n : Nat) {k : Nat} (hk : k < n) : ∀ P : Nat, (∃ p : Nat, p < P ∧ X k = (p : Int) - 6) → ∃ j, j < (dgX X n P).length ∧ ltF (dgX X n P) j = X k ∧ ltF (dgY X Y n P) j = Y k
  | 0, ⟨p, hp, _⟩ => absurd hp (Nat.not_lt_zero p)
  | P + 1, ⟨p, hp, hx⟩ => by
    have e0 := dg_len0 X Y n P
    rw [dgX_s, dgY_s, List.length_append, List.length_map]
    by_cases c : p < P
    · obtain ⟨j, h1, h2, h3⟩ := dg_to X Y n hk P ⟨p, c, hx⟩
      refine ⟨j, by omega, ?_, ?_⟩
      · rw [ltF_app, if_pos h1]
        exact h2
      · rw [ltF_app, e0, if_pos h1]
        exact h3
    · have e : p = P := by omega
      subst e
      obtain ⟨j, h1, h2⟩ := xe_has hk hx
      refine ⟨(dgX X n p).length + j, by omega, ?_, ?_⟩
      · rw [ltF_app, if_neg (by omega), Nat.add_sub_cancel_left, ltF_map _ h1]
        exact hx.symm
      · rw [ltF_app, e0, if_neg (by omega), Nat.add_sub_cancel_left, ltF_map _ h1, h2]
theorem dg_up (X : Nat → Int) (n : Nat) (h1 : ∀ p, p < 13 → (plB (xeB X p) n).length ≤ 1) : ∀ P, P ≤ 13 → ∀ a b, a < b → b < (dgX X n P).length → ltF (dgX X n P) a < ltF (dgX X n P) b
  | 0, _, a, b, _, h => absurd h (Nat.not_lt_zero b)
  | P + 1, hP, a, b, hab, h => by
    have hp := h1 P (by omega)
    rw [dgX_s, List.length_append, List.length_map] at h
    rw [dgX_s, ltF_app, ltF_app, if_pos (show a < (dgX X n P).length by omega)]
    by_cases c : b < (dgX X n P).length
    · rw [if_pos c]
      exact dg_up X n h1 P (by omega) a b hab c
    · rw [if_neg c, ltF_map _ (by omega)]
      obtain ⟨k, -, ⟨p, h2, h3⟩, h4, -⟩ := dg_from X X n P a (by omega)
      rw [h4, h3]
      show (p : Int) - 6 < (P : Int) - 6
      omega
theorem xe_step (X : Nat → Int) (p n : Nat) : (plB (xeB X p) (n + 1)).length = (plB (xeB X p) n).length + (if X n = (p : Int) - 6 then 1 else 0) := by
  by_cases c : X n = (p : Int) - 6
  · rw [if_pos c, plB_t (xeB_t c), List.length_append]
    rfl
  · rw [if_neg c, plB_f (xeB_f c)]
    rfl
theorem dg_step (X : Nat → Int) (n : Nat) : ∀ P, (dgX X (n + 1) P).length = (dgX X n P).length + (if ∃ p : Nat, p < P ∧ X n = (p : Int) - 6 then 1 else 0)
  | 0 => by
    rw [if_neg (fun ⟨p, hp, _⟩ => Nat.not_lt_zero p hp)]
    rfl
  | P + 1 => by
    rw [dgX_s, dgX_s, List.length_append, List.length_append, List.length_map, List.length_map, dg_step X n P, xe_step]
    by_cases a : ∃ p : Nat, p < P ∧ X n = (p : Int) - 6
    · rw [if_pos a]
      obtain ⟨p, hp, e⟩ := a
      rw [if_neg (show ¬ X n = (P : Int) - 6 by omega), if_pos ⟨p, by omega, e⟩]
      omega
    · rw [if_neg a]
      by_cases b : X n = (P : Int) - 6
      · rw [if_pos b, if_pos ⟨P, Nat.lt_succ_self P, b⟩]
        omega
      · rw [if_neg b, if_neg (fun ⟨p, hp, e⟩ => by
          by_cases z : p = P
          · rw [z] at e
            exact b e
          · exact a ⟨p, by omega, e⟩)]
        omega
theorem dg_n {X : Nat → Int} : ∀ {n : Nat}, (∀ j, j < n → -6 ≤ X j ∧ X j ≤ 6) → (dgX X n 13).length = n
  | 0, _ => by
    have h : ∀ P, (dgX X 0 P).length = 0 := by
      intro P
      induction P with
      | zero => rfl
      | succ P ih =>
        rw [dgX_s, List.length_append, List.length_map, ih]
        rfl
    exact h 13
  | n + 1, h => by
    have hn := h n (Nat.lt_succ_self n)
    rw [dg_step, dg_n (n := n) (fun j hj => h j (by omega)), if_pos ⟨(X n + 6).toNat, by omega, by omega⟩]
theorem dg_mono (X : Nat → Int) (n : Nat) {a : Nat} : ∀ {b : Nat}, a ≤ b → (dgX X n a).length ≤ (dgX X n b).length
  | 0, h => by rw [Nat.le_zero.mp h]; exact Nat.le_refl _
  | b + 1, h => by
    by_cases e : a = b + 1
    · rw [e]
      exact Nat.le_refl _
    · have := dg_mono X n (b := b) (show a ≤ b by omega)
      rw [dgX_s, List.length_append]
      omega
/-- two of one x -/
theorem xe_two {X : Nat → Int} {p i j n : Nat} (hij : i < j) (hj : j < n) (h1 : X i = (p : Int) - 6) (h2 : X j = (p : Int) - 6) : 2 ≤ (plB (xeB X p) n).length := by
  have a1 := xe_step X p i
  have a2 := xe_step X p j
  rw [if_pos h1] at a1
  rw [if_pos h2] at a2
  have m1 := pln_mono (xeB X p) (show i + 1 ≤ j by omega)
  have m2 := pln_mono (xeB X p) (show j + 1 ≤ n by omega)
  omega
theorem xe_one {X : Nat → Int} {p n : Nat} (hd : ∀ i j, i < j → j < n → X i ≠ X j) : (plB (xeB X p) n).length ≤ 1 := by
  by_cases c : (plB (xeB X p) n).length ≤ 1
  · exact c
  · have h0 := xe_mem (X := X) (p := p) (n := n) (j := 0) (by omega)
    have h1 := xe_mem (X := X) (p := p) (n := n) (j := 1) (by omega)
    have hs : nfP (plB (xeB X p) n) 0 < nfP (plB (xeB X p) n) 1 := by
      have hp : (plB (xeB X p) n).Pairwise (fun a b => a < b) := by
        unfold plB
        exact List.Pairwise.filter _ List.pairwise_lt_range
      have h2 := List.pairwise_iff_getElem.mp hp 0 1 (by omega) (by omega) (by decide)
      simp only [nfP, List.getD_eq_getElem?_getD, List.getElem?_eq_getElem (show 0 < (plB (xeB X p) n).length by omega), List.getElem?_eq_getElem (show 1 < (plB (xeB X p) n).length by omega), Option.getD_some]
      exact h2
    exact absurd (h0.2.trans h1.2.symm) (hd _ _ hs h1.1)
theorem bt_smN {X : Nat → Int} {p : Nat} (hp : p < 13) : ∀ k, (∀ j, j < k → -6 ≤ X j ∧ X j ≤ 6) → (bt (smN X k) p = 1 ↔ ∃ i, i < k ∧ X i = (p : Int) - 6)
  | 0, _ => by
    have h0 : bt 0 p = 0 := by
      unfold bt
      rw [Nat.zero_div]
    rw [show smN X 0 = 0 from rfl, h0]
    exact ⟨fun q => by omega, fun ⟨i, hi, _⟩ => absurd hi (Nat.not_lt_zero i)⟩
  | k + 1, h => by
    have ih := bt_smN hp k (fun j hj => h j (by omega))
    have hk := h k (Nat.lt_succ_self k)
    have hpw : 2 ^ (X k + 6).toNat % 8192 = 2 ^ (X k + 6).toNat := Nat.mod_eq_of_lt (pw_lt (by omega))
    have hb := bt_lt (smN X k) p
    rw [smN, hpw, bt_or, bt_pow]
    constructor
    · intro q
      by_cases c : bt (smN X k) p = 1
      · obtain ⟨i, h1, h2⟩ := ih.mp c
        exact ⟨i, by omega, h2⟩
      · refine ⟨k, Nat.lt_succ_self k, ?_⟩
        by_cases e : (X k + 6).toNat = p
        · omega
        · rw [if_neg e] at q
          omega
    · rintro ⟨i, h1, h2⟩
      by_cases e : i = k
      · rw [e] at h2
        rw [if_pos (show (X k + 6).toNat = p by omega)]
        omega
      · have := ih.mpr ⟨i, by omega, h2⟩
        rw [this]
        split <;> decide
