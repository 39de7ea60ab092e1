/-! texts: the class's reading and the reference's -/
theorem rd_cg1 {T K K2 : Nat → Int} {L a : Nat} (h : ∀ p, p < 13 → K p = K2 p) : rdV T K L a (-6) 6 1 = rdV T K2 L a (-6) 6 1 ∧ rdA T K L a (-6) 6 1 = rdA T K2 L a (-6) 6 1 := by
  unfold rdV rdA
  by_cases o : 48 ≤ cur T L (n1A T L a) ∧ cur T L (n1A T L a) ≤ 57
  · rw [if_pos o, if_pos o, if_pos o, if_pos o]
    by_cases c : -6 ≤ nVV T L a ∧ nVV T L a ≤ 6
    · rw [h (nVV T L a + 6).toNat (by omega)]
      exact ⟨rfl, rfl⟩
    · rw [if_neg (fun q => c ⟨q.1, q.2.1⟩), if_neg (fun q => c ⟨q.1, q.2.1⟩), if_neg (fun q => c ⟨q.1, q.2.1⟩), if_neg (fun q => c ⟨q.1, q.2.1⟩)]
      exact ⟨rfl, rfl⟩
  · rw [if_neg o, if_neg o, if_neg o, if_neg o]
    exact ⟨rfl, rfl⟩
theorem rd_cg0 {T K K2 : Nat → Int} {L a : Nat} {x y : Int} : rdV T K L a x y 0 = rdV T K2 L a x y 0 ∧ rdA T K L a x y 0 = rdA T K2 L a x y 0 := by
  have e : ∀ K : Nat → Int, (x ≤ nVV T L a ∧ nVV T L a ≤ y ∧ ¬ ((0 : Int) = 1 ∧ 0 < K (nVV T L a + 6).toNat)) ↔ (x ≤ nVV T L a ∧ nVV T L a ≤ y) := fun K => ⟨fun q => ⟨q.1, q.2.1⟩, fun q => ⟨q.1, q.2, fun z => absurd z.1 (by decide)⟩⟩
  unfold rdV rdA
  by_cases o : 48 ≤ cur T L (n1A T L a) ∧ cur T L (n1A T L a) ≤ 57
  · rw [if_pos o, if_pos o, if_pos o, if_pos o]
    by_cases c : x ≤ nVV T L a ∧ nVV T L a ≤ y
    · rw [if_pos ((e K).mpr c), if_pos ((e K2).mpr c), if_pos ((e K).mpr c), if_pos ((e K2).mpr c)]
      exact ⟨rfl, rfl⟩
    · rw [if_neg (fun q => c ((e K).mp q)), if_neg (fun q => c ((e K2).mp q)), if_neg (fun q => c ((e K).mp q)), if_neg (fun q => c ((e K2).mp q))]
      exact ⟨rfl, rfl⟩
  · rw [if_neg o, if_neg o, if_neg o, if_neg o]
    exact ⟨rfl, rfl⟩
section
variable {T K K2 : Nat → Int} {L a dg f : Nat}
theorem p_cg (h : ∀ p, p < 13 → K p = K2 p) : p1A T K L a = p1A T K2 L a ∧ p2A T K L a = p2A T K2 L a ∧ p3A T K L a = p3A T K2 L a ∧ p4A T K L a = p4A T K2 L a ∧ p5A T K L a = p5A T K2 L a := by
  have e1 : p1A T K L a = p1A T K2 L a := (rd_cg1 h).2
  have e2 : p2A T K L a = p2A T K2 L a := by rw [p2A, p2A, e1]
  have e3 : p3A T K L a = p3A T K2 L a := by
    rw [p3A, p3A, e2]
    exact rd_cg0.2
  have e4 : p4A T K L a = p4A T K2 L a := by rw [p4A, p4A, e3]
  exact ⟨e1, e2, e3, e4, by rw [p5A, p5A, e4]⟩
theorem rpS_cg (h : ∀ p, p < 13 → K p = K2 p) : rpS T K L a dg f = rpS T K2 L a dg f := by
  obtain ⟨e1, e2, e3, e4, e5⟩ := p_cg (T := T) (L := L) (a := a) h
  rw [rpS, rpS, (rd_cg1 h).1, e1, e2, e3, e5, (rd_cg0 (K := K) (K2 := K2)).1]
theorem rpA_cg (h : ∀ p, p < 13 → K p = K2 p) : rpA T K L a dg f = rpA T K2 L a dg f := by
  obtain ⟨e1, e2, e3, e4, e5⟩ := p_cg (T := T) (L := L) (a := a) h
  rw [rpA, rpA, rpS_cg h, e1, e2, e3, e4, e5]
/-- what a point that is read tells -/
theorem rp_ok (h : 6 ≤ rpS T K L a dg f) : (-6 ≤ nVV T L a ∧ nVV T L a ≤ 6 ∧ ¬ 0 < K (rpX T L a)) ∧ (-99 ≤ nVV T L (p2A T K L a) ∧ nVV T L (p2A T K L a) ≤ 99) ∧ (rpS T K L a dg f = 6 ∨ rpS T K L a dg f = 7) := by
  have h1 := rp_ge h
  have h2 := rd_c T K L a (-6) 6 1 0
  have a1 : -6 ≤ nVV T L a ∧ nVV T L a ≤ 6 ∧ ¬ 0 < K (rpX T L a) := by
    have q := h1.1
    unfold rdV at q
    by_cases o : 48 ≤ cur T L (n1A T L a) ∧ cur T L (n1A T L a) ≤ 57
    · rw [if_pos o] at q
      by_cases c : -6 ≤ nVV T L a ∧ nVV T L a ≤ 6 ∧ ¬ ((1 : Int) = 1 ∧ 0 < K (nVV T L a + 6).toNat)
      · have e : rpX T L a = (nVV T L a + 6).toNat := by
          unfold rpX
          omega
        rw [e]
        exact ⟨c.1, c.2.1, fun z => c.2.2 ⟨rfl, z⟩⟩
      · rw [if_neg c] at q
        exact absurd rfl q
    · rw [if_neg o] at q
      exact absurd rfl q
  have a2 : rdV T K L (p2A T K L a) (-99) 99 0 ≠ 0 := by
    intro q
    rw [rpS, if_neg h1.1] at h
    by_cases c : tkV T L (p1A T K L a) 44 = 0
    · rw [if_pos c] at h
      omega
    · rw [if_neg c, if_pos q] at h
      omega
  refine ⟨a1, ?_, ?_⟩
  · unfold rdV at a2
    by_cases o : 48 ≤ cur T L (n1A T L (p2A T K L a)) ∧ cur T L (n1A T L (p2A T K L a)) ≤ 57
    · rw [if_pos o] at a2
      by_cases c : -99 ≤ nVV T L (p2A T K L a) ∧ nVV T L (p2A T K L a) ≤ 99 ∧ ¬ ((0 : Int) = 1 ∧ 0 < K (nVV T L (p2A T K L a) + 6).toNat)
      · exact ⟨c.1, c.2.1⟩
      · rw [if_neg c] at a2
        exact absurd rfl a2
    · rw [if_neg o] at a2
      exact absurd rfl a2
  · unfold rpS at h ⊢
    (repeat' split at h) <;> first | omega | skip
    all_goals (repeat' split) <;> omega
end
/-- sets and kinds behind a point that is read -/
theorem kd_step {th fx x : Nat} {K : Nat → Int} {b : Bool} (hx : x < 13) (hK : ∀ p, p < 13 → K p = tk2 th fx p) (h0 : bt th x = 0 ∧ bt fx x = 0) : ∀ p, p < 13 → (if b = true then va_up (va_up K x 1) x 2 else va_up K x 1) p = tk2 (th ||| 2 ^ x) (if b = true then fx ^^^ 2 ^ x else fx) p := fun p hp => by
  have h1 : bt (th ||| 2 ^ x) p = if p = x then 1 else bt th p := by
    rw [bt_or, bt_pow]
    by_cases c : p = x
    · rw [if_pos c, if_pos c.symm, c, h0.1]
      rfl
    · rw [if_neg c, if_neg (show ¬ x = p from fun e => c e.symm)]
      omega
  have hk := hK p hp
  unfold tk2 at hk ⊢
  cases b with
  | true =>
    rw [if_pos rfl, if_pos rfl, h1, bt_xp]
    by_cases c : p = x
    · rw [if_pos c, if_pos c, c, vu_same, h0.2]
      rfl
    · rw [if_neg c, if_neg c, vu_ne _ _ c, vu_ne _ _ c]
      exact hk
  | false =>
    rw [if_neg (by decide), if_neg (by decide), h1]
    by_cases c : p = x
    · rw [if_pos c, c, vu_same, h0.2]
      rfl
    · rw [if_neg c, vu_ne _ _ c]
      exact hk
/-- what holds of a point list so far: class's sets and y, reference's y and kinds -/
def TPI (d : Nat) (th fx : Nat) (Y Y2 K : Nat → Int) (n : Nat) : Prop := (th < 8192 ∧ fx < 8192 ∧ (∀ j, bt fx j ≤ bt th j) ∧ pop fx ≤ d) ∧ (∀ p, p < 13 → K p = tk2 th fx p) ∧ (∀ p, p < 13 → bt th p = 1 → Y2 p = Y p) ∧ (∀ p, p < 13 → -99 ≤ Y p ∧ Y p ≤ 99) ∧ (∀ p, p < 13 → -99 ≤ Y2 p ∧ Y2 p ≤ 99) ∧ pop th + n ≤ 8
theorem tp_same {T : Nat → Int} {L d : Nat} (hT : ∀ j, j < L → 32 ≤ T j ∧ T j ≤ 126) : ∀ (n a th fx : Nat) (Y Y2 K : Nat → Int), a ≤ L → TPI d th fx Y Y2 K n →
    (cqR T L d n a th fx Y).1 = (ptR T L d n a Y2 K (pop fx)).1 ∧ ((cqR T L d n a th fx Y).1 = 0 → (cqR T L d n a th fx Y).2.2.2.2 = (ptR T L d n a Y2 K (pop fx)).2.1) ∧ ((cqR T L d n a th fx Y).1 = 1 → TPI d (cqR T L d n a th fx Y).2.1 (cqR T L d n a th fx Y).2.2.1 (cqR T L d n a th fx Y).2.2.2.1 (ptR T L d n a Y2 K (pop fx)).2.2.1 (ptR T L d n a Y2 K (pop fx)).2.2.2.1 0)
  | 0, a, th, fx, Y, Y2, K, ha, hI => by
    rw [cqR, ptR]
    by_cases c : cur T L (sk T L a) = 0
    · rw [if_pos c, if_pos c]
      exact ⟨rfl, fun q => absurd q (show ¬ (1 : Int) = 0 by decide), fun _ => hI⟩
    · rw [if_neg c, if_neg c]
      exact ⟨rfl, fun _ => rfl, fun q => absurd q (show ¬ (0 : Int) = 1 by decide)⟩
  | n + 1, a, th, fx, Y, Y2, K, ha, hI => by
    obtain ⟨hi, hK, hYY, hY, hY2, hn⟩ := hI
    have hs := sk_r (T := T) ha
    have hss := sk_i hs
    rw [cqR, ptR]
    by_cases c : cur T L (sk T L a) = 0
    · rw [if_pos c, if_neg (show ¬ cur T L (sk T L a) = 40 by omega), if_pos c]
      exact ⟨rfl, fun q => absurd q (show ¬ (1 : Int) = 0 by decide), fun _ => ⟨hi, hK, hYY, hY, hY2, show pop th + 0 ≤ 8 by omega⟩⟩
    · rw [if_neg c]
      by_cases o : cur T L (sk T L a) = 40
      · rw [if_pos o]
        have hta : tkA T L (sk T L a) 40 = sk T L a + 1 := by
          rw [tkA, hss, if_pos o]
        have hcs : cpS T L (sk T L a) th fx d = rpS T K L (sk T L a + 1) d (pop fx) := by
          rw [cpS, hss, if_neg (fun q => q o), hta]
          exact rpS_cg (fun p hp => (hK p hp).symm)
        have hA : rpA T K L (sk T L a + 1) d (pop fx) = rpA T (tk2 th fx) L (sk T L a + 1) d (pop fx) := rpA_cg hK
        by_cases e : 6 ≤ rpS T K L (sk T L a + 1) d (pop fx)
        · have hcv : cpV T L (sk T L a) th fx d = 1 := by
            rw [cpV, hcs, if_pos e]
          have hrv : rpV T K L (sk T L a + 1) d (pop fx) = 1 := by
            rw [rpV, if_pos e]
          rw [hcv, hrv, if_neg (by decide), if_neg (by decide), hta]
          obtain ⟨⟨o1, o2, o3⟩, o4, o5⟩ := rp_ok e
          have hx := rpX_b T L (sk T L a + 1)
          have h0 : bt th (rpX T L (sk T L a + 1)) = 0 ∧ bt fx (rpX T L (sk T L a + 1)) = 0 := by
            rw [hK _ hx, tk2] at o3
            have := bt_lt th (rpX T L (sk T L a + 1))
            omega
          have hci := cp_inv (a := sk T L a) hT hs.2.1 hi hcv
          rw [hta] at hci
          have e2 : p2A T (tk2 th fx) L (sk T L a + 1) = p2A T K L (sk T L a + 1) := (p_cg (fun p hp => (hK p hp).symm)).2.1
          have hcx : cpX T L (sk T L a) th fx d = if rpS T K L (sk T L a + 1) d (pop fx) = 7 then fx ^^^ 2 ^ rpX T L (sk T L a + 1) else fx := by
            rw [cpX, hta, rpS_cg hK]
          have hpx : pop (cpX T L (sk T L a) th fx d) = rpG T K L (sk T L a + 1) d (pop fx) := by
            rw [hcx, rpG]
            by_cases z : rpS T K L (sk T L a + 1) d (pop fx) = 7
            · rw [if_pos z, if_pos z]
              exact pop_on hi.2.1 hx h0.2
            · rw [if_neg z, if_neg z]
          have hY3 : rpY T K L (sk T L a + 1) d (pop fx) Y2 = va_up Y2 (rpX T L (sk T L a + 1)) (nVV T L (p2A T K L (sk T L a + 1))) := by
            rw [rpY, if_neg (by omega)]
          have hK3 : ∀ p, p < 13 → rpK T K L (sk T L a + 1) d (pop fx) K p = tk2 (th ||| 2 ^ rpX T L (sk T L a + 1)) (cpX T L (sk T L a) th fx d) p := fun p hp => by
            rw [rpK, if_neg (by omega), hcx]
            by_cases z : rpS T K L (sk T L a + 1) d (pop fx) = 7
            · rw [if_pos z, if_pos z]
              exact kd_step (b := true) hx hK h0 p hp
            · rw [if_neg z, if_neg z]
              exact kd_step (b := false) hx hK h0 p hp
          have hI2 : TPI d (th ||| 2 ^ rpX T L (sk T L a + 1)) (cpX T L (sk T L a) th fx d) (va_up Y (rpX T L (sk T L a + 1)) (nVV T L (p2A T (tk2 th fx) L (sk T L a + 1)))) (rpY T K L (sk T L a + 1) d (pop fx) Y2) (rpK T K L (sk T L a + 1) d (pop fx) K) n := by
            rw [hY3, e2]
            refine ⟨hci.2, hK3, fun p hp hb => ?_, fun p hp => ?_, fun p hp => ?_, ?_⟩
            · by_cases z : p = rpX T L (sk T L a + 1)
              · rw [z, vu_same, vu_same]
              · rw [vu_ne _ _ z, vu_ne _ _ z]
                rw [bt_or, bt_pow, if_neg (show ¬ rpX T L (sk T L a + 1) = p from fun q => z q.symm)] at hb
                exact hYY p hp (by have := bt_lt th p; omega)
            · by_cases z : p = rpX T L (sk T L a + 1)
              · rw [z, vu_same]
                exact o4
              · rw [vu_ne _ _ z]
                exact hY p hp
            · by_cases z : p = rpX T L (sk T L a + 1)
              · rw [z, vu_same]
                exact o4
              · rw [vu_ne _ _ z]
                exact hY2 p hp
            · rw [pop_in hx h0.1]
              omega
          have ih := tp_same hT n (rpA T (tk2 th fx) L (sk T L a + 1) d (pop fx)) _ _ _ _ _ hci.1 hI2
          rw [hpx] at ih
          rw [hA]
          exact ih
        · have hcv : cpV T L (sk T L a) th fx d = 0 := by
            rw [cpV, hcs, if_neg e]
          have hrv : rpV T K L (sk T L a + 1) d (pop fx) = 0 := by
            rw [rpV, if_neg e]
          rw [hcv, hrv, if_pos rfl, if_pos rfl]
          refine ⟨rfl, fun _ => ?_, fun q => absurd q (show ¬ (0 : Int) = 1 by decide)⟩
          show cpL T L (sk T L a) th fx d = rpA T K L (sk T L a + 1) d (pop fx)
          rw [cpL, hss, if_neg (fun q => q o), hta, hA]
      · rw [if_neg o, if_neg c]
        have hcv : cpV T L (sk T L a) th fx d = 0 := by
          rw [cpV, cpS, hss, if_pos o, if_neg (by decide)]
        rw [hcv, if_pos rfl]
        refine ⟨rfl, fun _ => ?_, fun q => absurd q (show ¬ (0 : Int) = 1 by decide)⟩
        show cpL T L (sk T L a) th fx d = sk T L a
        rw [cpL, hss, if_pos o]
/-- what lies beneath, as it is read -/
theorem bn_same {T K K2 : Nat → Int} {L : Nat} (hT : ∀ j, j < L → 32 ≤ T j ∧ T j ≤ 126) : ∀ (n a : Nat) (Q Q2 : Nat → Int) (j : Nat), a ≤ L → (∀ i, i < 3 → Q i = Q2 i ∧ -3 ≤ Q i ∧ Q i ≤ 3) → (bnR T K L n a Q j).1 = (bnR T K2 L n a Q2 j).1 ∧ (bnR T K L n a Q j).2.1 = (bnR T K2 L n a Q2 j).2.1 ∧ (bnR T K L n a Q j).2.1 ≤ L ∧ ∀ i, i < 3 → (bnR T K L n a Q j).2.2 i = (bnR T K2 L n a Q2 j).2.2 i ∧ -3 ≤ (bnR T K L n a Q j).2.2 i ∧ (bnR T K L n a Q j).2.2 i ≤ 3
  | 0, a, Q, Q2, j, ha, h => ⟨rfl, rfl, ha, h⟩
  | n + 1, a, Q, Q2, j, ha, h => by
    have e0 := rd_cg0 (T := T) (K := K) (K2 := K2) (L := L) (a := a) (x := -3) (y := 3)
    have hr := rd_le (T := T) (K := K2) (L := L) (a := a) (x := -3) (y := 3) (e := 0) hT ha
    rw [bnR, bnR, e0.1, e0.2]
    by_cases c : rdV T K2 L a (-3) 3 0 = 0
    · rw [if_pos c, if_pos c]
      exact ⟨rfl, rfl, hr.2, h⟩
    · rw [if_neg c, if_neg c]
      have hv : -3 ≤ nVV T L a ∧ nVV T L a ≤ 3 := by
        unfold rdV at c
        by_cases o : 48 ≤ cur T L (n1A T L a) ∧ cur T L (n1A T L a) ≤ 57
        · rw [if_pos o] at c
          by_cases z : -3 ≤ nVV T L a ∧ nVV T L a ≤ 3 ∧ ¬ ((0 : Int) = 1 ∧ 0 < K2 (nVV T L a + 6).toNat)
          · exact ⟨z.1, z.2.1⟩
          · rw [if_neg z] at c
            exact absurd rfl c
        · rw [if_neg o] at c
          exact absurd rfl c
      have h2 : ∀ i, i < 3 → va_up Q j (nVV T L a) i = va_up Q2 j (nVV T L a) i ∧ -3 ≤ va_up Q j (nVV T L a) i ∧ va_up Q j (nVV T L a) i ≤ 3 := fun i hi => by
        by_cases z : i = j
        · rw [z, vu_same, vu_same]
          exact ⟨rfl, hv⟩
        · rw [vu_ne _ _ z, vu_ne _ _ z]
          exact h i hi
      have ht1 := tk_le (T := T) (a := rdA T K2 L a (-3) 3 0) (c := 59) hT hr.2 (by decide)
      have ht2 := tk_le (T := T) (a := rdA T K2 L a (-3) 3 0) (c := 44) hT hr.2 (by decide)
      have ht3 := tk_le (T := T) (a := tkA T L (rdA T K2 L a (-3) 3 0) 44) (c := 59) hT ht2.2 (by decide)
      by_cases n0 : n = 0
      · rw [if_pos n0, if_pos n0]
        exact ⟨rfl, rfl, ht1.2, h2⟩
      · rw [if_neg n0, if_neg n0]
        by_cases t : tkV T L (rdA T K2 L a (-3) 3 0) 44 = 0
        · rw [if_pos t, if_pos t]
          exact ⟨rfl, rfl, ht3.2, h2⟩
        · rw [if_neg t, if_neg t]
          exact bn_same hT n _ _ _ (j + 1) ht2.2 h2
