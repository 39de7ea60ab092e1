/-! the class and the reference side by side -/
def KRs (R : Nat → Int) (n : sn) : Prop := KR R n.1 n.2.1 n.2.2.1 n.2.2.2.1 n.2.2.2.2.1 n.2.2.2.2.2
def COKs (n : sn) : Prop := COK n.1 n.2.1 n.2.2.1 n.2.2.2.1 n.2.2.2.2.1 n.2.2.2.2.2
/-- the past, the class's and the reference's -/
def PRs (R : Nat → Int) (k : Nat) (H : Nat → sn) : Prop := ∀ i, i < k → KRs (fun j => R (31 + 31 * i + j)) (H i) ∧ COKs (H i)
def SHs (f g b : Nat → Int) (he la sz : Nat → Int) (it : Nat → Nat → Int) : Prop := ∀ s, s < 4 → (0 ≤ la s ∧ la s ≤ 3) ∧ (0 ≤ sz s ∧ sz s ≤ 24) ∧ ((he s = 0 ∧ -4 ≤ f s ∧ f s < 0) ∨ (he s = 1 ∧ f s = la s)) ∧ g s = sz s ∧ ∀ i, i < 24 → b (24 * s + i) = it s i
/-- items are longs -/
def ZLs (it : Nat → Nat → Int) : Prop := ∀ s, s < 4 → ∀ i, i < 24 → zInL (it s i)
def TPs (z : Int) (f : Nat → Int) (l : Nat) (T : Nat → Int) : Prop := z = (l : Int) ∧ l ≤ 90 ∧ f = T ∧ ∀ j, j < l → 32 ≤ T j ∧ T j ≤ 126
def KPs (z : Int) (R : Nat → Int) (kt : Int) (kn : sn) (k2 : Nat) (H2 : Nat → sn) : Prop := (kt = 0 ∧ z < 0 ∧ -9 ≤ z) ∨ (kt = 1 ∧ z = (k2 : Int) ∧ k2 ≤ 6 ∧ KRs R kn ∧ COKs kn ∧ PRs R k2 H2)
def RLd (m : Nat → Int) (r : Nat → Nat → Int) (kt : Int) (n : sn) (k : Nat) (H : Nat → sn) (kn : sn) (k2 : Nat) (H2 : Nat → sn) (l : Nat) (T : Nat → Int) (he la sz : Nat → Int) (it : Nat → Nat → Int) : Prop :=
  KRs (r 1) n ∧ COKs n ∧ (m 1 = (k : Int) ∧ k ≤ 6 ∧ PRs (r 1) k H) ∧ KPs (m 3) (r 2) kt kn k2 H2 ∧ TPs (m 5) (r 3) l T ∧ SHs (r 4) (r 5) (r 6) he la sz it ∧ ZLs it
/-- the reference's cells have addresses of their own, and none is the class's -/
def DJ (A B : Nat → Nat) : Prop := (∀ i j, i < 20 → j < 20 → B i = B j → i = j) ∧ ∀ i j, i < 81 → j < 20 → A i ≠ B j
/-- nothing but the class's cells is new -/
def KF (g h : xH) (A : Nat → Nat) : Prop := ∀ a, (∀ i, i < 81 → a ≠ A i) → g a = h a
def ST (h : xH) (A B : Nat → Nat) : Prop := ∃ (kt : Int) (n : sn) (s k : Nat) (H : Nat → sn) (kn : sn) (s2 k2 : Nat) (H2 : Nat → sn) (l : Nat) (T he la sz : Nat → Int) (it : Nat → Nat → Int) (m : Nat → Int) (r : Nat → Nat → Int),
  CWd h A kt n s k H kn s2 k2 H2 l T he la sz it ∧ (∀ q ∈ LM B m r, h q.1 = zcE q.2) ∧ RLd m r kt n k H kn k2 H2 l T he la sz it
/-- a call of both answers alike, and leaves them alike -/
def SAME (j7 j8 : Nat) (as : List zV) (h : xH) (A B : Nat → Nat) : Prop := ∃ z : zV, zEv j7 (za (A 0) :: as) h (fun v h2 => v = some z ∧ h2 (B 0) = h (B 0) ∧ zEv j8 (za (B 0) :: as) h2 (fun v3 h3 => v3 = some z ∧ ST h3 A B))
theorem LM_adr (B : Nat → Nat) (m : Nat → Int) (r : Nat → Nat → Int) : (LM B m r).map Prod.fst = (List.range 20).map B := rfl
theorem DJ_nd {A B : Nat → Nat} (hJ : DJ A B) (m : Nat → Int) (r : Nat → Nat → Int) : zND (LM B m r) := by
  show ((LM B m r).map Prod.fst).Nodup
  rw [LM_adr]
  have h : ∀ l : List Nat, (∀ i ∈ l, i < 20) → l.Nodup → (l.map B).Nodup := by
    intro l
    induction l with
    | nil => intro _ _; exact List.nodup_nil
    | cons i l ih =>
      intro hl hn
      rw [List.nodup_cons] at hn
      refine List.nodup_cons.mpr ⟨fun q => ?_, ih (fun j hj => hl j (List.mem_cons_of_mem _ hj)) hn.2⟩
      obtain ⟨j, hj, e⟩ := List.mem_map.mp q
      have := hJ.1 j i (hl j (List.mem_cons_of_mem _ hj)) (hl i List.mem_cons_self) e
      exact hn.1 (this ▸ hj)
  exact h _ (fun i hi => List.mem_range.mp hi) List.nodup_range
theorem DJ_out {A B : Nat → Nat} (hJ : DJ A B) (m : Nat → Int) (r : Nat → Nat → Int) {i : Nat} (hi : i < 81) (h : xH) : zov (LM B m r) h (A i) = h (A i) :=
  zov_out (fun q => by
    rw [LM_adr] at q
    obtain ⟨j, hj, e⟩ := List.mem_map.mp q
    exact hJ.2 i j hi (List.mem_range.mp hj) e.symm)
theorem KF_LM {A B : Nat → Nat} {g h : xH} (hJ : DJ A B) (hk : KF g h A) {m : Nat → Int} {r : Nat → Nat → Int} (hL : ∀ q ∈ LM B m r, h q.1 = zcE q.2) : ∀ q ∈ LM B m r, g q.1 = zcE q.2 := fun q hq => by
  rw [← hL q hq]
  refine hk _ (fun i hi e => ?_)
  have h1 : q.1 ∈ (LM B m r).map Prod.fst := List.mem_map_of_mem hq
  rw [LM_adr] at h1
  obtain ⟨j, hj, e2⟩ := List.mem_map.mp h1
  exact hJ.2 i j hi (List.mem_range.mp hj) (e.symm.trans e2.symm)
theorem KF_id (h : xH) (A : Nat → Nat) : KF h h A := fun _ _ => rfl
section
variable {A B : Nat → Nat} {h : xH} {kt : Int} {n : sn} {s k : Nat} {H : Nat → sn} {kn : sn} {s2 k2 : Nat} {H2 : Nat → sn} {l : Nat} {T he la sz : Nat → Int} {it : Nat → Nat → Int} {m : Nat → Int} {r : Nat → Nat → Int} {j7 j8 : Nat} {as : List zV} {z : zV}
theorem same_of (hJ : DJ A B) (hL : ∀ q ∈ LM B m r, h q.1 = zcE q.2) (hC : zEv j7 (za (A 0) :: as) h (fun v h2 => v = some z ∧ CWd h2 A kt n s k H kn s2 k2 H2 l T he la sz it ∧ KF h2 h A))
    (hR : ∀ h2, (∀ q ∈ LM B m r, h2 q.1 = zcE q.2) → zND (LM B m r) → zEv j8 (za (B 0) :: as) h2 (fun v h3 => v = some z ∧ ∃ m2 r2, h3 = zov (LM B m2 r2) h2 ∧ RLd m2 r2 kt n k H kn k2 H2 l T he la sz it)) : SAME j7 j8 as h A B := by
  refine ⟨z, Ev.mono hC ?_⟩
  rintro _ h2 ⟨v, rfl, hv, hW, hF⟩
  refine ⟨v, rfl, hv, hF (B 0) (fun i hi e => hJ.2 i 0 hi (by decide) e.symm), Ev.mono (hR h2 (KF_LM hJ hF hL) (DJ_nd hJ m r)) ?_⟩
  rintro _ h3 ⟨v3, rfl, hv3, m2, r2, rfl, hRL⟩
  exact ⟨v3, rfl, hv3, kt, n, s, k, H, kn, s2, k2, H2, l, T, he, la, sz, it, m2, r2, CW_cg hW (fun i hi => DJ_out hJ m2 r2 hi h2), zov_all (DJ_nd hJ m2 r2), hRL⟩
theorem same_id (hJ : DJ A B) (hS : ST h A B) (hC : zEv j7 (za (A 0) :: as) h (fun v h2 => v = some z ∧ h2 = h)) (hR : zEv j8 (za (B 0) :: as) h (fun v h3 => v = some z ∧ h3 = h)) : SAME j7 j8 as h A B := by
  refine ⟨z, Ev.mono hC ?_⟩
  rintro _ h2 ⟨v, rfl, hv, rfl⟩
  refine ⟨v, rfl, hv, rfl, Ev.mono hR ?_⟩
  rintro _ h3 ⟨v3, rfl, hv3, rfl⟩
  exact ⟨v3, rfl, hv3, hS⟩
end
/-! the past of both -/
theorem KRs_cg {R R2 : Nat → Int} {n : sn} (h : KRs R n) (e : ∀ j, j < 31 → R2 j = R j) : KRs R2 n := by
  obtain ⟨h1, h2, h3, ⟨h4, h5, h6⟩, h7, h8⟩ := h
  exact ⟨fun p hp => by rw [e (p + 18) (by omega)]; exact h1 p hp, fun p hp => by rw [e (p + 5) (by omega)]; exact h2 p hp, fun p hp => by rw [e (p + 5) (by omega)]; exact h3 p hp, ⟨by rw [e 1 (by decide)]; exact h4, by rw [e 2 (by decide)]; exact h5, by rw [e 3 (by decide)]; exact h6⟩, by rw [e 0 (by decide)]; exact h7, by rw [e 4 (by decide)]; exact h8⟩
theorem PRs_cg {R R2 : Nat → Int} {k : Nat} {H : Nat → sn} (h : PRs R k H) (hk : k ≤ 6) (e : ∀ j, 31 ≤ j → j < 217 → R2 j = R j) : PRs R2 k H := fun i hi =>
  ⟨KRs_cg (h i hi).1 (fun j hj => e _ (by omega) (by omega)), (h i hi).2⟩
/-- one more picture of the past -/
theorem PRs_nt {R : Nat → Int} {k : Nat} {H : Nat → sn} {n : sn} (h : PRs R k H) (hk : k ≤ 6) (hK : KRs R n) (hC : COKs n) : PRs (ntR R k) (kpN k) (nwH k H n) := fun i hi => by
  unfold kpN at hi
  unfold ntR nwH
  by_cases q : k < 6
  · rw [if_pos q] at hi
    rw [if_pos q, if_pos q]
    by_cases e : i = k
    · rw [if_pos e, e]
      refine ⟨KRs_cg hK (fun j hj => ?_), hC⟩
      show cpR R k 31 (31 + 31 * k + j) = R j
      unfold cpR
      rw [if_pos (by omega)]
      congr 1
      omega
    · rw [if_neg e]
      refine ⟨KRs_cg (h i (by omega)).1 (fun j hj => ?_), (h i (by omega)).2⟩
      show cpR R k 31 (31 + 31 * i + j) = R (31 + 31 * i + j)
      unfold cpR
      rw [if_neg (by omega)]
  · rw [if_neg q] at hi
    rw [if_neg q, if_neg q]
    by_cases e : i < 5
    · rw [if_pos e]
      refine ⟨KRs_cg (h (i + 1) (by omega)).1 (fun j hj => ?_), (h (i + 1) (by omega)).2⟩
      show cpR (shR R 155) 5 31 (31 + 31 * i + j) = R (31 + 31 * (i + 1) + j)
      unfold cpR
      rw [if_neg (by omega)]
      unfold shR
      rw [if_pos (by omega)]
      congr 1
      omega
    · rw [if_neg e, if_pos (show i = 5 by omega)]
      refine ⟨KRs_cg hK (fun j hj => ?_), hC⟩
      show cpR (shR R 155) 5 31 (31 + 31 * i + j) = R j
      unfold cpR
      rw [if_pos (by omega)]
      unfold shR
      rw [if_neg (by omega)]
      exact congrArg R (show 31 + 31 * i + j - (31 + 31 * 5) = j by omega)
theorem kp_nt (k : Nat) : kpN k = ntU k := rfl
theorem kp_le (k : Nat) (h : k ≤ 6) : kpN k ≤ 6 := by
  unfold kpN
  split <;> omega
theorem nw_lt (k : Nat) {s : Nat} (h : s < 6) : nwS k s < 6 := by
  unfold nwS
  split <;> omega
/-- a row noted and then changed in front -/
theorem RL_now {m : Nat → Int} {r : Nat → Nat → Int} {kt : Int} {n n3 : sn} {k : Nat} {H : Nat → sn} {kn : sn} {k2 : Nat} {H2 : Nat → sn} {l : Nat} {T he la sz : Nat → Int} {it : Nat → Nat → Int} (h : RLd m r kt n k H kn k2 H2 l T he la sz it) {m2 : Nat → Int} {r2 : Nat → Nat → Int} {R2 : Nat → Int} (hm : m2 = va_up m 1 (ntU k : Int)) (hr : r2 = va_up r 1 R2) (he2 : ∀ j, 31 ≤ j → j < 217 → R2 j = ntR (r 1) k j) (hK : KRs R2 n3) (hC : COKs n3) : RLd m2 r2 kt n3 (kpN k) (nwH k H n) kn k2 H2 l T he la sz it := by
  obtain ⟨h1, h2, ⟨h3, h4, h5⟩, h6, h7, h8⟩ := h
  rw [hm, hr]
  exact ⟨hK, hC, ⟨rfl, kp_le k h4, PRs_cg (PRs_nt h5 h4 h1 h2) (kp_le k h4) he2⟩, h6, h7, h8⟩
