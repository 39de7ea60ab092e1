/-! EvenErrors$Fit: nodes, weights, bare numbers; the class's own numbers -/
def lcV (x y : Int) : Int := if x < y then -1 else if x = y then 0 else 1
theorem lcV_c (x y : Int) : (lcV x y = -1 ∧ x < y) ∨ (lcV x y = 0 ∧ x = y) ∨ (lcV x y = 1 ∧ y < x) := by
  unfold lcV
  split
  · exact Or.inl ⟨rfl, by assumption⟩
  · split
    · exact Or.inr (Or.inl ⟨rfl, by assumption⟩)
    · exact Or.inr (Or.inr ⟨rfl, by omega⟩)
/-- how far the greatest number that divides both has been looked for -/
def shI (k : Nat) (g s : Int) : Prop := (k = 0 ∧ g.natAbs * s.natAbs ≤ 2 ^ 126) ∨ (0 < k ∧ s.natAbs < g.natAbs ∧ g.natAbs * s.natAbs * 2 ^ k ≤ 2 ^ 127)
theorem shI_0 {g s : Int} (h1 : 0 ≤ g) (h2 : g ≤ 9223372036854775807) (h3 : 0 ≤ s) (h4 : s ≤ 9223372036854775807) : shI 0 g s := by
  refine Or.inl ⟨rfl, ?_⟩
  have h := Nat.mul_le_mul (show g.natAbs ≤ 2 ^ 63 by omega) (show s.natAbs ≤ 2 ^ 63 by omega)
  rw [← Nat.pow_add] at h
  exact h
theorem shI_m {k a b : Nat} (h : shI k (a : Int) (b : Int)) (hb : 0 < b) : shI (k + 1) (b : Int) ((a % b : Nat) : Int) := by
  have e1 : ((a : Int)).natAbs = a := rfl
  have e2 : ((b : Int)).natAbs = b := rfl
  have e3 : (((a % b : Nat) : Int)).natAbs = a % b := rfl
  unfold shI at h ⊢
  rw [e1, e2] at h
  rw [e2, e3]
  have hm := Nat.mod_lt a hb
  refine Or.inr ⟨by omega, hm, ?_⟩
  rcases h with ⟨rfl, h⟩ | ⟨h0, h1, h2⟩
  · have h3 : b * (a % b) ≤ b * a := Nat.mul_le_mul (Nat.le_refl b) (Nat.mod_le a b)
    have h4 : b * a = a * b := Nat.mul_comm b a
    have h5 := Nat.mul_le_mul (show b * (a % b) ≤ 2 ^ 126 by omega) (Nat.le_refl (2 ^ (0 + 1)))
    exact h5
  · have hd := Nat.div_add_mod a b
    have hq : 1 ≤ a / b := (Nat.le_div_iff_mul_le hb).mpr (by omega)
    have hp : b * 1 ≤ b * (a / b) := Nat.mul_le_mul (Nat.le_refl b) hq
    have h3 : 2 * (a % b) ≤ a := by omega
    have h4 : b * (a % b) * 2 ^ (k + 1) = b * (2 * (a % b)) * 2 ^ k := by rw [Nat.pow_succ]; ac_rfl
    have h5 : b * (2 * (a % b)) * 2 ^ k ≤ b * a * 2 ^ k := Nat.mul_le_mul (Nat.mul_le_mul (Nat.le_refl b) h3) (Nat.le_refl _)
    have h6 : b * a = a * b := Nat.mul_comm b a
    rw [h4]
    rw [h6] at h5
    exact Nat.le_trans h5 h2
theorem shI_s {k : Nat} {g s : Int} (h : shI k g s) (h1 : 0 ≤ g) (h2 : 0 < s) : shI (k + 1) s (g.tmod s) := by
  obtain ⟨a, rfl⟩ := Int.eq_ofNat_of_zero_le h1
  obtain ⟨b, rfl⟩ := Int.eq_ofNat_of_zero_le (Int.le_of_lt h2)
  rw [← Int.ofNat_tmod]
  exact shI_m h (by omega)
theorem shI_e {g s : Int} (h : shI 1000 g s) (h1 : 0 ≤ g) (h2 : 0 ≤ s) : s = 0 := by
  rcases h with ⟨h, -⟩ | ⟨-, h3, h4⟩
  · exact absurd h (by decide)
  · by_cases e : s = 0
    · exact e
    · exfalso
      have h5 : 1 ≤ g.natAbs * s.natAbs := Nat.mul_pos (by omega) (by omega)
      have h6 := Nat.mul_le_mul h5 (Nat.le_refl (2 ^ 1000))
      have h7 : 2 ^ 127 < 2 ^ 1000 := Nat.pow_lt_pow_right (by decide) (by decide)
      rw [Nat.one_mul] at h6
      exact absurd (Nat.le_trans h6 h4) (Nat.not_le.mpr h7)
theorem zlowand {s : Nat} (hs : s < 8192) (h0 : s ≠ 0) : zI (s : Int) &&& zI (-(s : Int)) = zI ((2 ^ low s : Nat) : Int) := by
  rw [← zI_neg, zI_nat, zI_nat]
  exact (low_and s hs h0).1
theorem pw_sub1 {t : Nat} (h : 0 < t) : (t : Int) - 1 = ((t - 1 : Nat) : Int) := by omega
theorem pw_lt1 {t : Nat} (h : t < 13) : 2 ^ t - 1 < 8192 := by
  have := pw_lt h
  omega
/-- the greatest place of a set below k -/
def hiN (s : Nat) : Nat → Nat
  | 0 => 0
  | k + 1 => if bt s k = 1 then k else hiN s k
theorem hiN_le (s : Nat) : ∀ k, hiN s k ≤ k
  | 0 => Nat.le_refl 0
  | k + 1 => by
    have := hiN_le s k
    rw [hiN]
    split <;> omega
theorem hiN_lt (s : Nat) : hiN s 13 < 13 := by
  have := hiN_le s 12
  rw [hiN]
  split <;> omega
/-- a part of a fraction: 0 above, 1 below, 2 its sign -/
def frV (x y z : Int) : Int := if z = 2 then (if x = 0 then 0 else if (0 < x ↔ 0 < y) then 1 else 2) else if x = 0 then (if z = 0 then 0 else 1) else if z = 0 then (x.natAbs : Int).tdiv (Int.gcd x y : Int) else (y.natAbs : Int).tdiv (Int.gcd x y : Int)
def bB (s : Nat) : Nat → Bool := fun p => decide (bt s p = 1)
theorem bB_t {s p : Nat} (h : bt s p = 1) : bB s p = true := decide_eq_true h
theorem bB_f {s p : Nat} (h : ¬ bt s p = 1) : bB s p = false := decide_eq_false h
theorem plB_len5 {b : Nat → Bool} {l : List Nat} (hL : l = plB b 13) (h : l.length ≤ 5) {k : Nat} (hk : k ≤ 13) : (plB b k).length ≤ 5 := by
  have := pln_mono b hk
  rw [hL] at h
  omega
theorem plB_ge {b : Nat → Bool} {a : Nat} : ∀ {c : Nat}, a ≤ c → (plB b c).length ≤ (plB b a).length → plB b a = plB b c
  | 0, h, _ => by rw [Nat.le_zero.mp h]
  | c + 1, h, hl => by
    by_cases e : a = c + 1
    · rw [e]
    · have h1 := pln_mono b (a := a) (c := c) (by omega)
      cases hb : b c with
      | true => have := pln_t hb; omega
      | false => rw [plB_f hb] at hl ⊢; exact plB_ge (by omega) hl
theorem plB_all {b : Nat → Bool} {k : Nat} (hk : k ≤ 13) (h5 : 5 ≤ (plB b k).length) (h : (plB b 13).length ≤ 5) : plB b k = plB b 13 := plB_ge hk (by omega)
/-- x of a node less each other node's x, multiplied -/
def apN (X : Nat → Int) (i : Nat) : Nat → Int
  | 0 => 1
  | j + 1 => apN X i j * (if j = i then 1 else X i - X j)
def wR (X : Nat → Int) (n i : Nat) : Int := Int.tdiv 479001600 (apN X i n)
def gcW (X : Nat → Int) (n : Nat) : Nat → Int
  | 0 => 0
  | i + 1 => (Int.gcd (gcW X n i) (wR X n i) : Int)
def wgt (X : Nat → Int) (n i : Nat) : Int := (wR X n i).tdiv (gcW X n n)
def scl (X : Nat → Int) (n : Nat) : Int := Int.tdiv 479001600 (gcW X n n)
theorem dv_ok {a : Int} (h : a ∣ 479001600) : a ≠ 0 ∧ (-479001600 ≤ a ∧ a ≤ 479001600) ∧ zInL a := by
  have h1 : a.natAbs ≤ 479001600 := Nat.le_of_dvd (by decide) (Int.natAbs_dvd_natAbs.mpr h)
  refine ⟨fun e => ?_, by omega, by omega, by omega⟩
  subst e
  exact absurd (Int.zero_dvd.mp h) (by decide)
theorem wR_mul {X : Nat → Int} {n i : Nat} (h : apN X i n ∣ 479001600) : wR X n i * apN X i n = 479001600 := Int.tdiv_mul_cancel h
theorem wR_b {X : Nat → Int} {n i : Nat} (h : apN X i n ∣ 479001600) : -479001600 ≤ wR X n i ∧ wR X n i ≤ 479001600 ∧ wR X n i ≠ 0 := by
  have h1 := wR_mul h
  have h2 : wR X n i ∣ 479001600 := ⟨apN X i n, h1.symm⟩
  have h3 := dv_ok h2
  exact ⟨h3.2.1.1, h3.2.1.2, h3.1⟩
theorem gcW_d {X : Nat → Int} {n : Nat} (h : ∀ i, i < n → apN X i n ∣ 479001600) : ∀ k, k ≤ n → (0 < k → gcW X n k ∣ 479001600) ∧ 0 ≤ gcW X n k ∧ (0 < k → 0 < gcW X n k) ∧ ∀ i, i < k → gcW X n k ∣ wR X n i
  | 0, _ => ⟨fun q => absurd q (Nat.lt_irrefl 0), Int.le_refl 0, fun q => absurd q (Nat.lt_irrefl 0), fun i q => absurd q (Nat.not_lt_zero i)⟩
  | k + 1, hk => by
    have ih := gcW_d h k (by omega)
    have h1 := wR_b (h k (by omega))
    have h2 : gcW X n (k + 1) ∣ wR X n k := Int.gcd_dvd_right ..
    have h3 : gcW X n (k + 1) ∣ gcW X n k := Int.gcd_dvd_left ..
    have h4 : wR X n k ∣ 479001600 := ⟨apN X k n, (wR_mul (h k (by omega))).symm⟩
    have h5 : 0 < gcW X n (k + 1) := (gcd_rng0 (a := gcW X n k) h1.2.2).1
    refine ⟨fun _ => Int.dvd_trans h2 h4, by omega, fun _ => h5, fun i hi => ?_⟩
    by_cases e : i = k
    · rw [e]; exact h2
    · exact Int.dvd_trans h3 (ih.2.2.2 i (by omega))
theorem gcW_b {X : Nat → Int} {n : Nat} (h : ∀ i, i < n → apN X i n ∣ 479001600) {k : Nat} (hk : k ≤ n) : 0 ≤ gcW X n k ∧ gcW X n k ≤ 479001600 := by
  have h1 := gcW_d h k hk
  refine ⟨h1.2.1, ?_⟩
  by_cases e : 0 < k
  · exact (dv_ok (h1.1 e)).2.1.2
  · have e0 : k = 0 := by omega
    subst e0
    show (0 : Int) ≤ 479001600
    decide
theorem gcW_p {X : Nat → Int} {n : Nat} (h : ∀ i, i < n → apN X i n ∣ 479001600) (h0 : 0 < n) : 0 < gcW X n n := (gcW_d h n (Nat.le_refl n)).2.2.1 h0
/-- what makes a weight: a node's weight times what lies between it and the others -/
theorem wgt_ap {X : Nat → Int} {n : Nat} (h : ∀ i, i < n → apN X i n ∣ 479001600) {i : Nat} (hi : i < n) : wgt X n i * apN X i n = scl X n := by
  have h1 := gcW_d h n (Nat.le_refl n)
  have h2 := h1.2.2.2 i hi
  have h3 := h1.2.2.1 (by omega)
  have h4 := h1.1 (by omega)
  have e1 : wgt X n i * gcW X n n = wR X n i := Int.tdiv_mul_cancel h2
  have e2 : scl X n * gcW X n n = 479001600 := Int.tdiv_mul_cancel h4
  have e3 := wR_mul (h i hi)
  have e4 : wgt X n i * apN X i n * gcW X n n = scl X n * gcW X n n := by rw [e2, ← e3, ← e1]; ac_rfl
  exact Int.eq_of_mul_eq_mul_right (by omega) e4
theorem scl_p {X : Nat → Int} {n : Nat} (h : ∀ i, i < n → apN X i n ∣ 479001600) (h0 : 0 < n) : 0 < scl X n ∧ scl X n ≤ 479001600 := by
  have h1 := gcW_d h n (Nat.le_refl n)
  have e2 : scl X n * gcW X n n = 479001600 := Int.tdiv_mul_cancel (h1.1 h0)
  have h5 := dv_ok (a := scl X n) ⟨gcW X n n, e2.symm⟩
  have h3 := h1.2.2.1 h0
  have h4 : 0 ≤ scl X n := Int.tdiv_nonneg (by decide) (by omega)
  omega
theorem wgt_b {X : Nat → Int} {n : Nat} (h : ∀ i, i < n → apN X i n ∣ 479001600) {i : Nat} (hi : i < n) : -479001600 ≤ wgt X n i ∧ wgt X n i ≤ 479001600 ∧ wgt X n i ≠ 0 := by
  have h1 := gcW_d h n (Nat.le_refl n)
  have e1 : wgt X n i * gcW X n n = wR X n i := Int.tdiv_mul_cancel (h1.2.2.2 i hi)
  have e3 := wR_mul (h i hi)
  have h5 := dv_ok (a := wgt X n i) ⟨gcW X n n * apN X i n, by rw [← Int.mul_assoc, e1, e3]⟩
  exact ⟨h5.2.1.1, h5.2.1.2, h5.1⟩
theorem cpF_mid {f g h : Nat → Int} {n i : Nat} (hi : i < n) : cpF f (cpF g h n) i i = g i := by rw [cpF_ge (Nat.lt_irrefl i), cpF_lt hi]
theorem cpF_cpF {f g h : Nat → Int} {n : Nat} : cpF f (cpF g h n) n = cpF f h n := by
  funext k
  unfold cpF
  split <;> rfl
/-- from 4 down: n places told anew -/
def ds5 (f g : Nat → Int) (n : Nat) : Nat → Int := fun k => if 5 ≤ k + n ∧ k < 5 then f k else g k
theorem ds5_0 (f g : Nat → Int) : ds5 f g 0 = g := by
  funext k
  unfold ds5
  rw [if_neg (by omega)]
theorem ds5_lo {f g : Nat → Int} {n k : Nat} (h : k + n < 5) : ds5 f g n k = g k := by
  unfold ds5
  rw [if_neg (by omega)]
theorem ds5_st {f g : Nat → Int} {n : Nat} {v : Int} (hn : n < 4) (h : v = f (4 - n)) : va_up (ds5 f g n) (4 - n) v = ds5 f g (n + 1) := by
  funext k
  simp only [va_up, ds5]
  by_cases e : k = 4 - n
  · subst e
    rw [if_pos rfl, if_pos (by omega), h]
  · rw [if_neg e]
    by_cases h2 : 5 ≤ k + n ∧ k < 5
    · rw [if_pos h2, if_pos (by omega)]
    · rw [if_neg h2, if_neg (by omega)]
theorem m5_0 {X B : Nat → Int} {i : Nat} : va_up B 0 1 = cpF (onA X 1 i 0) B (0 + 1) := by
  rw [← cpF_st (f := onA X 1 i 0) (v := 1) (onA_z0 rfl), cpF_zero]
theorem onA_s4 {X : Nat → Int} {i a k : Nat} (h : ¬ a = i) (hk : k < 4) : onA X 1 i a (3 - k) - X a * onA X 1 i a (4 - k) = onA X 1 i (a + 1) (4 - k) := by
  rw [onA_n h, if_pos (by omega), show 4 - k - 1 = 3 - k from by omega, Int.mul_comm (X a)]
theorem m5_end {X B : Nat → Int} {i a : Nat} (h : ¬ a = i) : va_up (ds5 (onA X 1 i (a + 1)) (cpF (onA X 1 i a) B 5) 4) 0 (-X a * onA X 1 i a 0) = cpF (onA X 1 i (a + 1)) B 5 := by
  funext k
  simp only [va_up, ds5, cpF]
  by_cases e : k = 0
  · subst e
    rw [if_pos rfl, if_pos (by omega), onA_n h, if_neg (by omega), Int.zero_sub, Int.neg_mul, Int.mul_comm (X a)]
  · rw [if_neg e]
    by_cases h2 : k < 5
    · rw [if_pos (by omega), if_pos h2]
    · rw [if_neg (by omega), if_neg h2, if_neg h2]
theorem sp_J13_compare_74951 {h : xH} {x y : Int} (hx : zInL x) (hy : zInL y) : zEv k_J13_compare_74951 [zj x, zj y] h (fun v h2 => v = some (zi (lcV x y)) ∧ h2 = h) := by
  have hD : ([] : List Nat).Nodup := List.nodup_nil
  have hh : h = zov [] h := zov_self (fun _ q => absurd q List.not_mem_nil)
  refine zEv.body (I := (11, xI_J13_compare_74951, 4, 0, 0, 0, 0, false)) (rt := (some .int)) [some (zj x), none, some (zj y), none] rfl rfl rfl rfl ?_
  refine Zn.eq rfl rfl rfl hh ?_
  have hD : zND ([]) := hD
  refine Zn.seg (pc2 := 2) (ls2 := [some (zj x), none, some (zj y), none]) (st2 := [zj y, zj x]) [(0, .lload_n 0), (1, .lload_n 2)] (by decide +kernel) rfl ?_
  refine Zn.lcmpif (c := .ge) (off := (7)) 10 (by decide +kernel) (by decide +kernel) rfl hx hy (fun c_1 => ?_) (fun c_1 => ?_)
  · have c_1 : y ≤ x := c_1
    refine Zn.seg (pc2 := 12) (ls2 := [some (zj x), none, some (zj y), none]) (st2 := [zj y, zj x]) [(10, .lload_n 0), (11, .lload_n 2)] (by decide +kernel) rfl ?_
    refine Zn.lcmpif (c := .ne) (off := (7)) 20 (by decide +kernel) (by decide +kernel) rfl hx hy (fun c_2 => ?_) (fun c_2 => ?_)
    · have c_2 : x ≠ y := c_2
      refine Zn.seg (pc2 := 21) (ls2 := [some (zj x), none, some (zj y), none]) (st2 := [zi 1]) [(20, .iconst 1)] (by decide +kernel) rfl ?_
      exact Zn.iret (by decide +kernel) rfl (⟨by refine congrArg some (congrArg zi ?_); rw [lcV]; first | (rw [if_pos (by omega)]; done) | (rw [if_neg (by omega), if_pos (by omega)]; done) | rw [if_neg (by omega), if_neg (by omega)], hh.symm⟩)
    · have c_2 : ¬ (x ≠ y) := c_2
      refine Zn.seg (pc2 := 21) (ls2 := [some (zj x), none, some (zj y), none]) (st2 := [zi 0]) [(16, .iconst 0), (17, .goto 4)] (by decide +kernel) rfl ?_
      exact Zn.iret (by decide +kernel) rfl (⟨by refine congrArg some (congrArg zi ?_); rw [lcV]; first | (rw [if_pos (by omega)]; done) | (rw [if_neg (by omega), if_pos (by omega)]; done) | rw [if_neg (by omega), if_neg (by omega)], hh.symm⟩)
  · have c_1 : ¬ (y ≤ x) := c_1
    refine Zn.seg (pc2 := 21) (ls2 := [some (zj x), none, some (zj y), none]) (st2 := [zi (-1)]) [(6, .iconst (-1)), (7, .goto 14)] (by decide +kernel) rfl ?_
    exact Zn.iret (by decide +kernel) rfl (⟨by refine congrArg some (congrArg zi ?_); rw [lcV]; first | (rw [if_pos (by omega)]; done) | (rw [if_neg (by omega), if_pos (by omega)]; done) | rw [if_neg (by omega), if_neg (by omega)], hh.symm⟩)
theorem sp_X7_shared {h : xH} {x y : Int} (h1 : -9223372036854775807 ≤ x ∧ x ≤ 9223372036854775807) (h2 : -9223372036854775807 ≤ y ∧ y ≤ 9223372036854775807) : zEv k_X7_shared [zj x, zj y] h (fun v h2 => v = some (zj (Int.gcd x y : Int)) ∧ h2 = h) := by
  have hD : ([] : List Nat).Nodup := List.nodup_nil
  have hh : h = zov [] h := zov_self (fun _ q => absurd q List.not_mem_nil)
  refine zEv.body (I := (7, xI_X7_shared, 11, 1, 21, 0, 0, false)) (rt := (some .long)) [some (zj x), none, some (zj y), none, none, none, none, none, none, none, none] rfl rfl rfl rfl ?_
  refine Zn.eq rfl rfl rfl hh ?_
  have hD : zND ([]) := hD
  refine Zn.seg (pc2 := 1) (ls2 := [some (zj x), none, some (zj y), none, none, none, none, none, none, none, none]) (st2 := [zj x]) [(0, .lload_n 0)] (by decide +kernel) rfl ?_
  refine Zn.absj (ins := .invokestatic 343) (by decide +kernel) rfl rfl ⟨by omega, by omega⟩ ?_
  refine Zn.seg (pc2 := 7) (ls2 := [some (zj x), none, some (zj y), none, some (zj (x.natAbs : Int)), none, none, none, none, none, none]) (st2 := [zj y]) [(4, .lstore 4), (6, .lload_n 2)] (by decide +kernel) rfl ?_
  refine Zn.absj (ins := .invokestatic 343) (by decide +kernel) rfl rfl ⟨by omega, by omega⟩ ?_
  refine Zn.seg (pc2 := 15) (ls2 := [some (zj x), none, some (zj y), none, some (zj (x.natAbs : Int)), none, some (zj (y.natAbs : Int)), none, some (zi 0), none, none]) (st2 := []) [(10, .lstore 6), (12, .iconst 0), (13, .istore 8)] (by decide +kernel) rfl ?_
  refine Zn.eq (pc2 := 15) (ls2 := [some (zj x), none, some (zj y), none, some (zj (x.natAbs : Int)), none, some (zj (y.natAbs : Int)), none, some (zi (0 : Int)), none, none]) (st2 := []) (h2 := zov ([]) h) rfl rfl rfl (rfl) ?_
  have hD : zND ([]) := hD
  refine xloop (P := fun i_1 => ∀ (o_ : Int), ∀ (t_ : Int), ∀ j_6 j_7 : Option zV, (shI i_1 o_ t_ ∧ 0 ≤ o_ ∧ o_ ≤ 9223372036854775807 ∧ 0 ≤ t_ ∧ t_ ≤ 9223372036854775807 ∧ Int.gcd o_ t_ = Int.gcd x y) → Zn (7, xI_X7_shared, 11, 1, 21, 0, 0, false) (some .long) 15 [some (zj x), none, some (zj y), none, some (zj o_), none, some (zj t_), none, some (zi (i_1 : Int)), j_6, j_7] [] (zov ([]) h) _) (1000) (fun i_1 hi_8 ih_9 o_ t_ j_6 j_7 fa_10 => ?_) (fun o_ t_ j_6 j_7 fa_10 => ?_) (x.natAbs : Int) (y.natAbs : Int) none none (by refine ⟨shI_0 (by omega) (by omega) (by omega) (by omega), by omega, by omega, by omega, by omega, ?_⟩; unfold Int.gcd; congr 1 <;> omega)
  · have hi_ : i_1 < 1000 := hi_8
    have hD : zND ([]) := hD
    obtain ⟨fs_, f1_, f2_, f3_, f4_, f5_⟩ := fa_10
    refine Zn.seg (pc2 := 20) (ls2 := [some (zj x), none, some (zj y), none, some (zj o_), none, some (zj t_), none, some (zi (i_1 : Int)), j_6, j_7]) (st2 := [zi 1000, zi (i_1 : Int)]) [(15, .iload 8), (17, .sipush 1000)] (by decide +kernel) rfl ?_
    refine Zn.icmp (c := .ge) (off := 31) 51 (by decide +kernel) rfl ⟨by omega, by omega⟩ ⟨by decide, by decide⟩ (fun c_11 => absurd (show 1000 ≤ (i_1 : Int) from c_11) (by omega)) (fun c_11 => ?_)
    have c_11 : ¬ (1000 ≤ (i_1 : Int)) := c_11
    refine Zn.seg (pc2 := 26) (ls2 := [some (zj x), none, some (zj y), none, some (zj o_), none, some (zj t_), none, some (zi (i_1 : Int)), j_6, j_7]) (st2 := [zj 0, zj t_]) [(23, .lload 6), (25, .lconst 0)] (by decide +kernel) rfl ?_
    refine Zn.lcmpif (c := .eq) (off := (24)) 51 (by decide +kernel) (by decide +kernel) rfl ⟨by omega, by omega⟩ ⟨by decide, by decide⟩ (fun c_12 => ?_) (fun c_12 => ?_)
    · have c_12 : t_ = 0 := c_12
      refine Zn.seg (pc2 := 53) (ls2 := [some (zj x), none, some (zj y), none, some (zj o_), none, some (zj t_), none, some (zi (i_1 : Int)), j_6, j_7]) (st2 := [zj o_]) [(51, .lload 4)] (by decide +kernel) rfl ?_
      exact Zn.lret (by decide +kernel) rfl (⟨by refine congrArg some (congrArg zj ?_); rw [← f5_, show t_ = 0 from by omega, Int.gcd_zero_right]; omega, hh.symm⟩)
    · have c_12 : ¬ (t_ = 0) := c_12
      refine Zn.seg (pc2 := 34) (ls2 := [some (zj x), none, some (zj y), none, some (zj o_), none, some (zj t_), none, some (zi (i_1 : Int)), j_6, j_7]) (st2 := [zj t_, zj o_]) [(30, .lload 4), (32, .lload 6)] (by decide +kernel) rfl ?_
      refine Zn.lrem (by decide +kernel) ⟨by omega, by omega⟩ ⟨by omega, by omega⟩ (by omega) ?_
      refine Zn.seg (pc2 := 15) (ls2 := [some (zj x), none, some (zj y), none, some (zj t_), none, some (zj (o_.tmod t_)), none, some (zi ((i_1 : Int) + 1)), some (zj (o_.tmod t_)), none]) (st2 := []) [(35, .lstore 9), (37, .lload 6), (39, .lstore 4), (41, .lload 9), (43, .lstore 6), (45, .iinc 8 1), (48, .goto (-33))] (by decide +kernel) rfl ?_
      exact Zn.eq rfl (zcons rfl (zcons rfl (zcons rfl (zcons rfl (zcons rfl (zcons rfl (zcons rfl (zcons rfl (zcons (congrArg (fun z => some (zi z)) (by omega)) rfl))))))))) rfl (rfl) (ih_9 t_ (o_.tmod t_) (some (zj (o_.tmod t_))) none (by have hgs := gcd_st (a := o_) (b := t_) (by omega) (by omega); exact ⟨shI_s fs_ (by omega) (by omega), by omega, by omega, hgs.1, by omega, hgs.2.2.trans f5_⟩))
  · skip
    have hD : zND ([]) := hD
    obtain ⟨fs_, f1_, f2_, f3_, f4_, f5_⟩ := fa_10
    have hz_ := shI_e fs_ f1_ f3_
    refine Zn.seg (pc2 := 20) (ls2 := [some (zj x), none, some (zj y), none, some (zj o_), none, some (zj t_), none, some (zi (1000 : Int)), j_6, j_7]) (st2 := [zi 1000, zi (1000 : Int)]) [(15, .iload 8), (17, .sipush 1000)] (by decide +kernel) rfl ?_
    refine Zn.icmp (c := .ge) (off := 31) 51 (by decide +kernel) rfl ⟨by omega, by omega⟩ ⟨by decide, by decide⟩ (fun c_13 => ?_) (fun c_13 => absurd (show 1000 ≤ (1000 : Int) from by decide) c_13)
    have c_13 : 1000 ≤ (1000 : Int) := c_13
    refine Zn.seg (pc2 := 53) (ls2 := [some (zj x), none, some (zj y), none, some (zj o_), none, some (zj t_), none, some (zi (1000 : Int)), j_6, j_7]) (st2 := [zj o_]) [(51, .lload 4)] (by decide +kernel) rfl ?_
    exact Zn.lret (by decide +kernel) rfl (⟨by refine congrArg some (congrArg zj ?_); rw [← f5_, show t_ = 0 from by omega, Int.gcd_zero_right]; omega, hh.symm⟩)
theorem sp_X7_lowest {h : xH} {s : Nat} (hs : s < 8192) (h0 : s ≠ 0) : zEv k_X7_lowest [zi (s : Int)] h (fun v h2 => v = some (zi (low s : Int)) ∧ h2 = h) := by
  have hD : ([] : List Nat).Nodup := List.nodup_nil
  have hh : h = zov [] h := zov_self (fun _ q => absurd q List.not_mem_nil)
  have hlo := (low_and s hs h0).2.1
  refine zEv.body (I := (7, xI_X7_lowest, 1, 1, 20, 0, 0, false)) (rt := (some .int)) [some (zi (s : Int))] rfl rfl rfl rfl ?_
  refine Zn.eq rfl rfl rfl hh ?_
  have hD : zND ([]) := hD
  refine Zn.seg (pc2 := 3) (ls2 := [some (zi (s : Int))]) (st2 := [zi (-(s : Int)), zi (s : Int)]) [(0, .iload_n 0), (1, .iload_n 0), (2, .ineg)] (by decide +kernel) rfl ?_
  refine Zn.iand (((2 ^ low s : Nat) : Int)) (by decide +kernel) (zlowand hs h0) ?_
  refine Zn.seg (pc2 := 6) (ls2 := [some (zi (s : Int))]) (st2 := [zi (((2 ^ low s : Nat) : Int) - 1)]) [(4, .iconst 1), (5, .isub)] (by decide +kernel) rfl ?_
  refine Zn.topi (y := ((2 ^ low s - 1 : Nat) : Int)) (pw_sub1 (Nat.two_pow_pos _)) ?_
  refine Zn.call (ins := .invokestatic 117) [zi ((2 ^ low s - 1 : Nat) : Int)] [] (by decide +kernel) rfl rfl rfl ⟨rfl, rfl⟩ ⟨rfl, rfl, rfl⟩ rfl (zrecvS (by decide)) (sp_J6_bitCount_0f7a4 (n := 2 ^ low s - 1) (pw_lt1 hlo)) (fun v h2 hp => ?_)
  obtain ⟨rfl, hq_1⟩ := hp
  refine Zn.eq (pc2 := 9) (ls2 := [some (zi (s : Int))]) (st2 := [zi (pop (2 ^ low s - 1) : Int)]) (h2 := zov ([]) h) rfl rfl rfl hq_1 ?_
  have hD : zND ([]) := hD
  have q_2 := pop_le (2 ^ low s - 1)
  refine Zn.topi (y := (low s : Int)) (by rw [pop_ones _ (Nat.lt_succ_of_lt hlo)]) ?_
  exact Zn.iret (by decide +kernel) rfl (⟨by first | rfl | (refine congrArg some (congrArg zi ?_); first | omega | (simp_all; done) | (simp_all; omega)), hh.symm⟩)
theorem sp_X7_highest {h : xH} {s : Nat} (hs : s < 8192) : zEv k_X7_highest [zi (s : Int)] h (fun v h2 => v = some (zi (hiN s 13 : Int)) ∧ h2 = h) := by
  have hD : ([] : List Nat).Nodup := List.nodup_nil
  have hh : h = zov [] h := zov_self (fun _ q => absurd q List.not_mem_nil)
  refine zEv.body (I := (7, xI_X7_highest, 3, 0, 0, 0, 0, false)) (rt := (some .int)) [some (zi (s : Int)), none, none] rfl rfl rfl rfl ?_
  refine Zn.eq rfl rfl rfl hh ?_
  have hD : zND ([]) := hD
  refine Zn.seg (pc2 := 4) (ls2 := [some (zi (s : Int)), some (zi 0), some (zi 0)]) (st2 := []) [(0, .iconst 0), (1, .istore_n 1), (2, .iconst 0), (3, .istore_n 2)] (by decide +kernel) rfl ?_
  refine Zn.eq (pc2 := 4) (ls2 := [some (zi (s : Int)), some (zi (hiN s 0 : Int)), some (zi (0 : Int))]) (st2 := []) (h2 := zov ([]) h) rfl (zcons rfl (zcons (congrArg (fun z => some (zi z)) (by first | rfl | omega | simp)) (zcons (congrArg (fun z => some (zi z)) (by first | rfl | omega | simp)) rfl))) rfl (rfl) ?_
  have hD : zND ([]) := hD
  refine xloop (P := fun i_1 => Zn (7, xI_X7_highest, 3, 0, 0, 0, 0, false) (some .int) 4 [some (zi (s : Int)), some (zi (hiN s i_1 : Int)), some (zi (i_1 : Int))] [] (zov ([]) h) _) (13) (fun i_1 hi_2 ih_3 => ?_) ?_
  · have hi_ : i_1 < 13 := hi_2
    have hD : zND ([]) := hD
    have hbl := bt_lt s i_1
    refine Zn.seg (pc2 := 7) (ls2 := [some (zi (s : Int)), some (zi (hiN s i_1 : Int)), some (zi (i_1 : Int))]) (st2 := [zi 13, zi (i_1 : Int)]) [(4, .iload_n 2), (5, .bipush 13)] (by decide +kernel) rfl ?_
    refine Zn.icmp (c := .ge) (off := 20) 27 (by decide +kernel) rfl ⟨by omega, by omega⟩ ⟨by decide, by decide⟩ (fun c_4 => absurd (show 13 ≤ (i_1 : Int) from c_4) (by omega)) (fun c_4 => ?_)
    have c_4 : ¬ (13 ≤ (i_1 : Int)) := c_4
    refine Zn.seg (pc2 := 12) (ls2 := [some (zi (s : Int)), some (zi (hiN s i_1 : Int)), some (zi (i_1 : Int))]) (st2 := [zi (i_1 : Int), zi (s : Int)]) [(10, .iload_n 0), (11, .iload_n 2)] (by decide +kernel) rfl ?_
    refine Zn.ishr (((s / 2 ^ i_1 : Nat) : Int)) (by decide +kernel) (zshr (by omega) (by omega)) ?_
    refine Zn.seg (pc2 := 14) (ls2 := [some (zi (s : Int)), some (zi (hiN s i_1 : Int)), some (zi (i_1 : Int))]) (st2 := [zi 1, zi ((s / 2 ^ i_1 : Nat) : Int)]) [(13, .iconst 1)] (by decide +kernel) rfl ?_
    refine Zn.iand ((bt s i_1 : Int)) (by decide +kernel) (zbt (by omega)) ?_
    refine Zn.seg (pc2 := 16) (ls2 := [some (zi (s : Int)), some (zi (hiN s i_1 : Int)), some (zi (i_1 : Int))]) (st2 := [zi 1, zi (bt s i_1 : Int)]) [(15, .iconst 1)] (by decide +kernel) rfl ?_
    refine Zn.icmp (c := .ne) (off := 5) 21 (by decide +kernel) rfl ⟨by omega, by omega⟩ ⟨by decide, by decide⟩ (fun c_5 => ?_) (fun c_5 => ?_)
    · have c_5 : (bt s i_1 : Int) ≠ 1 := c_5
      refine Zn.seg (pc2 := 4) (ls2 := [some (zi (s : Int)), some (zi (hiN s i_1 : Int)), some (zi ((i_1 : Int) + 1))]) (st2 := []) [(21, .iinc 2 1), (24, .goto (-20))] (by decide +kernel) rfl ?_
      exact Zn.eq rfl (zcons rfl (zcons (congrArg (fun z => some (zi z)) (by rw [hiN]; first | rw [if_pos (by omega)] | rw [if_neg (by omega)])) (zcons (congrArg (fun z => some (zi z)) (by omega)) rfl))) rfl (rfl) (ih_3)
    · have c_5 : ¬ ((bt s i_1 : Int) ≠ 1) := c_5
      refine Zn.seg (pc2 := 4) (ls2 := [some (zi (s : Int)), some (zi (i_1 : Int)), some (zi ((i_1 : Int) + 1))]) (st2 := []) [(19, .iload_n 2), (20, .istore_n 1), (21, .iinc 2 1), (24, .goto (-20))] (by decide +kernel) rfl ?_
      exact Zn.eq rfl (zcons rfl (zcons (congrArg (fun z => some (zi z)) (by rw [hiN]; first | rw [if_pos (by omega)] | rw [if_neg (by omega)])) (zcons (congrArg (fun z => some (zi z)) (by omega)) rfl))) rfl (rfl) (ih_3)
  · skip
    have hD : zND ([]) := hD
    refine Zn.seg (pc2 := 7) (ls2 := [some (zi (s : Int)), some (zi (hiN s 13 : Int)), some (zi (13 : Int))]) (st2 := [zi 13, zi (13 : Int)]) [(4, .iload_n 2), (5, .bipush 13)] (by decide +kernel) rfl ?_
    refine Zn.icmp (c := .ge) (off := 20) 27 (by decide +kernel) rfl ⟨by omega, by omega⟩ ⟨by decide, by decide⟩ (fun c_6 => ?_) (fun c_6 => absurd (show 13 ≤ (13 : Int) from by decide) c_6)
    have c_6 : 13 ≤ (13 : Int) := c_6
    refine Zn.seg (pc2 := 28) (ls2 := [some (zi (s : Int)), some (zi (hiN s 13 : Int)), some (zi (13 : Int))]) (st2 := [zi (hiN s 13 : Int)]) [(27, .iload_n 1)] (by decide +kernel) rfl ?_
    exact Zn.iret (by decide +kernel) rfl (⟨by first | rfl | (refine congrArg some (congrArg zi ?_); first | omega | (simp_all; done) | (simp_all; omega)), hh.symm⟩)
theorem sp_X7_fraction {h : xH} {x y z : Int} (h1 : -9223372036854775807 ≤ x ∧ x ≤ 9223372036854775807) (h2 : -9223372036854775807 ≤ y ∧ y ≤ 9223372036854775807) (hy : y ≠ 0) (hz : 0 ≤ z ∧ z ≤ 2) : zEv k_X7_fraction [zj x, zj y, zi z] h (fun v h2 => v = some (zj (frV x y z)) ∧ h2 = h) := by
  have hD : ([] : List Nat).Nodup := List.nodup_nil
  have hh : h = zov [] h := zov_self (fun _ q => absurd q List.not_mem_nil)
  refine zEv.body (I := (7, xI_X7_fraction, 7, 2, 51, 0, 0, false)) (rt := (some .long)) [some (zj x), none, some (zj y), none, some (zi z), none, none] rfl rfl rfl rfl ?_
  refine Zn.eq rfl rfl rfl hh ?_
  have hD : zND ([]) := hD
  refine Zn.seg (pc2 := 3) (ls2 := [some (zj x), none, some (zj y), none, some (zi z), none, none]) (st2 := [zi 2, zi z]) [(0, .iload 4), (2, .iconst 2)] (by decide +kernel) rfl ?_
  refine Zn.icmp (c := .ne) (off := 46) 49 (by decide +kernel) rfl ⟨by omega, by omega⟩ ⟨by decide, by decide⟩ (fun c_1 => ?_) (fun c_1 => ?_)
  · have c_1 : z ≠ 2 := c_1
    refine Zn.seg (pc2 := 51) (ls2 := [some (zj x), none, some (zj y), none, some (zi z), none, none]) (st2 := [zj 0, zj x]) [(49, .lload_n 0), (50, .lconst 0)] (by decide +kernel) rfl ?_
    refine Zn.lcmpif (c := .ne) (off := (14)) 66 (by decide +kernel) (by decide +kernel) rfl ⟨by omega, by omega⟩ ⟨by decide, by decide⟩ (fun c_2 => ?_) (fun c_2 => ?_)
    · have c_2 : x ≠ 0 := c_2
      refine Zn.seg (pc2 := 68) (ls2 := [some (zj x), none, some (zj y), none, some (zi z), none, none]) (st2 := [zj y, zj x]) [(66, .lload_n 0), (67, .lload_n 2)] (by decide +kernel) rfl ?_
      refine Zn.call (ins := .invokestatic 348) [zj x, zj y] [] (by decide +kernel) rfl rfl rfl ⟨rfl, rfl⟩ ⟨rfl, rfl, rfl⟩ rfl (zrecvS (by decide)) (sp_X7_shared (x := x) (y := y) (by first | assumption | omega) (by first | assumption | omega)) (fun v h2 hp => ?_)
      obtain ⟨rfl, hq_3⟩ := hp
      refine Zn.eq (pc2 := 71) (ls2 := [some (zj x), none, some (zj y), none, some (zi z), none, none]) (st2 := [zj (Int.gcd x y : Int)]) (h2 := zov ([]) h) rfl rfl rfl hq_3 ?_
      have hD : zND ([]) := hD
      have hgc := gcd_rng0 (a := x) hy
      refine Zn.seg (pc2 := 76) (ls2 := [some (zj x), none, some (zj y), none, some (zi z), some (zj (Int.gcd x y : Int)), none]) (st2 := [zj 0, zj (Int.gcd x y : Int)]) [(71, .lstore 5), (73, .lload 5), (75, .lconst 0)] (by decide +kernel) rfl ?_
      refine Zn.lcmpif (c := .ne) (off := (7)) 84 (by decide +kernel) (by decide +kernel) rfl ⟨by omega, by omega⟩ ⟨by decide, by decide⟩ (fun c_4 => ?_) (fun c_4 => absurd (show (Int.gcd x y : Int) ≠ 0 from by omega) c_4)
      have c_4 : (Int.gcd x y : Int) ≠ 0 := c_4
      refine Zn.seg (pc2 := 86) (ls2 := [some (zj x), none, some (zj y), none, some (zi z), some (zj (Int.gcd x y : Int)), none]) (st2 := [zi z]) [(84, .iload 4)] (by decide +kernel) rfl ?_
      refine Zn.ifc (c := .ne) (off := 7) 93 (by decide +kernel) rfl ⟨by omega, by omega⟩ (fun c_5 => ?_) (fun c_5 => ?_)
      · have c_5 : z ≠ 0 := c_5
        refine Zn.seg (pc2 := 94) (ls2 := [some (zj x), none, some (zj y), none, some (zi z), some (zj (Int.gcd x y : Int)), none]) (st2 := [zj y]) [(93, .lload_n 2)] (by decide +kernel) rfl ?_
        refine Zn.absj (ins := .invokestatic 343) (by decide +kernel) rfl rfl ⟨by omega, by omega⟩ ?_
        refine Zn.seg (pc2 := 99) (ls2 := [some (zj x), none, some (zj y), none, some (zi z), some (zj (Int.gcd x y : Int)), none]) (st2 := [zj (Int.gcd x y : Int), zj (y.natAbs : Int)]) [(97, .lload 5)] (by decide +kernel) rfl ?_
        refine Zn.ldiv (by decide +kernel) ⟨by omega, by omega⟩ ⟨by omega, by omega⟩ (by omega) ?_
        exact Zn.lret (by decide +kernel) rfl (⟨by refine congrArg some (congrArg zj ?_); unfold frV; first | (rw [if_pos (by omega), if_pos (by omega)]; done) | (rw [if_pos (by omega), if_neg (by omega), if_pos (by omega)]; done) | (rw [if_pos (by omega), if_neg (by omega), if_neg (by omega)]; done) | (rw [if_neg (by omega), if_pos (by omega), if_pos (by omega)]; done) | (rw [if_neg (by omega), if_pos (by omega), if_neg (by omega)]; done) | (rw [if_neg (by omega), if_neg (by omega), if_pos (by omega)]; done) | rw [if_neg (by omega), if_neg (by omega), if_neg (by omega)], hh.symm⟩)
      · have c_5 : ¬ (z ≠ 0) := c_5
        refine Zn.seg (pc2 := 94) (ls2 := [some (zj x), none, some (zj y), none, some (zi z), some (zj (Int.gcd x y : Int)), none]) (st2 := [zj x]) [(89, .lload_n 0), (90, .goto 4)] (by decide +kernel) rfl ?_
        refine Zn.absj (ins := .invokestatic 343) (by decide +kernel) rfl rfl ⟨by omega, by omega⟩ ?_
        refine Zn.seg (pc2 := 99) (ls2 := [some (zj x), none, some (zj y), none, some (zi z), some (zj (Int.gcd x y : Int)), none]) (st2 := [zj (Int.gcd x y : Int), zj (x.natAbs : Int)]) [(97, .lload 5)] (by decide +kernel) rfl ?_
        refine Zn.ldiv (by decide +kernel) ⟨by omega, by omega⟩ ⟨by omega, by omega⟩ (by omega) ?_
        exact Zn.lret (by decide +kernel) rfl (⟨by refine congrArg some (congrArg zj ?_); unfold frV; first | (rw [if_pos (by omega), if_pos (by omega)]; done) | (rw [if_pos (by omega), if_neg (by omega), if_pos (by omega)]; done) | (rw [if_pos (by omega), if_neg (by omega), if_neg (by omega)]; done) | (rw [if_neg (by omega), if_pos (by omega), if_pos (by omega)]; done) | (rw [if_neg (by omega), if_pos (by omega), if_neg (by omega)]; done) | (rw [if_neg (by omega), if_neg (by omega), if_pos (by omega)]; done) | rw [if_neg (by omega), if_neg (by omega), if_neg (by omega)], hh.symm⟩)
    · have c_2 : ¬ (x ≠ 0) := c_2
      refine Zn.seg (pc2 := 57) (ls2 := [some (zj x), none, some (zj y), none, some (zi z), none, none]) (st2 := [zi z]) [(55, .iload 4)] (by decide +kernel) rfl ?_
      refine Zn.ifc (c := .ne) (off := 7) 64 (by decide +kernel) rfl ⟨by omega, by omega⟩ (fun c_6 => ?_) (fun c_6 => ?_)
      · have c_6 : z ≠ 0 := c_6
        refine Zn.seg (pc2 := 65) (ls2 := [some (zj x), none, some (zj y), none, some (zi z), none, none]) (st2 := [zj 1]) [(64, .lconst 1)] (by decide +kernel) rfl ?_
        exact Zn.lret (by decide +kernel) rfl (⟨by refine congrArg some (congrArg zj ?_); unfold frV; first | (rw [if_pos (by omega), if_pos (by omega)]; done) | (rw [if_pos (by omega), if_neg (by omega), if_pos (by omega)]; done) | (rw [if_pos (by omega), if_neg (by omega), if_neg (by omega)]; done) | (rw [if_neg (by omega), if_pos (by omega), if_pos (by omega)]; done) | (rw [if_neg (by omega), if_pos (by omega), if_neg (by omega)]; done) | (rw [if_neg (by omega), if_neg (by omega), if_pos (by omega)]; done) | rw [if_neg (by omega), if_neg (by omega), if_neg (by omega)], hh.symm⟩)
      · have c_6 : ¬ (z ≠ 0) := c_6
        refine Zn.seg (pc2 := 65) (ls2 := [some (zj x), none, some (zj y), none, some (zi z), none, none]) (st2 := [zj 0]) [(60, .lconst 0), (61, .goto 4)] (by decide +kernel) rfl ?_
        exact Zn.lret (by decide +kernel) rfl (⟨by refine congrArg some (congrArg zj ?_); unfold frV; first | (rw [if_pos (by omega), if_pos (by omega)]; done) | (rw [if_pos (by omega), if_neg (by omega), if_pos (by omega)]; done) | (rw [if_pos (by omega), if_neg (by omega), if_neg (by omega)]; done) | (rw [if_neg (by omega), if_pos (by omega), if_pos (by omega)]; done) | (rw [if_neg (by omega), if_pos (by omega), if_neg (by omega)]; done) | (rw [if_neg (by omega), if_neg (by omega), if_pos (by omega)]; done) | rw [if_neg (by omega), if_neg (by omega), if_neg (by omega)], hh.symm⟩)
  · have c_1 : ¬ (z ≠ 2) := c_1
    refine Zn.seg (pc2 := 8) (ls2 := [some (zj x), none, some (zj y), none, some (zi z), none, none]) (st2 := [zj 0, zj x]) [(6, .lload_n 0), (7, .lconst 0)] (by decide +kernel) rfl ?_
    refine Zn.lcmpif (c := .ne) (off := (7)) 16 (by decide +kernel) (by decide +kernel) rfl ⟨by omega, by omega⟩ ⟨by decide, by decide⟩ (fun c_7 => ?_) (fun c_7 => ?_)
    · have c_7 : x ≠ 0 := c_7
      refine Zn.seg (pc2 := 18) (ls2 := [some (zj x), none, some (zj y), none, some (zi z), none, none]) (st2 := [zj 0, zj x]) [(16, .lload_n 0), (17, .lconst 0)] (by decide +kernel) rfl ?_
      refine Zn.lcmpif (c := .le) (off := (7)) 26 (by decide +kernel) (by decide +kernel) rfl ⟨by omega, by omega⟩ ⟨by decide, by decide⟩ (fun c_8 => ?_) (fun c_8 => ?_)
      · have c_8 : x ≤ 0 := c_8
        refine Zn.seg (pc2 := 29) (ls2 := [some (zj x), none, some (zj y), none, some (zi z), none, none]) (st2 := [zj 0, zj y, zi 0]) [(26, .iconst 0), (27, .lload_n 2), (28, .lconst 0)] (by decide +kernel) rfl ?_
        refine Zn.lcmpif (c := .le) (off := (7)) 37 (by decide +kernel) (by decide +kernel) rfl ⟨by omega, by omega⟩ ⟨by decide, by decide⟩ (fun c_9 => ?_) (fun c_9 => ?_)
        · have c_9 : y ≤ 0 := c_9
          refine Zn.seg (pc2 := 38) (ls2 := [some (zj x), none, some (zj y), none, some (zi z), none, none]) (st2 := [zi 0, zi 0]) [(37, .iconst 0)] (by decide +kernel) rfl ?_
          refine Zn.icmp (c := .ne) (off := 7) 45 (by decide +kernel) rfl ⟨by decide, by decide⟩ ⟨by decide, by decide⟩ (fun c_10 => absurd (show (0 : Int) ≠ 0 from c_10) (by decide)) (fun c_10 => ?_)
          have c_10 : ¬ ((0 : Int) ≠ 0) := c_10
          refine Zn.seg (pc2 := 48) (ls2 := [some (zj x), none, some (zj y), none, some (zi z), none, none]) (st2 := [zj 1]) [(41, .lconst 1), (42, .goto 6)] (by decide +kernel) rfl ?_
          exact Zn.lret (by decide +kernel) rfl (⟨by refine congrArg some (congrArg zj ?_); unfold frV; first | (rw [if_pos (by omega), if_pos (by omega)]; done) | (rw [if_pos (by omega), if_neg (by omega), if_pos (by omega)]; done) | (rw [if_pos (by omega), if_neg (by omega), if_neg (by omega)]; done) | (rw [if_neg (by omega), if_pos (by omega), if_pos (by omega)]; done) | (rw [if_neg (by omega), if_pos (by omega), if_neg (by omega)]; done) | (rw [if_neg (by omega), if_neg (by omega), if_pos (by omega)]; done) | rw [if_neg (by omega), if_neg (by omega), if_neg (by omega)], hh.symm⟩)
        · have c_9 : ¬ (y ≤ 0) := c_9
          refine Zn.seg (pc2 := 38) (ls2 := [some (zj x), none, some (zj y), none, some (zi z), none, none]) (st2 := [zi 1, zi 0]) [(33, .iconst 1), (34, .goto 4)] (by decide +kernel) rfl ?_
          refine Zn.icmp (c := .ne) (off := 7) 45 (by decide +kernel) rfl ⟨by decide, by decide⟩ ⟨by decide, by decide⟩ (fun c_11 => ?_) (fun c_11 => absurd (show (0 : Int) ≠ 1 from by decide) c_11)
          have c_11 : (0 : Int) ≠ 1 := c_11
          refine Zn.seg (pc2 := 48) (ls2 := [some (zj x), none, some (zj y), none, some (zi z), none, none]) (st2 := [zj 2]) [(45, .ldc2_w 346)] (by decide +kernel) rfl ?_
          exact Zn.lret (by decide +kernel) rfl (⟨by refine congrArg some (congrArg zj ?_); unfold frV; first | (rw [if_pos (by omega), if_pos (by omega)]; done) | (rw [if_pos (by omega), if_neg (by omega), if_pos (by omega)]; done) | (rw [if_pos (by omega), if_neg (by omega), if_neg (by omega)]; done) | (rw [if_neg (by omega), if_pos (by omega), if_pos (by omega)]; done) | (rw [if_neg (by omega), if_pos (by omega), if_neg (by omega)]; done) | (rw [if_neg (by omega), if_neg (by omega), if_pos (by omega)]; done) | rw [if_neg (by omega), if_neg (by omega), if_neg (by omega)], hh.symm⟩)
      · have c_8 : ¬ (x ≤ 0) := c_8
        refine Zn.seg (pc2 := 29) (ls2 := [some (zj x), none, some (zj y), none, some (zi z), none, none]) (st2 := [zj 0, zj y, zi 1]) [(22, .iconst 1), (23, .goto 4), (27, .lload_n 2), (28, .lconst 0)] (by decide +kernel) rfl ?_
        refine Zn.lcmpif (c := .le) (off := (7)) 37 (by decide +kernel) (by decide +kernel) rfl ⟨by omega, by omega⟩ ⟨by decide, by decide⟩ (fun c_12 => ?_) (fun c_12 => ?_)
        · have c_12 : y ≤ 0 := c_12
          refine Zn.seg (pc2 := 38) (ls2 := [some (zj x), none, some (zj y), none, some (zi z), none, none]) (st2 := [zi 0, zi 1]) [(37, .iconst 0)] (by decide +kernel) rfl ?_
          refine Zn.icmp (c := .ne) (off := 7) 45 (by decide +kernel) rfl ⟨by decide, by decide⟩ ⟨by decide, by decide⟩ (fun c_13 => ?_) (fun c_13 => absurd (show (1 : Int) ≠ 0 from by decide) c_13)
          have c_13 : (1 : Int) ≠ 0 := c_13
          refine Zn.seg (pc2 := 48) (ls2 := [some (zj x), none, some (zj y), none, some (zi z), none, none]) (st2 := [zj 2]) [(45, .ldc2_w 346)] (by decide +kernel) rfl ?_
          exact Zn.lret (by decide +kernel) rfl (⟨by refine congrArg some (congrArg zj ?_); unfold frV; first | (rw [if_pos (by omega), if_pos (by omega)]; done) | (rw [if_pos (by omega), if_neg (by omega), if_pos (by omega)]; done) | (rw [if_pos (by omega), if_neg (by omega), if_neg (by omega)]; done) | (rw [if_neg (by omega), if_pos (by omega), if_pos (by omega)]; done) | (rw [if_neg (by omega), if_pos (by omega), if_neg (by omega)]; done) | (rw [if_neg (by omega), if_neg (by omega), if_pos (by omega)]; done) | rw [if_neg (by omega), if_neg (by omega), if_neg (by omega)], hh.symm⟩)
        · have c_12 : ¬ (y ≤ 0) := c_12
          refine Zn.seg (pc2 := 38) (ls2 := [some (zj x), none, some (zj y), none, some (zi z), none, none]) (st2 := [zi 1, zi 1]) [(33, .iconst 1), (34, .goto 4)] (by decide +kernel) rfl ?_
          refine Zn.icmp (c := .ne) (off := 7) 45 (by decide +kernel) rfl ⟨by decide, by decide⟩ ⟨by decide, by decide⟩ (fun c_14 => absurd (show (1 : Int) ≠ 1 from c_14) (by decide)) (fun c_14 => ?_)
          have c_14 : ¬ ((1 : Int) ≠ 1) := c_14
          refine Zn.seg (pc2 := 48) (ls2 := [some (zj x), none, some (zj y), none, some (zi z), none, none]) (st2 := [zj 1]) [(41, .lconst 1), (42, .goto 6)] (by decide +kernel) rfl ?_
          exact Zn.lret (by decide +kernel) rfl (⟨by refine congrArg some (congrArg zj ?_); unfold frV; first | (rw [if_pos (by omega), if_pos (by omega)]; done) | (rw [if_pos (by omega), if_neg (by omega), if_pos (by omega)]; done) | (rw [if_pos (by omega), if_neg (by omega), if_neg (by omega)]; done) | (rw [if_neg (by omega), if_pos (by omega), if_pos (by omega)]; done) | (rw [if_neg (by omega), if_pos (by omega), if_neg (by omega)]; done) | (rw [if_neg (by omega), if_neg (by omega), if_pos (by omega)]; done) | rw [if_neg (by omega), if_neg (by omega), if_neg (by omega)], hh.symm⟩)
    · have c_7 : ¬ (x ≠ 0) := c_7
      refine Zn.seg (pc2 := 48) (ls2 := [some (zj x), none, some (zj y), none, some (zi z), none, none]) (st2 := [zj 0]) [(12, .lconst 0), (13, .goto 35)] (by decide +kernel) rfl ?_
      exact Zn.lret (by decide +kernel) rfl (⟨by refine congrArg some (congrArg zj ?_); unfold frV; first | (rw [if_pos (by omega), if_pos (by omega)]; done) | (rw [if_pos (by omega), if_neg (by omega), if_pos (by omega)]; done) | (rw [if_pos (by omega), if_neg (by omega), if_neg (by omega)]; done) | (rw [if_neg (by omega), if_pos (by omega), if_pos (by omega)]; done) | (rw [if_neg (by omega), if_pos (by omega), if_neg (by omega)]; done) | (rw [if_neg (by omega), if_neg (by omega), if_pos (by omega)]; done) | rw [if_neg (by omega), if_neg (by omega), if_neg (by omega)], hh.symm⟩)
theorem sp_X1_gather {h : xH} {o xa wa ba pa : Nat} {nd sc be up dn ln : Int} {s : Nat} {l : List Nat} {F : Nat → Int} (hc0 : h o = zcE (.inr (1, [za xa, za wa, za ba, zi nd, zj sc, za pa, zj be, zj up, zj dn, zi ln]))) (hc1 : h xa = zcE (.inl (0, 5, .inl F))) (hD : [o, xa].Nodup) (hs : s < 8192) (hLl : l = plB (bB s) 13) (hl : l.length ≤ 5) : zEv k_X1_gather [za o, zi (s : Int)] h (fun v h2 => v = none ∧ h2 = zov [(o, .inr (1, [za xa, za wa, za ba, zi (l.length : Int), zj sc, za pa, zj be, zj up, zj dn, zi ln])), (xa, .inl (0, 5, .inl (arL (l.map nX) F)))] h) := by
  have hh : h = zov [(o, .inr (1, [za xa, za wa, za ba, zi nd, zj sc, za pa, zj be, zj up, zj dn, zi ln])), (xa, .inl (0, 5, .inl F))] h := zov_self (List.forall_mem_cons.mpr ⟨hc0, List.forall_mem_cons.mpr ⟨hc1, fun _ q => absurd q List.not_mem_nil⟩⟩)
  refine zEv.body (I := (1, xI_X1_gather, 3, 0, 0, 0, 0, false)) (rt := none) [some (za o), some (zi (s : Int)), none] rfl rfl rfl rfl ?_
  refine Zn.eq rfl rfl rfl hh ?_
  have hD : zND ([(o, .inr (1, [za xa, za wa, za ba, zi nd, zj sc, za pa, zj be, zj up, zj dn, zi ln])), (xa, .inl (0, 5, .inl F))]) := hD
  refine Zn.seg (pc2 := 2) (ls2 := [some (za o), some (zi (s : Int)), none]) (st2 := [zi 0, za o]) [(0, .aload_n 0), (1, .iconst 0)] (by decide +kernel) rfl ?_
  refine Zn.put (ix := 22) hD 0 (by decide +kernel) rfl rfl rfl rfl rfl ?_
  refine Zn.eq (h2 := zov ([(o, .inr (1, [za xa, za wa, za ba, zi 0, zj sc, za pa, zj be, zj up, zj dn, zi ln])), (xa, .inl (0, 5, .inl F))]) h) rfl rfl rfl rfl ?_
  have hD : zND ([(o, .inr (1, [za xa, za wa, za ba, zi 0, zj sc, za pa, zj be, zj up, zj dn, zi ln])), (xa, .inl (0, 5, .inl F))]) := hD
  refine Zn.seg (pc2 := 7) (ls2 := [some (za o), some (zi (s : Int)), some (zi 0)]) (st2 := []) [(5, .iconst 0), (6, .istore_n 2)] (by decide +kernel) rfl ?_
  refine Zn.eq (pc2 := 7) (ls2 := [some (za o), some (zi (s : Int)), some (zi (0 : Int))]) (st2 := []) (h2 := zov ([(o, .inr (1, [za xa, za wa, za ba, zi ((plB (bB s) 0).length : Int), zj sc, za pa, zj be, zj up, zj dn, zi ln])), (xa, .inl (0, 5, .inl (arL ((plB (bB s) 0).map nX) F)))]) h) rfl (zcons rfl (zcons rfl (zcons (congrArg (fun z => some (zi z)) (by first | rfl | omega | simp)) rfl))) rfl (by simp only [plB_0, List.map_nil, arL_nil, List.length_nil] <;> rfl) ?_
  have hD : zND ([(o, .inr (1, [za xa, za wa, za ba, zi ((plB (bB s) 0).length : Int), zj sc, za pa, zj be, zj up, zj dn, zi ln])), (xa, .inl (0, 5, .inl (arL ((plB (bB s) 0).map nX) F)))]) := hD
  refine xloop (P := fun i_1 => Zn (1, xI_X1_gather, 3, 0, 0, 0, 0, false) none 7 [some (za o), some (zi (s : Int)), some (zi (i_1 : Int))] [] (zov ([(o, .inr (1, [za xa, za wa, za ba, zi ((plB (bB s) i_1).length : Int), zj sc, za pa, zj be, zj up, zj dn, zi ln])), (xa, .inl (0, 5, .inl (arL ((plB (bB s) i_1).map nX) F)))]) h) _) (13) (fun i_1 hi_2 ih_3 => ?_) ?_
  · have hi_ : i_1 < 13 := hi_2
    have hD : zND ([(o, .inr (1, [za xa, za wa, za ba, zi ((plB (bB s) i_1).length : Int), zj sc, za pa, zj be, zj up, zj dn, zi ln])), (xa, .inl (0, 5, .inl (arL ((plB (bB s) i_1).map nX) F)))]) := hD
    have hbl := bt_lt s i_1
    have hnl := plB_len5 (b := bB s) hLl hl (show i_1 ≤ 13 by omega)
    refine Zn.seg (pc2 := 10) (ls2 := [some (za o), some (zi (s : Int)), some (zi (i_1 : Int))]) (st2 := [zi 13, zi (i_1 : Int)]) [(7, .iload_n 2), (8, .bipush 13)] (by decide +kernel) rfl ?_
    refine Zn.icmp (c := .ge) (off := 49) 59 (by decide +kernel) rfl ⟨by omega, by omega⟩ ⟨by decide, by decide⟩ (fun c_4 => absurd (show 13 ≤ (i_1 : Int) from c_4) (by omega)) (fun c_4 => ?_)
    have c_4 : ¬ (13 ≤ (i_1 : Int)) := c_4
    refine Zn.seg (pc2 := 14) (ls2 := [some (za o), some (zi (s : Int)), some (zi (i_1 : Int))]) (st2 := [za o]) [(13, .aload_n 0)] (by decide +kernel) rfl ?_
    refine Zn.get (ix := 22) hD 0 (by decide +kernel) rfl rfl rfl ?_
    refine Zn.seg (pc2 := 18) (ls2 := [some (za o), some (zi (s : Int)), some (zi (i_1 : Int))]) (st2 := [zi 5, zi ((plB (bB s) i_1).length : Int)]) [(17, .iconst 5)] (by decide +kernel) rfl ?_
    refine Zn.icmp (c := .ge) (off := 41) 59 (by decide +kernel) rfl ⟨by omega, by omega⟩ ⟨by decide, by decide⟩ (fun c_5 => ?_) (fun c_5 => ?_)
    · have c_5 : 5 ≤ ((plB (bB s) i_1).length : Int) := c_5
      exact Zn.vret (by decide +kernel) rfl (⟨rfl, by first | (rw [hLl]; done) | (rw [hLl, plB_all (b := bB s) (k := i_1) (by omega) (by omega) (by rw [← hLl]; exact hl)]; done)⟩)
    · have c_5 : ¬ (5 ≤ ((plB (bB s) i_1).length : Int)) := c_5
      refine Zn.seg (pc2 := 23) (ls2 := [some (za o), some (zi (s : Int)), some (zi (i_1 : Int))]) (st2 := [zi (i_1 : Int), zi (s : Int)]) [(21, .iload_n 1), (22, .iload_n 2)] (by decide +kernel) rfl ?_
      refine Zn.ishr (((s / 2 ^ i_1 : Nat) : Int)) (by decide +kernel) (zshr (by omega) (by omega)) ?_
      refine Zn.seg (pc2 := 25) (ls2 := [some (za o), some (zi (s : Int)), some (zi (i_1 : Int))]) (st2 := [zi 1, zi ((s / 2 ^ i_1 : Nat) : Int)]) [(24, .iconst 1)] (by decide +kernel) rfl ?_
      refine Zn.iand ((bt s i_1 : Int)) (by decide +kernel) (zbt (by omega)) ?_
      refine Zn.seg (pc2 := 27) (ls2 := [some (za o), some (zi (s : Int)), some (zi (i_1 : Int))]) (st2 := [zi 1, zi (bt s i_1 : Int)]) [(26, .iconst 1)] (by decide +kernel) rfl ?_
      refine Zn.icmp (c := .ne) (off := 26) 53 (by decide +kernel) rfl ⟨by omega, by omega⟩ ⟨by decide, by decide⟩ (fun c_6 => ?_) (fun c_6 => ?_)
      · have c_6 : (bt s i_1 : Int) ≠ 1 := c_6
        refine Zn.seg (pc2 := 7) (ls2 := [some (za o), some (zi (s : Int)), some (zi ((i_1 : Int) + 1))]) (st2 := []) [(53, .iinc 2 1), (56, .goto (-49))] (by decide +kernel) rfl ?_
        exact Zn.eq rfl (zcons rfl (zcons rfl (zcons (congrArg (fun z => some (zi z)) (by omega)) rfl))) rfl (by first | (exfalso; omega) | (rw [arL_t (F := nX) (bB_t (by omega)), pln_t (bB_t (by omega))] <;> rfl) | rw [plB_f (bB_f (by omega))]) (ih_3)
      · have c_6 : ¬ ((bt s i_1 : Int) ≠ 1) := c_6
        refine Zn.seg (pc2 := 31) (ls2 := [some (za o), some (zi (s : Int)), some (zi (i_1 : Int))]) (st2 := [za o]) [(30, .aload_n 0)] (by decide +kernel) rfl ?_
        refine Zn.get (ix := 9) hD 0 (by decide +kernel) rfl rfl rfl ?_
        refine Zn.seg (pc2 := 35) (ls2 := [some (za o), some (zi (s : Int)), some (zi (i_1 : Int))]) (st2 := [za o, za xa]) [(34, .aload_n 0)] (by decide +kernel) rfl ?_
        refine Zn.get (ix := 22) hD 0 (by decide +kernel) rfl rfl rfl ?_
        refine Zn.seg (pc2 := 42) (ls2 := [some (za o), some (zi (s : Int)), some (zi (i_1 : Int))]) (st2 := [zi ((i_1 : Int) - 6), zi ((plB (bB s) i_1).length : Int), za xa]) [(38, .iload_n 2), (39, .bipush 6), (41, .isub)] (by decide +kernel) rfl ?_
        refine Zn.iast hD 1 ((plB (bB s) i_1).length) (by decide +kernel) rfl (rfl) (by omega) rfl ?_
        refine Zn.eq (h2 := zov ([(o, .inr (1, [za xa, za wa, za ba, zi ((plB (bB s) i_1).length : Int), zj sc, za pa, zj be, zj up, zj dn, zi ln])), (xa, .inl (0, 5, .inl (va_up (arL ((plB (bB s) i_1).map nX) F) ((plB (bB s) i_1).length) ((i_1 : Int) - 6))))]) h) rfl rfl rfl (rfl) ?_
        have hD : zND ([(o, .inr (1, [za xa, za wa, za ba, zi ((plB (bB s) i_1).length : Int), zj sc, za pa, zj be, zj up, zj dn, zi ln])), (xa, .inl (0, 5, .inl (va_up (arL ((plB (bB s) i_1).map nX) F) ((plB (bB s) i_1).length) ((i_1 : Int) - 6))))]) := hD
        refine Zn.seg (pc2 := 45) (ls2 := [some (za o), some (zi (s : Int)), some (zi (i_1 : Int))]) (st2 := [za o, za o]) [(43, .aload_n 0), (44, .dup)] (by decide +kernel) rfl ?_
        refine Zn.get (ix := 22) hD 0 (by decide +kernel) rfl rfl rfl ?_
        refine Zn.seg (pc2 := 50) (ls2 := [some (za o), some (zi (s : Int)), some (zi (i_1 : Int))]) (st2 := [zi (((plB (bB s) i_1).length : Int) + 1), za o]) [(48, .iconst 1), (49, .iadd)] (by decide +kernel) rfl ?_
        refine Zn.put (ix := 22) hD 0 (by decide +kernel) rfl rfl rfl rfl rfl ?_
        refine Zn.eq (h2 := zov ([(o, .inr (1, [za xa, za wa, za ba, zi (((plB (bB s) i_1).length : Int) + 1), zj sc, za pa, zj be, zj up, zj dn, zi ln])), (xa, .inl (0, 5, .inl (va_up (arL ((plB (bB s) i_1).map nX) F) ((plB (bB s) i_1).length) ((i_1 : Int) - 6))))]) h) rfl rfl rfl rfl ?_
        have hD : zND ([(o, .inr (1, [za xa, za wa, za ba, zi (((plB (bB s) i_1).length : Int) + 1), zj sc, za pa, zj be, zj up, zj dn, zi ln])), (xa, .inl (0, 5, .inl (va_up (arL ((plB (bB s) i_1).map nX) F) ((plB (bB s) i_1).length) ((i_1 : Int) - 6))))]) := hD
        refine Zn.seg (pc2 := 7) (ls2 := [some (za o), some (zi (s : Int)), some (zi ((i_1 : Int) + 1))]) (st2 := []) [(53, .iinc 2 1), (56, .goto (-49))] (by decide +kernel) rfl ?_
        exact Zn.eq rfl (zcons rfl (zcons rfl (zcons (congrArg (fun z => some (zi z)) (by omega)) rfl))) rfl (by first | (exfalso; omega) | (rw [arL_t (F := nX) (bB_t (by omega)), pln_t (bB_t (by omega))] <;> rfl) | rw [plB_f (bB_f (by omega))]) (ih_3)
  · skip
    have hD : zND ([(o, .inr (1, [za xa, za wa, za ba, zi ((plB (bB s) 13).length : Int), zj sc, za pa, zj be, zj up, zj dn, zi ln])), (xa, .inl (0, 5, .inl (arL ((plB (bB s) 13).map nX) F)))]) := hD
    refine Zn.seg (pc2 := 10) (ls2 := [some (za o), some (zi (s : Int)), some (zi (13 : Int))]) (st2 := [zi 13, zi (13 : Int)]) [(7, .iload_n 2), (8, .bipush 13)] (by decide +kernel) rfl ?_
    refine Zn.icmp (c := .ge) (off := 49) 59 (by decide +kernel) rfl ⟨by omega, by omega⟩ ⟨by decide, by decide⟩ (fun c_7 => ?_) (fun c_7 => absurd (show 13 ≤ (13 : Int) from by decide) c_7)
    have c_7 : 13 ≤ (13 : Int) := c_7
    exact Zn.vret (by decide +kernel) rfl (⟨rfl, by first | (rw [hLl]; done) | (rw [hLl, plB_all (b := bB s) (k := 13) (by omega) (by omega) (by rw [← hLl]; exact hl)]; done)⟩)
set_option maxHeartbeats 1000000 in
theorem sp_X1_weigh {h : xH} {o xa wa ba pa : Nat} {sc be up dn ln : Int} {n : Nat} {F X W : Nat → Int} (hc0 : h o = zcE (.inr (1, [za xa, za wa, za ba, zi (n : Int), zj sc, za pa, zj be, zj up, zj dn, zi ln]))) (hc1 : h xa = zcE (.inl (0, 5, .inl F))) (hc2 : h wa = zcE (.inl (1, 5, .inl W))) (hD : [o, xa, wa].Nodup) (hn : n ≤ 5 ∧ 0 < n) (hX : ∀ j, j < n → F j = X j) (hb : ∀ j, j < n → -6 ≤ X j ∧ X j ≤ 6) (hdv : ∀ i, i < n → apN X i n ∣ 479001600) : zEv k_X1_weigh [za o] h (fun v h2 => v = none ∧ h2 = zov [(o, .inr (1, [za xa, za wa, za ba, zi (n : Int), zj (scl X n), za pa, zj be, zj up, zj dn, zi ln])), (xa, .inl (0, 5, .inl F)), (wa, .inl (1, 5, .inl (cpF (wgt X n) W n)))] h) := by
  have hh : h = zov [(o, .inr (1, [za xa, za wa, za ba, zi (n : Int), zj sc, za pa, zj be, zj up, zj dn, zi ln])), (xa, .inl (0, 5, .inl F)), (wa, .inl (1, 5, .inl W))] h := zov_self (List.forall_mem_cons.mpr ⟨hc0, List.forall_mem_cons.mpr ⟨hc1, List.forall_mem_cons.mpr ⟨hc2, fun _ q => absurd q List.not_mem_nil⟩⟩⟩)
  have hgn := gcW_p hdv hn.2
  have hgb := gcW_b hdv (Nat.le_refl n)
  refine zEv.body (I := (1, xI_X1_weigh, 7, 2, 51, 0, 0, false)) (rt := none) [some (za o), none, none, none, none, none, none] rfl rfl rfl rfl ?_
  refine Zn.eq rfl rfl rfl hh ?_
  have hD : zND ([(o, .inr (1, [za xa, za wa, za ba, zi (n : Int), zj sc, za pa, zj be, zj up, zj dn, zi ln])), (xa, .inl (0, 5, .inl F)), (wa, .inl (1, 5, .inl W))]) := hD
  refine Zn.seg (pc2 := 4) (ls2 := [some (za o), some (zj 0), none, some (zi 0), none, none, none]) (st2 := []) [(0, .lconst 0), (1, .lstore_n 1), (2, .iconst 0), (3, .istore_n 3)] (by decide +kernel) rfl ?_
  refine Zn.eq (pc2 := 4) (ls2 := [some (za o), some (zj (gcW X n 0)), none, some (zi (0 : Int)), none, none, none]) (st2 := []) (h2 := zov ([(o, .inr (1, [za xa, za wa, za ba, zi (n : Int), zj sc, za pa, zj be, zj up, zj dn, zi ln])), (xa, .inl (0, 5, .inl F)), (wa, .inl (1, 5, .inl (cpF (wR X n) W 0)))]) h) rfl rfl rfl (by rw [cpF_zero]) ?_
  have hD : zND ([(o, .inr (1, [za xa, za wa, za ba, zi (n : Int), zj sc, za pa, zj be, zj up, zj dn, zi ln])), (xa, .inl (0, 5, .inl F)), (wa, .inl (1, 5, .inl (cpF (wR X n) W 0)))]) := hD
  refine xloop (P := fun i_1 => ∀ j_3 j_4 j_5 : Option zV, Zn (1, xI_X1_weigh, 7, 2, 51, 0, 0, false) none 4 [some (za o), some (zj (gcW X n i_1)), none, some (zi (i_1 : Int)), j_3, j_4, j_5] [] (zov ([(o, .inr (1, [za xa, za wa, za ba, zi (n : Int), zj sc, za pa, zj be, zj up, zj dn, zi ln])), (xa, .inl (0, 5, .inl F)), (wa, .inl (1, 5, .inl (cpF (wR X n) W i_1)))]) h) _) (n) (fun i_1 hi_6 ih_7 j_3 j_4 j_5 => ?_) (fun j_3 j_4 j_5 => ?_) none none none
  · have hi_ : i_1 < n := hi_6
    have hD : zND ([(o, .inr (1, [za xa, za wa, za ba, zi (n : Int), zj sc, za pa, zj be, zj up, zj dn, zi ln])), (xa, .inl (0, 5, .inl F)), (wa, .inl (1, 5, .inl (cpF (wR X n) W i_1)))]) := hD
    have hdp := dv_ok (hdv i_1 hi_)
    have hbi := hb i_1 hi_
    have hgw := gcW_b hdv (show i_1 ≤ n by omega)
    have hrw := wR_b (hdv i_1 hi_)
    refine Zn.seg (pc2 := 6) (ls2 := [some (za o), some (zj (gcW X n i_1)), none, some (zi (i_1 : Int)), j_3, j_4, j_5]) (st2 := [za o, zi (i_1 : Int)]) [(4, .iload_n 3), (5, .aload_n 0)] (by decide +kernel) rfl ?_
    refine Zn.get (ix := 22) hD 0 (by decide +kernel) rfl rfl rfl ?_
    refine Zn.icmp (c := .ge) (off := 94) 103 (by decide +kernel) rfl ⟨by omega, by omega⟩ ⟨by omega, by omega⟩ (fun c_8 => absurd (show (n : Int) ≤ (i_1 : Int) from c_8) (by omega)) (fun c_8 => ?_)
    have c_8 : ¬ ((n : Int) ≤ (i_1 : Int)) := c_8
    refine Zn.seg (pc2 := 18) (ls2 := [some (za o), some (zj (gcW X n i_1)), none, some (zi (i_1 : Int)), some (zj 1), none, some (zi 0)]) (st2 := []) [(12, .lconst 1), (13, .lstore 4), (15, .iconst 0), (16, .istore 6)] (by decide +kernel) rfl ?_
    refine Zn.eq (pc2 := 18) (ls2 := [some (za o), some (zj (gcW X n i_1)), none, some (zi (i_1 : Int)), some (zj (apN X i_1 0)), none, some (zi (0 : Int))]) (st2 := []) (h2 := zov ([(o, .inr (1, [za xa, za wa, za ba, zi (n : Int), zj sc, za pa, zj be, zj up, zj dn, zi ln])), (xa, .inl (0, 5, .inl F)), (wa, .inl (1, 5, .inl (cpF (wR X n) W i_1)))]) h) rfl rfl rfl (rfl) ?_
    have hD : zND ([(o, .inr (1, [za xa, za wa, za ba, zi (n : Int), zj sc, za pa, zj be, zj up, zj dn, zi ln])), (xa, .inl (0, 5, .inl F)), (wa, .inl (1, 5, .inl (cpF (wR X n) W i_1)))]) := hD
    refine xloop (P := fun i_9 => Zn (1, xI_X1_weigh, 7, 2, 51, 0, 0, false) none 18 [some (za o), some (zj (gcW X n i_1)), none, some (zi (i_1 : Int)), some (zj (apN X i_1 i_9)), none, some (zi (i_9 : Int))] [] (zov ([(o, .inr (1, [za xa, za wa, za ba, zi (n : Int), zj sc, za pa, zj be, zj up, zj dn, zi ln])), (xa, .inl (0, 5, .inl F)), (wa, .inl (1, 5, .inl (cpF (wR X n) W i_1)))]) h) _) (n) (fun i_9 hi_12 ih_13 => ?_) ?_
    · have hi_ : i_9 < n := hi_12
      have hD : zND ([(o, .inr (1, [za xa, za wa, za ba, zi (n : Int), zj sc, za pa, zj be, zj up, zj dn, zi ln])), (xa, .inl (0, 5, .inl F)), (wa, .inl (1, 5, .inl (cpF (wR X n) W i_1)))]) := hD
      have hbj := hb i_9 hi_
      refine Zn.seg (pc2 := 21) (ls2 := [some (za o), some (zj (gcW X n i_1)), none, some (zi (i_1 : Int)), some (zj (apN X i_1 i_9)), none, some (zi (i_9 : Int))]) (st2 := [za o, zi (i_9 : Int)]) [(18, .iload 6), (20, .aload_n 0)] (by decide +kernel) rfl ?_
      refine Zn.get (ix := 22) hD 0 (by decide +kernel) rfl rfl rfl ?_
      refine Zn.icmp (c := .ge) (off := 39) 63 (by decide +kernel) rfl ⟨by omega, by omega⟩ ⟨by omega, by omega⟩ (fun c_14 => absurd (show (n : Int) ≤ (i_9 : Int) from c_14) (by omega)) (fun c_14 => ?_)
      have c_14 : ¬ ((n : Int) ≤ (i_9 : Int)) := c_14
      refine Zn.seg (pc2 := 32) (ls2 := [some (za o), some (zj (gcW X n i_1)), none, some (zi (i_1 : Int)), some (zj (apN X i_1 i_9)), none, some (zi (i_9 : Int))]) (st2 := [zi (i_1 : Int), zi (i_9 : Int), zj (apN X i_1 i_9)]) [(27, .lload 4), (29, .iload 6), (31, .iload_n 3)] (by decide +kernel) rfl ?_
      refine Zn.icmp (c := .ne) (off := 7) 39 (by decide +kernel) rfl ⟨by omega, by omega⟩ ⟨by omega, by omega⟩ (fun c_15 => ?_) (fun c_15 => ?_)
      · have c_15 : (i_9 : Int) ≠ (i_1 : Int) := c_15
        refine Zn.seg (pc2 := 40) (ls2 := [some (za o), some (zj (gcW X n i_1)), none, some (zi (i_1 : Int)), some (zj (apN X i_1 i_9)), none, some (zi (i_9 : Int))]) (st2 := [za o, zj (apN X i_1 i_9)]) [(39, .aload_n 0)] (by decide +kernel) rfl ?_
        refine Zn.get (ix := 9) hD 0 (by decide +kernel) rfl rfl rfl ?_
        refine Zn.seg (pc2 := 44) (ls2 := [some (za o), some (zj (gcW X n i_1)), none, some (zi (i_1 : Int)), some (zj (apN X i_1 i_9)), none, some (zi (i_9 : Int))]) (st2 := [zi (i_1 : Int), za xa, zj (apN X i_1 i_9)]) [(43, .iload_n 3)] (by decide +kernel) rfl ?_
        refine Zn.iald hD 1 (i_1) (by decide +kernel) rfl (by omega) (by omega) rfl ?_
        refine Zn.topi (y := X i_1) (hX _ (by omega)) ?_
        refine Zn.seg (pc2 := 46) (ls2 := [some (za o), some (zj (gcW X n i_1)), none, some (zi (i_1 : Int)), some (zj (apN X i_1 i_9)), none, some (zi (i_9 : Int))]) (st2 := [za o, zi (X i_1), zj (apN X i_1 i_9)]) [(45, .aload_n 0)] (by decide +kernel) rfl ?_
        refine Zn.get (ix := 9) hD 0 (by decide +kernel) rfl rfl rfl ?_
        refine Zn.seg (pc2 := 51) (ls2 := [some (za o), some (zj (gcW X n i_1)), none, some (zi (i_1 : Int)), some (zj (apN X i_1 i_9)), none, some (zi (i_9 : Int))]) (st2 := [zi (i_9 : Int), za xa, zi (X i_1), zj (apN X i_1 i_9)]) [(49, .iload 6)] (by decide +kernel) rfl ?_
        refine Zn.iald hD 1 (i_9) (by decide +kernel) rfl (by omega) (by omega) rfl ?_
        refine Zn.topi (y := X i_9) (hX _ (by omega)) ?_
        refine Zn.seg (pc2 := 53) (ls2 := [some (za o), some (zj (gcW X n i_1)), none, some (zi (i_1 : Int)), some (zj (apN X i_1 i_9)), none, some (zi (i_9 : Int))]) (st2 := [zi (X i_1 - (X i_9)), zj (apN X i_1 i_9)]) [(52, .isub)] (by decide +kernel) rfl ?_
        refine Zn.i2l (by decide +kernel) ⟨by omega, by omega⟩ ?_
        refine Zn.seg (pc2 := 18) (ls2 := [some (za o), some (zj (gcW X n i_1)), none, some (zi (i_1 : Int)), some (zj ((apN X i_1 i_9) * (X i_1 - (X i_9)))), none, some (zi ((i_9 : Int) + 1))]) (st2 := []) [(54, .lmul), (55, .lstore 4), (57, .iinc 6 1), (60, .goto (-42))] (by decide +kernel) rfl ?_
        exact Zn.eq rfl (zcons rfl (zcons rfl (zcons rfl (zcons rfl (zcons (congrArg (fun z => some (zj z)) (by rw [apN]; first | rw [if_pos (by omega)] | rw [if_neg (by omega)])) (zcons rfl (zcons (congrArg (fun z => some (zi z)) (by omega)) rfl))))))) rfl (rfl) (ih_13)
      · have c_15 : ¬ ((i_9 : Int) ≠ (i_1 : Int)) := c_15
        refine Zn.seg (pc2 := 18) (ls2 := [some (za o), some (zj (gcW X n i_1)), none, some (zi (i_1 : Int)), some (zj ((apN X i_1 i_9) * 1)), none, some (zi ((i_9 : Int) + 1))]) (st2 := []) [(35, .lconst 1), (36, .goto 18), (54, .lmul), (55, .lstore 4), (57, .iinc 6 1), (60, .goto (-42))] (by decide +kernel) rfl ?_
        exact Zn.eq rfl (zcons rfl (zcons rfl (zcons rfl (zcons rfl (zcons (congrArg (fun z => some (zj z)) (by rw [apN]; first | rw [if_pos (by omega)] | rw [if_neg (by omega)])) (zcons rfl (zcons (congrArg (fun z => some (zi z)) (by omega)) rfl))))))) rfl (rfl) (ih_13)
    · skip
      have hD : zND ([(o, .inr (1, [za xa, za wa, za ba, zi (n : Int), zj sc, za pa, zj be, zj up, zj dn, zi ln])), (xa, .inl (0, 5, .inl F)), (wa, .inl (1, 5, .inl (cpF (wR X n) W i_1)))]) := hD
      refine Zn.seg (pc2 := 21) (ls2 := [some (za o), some (zj (gcW X n i_1)), none, some (zi (i_1 : Int)), some (zj (apN X i_1 n)), none, some (zi (n : Int))]) (st2 := [za o, zi (n : Int)]) [(18, .iload 6), (20, .aload_n 0)] (by decide +kernel) rfl ?_
      refine Zn.get (ix := 22) hD 0 (by decide +kernel) rfl rfl rfl ?_
      refine Zn.icmp (c := .ge) (off := 39) 63 (by decide +kernel) rfl ⟨by omega, by omega⟩ ⟨by omega, by omega⟩ (fun c_16 => ?_) (fun c_16 => absurd (show (n : Int) ≤ (n : Int) from by omega) c_16)
      have c_16 : (n : Int) ≤ (n : Int) := c_16
      refine Zn.seg (pc2 := 64) (ls2 := [some (za o), some (zj (gcW X n i_1)), none, some (zi (i_1 : Int)), some (zj (apN X i_1 n)), none, some (zi (n : Int))]) (st2 := [za o]) [(63, .aload_n 0)] (by decide +kernel) rfl ?_
      refine Zn.get (ix := 15) hD 0 (by decide +kernel) rfl rfl rfl ?_
      refine Zn.seg (pc2 := 71) (ls2 := [some (za o), some (zj (gcW X n i_1)), none, some (zi (i_1 : Int)), some (zj (apN X i_1 n)), none, some (zi (n : Int))]) (st2 := [zj 0, zj (apN X i_1 n), zi (i_1 : Int), za wa]) [(67, .iload_n 3), (68, .lload 4), (70, .lconst 0)] (by decide +kernel) rfl ?_
      refine Zn.lcmpif (c := .ne) (off := (7)) 79 (by decide +kernel) (by decide +kernel) rfl hdp.2.2 ⟨by decide, by decide⟩ (fun c_17 => ?_) (fun c_17 => absurd (show apN X i_1 n ≠ 0 from by exact hdp.1) c_17)
      have c_17 : apN X i_1 n ≠ 0 := c_17
      refine Zn.seg (pc2 := 84) (ls2 := [some (za o), some (zj (gcW X n i_1)), none, some (zi (i_1 : Int)), some (zj (apN X i_1 n)), none, some (zi (n : Int))]) (st2 := [zj (apN X i_1 n), zj 479001600, zi (i_1 : Int), za wa]) [(79, .ldc2_w 45), (82, .lload 4)] (by decide +kernel) rfl ?_
      refine Zn.ldiv (by decide +kernel) ⟨by decide, by decide⟩ hdp.2.2 (by omega) ?_
      refine Zn.topj (y := wR X n i_1) (congrArg zJ (rfl)) ?_
      refine Zn.last hD 2 (i_1) (by decide +kernel) rfl (by omega) (by omega) rfl ?_
      refine Zn.eq (h2 := zov ([(o, .inr (1, [za xa, za wa, za ba, zi (n : Int), zj sc, za pa, zj be, zj up, zj dn, zi ln])), (xa, .inl (0, 5, .inl F)), (wa, .inl (1, 5, .inl (va_up (cpF (wR X n) W i_1) i_1 (wR X n i_1))))]) h) rfl rfl rfl (rfl) ?_
      have hD : zND ([(o, .inr (1, [za xa, za wa, za ba, zi (n : Int), zj sc, za pa, zj be, zj up, zj dn, zi ln])), (xa, .inl (0, 5, .inl F)), (wa, .inl (1, 5, .inl (va_up (cpF (wR X n) W i_1) i_1 (wR X n i_1))))]) := hD
      refine Zn.seg (pc2 := 88) (ls2 := [some (za o), some (zj (gcW X n i_1)), none, some (zi (i_1 : Int)), some (zj (apN X i_1 n)), none, some (zi (n : Int))]) (st2 := [za o, zj (gcW X n i_1)]) [(86, .lload_n 1), (87, .aload_n 0)] (by decide +kernel) rfl ?_
      refine Zn.get (ix := 15) hD 0 (by decide +kernel) rfl rfl rfl ?_
      refine Zn.seg (pc2 := 92) (ls2 := [some (za o), some (zj (gcW X n i_1)), none, some (zi (i_1 : Int)), some (zj (apN X i_1 n)), none, some (zi (n : Int))]) (st2 := [zi (i_1 : Int), za wa, zj (gcW X n i_1)]) [(91, .iload_n 3)] (by decide +kernel) rfl ?_
      refine Zn.lald hD 2 (i_1) (by decide +kernel) rfl (by omega) (by omega) rfl ?_
      refine Zn.topj (y := wR X n i_1) (congrArg zJ (va_up_s _ _ _)) ?_
      refine Zn.call (ins := .invokestatic 47) [zj (gcW X n i_1), zj (wR X n i_1)] [] (by decide +kernel) rfl rfl rfl ⟨rfl, rfl⟩ ⟨rfl, rfl, rfl⟩ rfl (zrecvS (by decide)) (sp_X7_shared (x := gcW X n i_1) (y := wR X n i_1) (⟨by omega, by omega⟩) (⟨by omega, by omega⟩)) (fun v h2 hp => ?_)
      obtain ⟨rfl, hq_18⟩ := hp
      refine Zn.eq (pc2 := 96) (ls2 := [some (za o), some (zj (gcW X n i_1)), none, some (zi (i_1 : Int)), some (zj (apN X i_1 n)), none, some (zi (n : Int))]) (st2 := [zj (Int.gcd (gcW X n i_1) (wR X n i_1) : Int)]) (h2 := zov ([(o, .inr (1, [za xa, za wa, za ba, zi (n : Int), zj sc, za pa, zj be, zj up, zj dn, zi ln])), (xa, .inl (0, 5, .inl F)), (wa, .inl (1, 5, .inl (va_up (cpF (wR X n) W i_1) i_1 (wR X n i_1))))]) h) rfl rfl rfl hq_18 ?_
      have hD : zND ([(o, .inr (1, [za xa, za wa, za ba, zi (n : Int), zj sc, za pa, zj be, zj up, zj dn, zi ln])), (xa, .inl (0, 5, .inl F)), (wa, .inl (1, 5, .inl (va_up (cpF (wR X n) W i_1) i_1 (wR X n i_1))))]) := hD
      refine Zn.seg (pc2 := 4) (ls2 := [some (za o), some (zj (Int.gcd (gcW X n i_1) (wR X n i_1) : Int)), none, some (zi ((i_1 : Int) + 1)), some (zj (apN X i_1 n)), none, some (zi (n : Int))]) (st2 := []) [(96, .lstore_n 1), (97, .iinc 3 1), (100, .goto (-96))] (by decide +kernel) rfl ?_
      exact Zn.eq rfl (zcons rfl (zcons rfl (zcons rfl (zcons (congrArg (fun z => some (zi z)) (by omega)) rfl)))) rfl (by rw [cpF_st (f := wR X n) (by rfl)]) (ih_7 (some (zj (apN X i_1 n))) none (some (zi (n : Int))))
  · skip
    have hD : zND ([(o, .inr (1, [za xa, za wa, za ba, zi (n : Int), zj sc, za pa, zj be, zj up, zj dn, zi ln])), (xa, .inl (0, 5, .inl F)), (wa, .inl (1, 5, .inl (cpF (wR X n) W n)))]) := hD
    refine Zn.seg (pc2 := 6) (ls2 := [some (za o), some (zj (gcW X n n)), none, some (zi (n : Int)), j_3, j_4, j_5]) (st2 := [za o, zi (n : Int)]) [(4, .iload_n 3), (5, .aload_n 0)] (by decide +kernel) rfl ?_
    refine Zn.get (ix := 22) hD 0 (by decide +kernel) rfl rfl rfl ?_
    refine Zn.icmp (c := .ge) (off := 94) 103 (by decide +kernel) rfl ⟨by omega, by omega⟩ ⟨by omega, by omega⟩ (fun c_19 => ?_) (fun c_19 => absurd (show (n : Int) ≤ (n : Int) from by omega) c_19)
    have c_19 : (n : Int) ≤ (n : Int) := c_19
    refine Zn.seg (pc2 := 105) (ls2 := [some (za o), some (zj (gcW X n n)), none, some (zi (n : Int)), j_3, j_4, j_5]) (st2 := [zj 1, za o]) [(103, .aload_n 0), (104, .lconst 1)] (by decide +kernel) rfl ?_
    refine Zn.put (ix := 26) hD 0 (by decide +kernel) rfl rfl rfl rfl rfl ?_
    refine Zn.eq (h2 := zov ([(o, .inr (1, [za xa, za wa, za ba, zi (n : Int), zj 1, za pa, zj be, zj up, zj dn, zi ln])), (xa, .inl (0, 5, .inl F)), (wa, .inl (1, 5, .inl (cpF (wR X n) W n)))]) h) rfl rfl rfl rfl ?_
    have hD : zND ([(o, .inr (1, [za xa, za wa, za ba, zi (n : Int), zj 1, za pa, zj be, zj up, zj dn, zi ln])), (xa, .inl (0, 5, .inl F)), (wa, .inl (1, 5, .inl (cpF (wR X n) W n)))]) := hD
    refine Zn.seg (pc2 := 110) (ls2 := [some (za o), some (zj (gcW X n n)), none, some (zi (n : Int)), j_3, j_4, j_5]) (st2 := [zj 0, zj (gcW X n n)]) [(108, .lload_n 1), (109, .lconst 0)] (by decide +kernel) rfl ?_
    refine Zn.lcmpif (c := .eq) (off := (38)) 149 (by decide +kernel) (by decide +kernel) rfl ⟨by omega, by omega⟩ ⟨by decide, by decide⟩ (fun c_20 => absurd (show gcW X n n = 0 from c_20) (by omega)) (fun c_20 => ?_)
    have c_20 : ¬ (gcW X n n = 0) := c_20
    refine Zn.seg (pc2 := 119) (ls2 := [some (za o), some (zj (gcW X n n)), none, some (zi (n : Int)), j_3, j_4, j_5]) (st2 := [zj (gcW X n n), zj 479001600, za o]) [(114, .aload_n 0), (115, .ldc2_w 45), (118, .lload_n 1)] (by decide +kernel) rfl ?_
    refine Zn.ldiv (by decide +kernel) ⟨by decide, by decide⟩ ⟨by omega, by omega⟩ (by omega) ?_
    refine Zn.topj (y := scl X n) (congrArg zJ (rfl)) ?_
    refine Zn.put (ix := 26) hD 0 (by decide +kernel) rfl rfl rfl rfl rfl ?_
    refine Zn.eq (h2 := zov ([(o, .inr (1, [za xa, za wa, za ba, zi (n : Int), zj (scl X n), za pa, zj be, zj up, zj dn, zi ln])), (xa, .inl (0, 5, .inl F)), (wa, .inl (1, 5, .inl (cpF (wR X n) W n)))]) h) rfl rfl rfl rfl ?_
    have hD : zND ([(o, .inr (1, [za xa, za wa, za ba, zi (n : Int), zj (scl X n), za pa, zj be, zj up, zj dn, zi ln])), (xa, .inl (0, 5, .inl F)), (wa, .inl (1, 5, .inl (cpF (wR X n) W n)))]) := hD
    refine Zn.seg (pc2 := 125) (ls2 := [some (za o), some (zj (gcW X n n)), none, some (zi 0), j_3, j_4, j_5]) (st2 := []) [(123, .iconst 0), (124, .istore_n 3)] (by decide +kernel) rfl ?_
    refine Zn.eq (pc2 := 125) (ls2 := [some (za o), some (zj (gcW X n n)), none, some (zi (0 : Int)), j_3, j_4, j_5]) (st2 := []) (h2 := zov ([(o, .inr (1, [za xa, za wa, za ba, zi (n : Int), zj (scl X n), za pa, zj be, zj up, zj dn, zi ln])), (xa, .inl (0, 5, .inl F)), (wa, .inl (1, 5, .inl (cpF (wgt X n) (cpF (wR X n) W n) 0)))]) h) rfl rfl rfl (by rw [cpF_zero]) ?_
    have hD : zND ([(o, .inr (1, [za xa, za wa, za ba, zi (n : Int), zj (scl X n), za pa, zj be, zj up, zj dn, zi ln])), (xa, .inl (0, 5, .inl F)), (wa, .inl (1, 5, .inl (cpF (wgt X n) (cpF (wR X n) W n) 0)))]) := hD
    refine xloop (P := fun i_21 => ∀ j_23 j_24 j_25 : Option zV, Zn (1, xI_X1_weigh, 7, 2, 51, 0, 0, false) none 125 [some (za o), some (zj (gcW X n n)), none, some (zi (i_21 : Int)), j_23, j_24, j_25] [] (zov ([(o, .inr (1, [za xa, za wa, za ba, zi (n : Int), zj (scl X n), za pa, zj be, zj up, zj dn, zi ln])), (xa, .inl (0, 5, .inl F)), (wa, .inl (1, 5, .inl (cpF (wgt X n) (cpF (wR X n) W n) i_21)))]) h) _) (n) (fun i_21 hi_26 ih_27 j_23 j_24 j_25 => ?_) (fun j_23 j_24 j_25 => ?_) j_3 j_4 j_5
    · have hi_ : i_21 < n := hi_26
      have hD : zND ([(o, .inr (1, [za xa, za wa, za ba, zi (n : Int), zj (scl X n), za pa, zj be, zj up, zj dn, zi ln])), (xa, .inl (0, 5, .inl F)), (wa, .inl (1, 5, .inl (cpF (wgt X n) (cpF (wR X n) W n) i_21)))]) := hD
      have hrw := wR_b (hdv i_21 hi_)
      refine Zn.seg (pc2 := 127) (ls2 := [some (za o), some (zj (gcW X n n)), none, some (zi (i_21 : Int)), j_23, j_24, j_25]) (st2 := [za o, zi (i_21 : Int)]) [(125, .iload_n 3), (126, .aload_n 0)] (by decide +kernel) rfl ?_
      refine Zn.get (ix := 22) hD 0 (by decide +kernel) rfl rfl rfl ?_
      refine Zn.icmp (c := .ge) (off := 19) 149 (by decide +kernel) rfl ⟨by omega, by omega⟩ ⟨by omega, by omega⟩ (fun c_28 => absurd (show (n : Int) ≤ (i_21 : Int) from c_28) (by omega)) (fun c_28 => ?_)
      have c_28 : ¬ ((n : Int) ≤ (i_21 : Int)) := c_28
      refine Zn.seg (pc2 := 134) (ls2 := [some (za o), some (zj (gcW X n n)), none, some (zi (i_21 : Int)), j_23, j_24, j_25]) (st2 := [za o]) [(133, .aload_n 0)] (by decide +kernel) rfl ?_
      refine Zn.get (ix := 15) hD 0 (by decide +kernel) rfl rfl rfl ?_
      refine Zn.seg (pc2 := 139) (ls2 := [some (za o), some (zj (gcW X n n)), none, some (zi (i_21 : Int)), j_23, j_24, j_25]) (st2 := [zi (i_21 : Int), za wa, zi (i_21 : Int), za wa]) [(137, .iload_n 3), (138, .dup2)] (by decide +kernel) rfl ?_
      refine Zn.lald hD 2 (i_21) (by decide +kernel) rfl (by omega) (by omega) rfl ?_
      refine Zn.topj (y := wR X n i_21) (congrArg zJ (cpF_mid (by omega))) ?_
      refine Zn.seg (pc2 := 141) (ls2 := [some (za o), some (zj (gcW X n n)), none, some (zi (i_21 : Int)), j_23, j_24, j_25]) (st2 := [zj (gcW X n n), zj (wR X n i_21), zi (i_21 : Int), za wa]) [(140, .lload_n 1)] (by decide +kernel) rfl ?_
      refine Zn.ldiv (by decide +kernel) ⟨by omega, by omega⟩ ⟨by omega, by omega⟩ (by omega) ?_
      refine Zn.topj (y := wgt X n i_21) (congrArg zJ (rfl)) ?_
      refine Zn.last hD 2 (i_21) (by decide +kernel) rfl (by omega) (by omega) rfl ?_
      refine Zn.eq (h2 := zov ([(o, .inr (1, [za xa, za wa, za ba, zi (n : Int), zj (scl X n), za pa, zj be, zj up, zj dn, zi ln])), (xa, .inl (0, 5, .inl F)), (wa, .inl (1, 5, .inl (va_up (cpF (wgt X n) (cpF (wR X n) W n) i_21) i_21 (wgt X n i_21))))]) h) rfl rfl rfl (rfl) ?_
      have hD : zND ([(o, .inr (1, [za xa, za wa, za ba, zi (n : Int), zj (scl X n), za pa, zj be, zj up, zj dn, zi ln])), (xa, .inl (0, 5, .inl F)), (wa, .inl (1, 5, .inl (va_up (cpF (wgt X n) (cpF (wR X n) W n) i_21) i_21 (wgt X n i_21))))]) := hD
      refine Zn.seg (pc2 := 125) (ls2 := [some (za o), some (zj (gcW X n n)), none, some (zi ((i_21 : Int) + 1)), j_23, j_24, j_25]) (st2 := []) [(143, .iinc 3 1), (146, .goto (-21))] (by decide +kernel) rfl ?_
      exact Zn.eq rfl (zcons rfl (zcons rfl (zcons rfl (zcons (congrArg (fun z => some (zi z)) (by omega)) rfl)))) rfl (by rw [cpF_st (f := wgt X n) (by rfl)]) (ih_27 j_23 j_24 j_25)
    · skip
      have hD : zND ([(o, .inr (1, [za xa, za wa, za ba, zi (n : Int), zj (scl X n), za pa, zj be, zj up, zj dn, zi ln])), (xa, .inl (0, 5, .inl F)), (wa, .inl (1, 5, .inl (cpF (wgt X n) (cpF (wR X n) W n) n)))]) := hD
      refine Zn.seg (pc2 := 127) (ls2 := [some (za o), some (zj (gcW X n n)), none, some (zi (n : Int)), j_23, j_24, j_25]) (st2 := [za o, zi (n : Int)]) [(125, .iload_n 3), (126, .aload_n 0)] (by decide +kernel) rfl ?_
      refine Zn.get (ix := 22) hD 0 (by decide +kernel) rfl rfl rfl ?_
      refine Zn.icmp (c := .ge) (off := 19) 149 (by decide +kernel) rfl ⟨by omega, by omega⟩ ⟨by omega, by omega⟩ (fun c_29 => ?_) (fun c_29 => absurd (show (n : Int) ≤ (n : Int) from by omega) c_29)
      have c_29 : (n : Int) ≤ (n : Int) := c_29
      exact Zn.vret (by decide +kernel) rfl (⟨rfl, by rw [cpF_cpF]⟩)
set_option maxHeartbeats 1000000 in
theorem sp_X1_multiplyOthers {h : xH} {o xa wa ba pa : Nat} {sc be up dn ln : Int} {i n : Nat} {F X B : Nat → Int} (hc0 : h o = zcE (.inr (1, [za xa, za wa, za ba, zi (n : Int), zj sc, za pa, zj be, zj up, zj dn, zi ln]))) (hc1 : h xa = zcE (.inl (0, 5, .inl F))) (hc2 : h ba = zcE (.inl (1, 5, .inl B))) (hD : [o, xa, ba].Nodup) (hn : n ≤ 5) (hX : ∀ j, j < n → F j = X j) (hb : ∀ j, j < n → -6 ≤ X j ∧ X j ≤ 6) (hin : i < 5) : zEv k_X1_multiplyOthers [za o, zi (i : Int)] h (fun v h2 => v = none ∧ h2 = zov [(o, .inr (1, [za xa, za wa, za ba, zi (n : Int), zj sc, za pa, zj be, zj up, zj dn, zi ln])), (xa, .inl (0, 5, .inl F)), (ba, .inl (1, 5, .inl (cpF (onA X 1 i n) B 5)))] h) := by
  have hh : h = zov [(o, .inr (1, [za xa, za wa, za ba, zi (n : Int), zj sc, za pa, zj be, zj up, zj dn, zi ln])), (xa, .inl (0, 5, .inl F)), (ba, .inl (1, 5, .inl B))] h := zov_self (List.forall_mem_cons.mpr ⟨hc0, List.forall_mem_cons.mpr ⟨hc1, List.forall_mem_cons.mpr ⟨hc2, fun _ q => absurd q List.not_mem_nil⟩⟩⟩)
  refine zEv.body (I := (1, xI_X1_multiplyOthers, 4, 0, 0, 0, 0, false)) (rt := none) [some (za o), some (zi (i : Int)), none, none] rfl rfl rfl rfl ?_
  refine Zn.eq rfl rfl rfl hh ?_
  have hD : zND ([(o, .inr (1, [za xa, za wa, za ba, zi (n : Int), zj sc, za pa, zj be, zj up, zj dn, zi ln])), (xa, .inl (0, 5, .inl F)), (ba, .inl (1, 5, .inl B))]) := hD
  refine Zn.seg (pc2 := 1) (ls2 := [some (za o), some (zi (i : Int)), none, none]) (st2 := [za o]) [(0, .aload_n 0)] (by decide +kernel) rfl ?_
  refine Zn.get (ix := 19) hD 0 (by decide +kernel) rfl rfl rfl ?_
  refine Zn.seg (pc2 := 6) (ls2 := [some (za o), some (zi (i : Int)), none, none]) (st2 := [zj 1, zi 0, za ba]) [(4, .iconst 0), (5, .lconst 1)] (by decide +kernel) rfl ?_
  refine Zn.last hD 2 (0) (by decide +kernel) rfl (rfl) (by decide) rfl ?_
  refine Zn.eq (h2 := zov ([(o, .inr (1, [za xa, za wa, za ba, zi (n : Int), zj sc, za pa, zj be, zj up, zj dn, zi ln])), (xa, .inl (0, 5, .inl F)), (ba, .inl (1, 5, .inl (va_up B 0 1)))]) h) rfl rfl rfl (rfl) ?_
  have hD : zND ([(o, .inr (1, [za xa, za wa, za ba, zi (n : Int), zj sc, za pa, zj be, zj up, zj dn, zi ln])), (xa, .inl (0, 5, .inl F)), (ba, .inl (1, 5, .inl (va_up B 0 1)))]) := hD
  refine Zn.seg (pc2 := 9) (ls2 := [some (za o), some (zi (i : Int)), some (zi 1), none]) (st2 := []) [(7, .iconst 1), (8, .istore_n 2)] (by decide +kernel) rfl ?_
  refine Zn.eq (pc2 := 9) (ls2 := [some (za o), some (zi (i : Int)), some (zi ((0 : Int) + 1)), none]) (st2 := []) (h2 := zov ([(o, .inr (1, [za xa, za wa, za ba, zi (n : Int), zj sc, za pa, zj be, zj up, zj dn, zi ln])), (xa, .inl (0, 5, .inl F)), (ba, .inl (1, 5, .inl (cpF (onA X 1 i 0) B (0 + 1))))]) h) rfl rfl rfl (by rw [m5_0 (X := X) (i := i) (B := B)]) ?_
  have hD : zND ([(o, .inr (1, [za xa, za wa, za ba, zi (n : Int), zj sc, za pa, zj be, zj up, zj dn, zi ln])), (xa, .inl (0, 5, .inl F)), (ba, .inl (1, 5, .inl (cpF (onA X 1 i 0) B (0 + 1))))]) := hD
  refine xloop (P := fun i_1 => ∀ j_2 : Option zV, Zn (1, xI_X1_multiplyOthers, 4, 0, 0, 0, 0, false) none 9 [some (za o), some (zi (i : Int)), some (zi ((i_1 : Int) + 1)), j_2] [] (zov ([(o, .inr (1, [za xa, za wa, za ba, zi (n : Int), zj sc, za pa, zj be, zj up, zj dn, zi ln])), (xa, .inl (0, 5, .inl F)), (ba, .inl (1, 5, .inl (cpF (onA X 1 i 0) B (i_1 + 1))))]) h) _) (4) (fun i_1 hi_3 ih_4 j_2 => ?_) (fun j_2 => ?_) none
  · have hi_ : i_1 < 4 := hi_3
    have hD : zND ([(o, .inr (1, [za xa, za wa, za ba, zi (n : Int), zj sc, za pa, zj be, zj up, zj dn, zi ln])), (xa, .inl (0, 5, .inl F)), (ba, .inl (1, 5, .inl (cpF (onA X 1 i 0) B (i_1 + 1))))]) := hD
    refine Zn.seg (pc2 := 11) (ls2 := [some (za o), some (zi (i : Int)), some (zi ((i_1 : Int) + 1)), j_2]) (st2 := [zi 5, zi ((i_1 : Int) + 1)]) [(9, .iload_n 2), (10, .iconst 5)] (by decide +kernel) rfl ?_
    refine Zn.icmp (c := .ge) (off := 16) 27 (by decide +kernel) rfl ⟨by omega, by omega⟩ ⟨by decide, by decide⟩ (fun c_5 => absurd (show 5 ≤ (i_1 : Int) + 1 from c_5) (by omega)) (fun c_5 => ?_)
    have c_5 : ¬ (5 ≤ (i_1 : Int) + 1) := c_5
    refine Zn.seg (pc2 := 15) (ls2 := [some (za o), some (zi (i : Int)), some (zi ((i_1 : Int) + 1)), j_2]) (st2 := [za o]) [(14, .aload_n 0)] (by decide +kernel) rfl ?_
    refine Zn.get (ix := 19) hD 0 (by decide +kernel) rfl rfl rfl ?_
    refine Zn.seg (pc2 := 20) (ls2 := [some (za o), some (zi (i : Int)), some (zi ((i_1 : Int) + 1)), j_2]) (st2 := [zj 0, zi ((i_1 : Int) + 1), za ba]) [(18, .iload_n 2), (19, .lconst 0)] (by decide +kernel) rfl ?_
    refine Zn.last hD 2 (i_1 + 1) (by decide +kernel) rfl (by omega) (by omega) rfl ?_
    refine Zn.eq (h2 := zov ([(o, .inr (1, [za xa, za wa, za ba, zi (n : Int), zj sc, za pa, zj be, zj up, zj dn, zi ln])), (xa, .inl (0, 5, .inl F)), (ba, .inl (1, 5, .inl (va_up (cpF (onA X 1 i 0) B (i_1 + 1)) (i_1 + 1) 0)))]) h) rfl rfl rfl (rfl) ?_
    have hD : zND ([(o, .inr (1, [za xa, za wa, za ba, zi (n : Int), zj sc, za pa, zj be, zj up, zj dn, zi ln])), (xa, .inl (0, 5, .inl F)), (ba, .inl (1, 5, .inl (va_up (cpF (onA X 1 i 0) B (i_1 + 1)) (i_1 + 1) 0)))]) := hD
    refine Zn.seg (pc2 := 9) (ls2 := [some (za o), some (zi (i : Int)), some (zi ((i_1 : Int) + 1 + 1)), j_2]) (st2 := []) [(21, .iinc 2 1), (24, .goto (-15))] (by decide +kernel) rfl ?_
    exact Zn.eq rfl (zcons rfl (zcons rfl (zcons (congrArg (fun z => some (zi z)) (by omega)) rfl))) rfl (by rw [cpF_st (f := onA X 1 i 0) (onA_z1 (by omega))]) (ih_4 j_2)
  · skip
    have hD : zND ([(o, .inr (1, [za xa, za wa, za ba, zi (n : Int), zj sc, za pa, zj be, zj up, zj dn, zi ln])), (xa, .inl (0, 5, .inl F)), (ba, .inl (1, 5, .inl (cpF (onA X 1 i 0) B (4 + 1))))]) := hD
    refine Zn.seg (pc2 := 11) (ls2 := [some (za o), some (zi (i : Int)), some (zi ((4 : Int) + 1)), j_2]) (st2 := [zi 5, zi ((4 : Int) + 1)]) [(9, .iload_n 2), (10, .iconst 5)] (by decide +kernel) rfl ?_
    refine Zn.icmp (c := .ge) (off := 16) 27 (by decide +kernel) rfl ⟨by omega, by omega⟩ ⟨by decide, by decide⟩ (fun c_6 => ?_) (fun c_6 => absurd (show 5 ≤ (4 : Int) + 1 from by decide) c_6)
    have c_6 : 5 ≤ (4 : Int) + 1 := c_6
    refine Zn.seg (pc2 := 29) (ls2 := [some (za o), some (zi (i : Int)), some (zi 0), j_2]) (st2 := []) [(27, .iconst 0), (28, .istore_n 2)] (by decide +kernel) rfl ?_
    refine Zn.eq (pc2 := 29) (ls2 := [some (za o), some (zi (i : Int)), some (zi (0 : Int)), j_2]) (st2 := []) (h2 := zov ([(o, .inr (1, [za xa, za wa, za ba, zi (n : Int), zj sc, za pa, zj be, zj up, zj dn, zi ln])), (xa, .inl (0, 5, .inl F)), (ba, .inl (1, 5, .inl (cpF (onA X 1 i 0) B 5)))]) h) rfl rfl rfl (rfl) ?_
    have hD : zND ([(o, .inr (1, [za xa, za wa, za ba, zi (n : Int), zj sc, za pa, zj be, zj up, zj dn, zi ln])), (xa, .inl (0, 5, .inl F)), (ba, .inl (1, 5, .inl (cpF (onA X 1 i 0) B 5)))]) := hD
    refine xloop (P := fun i_7 => ∀ j_8 : Option zV, Zn (1, xI_X1_multiplyOthers, 4, 0, 0, 0, 0, false) none 29 [some (za o), some (zi (i : Int)), some (zi (i_7 : Int)), j_8] [] (zov ([(o, .inr (1, [za xa, za wa, za ba, zi (n : Int), zj sc, za pa, zj be, zj up, zj dn, zi ln])), (xa, .inl (0, 5, .inl F)), (ba, .inl (1, 5, .inl (cpF (onA X 1 i i_7) B 5)))]) h) _) (n) (fun i_7 hi_9 ih_10 j_8 => ?_) (fun j_8 => ?_) j_2
    · have hi_ : i_7 < n := hi_9
      have hD : zND ([(o, .inr (1, [za xa, za wa, za ba, zi (n : Int), zj sc, za pa, zj be, zj up, zj dn, zi ln])), (xa, .inl (0, 5, .inl F)), (ba, .inl (1, 5, .inl (cpF (onA X 1 i i_7) B 5)))]) := hD
      have hbj := hb i_7 hi_
      refine Zn.seg (pc2 := 31) (ls2 := [some (za o), some (zi (i : Int)), some (zi (i_7 : Int)), j_8]) (st2 := [za o, zi (i_7 : Int)]) [(29, .iload_n 2), (30, .aload_n 0)] (by decide +kernel) rfl ?_
      refine Zn.get (ix := 22) hD 0 (by decide +kernel) rfl rfl rfl ?_
      refine Zn.icmp (c := .ge) (off := 79) 113 (by decide +kernel) rfl ⟨by omega, by omega⟩ ⟨by omega, by omega⟩ (fun c_11 => absurd (show (n : Int) ≤ (i_7 : Int) from c_11) (by omega)) (fun c_11 => ?_)
      have c_11 : ¬ ((n : Int) ≤ (i_7 : Int)) := c_11
      refine Zn.seg (pc2 := 39) (ls2 := [some (za o), some (zi (i : Int)), some (zi (i_7 : Int)), j_8]) (st2 := [zi (i : Int), zi (i_7 : Int)]) [(37, .iload_n 2), (38, .iload_n 1)] (by decide +kernel) rfl ?_
      refine Zn.icmp (c := .ne) (off := 6) 45 (by decide +kernel) rfl ⟨by omega, by omega⟩ ⟨by omega, by omega⟩ (fun c_12 => ?_) (fun c_12 => ?_)
      · have c_12 : (i_7 : Int) ≠ (i : Int) := c_12
        refine Zn.seg (pc2 := 47) (ls2 := [some (za o), some (zi (i : Int)), some (zi (i_7 : Int)), some (zi 4)]) (st2 := []) [(45, .iconst 4), (46, .istore_n 3)] (by decide +kernel) rfl ?_
        refine Zn.eq (pc2 := 47) (ls2 := [some (za o), some (zi (i : Int)), some (zi (i_7 : Int)), some (zi (4 - (0 : Int)))]) (st2 := []) (h2 := zov ([(o, .inr (1, [za xa, za wa, za ba, zi (n : Int), zj sc, za pa, zj be, zj up, zj dn, zi ln])), (xa, .inl (0, 5, .inl F)), (ba, .inl (1, 5, .inl (ds5 (onA X 1 i (i_7 + 1)) (cpF (onA X 1 i i_7) B 5) 0)))]) h) rfl (zcons rfl (zcons rfl (zcons rfl (zcons (congrArg (fun z => some (zi z)) (by omega)) rfl)))) rfl (by rw [ds5_0]) ?_
        have hD : zND ([(o, .inr (1, [za xa, za wa, za ba, zi (n : Int), zj sc, za pa, zj be, zj up, zj dn, zi ln])), (xa, .inl (0, 5, .inl F)), (ba, .inl (1, 5, .inl (ds5 (onA X 1 i (i_7 + 1)) (cpF (onA X 1 i i_7) B 5) 0)))]) := hD
        refine xloop (P := fun i_13 => Zn (1, xI_X1_multiplyOthers, 4, 0, 0, 0, 0, false) none 47 [some (za o), some (zi (i : Int)), some (zi (i_7 : Int)), some (zi (4 - (i_13 : Int)))] [] (zov ([(o, .inr (1, [za xa, za wa, za ba, zi (n : Int), zj sc, za pa, zj be, zj up, zj dn, zi ln])), (xa, .inl (0, 5, .inl F)), (ba, .inl (1, 5, .inl (ds5 (onA X 1 i (i_7 + 1)) (cpF (onA X 1 i i_7) B 5) i_13)))]) h) _) (4) (fun i_13 hi_14 ih_15 => ?_) ?_
        · have hi_ : i_13 < 4 := hi_14
          have hD : zND ([(o, .inr (1, [za xa, za wa, za ba, zi (n : Int), zj sc, za pa, zj be, zj up, zj dn, zi ln])), (xa, .inl (0, 5, .inl F)), (ba, .inl (1, 5, .inl (ds5 (onA X 1 i (i_7 + 1)) (cpF (onA X 1 i i_7) B 5) i_13)))]) := hD
          refine Zn.seg (pc2 := 48) (ls2 := [some (za o), some (zi (i : Int)), some (zi (i_7 : Int)), some (zi (4 - (i_13 : Int)))]) (st2 := [zi (4 - (i_13 : Int))]) [(47, .iload_n 3)] (by decide +kernel) rfl ?_
          refine Zn.ifc (c := .le) (off := 38) 86 (by decide +kernel) rfl ⟨by omega, by omega⟩ (fun c_16 => absurd (show 4 - (i_13 : Int) ≤ 0 from c_16) (by omega)) (fun c_16 => ?_)
          have c_16 : ¬ (4 - (i_13 : Int) ≤ 0) := c_16
          refine Zn.seg (pc2 := 52) (ls2 := [some (za o), some (zi (i : Int)), some (zi (i_7 : Int)), some (zi (4 - (i_13 : Int)))]) (st2 := [za o]) [(51, .aload_n 0)] (by decide +kernel) rfl ?_
          refine Zn.get (ix := 19) hD 0 (by decide +kernel) rfl rfl rfl ?_
          refine Zn.seg (pc2 := 57) (ls2 := [some (za o), some (zi (i : Int)), some (zi (i_7 : Int)), some (zi (4 - (i_13 : Int)))]) (st2 := [za o, zi (4 - (i_13 : Int)), za ba]) [(55, .iload_n 3), (56, .aload_n 0)] (by decide +kernel) rfl ?_
          refine Zn.get (ix := 19) hD 0 (by decide +kernel) rfl rfl rfl ?_
          refine Zn.seg (pc2 := 63) (ls2 := [some (za o), some (zi (i : Int)), some (zi (i_7 : Int)), some (zi (4 - (i_13 : Int)))]) (st2 := [zi (4 - (i_13 : Int) - 1), za ba, zi (4 - (i_13 : Int)), za ba]) [(60, .iload_n 3), (61, .iconst 1), (62, .isub)] (by decide +kernel) rfl ?_
          refine Zn.lald hD 2 (3 - i_13) (by decide +kernel) rfl (by omega) (by omega) rfl ?_
          refine Zn.topj (y := onA X 1 i i_7 (3 - i_13)) (congrArg zJ ((ds5_lo (by omega)).trans (cpF_lt (by omega)))) ?_
          refine Zn.seg (pc2 := 65) (ls2 := [some (za o), some (zi (i : Int)), some (zi (i_7 : Int)), some (zi (4 - (i_13 : Int)))]) (st2 := [za o, zj (onA X 1 i i_7 (3 - i_13)), zi (4 - (i_13 : Int)), za ba]) [(64, .aload_n 0)] (by decide +kernel) rfl ?_
          refine Zn.get (ix := 9) hD 0 (by decide +kernel) rfl rfl rfl ?_
          refine Zn.seg (pc2 := 69) (ls2 := [some (za o), some (zi (i : Int)), some (zi (i_7 : Int)), some (zi (4 - (i_13 : Int)))]) (st2 := [zi (i_7 : Int), za xa, zj (onA X 1 i i_7 (3 - i_13)), zi (4 - (i_13 : Int)), za ba]) [(68, .iload_n 2)] (by decide +kernel) rfl ?_
          refine Zn.iald hD 1 (i_7) (by decide +kernel) rfl (by omega) (by omega) rfl ?_
          refine Zn.topi (y := X i_7) (hX _ (by omega)) ?_
          refine Zn.i2l (by decide +kernel) ⟨by omega, by omega⟩ ?_
          refine Zn.seg (pc2 := 72) (ls2 := [some (za o), some (zi (i : Int)), some (zi (i_7 : Int)), some (zi (4 - (i_13 : Int)))]) (st2 := [za o, zj (X i_7), zj (onA X 1 i i_7 (3 - i_13)), zi (4 - (i_13 : Int)), za ba]) [(71, .aload_n 0)] (by decide +kernel) rfl ?_
          refine Zn.get (ix := 19) hD 0 (by decide +kernel) rfl rfl rfl ?_
          refine Zn.seg (pc2 := 76) (ls2 := [some (za o), some (zi (i : Int)), some (zi (i_7 : Int)), some (zi (4 - (i_13 : Int)))]) (st2 := [zi (4 - (i_13 : Int)), za ba, zj (X i_7), zj (onA X 1 i i_7 (3 - i_13)), zi (4 - (i_13 : Int)), za ba]) [(75, .iload_n 3)] (by decide +kernel) rfl ?_
          refine Zn.lald hD 2 (4 - i_13) (by decide +kernel) rfl (by omega) (by omega) rfl ?_
          refine Zn.topj (y := onA X 1 i i_7 (4 - i_13)) (congrArg zJ ((ds5_lo (by omega)).trans (cpF_lt (by omega)))) ?_
          refine Zn.seg (pc2 := 79) (ls2 := [some (za o), some (zi (i : Int)), some (zi (i_7 : Int)), some (zi (4 - (i_13 : Int)))]) (st2 := [zj (onA X 1 i i_7 (3 - i_13) - ((X i_7) * (onA X 1 i i_7 (4 - i_13)))), zi (4 - (i_13 : Int)), za ba]) [(77, .lmul), (78, .lsub)] (by decide +kernel) rfl ?_
          refine Zn.last hD 2 (4 - i_13) (by decide +kernel) rfl (by omega) (by omega) rfl ?_
          refine Zn.eq (h2 := zov ([(o, .inr (1, [za xa, za wa, za ba, zi (n : Int), zj sc, za pa, zj be, zj up, zj dn, zi ln])), (xa, .inl (0, 5, .inl F)), (ba, .inl (1, 5, .inl (va_up (ds5 (onA X 1 i (i_7 + 1)) (cpF (onA X 1 i i_7) B 5) i_13) (4 - i_13) (onA X 1 i i_7 (3 - i_13) - ((X i_7) * (onA X 1 i i_7 (4 - i_13)))))))]) h) rfl rfl rfl (rfl) ?_
          have hD : zND ([(o, .inr (1, [za xa, za wa, za ba, zi (n : Int), zj sc, za pa, zj be, zj up, zj dn, zi ln])), (xa, .inl (0, 5, .inl F)), (ba, .inl (1, 5, .inl (va_up (ds5 (onA X 1 i (i_7 + 1)) (cpF (onA X 1 i i_7) B 5) i_13) (4 - i_13) (onA X 1 i i_7 (3 - i_13) - ((X i_7) * (onA X 1 i i_7 (4 - i_13)))))))]) := hD
          refine Zn.seg (pc2 := 47) (ls2 := [some (za o), some (zi (i : Int)), some (zi (i_7 : Int)), some (zi (4 - (i_13 : Int) + (-1)))]) (st2 := []) [(80, .iinc 3 (-1)), (83, .goto (-36))] (by decide +kernel) rfl ?_
          exact Zn.eq rfl (zcons rfl (zcons rfl (zcons rfl (zcons (congrArg (fun z => some (zi z)) (by omega)) rfl)))) rfl (by rw [ds5_st (by omega) (onA_s4 (by omega) (by omega))]) (ih_15)
        · skip
          have hD : zND ([(o, .inr (1, [za xa, za wa, za ba, zi (n : Int), zj sc, za pa, zj be, zj up, zj dn, zi ln])), (xa, .inl (0, 5, .inl F)), (ba, .inl (1, 5, .inl (ds5 (onA X 1 i (i_7 + 1)) (cpF (onA X 1 i i_7) B 5) 4)))]) := hD
          refine Zn.seg (pc2 := 48) (ls2 := [some (za o), some (zi (i : Int)), some (zi (i_7 : Int)), some (zi (4 - (4 : Int)))]) (st2 := [zi (4 - (4 : Int))]) [(47, .iload_n 3)] (by decide +kernel) rfl ?_
          refine Zn.ifc (c := .le) (off := 38) 86 (by decide +kernel) rfl ⟨by omega, by omega⟩ (fun c_17 => ?_) (fun c_17 => absurd (show 4 - (4 : Int) ≤ 0 from by decide) c_17)
          have c_17 : 4 - (4 : Int) ≤ 0 := c_17
          refine Zn.seg (pc2 := 87) (ls2 := [some (za o), some (zi (i : Int)), some (zi (i_7 : Int)), some (zi (4 - (4 : Int)))]) (st2 := [za o]) [(86, .aload_n 0)] (by decide +kernel) rfl ?_
          refine Zn.get (ix := 19) hD 0 (by decide +kernel) rfl rfl rfl ?_
          refine Zn.seg (pc2 := 92) (ls2 := [some (za o), some (zi (i : Int)), some (zi (i_7 : Int)), some (zi (4 - (4 : Int)))]) (st2 := [za o, zi 0, za ba]) [(90, .iconst 0), (91, .aload_n 0)] (by decide +kernel) rfl ?_
          refine Zn.get (ix := 9) hD 0 (by decide +kernel) rfl rfl rfl ?_
          refine Zn.seg (pc2 := 96) (ls2 := [some (za o), some (zi (i : Int)), some (zi (i_7 : Int)), some (zi (4 - (4 : Int)))]) (st2 := [zi (i_7 : Int), za xa, zi 0, za ba]) [(95, .iload_n 2)] (by decide +kernel) rfl ?_
          refine Zn.iald hD 1 (i_7) (by decide +kernel) rfl (by omega) (by omega) rfl ?_
          refine Zn.topi (y := X i_7) (hX _ (by omega)) ?_
          refine Zn.seg (pc2 := 98) (ls2 := [some (za o), some (zi (i : Int)), some (zi (i_7 : Int)), some (zi (4 - (4 : Int)))]) (st2 := [zi (-(X i_7)), zi 0, za ba]) [(97, .ineg)] (by decide +kernel) rfl ?_
          refine Zn.i2l (by decide +kernel) ⟨by omega, by omega⟩ ?_
          refine Zn.seg (pc2 := 100) (ls2 := [some (za o), some (zi (i : Int)), some (zi (i_7 : Int)), some (zi (4 - (4 : Int)))]) (st2 := [za o, zj (-(X i_7)), zi 0, za ba]) [(99, .aload_n 0)] (by decide +kernel) rfl ?_
          refine Zn.get (ix := 19) hD 0 (by decide +kernel) rfl rfl rfl ?_
          refine Zn.seg (pc2 := 104) (ls2 := [some (za o), some (zi (i : Int)), some (zi (i_7 : Int)), some (zi (4 - (4 : Int)))]) (st2 := [zi 0, za ba, zj (-(X i_7)), zi 0, za ba]) [(103, .iconst 0)] (by decide +kernel) rfl ?_
          refine Zn.lald hD 2 (0) (by decide +kernel) rfl (rfl) (by decide) rfl ?_
          refine Zn.topj (y := onA X 1 i i_7 0) (congrArg zJ ((ds5_lo (by omega)).trans (cpF_lt (by omega)))) ?_
          refine Zn.seg (pc2 := 106) (ls2 := [some (za o), some (zi (i : Int)), some (zi (i_7 : Int)), some (zi (4 - (4 : Int)))]) (st2 := [zj ((-(X i_7)) * (onA X 1 i i_7 0)), zi 0, za ba]) [(105, .lmul)] (by decide +kernel) rfl ?_
          refine Zn.last hD 2 (0) (by decide +kernel) rfl (rfl) (by decide) rfl ?_
          refine Zn.eq (h2 := zov ([(o, .inr (1, [za xa, za wa, za ba, zi (n : Int), zj sc, za pa, zj be, zj up, zj dn, zi ln])), (xa, .inl (0, 5, .inl F)), (ba, .inl (1, 5, .inl (va_up (ds5 (onA X 1 i (i_7 + 1)) (cpF (onA X 1 i i_7) B 5) 4) 0 ((-(X i_7)) * (onA X 1 i i_7 0)))))]) h) rfl rfl rfl (rfl) ?_
          have hD : zND ([(o, .inr (1, [za xa, za wa, za ba, zi (n : Int), zj sc, za pa, zj be, zj up, zj dn, zi ln])), (xa, .inl (0, 5, .inl F)), (ba, .inl (1, 5, .inl (va_up (ds5 (onA X 1 i (i_7 + 1)) (cpF (onA X 1 i i_7) B 5) 4) 0 ((-(X i_7)) * (onA X 1 i i_7 0)))))]) := hD
          refine Zn.seg (pc2 := 29) (ls2 := [some (za o), some (zi (i : Int)), some (zi ((i_7 : Int) + 1)), some (zi (4 - (4 : Int)))]) (st2 := []) [(107, .iinc 2 1), (110, .goto (-81))] (by decide +kernel) rfl ?_
          exact Zn.eq rfl (zcons rfl (zcons rfl (zcons (congrArg (fun z => some (zi z)) (by omega)) rfl))) rfl (by first | (exfalso; omega) | (rw [onA_e (by omega)]; done) | rw [m5_end (by omega)]) (ih_10 (some (zi (4 - (4 : Int)))))
      · have c_12 : ¬ ((i_7 : Int) ≠ (i : Int)) := c_12
        refine Zn.seg (pc2 := 29) (ls2 := [some (za o), some (zi (i : Int)), some (zi ((i_7 : Int) + 1)), j_8]) (st2 := []) [(42, .goto 65), (107, .iinc 2 1), (110, .goto (-81))] (by decide +kernel) rfl ?_
        exact Zn.eq rfl (zcons rfl (zcons rfl (zcons (congrArg (fun z => some (zi z)) (by omega)) rfl))) rfl (by first | (exfalso; omega) | (rw [onA_e (by omega)]; done) | rw [m5_end (by omega)]) (ih_10 j_8)
    · skip
      have hD : zND ([(o, .inr (1, [za xa, za wa, za ba, zi (n : Int), zj sc, za pa, zj be, zj up, zj dn, zi ln])), (xa, .inl (0, 5, .inl F)), (ba, .inl (1, 5, .inl (cpF (onA X 1 i n) B 5)))]) := hD
      refine Zn.seg (pc2 := 31) (ls2 := [some (za o), some (zi (i : Int)), some (zi (n : Int)), j_8]) (st2 := [za o, zi (n : Int)]) [(29, .iload_n 2), (30, .aload_n 0)] (by decide +kernel) rfl ?_
      refine Zn.get (ix := 22) hD 0 (by decide +kernel) rfl rfl rfl ?_
      refine Zn.icmp (c := .ge) (off := 79) 113 (by decide +kernel) rfl ⟨by omega, by omega⟩ ⟨by omega, by omega⟩ (fun c_18 => ?_) (fun c_18 => absurd (show (n : Int) ≤ (n : Int) from by omega) c_18)
      have c_18 : (n : Int) ≤ (n : Int) := c_18
      exact Zn.vret (by decide +kernel) rfl (⟨rfl, rfl⟩)
