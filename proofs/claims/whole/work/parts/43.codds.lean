/-! EvenErrors$Odds -/
def pwZ (b : Int) : Nat → Int
  | 0 => 1
  | n + 1 => pwZ b n * b
def nPl (p : Nat) : Int := (p : Int)
theorem plB_len8 {b : Nat → Bool} {l : List Nat} (hL : l = plB b 13) (h : l.length ≤ 8) {k : Nat} (hk : k ≤ 13) : (plB b k).length ≤ 8 := by
  have := pln_mono b hk
  rw [hL] at h
  omega
theorem plB_all8 {b : Nat → Bool} {k : Nat} (hk : k ≤ 13) (h5 : 8 ≤ (plB b k).length) (h : (plB b 13).length ≤ 8) : plB b k = plB b 13 := plB_ge hk (by omega)
/-- the places that a mask of a list takes -/
def soN (l : List Nat) (m : Nat) : Nat → Nat
  | 0 => 0
  | k + 1 => if bt m k = 1 then soN l m k ||| 2 ^ nfP l k else soN l m k
theorem soN_lt {l : List Nat} {m : Nat} (h : ∀ j, j < l.length → nfP l j < 13) : ∀ k, k ≤ l.length → soN l m k < 8192
  | 0, _ => by
    show 0 < 8192
    decide
  | k + 1, hk => by
    have ih := soN_lt (m := m) h k (by omega)
    rw [soN]
    split
    · exact or_lt ih (pw_lt (h k (by omega)))
    · exact ih
theorem pop8 : ∀ m, m < 256 → pop m ≤ 8 := by decide +kernel
theorem pw8 {n : Nat} (h : n ≤ 8) : 2 ^ n ≤ 256 := Nat.pow_le_pow_right (by decide) h
theorem xor8 {a f m k : Nat} (ha : a = 2 ^ f) (hm : m < a) (hk : k < f) : m ^^^ 2 ^ k < a := by
  subst ha
  exact Nat.xor_lt_two_pow hm (Nat.pow_lt_pow_right (by decide) hk)
def wyA (WY SF : Nat → Int) : Nat → Nat → Int
  | 0 => cpF zF WY 9
  | m + 1 => va_up (wyA WY SF m) (pop m) (wyA WY SF m (pop m) + (if SF m ≠ 0 then 1 else 0))
def abN (WY : Nat → Int) (c : Int) (f : Nat) : Nat → Int
  | 0 => 0
  | i + 1 => abN WY c f i + WY i * pwZ (10 - c) i * pwZ c (f - i)
def spI (SF : Nat → Int) (k : Nat) : Nat → Nat → Int
  | 0 => SF
  | m + 1 => if bt m k = 1 ∧ spI SF k m (m ^^^ 2 ^ k) ≠ 0 then va_up (spI SF k m) m 1 else spI SF k m
def spA (SF : Nat → Int) (a : Nat) : Nat → Nat → Int
  | 0 => SF
  | k + 1 => spI (spA SF a k) k a
theorem spI_b {SF : Nat → Int} (h : ∀ j, j < 256 → SF j = 0 ∨ SF j = 1) (k : Nat) : ∀ m j, j < 256 → spI SF k m j = 0 ∨ spI SF k m j = 1
  | 0, j, hj => h j hj
  | m + 1, j, hj => by
    have ih := spI_b h k m j hj
    rw [spI]
    split
    · simp only [va_up]
      split
      · exact Or.inr rfl
      · exact ih
    · exact ih
theorem spA_b {SF : Nat → Int} (h : ∀ j, j < 256 → SF j = 0 ∨ SF j = 1) (a : Nat) : ∀ k j, j < 256 → spA SF a k j = 0 ∨ spA SF a k j = 1
  | 0, j, hj => h j hj
  | k + 1, j, hj => spI_b (fun j hj => spA_b h a k j hj) k a j hj
/-- whether a mask's set has the told error -/
def msF (fx : Nat) (Y Q : Nat → Int) (l : List Nat) (up dn n : Int) (m : Nat) : Int := if (pop m : Int) = n ∧ cU fx Y Q (soN l m l.length) = up ∧ cD fx Y Q (soN l m l.length) = dn then 1 else 0
theorem msF_c (fx : Nat) (Y Q : Nat → Int) (l : List Nat) (up dn n : Int) (m : Nat) : msF fx Y Q l up dn n m = 0 ∨ msF fx Y Q l up dn n m = 1 := by
  unfold msF
  split
  · exact Or.inr rfl
  · exact Or.inl rfl
theorem msF_2 {f g : Nat → Int} {k : Nat} {v1 v2 : Int} (h : v2 = f k) : va_up (va_up (cpF f g k) k v1) k v2 = cpF f g (k + 1) := cpF_st2 h
theorem msF_bb {f g : Nat → Int} {n : Nat} (h : ∀ j, j < 256 → g j = 0 ∨ g j = 1) (h2 : ∀ j, f j = 0 ∨ f j = 1) : ∀ j, j < 256 → cpF f g n j = 0 ∨ cpF f g n j = 1 := fun j hj => by
  unfold cpF
  split
  · exact h2 j
  · exact h j hj
theorem sp_X2_power {h : xH} {b : Int} {n : Nat} (hb : zInI b) (hn : n < 100) : zEv k_X2_power [zi b, zi (n : Int)] h (fun v h2 => v = some (zj (pwZ b n)) ∧ h2 = h) := by
  have hD : ([] : List Nat).Nodup := List.nodup_nil
  have hh : h = zov [] h := zov_self (fun _ q => absurd q List.not_mem_nil)
  refine zEv.body (I := (2, xI_X2_power, 5, 0, 0, 0, 0, false)) (rt := (some .long)) [some (zi b), some (zi (n : Int)), none, none, none] rfl rfl rfl rfl ?_
  refine Zn.eq rfl rfl rfl hh ?_
  have hD : zND ([]) := hD
  refine Zn.seg (pc2 := 5) (ls2 := [some (zi b), some (zi (n : Int)), some (zj 1), none, some (zi 0)]) (st2 := []) [(0, .lconst 1), (1, .lstore_n 2), (2, .iconst 0), (3, .istore 4)] (by decide +kernel) rfl ?_
  refine Zn.eq (pc2 := 5) (ls2 := [some (zi b), some (zi (n : Int)), some (zj (pwZ b 0)), none, some (zi (0 : Int))]) (st2 := []) (h2 := zov ([]) h) rfl rfl rfl (rfl) ?_
  have hD : zND ([]) := hD
  refine xloop (P := fun i_1 => Zn (2, xI_X2_power, 5, 0, 0, 0, 0, false) (some .long) 5 [some (zi b), some (zi (n : Int)), some (zj (pwZ b i_1)), none, some (zi (i_1 : Int))] [] (zov ([]) h) _) (n) (fun i_1 hi_3 ih_4 => ?_) ?_
  · have hi_ : i_1 < n := hi_3
    have hD : zND ([]) := hD
    refine Zn.seg (pc2 := 8) (ls2 := [some (zi b), some (zi (n : Int)), some (zj (pwZ b i_1)), none, some (zi (i_1 : Int))]) (st2 := [zi (n : Int), zi (i_1 : Int)]) [(5, .iload 4), (7, .iload_n 1)] (by decide +kernel) rfl ?_
    refine Zn.icmp (c := .ge) (off := 14) 22 (by decide +kernel) rfl ⟨by omega, by omega⟩ ⟨by omega, by omega⟩ (fun c_5 => absurd (show (n : Int) ≤ (i_1 : Int) from c_5) (by omega)) (fun c_5 => ?_)
    have c_5 : ¬ ((n : Int) ≤ (i_1 : Int)) := c_5
    refine Zn.seg (pc2 := 13) (ls2 := [some (zi b), some (zi (n : Int)), some (zj (pwZ b i_1)), none, some (zi (i_1 : Int))]) (st2 := [zi b, zj (pwZ b i_1)]) [(11, .lload_n 2), (12, .iload_n 0)] (by decide +kernel) rfl ?_
    refine Zn.i2l (by decide +kernel) hb ?_
    refine Zn.seg (pc2 := 5) (ls2 := [some (zi b), some (zi (n : Int)), some (zj ((pwZ b i_1) * b)), none, some (zi ((i_1 : Int) + 1))]) (st2 := []) [(14, .lmul), (15, .lstore_n 2), (16, .iinc 4 1), (19, .goto (-14))] (by decide +kernel) rfl ?_
    exact Zn.eq rfl (zcons rfl (zcons rfl (zcons rfl (zcons rfl (zcons (congrArg (fun z => some (zi z)) (by omega)) rfl))))) rfl (rfl) (ih_4)
  · skip
    have hD : zND ([]) := hD
    refine Zn.seg (pc2 := 8) (ls2 := [some (zi b), some (zi (n : Int)), some (zj (pwZ b n)), none, some (zi (n : Int))]) (st2 := [zi (n : Int), zi (n : Int)]) [(5, .iload 4), (7, .iload_n 1)] (by decide +kernel) rfl ?_
    refine Zn.icmp (c := .ge) (off := 14) 22 (by decide +kernel) rfl ⟨by omega, by omega⟩ ⟨by omega, by omega⟩ (fun c_6 => ?_) (fun c_6 => absurd (show (n : Int) ≤ (n : Int) from by omega) c_6)
    have c_6 : (n : Int) ≤ (n : Int) := c_6
    refine Zn.seg (pc2 := 23) (ls2 := [some (zi b), some (zi (n : Int)), some (zj (pwZ b n)), none, some (zi (n : Int))]) (st2 := [zj (pwZ b n)]) [(22, .lload_n 2)] (by decide +kernel) rfl ?_
    exact Zn.lret (by decide +kernel) rfl (⟨by first | rfl | (refine congrArg some (congrArg zj ?_); first | omega | (simp_all; done) | (simp_all; omega)), hh.symm⟩)
theorem sp_X2_below {h : xH} {z pl sf wy : Nat} {f : Nat} (hc0 : h z = zcE (.inr (2, [za pl, za sf, za wy, zi (f : Int)]))) (hf : f ≤ 8) : zEv k_X2_below [za z] h (fun v h2 => v = some (zj (pwZ 10 f)) ∧ h2 = h) := by
  have hD : [z].Nodup := by simp
  have hh : h = zov [(z, .inr (2, [za pl, za sf, za wy, zi (f : Int)]))] h := zov_self (List.forall_mem_cons.mpr ⟨hc0, fun _ q => absurd q List.not_mem_nil⟩)
  refine zEv.body (I := (2, xI_X2_below, 1, 1, 24, 0, 0, false)) (rt := (some .long)) [some (za z)] rfl rfl rfl rfl ?_
  refine Zn.eq rfl rfl rfl hh ?_
  have hD : zND ([(z, .inr (2, [za pl, za sf, za wy, zi (f : Int)]))]) := hD
  refine Zn.seg (pc2 := 3) (ls2 := [some (za z)]) (st2 := [za z, zi 10]) [(0, .bipush 10), (2, .aload_n 0)] (by decide +kernel) rfl ?_
  refine Zn.get (ix := 23) hD 0 (by decide +kernel) rfl rfl rfl ?_
  refine Zn.call (ins := .invokestatic 67) [zi 10, zi (f : Int)] [] (by decide +kernel) rfl rfl rfl ⟨rfl, rfl⟩ ⟨rfl, rfl, rfl⟩ rfl (zrecvS (by decide)) (sp_X2_power (b := 10) (n := f) (⟨by decide, by decide⟩) (by omega)) (fun v h2 hp => ?_)
  obtain ⟨rfl, hq_1⟩ := hp
  refine Zn.eq (pc2 := 9) (ls2 := [some (za z)]) (st2 := [zj (pwZ 10 f)]) (h2 := zov ([(z, .inr (2, [za pl, za sf, za wy, zi (f : Int)]))]) h) rfl rfl rfl hq_1 ?_
  have hD : zND ([(z, .inr (2, [za pl, za sf, za wy, zi (f : Int)]))]) := hD
  exact Zn.lret (by decide +kernel) rfl (⟨by first | rfl | (refine congrArg some (congrArg zj ?_); first | omega | (simp_all; done) | (simp_all; omega)), hh.symm⟩)
theorem sp_X2_gather {h : xH} {z pl sf wy : Nat} {fr : Int} {s : Nat} {l : List Nat} {PL : Nat → Int} (hc0 : h z = zcE (.inr (2, [za pl, za sf, za wy, zi fr]))) (hc1 : h pl = zcE (.inl (0, 8, .inl PL))) (hD : [z, pl].Nodup) (hs : s < 8192) (hLl : l = plB (bB s) 13) (hl : l.length ≤ 8) : zEv k_X2_gather [za z, zi (s : Int)] h (fun v h2 => v = none ∧ h2 = zov [(z, .inr (2, [za pl, za sf, za wy, zi (l.length : Int)])), (pl, .inl (0, 8, .inl (arL (l.map nPl) PL)))] h) := by
  have hh : h = zov [(z, .inr (2, [za pl, za sf, za wy, zi fr])), (pl, .inl (0, 8, .inl PL))] h := zov_self (List.forall_mem_cons.mpr ⟨hc0, List.forall_mem_cons.mpr ⟨hc1, fun _ q => absurd q List.not_mem_nil⟩⟩)
  refine zEv.body (I := (2, xI_X2_gather, 3, 0, 0, 0, 0, false)) (rt := none) [some (za z), some (zi (s : Int)), none] rfl rfl rfl rfl ?_
  refine Zn.eq rfl rfl rfl hh ?_
  have hD : zND ([(z, .inr (2, [za pl, za sf, za wy, zi fr])), (pl, .inl (0, 8, .inl PL))]) := hD
  refine Zn.seg (pc2 := 2) (ls2 := [some (za z), some (zi (s : Int)), none]) (st2 := [zi 0, za z]) [(0, .aload_n 0), (1, .iconst 0)] (by decide +kernel) rfl ?_
  refine Zn.put (ix := 23) hD 0 (by decide +kernel) rfl rfl rfl rfl rfl ?_
  refine Zn.eq (h2 := zov ([(z, .inr (2, [za pl, za sf, za wy, zi 0])), (pl, .inl (0, 8, .inl PL))]) h) rfl rfl rfl rfl ?_
  have hD : zND ([(z, .inr (2, [za pl, za sf, za wy, zi 0])), (pl, .inl (0, 8, .inl PL))]) := hD
  refine Zn.seg (pc2 := 7) (ls2 := [some (za z), some (zi (s : Int)), some (zi 0)]) (st2 := []) [(5, .iconst 0), (6, .istore_n 2)] (by decide +kernel) rfl ?_
  refine Zn.eq (pc2 := 7) (ls2 := [some (za z), some (zi (s : Int)), some (zi (0 : Int))]) (st2 := []) (h2 := zov ([(z, .inr (2, [za pl, za sf, za wy, zi ((plB (bB s) 0).length : Int)])), (pl, .inl (0, 8, .inl (arL ((plB (bB s) 0).map nPl) PL)))]) h) rfl (zcons rfl (zcons rfl (zcons (congrArg (fun z => some (zi z)) (by first | rfl | omega | simp)) rfl))) rfl (by simp only [plB_0, List.map_nil, arL_nil, List.length_nil] <;> rfl) ?_
  have hD : zND ([(z, .inr (2, [za pl, za sf, za wy, zi ((plB (bB s) 0).length : Int)])), (pl, .inl (0, 8, .inl (arL ((plB (bB s) 0).map nPl) PL)))]) := hD
  refine xloop (P := fun i_1 => Zn (2, xI_X2_gather, 3, 0, 0, 0, 0, false) none 7 [some (za z), some (zi (s : Int)), some (zi (i_1 : Int))] [] (zov ([(z, .inr (2, [za pl, za sf, za wy, zi ((plB (bB s) i_1).length : Int)])), (pl, .inl (0, 8, .inl (arL ((plB (bB s) i_1).map nPl) PL)))]) h) _) (13) (fun i_1 hi_2 ih_3 => ?_) ?_
  · have hi_ : i_1 < 13 := hi_2
    have hD : zND ([(z, .inr (2, [za pl, za sf, za wy, zi ((plB (bB s) i_1).length : Int)])), (pl, .inl (0, 8, .inl (arL ((plB (bB s) i_1).map nPl) PL)))]) := hD
    have hbl := bt_lt s i_1
    have hnl := plB_len8 (b := bB s) hLl hl (show i_1 ≤ 13 by omega)
    refine Zn.seg (pc2 := 10) (ls2 := [some (za z), some (zi (s : Int)), some (zi (i_1 : Int))]) (st2 := [zi 13, zi (i_1 : Int)]) [(7, .iload_n 2), (8, .bipush 13)] (by decide +kernel) rfl ?_
    refine Zn.icmp (c := .ge) (off := 47) 57 (by decide +kernel) rfl ⟨by omega, by omega⟩ ⟨by decide, by decide⟩ (fun c_4 => absurd (show 13 ≤ (i_1 : Int) from c_4) (by omega)) (fun c_4 => ?_)
    have c_4 : ¬ (13 ≤ (i_1 : Int)) := c_4
    refine Zn.seg (pc2 := 14) (ls2 := [some (za z), some (zi (s : Int)), some (zi (i_1 : Int))]) (st2 := [za z]) [(13, .aload_n 0)] (by decide +kernel) rfl ?_
    refine Zn.get (ix := 23) hD 0 (by decide +kernel) rfl rfl rfl ?_
    refine Zn.seg (pc2 := 19) (ls2 := [some (za z), some (zi (s : Int)), some (zi (i_1 : Int))]) (st2 := [zi 8, zi ((plB (bB s) i_1).length : Int)]) [(17, .bipush 8)] (by decide +kernel) rfl ?_
    refine Zn.icmp (c := .ge) (off := 38) 57 (by decide +kernel) rfl ⟨by omega, by omega⟩ ⟨by decide, by decide⟩ (fun c_5 => ?_) (fun c_5 => ?_)
    · have c_5 : 8 ≤ ((plB (bB s) i_1).length : Int) := c_5
      exact Zn.vret (by decide +kernel) rfl (⟨rfl, by first | (rw [hLl]; done) | (rw [hLl, plB_all8 (b := bB s) (k := i_1) (by omega) (by omega) (by rw [← hLl]; exact hl)]; done)⟩)
    · have c_5 : ¬ (8 ≤ ((plB (bB s) i_1).length : Int)) := c_5
      refine Zn.seg (pc2 := 24) (ls2 := [some (za z), some (zi (s : Int)), some (zi (i_1 : Int))]) (st2 := [zi (i_1 : Int), zi (s : Int)]) [(22, .iload_n 1), (23, .iload_n 2)] (by decide +kernel) rfl ?_
      refine Zn.ishr (((s / 2 ^ i_1 : Nat) : Int)) (by decide +kernel) (zshr (by omega) (by omega)) ?_
      refine Zn.seg (pc2 := 26) (ls2 := [some (za z), some (zi (s : Int)), some (zi (i_1 : Int))]) (st2 := [zi 1, zi ((s / 2 ^ i_1 : Nat) : Int)]) [(25, .iconst 1)] (by decide +kernel) rfl ?_
      refine Zn.iand ((bt s i_1 : Int)) (by decide +kernel) (zbt (by omega)) ?_
      refine Zn.seg (pc2 := 28) (ls2 := [some (za z), some (zi (s : Int)), some (zi (i_1 : Int))]) (st2 := [zi 1, zi (bt s i_1 : Int)]) [(27, .iconst 1)] (by decide +kernel) rfl ?_
      refine Zn.icmp (c := .ne) (off := 23) 51 (by decide +kernel) rfl ⟨by omega, by omega⟩ ⟨by decide, by decide⟩ (fun c_6 => ?_) (fun c_6 => ?_)
      · have c_6 : (bt s i_1 : Int) ≠ 1 := c_6
        refine Zn.seg (pc2 := 7) (ls2 := [some (za z), some (zi (s : Int)), some (zi ((i_1 : Int) + 1))]) (st2 := []) [(51, .iinc 2 1), (54, .goto (-47))] (by decide +kernel) rfl ?_
        exact Zn.eq rfl (zcons rfl (zcons rfl (zcons (congrArg (fun z => some (zi z)) (by omega)) rfl))) rfl (by first | (exfalso; omega) | (rw [arL_t (F := nPl) (bB_t (by omega)), pln_t (bB_t (by omega))] <;> rfl) | rw [plB_f (bB_f (by omega))]) (ih_3)
      · have c_6 : ¬ ((bt s i_1 : Int) ≠ 1) := c_6
        refine Zn.seg (pc2 := 32) (ls2 := [some (za z), some (zi (s : Int)), some (zi (i_1 : Int))]) (st2 := [za z]) [(31, .aload_n 0)] (by decide +kernel) rfl ?_
        refine Zn.get (ix := 9) hD 0 (by decide +kernel) rfl rfl rfl ?_
        refine Zn.seg (pc2 := 36) (ls2 := [some (za z), some (zi (s : Int)), some (zi (i_1 : Int))]) (st2 := [za z, za pl]) [(35, .aload_n 0)] (by decide +kernel) rfl ?_
        refine Zn.get (ix := 23) hD 0 (by decide +kernel) rfl rfl rfl ?_
        refine Zn.seg (pc2 := 40) (ls2 := [some (za z), some (zi (s : Int)), some (zi (i_1 : Int))]) (st2 := [zi (i_1 : Int), zi ((plB (bB s) i_1).length : Int), za pl]) [(39, .iload_n 2)] (by decide +kernel) rfl ?_
        refine Zn.iast hD 1 ((plB (bB s) i_1).length) (by decide +kernel) rfl (rfl) (by omega) rfl ?_
        refine Zn.eq (h2 := zov ([(z, .inr (2, [za pl, za sf, za wy, zi ((plB (bB s) i_1).length : Int)])), (pl, .inl (0, 8, .inl (va_up (arL ((plB (bB s) i_1).map nPl) PL) ((plB (bB s) i_1).length) (i_1 : Int))))]) h) rfl rfl rfl (rfl) ?_
        have hD : zND ([(z, .inr (2, [za pl, za sf, za wy, zi ((plB (bB s) i_1).length : Int)])), (pl, .inl (0, 8, .inl (va_up (arL ((plB (bB s) i_1).map nPl) PL) ((plB (bB s) i_1).length) (i_1 : Int))))]) := hD
        refine Zn.seg (pc2 := 43) (ls2 := [some (za z), some (zi (s : Int)), some (zi (i_1 : Int))]) (st2 := [za z, za z]) [(41, .aload_n 0), (42, .dup)] (by decide +kernel) rfl ?_
        refine Zn.get (ix := 23) hD 0 (by decide +kernel) rfl rfl rfl ?_
        refine Zn.seg (pc2 := 48) (ls2 := [some (za z), some (zi (s : Int)), some (zi (i_1 : Int))]) (st2 := [zi (((plB (bB s) i_1).length : Int) + 1), za z]) [(46, .iconst 1), (47, .iadd)] (by decide +kernel) rfl ?_
        refine Zn.put (ix := 23) hD 0 (by decide +kernel) rfl rfl rfl rfl rfl ?_
        refine Zn.eq (h2 := zov ([(z, .inr (2, [za pl, za sf, za wy, zi (((plB (bB s) i_1).length : Int) + 1)])), (pl, .inl (0, 8, .inl (va_up (arL ((plB (bB s) i_1).map nPl) PL) ((plB (bB s) i_1).length) (i_1 : Int))))]) h) rfl rfl rfl rfl ?_
        have hD : zND ([(z, .inr (2, [za pl, za sf, za wy, zi (((plB (bB s) i_1).length : Int) + 1)])), (pl, .inl (0, 8, .inl (va_up (arL ((plB (bB s) i_1).map nPl) PL) ((plB (bB s) i_1).length) (i_1 : Int))))]) := hD
        refine Zn.seg (pc2 := 7) (ls2 := [some (za z), some (zi (s : Int)), some (zi ((i_1 : Int) + 1))]) (st2 := []) [(51, .iinc 2 1), (54, .goto (-47))] (by decide +kernel) rfl ?_
        exact Zn.eq rfl (zcons rfl (zcons rfl (zcons (congrArg (fun z => some (zi z)) (by omega)) rfl))) rfl (by first | (exfalso; omega) | (rw [arL_t (F := nPl) (bB_t (by omega)), pln_t (bB_t (by omega))] <;> rfl) | rw [plB_f (bB_f (by omega))]) (ih_3)
  · skip
    have hD : zND ([(z, .inr (2, [za pl, za sf, za wy, zi ((plB (bB s) 13).length : Int)])), (pl, .inl (0, 8, .inl (arL ((plB (bB s) 13).map nPl) PL)))]) := hD
    refine Zn.seg (pc2 := 10) (ls2 := [some (za z), some (zi (s : Int)), some (zi (13 : Int))]) (st2 := [zi 13, zi (13 : Int)]) [(7, .iload_n 2), (8, .bipush 13)] (by decide +kernel) rfl ?_
    refine Zn.icmp (c := .ge) (off := 47) 57 (by decide +kernel) rfl ⟨by omega, by omega⟩ ⟨by decide, by decide⟩ (fun c_7 => ?_) (fun c_7 => absurd (show 13 ≤ (13 : Int) from by decide) c_7)
    have c_7 : 13 ≤ (13 : Int) := c_7
    exact Zn.vret (by decide +kernel) rfl (⟨rfl, by first | (rw [hLl]; done) | (rw [hLl, plB_all8 (b := bB s) (k := 13) (by omega) (by omega) (by rw [← hLl]; exact hl)]; done)⟩)
theorem sp_X2_setOf {h : xH} {z pl sf wy : Nat} {m : Nat} {l : List Nat} {PL : Nat → Int} (hc0 : h z = zcE (.inr (2, [za pl, za sf, za wy, zi (l.length : Int)]))) (hc1 : h pl = zcE (.inl (0, 8, .inl PL))) (hD : [z, pl].Nodup) (hm : m < 256) (hl : l.length ≤ 8) (hP : ∀ j, j < l.length → PL j = (nfP l j : Int) ∧ nfP l j < 13) : zEv k_X2_setOf [za z, zi (m : Int)] h (fun v h2 => v = some (zi (soN l m l.length : Int)) ∧ h2 = h) := by
  have hh : h = zov [(z, .inr (2, [za pl, za sf, za wy, zi (l.length : Int)])), (pl, .inl (0, 8, .inl PL))] h := zov_self (List.forall_mem_cons.mpr ⟨hc0, List.forall_mem_cons.mpr ⟨hc1, fun _ q => absurd q List.not_mem_nil⟩⟩)
  refine zEv.body (I := (2, xI_X2_setOf, 4, 0, 0, 0, 0, false)) (rt := (some .int)) [some (za z), some (zi (m : Int)), none, none] rfl rfl rfl rfl ?_
  refine Zn.eq rfl rfl rfl hh ?_
  have hD : zND ([(z, .inr (2, [za pl, za sf, za wy, zi (l.length : Int)])), (pl, .inl (0, 8, .inl PL))]) := hD
  refine Zn.seg (pc2 := 4) (ls2 := [some (za z), some (zi (m : Int)), some (zi 0), some (zi 0)]) (st2 := []) [(0, .iconst 0), (1, .istore_n 2), (2, .iconst 0), (3, .istore_n 3)] (by decide +kernel) rfl ?_
  refine Zn.eq (pc2 := 4) (ls2 := [some (za z), some (zi (m : Int)), some (zi (soN l m 0 : Int)), some (zi (0 : Int))]) (st2 := []) (h2 := zov ([(z, .inr (2, [za pl, za sf, za wy, zi (l.length : Int)])), (pl, .inl (0, 8, .inl PL))]) h) rfl rfl rfl (rfl) ?_
  have hD : zND ([(z, .inr (2, [za pl, za sf, za wy, zi (l.length : Int)])), (pl, .inl (0, 8, .inl PL))]) := hD
  refine xloop (P := fun i_1 => Zn (2, xI_X2_setOf, 4, 0, 0, 0, 0, false) (some .int) 4 [some (za z), some (zi (m : Int)), some (zi (soN l m i_1 : Int)), some (zi (i_1 : Int))] [] (zov ([(z, .inr (2, [za pl, za sf, za wy, zi (l.length : Int)])), (pl, .inl (0, 8, .inl PL))]) h) _) (l.length) (fun i_1 hi_2 ih_3 => ?_) ?_
  · have hi_ : i_1 < l.length := hi_2
    have hD : zND ([(z, .inr (2, [za pl, za sf, za wy, zi (l.length : Int)])), (pl, .inl (0, 8, .inl PL))]) := hD
    have hbl := bt_lt m i_1
    have hpi := (hP i_1 hi_).2
    have hpw := pw_lt hpi
    have hso := soN_lt (m := m) (fun j hj => (hP j hj).2) i_1 (by omega)
    refine Zn.seg (pc2 := 6) (ls2 := [some (za z), some (zi (m : Int)), some (zi (soN l m i_1 : Int)), some (zi (i_1 : Int))]) (st2 := [za z, zi (i_1 : Int)]) [(4, .iload_n 3), (5, .aload_n 0)] (by decide +kernel) rfl ?_
    refine Zn.get (ix := 23) hD 0 (by decide +kernel) rfl rfl rfl ?_
    refine Zn.icmp (c := .ge) (off := 29) 38 (by decide +kernel) rfl ⟨by omega, by omega⟩ ⟨by omega, by omega⟩ (fun c_4 => absurd (show (l.length : Int) ≤ (i_1 : Int) from c_4) (by omega)) (fun c_4 => ?_)
    have c_4 : ¬ ((l.length : Int) ≤ (i_1 : Int)) := c_4
    refine Zn.seg (pc2 := 14) (ls2 := [some (za z), some (zi (m : Int)), some (zi (soN l m i_1 : Int)), some (zi (i_1 : Int))]) (st2 := [zi (i_1 : Int), zi (m : Int)]) [(12, .iload_n 1), (13, .iload_n 3)] (by decide +kernel) rfl ?_
    refine Zn.ishr (((m / 2 ^ i_1 : Nat) : Int)) (by decide +kernel) (zshr (by omega) (by omega)) ?_
    refine Zn.seg (pc2 := 16) (ls2 := [some (za z), some (zi (m : Int)), some (zi (soN l m i_1 : Int)), some (zi (i_1 : Int))]) (st2 := [zi 1, zi ((m / 2 ^ i_1 : Nat) : Int)]) [(15, .iconst 1)] (by decide +kernel) rfl ?_
    refine Zn.iand ((bt m i_1 : Int)) (by decide +kernel) (zbt (by omega)) ?_
    refine Zn.seg (pc2 := 18) (ls2 := [some (za z), some (zi (m : Int)), some (zi (soN l m i_1 : Int)), some (zi (i_1 : Int))]) (st2 := [zi 1, zi (bt m i_1 : Int)]) [(17, .iconst 1)] (by decide +kernel) rfl ?_
    refine Zn.icmp (c := .ne) (off := 14) 32 (by decide +kernel) rfl ⟨by omega, by omega⟩ ⟨by decide, by decide⟩ (fun c_5 => ?_) (fun c_5 => ?_)
    · have c_5 : (bt m i_1 : Int) ≠ 1 := c_5
      refine Zn.seg (pc2 := 4) (ls2 := [some (za z), some (zi (m : Int)), some (zi (soN l m i_1 : Int)), some (zi ((i_1 : Int) + 1))]) (st2 := []) [(32, .iinc 3 1), (35, .goto (-31))] (by decide +kernel) rfl ?_
      exact Zn.eq rfl (zcons rfl (zcons rfl (zcons (congrArg (fun z => some (zi z)) (by rw [soN]; first | (rw [if_pos (by omega)]; done) | rw [if_neg (by omega)])) (zcons (congrArg (fun z => some (zi z)) (by omega)) rfl)))) rfl (rfl) (ih_3)
    · have c_5 : ¬ ((bt m i_1 : Int) ≠ 1) := c_5
      refine Zn.seg (pc2 := 24) (ls2 := [some (za z), some (zi (m : Int)), some (zi (soN l m i_1 : Int)), some (zi (i_1 : Int))]) (st2 := [za z, zi 1, zi (soN l m i_1 : Int)]) [(21, .iload_n 2), (22, .iconst 1), (23, .aload_n 0)] (by decide +kernel) rfl ?_
      refine Zn.get (ix := 9) hD 0 (by decide +kernel) rfl rfl rfl ?_
      refine Zn.seg (pc2 := 28) (ls2 := [some (za z), some (zi (m : Int)), some (zi (soN l m i_1 : Int)), some (zi (i_1 : Int))]) (st2 := [zi (i_1 : Int), za pl, zi 1, zi (soN l m i_1 : Int)]) [(27, .iload_n 3)] (by decide +kernel) rfl ?_
      refine Zn.iald hD 1 (i_1) (by decide +kernel) rfl (by omega) (by omega) rfl ?_
      refine Zn.topi (y := (nfP l i_1 : Int)) ((hP _ (by omega)).1) ?_
      refine Zn.ishl (((2 ^ nfP l i_1 : Nat) : Int)) (by decide +kernel) (zshl1 (by omega)) ?_
      refine Zn.ior (((soN l m i_1 ||| 2 ^ nfP l i_1 : Nat) : Int)) (by decide +kernel) (zor (by omega) (by omega)) ?_
      refine Zn.seg (pc2 := 4) (ls2 := [some (za z), some (zi (m : Int)), some (zi ((soN l m i_1 ||| 2 ^ nfP l i_1 : Nat) : Int)), some (zi ((i_1 : Int) + 1))]) (st2 := []) [(31, .istore_n 2), (32, .iinc 3 1), (35, .goto (-31))] (by decide +kernel) rfl ?_
      exact Zn.eq rfl (zcons rfl (zcons rfl (zcons (congrArg (fun z => some (zi z)) (by rw [soN]; first | (rw [if_pos (by omega)]; done) | rw [if_neg (by omega)])) (zcons (congrArg (fun z => some (zi z)) (by omega)) rfl)))) rfl (rfl) (ih_3)
  · skip
    have hD : zND ([(z, .inr (2, [za pl, za sf, za wy, zi (l.length : Int)])), (pl, .inl (0, 8, .inl PL))]) := hD
    refine Zn.seg (pc2 := 6) (ls2 := [some (za z), some (zi (m : Int)), some (zi (soN l m l.length : Int)), some (zi (l.length : Int))]) (st2 := [za z, zi (l.length : Int)]) [(4, .iload_n 3), (5, .aload_n 0)] (by decide +kernel) rfl ?_
    refine Zn.get (ix := 23) hD 0 (by decide +kernel) rfl rfl rfl ?_
    refine Zn.icmp (c := .ge) (off := 29) 38 (by decide +kernel) rfl ⟨by omega, by omega⟩ ⟨by omega, by omega⟩ (fun c_6 => ?_) (fun c_6 => absurd (show (l.length : Int) ≤ (l.length : Int) from by omega) c_6)
    have c_6 : (l.length : Int) ≤ (l.length : Int) := c_6
    refine Zn.seg (pc2 := 39) (ls2 := [some (za z), some (zi (m : Int)), some (zi (soN l m l.length : Int)), some (zi (l.length : Int))]) (st2 := [zi (soN l m l.length : Int)]) [(38, .iload_n 2)] (by decide +kernel) rfl ?_
    exact Zn.iret (by decide +kernel) rfl (⟨by first | rfl | (refine congrArg some (congrArg zi ?_); first | omega | (simp_all; done) | (simp_all; omega)), hh.symm⟩)
theorem sp_X2_countWays {h : xH} {z pl sf wy : Nat} {fr : Int} {a : Nat} {SF WY : Nat → Int} (hc0 : h z = zcE (.inr (2, [za pl, za sf, za wy, zi fr]))) (hc1 : h sf = zcE (.inl (2, 256, .inl SF))) (hc2 : h wy = zcE (.inl (1, 9, .inl WY))) (hD : [z, sf, wy].Nodup) (ha : a ≤ 256) (hSF : ∀ j, j < 256 → SF j = 0 ∨ SF j = 1) : zEv k_X2_countWays [za z, zi (a : Int)] h (fun v h2 => v = none ∧ h2 = zov [(z, .inr (2, [za pl, za sf, za wy, zi fr])), (sf, .inl (2, 256, .inl SF)), (wy, .inl (1, 9, .inl (wyA WY SF a)))] h) := by
  have hh : h = zov [(z, .inr (2, [za pl, za sf, za wy, zi fr])), (sf, .inl (2, 256, .inl SF)), (wy, .inl (1, 9, .inl WY))] h := zov_self (List.forall_mem_cons.mpr ⟨hc0, List.forall_mem_cons.mpr ⟨hc1, List.forall_mem_cons.mpr ⟨hc2, fun _ q => absurd q List.not_mem_nil⟩⟩⟩)
  refine zEv.body (I := (2, xI_X2_countWays, 3, 1, 20, 0, 0, false)) (rt := none) [some (za z), some (zi (a : Int)), none] rfl rfl rfl rfl ?_
  refine Zn.eq rfl rfl rfl hh ?_
  have hD : zND ([(z, .inr (2, [za pl, za sf, za wy, zi fr])), (sf, .inl (2, 256, .inl SF)), (wy, .inl (1, 9, .inl WY))]) := hD
  refine Zn.seg (pc2 := 2) (ls2 := [some (za z), some (zi (a : Int)), some (zi 0)]) (st2 := []) [(0, .iconst 0), (1, .istore_n 2)] (by decide +kernel) rfl ?_
  refine Zn.eq (pc2 := 2) (ls2 := [some (za z), some (zi (a : Int)), some (zi (0 : Int))]) (st2 := []) (h2 := zov ([(z, .inr (2, [za pl, za sf, za wy, zi fr])), (sf, .inl (2, 256, .inl SF)), (wy, .inl (1, 9, .inl (cpF zF WY 0)))]) h) rfl rfl rfl (by rw [cpF_zero]) ?_
  have hD : zND ([(z, .inr (2, [za pl, za sf, za wy, zi fr])), (sf, .inl (2, 256, .inl SF)), (wy, .inl (1, 9, .inl (cpF zF WY 0)))]) := hD
  refine xloop (P := fun i_1 => Zn (2, xI_X2_countWays, 3, 1, 20, 0, 0, false) none 2 [some (za z), some (zi (a : Int)), some (zi (i_1 : Int))] [] (zov ([(z, .inr (2, [za pl, za sf, za wy, zi fr])), (sf, .inl (2, 256, .inl SF)), (wy, .inl (1, 9, .inl (cpF zF WY i_1)))]) h) _) (9) (fun i_1 hi_2 ih_3 => ?_) ?_
  · have hi_ : i_1 < 9 := hi_2
    have hD : zND ([(z, .inr (2, [za pl, za sf, za wy, zi fr])), (sf, .inl (2, 256, .inl SF)), (wy, .inl (1, 9, .inl (cpF zF WY i_1)))]) := hD
    refine Zn.seg (pc2 := 5) (ls2 := [some (za z), some (zi (a : Int)), some (zi (i_1 : Int))]) (st2 := [zi 8, zi (i_1 : Int)]) [(2, .iload_n 2), (3, .bipush 8)] (by decide +kernel) rfl ?_
    refine Zn.icmp (c := .gt) (off := 16) 21 (by decide +kernel) rfl ⟨by omega, by omega⟩ ⟨by decide, by decide⟩ (fun c_4 => absurd (show 8 < (i_1 : Int) from c_4) (by omega)) (fun c_4 => ?_)
    have c_4 : ¬ (8 < (i_1 : Int)) := c_4
    refine Zn.seg (pc2 := 9) (ls2 := [some (za z), some (zi (a : Int)), some (zi (i_1 : Int))]) (st2 := [za z]) [(8, .aload_n 0)] (by decide +kernel) rfl ?_
    refine Zn.get (ix := 19) hD 0 (by decide +kernel) rfl rfl rfl ?_
    refine Zn.seg (pc2 := 14) (ls2 := [some (za z), some (zi (a : Int)), some (zi (i_1 : Int))]) (st2 := [zj 0, zi (i_1 : Int), za wy]) [(12, .iload_n 2), (13, .lconst 0)] (by decide +kernel) rfl ?_
    refine Zn.last hD 2 (i_1) (by decide +kernel) rfl (by omega) (by omega) rfl ?_
    refine Zn.eq (h2 := zov ([(z, .inr (2, [za pl, za sf, za wy, zi fr])), (sf, .inl (2, 256, .inl SF)), (wy, .inl (1, 9, .inl (va_up (cpF zF WY i_1) i_1 0)))]) h) rfl rfl rfl (rfl) ?_
    have hD : zND ([(z, .inr (2, [za pl, za sf, za wy, zi fr])), (sf, .inl (2, 256, .inl SF)), (wy, .inl (1, 9, .inl (va_up (cpF zF WY i_1) i_1 0)))]) := hD
    refine Zn.seg (pc2 := 2) (ls2 := [some (za z), some (zi (a : Int)), some (zi ((i_1 : Int) + 1))]) (st2 := []) [(15, .iinc 2 1), (18, .goto (-16))] (by decide +kernel) rfl ?_
    exact Zn.eq rfl (zcons rfl (zcons rfl (zcons (congrArg (fun z => some (zi z)) (by omega)) rfl))) rfl (by rw [cpF_st (f := zF) (by rfl)]) (ih_3)
  · skip
    have hD : zND ([(z, .inr (2, [za pl, za sf, za wy, zi fr])), (sf, .inl (2, 256, .inl SF)), (wy, .inl (1, 9, .inl (cpF zF WY 9)))]) := hD
    refine Zn.seg (pc2 := 5) (ls2 := [some (za z), some (zi (a : Int)), some (zi (9 : Int))]) (st2 := [zi 8, zi (9 : Int)]) [(2, .iload_n 2), (3, .bipush 8)] (by decide +kernel) rfl ?_
    refine Zn.icmp (c := .gt) (off := 16) 21 (by decide +kernel) rfl ⟨by omega, by omega⟩ ⟨by decide, by decide⟩ (fun c_5 => ?_) (fun c_5 => absurd (show 8 < (9 : Int) from by decide) c_5)
    have c_5 : 8 < (9 : Int) := c_5
    refine Zn.seg (pc2 := 23) (ls2 := [some (za z), some (zi (a : Int)), some (zi 0)]) (st2 := []) [(21, .iconst 0), (22, .istore_n 2)] (by decide +kernel) rfl ?_
    refine Zn.eq (pc2 := 23) (ls2 := [some (za z), some (zi (a : Int)), some (zi (0 : Int))]) (st2 := []) (h2 := zov ([(z, .inr (2, [za pl, za sf, za wy, zi fr])), (sf, .inl (2, 256, .inl SF)), (wy, .inl (1, 9, .inl (wyA WY SF 0)))]) h) rfl rfl rfl (rfl) ?_
    have hD : zND ([(z, .inr (2, [za pl, za sf, za wy, zi fr])), (sf, .inl (2, 256, .inl SF)), (wy, .inl (1, 9, .inl (wyA WY SF 0)))]) := hD
    refine xloop (P := fun i_6 => Zn (2, xI_X2_countWays, 3, 1, 20, 0, 0, false) none 23 [some (za z), some (zi (a : Int)), some (zi (i_6 : Int))] [] (zov ([(z, .inr (2, [za pl, za sf, za wy, zi fr])), (sf, .inl (2, 256, .inl SF)), (wy, .inl (1, 9, .inl (wyA WY SF i_6)))]) h) _) (a) (fun i_6 hi_7 ih_8 => ?_) ?_
    · have hi_ : i_6 < a := hi_7
      have hD : zND ([(z, .inr (2, [za pl, za sf, za wy, zi fr])), (sf, .inl (2, 256, .inl SF)), (wy, .inl (1, 9, .inl (wyA WY SF i_6)))]) := hD
      have hp8 := pop8 i_6 (by omega)
      have hsf := hSF i_6 (by omega)
      refine Zn.seg (pc2 := 25) (ls2 := [some (za z), some (zi (a : Int)), some (zi (i_6 : Int))]) (st2 := [zi (a : Int), zi (i_6 : Int)]) [(23, .iload_n 2), (24, .iload_n 1)] (by decide +kernel) rfl ?_
      refine Zn.icmp (c := .ge) (off := 35) 60 (by decide +kernel) rfl ⟨by omega, by omega⟩ ⟨by omega, by omega⟩ (fun c_9 => absurd (show (a : Int) ≤ (i_6 : Int) from c_9) (by omega)) (fun c_9 => ?_)
      have c_9 : ¬ ((a : Int) ≤ (i_6 : Int)) := c_9
      refine Zn.seg (pc2 := 29) (ls2 := [some (za z), some (zi (a : Int)), some (zi (i_6 : Int))]) (st2 := [za z]) [(28, .aload_n 0)] (by decide +kernel) rfl ?_
      refine Zn.get (ix := 19) hD 0 (by decide +kernel) rfl rfl rfl ?_
      refine Zn.seg (pc2 := 33) (ls2 := [some (za z), some (zi (a : Int)), some (zi (i_6 : Int))]) (st2 := [zi (i_6 : Int), za wy]) [(32, .iload_n 2)] (by decide +kernel) rfl ?_
      refine Zn.call (ins := .invokestatic 39) [zi (i_6 : Int)] [za wy] (by decide +kernel) rfl rfl rfl ⟨rfl, rfl⟩ ⟨rfl, rfl, rfl⟩ rfl (zrecvS (by decide)) (sp_J6_bitCount_0f7a4 (n := i_6) (by omega)) (fun v h2 hp => ?_)
      obtain ⟨rfl, hq_10⟩ := hp
      refine Zn.eq (pc2 := 36) (ls2 := [some (za z), some (zi (a : Int)), some (zi (i_6 : Int))]) (st2 := [zi (pop i_6 : Int), za wy]) (h2 := zov ([(z, .inr (2, [za pl, za sf, za wy, zi fr])), (sf, .inl (2, 256, .inl SF)), (wy, .inl (1, 9, .inl (wyA WY SF i_6)))]) h) rfl rfl rfl hq_10 ?_
      have hD : zND ([(z, .inr (2, [za pl, za sf, za wy, zi fr])), (sf, .inl (2, 256, .inl SF)), (wy, .inl (1, 9, .inl (wyA WY SF i_6)))]) := hD
      have q_11 := pop_le i_6
      refine Zn.seg (pc2 := 37) (ls2 := [some (za z), some (zi (a : Int)), some (zi (i_6 : Int))]) (st2 := [zi (pop i_6 : Int), za wy, zi (pop i_6 : Int), za wy]) [(36, .dup2)] (by decide +kernel) rfl ?_
      refine Zn.lald hD 2 (pop i_6) (by decide +kernel) rfl (by omega) (by omega) rfl ?_
      refine Zn.seg (pc2 := 39) (ls2 := [some (za z), some (zi (a : Int)), some (zi (i_6 : Int))]) (st2 := [za z, zj ((wyA WY SF i_6) (pop i_6)), zi (pop i_6 : Int), za wy]) [(38, .aload_n 0)] (by decide +kernel) rfl ?_
      refine Zn.get (ix := 15) hD 0 (by decide +kernel) rfl rfl rfl ?_
      refine Zn.seg (pc2 := 43) (ls2 := [some (za z), some (zi (a : Int)), some (zi (i_6 : Int))]) (st2 := [zi (i_6 : Int), za sf, zj ((wyA WY SF i_6) (pop i_6)), zi (pop i_6 : Int), za wy]) [(42, .iload_n 2)] (by decide +kernel) rfl ?_
      refine Zn.bald hD 1 (i_6) (by decide +kernel) rfl (by omega) (by omega) rfl ?_
      refine Zn.ifc (c := .eq) (off := 7) 51 (by decide +kernel) rfl ⟨by omega, by omega⟩ (fun c_12 => ?_) (fun c_12 => ?_)
      · have c_12 : SF i_6 = 0 := c_12
        refine Zn.seg (pc2 := 53) (ls2 := [some (za z), some (zi (a : Int)), some (zi (i_6 : Int))]) (st2 := [zj ((wyA WY SF i_6) (pop i_6) + 0), zi (pop i_6 : Int), za wy]) [(51, .lconst 0), (52, .ladd)] (by decide +kernel) rfl ?_
        refine Zn.last hD 2 (pop i_6) (by decide +kernel) rfl (by omega) (by omega) rfl ?_
        refine Zn.eq (h2 := zov ([(z, .inr (2, [za pl, za sf, za wy, zi fr])), (sf, .inl (2, 256, .inl SF)), (wy, .inl (1, 9, .inl (va_up (wyA WY SF i_6) (pop i_6) ((wyA WY SF i_6) (pop i_6) + 0))))]) h) rfl rfl rfl (rfl) ?_
        have hD : zND ([(z, .inr (2, [za pl, za sf, za wy, zi fr])), (sf, .inl (2, 256, .inl SF)), (wy, .inl (1, 9, .inl (va_up (wyA WY SF i_6) (pop i_6) ((wyA WY SF i_6) (pop i_6) + 0))))]) := hD
        refine Zn.seg (pc2 := 23) (ls2 := [some (za z), some (zi (a : Int)), some (zi ((i_6 : Int) + 1))]) (st2 := []) [(54, .iinc 2 1), (57, .goto (-34))] (by decide +kernel) rfl ?_
        exact Zn.eq rfl (zcons rfl (zcons rfl (zcons (congrArg (fun z => some (zi z)) (by omega)) rfl))) rfl (by rw [wyA]; first | (rw [if_pos (by omega)]; done) | rw [if_neg (by omega)]) (ih_8)
      · have c_12 : ¬ (SF i_6 = 0) := c_12
        refine Zn.seg (pc2 := 53) (ls2 := [some (za z), some (zi (a : Int)), some (zi (i_6 : Int))]) (st2 := [zj ((wyA WY SF i_6) (pop i_6) + 1), zi (pop i_6 : Int), za wy]) [(47, .lconst 1), (48, .goto 4), (52, .ladd)] (by decide +kernel) rfl ?_
        refine Zn.last hD 2 (pop i_6) (by decide +kernel) rfl (by omega) (by omega) rfl ?_
        refine Zn.eq (h2 := zov ([(z, .inr (2, [za pl, za sf, za wy, zi fr])), (sf, .inl (2, 256, .inl SF)), (wy, .inl (1, 9, .inl (va_up (wyA WY SF i_6) (pop i_6) ((wyA WY SF i_6) (pop i_6) + 1))))]) h) rfl rfl rfl (rfl) ?_
        have hD : zND ([(z, .inr (2, [za pl, za sf, za wy, zi fr])), (sf, .inl (2, 256, .inl SF)), (wy, .inl (1, 9, .inl (va_up (wyA WY SF i_6) (pop i_6) ((wyA WY SF i_6) (pop i_6) + 1))))]) := hD
        refine Zn.seg (pc2 := 23) (ls2 := [some (za z), some (zi (a : Int)), some (zi ((i_6 : Int) + 1))]) (st2 := []) [(54, .iinc 2 1), (57, .goto (-34))] (by decide +kernel) rfl ?_
        exact Zn.eq rfl (zcons rfl (zcons rfl (zcons (congrArg (fun z => some (zi z)) (by omega)) rfl))) rfl (by rw [wyA]; first | (rw [if_pos (by omega)]; done) | rw [if_neg (by omega)]) (ih_8)
    · skip
      have hD : zND ([(z, .inr (2, [za pl, za sf, za wy, zi fr])), (sf, .inl (2, 256, .inl SF)), (wy, .inl (1, 9, .inl (wyA WY SF a)))]) := hD
      refine Zn.seg (pc2 := 25) (ls2 := [some (za z), some (zi (a : Int)), some (zi (a : Int))]) (st2 := [zi (a : Int), zi (a : Int)]) [(23, .iload_n 2), (24, .iload_n 1)] (by decide +kernel) rfl ?_
      refine Zn.icmp (c := .ge) (off := 35) 60 (by decide +kernel) rfl ⟨by omega, by omega⟩ ⟨by omega, by omega⟩ (fun c_13 => ?_) (fun c_13 => absurd (show (a : Int) ≤ (a : Int) from by omega) c_13)
      have c_13 : (a : Int) ≤ (a : Int) := c_13
      exact Zn.vret (by decide +kernel) rfl (⟨rfl, rfl⟩)
theorem sp_X2_above {h : xH} {z pl sf wy : Nat} {f : Nat} {c : Int} {WY : Nat → Int} (hc0 : h z = zcE (.inr (2, [za pl, za sf, za wy, zi (f : Int)]))) (hc1 : h wy = zcE (.inl (1, 9, .inl WY))) (hD : [z, wy].Nodup) (hf : f ≤ 8) (hc : 0 ≤ c ∧ c ≤ 10) : zEv k_X2_above [za z, zi c] h (fun v h2 => v = some (zj (abN WY c f (f + 1))) ∧ h2 = h) := by
  have hh : h = zov [(z, .inr (2, [za pl, za sf, za wy, zi (f : Int)])), (wy, .inl (1, 9, .inl WY))] h := zov_self (List.forall_mem_cons.mpr ⟨hc0, List.forall_mem_cons.mpr ⟨hc1, fun _ q => absurd q List.not_mem_nil⟩⟩)
  refine zEv.body (I := (2, xI_X2_above, 5, 1, 24, 0, 0, false)) (rt := (some .long)) [some (za z), some (zi c), none, none, none] rfl rfl rfl rfl ?_
  refine Zn.eq rfl rfl rfl hh ?_
  have hD : zND ([(z, .inr (2, [za pl, za sf, za wy, zi (f : Int)])), (wy, .inl (1, 9, .inl WY))]) := hD
  refine Zn.seg (pc2 := 5) (ls2 := [some (za z), some (zi c), some (zj 0), none, some (zi 0)]) (st2 := []) [(0, .lconst 0), (1, .lstore_n 2), (2, .iconst 0), (3, .istore 4)] (by decide +kernel) rfl ?_
  refine Zn.eq (pc2 := 5) (ls2 := [some (za z), some (zi c), some (zj (abN WY c f 0)), none, some (zi (0 : Int))]) (st2 := []) (h2 := zov ([(z, .inr (2, [za pl, za sf, za wy, zi (f : Int)])), (wy, .inl (1, 9, .inl WY))]) h) rfl rfl rfl (rfl) ?_
  have hD : zND ([(z, .inr (2, [za pl, za sf, za wy, zi (f : Int)])), (wy, .inl (1, 9, .inl WY))]) := hD
  refine xloop (P := fun i_1 => Zn (2, xI_X2_above, 5, 1, 24, 0, 0, false) (some .long) 5 [some (za z), some (zi c), some (zj (abN WY c f i_1)), none, some (zi (i_1 : Int))] [] (zov ([(z, .inr (2, [za pl, za sf, za wy, zi (f : Int)])), (wy, .inl (1, 9, .inl WY))]) h) _) ((f + 1)) (fun i_1 hi_3 ih_4 => ?_) ?_
  · have hi_ : i_1 < (f + 1) := hi_3
    have hD : zND ([(z, .inr (2, [za pl, za sf, za wy, zi (f : Int)])), (wy, .inl (1, 9, .inl WY))]) := hD
    refine Zn.seg (pc2 := 8) (ls2 := [some (za z), some (zi c), some (zj (abN WY c f i_1)), none, some (zi (i_1 : Int))]) (st2 := [za z, zi (i_1 : Int)]) [(5, .iload 4), (7, .aload_n 0)] (by decide +kernel) rfl ?_
    refine Zn.get (ix := 23) hD 0 (by decide +kernel) rfl rfl rfl ?_
    refine Zn.icmp (c := .gt) (off := 41) 52 (by decide +kernel) rfl ⟨by omega, by omega⟩ ⟨by omega, by omega⟩ (fun c_5 => absurd (show (f : Int) < (i_1 : Int) from c_5) (by omega)) (fun c_5 => ?_)
    have c_5 : ¬ ((f : Int) < (i_1 : Int)) := c_5
    refine Zn.seg (pc2 := 16) (ls2 := [some (za z), some (zi c), some (zj (abN WY c f i_1)), none, some (zi (i_1 : Int))]) (st2 := [za z, zj (abN WY c f i_1)]) [(14, .lload_n 2), (15, .aload_n 0)] (by decide +kernel) rfl ?_
    refine Zn.get (ix := 19) hD 0 (by decide +kernel) rfl rfl rfl ?_
    refine Zn.seg (pc2 := 21) (ls2 := [some (za z), some (zi c), some (zj (abN WY c f i_1)), none, some (zi (i_1 : Int))]) (st2 := [zi (i_1 : Int), za wy, zj (abN WY c f i_1)]) [(19, .iload 4)] (by decide +kernel) rfl ?_
    refine Zn.lald hD 1 (i_1) (by decide +kernel) rfl (by omega) (by omega) rfl ?_
    refine Zn.seg (pc2 := 28) (ls2 := [some (za z), some (zi c), some (zj (abN WY c f i_1)), none, some (zi (i_1 : Int))]) (st2 := [zi (i_1 : Int), zi (10 - c), zj (WY i_1), zj (abN WY c f i_1)]) [(22, .bipush 10), (24, .iload_n 1), (25, .isub), (26, .iload 4)] (by decide +kernel) rfl ?_
    refine Zn.call (ins := .invokestatic 67) [zi (10 - c), zi (i_1 : Int)] [zj (WY i_1), zj (abN WY c f i_1)] (by decide +kernel) rfl rfl rfl ⟨rfl, rfl⟩ ⟨rfl, rfl, rfl⟩ rfl (zrecvS (by decide)) (sp_X2_power (b := 10 - c) (n := i_1) (⟨by omega, by omega⟩) (by omega)) (fun v h2 hp => ?_)
    obtain ⟨rfl, hq_6⟩ := hp
    refine Zn.eq (pc2 := 31) (ls2 := [some (za z), some (zi c), some (zj (abN WY c f i_1)), none, some (zi (i_1 : Int))]) (st2 := [zj (pwZ (10 - c) i_1), zj (WY i_1), zj (abN WY c f i_1)]) (h2 := zov ([(z, .inr (2, [za pl, za sf, za wy, zi (f : Int)])), (wy, .inl (1, 9, .inl WY))]) h) rfl rfl rfl hq_6 ?_
    have hD : zND ([(z, .inr (2, [za pl, za sf, za wy, zi (f : Int)])), (wy, .inl (1, 9, .inl WY))]) := hD
    refine Zn.seg (pc2 := 34) (ls2 := [some (za z), some (zi c), some (zj (abN WY c f i_1)), none, some (zi (i_1 : Int))]) (st2 := [za z, zi c, zj ((WY i_1) * (pwZ (10 - c) i_1)), zj (abN WY c f i_1)]) [(31, .lmul), (32, .iload_n 1), (33, .aload_n 0)] (by decide +kernel) rfl ?_
    refine Zn.get (ix := 23) hD 0 (by decide +kernel) rfl rfl rfl ?_
    refine Zn.seg (pc2 := 40) (ls2 := [some (za z), some (zi c), some (zj (abN WY c f i_1)), none, some (zi (i_1 : Int))]) (st2 := [zi ((f : Int) - (i_1 : Int)), zi c, zj ((WY i_1) * (pwZ (10 - c) i_1)), zj (abN WY c f i_1)]) [(37, .iload 4), (39, .isub)] (by decide +kernel) rfl ?_
    refine Zn.topi (y := ((f - i_1 : Nat) : Int)) (by omega) ?_
    refine Zn.call (ins := .invokestatic 67) [zi c, zi ((f - i_1 : Nat) : Int)] [zj ((WY i_1) * (pwZ (10 - c) i_1)), zj (abN WY c f i_1)] (by decide +kernel) rfl rfl rfl ⟨rfl, rfl⟩ ⟨rfl, rfl, rfl⟩ rfl (zrecvS (by decide)) (sp_X2_power (b := c) (n := (f - i_1)) (⟨by omega, by omega⟩) (by omega)) (fun v h2 hp => ?_)
    obtain ⟨rfl, hq_7⟩ := hp
    refine Zn.eq (pc2 := 43) (ls2 := [some (za z), some (zi c), some (zj (abN WY c f i_1)), none, some (zi (i_1 : Int))]) (st2 := [zj (pwZ c (f - i_1)), zj ((WY i_1) * (pwZ (10 - c) i_1)), zj (abN WY c f i_1)]) (h2 := zov ([(z, .inr (2, [za pl, za sf, za wy, zi (f : Int)])), (wy, .inl (1, 9, .inl WY))]) h) rfl rfl rfl hq_7 ?_
    have hD : zND ([(z, .inr (2, [za pl, za sf, za wy, zi (f : Int)])), (wy, .inl (1, 9, .inl WY))]) := hD
    refine Zn.seg (pc2 := 5) (ls2 := [some (za z), some (zi c), some (zj (abN WY c f i_1 + (((WY i_1) * (pwZ (10 - c) i_1)) * (pwZ c (f - i_1))))), none, some (zi ((i_1 : Int) + 1))]) (st2 := []) [(43, .lmul), (44, .ladd), (45, .lstore_n 2), (46, .iinc 4 1), (49, .goto (-44))] (by decide +kernel) rfl ?_
    exact Zn.eq rfl (zcons rfl (zcons rfl (zcons rfl (zcons rfl (zcons (congrArg (fun z => some (zi z)) (by omega)) rfl))))) rfl (rfl) (ih_4)
  · skip
    have hD : zND ([(z, .inr (2, [za pl, za sf, za wy, zi (f : Int)])), (wy, .inl (1, 9, .inl WY))]) := hD
    refine Zn.seg (pc2 := 8) (ls2 := [some (za z), some (zi c), some (zj (abN WY c f (f + 1))), none, some (zi ((f + 1) : Int))]) (st2 := [za z, zi ((f + 1) : Int)]) [(5, .iload 4), (7, .aload_n 0)] (by decide +kernel) rfl ?_
    refine Zn.get (ix := 23) hD 0 (by decide +kernel) rfl rfl rfl ?_
    refine Zn.icmp (c := .gt) (off := 41) 52 (by decide +kernel) rfl ⟨by omega, by omega⟩ ⟨by omega, by omega⟩ (fun c_8 => ?_) (fun c_8 => absurd (show (f : Int) < ((f + 1) : Int) from by omega) c_8)
    have c_8 : (f : Int) < ((f + 1) : Int) := c_8
    refine Zn.seg (pc2 := 53) (ls2 := [some (za z), some (zi c), some (zj (abN WY c f (f + 1))), none, some (zi ((f + 1) : Int))]) (st2 := [zj (abN WY c f (f + 1))]) [(52, .lload_n 2)] (by decide +kernel) rfl ?_
    exact Zn.lret (by decide +kernel) rfl (⟨by first | rfl | (refine congrArg some (congrArg zj ?_); first | omega | (simp_all; done) | (simp_all; omega)), hh.symm⟩)
theorem sp_X2_spreadSafety {h : xH} {z pl sf wy : Nat} {a f : Nat} {SF : Nat → Int} (hc0 : h z = zcE (.inr (2, [za pl, za sf, za wy, zi (f : Int)]))) (hc1 : h sf = zcE (.inl (2, 256, .inl SF))) (hD : [z, sf].Nodup) (hf : f ≤ 8) (ha : a = 2 ^ f) (ha2 : a ≤ 256) (hSF : ∀ j, j < 256 → SF j = 0 ∨ SF j = 1) : zEv k_X2_spreadSafety [za z, zi (a : Int)] h (fun v h2 => v = none ∧ h2 = zov [(z, .inr (2, [za pl, za sf, za wy, zi (f : Int)])), (sf, .inl (2, 256, .inl (spA SF a f)))] h) := by
  have hh : h = zov [(z, .inr (2, [za pl, za sf, za wy, zi (f : Int)])), (sf, .inl (2, 256, .inl SF))] h := zov_self (List.forall_mem_cons.mpr ⟨hc0, List.forall_mem_cons.mpr ⟨hc1, fun _ q => absurd q List.not_mem_nil⟩⟩)
  refine zEv.body (I := (2, xI_X2_spreadSafety, 4, 0, 0, 0, 0, false)) (rt := none) [some (za z), some (zi (a : Int)), none, none] rfl rfl rfl rfl ?_
  refine Zn.eq rfl rfl rfl hh ?_
  have hD : zND ([(z, .inr (2, [za pl, za sf, za wy, zi (f : Int)])), (sf, .inl (2, 256, .inl SF))]) := hD
  refine Zn.seg (pc2 := 2) (ls2 := [some (za z), some (zi (a : Int)), some (zi 0), none]) (st2 := []) [(0, .iconst 0), (1, .istore_n 2)] (by decide +kernel) rfl ?_
  refine Zn.eq (pc2 := 2) (ls2 := [some (za z), some (zi (a : Int)), some (zi (0 : Int)), none]) (st2 := []) (h2 := zov ([(z, .inr (2, [za pl, za sf, za wy, zi (f : Int)])), (sf, .inl (2, 256, .inl (spA SF a 0)))]) h) rfl rfl rfl (rfl) ?_
  have hD : zND ([(z, .inr (2, [za pl, za sf, za wy, zi (f : Int)])), (sf, .inl (2, 256, .inl (spA SF a 0)))]) := hD
  refine xloop (P := fun i_1 => ∀ j_2 : Option zV, Zn (2, xI_X2_spreadSafety, 4, 0, 0, 0, 0, false) none 2 [some (za z), some (zi (a : Int)), some (zi (i_1 : Int)), j_2] [] (zov ([(z, .inr (2, [za pl, za sf, za wy, zi (f : Int)])), (sf, .inl (2, 256, .inl (spA SF a i_1)))]) h) _) (f) (fun i_1 hi_3 ih_4 j_2 => ?_) (fun j_2 => ?_) none
  · have hi_ : i_1 < f := hi_3
    have hD : zND ([(z, .inr (2, [za pl, za sf, za wy, zi (f : Int)])), (sf, .inl (2, 256, .inl (spA SF a i_1)))]) := hD
    refine Zn.seg (pc2 := 4) (ls2 := [some (za z), some (zi (a : Int)), some (zi (i_1 : Int)), j_2]) (st2 := [za z, zi (i_1 : Int)]) [(2, .iload_n 2), (3, .aload_n 0)] (by decide +kernel) rfl ?_
    refine Zn.get (ix := 23) hD 0 (by decide +kernel) rfl rfl rfl ?_
    refine Zn.icmp (c := .ge) (off := 51) 58 (by decide +kernel) rfl ⟨by omega, by omega⟩ ⟨by omega, by omega⟩ (fun c_5 => absurd (show (f : Int) ≤ (i_1 : Int) from c_5) (by omega)) (fun c_5 => ?_)
    have c_5 : ¬ ((f : Int) ≤ (i_1 : Int)) := c_5
    refine Zn.seg (pc2 := 12) (ls2 := [some (za z), some (zi (a : Int)), some (zi (i_1 : Int)), some (zi 0)]) (st2 := []) [(10, .iconst 0), (11, .istore_n 3)] (by decide +kernel) rfl ?_
    refine Zn.eq (pc2 := 12) (ls2 := [some (za z), some (zi (a : Int)), some (zi (i_1 : Int)), some (zi (0 : Int))]) (st2 := []) (h2 := zov ([(z, .inr (2, [za pl, za sf, za wy, zi (f : Int)])), (sf, .inl (2, 256, .inl (spI (spA SF a i_1) i_1 0)))]) h) rfl rfl rfl (rfl) ?_
    have hD : zND ([(z, .inr (2, [za pl, za sf, za wy, zi (f : Int)])), (sf, .inl (2, 256, .inl (spI (spA SF a i_1) i_1 0)))]) := hD
    refine xloop (P := fun i_6 => Zn (2, xI_X2_spreadSafety, 4, 0, 0, 0, 0, false) none 12 [some (za z), some (zi (a : Int)), some (zi (i_1 : Int)), some (zi (i_6 : Int))] [] (zov ([(z, .inr (2, [za pl, za sf, za wy, zi (f : Int)])), (sf, .inl (2, 256, .inl (spI (spA SF a i_1) i_1 i_6)))]) h) _) (a) (fun i_6 hi_7 ih_8 => ?_) ?_
    · have hi_ : i_6 < a := hi_7
      have hD : zND ([(z, .inr (2, [za pl, za sf, za wy, zi (f : Int)])), (sf, .inl (2, 256, .inl (spI (spA SF a i_1) i_1 i_6)))]) := hD
      have hbl := bt_lt i_6 i_1
      have hsp := spI_b (spA_b hSF a i_1) i_1 i_6 (i_6 ^^^ 2 ^ i_1) (by have := xor8 ha (show i_6 < a by omega) (show i_1 < f by omega); omega)
      refine Zn.seg (pc2 := 14) (ls2 := [some (za z), some (zi (a : Int)), some (zi (i_1 : Int)), some (zi (i_6 : Int))]) (st2 := [zi (a : Int), zi (i_6 : Int)]) [(12, .iload_n 3), (13, .iload_n 1)] (by decide +kernel) rfl ?_
      refine Zn.icmp (c := .ge) (off := 38) 52 (by decide +kernel) rfl ⟨by omega, by omega⟩ ⟨by omega, by omega⟩ (fun c_9 => absurd (show (a : Int) ≤ (i_6 : Int) from c_9) (by omega)) (fun c_9 => ?_)
      have c_9 : ¬ ((a : Int) ≤ (i_6 : Int)) := c_9
      refine Zn.seg (pc2 := 19) (ls2 := [some (za z), some (zi (a : Int)), some (zi (i_1 : Int)), some (zi (i_6 : Int))]) (st2 := [zi (i_1 : Int), zi (i_6 : Int)]) [(17, .iload_n 3), (18, .iload_n 2)] (by decide +kernel) rfl ?_
      refine Zn.ishr (((i_6 / 2 ^ i_1 : Nat) : Int)) (by decide +kernel) (zshr (by omega) (by omega)) ?_
      refine Zn.seg (pc2 := 21) (ls2 := [some (za z), some (zi (a : Int)), some (zi (i_1 : Int)), some (zi (i_6 : Int))]) (st2 := [zi 1, zi ((i_6 / 2 ^ i_1 : Nat) : Int)]) [(20, .iconst 1)] (by decide +kernel) rfl ?_
      refine Zn.iand ((bt i_6 i_1 : Int)) (by decide +kernel) (zbt (by omega)) ?_
      refine Zn.seg (pc2 := 23) (ls2 := [some (za z), some (zi (a : Int)), some (zi (i_1 : Int)), some (zi (i_6 : Int))]) (st2 := [zi 1, zi (bt i_6 i_1 : Int)]) [(22, .iconst 1)] (by decide +kernel) rfl ?_
      refine Zn.icmp (c := .ne) (off := 23) 46 (by decide +kernel) rfl ⟨by omega, by omega⟩ ⟨by decide, by decide⟩ (fun c_10 => ?_) (fun c_10 => ?_)
      · have c_10 : (bt i_6 i_1 : Int) ≠ 1 := c_10
        refine Zn.seg (pc2 := 12) (ls2 := [some (za z), some (zi (a : Int)), some (zi (i_1 : Int)), some (zi ((i_6 : Int) + 1))]) (st2 := []) [(46, .iinc 3 1), (49, .goto (-37))] (by decide +kernel) rfl ?_
        exact Zn.eq rfl (zcons rfl (zcons rfl (zcons rfl (zcons (congrArg (fun z => some (zi z)) (by omega)) rfl)))) rfl (by rw [spI]; first | (rw [if_pos ⟨by omega, by omega⟩]; done) | rw [if_neg (fun q_ => by omega)]) (ih_8)
      · have c_10 : ¬ ((bt i_6 i_1 : Int) ≠ 1) := c_10
        refine Zn.seg (pc2 := 27) (ls2 := [some (za z), some (zi (a : Int)), some (zi (i_1 : Int)), some (zi (i_6 : Int))]) (st2 := [za z]) [(26, .aload_n 0)] (by decide +kernel) rfl ?_
        refine Zn.get (ix := 15) hD 0 (by decide +kernel) rfl rfl rfl ?_
        refine Zn.seg (pc2 := 33) (ls2 := [some (za z), some (zi (a : Int)), some (zi (i_1 : Int)), some (zi (i_6 : Int))]) (st2 := [zi (i_1 : Int), zi 1, zi (i_6 : Int), za sf]) [(30, .iload_n 3), (31, .iconst 1), (32, .iload_n 2)] (by decide +kernel) rfl ?_
        refine Zn.ishl (((2 ^ i_1 : Nat) : Int)) (by decide +kernel) (zshl1 (by omega)) ?_
        refine Zn.ixor (((i_6 ^^^ 2 ^ i_1 : Nat) : Int)) (by decide +kernel) (zxor (by omega) (by have := pw_lt (p := i_1) (by omega); omega)) ?_
        refine Zn.bald hD 1 ((i_6 ^^^ 2 ^ i_1)) (by decide +kernel) rfl (rfl) (by have := xor8 ha (show i_6 < a by omega) (show i_1 < f by omega); omega) rfl ?_
        refine Zn.ifc (c := .eq) (off := 10) 46 (by decide +kernel) rfl ⟨by omega, by omega⟩ (fun c_11 => ?_) (fun c_11 => ?_)
        · have c_11 : (spI (spA SF a i_1) i_1 i_6) (i_6 ^^^ 2 ^ i_1) = 0 := c_11
          refine Zn.seg (pc2 := 12) (ls2 := [some (za z), some (zi (a : Int)), some (zi (i_1 : Int)), some (zi ((i_6 : Int) + 1))]) (st2 := []) [(46, .iinc 3 1), (49, .goto (-37))] (by decide +kernel) rfl ?_
          exact Zn.eq rfl (zcons rfl (zcons rfl (zcons rfl (zcons (congrArg (fun z => some (zi z)) (by omega)) rfl)))) rfl (by rw [spI]; first | (rw [if_pos ⟨by omega, by omega⟩]; done) | rw [if_neg (fun q_ => by omega)]) (ih_8)
        · have c_11 : ¬ ((spI (spA SF a i_1) i_1 i_6) (i_6 ^^^ 2 ^ i_1) = 0) := c_11
          refine Zn.seg (pc2 := 40) (ls2 := [some (za z), some (zi (a : Int)), some (zi (i_1 : Int)), some (zi (i_6 : Int))]) (st2 := [za z]) [(39, .aload_n 0)] (by decide +kernel) rfl ?_
          refine Zn.get (ix := 15) hD 0 (by decide +kernel) rfl rfl rfl ?_
          refine Zn.seg (pc2 := 45) (ls2 := [some (za z), some (zi (a : Int)), some (zi (i_1 : Int)), some (zi (i_6 : Int))]) (st2 := [zi 1, zi (i_6 : Int), za sf]) [(43, .iload_n 3), (44, .iconst 1)] (by decide +kernel) rfl ?_
          refine Zn.bast hD 1 (i_6) (by decide +kernel) rfl (by decide) (by omega) (by omega) rfl ?_
          refine Zn.eq (h2 := zov ([(z, .inr (2, [za pl, za sf, za wy, zi (f : Int)])), (sf, .inl (2, 256, .inl (va_up (spI (spA SF a i_1) i_1 i_6) i_6 1)))]) h) rfl rfl rfl (rfl) ?_
          have hD : zND ([(z, .inr (2, [za pl, za sf, za wy, zi (f : Int)])), (sf, .inl (2, 256, .inl (va_up (spI (spA SF a i_1) i_1 i_6) i_6 1)))]) := hD
          refine Zn.seg (pc2 := 12) (ls2 := [some (za z), some (zi (a : Int)), some (zi (i_1 : Int)), some (zi ((i_6 : Int) + 1))]) (st2 := []) [(46, .iinc 3 1), (49, .goto (-37))] (by decide +kernel) rfl ?_
          exact Zn.eq rfl (zcons rfl (zcons rfl (zcons rfl (zcons (congrArg (fun z => some (zi z)) (by omega)) rfl)))) rfl (by rw [spI]; first | (rw [if_pos ⟨by omega, by omega⟩]; done) | rw [if_neg (fun q_ => by omega)]) (ih_8)
    · skip
      have hD : zND ([(z, .inr (2, [za pl, za sf, za wy, zi (f : Int)])), (sf, .inl (2, 256, .inl (spI (spA SF a i_1) i_1 a)))]) := hD
      refine Zn.seg (pc2 := 14) (ls2 := [some (za z), some (zi (a : Int)), some (zi (i_1 : Int)), some (zi (a : Int))]) (st2 := [zi (a : Int), zi (a : Int)]) [(12, .iload_n 3), (13, .iload_n 1)] (by decide +kernel) rfl ?_
      refine Zn.icmp (c := .ge) (off := 38) 52 (by decide +kernel) rfl ⟨by omega, by omega⟩ ⟨by omega, by omega⟩ (fun c_12 => ?_) (fun c_12 => absurd (show (a : Int) ≤ (a : Int) from by omega) c_12)
      have c_12 : (a : Int) ≤ (a : Int) := c_12
      refine Zn.seg (pc2 := 2) (ls2 := [some (za z), some (zi (a : Int)), some (zi ((i_1 : Int) + 1)), some (zi (a : Int))]) (st2 := []) [(52, .iinc 2 1), (55, .goto (-53))] (by decide +kernel) rfl ?_
      exact Zn.eq rfl (zcons rfl (zcons rfl (zcons (congrArg (fun z => some (zi z)) (by omega)) rfl))) rfl (rfl) (ih_4 (some (zi (a : Int))))
  · skip
    have hD : zND ([(z, .inr (2, [za pl, za sf, za wy, zi (f : Int)])), (sf, .inl (2, 256, .inl (spA SF a f)))]) := hD
    refine Zn.seg (pc2 := 4) (ls2 := [some (za z), some (zi (a : Int)), some (zi (f : Int)), j_2]) (st2 := [za z, zi (f : Int)]) [(2, .iload_n 2), (3, .aload_n 0)] (by decide +kernel) rfl ?_
    refine Zn.get (ix := 23) hD 0 (by decide +kernel) rfl rfl rfl ?_
    refine Zn.icmp (c := .ge) (off := 51) 58 (by decide +kernel) rfl ⟨by omega, by omega⟩ ⟨by omega, by omega⟩ (fun c_13 => ?_) (fun c_13 => absurd (show (f : Int) ≤ (f : Int) from by omega) c_13)
    have c_13 : (f : Int) ≤ (f : Int) := c_13
    exact Zn.vret (by decide +kernel) rfl (⟨rfl, rfl⟩)
set_option maxHeartbeats 4000000 in
set_option maxRecDepth 20000 in
theorem sp_X2_mark {h : xH} {z pl sf wy : Nat} {fr : Int} {o xa wa ba pa : Nat} {nd sc be up dn ln : Int} {p ya qa th fx d w : Nat} {up0 dn0 : Int} {l : List Nat} {a : Nat} {PL SF WY F W Y Q : Nat → Int} (hc0 : h z = zcE (.inr (2, [za pl, za sf, za wy, zi fr]))) (hc1 : h pl = zcE (.inl (0, 8, .inl PL))) (hc2 : h sf = zcE (.inl (2, 256, .inl SF))) (hc3 : h wy = zcE (.inl (1, 9, .inl WY))) (hc4 : h o = zcE (.inr (1, [za xa, za wa, za ba, zi nd, zj sc, za pa, zj be, zj up, zj dn, zi ln]))) (hc5 : h xa = zcE (.inl (0, 5, .inl F))) (hc6 : h wa = zcE (.inl (1, 5, .inl W))) (hc7 : h p = zcE (.inr (4, [za ya, za qa, zi (th : Int), zi (fx : Int), zi (d : Int), zi (w : Int)]))) (hc8 : h ya = zcE (.inl (0, 13, .inl Y))) (hc9 : h qa = zcE (.inl (0, 3, .inl Q))) (hD : [z, pl, sf, wy, o, xa, wa, p, ya, qa].Nodup) (hth : th < 8192) (hfx : fx < 8192) (hd : d ≤ 3) (ha : a = 2 ^ l.length) (hLl : l = plB (bB (bdiff th fx)) 13) (hl : l.length ≤ 8) (hSF : ∀ j, j < 256 → SF j = 0 ∨ SF j = 1) (hY : ∀ k : Nat, k < 13 → zInI (Y k)) (hq : ∀ k : Nat, k < 13 → zInI (qv Q ((k : Int) - 6))) (hu0 : 0 ≤ up0 ∧ up0 ≤ 9223372036854775807) (hd0 : 0 ≤ dn0 ∧ dn0 ≤ 9223372036854775807) (hso : ∀ m, m < a → (pop m : Int) = (d : Int) + 2 - (pop fx : Int) → soN l m l.length < 8192 ∧ cSO fx Y Q (soN l m l.length) ∧ zInL (cU fx Y Q (soN l m l.length)) ∧ zInL (cD fx Y Q (soN l m l.length))) : zEv k_X2_mark [za z, za p, za o, zj up0, zj dn0] h (fun v h2 => ∃ nd2 : Int, ∃ sc2 : Int, ∃ up2 : Int, ∃ dn2 : Int, ∃ ln2 : Int, ∃ F2 : Nat → Int, ∃ W2 : Nat → Int, v = none ∧ h2 = zov [(z, .inr (2, [za pl, za sf, za wy, zi (l.length : Int)])), (pl, .inl (0, 8, .inl (arL (l.map nPl) PL))), (sf, .inl (2, 256, .inl (spA (cpF (msF fx Y Q l up0 dn0 ((d : Int) + 2 - (pop fx : Int))) SF a) a l.length))), (wy, .inl (1, 9, .inl (wyA WY (spA (cpF (msF fx Y Q l up0 dn0 ((d : Int) + 2 - (pop fx : Int))) SF a) a l.length) a))), (o, .inr (1, [za xa, za wa, za ba, zi nd2, zj sc2, za pa, zj be, zj up2, zj dn2, zi ln2])), (xa, .inl (0, 5, .inl F2)), (wa, .inl (1, 5, .inl W2)), (p, .inr (4, [za ya, za qa, zi (th : Int), zi (fx : Int), zi (d : Int), zi (w : Int)])), (ya, .inl (0, 13, .inl Y)), (qa, .inl (0, 3, .inl Q))] h) := by
  have hh : h = zov [(z, .inr (2, [za pl, za sf, za wy, zi fr])), (pl, .inl (0, 8, .inl PL)), (sf, .inl (2, 256, .inl SF)), (wy, .inl (1, 9, .inl WY)), (o, .inr (1, [za xa, za wa, za ba, zi nd, zj sc, za pa, zj be, zj up, zj dn, zi ln])), (xa, .inl (0, 5, .inl F)), (wa, .inl (1, 5, .inl W)), (p, .inr (4, [za ya, za qa, zi (th : Int), zi (fx : Int), zi (d : Int), zi (w : Int)])), (ya, .inl (0, 13, .inl Y)), (qa, .inl (0, 3, .inl Q))] h := zov_self (List.forall_mem_cons.mpr ⟨hc0, List.forall_mem_cons.mpr ⟨hc1, List.forall_mem_cons.mpr ⟨hc2, List.forall_mem_cons.mpr ⟨hc3, List.forall_mem_cons.mpr ⟨hc4, List.forall_mem_cons.mpr ⟨hc5, List.forall_mem_cons.mpr ⟨hc6, List.forall_mem_cons.mpr ⟨hc7, List.forall_mem_cons.mpr ⟨hc8, List.forall_mem_cons.mpr ⟨hc9, fun _ q => absurd q List.not_mem_nil⟩⟩⟩⟩⟩⟩⟩⟩⟩⟩)
  have h256 : a ≤ 256 := by rw [ha]; exact pw8 hl
  have hPl : ∀ j, j < l.length → arL (l.map nPl) PL j = (nfP l j : Int) ∧ nfP l j < 13 := fun j hj => ⟨arL_m (F := nPl) hj, nfP_lt hLl hj⟩
  have hpf := pop_le fx
  have msF_b := msF_bb (n := a) hSF (msF_c fx Y Q l up0 dn0 ((d : Int) + 2 - (pop fx : Int)))
  refine zEv.body (I := (2, xI_X2_mark, 10, 4, 107, 0, 0, false)) (rt := none) [some (za z), some (za p), some (za o), some (zj up0), none, some (zj dn0), none, none, none, none] rfl rfl rfl rfl ?_
  refine Zn.eq rfl rfl rfl hh ?_
  have hD : zND ([(z, .inr (2, [za pl, za sf, za wy, zi fr])), (pl, .inl (0, 8, .inl PL)), (sf, .inl (2, 256, .inl SF)), (wy, .inl (1, 9, .inl WY)), (o, .inr (1, [za xa, za wa, za ba, zi nd, zj sc, za pa, zj be, zj up, zj dn, zi ln])), (xa, .inl (0, 5, .inl F)), (wa, .inl (1, 5, .inl W)), (p, .inr (4, [za ya, za qa, zi (th : Int), zi (fx : Int), zi (d : Int), zi (w : Int)])), (ya, .inl (0, 13, .inl Y)), (qa, .inl (0, 3, .inl Q))]) := hD
  refine Zn.seg (pc2 := 2) (ls2 := [some (za z), some (za p), some (za o), some (zj up0), none, some (zj dn0), none, none, none, none]) (st2 := [za p, za z]) [(0, .aload_n 0), (1, .aload_n 1)] (by decide +kernel) rfl ?_
  refine Zn.call (ins := .invokevirtual 27) [za p] [za z] (by decide +kernel) rfl rfl rfl ⟨rfl, rfl⟩ ⟨rfl, rfl, rfl⟩ rfl (zrecvV hD (p := 7) rfl rfl rfl) (sp_X4_free (o := p) (ya := ya) (qa := qa) (th := th) (fx := fx) (d := d) (w := w) (zov_get hD 7 rfl) (hth) (hfx)) (fun v h2 hp => ?_)
  obtain ⟨rfl, hq_1⟩ := hp
  refine Zn.eq (pc2 := 5) (ls2 := [some (za z), some (za p), some (za o), some (zj up0), none, some (zj dn0), none, none, none, none]) (st2 := [zi ((bdiff th fx : Nat) : Int), za z]) (h2 := zov ([(z, .inr (2, [za pl, za sf, za wy, zi fr])), (pl, .inl (0, 8, .inl PL)), (sf, .inl (2, 256, .inl SF)), (wy, .inl (1, 9, .inl WY)), (o, .inr (1, [za xa, za wa, za ba, zi nd, zj sc, za pa, zj be, zj up, zj dn, zi ln])), (xa, .inl (0, 5, .inl F)), (wa, .inl (1, 5, .inl W)), (p, .inr (4, [za ya, za qa, zi (th : Int), zi (fx : Int), zi (d : Int), zi (w : Int)])), (ya, .inl (0, 13, .inl Y)), (qa, .inl (0, 3, .inl Q))]) h) rfl rfl rfl hq_1 ?_
  have hD : zND ([(z, .inr (2, [za pl, za sf, za wy, zi fr])), (pl, .inl (0, 8, .inl PL)), (sf, .inl (2, 256, .inl SF)), (wy, .inl (1, 9, .inl WY)), (o, .inr (1, [za xa, za wa, za ba, zi nd, zj sc, za pa, zj be, zj up, zj dn, zi ln])), (xa, .inl (0, 5, .inl F)), (wa, .inl (1, 5, .inl W)), (p, .inr (4, [za ya, za qa, zi (th : Int), zi (fx : Int), zi (d : Int), zi (w : Int)])), (ya, .inl (0, 13, .inl Y)), (qa, .inl (0, 3, .inl Q))]) := hD
  refine Zn.call (ins := .invokevirtual 32) [za z, zi ((bdiff th fx : Nat) : Int)] [] (by decide +kernel) rfl rfl rfl ⟨rfl, rfl⟩ ⟨rfl, rfl, rfl⟩ rfl (zrecvV hD (p := 0) rfl rfl rfl) (sp_X2_gather (z := z) (pl := pl) (sf := sf) (wy := wy) (fr := fr) (s := (bdiff th fx)) (l := l) (PL := PL) (zov_get hD 0 rfl) (zov_get hD 1 rfl) (nd_sub hD [0, 1] rfl rfl) (bd_lt hth) (hLl) (hl)) (fun v h2 hp => ?_)
  obtain ⟨rfl, hq_2⟩ := hp
  refine Zn.eq (pc2 := 8) (ls2 := [some (za z), some (za p), some (za o), some (zj up0), none, some (zj dn0), none, none, none, none]) (st2 := []) (h2 := zov ([(z, .inr (2, [za pl, za sf, za wy, zi (l.length : Int)])), (pl, .inl (0, 8, .inl (arL (l.map nPl) PL))), (sf, .inl (2, 256, .inl SF)), (wy, .inl (1, 9, .inl WY)), (o, .inr (1, [za xa, za wa, za ba, zi nd, zj sc, za pa, zj be, zj up, zj dn, zi ln])), (xa, .inl (0, 5, .inl F)), (wa, .inl (1, 5, .inl W)), (p, .inr (4, [za ya, za qa, zi (th : Int), zi (fx : Int), zi (d : Int), zi (w : Int)])), (ya, .inl (0, 13, .inl Y)), (qa, .inl (0, 3, .inl Q))]) h) rfl rfl rfl (hq_2.trans (zov_put hD [0, 1] _ rfl)) ?_
  have hD : zND ([(z, .inr (2, [za pl, za sf, za wy, zi (l.length : Int)])), (pl, .inl (0, 8, .inl (arL (l.map nPl) PL))), (sf, .inl (2, 256, .inl SF)), (wy, .inl (1, 9, .inl WY)), (o, .inr (1, [za xa, za wa, za ba, zi nd, zj sc, za pa, zj be, zj up, zj dn, zi ln])), (xa, .inl (0, 5, .inl F)), (wa, .inl (1, 5, .inl W)), (p, .inr (4, [za ya, za qa, zi (th : Int), zi (fx : Int), zi (d : Int), zi (w : Int)])), (ya, .inl (0, 13, .inl Y)), (qa, .inl (0, 3, .inl Q))]) := hD
  refine Zn.seg (pc2 := 10) (ls2 := [some (za z), some (za p), some (za o), some (zj up0), none, some (zj dn0), none, none, none, none]) (st2 := [za z, zi 1]) [(8, .iconst 1), (9, .aload_n 0)] (by decide +kernel) rfl ?_
  refine Zn.get (ix := 23) hD 0 (by decide +kernel) rfl rfl rfl ?_
  refine Zn.ishl ((a : Int)) (by decide +kernel) (by rw [ha]; exact zshl1 (by omega)) ?_
  refine Zn.seg (pc2 := 17) (ls2 := [some (za z), some (za p), some (za o), some (zj up0), none, some (zj dn0), none, some (zi (a : Int)), none, none]) (st2 := [za p]) [(14, .istore 7), (16, .aload_n 1)] (by decide +kernel) rfl ?_
  refine Zn.call (ins := .invokevirtual 36) [za p] [] (by decide +kernel) rfl rfl rfl ⟨rfl, rfl⟩ ⟨rfl, rfl, rfl⟩ rfl (zrecvV hD (p := 7) rfl rfl rfl) (sp_X4_needed (o := p) (ya := ya) (qa := qa) (th := th) (fx := fx) (d := d) (w := w) (zov_get hD 7 rfl) (by first | assumption | omega)) (fun v h2 hp => ?_)
  obtain ⟨rfl, hq_3⟩ := hp
  refine Zn.eq (pc2 := 20) (ls2 := [some (za z), some (za p), some (za o), some (zj up0), none, some (zj dn0), none, some (zi (a : Int)), none, none]) (st2 := [zi ((d : Int) + 2 - (pop fx : Int))]) (h2 := zov ([(z, .inr (2, [za pl, za sf, za wy, zi (l.length : Int)])), (pl, .inl (0, 8, .inl (arL (l.map nPl) PL))), (sf, .inl (2, 256, .inl SF)), (wy, .inl (1, 9, .inl WY)), (o, .inr (1, [za xa, za wa, za ba, zi nd, zj sc, za pa, zj be, zj up, zj dn, zi ln])), (xa, .inl (0, 5, .inl F)), (wa, .inl (1, 5, .inl W)), (p, .inr (4, [za ya, za qa, zi (th : Int), zi (fx : Int), zi (d : Int), zi (w : Int)])), (ya, .inl (0, 13, .inl Y)), (qa, .inl (0, 3, .inl Q))]) h) rfl rfl rfl hq_3 ?_
  have hD : zND ([(z, .inr (2, [za pl, za sf, za wy, zi (l.length : Int)])), (pl, .inl (0, 8, .inl (arL (l.map nPl) PL))), (sf, .inl (2, 256, .inl SF)), (wy, .inl (1, 9, .inl WY)), (o, .inr (1, [za xa, za wa, za ba, zi nd, zj sc, za pa, zj be, zj up, zj dn, zi ln])), (xa, .inl (0, 5, .inl F)), (wa, .inl (1, 5, .inl W)), (p, .inr (4, [za ya, za qa, zi (th : Int), zi (fx : Int), zi (d : Int), zi (w : Int)])), (ya, .inl (0, 13, .inl Y)), (qa, .inl (0, 3, .inl Q))]) := hD
  refine Zn.seg (pc2 := 25) (ls2 := [some (za z), some (za p), some (za o), some (zj up0), none, some (zj dn0), none, some (zi (a : Int)), some (zi ((d : Int) + 2 - (pop fx : Int))), some (zi 0)]) (st2 := []) [(20, .istore 8), (22, .iconst 0), (23, .istore 9)] (by decide +kernel) rfl ?_
  refine Zn.eq (pc2 := 25) (ls2 := [some (za z), some (za p), some (za o), some (zj up0), none, some (zj dn0), none, some (zi (a : Int)), some (zi ((d : Int) + 2 - (pop fx : Int))), some (zi (0 : Int))]) (st2 := []) (h2 := zov ([(z, .inr (2, [za pl, za sf, za wy, zi (l.length : Int)])), (pl, .inl (0, 8, .inl (arL (l.map nPl) PL))), (sf, .inl (2, 256, .inl (cpF (msF fx Y Q l up0 dn0 ((d : Int) + 2 - (pop fx : Int))) SF 0))), (wy, .inl (1, 9, .inl WY)), (o, .inr (1, [za xa, za wa, za ba, zi nd, zj sc, za pa, zj be, zj up, zj dn, zi ln])), (xa, .inl (0, 5, .inl F)), (wa, .inl (1, 5, .inl W)), (p, .inr (4, [za ya, za qa, zi (th : Int), zi (fx : Int), zi (d : Int), zi (w : Int)])), (ya, .inl (0, 13, .inl Y)), (qa, .inl (0, 3, .inl Q))]) h) rfl rfl rfl (by rw [cpF_zero]) ?_
  have hD : zND ([(z, .inr (2, [za pl, za sf, za wy, zi (l.length : Int)])), (pl, .inl (0, 8, .inl (arL (l.map nPl) PL))), (sf, .inl (2, 256, .inl (cpF (msF fx Y Q l up0 dn0 ((d : Int) + 2 - (pop fx : Int))) SF 0))), (wy, .inl (1, 9, .inl WY)), (o, .inr (1, [za xa, za wa, za ba, zi nd, zj sc, za pa, zj be, zj up, zj dn, zi ln])), (xa, .inl (0, 5, .inl F)), (wa, .inl (1, 5, .inl W)), (p, .inr (4, [za ya, za qa, zi (th : Int), zi (fx : Int), zi (d : Int), zi (w : Int)])), (ya, .inl (0, 13, .inl Y)), (qa, .inl (0, 3, .inl Q))]) := hD
  refine xloop (P := fun i_4 => ∀ (nd_ : Int), ∀ (sc_ : Int), ∀ (up_ : Int), ∀ (dn_ : Int), ∀ (ln_ : Int), ∀ (F_ : Nat → Int), ∀ (W_ : Nat → Int), Zn (2, xI_X2_mark, 10, 4, 107, 0, 0, false) none 25 [some (za z), some (za p), some (za o), some (zj up0), none, some (zj dn0), none, some (zi (a : Int)), some (zi ((d : Int) + 2 - (pop fx : Int))), some (zi (i_4 : Int))] [] (zov ([(z, .inr (2, [za pl, za sf, za wy, zi (l.length : Int)])), (pl, .inl (0, 8, .inl (arL (l.map nPl) PL))), (sf, .inl (2, 256, .inl (cpF (msF fx Y Q l up0 dn0 ((d : Int) + 2 - (pop fx : Int))) SF i_4))), (wy, .inl (1, 9, .inl WY)), (o, .inr (1, [za xa, za wa, za ba, zi nd_, zj sc_, za pa, zj be, zj up_, zj dn_, zi ln_])), (xa, .inl (0, 5, .inl F_)), (wa, .inl (1, 5, .inl W_)), (p, .inr (4, [za ya, za qa, zi (th : Int), zi (fx : Int), zi (d : Int), zi (w : Int)])), (ya, .inl (0, 13, .inl Y)), (qa, .inl (0, 3, .inl Q))]) h) _) (a) (fun i_4 hi_7 ih_8 nd_ sc_ up_ dn_ ln_ F_ W_ => ?_) (fun nd_ sc_ up_ dn_ ln_ F_ W_ => ?_) nd sc up dn ln F W
  · have hi_ : i_4 < a := hi_7
    have hD : zND ([(z, .inr (2, [za pl, za sf, za wy, zi (l.length : Int)])), (pl, .inl (0, 8, .inl (arL (l.map nPl) PL))), (sf, .inl (2, 256, .inl (cpF (msF fx Y Q l up0 dn0 ((d : Int) + 2 - (pop fx : Int))) SF i_4))), (wy, .inl (1, 9, .inl WY)), (o, .inr (1, [za xa, za wa, za ba, zi nd_, zj sc_, za pa, zj be, zj up_, zj dn_, zi ln_])), (xa, .inl (0, 5, .inl F_)), (wa, .inl (1, 5, .inl W_)), (p, .inr (4, [za ya, za qa, zi (th : Int), zi (fx : Int), zi (d : Int), zi (w : Int)])), (ya, .inl (0, 13, .inl Y)), (qa, .inl (0, 3, .inl Q))]) := hD
    have hsm_ := hso i_4 hi_
    refine Zn.seg (pc2 := 29) (ls2 := [some (za z), some (za p), some (za o), some (zj up0), none, some (zj dn0), none, some (zi (a : Int)), some (zi ((d : Int) + 2 - (pop fx : Int))), some (zi (i_4 : Int))]) (st2 := [zi (a : Int), zi (i_4 : Int)]) [(25, .iload 9), (27, .iload 7)] (by decide +kernel) rfl ?_
    refine Zn.icmp (c := .ge) (off := 69) 98 (by decide +kernel) rfl ⟨by omega, by omega⟩ ⟨by omega, by omega⟩ (fun c_9 => absurd (show (a : Int) ≤ (i_4 : Int) from c_9) (by omega)) (fun c_9 => ?_)
    have c_9 : ¬ ((a : Int) ≤ (i_4 : Int)) := c_9
    refine Zn.seg (pc2 := 33) (ls2 := [some (za z), some (za p), some (za o), some (zj up0), none, some (zj dn0), none, some (zi (a : Int)), some (zi ((d : Int) + 2 - (pop fx : Int))), some (zi (i_4 : Int))]) (st2 := [za z]) [(32, .aload_n 0)] (by decide +kernel) rfl ?_
    refine Zn.get (ix := 15) hD 0 (by decide +kernel) rfl rfl rfl ?_
    refine Zn.seg (pc2 := 39) (ls2 := [some (za z), some (za p), some (za o), some (zj up0), none, some (zj dn0), none, some (zi (a : Int)), some (zi ((d : Int) + 2 - (pop fx : Int))), some (zi (i_4 : Int))]) (st2 := [zi 0, zi (i_4 : Int), za sf]) [(36, .iload 9), (38, .iconst 0)] (by decide +kernel) rfl ?_
    refine Zn.bast hD 2 (i_4) (by decide +kernel) rfl (by decide) (by omega) (by omega) rfl ?_
    refine Zn.eq (h2 := zov ([(z, .inr (2, [za pl, za sf, za wy, zi (l.length : Int)])), (pl, .inl (0, 8, .inl (arL (l.map nPl) PL))), (sf, .inl (2, 256, .inl (va_up (cpF (msF fx Y Q l up0 dn0 ((d : Int) + 2 - (pop fx : Int))) SF i_4) i_4 0))), (wy, .inl (1, 9, .inl WY)), (o, .inr (1, [za xa, za wa, za ba, zi nd_, zj sc_, za pa, zj be, zj up_, zj dn_, zi ln_])), (xa, .inl (0, 5, .inl F_)), (wa, .inl (1, 5, .inl W_)), (p, .inr (4, [za ya, za qa, zi (th : Int), zi (fx : Int), zi (d : Int), zi (w : Int)])), (ya, .inl (0, 13, .inl Y)), (qa, .inl (0, 3, .inl Q))]) h) rfl rfl rfl (rfl) ?_
    have hD : zND ([(z, .inr (2, [za pl, za sf, za wy, zi (l.length : Int)])), (pl, .inl (0, 8, .inl (arL (l.map nPl) PL))), (sf, .inl (2, 256, .inl (va_up (cpF (msF fx Y Q l up0 dn0 ((d : Int) + 2 - (pop fx : Int))) SF i_4) i_4 0))), (wy, .inl (1, 9, .inl WY)), (o, .inr (1, [za xa, za wa, za ba, zi nd_, zj sc_, za pa, zj be, zj up_, zj dn_, zi ln_])), (xa, .inl (0, 5, .inl F_)), (wa, .inl (1, 5, .inl W_)), (p, .inr (4, [za ya, za qa, zi (th : Int), zi (fx : Int), zi (d : Int), zi (w : Int)])), (ya, .inl (0, 13, .inl Y)), (qa, .inl (0, 3, .inl Q))]) := hD
    refine Zn.seg (pc2 := 42) (ls2 := [some (za z), some (za p), some (za o), some (zj up0), none, some (zj dn0), none, some (zi (a : Int)), some (zi ((d : Int) + 2 - (pop fx : Int))), some (zi (i_4 : Int))]) (st2 := [zi (i_4 : Int)]) [(40, .iload 9)] (by decide +kernel) rfl ?_
    refine Zn.call (ins := .invokestatic 39) [zi (i_4 : Int)] [] (by decide +kernel) rfl rfl rfl ⟨rfl, rfl⟩ ⟨rfl, rfl, rfl⟩ rfl (zrecvS (by decide)) (sp_J6_bitCount_0f7a4 (n := i_4) (by omega)) (fun v h2 hp => ?_)
    obtain ⟨rfl, hq_10⟩ := hp
    refine Zn.eq (pc2 := 45) (ls2 := [some (za z), some (za p), some (za o), some (zj up0), none, some (zj dn0), none, some (zi (a : Int)), some (zi ((d : Int) + 2 - (pop fx : Int))), some (zi (i_4 : Int))]) (st2 := [zi (pop i_4 : Int)]) (h2 := zov ([(z, .inr (2, [za pl, za sf, za wy, zi (l.length : Int)])), (pl, .inl (0, 8, .inl (arL (l.map nPl) PL))), (sf, .inl (2, 256, .inl (va_up (cpF (msF fx Y Q l up0 dn0 ((d : Int) + 2 - (pop fx : Int))) SF i_4) i_4 0))), (wy, .inl (1, 9, .inl WY)), (o, .inr (1, [za xa, za wa, za ba, zi nd_, zj sc_, za pa, zj be, zj up_, zj dn_, zi ln_])), (xa, .inl (0, 5, .inl F_)), (wa, .inl (1, 5, .inl W_)), (p, .inr (4, [za ya, za qa, zi (th : Int), zi (fx : Int), zi (d : Int), zi (w : Int)])), (ya, .inl (0, 13, .inl Y)), (qa, .inl (0, 3, .inl Q))]) h) rfl rfl rfl hq_10 ?_
    have hD : zND ([(z, .inr (2, [za pl, za sf, za wy, zi (l.length : Int)])), (pl, .inl (0, 8, .inl (arL (l.map nPl) PL))), (sf, .inl (2, 256, .inl (va_up (cpF (msF fx Y Q l up0 dn0 ((d : Int) + 2 - (pop fx : Int))) SF i_4) i_4 0))), (wy, .inl (1, 9, .inl WY)), (o, .inr (1, [za xa, za wa, za ba, zi nd_, zj sc_, za pa, zj be, zj up_, zj dn_, zi ln_])), (xa, .inl (0, 5, .inl F_)), (wa, .inl (1, 5, .inl W_)), (p, .inr (4, [za ya, za qa, zi (th : Int), zi (fx : Int), zi (d : Int), zi (w : Int)])), (ya, .inl (0, 13, .inl Y)), (qa, .inl (0, 3, .inl Q))]) := hD
    have q_11 := pop_le i_4
    refine Zn.seg (pc2 := 47) (ls2 := [some (za z), some (za p), some (za o), some (zj up0), none, some (zj dn0), none, some (zi (a : Int)), some (zi ((d : Int) + 2 - (pop fx : Int))), some (zi (i_4 : Int))]) (st2 := [zi ((d : Int) + 2 - (pop fx : Int)), zi (pop i_4 : Int)]) [(45, .iload 8)] (by decide +kernel) rfl ?_
    refine Zn.icmp (c := .ne) (off := 45) 92 (by decide +kernel) rfl ⟨by omega, by omega⟩ ⟨by omega, by omega⟩ (fun c_12 => ?_) (fun c_12 => ?_)
    · have c_12 : (pop i_4 : Int) ≠ (d : Int) + 2 - (pop fx : Int) := c_12
      refine Zn.seg (pc2 := 25) (ls2 := [some (za z), some (za p), some (za o), some (zj up0), none, some (zj dn0), none, some (zi (a : Int)), some (zi ((d : Int) + 2 - (pop fx : Int))), some (zi ((i_4 : Int) + 1))]) (st2 := []) [(92, .iinc 9 1), (95, .goto (-70))] (by decide +kernel) rfl ?_
      exact Zn.eq rfl (zcons rfl (zcons rfl (zcons rfl (zcons rfl (zcons rfl (zcons rfl (zcons rfl (zcons rfl (zcons rfl (zcons (congrArg (fun z => some (zi z)) (by omega)) rfl)))))))))) rfl (by first | (rw [msF_2 (f := (msF fx Y Q l up0 dn0 ((d : Int) + 2 - (pop fx : Int)))) (by rw [msF, if_pos ⟨by omega, by omega, by omega⟩])]; done) | (rw [msF_2 (f := (msF fx Y Q l up0 dn0 ((d : Int) + 2 - (pop fx : Int)))) (by rw [msF, if_neg (fun q_ => by omega)])]; done) | (rw [cpF_st (f := (msF fx Y Q l up0 dn0 ((d : Int) + 2 - (pop fx : Int)))) (by rw [msF, if_neg (fun q_ => by omega)])]; done)) (ih_8 nd_ sc_ up_ dn_ ln_ F_ W_)
    · have c_12 : ¬ ((pop i_4 : Int) ≠ (d : Int) + 2 - (pop fx : Int)) := c_12
      refine Zn.seg (pc2 := 55) (ls2 := [some (za z), some (za p), some (za o), some (zj up0), none, some (zj dn0), none, some (zi (a : Int)), some (zi ((d : Int) + 2 - (pop fx : Int))), some (zi (i_4 : Int))]) (st2 := [zi (i_4 : Int), za z, za p, za o]) [(50, .aload_n 2), (51, .aload_n 1), (52, .aload_n 0), (53, .iload 9)] (by decide +kernel) rfl ?_
      refine Zn.call (ins := .invokevirtual 45) [za z, zi (i_4 : Int)] [za p, za o] (by decide +kernel) rfl rfl rfl ⟨rfl, rfl⟩ ⟨rfl, rfl, rfl⟩ rfl (zrecvV hD (p := 0) rfl rfl rfl) (sp_X2_setOf (z := z) (pl := pl) (sf := sf) (wy := wy) (m := i_4) (l := l) (PL := arL (l.map nPl) PL) (zov_get hD 0 rfl) (zov_get hD 1 rfl) (nd_sub hD [0, 1] rfl rfl) (by omega) (hl) (hPl)) (fun v h2 hp => ?_)
      obtain ⟨rfl, hq_13⟩ := hp
      refine Zn.eq (pc2 := 58) (ls2 := [some (za z), some (za p), some (za o), some (zj up0), none, some (zj dn0), none, some (zi (a : Int)), some (zi ((d : Int) + 2 - (pop fx : Int))), some (zi (i_4 : Int))]) (st2 := [zi (soN l i_4 l.length : Int), za p, za o]) (h2 := zov ([(z, .inr (2, [za pl, za sf, za wy, zi (l.length : Int)])), (pl, .inl (0, 8, .inl (arL (l.map nPl) PL))), (sf, .inl (2, 256, .inl (va_up (cpF (msF fx Y Q l up0 dn0 ((d : Int) + 2 - (pop fx : Int))) SF i_4) i_4 0))), (wy, .inl (1, 9, .inl WY)), (o, .inr (1, [za xa, za wa, za ba, zi nd_, zj sc_, za pa, zj be, zj up_, zj dn_, zi ln_])), (xa, .inl (0, 5, .inl F_)), (wa, .inl (1, 5, .inl W_)), (p, .inr (4, [za ya, za qa, zi (th : Int), zi (fx : Int), zi (d : Int), zi (w : Int)])), (ya, .inl (0, 13, .inl Y)), (qa, .inl (0, 3, .inl Q))]) h) rfl rfl rfl hq_13 ?_
      have hD : zND ([(z, .inr (2, [za pl, za sf, za wy, zi (l.length : Int)])), (pl, .inl (0, 8, .inl (arL (l.map nPl) PL))), (sf, .inl (2, 256, .inl (va_up (cpF (msF fx Y Q l up0 dn0 ((d : Int) + 2 - (pop fx : Int))) SF i_4) i_4 0))), (wy, .inl (1, 9, .inl WY)), (o, .inr (1, [za xa, za wa, za ba, zi nd_, zj sc_, za pa, zj be, zj up_, zj dn_, zi ln_])), (xa, .inl (0, 5, .inl F_)), (wa, .inl (1, 5, .inl W_)), (p, .inr (4, [za ya, za qa, zi (th : Int), zi (fx : Int), zi (d : Int), zi (w : Int)])), (ya, .inl (0, 13, .inl Y)), (qa, .inl (0, 3, .inl Q))]) := hD
      refine Zn.call (ins := .invokevirtual 48) [za o, za p, zi (soN l i_4 l.length : Int)] [] (by decide +kernel) rfl rfl rfl ⟨rfl, rfl⟩ ⟨rfl, rfl, rfl⟩ rfl (zrecvV hD (p := 4) rfl rfl rfl) (sp_X1_measure (o := o) (xa := xa) (wa := wa) (ba := ba) (pa := pa) (nd := nd_) (sc := sc_) (be := be) (up := up_) (dn := dn_) (ln := ln_) (p := p) (ya := ya) (qa := qa) (th := th) (fx := fx) (d := d) (w := w) (s := (soN l i_4 l.length)) (l := (clL fx (soN l i_4 l.length))) (F := F_) (W := W_) (Y := Y) (Q := Q) (zov_get hD 4 rfl) (zov_get hD 5 rfl) (zov_get hD 6 rfl) (zov_get hD 7 rfl) (zov_get hD 8 rfl) (zov_get hD 9 rfl) (nd_sub hD [4, 5, 6, 7, 8, 9] rfl rfl) ((hsm_ (by omega)).1) (hfx) (rfl) ((hsm_ (by omega)).2.1.1) ((hsm_ (by omega)).2.1.2.1) (hY) (hq) ((hsm_ (by omega)).2.1.2.2.1) ((hsm_ (by omega)).2.1.2.2.2.1) ((hsm_ (by omega)).2.1.2.2.2.2.1)) (fun v h2 hp => ?_)
      obtain ⟨rfl, hq_14⟩ := hp
      refine Zn.eq (pc2 := 61) (ls2 := [some (za z), some (za p), some (za o), some (zj up0), none, some (zj dn0), none, some (zi (a : Int)), some (zi ((d : Int) + 2 - (pop fx : Int))), some (zi (i_4 : Int))]) (st2 := []) (h2 := zov ([(z, .inr (2, [za pl, za sf, za wy, zi (l.length : Int)])), (pl, .inl (0, 8, .inl (arL (l.map nPl) PL))), (sf, .inl (2, 256, .inl (va_up (cpF (msF fx Y Q l up0 dn0 ((d : Int) + 2 - (pop fx : Int))) SF i_4) i_4 0))), (wy, .inl (1, 9, .inl WY)), (o, .inr (1, [za xa, za wa, za ba, zi ((clL fx (soN l i_4 l.length)).length : Int), zj (scl (nfX (clL fx (soN l i_4 l.length))) (clL fx (soN l i_4 l.length)).length), za pa, zj be, zj (mUp (clL fx (soN l i_4 l.length)) fx Y Q), zj (mDn (clL fx (soN l i_4 l.length)) fx Y Q), zi (mlV (msN (clL fx (soN l i_4 l.length)) Y Q (clL fx (soN l i_4 l.length)).length) (pop (soN l i_4 l.length)))])), (xa, .inl (0, 5, .inl (arL ((clL fx (soN l i_4 l.length)).map nX) F_))), (wa, .inl (1, 5, .inl (cpF (wgt (nfX (clL fx (soN l i_4 l.length))) (clL fx (soN l i_4 l.length)).length) W_ (clL fx (soN l i_4 l.length)).length))), (p, .inr (4, [za ya, za qa, zi (th : Int), zi (fx : Int), zi (d : Int), zi (w : Int)])), (ya, .inl (0, 13, .inl Y)), (qa, .inl (0, 3, .inl Q))]) h) rfl rfl rfl (hq_14.trans (zov_put hD [4, 5, 6, 7, 8, 9] _ rfl)) ?_
      have hD : zND ([(z, .inr (2, [za pl, za sf, za wy, zi (l.length : Int)])), (pl, .inl (0, 8, .inl (arL (l.map nPl) PL))), (sf, .inl (2, 256, .inl (va_up (cpF (msF fx Y Q l up0 dn0 ((d : Int) + 2 - (pop fx : Int))) SF i_4) i_4 0))), (wy, .inl (1, 9, .inl WY)), (o, .inr (1, [za xa, za wa, za ba, zi ((clL fx (soN l i_4 l.length)).length : Int), zj (scl (nfX (clL fx (soN l i_4 l.length))) (clL fx (soN l i_4 l.length)).length), za pa, zj be, zj (mUp (clL fx (soN l i_4 l.length)) fx Y Q), zj (mDn (clL fx (soN l i_4 l.length)) fx Y Q), zi (mlV (msN (clL fx (soN l i_4 l.length)) Y Q (clL fx (soN l i_4 l.length)).length) (pop (soN l i_4 l.length)))])), (xa, .inl (0, 5, .inl (arL ((clL fx (soN l i_4 l.length)).map nX) F_))), (wa, .inl (1, 5, .inl (cpF (wgt (nfX (clL fx (soN l i_4 l.length))) (clL fx (soN l i_4 l.length)).length) W_ (clL fx (soN l i_4 l.length)).length))), (p, .inr (4, [za ya, za qa, zi (th : Int), zi (fx : Int), zi (d : Int), zi (w : Int)])), (ya, .inl (0, 13, .inl Y)), (qa, .inl (0, 3, .inl Q))]) := hD
      refine Zn.eq (pc2 := 61) (ls2 := [some (za z), some (za p), some (za o), some (zj up0), none, some (zj dn0), none, some (zi (a : Int)), some (zi ((d : Int) + 2 - (pop fx : Int))), some (zi (i_4 : Int))]) (st2 := []) (h2 := zov ([(z, .inr (2, [za pl, za sf, za wy, zi (l.length : Int)])), (pl, .inl (0, 8, .inl (arL (l.map nPl) PL))), (sf, .inl (2, 256, .inl (va_up (cpF (msF fx Y Q l up0 dn0 ((d : Int) + 2 - (pop fx : Int))) SF i_4) i_4 0))), (wy, .inl (1, 9, .inl WY)), (o, .inr (1, [za xa, za wa, za ba, zi ((clL fx (soN l i_4 l.length)).length : Int), zj (scl (nfX (clL fx (soN l i_4 l.length))) (clL fx (soN l i_4 l.length)).length), za pa, zj be, zj (cU fx Y Q (soN l i_4 l.length)), zj (cD fx Y Q (soN l i_4 l.length)), zi (cL fx Y Q (soN l i_4 l.length))])), (xa, .inl (0, 5, .inl (arL ((clL fx (soN l i_4 l.length)).map nX) F_))), (wa, .inl (1, 5, .inl (cpF (wgt (nfX (clL fx (soN l i_4 l.length))) (clL fx (soN l i_4 l.length)).length) W_ (clL fx (soN l i_4 l.length)).length))), (p, .inr (4, [za ya, za qa, zi (th : Int), zi (fx : Int), zi (d : Int), zi (w : Int)])), (ya, .inl (0, 13, .inl Y)), (qa, .inl (0, 3, .inl Q))]) h) rfl rfl rfl (rfl) ?_
      have hD : zND ([(z, .inr (2, [za pl, za sf, za wy, zi (l.length : Int)])), (pl, .inl (0, 8, .inl (arL (l.map nPl) PL))), (sf, .inl (2, 256, .inl (va_up (cpF (msF fx Y Q l up0 dn0 ((d : Int) + 2 - (pop fx : Int))) SF i_4) i_4 0))), (wy, .inl (1, 9, .inl WY)), (o, .inr (1, [za xa, za wa, za ba, zi ((clL fx (soN l i_4 l.length)).length : Int), zj (scl (nfX (clL fx (soN l i_4 l.length))) (clL fx (soN l i_4 l.length)).length), za pa, zj be, zj (cU fx Y Q (soN l i_4 l.length)), zj (cD fx Y Q (soN l i_4 l.length)), zi (cL fx Y Q (soN l i_4 l.length))])), (xa, .inl (0, 5, .inl (arL ((clL fx (soN l i_4 l.length)).map nX) F_))), (wa, .inl (1, 5, .inl (cpF (wgt (nfX (clL fx (soN l i_4 l.length))) (clL fx (soN l i_4 l.length)).length) W_ (clL fx (soN l i_4 l.length)).length))), (p, .inr (4, [za ya, za qa, zi (th : Int), zi (fx : Int), zi (d : Int), zi (w : Int)])), (ya, .inl (0, 13, .inl Y)), (qa, .inl (0, 3, .inl Q))]) := hD
      refine Zn.seg (pc2 := 62) (ls2 := [some (za z), some (za p), some (za o), some (zj up0), none, some (zj dn0), none, some (zi (a : Int)), some (zi ((d : Int) + 2 - (pop fx : Int))), some (zi (i_4 : Int))]) (st2 := [za z]) [(61, .aload_n 0)] (by decide +kernel) rfl ?_
      refine Zn.get (ix := 15) hD 0 (by decide +kernel) rfl rfl rfl ?_
      refine Zn.seg (pc2 := 68) (ls2 := [some (za z), some (za p), some (za o), some (zj up0), none, some (zj dn0), none, some (zi (a : Int)), some (zi ((d : Int) + 2 - (pop fx : Int))), some (zi (i_4 : Int))]) (st2 := [za o, zi (i_4 : Int), za sf]) [(65, .iload 9), (67, .aload_n 2)] (by decide +kernel) rfl ?_
      refine Zn.get (ix := 54) hD 4 (by decide +kernel) rfl rfl rfl ?_
      refine Zn.seg (pc2 := 72) (ls2 := [some (za z), some (za p), some (za o), some (zj up0), none, some (zj dn0), none, some (zi (a : Int)), some (zi ((d : Int) + 2 - (pop fx : Int))), some (zi (i_4 : Int))]) (st2 := [zj up0, zj (cU fx Y Q (soN l i_4 l.length)), zi (i_4 : Int), za sf]) [(71, .lload_n 3)] (by decide +kernel) rfl ?_
      refine Zn.lcmpif (c := .ne) (off := (17)) 90 (by decide +kernel) (by decide +kernel) rfl (hsm_ (by omega)).2.2.1 ⟨by omega, by omega⟩ (fun c_15 => ?_) (fun c_15 => ?_)
      · have c_15 : cU fx Y Q (soN l i_4 l.length) ≠ up0 := c_15
        refine Zn.seg (pc2 := 91) (ls2 := [some (za z), some (za p), some (za o), some (zj up0), none, some (zj dn0), none, some (zi (a : Int)), some (zi ((d : Int) + 2 - (pop fx : Int))), some (zi (i_4 : Int))]) (st2 := [zi 0, zi (i_4 : Int), za sf]) [(90, .iconst 0)] (by decide +kernel) rfl ?_
        refine Zn.bast hD 2 (i_4) (by decide +kernel) rfl (by decide) (by omega) (by omega) rfl ?_
        refine Zn.eq (h2 := zov ([(z, .inr (2, [za pl, za sf, za wy, zi (l.length : Int)])), (pl, .inl (0, 8, .inl (arL (l.map nPl) PL))), (sf, .inl (2, 256, .inl (va_up (va_up (cpF (msF fx Y Q l up0 dn0 ((d : Int) + 2 - (pop fx : Int))) SF i_4) i_4 0) i_4 0))), (wy, .inl (1, 9, .inl WY)), (o, .inr (1, [za xa, za wa, za ba, zi ((clL fx (soN l i_4 l.length)).length : Int), zj (scl (nfX (clL fx (soN l i_4 l.length))) (clL fx (soN l i_4 l.length)).length), za pa, zj be, zj (cU fx Y Q (soN l i_4 l.length)), zj (cD fx Y Q (soN l i_4 l.length)), zi (cL fx Y Q (soN l i_4 l.length))])), (xa, .inl (0, 5, .inl (arL ((clL fx (soN l i_4 l.length)).map nX) F_))), (wa, .inl (1, 5, .inl (cpF (wgt (nfX (clL fx (soN l i_4 l.length))) (clL fx (soN l i_4 l.length)).length) W_ (clL fx (soN l i_4 l.length)).length))), (p, .inr (4, [za ya, za qa, zi (th : Int), zi (fx : Int), zi (d : Int), zi (w : Int)])), (ya, .inl (0, 13, .inl Y)), (qa, .inl (0, 3, .inl Q))]) h) rfl rfl rfl (rfl) ?_
        have hD : zND ([(z, .inr (2, [za pl, za sf, za wy, zi (l.length : Int)])), (pl, .inl (0, 8, .inl (arL (l.map nPl) PL))), (sf, .inl (2, 256, .inl (va_up (va_up (cpF (msF fx Y Q l up0 dn0 ((d : Int) + 2 - (pop fx : Int))) SF i_4) i_4 0) i_4 0))), (wy, .inl (1, 9, .inl WY)), (o, .inr (1, [za xa, za wa, za ba, zi ((clL fx (soN l i_4 l.length)).length : Int), zj (scl (nfX (clL fx (soN l i_4 l.length))) (clL fx (soN l i_4 l.length)).length), za pa, zj be, zj (cU fx Y Q (soN l i_4 l.length)), zj (cD fx Y Q (soN l i_4 l.length)), zi (cL fx Y Q (soN l i_4 l.length))])), (xa, .inl (0, 5, .inl (arL ((clL fx (soN l i_4 l.length)).map nX) F_))), (wa, .inl (1, 5, .inl (cpF (wgt (nfX (clL fx (soN l i_4 l.length))) (clL fx (soN l i_4 l.length)).length) W_ (clL fx (soN l i_4 l.length)).length))), (p, .inr (4, [za ya, za qa, zi (th : Int), zi (fx : Int), zi (d : Int), zi (w : Int)])), (ya, .inl (0, 13, .inl Y)), (qa, .inl (0, 3, .inl Q))]) := hD
        refine Zn.seg (pc2 := 25) (ls2 := [some (za z), some (za p), some (za o), some (zj up0), none, some (zj dn0), none, some (zi (a : Int)), some (zi ((d : Int) + 2 - (pop fx : Int))), some (zi ((i_4 : Int) + 1))]) (st2 := []) [(92, .iinc 9 1), (95, .goto (-70))] (by decide +kernel) rfl ?_
        exact Zn.eq rfl (zcons rfl (zcons rfl (zcons rfl (zcons rfl (zcons rfl (zcons rfl (zcons rfl (zcons rfl (zcons rfl (zcons (congrArg (fun z => some (zi z)) (by omega)) rfl)))))))))) rfl (by first | (rw [msF_2 (f := (msF fx Y Q l up0 dn0 ((d : Int) + 2 - (pop fx : Int)))) (by rw [msF, if_pos ⟨by omega, by omega, by omega⟩])]; done) | (rw [msF_2 (f := (msF fx Y Q l up0 dn0 ((d : Int) + 2 - (pop fx : Int)))) (by rw [msF, if_neg (fun q_ => by omega)])]; done) | (rw [cpF_st (f := (msF fx Y Q l up0 dn0 ((d : Int) + 2 - (pop fx : Int)))) (by rw [msF, if_neg (fun q_ => by omega)])]; done)) (ih_8 ((clL fx (soN l i_4 l.length)).length : Int) (scl (nfX (clL fx (soN l i_4 l.length))) (clL fx (soN l i_4 l.length)).length) (cU fx Y Q (soN l i_4 l.length)) (cD fx Y Q (soN l i_4 l.length)) (cL fx Y Q (soN l i_4 l.length)) (arL ((clL fx (soN l i_4 l.length)).map nX) F_) (cpF (wgt (nfX (clL fx (soN l i_4 l.length))) (clL fx (soN l i_4 l.length)).length) W_ (clL fx (soN l i_4 l.length)).length))
      · have c_15 : ¬ (cU fx Y Q (soN l i_4 l.length) ≠ up0) := c_15
        refine Zn.seg (pc2 := 77) (ls2 := [some (za z), some (za p), some (za o), some (zj up0), none, some (zj dn0), none, some (zi (a : Int)), some (zi ((d : Int) + 2 - (pop fx : Int))), some (zi (i_4 : Int))]) (st2 := [za o, zi (i_4 : Int), za sf]) [(76, .aload_n 2)] (by decide +kernel) rfl ?_
        refine Zn.get (ix := 58) hD 4 (by decide +kernel) rfl rfl rfl ?_
        refine Zn.seg (pc2 := 82) (ls2 := [some (za z), some (za p), some (za o), some (zj up0), none, some (zj dn0), none, some (zi (a : Int)), some (zi ((d : Int) + 2 - (pop fx : Int))), some (zi (i_4 : Int))]) (st2 := [zj dn0, zj (cD fx Y Q (soN l i_4 l.length)), zi (i_4 : Int), za sf]) [(80, .lload 5)] (by decide +kernel) rfl ?_
        refine Zn.lcmpif (c := .ne) (off := (7)) 90 (by decide +kernel) (by decide +kernel) rfl (hsm_ (by omega)).2.2.2 ⟨by omega, by omega⟩ (fun c_16 => ?_) (fun c_16 => ?_)
        · have c_16 : cD fx Y Q (soN l i_4 l.length) ≠ dn0 := c_16
          refine Zn.seg (pc2 := 91) (ls2 := [some (za z), some (za p), some (za o), some (zj up0), none, some (zj dn0), none, some (zi (a : Int)), some (zi ((d : Int) + 2 - (pop fx : Int))), some (zi (i_4 : Int))]) (st2 := [zi 0, zi (i_4 : Int), za sf]) [(90, .iconst 0)] (by decide +kernel) rfl ?_
          refine Zn.bast hD 2 (i_4) (by decide +kernel) rfl (by decide) (by omega) (by omega) rfl ?_
          refine Zn.eq (h2 := zov ([(z, .inr (2, [za pl, za sf, za wy, zi (l.length : Int)])), (pl, .inl (0, 8, .inl (arL (l.map nPl) PL))), (sf, .inl (2, 256, .inl (va_up (va_up (cpF (msF fx Y Q l up0 dn0 ((d : Int) + 2 - (pop fx : Int))) SF i_4) i_4 0) i_4 0))), (wy, .inl (1, 9, .inl WY)), (o, .inr (1, [za xa, za wa, za ba, zi ((clL fx (soN l i_4 l.length)).length : Int), zj (scl (nfX (clL fx (soN l i_4 l.length))) (clL fx (soN l i_4 l.length)).length), za pa, zj be, zj (cU fx Y Q (soN l i_4 l.length)), zj (cD fx Y Q (soN l i_4 l.length)), zi (cL fx Y Q (soN l i_4 l.length))])), (xa, .inl (0, 5, .inl (arL ((clL fx (soN l i_4 l.length)).map nX) F_))), (wa, .inl (1, 5, .inl (cpF (wgt (nfX (clL fx (soN l i_4 l.length))) (clL fx (soN l i_4 l.length)).length) W_ (clL fx (soN l i_4 l.length)).length))), (p, .inr (4, [za ya, za qa, zi (th : Int), zi (fx : Int), zi (d : Int), zi (w : Int)])), (ya, .inl (0, 13, .inl Y)), (qa, .inl (0, 3, .inl Q))]) h) rfl rfl rfl (rfl) ?_
          have hD : zND ([(z, .inr (2, [za pl, za sf, za wy, zi (l.length : Int)])), (pl, .inl (0, 8, .inl (arL (l.map nPl) PL))), (sf, .inl (2, 256, .inl (va_up (va_up (cpF (msF fx Y Q l up0 dn0 ((d : Int) + 2 - (pop fx : Int))) SF i_4) i_4 0) i_4 0))), (wy, .inl (1, 9, .inl WY)), (o, .inr (1, [za xa, za wa, za ba, zi ((clL fx (soN l i_4 l.length)).length : Int), zj (scl (nfX (clL fx (soN l i_4 l.length))) (clL fx (soN l i_4 l.length)).length), za pa, zj be, zj (cU fx Y Q (soN l i_4 l.length)), zj (cD fx Y Q (soN l i_4 l.length)), zi (cL fx Y Q (soN l i_4 l.length))])), (xa, .inl (0, 5, .inl (arL ((clL fx (soN l i_4 l.length)).map nX) F_))), (wa, .inl (1, 5, .inl (cpF (wgt (nfX (clL fx (soN l i_4 l.length))) (clL fx (soN l i_4 l.length)).length) W_ (clL fx (soN l i_4 l.length)).length))), (p, .inr (4, [za ya, za qa, zi (th : Int), zi (fx : Int), zi (d : Int), zi (w : Int)])), (ya, .inl (0, 13, .inl Y)), (qa, .inl (0, 3, .inl Q))]) := hD
          refine Zn.seg (pc2 := 25) (ls2 := [some (za z), some (za p), some (za o), some (zj up0), none, some (zj dn0), none, some (zi (a : Int)), some (zi ((d : Int) + 2 - (pop fx : Int))), some (zi ((i_4 : Int) + 1))]) (st2 := []) [(92, .iinc 9 1), (95, .goto (-70))] (by decide +kernel) rfl ?_
          exact Zn.eq rfl (zcons rfl (zcons rfl (zcons rfl (zcons rfl (zcons rfl (zcons rfl (zcons rfl (zcons rfl (zcons rfl (zcons (congrArg (fun z => some (zi z)) (by omega)) rfl)))))))))) rfl (by first | (rw [msF_2 (f := (msF fx Y Q l up0 dn0 ((d : Int) + 2 - (pop fx : Int)))) (by rw [msF, if_pos ⟨by omega, by omega, by omega⟩])]; done) | (rw [msF_2 (f := (msF fx Y Q l up0 dn0 ((d : Int) + 2 - (pop fx : Int)))) (by rw [msF, if_neg (fun q_ => by omega)])]; done) | (rw [cpF_st (f := (msF fx Y Q l up0 dn0 ((d : Int) + 2 - (pop fx : Int)))) (by rw [msF, if_neg (fun q_ => by omega)])]; done)) (ih_8 ((clL fx (soN l i_4 l.length)).length : Int) (scl (nfX (clL fx (soN l i_4 l.length))) (clL fx (soN l i_4 l.length)).length) (cU fx Y Q (soN l i_4 l.length)) (cD fx Y Q (soN l i_4 l.length)) (cL fx Y Q (soN l i_4 l.length)) (arL ((clL fx (soN l i_4 l.length)).map nX) F_) (cpF (wgt (nfX (clL fx (soN l i_4 l.length))) (clL fx (soN l i_4 l.length)).length) W_ (clL fx (soN l i_4 l.length)).length))
        · have c_16 : ¬ (cD fx Y Q (soN l i_4 l.length) ≠ dn0) := c_16
          refine Zn.seg (pc2 := 91) (ls2 := [some (za z), some (za p), some (za o), some (zj up0), none, some (zj dn0), none, some (zi (a : Int)), some (zi ((d : Int) + 2 - (pop fx : Int))), some (zi (i_4 : Int))]) (st2 := [zi 1, zi (i_4 : Int), za sf]) [(86, .iconst 1), (87, .goto 4)] (by decide +kernel) rfl ?_
          refine Zn.bast hD 2 (i_4) (by decide +kernel) rfl (by decide) (by omega) (by omega) rfl ?_
          refine Zn.eq (h2 := zov ([(z, .inr (2, [za pl, za sf, za wy, zi (l.length : Int)])), (pl, .inl (0, 8, .inl (arL (l.map nPl) PL))), (sf, .inl (2, 256, .inl (va_up (va_up (cpF (msF fx Y Q l up0 dn0 ((d : Int) + 2 - (pop fx : Int))) SF i_4) i_4 0) i_4 1))), (wy, .inl (1, 9, .inl WY)), (o, .inr (1, [za xa, za wa, za ba, zi ((clL fx (soN l i_4 l.length)).length : Int), zj (scl (nfX (clL fx (soN l i_4 l.length))) (clL fx (soN l i_4 l.length)).length), za pa, zj be, zj (cU fx Y Q (soN l i_4 l.length)), zj (cD fx Y Q (soN l i_4 l.length)), zi (cL fx Y Q (soN l i_4 l.length))])), (xa, .inl (0, 5, .inl (arL ((clL fx (soN l i_4 l.length)).map nX) F_))), (wa, .inl (1, 5, .inl (cpF (wgt (nfX (clL fx (soN l i_4 l.length))) (clL fx (soN l i_4 l.length)).length) W_ (clL fx (soN l i_4 l.length)).length))), (p, .inr (4, [za ya, za qa, zi (th : Int), zi (fx : Int), zi (d : Int), zi (w : Int)])), (ya, .inl (0, 13, .inl Y)), (qa, .inl (0, 3, .inl Q))]) h) rfl rfl rfl (rfl) ?_
          have hD : zND ([(z, .inr (2, [za pl, za sf, za wy, zi (l.length : Int)])), (pl, .inl (0, 8, .inl (arL (l.map nPl) PL))), (sf, .inl (2, 256, .inl (va_up (va_up (cpF (msF fx Y Q l up0 dn0 ((d : Int) + 2 - (pop fx : Int))) SF i_4) i_4 0) i_4 1))), (wy, .inl (1, 9, .inl WY)), (o, .inr (1, [za xa, za wa, za ba, zi ((clL fx (soN l i_4 l.length)).length : Int), zj (scl (nfX (clL fx (soN l i_4 l.length))) (clL fx (soN l i_4 l.length)).length), za pa, zj be, zj (cU fx Y Q (soN l i_4 l.length)), zj (cD fx Y Q (soN l i_4 l.length)), zi (cL fx Y Q (soN l i_4 l.length))])), (xa, .inl (0, 5, .inl (arL ((clL fx (soN l i_4 l.length)).map nX) F_))), (wa, .inl (1, 5, .inl (cpF (wgt (nfX (clL fx (soN l i_4 l.length))) (clL fx (soN l i_4 l.length)).length) W_ (clL fx (soN l i_4 l.length)).length))), (p, .inr (4, [za ya, za qa, zi (th : Int), zi (fx : Int), zi (d : Int), zi (w : Int)])), (ya, .inl (0, 13, .inl Y)), (qa, .inl (0, 3, .inl Q))]) := hD
          refine Zn.seg (pc2 := 25) (ls2 := [some (za z), some (za p), some (za o), some (zj up0), none, some (zj dn0), none, some (zi (a : Int)), some (zi ((d : Int) + 2 - (pop fx : Int))), some (zi ((i_4 : Int) + 1))]) (st2 := []) [(92, .iinc 9 1), (95, .goto (-70))] (by decide +kernel) rfl ?_
          exact Zn.eq rfl (zcons rfl (zcons rfl (zcons rfl (zcons rfl (zcons rfl (zcons rfl (zcons rfl (zcons rfl (zcons rfl (zcons (congrArg (fun z => some (zi z)) (by omega)) rfl)))))))))) rfl (by first | (rw [msF_2 (f := (msF fx Y Q l up0 dn0 ((d : Int) + 2 - (pop fx : Int)))) (by rw [msF, if_pos ⟨by omega, by omega, by omega⟩])]; done) | (rw [msF_2 (f := (msF fx Y Q l up0 dn0 ((d : Int) + 2 - (pop fx : Int)))) (by rw [msF, if_neg (fun q_ => by omega)])]; done) | (rw [cpF_st (f := (msF fx Y Q l up0 dn0 ((d : Int) + 2 - (pop fx : Int)))) (by rw [msF, if_neg (fun q_ => by omega)])]; done)) (ih_8 ((clL fx (soN l i_4 l.length)).length : Int) (scl (nfX (clL fx (soN l i_4 l.length))) (clL fx (soN l i_4 l.length)).length) (cU fx Y Q (soN l i_4 l.length)) (cD fx Y Q (soN l i_4 l.length)) (cL fx Y Q (soN l i_4 l.length)) (arL ((clL fx (soN l i_4 l.length)).map nX) F_) (cpF (wgt (nfX (clL fx (soN l i_4 l.length))) (clL fx (soN l i_4 l.length)).length) W_ (clL fx (soN l i_4 l.length)).length))
  · skip
    have hD : zND ([(z, .inr (2, [za pl, za sf, za wy, zi (l.length : Int)])), (pl, .inl (0, 8, .inl (arL (l.map nPl) PL))), (sf, .inl (2, 256, .inl (cpF (msF fx Y Q l up0 dn0 ((d : Int) + 2 - (pop fx : Int))) SF a))), (wy, .inl (1, 9, .inl WY)), (o, .inr (1, [za xa, za wa, za ba, zi nd_, zj sc_, za pa, zj be, zj up_, zj dn_, zi ln_])), (xa, .inl (0, 5, .inl F_)), (wa, .inl (1, 5, .inl W_)), (p, .inr (4, [za ya, za qa, zi (th : Int), zi (fx : Int), zi (d : Int), zi (w : Int)])), (ya, .inl (0, 13, .inl Y)), (qa, .inl (0, 3, .inl Q))]) := hD
    refine Zn.seg (pc2 := 29) (ls2 := [some (za z), some (za p), some (za o), some (zj up0), none, some (zj dn0), none, some (zi (a : Int)), some (zi ((d : Int) + 2 - (pop fx : Int))), some (zi (a : Int))]) (st2 := [zi (a : Int), zi (a : Int)]) [(25, .iload 9), (27, .iload 7)] (by decide +kernel) rfl ?_
    refine Zn.icmp (c := .ge) (off := 69) 98 (by decide +kernel) rfl ⟨by omega, by omega⟩ ⟨by omega, by omega⟩ (fun c_17 => ?_) (fun c_17 => absurd (show (a : Int) ≤ (a : Int) from by omega) c_17)
    have c_17 : (a : Int) ≤ (a : Int) := c_17
    refine Zn.seg (pc2 := 101) (ls2 := [some (za z), some (za p), some (za o), some (zj up0), none, some (zj dn0), none, some (zi (a : Int)), some (zi ((d : Int) + 2 - (pop fx : Int))), some (zi (a : Int))]) (st2 := [zi (a : Int), za z]) [(98, .aload_n 0), (99, .iload 7)] (by decide +kernel) rfl ?_
    refine Zn.call (ins := .invokevirtual 61) [za z, zi (a : Int)] [] (by decide +kernel) rfl rfl rfl ⟨rfl, rfl⟩ ⟨rfl, rfl, rfl⟩ rfl (zrecvV hD (p := 0) rfl rfl rfl) (sp_X2_spreadSafety (z := z) (pl := pl) (sf := sf) (wy := wy) (a := a) (f := l.length) (SF := cpF (msF fx Y Q l up0 dn0 ((d : Int) + 2 - (pop fx : Int))) SF a) (zov_get hD 0 rfl) (zov_get hD 2 rfl) (nd_sub hD [0, 2] rfl rfl) (hl) (ha) (h256) (msF_b)) (fun v h2 hp => ?_)
    obtain ⟨rfl, hq_18⟩ := hp
    refine Zn.eq (pc2 := 104) (ls2 := [some (za z), some (za p), some (za o), some (zj up0), none, some (zj dn0), none, some (zi (a : Int)), some (zi ((d : Int) + 2 - (pop fx : Int))), some (zi (a : Int))]) (st2 := []) (h2 := zov ([(z, .inr (2, [za pl, za sf, za wy, zi (l.length : Int)])), (pl, .inl (0, 8, .inl (arL (l.map nPl) PL))), (sf, .inl (2, 256, .inl (spA (cpF (msF fx Y Q l up0 dn0 ((d : Int) + 2 - (pop fx : Int))) SF a) a l.length))), (wy, .inl (1, 9, .inl WY)), (o, .inr (1, [za xa, za wa, za ba, zi nd_, zj sc_, za pa, zj be, zj up_, zj dn_, zi ln_])), (xa, .inl (0, 5, .inl F_)), (wa, .inl (1, 5, .inl W_)), (p, .inr (4, [za ya, za qa, zi (th : Int), zi (fx : Int), zi (d : Int), zi (w : Int)])), (ya, .inl (0, 13, .inl Y)), (qa, .inl (0, 3, .inl Q))]) h) rfl rfl rfl (hq_18.trans (zov_put hD [0, 2] _ rfl)) ?_
    have hD : zND ([(z, .inr (2, [za pl, za sf, za wy, zi (l.length : Int)])), (pl, .inl (0, 8, .inl (arL (l.map nPl) PL))), (sf, .inl (2, 256, .inl (spA (cpF (msF fx Y Q l up0 dn0 ((d : Int) + 2 - (pop fx : Int))) SF a) a l.length))), (wy, .inl (1, 9, .inl WY)), (o, .inr (1, [za xa, za wa, za ba, zi nd_, zj sc_, za pa, zj be, zj up_, zj dn_, zi ln_])), (xa, .inl (0, 5, .inl F_)), (wa, .inl (1, 5, .inl W_)), (p, .inr (4, [za ya, za qa, zi (th : Int), zi (fx : Int), zi (d : Int), zi (w : Int)])), (ya, .inl (0, 13, .inl Y)), (qa, .inl (0, 3, .inl Q))]) := hD
    refine Zn.seg (pc2 := 107) (ls2 := [some (za z), some (za p), some (za o), some (zj up0), none, some (zj dn0), none, some (zi (a : Int)), some (zi ((d : Int) + 2 - (pop fx : Int))), some (zi (a : Int))]) (st2 := [zi (a : Int), za z]) [(104, .aload_n 0), (105, .iload 7)] (by decide +kernel) rfl ?_
    refine Zn.call (ins := .invokevirtual 64) [za z, zi (a : Int)] [] (by decide +kernel) rfl rfl rfl ⟨rfl, rfl⟩ ⟨rfl, rfl, rfl⟩ rfl (zrecvV hD (p := 0) rfl rfl rfl) (sp_X2_countWays (z := z) (pl := pl) (sf := sf) (wy := wy) (fr := (l.length : Int)) (a := a) (SF := spA (cpF (msF fx Y Q l up0 dn0 ((d : Int) + 2 - (pop fx : Int))) SF a) a l.length) (WY := WY) (zov_get hD 0 rfl) (zov_get hD 2 rfl) (zov_get hD 3 rfl) (nd_sub hD [0, 2, 3] rfl rfl) (h256) (spA_b msF_b _ _)) (fun v h2 hp => ?_)
    obtain ⟨rfl, hq_19⟩ := hp
    refine Zn.eq (pc2 := 110) (ls2 := [some (za z), some (za p), some (za o), some (zj up0), none, some (zj dn0), none, some (zi (a : Int)), some (zi ((d : Int) + 2 - (pop fx : Int))), some (zi (a : Int))]) (st2 := []) (h2 := zov ([(z, .inr (2, [za pl, za sf, za wy, zi (l.length : Int)])), (pl, .inl (0, 8, .inl (arL (l.map nPl) PL))), (sf, .inl (2, 256, .inl (spA (cpF (msF fx Y Q l up0 dn0 ((d : Int) + 2 - (pop fx : Int))) SF a) a l.length))), (wy, .inl (1, 9, .inl (wyA WY (spA (cpF (msF fx Y Q l up0 dn0 ((d : Int) + 2 - (pop fx : Int))) SF a) a l.length) a))), (o, .inr (1, [za xa, za wa, za ba, zi nd_, zj sc_, za pa, zj be, zj up_, zj dn_, zi ln_])), (xa, .inl (0, 5, .inl F_)), (wa, .inl (1, 5, .inl W_)), (p, .inr (4, [za ya, za qa, zi (th : Int), zi (fx : Int), zi (d : Int), zi (w : Int)])), (ya, .inl (0, 13, .inl Y)), (qa, .inl (0, 3, .inl Q))]) h) rfl rfl rfl (hq_19.trans (zov_put hD [0, 2, 3] _ rfl)) ?_
    have hD : zND ([(z, .inr (2, [za pl, za sf, za wy, zi (l.length : Int)])), (pl, .inl (0, 8, .inl (arL (l.map nPl) PL))), (sf, .inl (2, 256, .inl (spA (cpF (msF fx Y Q l up0 dn0 ((d : Int) + 2 - (pop fx : Int))) SF a) a l.length))), (wy, .inl (1, 9, .inl (wyA WY (spA (cpF (msF fx Y Q l up0 dn0 ((d : Int) + 2 - (pop fx : Int))) SF a) a l.length) a))), (o, .inr (1, [za xa, za wa, za ba, zi nd_, zj sc_, za pa, zj be, zj up_, zj dn_, zi ln_])), (xa, .inl (0, 5, .inl F_)), (wa, .inl (1, 5, .inl W_)), (p, .inr (4, [za ya, za qa, zi (th : Int), zi (fx : Int), zi (d : Int), zi (w : Int)])), (ya, .inl (0, 13, .inl Y)), (qa, .inl (0, 3, .inl Q))]) := hD
    exact Zn.vret (by decide +kernel) rfl (⟨nd_, sc_, up_, dn_, ln_, F_, W_, rfl, rfl⟩)
