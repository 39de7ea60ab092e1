/-! how a method is run in the pure machine -/
theorem xdo_mono {call call2 : xCall} (hc : ∀ j av h t r, call j av h t = some r → call2 j av h t = some r) {I : xI} {k j na : Nat} {g g2 : xC} (h : xdo call I k j na g = some g2) : xdo call2 I k j na g = some g2 := by
  have hC : xdoC call I k j na g = some g2 → xdoC call2 I k j na g = some g2 := by
    intro h
    unfold xdoC at h ⊢
    split at h
    · split at h
      · cases hk : call j (g.2.2.1.take na).reverse g.2.2.2.1 g.2.2.2.2.1 with
        | none => rw [hk] at h; cases h
        | some r =>
          rw [hc _ _ _ _ _ hk]
          rw [hk] at h
          exact h
      · cases h
    · cases h
  unfold xdo at h ⊢
  split at h <;> first | exact h | exact hC h
theorem xrun_mono {call call2 : xCall} (hc : ∀ j av h t r, call j av h t = some r → call2 j av h t = some r) {I : xI} {rt : Option FieldType} {r : Option Value × xH × Nat} : ∀ (f f2 : Nat) (g : xC), f ≤ f2 → xrun call I rt f g = some r → xrun call2 I rt f2 g = some r := by
  intro f
  induction f with
  | zero => intro f2 g _ h; cases h
  | succ f ih =>
    intro f2 g hf h
    cases f2 with
    | zero => omega
    | succ f2 =>
      unfold xrun at h ⊢
      split at h
      · cases h
      · split at h
        · exact h
        · split at h
          · split at h
            · rename_i g2 hg
              rw [xdo_mono hc hg]
              exact ih f2 g2 (by omega) h
            · cases h
          · split at h
            · exact ih f2 _ (by omega) h
            · cases h
theorem xsem_mono1 : ∀ (d j : Nat) (av : List Value) (h : xH) (t : Nat) (r : Option Value × xH × Nat), xsem d j av h t = some r → xsem (d + 1) j av h t = some r
  | 0, _, _, _, _, _, h => by cases h
  | d + 1, j, av, h, t, r, hs => by
    unfold xsem at hs ⊢
    split at hs
    · split at hs
      · exact xrun_mono (xsem_mono1 d) _ _ _ (Nat.le_succ d) hs
      · cases hs
    · cases hs
theorem xsem_mono {d d2 j : Nat} {av : List Value} {h : xH} {t : Nat} {r : Option Value × xH × Nat} (hd : d ≤ d2) (hs : xsem d j av h t = some r) : xsem d2 j av h t = some r := by
  induction hd with
  | refl => exact hs
  | step _ ih => exact xsem_mono1 _ _ _ _ _ _ ih
/-- a method that makes nothing, run: its answer and the heap behind it -/
def Ev (j : Nat) (av : List Value) (h : xH) (Q : Option Value → xH → Prop) : Prop := ∀ t, ∃ d r h2, xsem d j av h t = some (r, h2, t) ∧ Q r h2
def Rn (I : xI) (rt : Option FieldType) (pc : Nat) (ls : xLs) (st : List Value) (h : xH) (Q : Option Value → xH → Prop) : Prop := ∀ t, ∃ d f r h2, xrun (xsem d) I rt f (pc, ls, st, h, t, 0, 0) = some (r, h2, t) ∧ Q r h2
theorem Ev.mono {j : Nat} {av : List Value} {h : xH} {Q Q2 : Option Value → xH → Prop} (k : Ev j av h Q) (hq : ∀ r h2, Q r h2 → Q2 r h2) : Ev j av h Q2 := fun t => by
  obtain ⟨d, r, h2, a, b⟩ := k t
  exact ⟨d, r, h2, a, hq r h2 b⟩
/-- a method's body -/
theorem Ev.body {j : Nat} {I : xI} {rt : Option FieldType} {av : List Value} {h : xH} {Q : Option Value → xH → Prop} (ls : xLs) (hI : xtab[j]? = some I) (hrt : xrt[j]? = some rt) (hl : xpad I.2.2.1 (xent av) = ls) (hn : Nat.ble (xent av).length I.2.2.1 = true) (k : Rn I rt 0 ls [] h Q) : Ev j av h Q := fun t => by
  obtain ⟨d, f, r, h2, a, b⟩ := k t
  refine ⟨max d f + 1, r, h2, ?_, b⟩
  unfold xsem
  rw [hI, hrt]
  simp only
  rw [hn, hl]
  exact xrun_mono (fun j av h t r hs => xsem_mono (Nat.le_max_left d f) hs) f _ _ (Nat.le_max_right d f) a
/-- the instructions from pc on -/
def xmatch (L : List (Nat × Instr × Nat)) : List (Nat × Instr) → Bool
  | [] => true
  | q :: l => decide (xget L q.1 = some q.2) && xmatch L l
def xsegL (own : Nat) : List (Nat × Instr) → Nat × xLs × List Value → Option (Nat × xLs × List Value)
  | [], g => some g
  | q :: l, g => match Nat.beq q.1 g.1 with
    | true => match xs1 own q.2 g.1 g.2.1 g.2.2 with
      | some g2 => xsegL own l g2
      | none => none
    | false => none
theorem xs1_plain {own : Nat} {rt : Option FieldType} {ins : Instr} {pc : Nat} {ls : xLs} {st : List Value} {r : Nat × xLs × List Value} (h : xs1 own ins pc ls st = some r) : xret rt ins st = none ∧ xinv own ins = none := by
  unfold xs1 at h
  split at h <;> first | exact ⟨rfl, rfl⟩ | cases h
section RN
variable {I : xI} {rt : Option FieldType} {pc : Nat} {ls : xLs} {st : List Value} {h h2 : xH} {Q : Option Value → xH → Prop} {pc2 : Nat} {ls2 : xLs} {st2 : List Value}
theorem Rn.step {ins : Instr} (hi : xget I.2.1 pc = some ins) (hr : xret rt ins st = none) (hj : xinv I.1 ins = none) (hs : ∀ t, xstep I ins (pc, ls, st, h, t, 0, 0) = some (pc2, ls2, st2, h2, t, 0, 0)) (k : Rn I rt pc2 ls2 st2 h2 Q) : Rn I rt pc ls st h Q := fun t => by
  obtain ⟨d, f, r, h3, a, b⟩ := k t
  refine ⟨d, f + 1, r, h3, ?_, b⟩
  unfold xrun
  simp only [hi, hr, hj, hs]
  exact a
theorem Rn.s1 {ins : Instr} (hi : xget I.2.1 pc = some ins) (hs : xs1 I.1 ins pc ls st = some (pc2, ls2, st2)) (k : Rn I rt pc2 ls2 st2 h Q) : Rn I rt pc ls st h Q := by
  obtain ⟨h1, h2⟩ := xs1_plain (rt := rt) hs
  refine Rn.step hi h1 h2 (fun t => ?_) k
  unfold xstep
  simp only [hs]
theorem Rn.seg : ∀ (L : List (Nat × Instr)) {pc : Nat} {ls : xLs} {st : List Value}, xmatch I.2.1 L = true → xsegL I.1 L (pc, ls, st) = some (pc2, ls2, st2) → Rn I rt pc2 ls2 st2 h Q → Rn I rt pc ls st h Q
  | [], pc, ls, st, _, hs, k => by
    cases hs
    exact k
  | q :: l, pc, ls, st, hm, hs, k => by
    simp only [xmatch, Bool.and_eq_true, decide_eq_true_eq] at hm
    unfold xsegL at hs
    split at hs
    · rename_i hq
      have hq : q.1 = pc := Nat.eq_of_beq_eq_true hq
      split at hs
      · rename_i g2 hg
        obtain ⟨a, b, c⟩ := g2
        exact Rn.s1 (ins := q.2) (by rw [← hq]; exact hm.1) hg (Rn.seg l hm.2 hs k)
      · cases hs
    · cases hs
theorem Rn.s2 {ins : Instr} (hi : xget I.2.1 pc = some ins) (hp : xret rt ins st = none ∧ xinv I.1 ins = none ∧ xs1 I.1 ins pc ls st = none) (hs : ∀ t, xs2 I.1 I.2.2.2.2.2.1 I.2.2.2.2.2.2.1 I.2.2.2.2.2.2.2 ins st h (t, 0, 0) = some (st2, h2, (t, 0, 0))) (k : Rn I rt (pc + xlen ins) ls st2 h2 Q) : Rn I rt pc ls st h Q := by
  refine Rn.step hi hp.1 hp.2.1 (fun t => ?_) k
  unfold xstep
  simp only [hp.2.2, hs]
theorem Rn.s3 {ins : Instr} (hi : xget I.2.1 pc = some ins) (hp : xret rt ins st = none ∧ xinv I.1 ins = none ∧ xs1 I.1 ins pc ls st = none ∧ ∀ n, xs2 I.1 I.2.2.2.2.2.1 I.2.2.2.2.2.2.1 I.2.2.2.2.2.2.2 ins st h n = none) (hs : xs3 ins pc st = some (pc2, st2)) (k : Rn I rt pc2 ls st2 h Q) : Rn I rt pc ls st h Q := by
  refine Rn.step hi hp.1 hp.2.1 (fun t => ?_) k
  unfold xstep
  simp only [hp.2.2.1, hp.2.2.2, hs]
/-- a branch: the second from the top against the top -/
theorem Rn.icmp {c : ClassFile.Cond} {off : Int} {x y : Int32} (tgt : Nat) (hi : xget I.2.1 pc = some (.if_icmp c off)) (ht : xj pc off = some tgt) (kt : xcd c x y = true → Rn I rt tgt ls st h Q) (kf : xcd c x y = false → Rn I rt (pc + 3) ls st h Q) : Rn I rt pc ls (.int y :: .int x :: st) h Q := by
  cases hc : xcd c x y with
  | true => exact Rn.s3 hi ⟨rfl, rfl, rfl, fun _ => rfl⟩ (by simp only [xs3, ht, hc]) (kt hc)
  | false => exact Rn.s3 hi ⟨rfl, rfl, rfl, fun _ => rfl⟩ (by simp only [xs3, ht, hc]) (kf hc)
theorem Rn.ifc {c : ClassFile.Cond} {off : Int} {x : Int32} (tgt : Nat) (hi : xget I.2.1 pc = some (.ifCond c off)) (ht : xj pc off = some tgt) (kt : xcd c x 0 = true → Rn I rt tgt ls st h Q) (kf : xcd c x 0 = false → Rn I rt (pc + 3) ls st h Q) : Rn I rt pc ls (.int x :: st) h Q := by
  cases hc : xcd c x 0 with
  | true => exact Rn.s3 hi ⟨rfl, rfl, rfl, fun _ => rfl⟩ (by simp only [xs3, ht, hc]) (kt hc)
  | false => exact Rn.s3 hi ⟨rfl, rfl, rfl, fun _ => rfl⟩ (by simp only [xs3, ht, hc]) (kf hc)
theorem Rn.tsw {d lo hh : Int} {offs : Array Int} {x : Int32} (tgt : Nat) (hi : xget I.2.1 pc = some (.tableswitch d lo hh offs)) (hs : xs3 (.tableswitch d lo hh offs) pc (.int x :: st) = some (tgt, st)) (k : Rn I rt tgt ls st h Q) : Rn I rt pc ls (.int x :: st) h Q :=
  Rn.s3 hi ⟨rfl, rfl, rfl, fun _ => rfl⟩ hs k
theorem Rn.lsw {d : Int} {ps : Array (Int × Int)} {x : Int32} (tgt : Nat) (hi : xget I.2.1 pc = some (.lookupswitch d ps)) (hs : xs3 (.lookupswitch d ps) pc (.int x :: st) = some (tgt, st)) (k : Rn I rt tgt ls st h Q) : Rn I rt pc ls (.int x :: st) h Q :=
  Rn.s3 hi ⟨rfl, rfl, rfl, fun _ => rfl⟩ hs k
theorem Rn.get {ix ci k a : Nat} {fs : List Value} {v : Value} (hi : xget I.2.1 pc = some (.getfield ix)) (hf : xas (xfldT I.1) ix = some (ci, k)) (ho : h a = .inr (ci, fs)) (hv : fs[k]? = some v) (kk : Rn I rt (pc + 3) ls (v :: st) h Q) : Rn I rt pc ls (.ref a :: st) h Q :=
  Rn.s2 hi ⟨rfl, rfl, rfl⟩ (fun t => by simp only [xs2, xgf, hf, ho, hv, Nat.beq_refl]) kk
theorem Rn.put {ix ci k a : Nat} {fs : List Value} {v : Value} (hi : xget I.2.1 pc = some (.putfield ix)) (hf : xas (xfldT I.1) ix = some (ci, k)) (ho : h a = .inr (ci, fs)) (hok : xok (xFt ci k) v = true ∧ (Nat.blt k fs.length && Nat.blt k (xFn ci)) = true ∧ (!(xF ci k).2.2.2 || (I.2.2.2.2.2.2.2 && Nat.beq I.1 ci)) = true) (kk : Rn I rt (pc + 3) ls st (va_up h a (.inr (ci, fs.set k v))) Q) : Rn I rt pc ls (v :: .ref a :: st) h Q :=
  Rn.s2 hi ⟨rfl, rfl, rfl⟩ (fun t => by simp only [xs2, xpf, hf, ho, hok.1, hok.2.1, hok.2.2, Nat.beq_refl, Bool.and_self]) kk
theorem xin_of {i : Int32} {n : Nat} (h : vp_in i n) : xin i n = true := by
  unfold xin
  simp only [Bool.and_eq_true, Bool.not_eq_true', decide_eq_false_iff_not]
  refine ⟨fun q => h (Or.inl q), ?_⟩
  have h1 : ¬ n ≤ i.toNatClampNeg := fun q => h (Or.inr q)
  simp [Nat.blt]
  omega
theorem Rn.iald {a n : Nat} {f : Nat → Int32} {i : Int32} (hi : xget I.2.1 pc = some .iaload) (ho : h a = .inl (0, n, .inl f)) (hin : vp_in i n) (kk : Rn I rt (pc + 1) ls (.int (f i.toNatClampNeg) :: st) h Q) : Rn I rt pc ls (.int i :: .ref a :: st) h Q :=
  Rn.s2 hi ⟨rfl, rfl, rfl⟩ (fun t => by simp only [xs2, ho, xin_of hin]) kk
theorem Rn.lald {a n : Nat} {f : Nat → Int64} {i : Int32} (hi : xget I.2.1 pc = some .laload) (ho : h a = .inl (1, n, .inr (.inl f))) (hin : vp_in i n) (kk : Rn I rt (pc + 1) ls (.long (f i.toNatClampNeg) :: st) h Q) : Rn I rt pc ls (.int i :: .ref a :: st) h Q :=
  Rn.s2 hi ⟨rfl, rfl, rfl⟩ (fun t => by simp only [xs2, ho, xin_of hin]) kk
theorem Rn.bald {a n : Nat} {f : Nat → Int32} {i : Int32} (hi : xget I.2.1 pc = some .baload) (ho : h a = .inl (2, n, .inl f)) (hin : vp_in i n) (kk : Rn I rt (pc + 1) ls (.int (f i.toNatClampNeg) :: st) h Q) : Rn I rt pc ls (.int i :: .ref a :: st) h Q :=
  Rn.s2 hi ⟨rfl, rfl, rfl⟩ (fun t => by simp only [xs2, ho, xin_of hin]) kk
theorem Rn.aald {a n t0 : Nat} {f : Nat → Option Nat} {i : Int32} (hi : xget I.2.1 pc = some .aaload) (ho : h a = .inl (t0, n, .inr (.inr (.inr (.inr f))))) (ht : (Nat.beq t0 3 || Nat.beq t0 4) = true) (hin : vp_in i n) (kk : Rn I rt (pc + 1) ls (va_rf (f i.toNatClampNeg) :: st) h Q) : Rn I rt pc ls (.int i :: .ref a :: st) h Q :=
  Rn.s2 hi ⟨rfl, rfl, rfl⟩ (fun t => by simp only [xs2, ho, xin_of hin, ht, Bool.and_self]) kk
theorem Rn.iast {a n : Nat} {f : Nat → Int32} {i x : Int32} (hi : xget I.2.1 pc = some .iastore) (ho : h a = .inl (0, n, .inl f)) (hin : vp_in i n) (kk : Rn I rt (pc + 1) ls st (va_up h a (.inl (0, n, .inl (upd f i.toNatClampNeg x)))) Q) : Rn I rt pc ls (.int x :: .int i :: .ref a :: st) h Q :=
  Rn.s2 hi ⟨rfl, rfl, rfl⟩ (fun t => by simp only [xs2, ho, xin_of hin]) kk
theorem Rn.last {a n : Nat} {f : Nat → Int64} {i : Int32} {x : Int64} (hi : xget I.2.1 pc = some .lastore) (ho : h a = .inl (1, n, .inr (.inl f))) (hin : vp_in i n) (kk : Rn I rt (pc + 1) ls st (va_up h a (.inl (1, n, .inr (.inl (vp_updL f i.toNatClampNeg x))))) Q) : Rn I rt pc ls (.long x :: .int i :: .ref a :: st) h Q :=
  Rn.s2 hi ⟨rfl, rfl, rfl⟩ (fun t => by simp only [xs2, ho, xin_of hin]) kk
theorem Rn.bast {a n : Nat} {f : Nat → Int32} {i x : Int32} (hi : xget I.2.1 pc = some .bastore) (ho : h a = .inl (2, n, .inl f)) (hin : vp_in i n) (kk : Rn I rt (pc + 1) ls st (va_up h a (.inl (2, n, .inl (upd f i.toNatClampNeg (vp_nar .boolean x))))) Q) : Rn I rt pc ls (.int x :: .int i :: .ref a :: st) h Q :=
  Rn.s2 hi ⟨rfl, rfl, rfl⟩ (fun t => by simp only [xs2, ho, xin_of hin]) kk
theorem Rn.aast {a n t0 x ci : Nat} {fs : List Value} {f : Nat → Option Nat} {i : Int32} (hi : xget I.2.1 pc = some .aastore) (ho : h a = .inl (t0, n, .inr (.inr (.inr (.inr f))))) (hx : h x = .inr (ci, fs)) (ht : ((Nat.beq t0 3 && Nat.beq ci 5) || (Nat.beq t0 4 && Nat.beq ci 4)) = true) (hin : vp_in i n) (kk : Rn I rt (pc + 1) ls st (va_up h a (.inl (t0, n, .inr (.inr (.inr (.inr (va_up f i.toNatClampNeg (some x)))))))) Q) : Rn I rt pc ls (.ref x :: .int i :: .ref a :: st) h Q :=
  Rn.s2 hi ⟨rfl, rfl, rfl⟩ (fun t => by simp only [xs2, ho, hx, xin_of hin, ht, Bool.and_self]) kk
theorem Rn.idiv {x y : Int32} (hi : xget I.2.1 pc = some .idiv) (hy : ¬ y = 0) (kk : Rn I rt (pc + 1) ls (.int (x / y) :: st) h Q) : Rn I rt pc ls (.int y :: .int x :: st) h Q :=
  Rn.s2 hi ⟨rfl, rfl, rfl⟩ (fun t => by simp only [xs2, decide_eq_false hy]) kk
theorem Rn.irem {x y : Int32} (hi : xget I.2.1 pc = some .irem) (hy : ¬ y = 0) (kk : Rn I rt (pc + 1) ls (.int (x - x / y * y) :: st) h Q) : Rn I rt pc ls (.int y :: .int x :: st) h Q :=
  Rn.s2 hi ⟨rfl, rfl, rfl⟩ (fun t => by simp only [xs2, decide_eq_false hy]) kk
theorem Rn.ldiv {x y : Int64} (hi : xget I.2.1 pc = some .ldiv) (hy : ¬ y = 0) (kk : Rn I rt (pc + 1) ls (.long (x / y) :: st) h Q) : Rn I rt pc ls (.long y :: .long x :: st) h Q :=
  Rn.s2 hi ⟨rfl, rfl, rfl⟩ (fun t => by simp only [xs2, decide_eq_false hy]) kk
theorem Rn.lrem {x y : Int64} (hi : xget I.2.1 pc = some .lrem) (hy : ¬ y = 0) (kk : Rn I rt (pc + 1) ls (.long (x - x / y * y) :: st) h Q) : Rn I rt pc ls (.long y :: .long x :: st) h Q :=
  Rn.s2 hi ⟨rfl, rfl, rfl⟩ (fun t => by simp only [xs2, decide_eq_false hy]) kk
/-- returns -/
theorem Rn.ret {ins : Instr} {v : Option Value} (hi : xget I.2.1 pc = some ins) (hr : xret rt ins st = some v) (hq : Q v h) : Rn I rt pc ls st h Q := fun t => by
  refine ⟨0, 1, v, h, ?_, hq⟩
  unfold xrun
  simp only [hi, hr]
  rfl
/-- calls -/
theorem Rn.call {ins : Instr} {k j na : Nat} {J : xI} {Q1 : Option Value → xH → Prop} (av rest : List Value) (hi : xget I.2.1 pc = some ins) (hj : xinv I.1 ins = some (k, j, na)) (hk : Nat.blt k 5 = true) (hJ : xtab[j]? = some J) (hmc : J.2.2.2.2.2.1 = 0 ∧ J.2.2.2.2.2.2.1 = 0) (hst : (st.take na).reverse = av ∧ st.drop na = rest ∧ Nat.ble na st.length = true) (hok : (Nat.ble (xsum rest) 8 && xfit I J (0, 0, 0)) = true) (hrec : xrecv k J.1 h av = true)
    (he : Ev j av h Q1) (kk : ∀ r h2, Q1 r h2 → Rn I rt (pc + 3) ls (r.toList ++ rest) h2 Q) : Rn I rt pc ls st h Q := fun t => by
  obtain ⟨d1, r1, h1, a1, b1⟩ := he t
  obtain ⟨d2, f, r, h3, a2, b2⟩ := kk r1 h1 b1 t
  obtain ⟨e1, e2, e3⟩ := hst
  simp only [Bool.and_eq_true] at hok
  refine ⟨max d1 d2, f + 1, r, h3, ?_, b2⟩
  have hret : xret rt ins st = none := by
    unfold xinv at hj
    split at hj <;> first | rfl | cases hj
  have hdo : xdo (xsem (max d1 d2)) I k j na (pc, ls, st, h, t, 0, 0) = some (pc + 3, ls, r1.toList ++ rest, h1, t, 0, 0) := by
    have hC : xdoC (xsem (max d1 d2)) I k j na (pc, ls, st, h, t, 0, 0) = some (pc + 3, ls, r1.toList ++ rest, h1, t, 0, 0) := by
      have hfit : xfit I J (t, 0, 0) = true := hok.2
      simp only [xdoC, hJ, e1, e2, e3, hok.1, hrec, hfit, xsem_mono (Nat.le_max_left d1 d2) a1, hmc.1, hmc.2, Bool.and_self, Nat.add_zero, decide_true]
    have hlt := xblt hk
    rcases (show k = 0 ∨ k = 1 ∨ k = 2 ∨ k = 3 ∨ k = 4 by omega) with rfl | rfl | rfl | rfl | rfl <;> exact hC
  unfold xrun
  simp only [hi, hret, hj, hdo]
  exact xrun_mono (fun j av h t r hs => xsem_mono (Nat.le_max_right d1 d2) hs) f f _ (Nat.le_refl f) a2
theorem Rn.math {ins : Instr} {k j na : Nat} {v : Value} {r : List Value} (hi : xget I.2.1 pc = some ins) (hj : xinv I.1 ins = some (k, j, na)) (hk : k = 7 ∨ k = 8 ∨ k = 9) (hm : xmath k st = some (v, r)) (hok : (Nat.ble 1 I.2.2.2.1 && Nat.ble (xsum r + 13) I.2.2.2.2.1) = true) (kk : Rn I rt (pc + 3) ls (v :: r) h Q) : Rn I rt pc ls st h Q := fun t => by
  obtain ⟨d2, f, r2, h3, a2, b2⟩ := kk t
  refine ⟨d2, f + 1, r2, h3, ?_, b2⟩
  have hret : xret rt ins st = none := by
    unfold xinv at hj
    split at hj <;> first | rfl | cases hj
  have hdo : xdo (xsem d2) I k j na (pc, ls, st, h, t, 0, 0) = some (pc + 3, ls, v :: r, h, t, 0, 0) := by
    rcases hk with rfl | rfl | rfl <;> simp only [xdo, xdoM, hm, hok]
  unfold xrun
  simp only [hi, hret, hj, hdo]
  exact a2
theorem Rn.acopy {ins : Instr} {j na : Nat} {r : List Value} (hi : xget I.2.1 pc = some ins) (hj : xinv I.1 ins = some (6, j, na)) (hm : xcopy st h = some (r, h2)) (hok : (Nat.ble 1 I.2.2.2.1 && Nat.ble (xsum r + 18) I.2.2.2.2.1) = true) (kk : Rn I rt (pc + 3) ls r h2 Q) : Rn I rt pc ls st h Q := fun t => by
  obtain ⟨d2, f, r2, h3, a2, b2⟩ := kk t
  refine ⟨d2, f + 1, r2, h3, ?_, b2⟩
  have hret : xret rt ins st = none := by
    unfold xinv at hj
    split at hj <;> first | rfl | cases hj
  have hdo : xdo (xsem d2) I 6 j na (pc, ls, st, h, t, 0, 0) = some (pc + 3, ls, r, h2, t, 0, 0) := by
    simp only [xdo, xdoA, hm, hok]
  unfold xrun
  simp only [hi, hret, hj, hdo]
  exact a2
theorem Rn.mono {Q2 : Option Value → xH → Prop} (k : Rn I rt pc ls st h Q) (hq : ∀ r h2, Q r h2 → Q2 r h2) : Rn I rt pc ls st h Q2 := fun t => by
  obtain ⟨d, f, r, h2, a, b⟩ := k t
  exact ⟨d, f, r, h2, a, hq r h2 b⟩
end RN
/-- a loop whose configurations are told by its turn -/
theorem xloop {P : Nat → Prop} (n : Nat) (hs : ∀ i, i < n → P (i + 1) → P i) (hn : P n) : P 0 := by
  have h : ∀ k, k ≤ n → P (n - k) := by
    intro k
    induction k with
    | zero => intro _; exact hn
    | succ k ih =>
      intro hk
      refine hs (n - (k + 1)) (by omega) ?_
      have e : n - (k + 1) + 1 = n - k := by omega
      rw [e]
      exact ih (by omega)
  have h0 := h n (Nat.le_refl n)
  rwa [Nat.sub_self] at h0
/-! cells laid over a heap -/
def ov : List (Nat × xE) → xH → xH
  | [], h => h
  | q :: l, h => va_up (ov l h) q.1 q.2
theorem va_up_s {α : Type} (f : Nat → α) (k : Nat) (v : α) : va_up f k v k = v := by simp [va_up]
theorem va_up_n {α : Type} {f : Nat → α} {k j : Nat} {v : α} (h : j ≠ k) : va_up f k v j = f j := by simp [va_up, h]
theorem ov_out : ∀ {L : List (Nat × xE)} {h : xH} {a : Nat}, a ∉ L.map Prod.fst → ov L h a = h a
  | [], h, a, _ => rfl
  | q :: l, h, a, hn => by
    simp only [List.map_cons, List.mem_cons, not_or] at hn
    show va_up _ _ _ a = _
    rw [va_up_n hn.1]
    exact ov_out hn.2
theorem ov_get : ∀ {L : List (Nat × xE)} {h : xH} (_ : (L.map Prod.fst).Nodup) (i : Nat) {a : Nat} {c : xE}, L[i]? = some (a, c) → ov L h a = c
  | q :: l, h, hD, 0, a, c, hi => by
    cases hi
    exact va_up_s _ _ _
  | q :: l, h, hD, i + 1, a, c, hi => by
    simp only [List.map_cons, List.nodup_cons] at hD
    have hm : a ∈ l.map Prod.fst := List.mem_map.mpr ⟨_, List.mem_of_getElem? hi, rfl⟩
    show va_up _ _ _ a = _
    rw [va_up_n (fun e => hD.1 (by rw [← e]; exact hm))]
    exact ov_get hD.2 i hi
theorem ov_set : ∀ {L : List (Nat × xE)} {h : xH} (_ : (L.map Prod.fst).Nodup) (i : Nat) {a : Nat} {c d : xE}, L[i]? = some (a, c) → va_up (ov L h) a d = ov (L.set i (a, d)) h
  | q :: l, h, hD, 0, a, c, d, hi => by
    cases hi
    funext x
    simp only [ov, List.set, va_up]
    split <;> rfl
  | q :: l, h, hD, i + 1, a, c, d, hi => by
    simp only [List.map_cons, List.nodup_cons] at hD
    have hm : a ∈ l.map Prod.fst := List.mem_map.mpr ⟨_, List.mem_of_getElem? hi, rfl⟩
    have ih := ov_set (h := h) (d := d) hD.2 i hi
    simp only [ov, List.set]
    rw [← ih]
    funext x
    simp only [va_up]
    by_cases e1 : x = a
    · by_cases e2 : x = q.1
      · exact absurd (by rw [← e2, e1]; exact hm) hD.1
      · rw [if_pos e1, if_neg e2, if_pos e1]
    · rw [if_neg e1]
      split <;> simp [e1]
/-- cells that are there already -/
theorem ov_self : ∀ {L : List (Nat × xE)} {h : xH}, (∀ q ∈ L, h q.1 = q.2) → h = ov L h
  | [], h, _ => rfl
  | q :: l, h, hq => by
    have ih := ov_self (L := l) (h := h) (fun x hx => hq x (List.mem_cons_of_mem _ hx))
    show h = va_up (ov l h) q.1 q.2
    rw [← ih]
    funext x
    simp only [va_up]
    split
    · rename_i e
      rw [e]
      exact hq q List.mem_cons_self
    · rfl
def ovs : List (Nat × xE) → List Nat → List (Nat × xE) → List (Nat × xE)
  | L, p :: ps, m :: M => (ovs L ps M).set p m
  | L, _, _ => L
theorem ovs_fst : ∀ (ps : List Nat) (M L : List (Nat × xE)), ps.map (fun p => (L[p]?).map Prod.fst) = M.map (fun m => some m.1) → (ovs L ps M).map Prod.fst = L.map Prod.fst
  | [], M, L, _ => by simp [ovs]
  | p :: ps, [], L, h => by simp at h
  | p :: ps, m :: M, L, h => by
    simp only [List.map_cons, List.cons.injEq] at h
    have ih := ovs_fst ps M L h.2
    simp only [ovs, List.map_set, ih]
    apply List.ext_getElem?
    intro k
    rw [List.getElem?_set]
    split
    · rename_i e
      subst e
      rw [List.getElem?_map, h.1]
      split
      · rfl
      · rename_i hl
        simp at hl
        rw [List.getElem?_eq_none hl] at h
        simp at h
    · rfl
theorem ov_put : ∀ (ps : List Nat) (M L : List (Nat × xE)) {h : xH} (_ : (L.map Prod.fst).Nodup), ps.map (fun p => (L[p]?).map Prod.fst) = M.map (fun m => some m.1) → ov M (ov L h) = ov (ovs L ps M) h
  | [], [], L, h, hD, _ => by simp [ovs, ov]
  | [], m :: M, L, h, hD, hp => by simp at hp
  | p :: ps, [], L, h, hD, hp => by simp at hp
  | p :: ps, m :: M, L, h, hD, hp => by
    simp only [List.map_cons, List.cons.injEq] at hp
    have ih := ov_put ps M L (h := h) hD hp.2
    have hf := ovs_fst ps M L hp.2
    have h1 : ((ovs L ps M)[p]?).map Prod.fst = some m.1 := by
      rw [← List.getElem?_map, hf, List.getElem?_map]
      exact hp.1
    show va_up (ov M (ov L h)) m.1 m.2 = ov ((ovs L ps M).set p m) h
    rw [ih]
    cases hq : (ovs L ps M)[p]? with
    | none => rw [hq] at h1; cases h1
    | some q =>
      rw [hq] at h1
      obtain ⟨q1, q2⟩ := q
      have h2 : q1 = m.1 := Option.some.inj h1
      subst h2
      exact ov_set (by rw [hf]; exact hD) p hq
/-- fewer addresses, by their places -/
theorem nd_sub {l l2 : List Nat} (h : l.Nodup) (ps : List Nat) (hp : va_nd ps = true) (hl : ps.map (fun p => l[p]?) = l2.map some) : l2.Nodup := by
  refine List.pairwise_iff_getElem.mpr fun i j hi hj hij he => ?_
  have hlen : ps.length = l2.length := by simpa using congrArg List.length hl
  have a1 : ∀ k, k < l2.length → ∃ p, ps[k]? = some p ∧ l[p]? = l2[k]? := by
    intro k hk
    have h1 := congrArg (fun z => z[k]?) hl
    simp only [List.getElem?_map] at h1
    cases hq : ps[k]? with
    | none => rw [List.getElem?_eq_none_iff] at hq; omega
    | some p =>
      rw [hq] at h1
      refine ⟨p, rfl, ?_⟩
      rw [List.getElem?_eq_getElem hk] at h1 ⊢
      simpa using h1
  obtain ⟨p, hp1, hp2⟩ := a1 i hi
  obtain ⟨q, hq1, hq2⟩ := a1 j hj
  have e1 : l[p]? = l[q]? := by rw [hp2, hq2, List.getElem?_eq_getElem hi, List.getElem?_eq_getElem hj, he]
  have hlt : p < l.length := by
    cases hz : l[p]? with
    | none => rw [hz] at hp2; rw [List.getElem?_eq_getElem hi] at hp2; cases hp2
    | some _ => exact (List.getElem?_eq_some_iff.mp hz).1
  have e2 : p = q := (List.getElem?_inj hlt h).mp e1
  subst e2
  have := va_nd_inj ps hp i j p hp1 hq1
  omega
