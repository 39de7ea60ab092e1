/-! rules over whole numbers -/
def zent : List zV → zLs
  | [] => []
  | .inr (.inl v) :: l => some (.inr (.inl v)) :: none :: zent l
  | v :: l => some v :: zent l
def zpad : Nat → zLs → zLs
  | 0, l => l
  | n + 1, [] => none :: zpad n []
  | n + 1, x :: l => x :: zpad n l
theorem zent_x : ∀ l : List zV, xent (l.map zc) = zmp (zent l)
  | [] => rfl
  | .inl z :: l => by
    have := zent_x l
    simp only [zmp] at this
    simp only [List.map_cons, zc, xent, zent, zmp, this, Option.map_some]
  | .inr (.inl z) :: l => by
    have := zent_x l
    simp only [zmp] at this
    simp only [List.map_cons, zc, xent, zent, zmp, this, Option.map_some, Option.map_none]
  | .inr (.inr z) :: l => by
    have := zent_x l
    simp only [zmp] at this
    simp only [List.map_cons, zc, xent, zent, zmp, this, Option.map_some]
theorem zpad_x : ∀ (n : Nat) (l : zLs), xpad n (zmp l) = zmp (zpad n l)
  | 0, l => rfl
  | n + 1, [] => by
    have := zpad_x n []
    simp only [zmp, List.map_nil] at this
    simp only [zmp, List.map_nil, xpad, zpad, List.map_cons, this, Option.map_none]
  | n + 1, x :: l => by
    have := zpad_x n l
    simp only [zmp] at this
    simp only [zmp, List.map_cons, xpad, zpad, this]
theorem zEv.body {j : Nat} {I : xI} {rt : Option FieldType} {av : List zV} {h : xH} {P : Option zV → xH → Prop} (ls : zLs) (hI : xtab[j]? = some I) (hrt : xrt[j]? = some rt) (hl : zpad I.2.2.1 (zent av) = ls) (hn : Nat.ble (zent av).length I.2.2.1 = true) (k : Zn I rt 0 ls [] h P) : zEv j av h P := by
  refine Ev.body (ls := zmp ls) hI hrt (by rw [zent_x, zpad_x, hl]) (by rw [zent_x, List.length_map]; exact hn) k
theorem zEv.mono {j : Nat} {av : List zV} {h : xH} {P P2 : Option zV → xH → Prop} (k : zEv j av h P) (hq : ∀ v h2, P v h2 → P2 v h2) : zEv j av h P2 := Ev.mono k fun _ _ ⟨v, a, b⟩ => ⟨v, a, hq v _ b⟩
def zseg (own : Nat) : List (Nat × Instr) → Nat × zLs × List zV → Option (Nat × zLs × List zV)
  | [], g => some g
  | q :: l, g => match Nat.beq q.1 g.1 with
    | true => match zs1 own q.2 g.1 g.2.1 g.2.2 with
      | some g2 => zseg own l g2
      | none => none
    | false => none
theorem zseg_x {own : Nat} : ∀ (L : List (Nat × Instr)) (g g2 : Nat × zLs × List zV), zseg own L g = some g2 → xsegL own L (zx g) = some (zx g2)
  | [], g, g2, h => by cases h; rfl
  | q :: l, g, g2, h => by
    unfold zseg at h
    unfold xsegL
    split at h
    · rename_i hq
      have hq2 : Nat.beq q.1 (zx g).1 = true := hq
      rw [hq2]
      simp only
      split at h
      · rename_i g3 h3
        have h4 : xs1 own q.2 (zx g).1 (zx g).2.1 (zx g).2.2 = some (zx g3) := zs1_x h3
        rw [h4]
        exact zseg_x l g3 g2 h
      · cases h
    · cases h
def zcd (c : ClassFile.Cond) (x y : Int) : Prop := match c with
  | .eq => x = y
  | .ne => x ≠ y
  | .lt => x < y
  | .ge => y ≤ x
  | .gt => y < x
  | .le => x ≤ y
theorem zcd_x {c : ClassFile.Cond} {x y : Int} (hx : zInI x) (hy : zInI y) : xcd c (zI x) (zI y) = true ↔ zcd c x y := by
  cases c <;> simp only [xcd, zcd, decide_eq_true_eq, Bool.not_eq_true', decide_eq_false_iff_not, ne_eq, zI_inj hx hy, zI_lt hx hy, zI_lt hy hx, zI_le hx hy, zI_le hy hx]
def zok : FieldType → zV → Bool
  | .int, .inl _ => true
  | .long, .inr (.inl _) => true
  | .boolean, .inl z => decide (z = 0) || decide (z = 1)
  | .object _, .inr (.inr _) => true
  | .array _, .inr (.inr _) => true
  | _, _ => false
theorem zok_x {ty : FieldType} {v : zV} (h : zok ty v = true) : xok ty (zc v) = true := by
  unfold zok at h
  split at h <;> first | rfl | cases h | skip
  rename_i z
  simp only [Bool.or_eq_true, decide_eq_true_eq] at h
  rcases h with rfl | rfl <;> decide
theorem zabsI {x : Int} (hx : zInI x) : (if 0 ≤ zI x then zI x else 0 - zI x) = zI (x.natAbs : Int) := by
  have h0 : (0 : Int32) = zI 0 := rfl
  have hz : zInI 0 := ⟨by decide, by decide⟩
  rw [h0]
  split
  · rename_i h
    have h := (zI_le hz hx).mp h
    rw [Int.natAbs_of_nonneg h]
  · rename_i h
    have h : ¬ 0 ≤ x := fun q => h ((zI_le hz hx).mpr q)
    rw [zI_sub]
    congr 1
    omega
theorem zabsJ {x : Int} (hx : zInL x) : (if 0 < zJ x then zJ x else -zJ x) = zJ (x.natAbs : Int) := by
  have h0 : (0 : Int64) = zJ 0 := rfl
  have hz : zInL 0 := ⟨by decide, by decide⟩
  rw [h0]
  split
  · rename_i h
    have h := (zJ_lt hz hx).mp h
    congr 1
    omega
  · rename_i h
    have h : ¬ 0 < x := fun q => h ((zJ_lt hz hx).mpr q)
    rw [zJ_neg]
    congr 1
    omega
theorem zminI {x y : Int} (hx : zInI x) (hy : zInI y) : (if zI y < zI x then zI y else zI x) = zI (min x y) := by
  split
  · rename_i h
    have h := (zI_lt hy hx).mp h
    congr 1
    omega
  · rename_i h
    have h : ¬ y < x := fun q => h ((zI_lt hy hx).mpr q)
    congr 1
    omega
theorem zup_I (f : Nat → Int) (k : Nat) (v : Int) : upd (fun j => zI (f j)) k (zI v) = fun j => zI (va_up f k v j) := by
  funext j
  simp only [upd, va_up]
  split <;> rfl
theorem zup_J (f : Nat → Int) (k : Nat) (v : Int) : vp_updL (fun j => zJ (f j)) k (zJ v) = fun j => zJ (va_up f k v j) := by
  funext j
  simp only [vp_updL, va_up]
  split <;> rfl
section ZN
variable {I : xI} {rt : Option FieldType} {pc : Nat} {ls : zLs} {st : List zV} {h0 : xH} {h : xH} {L : zM} {P : Option zV → xH → Prop} {pc2 : Nat} {ls2 : zLs} {st2 : List zV}
theorem Zn.seg (S : List (Nat × Instr)) (hm : xmatch I.2.1 S = true) (hs : zseg I.1 S (pc, ls, st) = some (pc2, ls2, st2)) (k : Zn I rt pc2 ls2 st2 h P) : Zn I rt pc ls st h P :=
  Rn.seg S hm (zseg_x S _ _ hs) k
theorem Zn.get {ix ci k a : Nat} {fs : List zV} {v : zV} (hD : (L.map Prod.fst).Nodup) (p : Nat) (hi : xget I.2.1 pc = some (.getfield ix)) (hf : xas (xfldT I.1) ix = some (ci, k)) (ho : L[p]? = some (a, .inr (ci, fs))) (hv : fs[k]? = some v) (kk : Zn I rt (pc + 3) ls (v :: st) (zov L h0) P) : Zn I rt pc ls (.inr (.inr a) :: st) (zov L h0) P :=
  Rn.get hi hf (zov_get hD p ho) (by rw [List.getElem?_map, hv]; rfl) kk
theorem Zn.put {ix ci k a : Nat} {fs : List zV} {v : zV} (hD : (L.map Prod.fst).Nodup) (p : Nat) (hi : xget I.2.1 pc = some (.putfield ix)) (hf : xas (xfldT I.1) ix = some (ci, k)) (ho : L[p]? = some (a, .inr (ci, fs))) (hok : zok (xFt ci k) v = true) (hk : (Nat.blt k fs.length && Nat.blt k (xFn ci)) = true) (hfin : (!(xF ci k).2.2.2 || (I.2.2.2.2.2.2.2 && Nat.beq I.1 ci)) = true) (kk : Zn I rt (pc + 3) ls st (zov (L.set p (a, .inr (ci, fs.set k v))) h0) P) : Zn I rt pc ls (v :: .inr (.inr a) :: st) (zov L h0) P := by
  refine Rn.put hi hf (zov_get hD p ho) ⟨zok_x hok, by rw [List.length_map]; exact hk, hfin⟩ ?_
  have e : va_up (zov L h0) a (Sum.inr (ci, (fs.map zc).set k (zc v))) = zov (L.set p (a, .inr (ci, fs.set k v))) h0 := by
    rw [← zov_set hD p ho]
    simp only [zcE, List.map_set]
  rw [e]
  exact kk
theorem Zn.iald {a n : Nat} {f : Nat → Int} {z : Int} (hD : (L.map Prod.fst).Nodup) (p i : Nat) (hi : xget I.2.1 pc = some .iaload) (ho : L[p]? = some (a, .inl (0, n, .inl f))) (hz : z = (i : Int)) (hin : i < n) (hn : Nat.ble n 2147483647 = true) (kk : Zn I rt (pc + 1) ls (.inl (f i) :: st) (zov L h0) P) : Zn I rt pc ls (.inl z :: .inr (.inr a) :: st) (zov L h0) P := by
  subst hz
  have hn := xble hn
  refine Rn.iald hi (zov_get hD p ho) (zI_in (by omega) (by omega) (by omega)) ?_
  rw [zI_cl (by omega) (by omega)]
  exact kk
theorem Zn.bald {a n : Nat} {f : Nat → Int} {z : Int} (hD : (L.map Prod.fst).Nodup) (p i : Nat) (hi : xget I.2.1 pc = some .baload) (ho : L[p]? = some (a, .inl (2, n, .inl f))) (hz : z = (i : Int)) (hin : i < n) (hn : Nat.ble n 2147483647 = true) (kk : Zn I rt (pc + 1) ls (.inl (f i) :: st) (zov L h0) P) : Zn I rt pc ls (.inl z :: .inr (.inr a) :: st) (zov L h0) P := by
  subst hz
  have hn := xble hn
  refine Rn.bald hi (zov_get hD p ho) (zI_in (by omega) (by omega) (by omega)) ?_
  rw [zI_cl (by omega) (by omega)]
  exact kk
theorem Zn.lald {a n : Nat} {f : Nat → Int} {z : Int} (hD : (L.map Prod.fst).Nodup) (p i : Nat) (hi : xget I.2.1 pc = some .laload) (ho : L[p]? = some (a, .inl (1, n, .inl f))) (hz : z = (i : Int)) (hin : i < n) (hn : Nat.ble n 2147483647 = true) (kk : Zn I rt (pc + 1) ls (.inr (.inl (f i)) :: st) (zov L h0) P) : Zn I rt pc ls (.inl z :: .inr (.inr a) :: st) (zov L h0) P := by
  subst hz
  have hn := xble hn
  refine Rn.lald hi (zov_get hD p ho) (zI_in (by omega) (by omega) (by omega)) ?_
  rw [zI_cl (by omega) (by omega)]
  exact kk
theorem Zn.aald {a n t0 b : Nat} {f : Nat → Option Nat} {z : Int} (hD : (L.map Prod.fst).Nodup) (p i : Nat) (hi : xget I.2.1 pc = some .aaload) (ho : L[p]? = some (a, .inl (t0, n, .inr f))) (ht : (Nat.beq t0 3 || Nat.beq t0 4) = true) (hz : z = (i : Int)) (hin : i < n) (hn : Nat.ble n 2147483647 = true) (hb : f i = some b) (kk : Zn I rt (pc + 1) ls (.inr (.inr b) :: st) (zov L h0) P) : Zn I rt pc ls (.inl z :: .inr (.inr a) :: st) (zov L h0) P := by
  subst hz
  have hn := xble hn
  refine Rn.aald hi (zov_get hD p ho) ht (zI_in (by omega) (by omega) (by omega)) ?_
  rw [zI_cl (by omega) (by omega), Int.toNat_natCast, hb]
  exact kk
theorem Zn.iast {a n : Nat} {f : Nat → Int} {z x : Int} (hD : (L.map Prod.fst).Nodup) (p i : Nat) (hi : xget I.2.1 pc = some .iastore) (ho : L[p]? = some (a, .inl (0, n, .inl f))) (hz : z = (i : Int)) (hin : i < n) (hn : Nat.ble n 2147483647 = true) (kk : Zn I rt (pc + 1) ls st (zov (L.set p (a, .inl (0, n, .inl (va_up f i x)))) h0) P) : Zn I rt pc ls (.inl x :: .inl z :: .inr (.inr a) :: st) (zov L h0) P := by
  subst hz
  have hn := xble hn
  refine Rn.iast hi (zov_get hD p ho) (zI_in (by omega) (by omega) (by omega)) ?_
  rw [zI_cl (by omega) (by omega), Int.toNat_natCast, zup_I, show (Sum.inl (0, n, Sum.inl fun j => zI (va_up f i x j)) : xE) = zcE (.inl (0, n, .inl (va_up f i x))) from rfl, zov_set hD p ho]
  exact kk
theorem Zn.last {a n : Nat} {f : Nat → Int} {z x : Int} (hD : (L.map Prod.fst).Nodup) (p i : Nat) (hi : xget I.2.1 pc = some .lastore) (ho : L[p]? = some (a, .inl (1, n, .inl f))) (hz : z = (i : Int)) (hin : i < n) (hn : Nat.ble n 2147483647 = true) (kk : Zn I rt (pc + 1) ls st (zov (L.set p (a, .inl (1, n, .inl (va_up f i x)))) h0) P) : Zn I rt pc ls (.inr (.inl x) :: .inl z :: .inr (.inr a) :: st) (zov L h0) P := by
  subst hz
  have hn := xble hn
  refine Rn.last hi (zov_get hD p ho) (zI_in (by omega) (by omega) (by omega)) ?_
  rw [zI_cl (by omega) (by omega), Int.toNat_natCast, zup_J, show (Sum.inl (1, n, Sum.inr (Sum.inl fun j => zJ (va_up f i x j))) : xE) = zcE (.inl (1, n, .inl (va_up f i x))) from rfl, zov_set hD p ho]
  exact kk
theorem Zn.bast {a n : Nat} {f : Nat → Int} {z x : Int} (hD : (L.map Prod.fst).Nodup) (p i : Nat) (hi : xget I.2.1 pc = some .bastore) (ho : L[p]? = some (a, .inl (2, n, .inl f))) (hx : x = 0 ∨ x = 1) (hz : z = (i : Int)) (hin : i < n) (hn : Nat.ble n 2147483647 = true) (kk : Zn I rt (pc + 1) ls st (zov (L.set p (a, .inl (2, n, .inl (va_up f i x)))) h0) P) : Zn I rt pc ls (.inl x :: .inl z :: .inr (.inr a) :: st) (zov L h0) P := by
  subst hz
  have hn := xble hn
  refine Rn.bast hi (zov_get hD p ho) (zI_in (by omega) (by omega) (by omega)) ?_
  have hb : vp_nar .boolean (zI x) = zI x := by rcases hx with rfl | rfl <;> decide
  rw [hb, zI_cl (by omega) (by omega), Int.toNat_natCast, zup_I, show (Sum.inl (2, n, Sum.inl fun j => zI (va_up f i x j)) : xE) = zcE (.inl (2, n, .inl (va_up f i x))) from rfl, zov_set hD p ho]
  exact kk
theorem Zn.aast {a n t0 x ci : Nat} {fs : List zV} {f : Nat → Option Nat} {z : Int} (hD : (L.map Prod.fst).Nodup) (p q i : Nat) (hi : xget I.2.1 pc = some .aastore) (ho : L[p]? = some (a, .inl (t0, n, .inr f))) (hx : L[q]? = some (x, .inr (ci, fs))) (ht : ((Nat.beq t0 3 && Nat.beq ci 5) || (Nat.beq t0 4 && Nat.beq ci 4)) = true) (hz : z = (i : Int)) (hin : i < n) (hn : Nat.ble n 2147483647 = true) (kk : Zn I rt (pc + 1) ls st (zov (L.set p (a, .inl (t0, n, .inr (va_up f i (some x))))) h0) P) : Zn I rt pc ls (.inr (.inr x) :: .inl z :: .inr (.inr a) :: st) (zov L h0) P := by
  subst hz
  have hn := xble hn
  refine Rn.aast hi (zov_get hD p ho) (zov_get hD q hx) ht (zI_in (by omega) (by omega) (by omega)) ?_
  rw [zI_cl (by omega) (by omega), Int.toNat_natCast, show (Sum.inl (t0, n, Sum.inr (Sum.inr (Sum.inr (Sum.inr (va_up f i (some x)))))) : xE) = zcE (.inl (t0, n, .inr (va_up f i (some x)))) from rfl, zov_set hD p ho]
  exact kk
theorem Zn.icmp {c : ClassFile.Cond} {off x y : Int} (tgt : Nat) (hi : xget I.2.1 pc = some (.if_icmp c off)) (ht : xj pc off = some tgt) (rx : zInI x) (ry : zInI y) (kt : zcd c x y → Zn I rt tgt ls st h P) (kf : ¬ zcd c x y → Zn I rt (pc + 3) ls st h P) : Zn I rt pc ls (.inl y :: .inl x :: st) h P :=
  Rn.icmp tgt hi ht (fun q => kt ((zcd_x rx ry).mp q)) (fun q => kf (fun w => by rw [(zcd_x rx ry).mpr w] at q; cases q))
theorem Zn.ifc {c : ClassFile.Cond} {off x : Int} (tgt : Nat) (hi : xget I.2.1 pc = some (.ifCond c off)) (ht : xj pc off = some tgt) (rx : zInI x) (kt : zcd c x 0 → Zn I rt tgt ls st h P) (kf : ¬ zcd c x 0 → Zn I rt (pc + 3) ls st h P) : Zn I rt pc ls (.inl x :: st) h P :=
  Rn.ifc tgt hi ht (fun q => kt ((zcd_x rx ⟨by decide, by decide⟩).mp q)) (fun q => kf (fun w => Bool.noConfusion (q.symm.trans ((zcd_x (y := 0) rx ⟨by decide, by decide⟩).mpr w : xcd c (zI x) 0 = true))))
theorem zlcmp {c : ClassFile.Cond} {x y : Int} (rx : zInL x) (ry : zInL y) : xcd c (lg_cmp (zJ x) (zJ y)) 0 = true ↔ zcd c x y := by
  have e : lg_cmp (zJ x) (zJ y) = if y < x then 1 else if x = y then 0 else -1 := by
    unfold lg_cmp
    simp only [gt_iff_lt, zJ_lt ry rx, zJ_inj rx ry]
  rw [e]
  split
  · cases c <;> simp only [xcd, zcd] <;> (first | (constructor <;> intro q <;> first | omega | (exact absurd q (by decide)) | decide))
  · split
    · cases c <;> simp only [xcd, zcd] <;> (first | (constructor <;> intro q <;> first | omega | (exact absurd q (by decide)) | decide))
    · cases c <;> simp only [xcd, zcd] <;> (first | (constructor <;> intro q <;> first | omega | (exact absurd q (by decide)) | decide))
theorem Zn.lcmpif {c : ClassFile.Cond} {off x y : Int} (tgt : Nat) (hi : xget I.2.1 pc = some .lcmp) (hi2 : xget I.2.1 (pc + 1) = some (.ifCond c off)) (ht : xj (pc + 1) off = some tgt) (rx : zInL x) (ry : zInL y) (kt : zcd c x y → Zn I rt tgt ls st h P) (kf : ¬ zcd c x y → Zn I rt (pc + 4) ls st h P) : Zn I rt pc ls (.inr (.inl y) :: .inr (.inl x) :: st) h P := by
  refine Rn.s1 (ins := .lcmp) hi rfl (Rn.ifc tgt hi2 ht (fun q => kt ((zlcmp rx ry).mp q)) (fun q => kf (fun w => by rw [(zlcmp rx ry).mpr w] at q; cases q)))
theorem Zn.i2l {x : Int} (hi : xget I.2.1 pc = some .i2l) (rx : zInI x) (k : Zn I rt (pc + 1) ls (.inr (.inl x) :: st) h P) : Zn I rt pc ls (.inl x :: st) h P :=
  Rn.s1 (ins := .i2l) hi rfl (by rw [zI_64 rx]; exact k)
theorem Zn.iand {x y : Int} (r : Int) (hi : xget I.2.1 pc = some .iand) (e : zI x &&& zI y = zI r) (k : Zn I rt (pc + 1) ls (.inl r :: st) h P) : Zn I rt pc ls (.inl y :: .inl x :: st) h P :=
  Rn.s1 (ins := .iand) hi rfl (by dsimp only; rw [e]; exact k)
theorem Zn.ior {x y : Int} (r : Int) (hi : xget I.2.1 pc = some .ior) (e : zI x ||| zI y = zI r) (k : Zn I rt (pc + 1) ls (.inl r :: st) h P) : Zn I rt pc ls (.inl y :: .inl x :: st) h P :=
  Rn.s1 (ins := .ior) hi rfl (by dsimp only; rw [e]; exact k)
theorem Zn.ixor {x y : Int} (r : Int) (hi : xget I.2.1 pc = some .ixor) (e : zI x ^^^ zI y = zI r) (k : Zn I rt (pc + 1) ls (.inl r :: st) h P) : Zn I rt pc ls (.inl y :: .inl x :: st) h P :=
  Rn.s1 (ins := .ixor) hi rfl (by dsimp only; rw [e]; exact k)
theorem Zn.ishl {x y : Int} (r : Int) (hi : xget I.2.1 pc = some .ishl) (e : zI x <<< (zI y &&& 31) = zI r) (k : Zn I rt (pc + 1) ls (.inl r :: st) h P) : Zn I rt pc ls (.inl y :: .inl x :: st) h P :=
  Rn.s1 (ins := .ishl) hi rfl (by dsimp only; rw [e]; exact k)
theorem Zn.ishr {x y : Int} (r : Int) (hi : xget I.2.1 pc = some .ishr) (e : zI x >>> (zI y &&& 31) = zI r) (k : Zn I rt (pc + 1) ls (.inl r :: st) h P) : Zn I rt pc ls (.inl y :: .inl x :: st) h P :=
  Rn.s1 (ins := .ishr) hi rfl (by dsimp only; rw [e]; exact k)
theorem Zn.i2b {x : Int} (r : Int) (hi : xget I.2.1 pc = some .i2b) (e : (zI x).toInt8.toInt32 = zI r) (k : Zn I rt (pc + 1) ls (.inl r :: st) h P) : Zn I rt pc ls (.inl x :: st) h P :=
  Rn.s1 (ins := .i2b) hi rfl (by dsimp only; rw [e]; exact k)
theorem Zn.i2s {x : Int} (r : Int) (hi : xget I.2.1 pc = some .i2s) (e : (zI x).toInt16.toInt32 = zI r) (k : Zn I rt (pc + 1) ls (.inl r :: st) h P) : Zn I rt pc ls (.inl x :: st) h P :=
  Rn.s1 (ins := .i2s) hi rfl (by dsimp only; rw [e]; exact k)
/-- the top of the stack, told otherwise -/
theorem Zn.topi {x y : Int} (e : x = y) (k : Zn I rt pc ls (.inl y :: st) h P) : Zn I rt pc ls (.inl x :: st) h P := by rw [e]; exact k
theorem Zn.topj {x y : Int} (e : zJ x = zJ y) (k : Zn I rt pc ls (.inr (.inl y) :: st) h P) : Zn I rt pc ls (.inr (.inl x) :: st) h P := by
  unfold Zn at k ⊢
  simp only [List.map_cons, zc] at k ⊢
  rw [e]
  exact k
theorem Zn.topI {x y : Int} (e : zI x = zI y) (k : Zn I rt pc ls (.inl y :: st) h P) : Zn I rt pc ls (.inl x :: st) h P := by
  unfold Zn at k ⊢
  simp only [List.map_cons, zc] at k ⊢
  rw [e]
  exact k
theorem zne0I {y : Int} (ry : zInI y) (hy : y ≠ 0) : ¬ zI y = 0 := fun q => hy ((zI_inj ry ⟨by decide, by decide⟩).mp (q.trans (rfl : (0 : Int32) = zI 0)))
theorem zne0J {y : Int} (ry : zInL y) (hy : y ≠ 0) : ¬ zJ y = 0 := fun q => hy ((zJ_inj ry ⟨by decide, by decide⟩).mp (q.trans (rfl : (0 : Int64) = zJ 0)))
theorem Zn.idiv {x y : Int} (hi : xget I.2.1 pc = some .idiv) (rx : zInI x) (ry : zInI y) (hy : y ≠ 0) (k : Zn I rt (pc + 1) ls (.inl (x.tdiv y) :: st) h P) : Zn I rt pc ls (.inl y :: .inl x :: st) h P :=
  Rn.idiv hi (zne0I ry hy) (by rw [zI_div rx ry]; exact k)
theorem Zn.irem {x y : Int} (hi : xget I.2.1 pc = some .irem) (rx : zInI x) (ry : zInI y) (hy : y ≠ 0) (k : Zn I rt (pc + 1) ls (.inl (x.tmod y) :: st) h P) : Zn I rt pc ls (.inl y :: .inl x :: st) h P :=
  Rn.irem hi (zne0I ry hy) (by rw [zI_rem rx ry]; exact k)
theorem Zn.ldiv {x y : Int} (hi : xget I.2.1 pc = some .ldiv) (rx : zInL x) (ry : zInL y) (hy : y ≠ 0) (k : Zn I rt (pc + 1) ls (.inr (.inl (x.tdiv y)) :: st) h P) : Zn I rt pc ls (.inr (.inl y) :: .inr (.inl x) :: st) h P :=
  Rn.ldiv hi (zne0J ry hy) (by rw [zJ_div rx ry]; exact k)
theorem Zn.lrem {x y : Int} (hi : xget I.2.1 pc = some .lrem) (rx : zInL x) (ry : zInL y) (hy : y ≠ 0) (k : Zn I rt (pc + 1) ls (.inr (.inl (x.tmod y)) :: st) h P) : Zn I rt pc ls (.inr (.inl y) :: .inr (.inl x) :: st) h P :=
  Rn.lrem hi (zne0J ry hy) (by rw [zJ_rem rx ry]; exact k)
theorem Zn.tswIn {d lo hh o x : Int} {offs : Array Int} (tgt k : Nat) (hi : xget I.2.1 pc = some (.tableswitch d lo hh offs)) (rx : zInI x) (hx : x = lo + (k : Int)) (hk : (k : Int) ≤ hh - lo) (ho : offs[k]? = some o) (ht : xj pc o = some tgt) (kk : Zn I rt tgt ls st h P) : Zn I rt pc ls (.inl x :: st) h P := by
  refine Rn.tsw tgt hi ?_ kk
  have e1 : (decide ((zI x).toInt < lo) || decide (hh < (zI x).toInt)) = false := by
    rw [zI_toInt rx]
    simp
    omega
  have e2 : ((zI x).toInt - lo).toNat = k := by
    rw [zI_toInt rx]
    omega
  simp only [xs3, e1, e2, ho, ht]
theorem Zn.tswOut {d lo hh x : Int} {offs : Array Int} (tgt : Nat) (hi : xget I.2.1 pc = some (.tableswitch d lo hh offs)) (rx : zInI x) (hx : x < lo ∨ hh < x) (ht : xj pc d = some tgt) (kk : Zn I rt tgt ls st h P) : Zn I rt pc ls (.inl x :: st) h P := by
  refine Rn.tsw tgt hi ?_ kk
  have e1 : (decide ((zI x).toInt < lo) || decide (hh < (zI x).toInt)) = true := by
    rw [zI_toInt rx]
    simp
    omega
  simp only [xs3, e1, ht]
theorem Zn.lsw {d o x : Int} {ps : Array (Int × Int)} (tgt : Nat) (hi : xget I.2.1 pc = some (.lookupswitch d ps)) (rx : zInI x) (hp : (ps.toList.zip (ps.toList.drop 1)).all (fun (a, next) => decide (a.1 < next.1)) = true) (ho : Op.lookupswitch.offset ps.toList d x = o) (ht : xj pc o = some tgt) (kk : Zn I rt tgt ls st h P) : Zn I rt pc ls (.inl x :: st) h P := by
  refine Rn.lsw tgt hi ?_ kk
  simp only [xs3, hp, zI_toInt rx, ho, ht]
theorem zsum : ∀ (l : List zV), xsum (l.map zc) = (l.map fun v => match v with | .inr (.inl _) => 2 | _ => 1).sum
  | [] => rfl
  | v :: l => by
    have := zsum l
    unfold xsum at *
    simp only [List.map_cons, List.sum_cons, this]
    cases v with
    | inl z => rfl
    | inr v => cases v <;> rfl
theorem Zn.call {ins : Instr} {k j na : Nat} {J : xI} {P1 : Option zV → xH → Prop} (av rest : List zV) (hi : xget I.2.1 pc = some ins) (hj : xinv I.1 ins = some (k, j, na)) (hk : Nat.blt k 5 = true) (hJ : xtab[j]? = some J) (hmc : J.2.2.2.2.2.1 = 0 ∧ J.2.2.2.2.2.2.1 = 0) (hst : (st.take na).reverse = av ∧ st.drop na = rest ∧ Nat.ble na st.length = true) (hok : (Nat.ble (xsum (rest.map zc)) 8 && xfit I J (0, 0, 0)) = true) (hrec : xrecv k J.1 h (av.map zc) = true)
    (he : zEv j av h P1) (kk : ∀ v h2, P1 v h2 → Zn I rt (pc + 3) ls (v.toList ++ rest) h2 P) : Zn I rt pc ls st h P := by
  obtain ⟨e1, e2, e3⟩ := hst
  refine Rn.call (av.map zc) (rest.map zc) hi hj hk hJ hmc ⟨by rw [← e1, List.map_reverse, List.map_take], by rw [← e2, List.map_drop], by rw [List.length_map]; exact e3⟩ hok hrec he (fun r h2 ⟨v, hv, hp⟩ => ?_)
  subst hv
  have k1 := kk v h2 hp
  cases v with
  | none => exact k1
  | some v => exact k1
theorem zrecvV {k cj p a : Nat} {fs : List zV} {As : List zV} (hD : (L.map Prod.fst).Nodup) (hL : L[p]? = some (a, .inr (cj, fs))) (hk : k = 0) (hc : Nat.blt cj 9 = true) : xrecv k cj (zov L h0) ((.inr (.inr a) :: As).map zc) = true := by
  subst hk
  simp only [xrecv, List.map_cons, zc, zov_get hD p hL, zcE, Nat.beq_refl, hc, Bool.and_self]
theorem zrecvS {k cj : Nat} {av : List Value} (hk : k = 1 ∨ k = 2) : xrecv k cj h av = true := by
  rcases hk with rfl | rfl <;> rfl
theorem Zn.absi {ins : Instr} {j na : Nat} {x : Int} (hi : xget I.2.1 pc = some ins) (hj : xinv I.1 ins = some (7, j, na)) (hok : (Nat.ble 1 I.2.2.2.1 && Nat.ble (xsum (st.map zc) + 13) I.2.2.2.2.1) = true) (rx : zInI x) (k : Zn I rt (pc + 3) ls (.inl (x.natAbs : Int) :: st) h P) : Zn I rt pc ls (.inl x :: st) h P :=
  Rn.math hi hj (Or.inl rfl) (by simp only [xmath, List.map_cons, zc]; rw [zabsI rx]) hok k
theorem Zn.absj {ins : Instr} {j na : Nat} {x : Int} (hi : xget I.2.1 pc = some ins) (hj : xinv I.1 ins = some (8, j, na)) (hok : (Nat.ble 1 I.2.2.2.1 && Nat.ble (xsum (st.map zc) + 13) I.2.2.2.2.1) = true) (rx : zInL x) (k : Zn I rt (pc + 3) ls (.inr (.inl (x.natAbs : Int)) :: st) h P) : Zn I rt pc ls (.inr (.inl x) :: st) h P :=
  Rn.math hi hj (Or.inr (Or.inl rfl)) (by simp only [xmath, List.map_cons, zc]; rw [zabsJ rx]) hok k
theorem Zn.mini {ins : Instr} {j na : Nat} {x y : Int} (hi : xget I.2.1 pc = some ins) (hj : xinv I.1 ins = some (9, j, na)) (hok : (Nat.ble 1 I.2.2.2.1 && Nat.ble (xsum (st.map zc) + 13) I.2.2.2.2.1) = true) (rx : zInI x) (ry : zInI y) (k : Zn I rt (pc + 3) ls (.inl (min x y) :: st) h P) : Zn I rt pc ls (.inl y :: .inl x :: st) h P :=
  Rn.math hi hj (Or.inr (Or.inr rfl)) (by simp only [xmath, List.map_cons, zc]; rw [zminI rx ry]) hok k
theorem zcpy_I (f g : Nat → Int) (sp dp n : Nat) : va_cpy (fun j => zI (f j)) (fun j => zI (g j)) sp dp n = fun j => zI (va_cpy f g sp dp n j) := by
  funext j
  simp only [va_cpy]
  split <;> rfl
theorem zcpy_J (f g : Nat → Int) (sp dp n : Nat) : va_cpy (fun j => zJ (f j)) (fun j => zJ (g j)) sp dp n = fun j => zJ (va_cpy f g sp dp n j) := by
  funext j
  simp only [va_cpy]
  split <;> rfl
theorem znn {i : Nat} (h : i ≤ 2147483647) : decide (zI (i : Int) < 0) = false := by
  have h0 : (0 : Int32) = zI 0 := rfl
  rw [h0, decide_eq_false_iff_not, zI_lt ⟨by omega, by omega⟩ ⟨by decide, by decide⟩]
  omega
theorem Zn.acopyI {ins : Instr} {j na a b n0 n1 : Nat} {f g : Nat → Int} {zs zd zk : Int} (hD : (L.map Prod.fst).Nodup) (p q sp dp k : Nat) (hi : xget I.2.1 pc = some ins) (hj : xinv I.1 ins = some (6, j, na)) (ho : L[p]? = some (b, .inl (0, n0, .inl f))) (ho2 : L[q]? = some (a, .inl (0, n1, .inl g))) (e1 : zs = (sp : Int)) (e2 : zd = (dp : Int)) (e3 : zk = (k : Int)) (h1 : sp + k ≤ n0) (h2 : dp + k ≤ n1) (hn : n0 ≤ 2147483647 ∧ n1 ≤ 2147483647) (hok : (Nat.ble 1 I.2.2.2.1 && Nat.ble (xsum (st.map zc) + 18) I.2.2.2.2.1) = true) (kk : Zn I rt (pc + 3) ls st (zov (L.set q (a, .inl (0, n1, .inl (va_cpy f g sp dp k)))) h0) P) : Zn I rt pc ls (.inl zk :: .inl zd :: .inr (.inr a) :: .inl zs :: .inr (.inr b) :: st) (zov L h0) P := by
  subst e1
  subst e2
  subst e3
  refine Rn.acopy hi hj (h2 := va_up (zov L h0) a (zcE (.inl (0, n1, .inl (va_cpy f g sp dp k))))) ?_ hok ?_
  · have q1 : (zI (sp : Int)).toNatClampNeg = sp := by rw [zI_cl (by omega) (by omega), Int.toNat_natCast]
    have q2 : (zI (dp : Int)).toNatClampNeg = dp := by rw [zI_cl (by omega) (by omega), Int.toNat_natCast]
    have q3 : (zI (k : Int)).toNatClampNeg = k := by rw [zI_cl (by omega) (by omega), Int.toNat_natCast]
    simp only [xcopy, List.map_cons, zc, zov_get hD p ho, zov_get hD q ho2, zcE, zcA, q1, q2, q3, znn (show sp ≤ 2147483647 by omega), znn (show dp ≤ 2147483647 by omega), znn (show k ≤ 2147483647 by omega), zcpy_I, Nat.ble_eq_true_of_le h1, Nat.ble_eq_true_of_le h2, Bool.not_false, Bool.and_self]
  · rw [zov_set hD q ho2]
    exact kk
theorem Zn.acopyJ {ins : Instr} {j na a b n0 n1 : Nat} {f g : Nat → Int} {zs zd zk : Int} (hD : (L.map Prod.fst).Nodup) (p q sp dp k : Nat) (hi : xget I.2.1 pc = some ins) (hj : xinv I.1 ins = some (6, j, na)) (ho : L[p]? = some (b, .inl (1, n0, .inl f))) (ho2 : L[q]? = some (a, .inl (1, n1, .inl g))) (e1 : zs = (sp : Int)) (e2 : zd = (dp : Int)) (e3 : zk = (k : Int)) (h1 : sp + k ≤ n0) (h2 : dp + k ≤ n1) (hn : n0 ≤ 2147483647 ∧ n1 ≤ 2147483647) (hok : (Nat.ble 1 I.2.2.2.1 && Nat.ble (xsum (st.map zc) + 18) I.2.2.2.2.1) = true) (kk : Zn I rt (pc + 3) ls st (zov (L.set q (a, .inl (1, n1, .inl (va_cpy f g sp dp k)))) h0) P) : Zn I rt pc ls (.inl zk :: .inl zd :: .inr (.inr a) :: .inl zs :: .inr (.inr b) :: st) (zov L h0) P := by
  subst e1
  subst e2
  subst e3
  refine Rn.acopy hi hj (h2 := va_up (zov L h0) a (zcE (.inl (1, n1, .inl (va_cpy f g sp dp k))))) ?_ hok ?_
  · have q1 : (zI (sp : Int)).toNatClampNeg = sp := by rw [zI_cl (by omega) (by omega), Int.toNat_natCast]
    have q2 : (zI (dp : Int)).toNatClampNeg = dp := by rw [zI_cl (by omega) (by omega), Int.toNat_natCast]
    have q3 : (zI (k : Int)).toNatClampNeg = k := by rw [zI_cl (by omega) (by omega), Int.toNat_natCast]
    simp only [xcopy, List.map_cons, zc, zov_get hD p ho, zov_get hD q ho2, zcE, zcA, q1, q2, q3, znn (show sp ≤ 2147483647 by omega), znn (show dp ≤ 2147483647 by omega), znn (show k ≤ 2147483647 by omega), zcpy_J, Nat.ble_eq_true_of_le h1, Nat.ble_eq_true_of_le h2, Bool.not_false, Bool.and_self]
  · rw [zov_set hD q ho2]
    exact kk
theorem Zn.vret (hi : xget I.2.1 pc = some .return_) (hr : rt = none) (hq : P none h) : Zn I rt pc ls [] h P := by
  subst hr
  exact Rn.ret (v := none) hi rfl ⟨none, rfl, hq⟩
theorem Zn.iret {z : Int} (hi : xget I.2.1 pc = some .ireturn) (hr : rt = some .int) (hq : P (some (.inl z)) h) : Zn I rt pc ls [.inl z] h P := by
  subst hr
  exact Rn.ret (v := some (zc (.inl z))) hi rfl ⟨some (.inl z), rfl, hq⟩
theorem Zn.bret {z : Int} (hi : xget I.2.1 pc = some .ireturn) (hr : rt = some .boolean) (hz : z = 0 ∨ z = 1) (hq : P (some (.inl z)) h) : Zn I rt pc ls [.inl z] h P := by
  subst hr
  refine Rn.ret (v := some (zc (.inl z))) hi ?_ ⟨some (.inl z), rfl, hq⟩
  rcases hz with rfl | rfl <;> rfl
theorem Zn.lret {z : Int} (hi : xget I.2.1 pc = some .lreturn) (hr : rt = some .long) (hq : P (some (.inr (.inl z))) h) : Zn I rt pc ls [.inr (.inl z)] h P := by
  subst hr
  exact Rn.ret (v := some (zc (.inr (.inl z)))) hi rfl ⟨some (.inr (.inl z)), rfl, hq⟩
theorem Zn.eq {h2 : xH} (e1 : pc = pc2) (e2 : ls = ls2) (e3 : st = st2) (e4 : h = h2) (k : Zn I rt pc2 ls2 st2 h2 P) : Zn I rt pc ls st h P := by rw [e1, e2, e3, e4]; exact k
end ZN
