/-! the pure machine over whole numbers: ints and longs are told by the Int that they are of -/
abbrev zI (z : Int) : Int32 := Int32.ofInt z
abbrev zJ (z : Int) : Int64 := Int64.ofInt z
def zInI (z : Int) : Prop := -2147483648 ≤ z ∧ z ≤ 2147483647
def zInL (z : Int) : Prop := -9223372036854775808 ≤ z ∧ z ≤ 9223372036854775807
theorem zI_toInt {z : Int} (h : zInI z) : (zI z).toInt = z := Int32.toInt_ofInt_of_le (by have := h.1; omega) (by have := h.2; omega)
theorem zJ_toInt {z : Int} (h : zInL z) : (zJ z).toInt = z := Int64.toInt_ofInt_of_le (by have := h.1; omega) (by have := h.2; omega)
theorem zI_of (x : Int32) : zI x.toInt = x := by simp [zI]
theorem zJ_of (x : Int64) : zJ x.toInt = x := by simp [zJ]
theorem zI_add (a b : Int) : zI a + zI b = zI (a + b) := (Int32.ofInt_add a b).symm
theorem zI_sub (a b : Int) : zI a - zI b = zI (a - b) := (Int32.ofInt_sub a b).symm
theorem zI_mul (a b : Int) : zI a * zI b = zI (a * b) := (Int32.ofInt_mul a b).symm
theorem zI_neg (a : Int) : -zI a = zI (-a) := (Int32.ofInt_neg a).symm
theorem zJ_add (a b : Int) : zJ a + zJ b = zJ (a + b) := (Int64.ofInt_add a b).symm
theorem zJ_sub (a b : Int) : zJ a - zJ b = zJ (a - b) := (Int64.ofInt_sub a b).symm
theorem zJ_mul (a b : Int) : zJ a * zJ b = zJ (a * b) := (Int64.ofInt_mul a b).symm
theorem zJ_neg (a : Int) : -zJ a = zJ (-a) := (Int64.ofInt_neg a).symm
theorem zI_inj {a b : Int} (ha : zInI a) (hb : zInI b) : zI a = zI b ↔ a = b := by rw [← Int32.toInt_inj, zI_toInt ha, zI_toInt hb]
theorem zI_lt {a b : Int} (ha : zInI a) (hb : zInI b) : zI a < zI b ↔ a < b := by rw [Int32.lt_iff_toInt_lt, zI_toInt ha, zI_toInt hb]
theorem zI_le {a b : Int} (ha : zInI a) (hb : zInI b) : zI a ≤ zI b ↔ a ≤ b := by rw [Int32.le_iff_toInt_le, zI_toInt ha, zI_toInt hb]
theorem zJ_inj {a b : Int} (ha : zInL a) (hb : zInL b) : zJ a = zJ b ↔ a = b := by rw [← Int64.toInt_inj, zJ_toInt ha, zJ_toInt hb]
theorem zJ_lt {a b : Int} (ha : zInL a) (hb : zInL b) : zJ a < zJ b ↔ a < b := by rw [Int64.lt_iff_toInt_lt, zJ_toInt ha, zJ_toInt hb]
theorem zJ_div {a b : Int} (ha : zInL a) (hb : zInL b) : zJ a / zJ b = zJ (a.tdiv b) := by
  rw [← Int64.toInt_inj, Int64.toInt_div, zJ_toInt ha, zJ_toInt hb, Int64.toInt_ofInt]
theorem zI_div {a b : Int} (ha : zInI a) (hb : zInI b) : zI a / zI b = zI (a.tdiv b) := by
  rw [← Int32.toInt_inj, Int32.toInt_div, zI_toInt ha, zI_toInt hb, Int32.toInt_ofInt]
theorem zJ_rem {a b : Int} (ha : zInL a) (hb : zInL b) : zJ a - zJ a / zJ b * zJ b = zJ (a.tmod b) := by
  rw [zJ_div ha hb, zJ_mul, zJ_sub, Int.tmod_def, Int.mul_comm]
theorem zI_rem {a b : Int} (ha : zInI a) (hb : zInI b) : zI a - zI a / zI b * zI b = zI (a.tmod b) := by
  rw [zI_div ha hb, zI_mul, zI_sub, Int.tmod_def, Int.mul_comm]
theorem zI_64 {a : Int} (ha : zInI a) : (zI a).toInt64 = zJ a := by
  rw [← Int64.toInt_inj, Int32.toInt_toInt64, zI_toInt ha, zJ_toInt ⟨by have := ha.1; omega, by have := ha.2; omega⟩]
theorem zJ_32 (a : Int) : (zJ a).toInt32 = zI a := by
  rw [← Int32.toInt_inj, Int64.toInt_toInt32, Int32.toInt_ofInt, Int64.toInt_ofInt]
  exact Int.bmod_bmod_of_dvd (by decide)
theorem zI_cl {z : Int} (h0 : 0 ≤ z) (h : z ≤ 2147483647) : (zI z).toNatClampNeg = z.toNat := by
  rw [Int32.toNatClampNeg, zI_toInt ⟨by omega, h⟩]
theorem zI_in {z : Int} {n : Nat} (h0 : 0 ≤ z) (h : z < (n : Int)) (hn : n ≤ 2147483647) : vp_in (zI z) n := by
  rw [vp_in_iff, zI_toInt ⟨by omega, by omega⟩]
  exact ⟨h0, h⟩
/-- int, long, reference -/
abbrev zV : Type := Int ⊕ Int ⊕ Nat
abbrev zi (z : Int) : zV := .inl z
abbrev zj (z : Int) : zV := .inr (.inl z)
abbrev za (a : Nat) : zV := .inr (.inr a)
def zc : zV → Value
  | .inl z => .int (zI z)
  | .inr (.inl z) => .long (zJ z)
  | .inr (.inr a) => .ref a
abbrev zLs : Type := List (Option zV)
/-- a row (kind, length, what it holds) or an object -/
abbrev zE : Type := (Nat × Nat × ((Nat → Int) ⊕ (Nat → Option Nat))) ⊕ (Nat × List zV)
def zcA (t n : Nat) (f : Nat → Int) : xE := match t with
  | 0 => .inl (0, n, .inl fun j => zI (f j))
  | 1 => .inl (1, n, .inr (.inl fun j => zJ (f j)))
  | _ => .inl (2, n, .inl fun j => zI (f j))
def zcE : zE → xE
  | .inl (t, n, .inl f) => zcA t n f
  | .inl (t, n, .inr g) => .inl (t, n, .inr (.inr (.inr (.inr g))))
  | .inr (ci, fs) => .inr (ci, fs.map zc)
abbrev zM : Type := List (Nat × zE)
def zov (L : zM) (h : xH) : xH := ov (L.map fun q => (q.1, zcE q.2)) h
theorem zfst (L : zM) : (L.map fun q => (q.1, zcE q.2)).map Prod.fst = L.map Prod.fst := by simp
theorem zov_get {L : zM} {h : xH} (hD : (L.map Prod.fst).Nodup) (i : Nat) {a : Nat} {c : zE} (hi : L[i]? = some (a, c)) : zov L h a = zcE c :=
  ov_get (by rw [zfst]; exact hD) i (by rw [List.getElem?_map, hi]; rfl)
theorem zov_set {L : zM} {h : xH} (hD : (L.map Prod.fst).Nodup) (i : Nat) {a : Nat} {c d : zE} (hi : L[i]? = some (a, c)) : va_up (zov L h) a (zcE d) = zov (L.set i (a, d)) h := by
  unfold zov
  rw [ov_set (by rw [zfst]; exact hD) i (c := zcE c) (by rw [List.getElem?_map, hi]; rfl), List.map_set]
theorem zov_self {L : zM} {h : xH} (hq : ∀ q ∈ L, h q.1 = zcE q.2) : h = zov L h := ov_self (by
  intro q hm
  obtain ⟨x, hx, rfl⟩ := List.mem_map.mp hm
  exact hq x hx)
theorem zov_out {L : zM} {h : xH} {a : Nat} (hn : a ∉ L.map Prod.fst) : zov L h a = h a := ov_out (by rw [zfst]; exact hn)
def zovs : zM → List Nat → zM → zM
  | L, p :: ps, m :: M => (zovs L ps M).set p m
  | L, _, _ => L
theorem zovs_map : ∀ (ps : List Nat) (M L : zM), (zovs L ps M).map (fun q => (q.1, zcE q.2)) = ovs (L.map fun q => (q.1, zcE q.2)) ps (M.map fun q => (q.1, zcE q.2))
  | [], M, L => by cases M <;> rfl
  | p :: ps, [], L => rfl
  | p :: ps, m :: M, L => by simp only [zovs, List.map_set, List.map_cons, ovs, zovs_map ps M L]
theorem zov_put {L : zM} {h : xH} (hD : (L.map Prod.fst).Nodup) (ps : List Nat) (M : zM) (hp : ps.map (fun p => (L[p]?).map Prod.fst) = M.map (fun m => some m.1)) : zov M (zov L h) = zov (zovs L ps M) h := by
  unfold zov
  rw [zovs_map, ov_put ps _ _ (by rw [zfst]; exact hD)]
  simp only [List.getElem?_map, Option.map_map, List.map_map, Function.comp_def]
  exact hp
def zfst_set {L : zM} {i a : Nat} {c d : zE} (hi : L[i]? = some (a, c)) : (L.set i (a, d)).map Prod.fst = L.map Prod.fst := by
  rw [List.map_set]
  apply List.ext_getElem?
  intro k
  rw [List.getElem?_set]
  split
  · rename_i e
    subst e
    rw [List.getElem?_map, hi]
    split
    · rfl
    · rename_i hl
      simp at hl
      rw [List.getElem?_eq_none hl] at hi
      cases hi
  · rfl
/-- a configuration -/
def Zn (I : xI) (rt : Option FieldType) (pc : Nat) (ls : zLs) (st : List zV) (h : xH) (P : Option zV → xH → Prop) : Prop := Rn I rt pc (ls.map (Option.map zc)) (st.map zc) h (fun r h2 => ∃ v : Option zV, r = v.map zc ∧ P v h2)
/-- a method, run -/
def zEv (j : Nat) (av : List zV) (h : xH) (P : Option zV → xH → Prop) : Prop := Ev j (av.map zc) h (fun r h2 => ∃ v : Option zV, r = v.map zc ∧ P v h2)
def zkill : Option zV → Option zV
  | some (.inr (.inl _)) => none
  | o => o
def zmod : zLs → Nat → zLs
  | [], _ => []
  | x :: l, 0 => zkill x :: l
  | x :: l, n + 1 => x :: zmod l n
def zput : zLs → Nat → Option zV → zLs
  | [], _, _ => []
  | _ :: l, 0, v => v :: l
  | x :: l, n + 1, v => x :: zput l n v
def zat : zLs → Nat → Option zV
  | [], _ => none
  | x :: _, 0 => x
  | _ :: l, n + 1 => zat l n
def zkl (ls : zLs) (i : Nat) : zLs := match i with
  | 0 => ls
  | j + 1 => zmod ls j
def zst1 (ls : zLs) (i : Nat) (v : zV) : zLs := zput (zkl ls i) i (some v)
def zst2 (ls : zLs) (i : Nat) (v : zV) : zLs := zput (zput (zkl ls i) i (some v)) (i + 1) none
abbrev zmp (ls : zLs) : xLs := ls.map (Option.map zc)
theorem zat_x : ∀ (ls : zLs) (i : Nat), xat (zmp ls) i = (zat ls i).map zc
  | [], i => rfl
  | x :: l, 0 => rfl
  | x :: l, n + 1 => zat_x l n
theorem zkill_x (o : Option zV) : xkill (o.map zc) = (zkill o).map zc := by
  cases o with
  | none => rfl
  | some v =>
    cases v with
    | inl z => rfl
    | inr v => cases v <;> rfl
theorem zmod_x : ∀ (ls : zLs) (i : Nat), xmod (zmp ls) i = zmp (zmod ls i)
  | [], i => rfl
  | x :: l, 0 => by simp only [zmp, List.map_cons, xmod, zmod, zkill_x]
  | x :: l, n + 1 => by
    have := zmod_x l n
    simp only [zmp] at this
    simp only [zmp, List.map_cons, xmod, zmod, this]
theorem zput_x : ∀ (ls : zLs) (i : Nat) (v : Option zV), xput (zmp ls) i (v.map zc) = zmp (zput ls i v)
  | [], i, v => rfl
  | x :: l, 0, v => rfl
  | x :: l, n + 1, v => by
    have := zput_x l n v
    simp only [zmp] at this
    simp only [zmp, List.map_cons, xput, zput, this]
theorem zkl_x (ls : zLs) (i : Nat) : xkl (zmp ls) i = zmp (zkl ls i) := by
  cases i with
  | zero => rfl
  | succ j => exact zmod_x ls j
theorem zst1_x (ls : zLs) (i : Nat) (v : zV) : xst1 (zmp ls) i (zc v) = zmp (zst1 ls i v) := by
  unfold xst1 zst1
  rw [zkl_x]
  exact zput_x _ _ (some v)
theorem zst2_x (ls : zLs) (i : Nat) (v : zV) : xst2 (zmp ls) i (zc v) = zmp (zst2 ls i v) := by
  unfold xst2 zst2
  rw [zkl_x, show some (zc v) = (some v).map zc from rfl, zput_x]
  exact zput_x _ _ none
def zld (k n pc : Nat) (ls : zLs) (st : List zV) (i : Nat) : Option (Nat × zLs × List zV) := match zat ls i with
  | some (.inl z) => match k with
    | 0 => some (pc + n, ls, .inl z :: st)
    | _ => none
  | some (.inr (.inl z)) => match k with
    | 1 => some (pc + n, ls, .inr (.inl z) :: st)
    | _ => none
  | some (.inr (.inr a)) => match k with
    | 2 => some (pc + n, ls, .inr (.inr a) :: st)
    | _ => none
  | none => none
def zstI (n pc : Nat) (ls : zLs) (st : List zV) (i : Nat) : Option (Nat × zLs × List zV) := match st with
  | .inl x :: r => bif Nat.blt i ls.length then some (pc + n, zst1 ls i (.inl x), r) else none
  | _ => none
def zstL (n pc : Nat) (ls : zLs) (st : List zV) (i : Nat) : Option (Nat × zLs × List zV) := match st with
  | .inr (.inl x) :: r => bif Nat.blt (i + 1) ls.length then some (pc + n, zst2 ls i (.inr (.inl x)), r) else none
  | _ => none
def zstA (n pc : Nat) (ls : zLs) (st : List zV) (i : Nat) : Option (Nat × zLs × List zV) := match st with
  | .inr (.inr x) :: r => bif Nat.blt i ls.length then some (pc + n, zst1 ls i (.inr (.inr x)), r) else none
  | _ => none
def zii (f : Int → Int → Int) (pc : Nat) (ls : zLs) (st : List zV) : Option (Nat × zLs × List zV) := match st with
  | .inl y :: .inl x :: r => some (pc + 1, ls, .inl (f x y) :: r)
  | _ => none
def zll (f : Int → Int → Int) (pc : Nat) (ls : zLs) (st : List zV) : Option (Nat × zLs × List zV) := match st with
  | .inr (.inl y) :: .inr (.inl x) :: r => some (pc + 1, ls, .inr (.inl (f x y)) :: r)
  | _ => none
def zc1 : zV → Bool
  | .inr (.inl _) => false
  | _ => true
/-- the instructions of a straight piece -/
def zs1 (own : Nat) (ins : Instr) (pc : Nat) (ls : zLs) (st : List zV) : Option (Nat × zLs × List zV) :=
  match ins with
  | .iconst n => some (pc + 1, ls, .inl n :: st)
  | .bipush n => bif (decide (-128 ≤ n) && decide (n ≤ 127)) then some (pc + 2, ls, .inl n :: st) else none
  | .sipush n => bif (decide (-32768 ≤ n) && decide (n ≤ 32767)) then some (pc + 3, ls, .inl n :: st) else none
  | .lconst n => some (pc + 1, ls, .inr (.inl (n.val : Int)) :: st)
  | .ldc ix => match xas (xconT own) ix with
    | some n => some (pc + 2, ls, .inl n :: st)
    | none => none
  | .ldc_w ix => match xas (xconT own) ix with
    | some n => some (pc + 3, ls, .inl n :: st)
    | none => none
  | .ldc2_w ix => match xas (xconLT own) ix with
    | some n => some (pc + 3, ls, .inr (.inl n) :: st)
    | none => none
  | .iload i => zld 0 2 pc ls st i
  | .iload_n k => zld 0 1 pc ls st k.val
  | .lload i => zld 1 2 pc ls st i
  | .lload_n k => zld 1 1 pc ls st k.val
  | .aload i => zld 2 2 pc ls st i
  | .aload_n k => zld 2 1 pc ls st k.val
  | .istore i => zstI 2 pc ls st i
  | .istore_n k => zstI 1 pc ls st k.val
  | .lstore i => zstL 2 pc ls st i
  | .lstore_n k => zstL 1 pc ls st k.val
  | .astore i => zstA 2 pc ls st i
  | .astore_n k => zstA 1 pc ls st k.val
  | .iinc i n => match zat ls i with
    | some (.inl x) => bif Nat.blt i ls.length then some (pc + 3, zst1 ls i (.inl (x + n)), st) else none
    | _ => none
  | .iadd => zii (fun x y => x + y) pc ls st
  | .isub => zii (fun x y => x - y) pc ls st
  | .imul => zii (fun x y => x * y) pc ls st
  | .ineg => match st with
    | .inl x :: r => some (pc + 1, ls, .inl (-x) :: r)
    | _ => none
  | .ladd => zll (fun x y => x + y) pc ls st
  | .lsub => zll (fun x y => x - y) pc ls st
  | .lmul => zll (fun x y => x * y) pc ls st
  | .lneg => match st with
    | .inr (.inl x) :: r => some (pc + 1, ls, .inr (.inl (-x)) :: r)
    | _ => none
  | .l2i => match st with
    | .inr (.inl x) :: r => some (pc + 1, ls, .inl x :: r)
    | _ => none
  | .dup => match st with
    | v :: r => bif zc1 v then some (pc + 1, ls, v :: v :: r) else none
    | _ => none
  | .pop => match st with
    | v :: r => bif zc1 v then some (pc + 1, ls, r) else none
    | _ => none
  | .dup2 => match st with
    | .inr (.inl x) :: r => some (pc + 1, ls, .inr (.inl x) :: .inr (.inl x) :: r)
    | v :: w :: r => bif (zc1 v && zc1 w) then some (pc + 1, ls, v :: w :: v :: w :: r) else none
    | _ => none
  | .goto off => match xj pc off with
    | some t => some (t, ls, st)
    | none => none
  | _ => none
theorem zc1_x (v : zV) (h : zc1 v = true) : xc1 (zc v) = true := by
  cases v with
  | inl z => rfl
  | inr v => cases v <;> first | rfl | cases h
def zx (g : Nat × zLs × List zV) : Nat × xLs × List Value := (g.1, zmp g.2.1, g.2.2.map zc)
theorem zld_x {k n pc : Nat} {ls : zLs} {st : List zV} {i : Nat} {g : Nat × zLs × List zV} (h : zld k n pc ls st i = some g) : (k = 0 → xldI n pc (zmp ls) (st.map zc) i = some (zx g)) ∧ (k = 1 → xldL n pc (zmp ls) (st.map zc) i = some (zx g)) ∧ (k = 2 → xldA n pc (zmp ls) (st.map zc) i = some (zx g)) := by
  unfold zld at h
  split at h <;> (try split at h) <;> (try cases h)
  all_goals
    rename_i hz _xk
    refine ⟨fun e => ?_, fun e => ?_, fun e => ?_⟩ <;> first | (exact absurd e (by decide)) | (simp only [xldI, xldL, xldA, zat_x, hz]; rfl)
theorem zstI_x {n pc : Nat} {ls : zLs} {st : List zV} {i : Nat} {g : Nat × zLs × List zV} (h : zstI n pc ls st i = some g) : xstI n pc (zmp ls) (st.map zc) i = some (zx g) := by
  unfold zstI at h
  split at h
  · rename_i x r
    cases hb : Nat.blt i ls.length with
    | false => rw [hb] at h; cases h
    | true =>
      rw [hb] at h
      cases h
      have hb2 : Nat.blt i (zmp ls).length = true := by rw [List.length_map]; exact hb
      simp only [xstI, List.map_cons, zc, hb2, cond_true]
      rw [show Value.int (zI x) = zc (.inl x) from rfl, zst1_x]
      rfl
  · cases h
theorem zstA_x {n pc : Nat} {ls : zLs} {st : List zV} {i : Nat} {g : Nat × zLs × List zV} (h : zstA n pc ls st i = some g) : xstA n pc (zmp ls) (st.map zc) i = some (zx g) := by
  unfold zstA at h
  split at h
  · rename_i x r
    cases hb : Nat.blt i ls.length with
    | false => rw [hb] at h; cases h
    | true =>
      rw [hb] at h
      cases h
      have hb2 : Nat.blt i (zmp ls).length = true := by rw [List.length_map]; exact hb
      simp only [xstA, List.map_cons, zc, hb2, cond_true]
      rw [show Value.ref x = zc (.inr (.inr x)) from rfl, zst1_x]
      rfl
  · cases h
theorem zstL_x {n pc : Nat} {ls : zLs} {st : List zV} {i : Nat} {g : Nat × zLs × List zV} (h : zstL n pc ls st i = some g) : xstL n pc (zmp ls) (st.map zc) i = some (zx g) := by
  unfold zstL at h
  split at h
  · rename_i x r
    cases hb : Nat.blt (i + 1) ls.length with
    | false => rw [hb] at h; cases h
    | true =>
      rw [hb] at h
      cases h
      have hb2 : Nat.blt (i + 1) (zmp ls).length = true := by rw [List.length_map]; exact hb
      simp only [xstL, List.map_cons, zc, hb2, cond_true]
      rw [show Value.long (zJ x) = zc (.inr (.inl x)) from rfl, zst2_x]
      rfl
  · cases h
set_option maxHeartbeats 2000000 in
theorem zs1_x {own : Nat} {ins : Instr} {pc : Nat} {ls : zLs} {st : List zV} {g : Nat × zLs × List zV} (h : zs1 own ins pc ls st = some g) : xs1 own ins pc (zmp ls) (st.map zc) = some (zx g) := by
  cases ins
  case iconst n => cases h; rfl
  case bipush n =>
    simp only [zs1, xs1] at h ⊢
    cases hc : (decide (-128 ≤ n) && decide (n ≤ 127)) with
    | false => rw [hc] at h; cases h
    | true => rw [hc] at h; cases h; rfl
  case sipush n =>
    simp only [zs1, xs1] at h ⊢
    cases hc : (decide (-32768 ≤ n) && decide (n ≤ 32767)) with
    | false => rw [hc] at h; cases h
    | true => rw [hc] at h; cases h; rfl
  case lconst n => cases h; rfl
  case ldc ix =>
    simp only [zs1] at h
    split at h
    · rename_i hn
      cases h
      simp only [xs1, hn]
      rfl
    · cases h
  case ldc_w ix =>
    simp only [zs1] at h
    split at h
    · rename_i hn
      cases h
      simp only [xs1, hn]
      rfl
    · cases h
  case ldc2_w ix =>
    simp only [zs1] at h
    split at h
    · rename_i hn
      cases h
      simp only [xs1, hn]
      rfl
    · cases h
  case iload i => exact (zld_x (k := 0) (n := 2) (i := i) h).1 rfl
  case iload_n i => exact (zld_x (k := 0) (n := 1) (i := i.val) h).1 rfl
  case lload i => exact (zld_x (k := 1) (n := 2) (i := i) h).2.1 rfl
  case lload_n i => exact (zld_x (k := 1) (n := 1) (i := i.val) h).2.1 rfl
  case aload i => exact (zld_x (k := 2) (n := 2) (i := i) h).2.2 rfl
  case aload_n i => exact (zld_x (k := 2) (n := 1) (i := i.val) h).2.2 rfl
  case istore i => exact zstI_x h
  case istore_n i => exact zstI_x h
  case lstore i => exact zstL_x h
  case lstore_n i => exact zstL_x h
  case astore i => exact zstA_x h
  case astore_n i => exact zstA_x h
  case iinc i n =>
    simp only [zs1, xs1, zat_x] at h ⊢
    split at h
    · rename_i x hz
      cases hb : Nat.blt i ls.length with
      | false => rw [hb] at h; cases h
      | true =>
        rw [hb] at h
        cases h
        have hb2 : Nat.blt i (zmp ls).length = true := by rw [List.length_map]; exact hb
        simp only [hz, Option.map_some, zc, hb2, cond_true, zI_add]
        rw [show Value.int (zI (x + n)) = zc (.inl (x + n)) from rfl, zst1_x]
        rfl
    · cases h
  case iadd =>
    simp only [zs1, zii] at h
    split at h
    · cases h; simp only [xs1, xii, List.map_cons, zc, zI_add]; rfl
    · cases h
  case isub =>
    simp only [zs1, zii] at h
    split at h
    · cases h; simp only [xs1, xii, List.map_cons, zc, zI_sub]; rfl
    · cases h
  case imul =>
    simp only [zs1, zii] at h
    split at h
    · cases h; simp only [xs1, xii, List.map_cons, zc, zI_mul]; rfl
    · cases h
  case ineg =>
    simp only [zs1] at h
    split at h
    · cases h; simp only [xs1, xi, List.map_cons, zc, zI_neg]; rfl
    · cases h
  case ladd =>
    simp only [zs1, zll] at h
    split at h
    · cases h; simp only [xs1, xll, List.map_cons, zc, zJ_add]; rfl
    · cases h
  case lsub =>
    simp only [zs1, zll] at h
    split at h
    · cases h; simp only [xs1, xll, List.map_cons, zc, zJ_sub]; rfl
    · cases h
  case lmul =>
    simp only [zs1, zll] at h
    split at h
    · cases h; simp only [xs1, xll, List.map_cons, zc, zJ_mul]; rfl
    · cases h
  case lneg =>
    simp only [zs1] at h
    split at h
    · cases h; simp only [xs1, List.map_cons, zc, zJ_neg]; rfl
    · cases h
  case l2i =>
    simp only [zs1] at h
    split at h
    · cases h; simp only [xs1, List.map_cons, zc, zJ_32]; rfl
    · cases h
  case dup =>
    simp only [zs1] at h
    split at h
    · rename_i v r
      cases hc : zc1 v with
      | false => rw [hc] at h; cases h
      | true => rw [hc] at h; cases h; simp only [xs1, List.map_cons, zc1_x v hc, cond_true]; rfl
    · cases h
  case pop =>
    simp only [zs1] at h
    split at h
    · rename_i v r
      cases hc : zc1 v with
      | false => rw [hc] at h; cases h
      | true => rw [hc] at h; cases h; simp only [xs1, List.map_cons, zc1_x v hc, cond_true]; rfl
    · cases h
  case dup2 =>
    simp only [zs1] at h
    split at h
    · cases h; rfl
    · rename_i v w r hv
      cases hc : (zc1 v && zc1 w) with
      | false => rw [hc] at h; cases h
      | true =>
        rw [hc] at h
        cases h
        simp only [Bool.and_eq_true] at hc
        have h1 := zc1_x v hc.1
        have h2 := zc1_x w hc.2
        cases v with
        | inl z => simp only [xs1, List.map_cons, zc] at h1 h2 ⊢; simp only [h1, h2, Bool.and_self, cond_true]; rfl
        | inr v =>
          cases v with
          | inl z => cases hc.1
          | inr z => simp only [xs1, List.map_cons, zc] at h1 h2 ⊢; simp only [h1, h2, Bool.and_self, cond_true]; rfl
    · cases h
  case goto off =>
    simp only [zs1] at h
    split at h
    · rename_i ht
      cases h
      simp only [xs1, ht]
      rfl
    · cases h
  all_goals (exact absurd h (by simp [zs1]))
