/-! a run is the same at another place of the heap -/
def sv (b : Nat) : Value → Value
  | .ref a => .ref (a + b)
  | v => v
abbrev sl (b : Nat) (ls : xLs) : xLs := ls.map (Option.map (sv b))
theorem sv_cat (b : Nat) (v : Value) : (sv b v).category = v.category := by
  cases v <;> rfl
theorem sl_at (b : Nat) : ∀ (ls : xLs) (i : Nat), xat (sl b ls) i = (xat ls i).map (sv b)
  | [], _ => rfl
  | x :: _, 0 => rfl
  | _ :: l, n + 1 => sl_at b l n
theorem sl_put (b : Nat) (v : Option Value) : ∀ (ls : xLs) (i : Nat), xput (sl b ls) i (v.map (sv b)) = sl b (xput ls i v)
  | [], _ => rfl
  | _ :: _, 0 => rfl
  | x :: l, n + 1 => by
    show x.map (sv b) :: xput (sl b l) n (v.map (sv b)) = x.map (sv b) :: sl b (xput l n v)
    rw [sl_put b v l n]
theorem sl_kill (b : Nat) (x : Option Value) : xkill (x.map (sv b)) = (xkill x).map (sv b) := by
  cases x with
  | none => rfl
  | some v => cases v <;> rfl
theorem sl_mod (b : Nat) : ∀ (ls : xLs) (i : Nat), xmod (sl b ls) i = sl b (xmod ls i)
  | [], _ => rfl
  | x :: l, 0 => by
    show xkill (x.map (sv b)) :: sl b l = (xkill x).map (sv b) :: sl b l
    rw [sl_kill]
  | x :: l, n + 1 => by
    show x.map (sv b) :: xmod (sl b l) n = x.map (sv b) :: sl b (xmod l n)
    rw [sl_mod b l n]
theorem sl_kl (b : Nat) (ls : xLs) (i : Nat) : xkl (sl b ls) i = sl b (xkl ls i) := by
  cases i with
  | zero => rfl
  | succ i => exact sl_mod b ls i
theorem sl_st1 (b : Nat) (ls : xLs) (i : Nat) (v : Value) : xst1 (sl b ls) i (sv b v) = sl b (xst1 ls i v) := by
  rw [xst1, xst1, sl_kl]
  exact sl_put b (some v) _ i
theorem sl_st2 (b : Nat) (ls : xLs) (i : Nat) (v : Value) : xst2 (sl b ls) i (sv b v) = sl b (xst2 ls i v) := by
  rw [xst2, xst2, sl_kl]
  have h1 := sl_put b (some v) (xkl ls i) i
  have h2 := sl_put b none (xput (xkl ls i) i (some v)) (i + 1)
  rw [← h2, ← h1]
  rfl
theorem sl_len (b : Nat) (ls : xLs) : (sl b ls).length = ls.length := List.length_map ..
def sm (b : Nat) (r : Nat × xLs × List Value) : Nat × xLs × List Value := (r.1, sl b r.2.1, r.2.2.map (sv b))
theorem sh_ldI {b n pc i : Nat} {ls : xLs} {st : List Value} : xldI n pc (sl b ls) (st.map (sv b)) i = (xldI n pc ls st i).map (sm b) := by
  unfold xldI
  rw [sl_at]
  cases xat ls i with
  | none => rfl
  | some v => cases v <;> rfl
theorem sh_ldL {b n pc i : Nat} {ls : xLs} {st : List Value} : xldL n pc (sl b ls) (st.map (sv b)) i = (xldL n pc ls st i).map (sm b) := by
  unfold xldL
  rw [sl_at]
  cases xat ls i with
  | none => rfl
  | some v => cases v <;> rfl
theorem sh_ldA {b n pc i : Nat} {ls : xLs} {st : List Value} : xldA n pc (sl b ls) (st.map (sv b)) i = (xldA n pc ls st i).map (sm b) := by
  unfold xldA
  rw [sl_at]
  cases xat ls i with
  | none => rfl
  | some v => cases v <;> rfl
theorem sh_stI {b n pc i : Nat} {ls : xLs} {st : List Value} : xstI n pc (sl b ls) (st.map (sv b)) i = (xstI n pc ls st i).map (sm b) := by
  cases st with
  | nil => rfl
  | cons v r =>
    cases v <;> try rfl
    rename_i x
    show (bif Nat.blt i (sl b ls).length then some (pc + n, xst1 (sl b ls) i (sv b (.int x)), r.map (sv b)) else none) = (bif Nat.blt i ls.length then some (pc + n, xst1 ls i (.int x), r) else none).map (sm b)
    rw [sl_len, sl_st1]
    cases Nat.blt i ls.length <;> rfl
theorem sh_stL {b n pc i : Nat} {ls : xLs} {st : List Value} : xstL n pc (sl b ls) (st.map (sv b)) i = (xstL n pc ls st i).map (sm b) := by
  cases st with
  | nil => rfl
  | cons v r =>
    cases v <;> try rfl
    rename_i x
    show (bif Nat.blt (i + 1) (sl b ls).length then some (pc + n, xst2 (sl b ls) i (sv b (.long x)), r.map (sv b)) else none) = (bif Nat.blt (i + 1) ls.length then some (pc + n, xst2 ls i (.long x), r) else none).map (sm b)
    rw [sl_len, sl_st2]
    cases Nat.blt (i + 1) ls.length <;> rfl
theorem sh_stA {b n pc i : Nat} {ls : xLs} {st : List Value} : xstA n pc (sl b ls) (st.map (sv b)) i = (xstA n pc ls st i).map (sm b) := by
  cases st with
  | nil => rfl
  | cons v r =>
    cases v <;> try rfl
    rename_i x
    show (bif Nat.blt i (sl b ls).length then some (pc + n, xst1 (sl b ls) i (sv b (.ref x)), r.map (sv b)) else none) = (bif Nat.blt i ls.length then some (pc + n, xst1 ls i (.ref x), r) else none).map (sm b)
    rw [sl_len, sl_st1]
    cases Nat.blt i ls.length <;> rfl
theorem sh_ii {b pc : Nat} {f : Int32 → Int32 → Int32} {ls : xLs} {st : List Value} : xii f pc (sl b ls) (st.map (sv b)) = (xii f pc ls st).map (sm b) := by
  rcases st with _ | ⟨v, _ | ⟨u, r⟩⟩
  · rfl
  · cases v <;> rfl
  · cases v <;> cases u <;> rfl
theorem sh_ll {b pc : Nat} {f : Int64 → Int64 → Int64} {ls : xLs} {st : List Value} : xll f pc (sl b ls) (st.map (sv b)) = (xll f pc ls st).map (sm b) := by
  rcases st with _ | ⟨v, _ | ⟨u, r⟩⟩
  · rfl
  · cases v <;> rfl
  · cases v <;> cases u <;> rfl
theorem sh_i {b pc : Nat} {f : Int32 → Int32} {ls : xLs} {st : List Value} : xi f pc (sl b ls) (st.map (sv b)) = (xi f pc ls st).map (sm b) := by
  rcases st with _ | ⟨v, r⟩
  · rfl
  · cases v <;> rfl
theorem sh_c1 (b : Nat) (v : Value) : xc1 (sv b v) = xc1 v := by
  rw [xc1, xc1, sv_cat]
theorem sh_bif {α β : Type} (c : Bool) (x : α) (f : α → β) : (bif c then some (f x) else none) = (bif c then some x else none).map f := by
  cases c <;> rfl
theorem sh_iinc {b pc i : Nat} {n : Int} {ls : xLs} {st : List Value} : (match xat (sl b ls) i with
    | some (.int x) => bif Nat.blt i (sl b ls).length then some (pc + 3, xst1 (sl b ls) i (.int (x + Int32.ofInt n)), st.map (sv b)) else none
    | _ => none) = (match xat ls i with
    | some (.int x) => bif Nat.blt i ls.length then some (pc + 3, xst1 ls i (.int (x + Int32.ofInt n)), st) else none
    | _ => none).map (sm b) := by
  rw [sl_at]
  cases xat ls i with
  | none => rfl
  | some v =>
    cases v <;> try rfl
    rename_i x
    show (bif Nat.blt i (sl b ls).length then some (pc + 3, xst1 (sl b ls) i (sv b (.int (x + Int32.ofInt n))), st.map (sv b)) else none) = (bif Nat.blt i ls.length then some (pc + 3, xst1 ls i (.int (x + Int32.ofInt n)), st) else none).map (sm b)
    rw [sl_len, sl_st1]
    exact sh_bif _ (pc + 3, xst1 ls i (.int (x + Int32.ofInt n)), st) (sm b)
theorem sh_s1 {b own pc : Nat} {ins : Instr} {ls : xLs} {st : List Value} : xs1 own ins pc (sl b ls) (st.map (sv b)) = (xs1 own ins pc ls st).map (sm b) := by
  unfold xs1
  cases ins <;> first
    | rfl
    | exact sh_ldI
    | exact sh_ldL
    | exact sh_ldA
    | exact sh_stI
    | exact sh_stL
    | exact sh_stA
    | exact sh_ii
    | exact sh_ll
    | exact sh_i
    | skip
  case bipush n => exact sh_bif _ (pc + 2, ls, Value.int (Int32.ofInt n) :: st) (sm b)
  case sipush n => exact sh_bif _ (pc + 3, ls, Value.int (Int32.ofInt n) :: st) (sm b)
  case ldc ix =>
    dsimp only
    cases xas (xconT own) ix <;> rfl
  case ldc_w ix =>
    dsimp only
    cases xas (xconT own) ix <;> rfl
  case ldc2_w ix =>
    dsimp only
    cases xas (xconLT own) ix <;> rfl
  case iinc i n => exact sh_iinc
  case i2l =>
    rcases st with _ | ⟨v, r⟩
    · rfl
    · cases v <;> rfl
  case l2i =>
    rcases st with _ | ⟨v, r⟩
    · rfl
    · cases v <;> rfl
  case lneg =>
    rcases st with _ | ⟨v, r⟩
    · rfl
    · cases v <;> rfl
  case lcmp =>
    rcases st with _ | ⟨v, _ | ⟨u, r⟩⟩
    · rfl
    · cases v <;> rfl
    · cases v <;> cases u <;> rfl
  case dup =>
    rcases st with _ | ⟨v, r⟩
    · rfl
    · show (bif xc1 (sv b v) then some (pc + 1, sl b ls, sv b v :: sv b v :: r.map (sv b)) else none) = _
      rw [sh_c1]
      exact sh_bif _ (pc + 1, ls, v :: v :: r) (sm b)
  case pop =>
    rcases st with _ | ⟨v, r⟩
    · rfl
    · show (bif xc1 (sv b v) then some (pc + 1, sl b ls, r.map (sv b)) else none) = _
      rw [sh_c1]
      exact sh_bif _ (pc + 1, ls, r) (sm b)
  case dup2 =>
    rcases st with _ | ⟨v, _ | ⟨u, r⟩⟩
    · rfl
    · cases v <;> rfl
    · by_cases hv : ∃ x, v = .long x
      · obtain ⟨x, rfl⟩ := hv
        rfl
      · have e : ∀ (v u : Value) (r : List Value) (ls : xLs), (¬ ∃ x, v = .long x) → (match v :: u :: r with
            | .long x :: r => some (pc + 1, ls, Value.long x :: .long x :: r)
            | v :: w :: r => bif (xc1 v && xc1 w) then some (pc + 1, ls, v :: w :: v :: w :: r) else none
            | _ => none) = bif (xc1 v && xc1 u) then some (pc + 1, ls, v :: u :: v :: u :: r) else none := fun v u r ls h => by
          cases v <;> first | rfl | exact absurd ⟨_, rfl⟩ h
        have hv2 : ¬ ∃ x, sv b v = .long x := fun ⟨x, q⟩ => by
          cases v <;> first | exact hv ⟨_, rfl⟩ | (cases q; done)
        refine (e (sv b v) (sv b u) (r.map (sv b)) (sl b ls) hv2).trans ?_
        refine Eq.trans ?_ (congrArg (Option.map (sm b)) (e v u r ls hv)).symm
        rw [sh_c1, sh_c1]
        exact sh_bif _ (pc + 1, ls, v :: u :: v :: u :: r) (sm b)
  case goto off =>
    dsimp only
    cases xj pc off <;> rfl
def sc (b : Nat) : ((Nat → Int32) ⊕ (Nat → Int64) ⊕ (Nat → UInt32) ⊕ (Nat → UInt64) ⊕ (Nat → Option Nat)) → ((Nat → Int32) ⊕ (Nat → Int64) ⊕ (Nat → UInt32) ⊕ (Nat → UInt64) ⊕ (Nat → Option Nat))
  | .inr (.inr (.inr (.inr f))) => .inr (.inr (.inr (.inr fun i => (f i).map fun a => a + b)))
  | c => c
def se (b : Nat) : xE → xE
  | .inr (c, fs) => .inr (c, fs.map (sv b))
  | .inl (t, n, c) => .inl (t, n, sc b c)
/-- a heap, moved up over another -/
def sh (b : Nat) (g h : xH) : xH := fun a => if a < b then g a else se b (h (a - b))
theorem sh_at {b a : Nat} {g h : xH} : sh b g h (a + b) = se b (h a) := by
  unfold sh
  rw [if_neg (by omega), Nat.add_sub_cancel]
theorem sh_up {b a : Nat} {g h : xH} {v w : xE} (e : w = se b v) : va_up (sh b g h) (a + b) w = sh b g (va_up h a v) := by
  funext q
  unfold va_up sh
  by_cases c : q = a + b
  · rw [if_pos c, if_neg (by omega)]
    show w = se b (if q - b = a then v else h (q - b))
    rw [if_pos (by omega)]
    exact e
  · rw [if_neg c]
    by_cases d : q < b
    · rw [if_pos d, if_pos d]
    · rw [if_neg d, if_neg d]
      show se b (h (q - b)) = se b (if q - b = a then v else h (q - b))
      rw [if_neg (by omega)]
def sn2 (b : Nat) (n : xN) : xN := (n.1 + b, n.2)
def s2m (b : Nat) (g : xH) (r : List Value × xH × xN) : List Value × xH × xN := (r.1.map (sv b), sh b g r.2.1, sn2 b r.2.2)
theorem sv_ok (b : Nat) (ty : FieldType) (v : Value) : xok ty (sv b v) = xok ty v := by
  cases v <;> first | rfl | (cases ty <;> rfl)
theorem sh_gf {b own ix : Nat} {st : List Value} {g h : xH} : xgf own ix (st.map (sv b)) (sh b g h) = (xgf own ix st h).map (List.map (sv b)) := by
  unfold xgf
  cases xas (xfldT own) ix with
  | none => rfl
  | some q =>
    obtain ⟨ci, k⟩ := q
    dsimp only
    rcases st with _ | ⟨v, r⟩
    · rfl
    · cases v <;> try rfl
      rename_i a
      show (match sh b g h (a + b) with
        | .inr (c2, fs) => match Nat.beq c2 ci with
          | true => match fs[k]? with
            | some v => some (v :: r.map (sv b))
            | none => none
          | false => none
        | .inl _ => none) = _
      rw [sh_at]
      show _ = (match h a with
        | .inr (c2, fs) => match Nat.beq c2 ci with
          | true => match fs[k]? with
            | some v => some (v :: r)
            | none => none
          | false => none
        | .inl _ => none).map (List.map (sv b))
      rcases h a with ⟨t, n, c⟩ | ⟨c2, fs⟩
      · rfl
      · show (match Nat.beq c2 ci with
          | true => match (fs.map (sv b))[k]? with
            | some v => some (v :: r.map (sv b))
            | none => none
          | false => none) = (match Nat.beq c2 ci with
          | true => match fs[k]? with
            | some v => some (v :: r)
            | none => none
          | false => none).map (List.map (sv b))
        rw [List.getElem?_map]
        cases Nat.beq c2 ci with
        | false => rfl
        | true => cases fs[k]? <;> rfl
def spm (b : Nat) (g : xH) (r : List Value × xH) : List Value × xH := (r.1.map (sv b), sh b g r.2)
theorem sh_pf {b own ix : Nat} {ini : Bool} {st : List Value} {g h : xH} : xpf own ini ix (st.map (sv b)) (sh b g h) = (xpf own ini ix st h).map (spm b g) := by
  unfold xpf
  cases xas (xfldT own) ix with
  | none => rfl
  | some q =>
    obtain ⟨ci, k⟩ := q
    dsimp only
    rcases st with _ | ⟨v, _ | ⟨u, r⟩⟩
    · rfl
    · rfl
    · cases u <;> try rfl
      rename_i a
      show (match sh b g h (a + b) with
        | .inr (c2, fs) => match Nat.beq c2 ci && (xok (xFt ci k) (sv b v) && (Nat.blt k fs.length && Nat.blt k (xFn ci)) && (!(xF ci k).2.2.2 || (ini && Nat.beq own ci))) with
          | true => some (r.map (sv b), va_up (sh b g h) (a + b) (.inr (ci, fs.set k (sv b v))))
          | false => none
        | .inl _ => none) = _
      rw [sh_at]
      show _ = (match h a with
        | .inr (c2, fs) => match Nat.beq c2 ci && (xok (xFt ci k) v && (Nat.blt k fs.length && Nat.blt k (xFn ci)) && (!(xF ci k).2.2.2 || (ini && Nat.beq own ci))) with
          | true => some (r, va_up h a (.inr (ci, fs.set k v)))
          | false => none
        | .inl _ => none).map (spm b g)
      rcases h a with ⟨t, n, c⟩ | ⟨c2, fs⟩
      · rfl
      · show (match Nat.beq c2 ci && (xok (xFt ci k) (sv b v) && (Nat.blt k (fs.map (sv b)).length && Nat.blt k (xFn ci)) && (!(xF ci k).2.2.2 || (ini && Nat.beq own ci))) with
          | true => some (r.map (sv b), va_up (sh b g h) (a + b) (.inr (ci, (fs.map (sv b)).set k (sv b v))))
          | false => none) = (match Nat.beq c2 ci && (xok (xFt ci k) v && (Nat.blt k fs.length && Nat.blt k (xFn ci)) && (!(xF ci k).2.2.2 || (ini && Nat.beq own ci))) with
          | true => some (r, va_up h a (.inr (ci, fs.set k v)))
          | false => none).map (spm b g)
        rw [sv_ok, List.length_map, sh_up (v := .inr (ci, fs.set k v)) (by rw [← List.map_set]; rfl)]
        cases Nat.beq c2 ci && (xok (xFt ci k) v && (Nat.blt k fs.length && Nat.blt k (xFn ci)) && (!(xF ci k).2.2.2 || (ini && Nat.beq own ci))) <;> rfl
theorem sv_def (b : Nat) (ci : Nat) : ((List.range (xFn ci)).map fun k => xdef (xFt ci k)).map (sv b) = (List.range (xFn ci)).map fun k => xdef (xFt ci k) := by
  rw [List.map_map]
  refine List.map_congr_left (fun k _ => ?_)
  show sv b (xdef (xFt ci k)) = xdef (xFt ci k)
  cases xFt ci k <;> rfl
theorem sh_new {b a : Nat} {g h : xH} {v : xE} (e : v = se b v) : va_up (sh b g h) (a + b) v = sh b g (va_up h a v) := sh_up e
theorem sn_1 (b : Nat) (n : xN) (c s : Nat) : ((n.1 + b) + 1, c, s) = sn2 b (n.1 + 1, c, s) := by
  show _ = (n.1 + 1 + b, c, s)
  rw [Nat.add_right_comm]
theorem sv_rf (b : Nat) (o : Option Nat) : sv b (va_rf o) = va_rf (o.map fun a => a + b) := by
  cases o <;> rfl
theorem sh_b2 {α β : Type} (c : Bool) (x : α) (f : α → β) : (match c with
    | true => some (f x)
    | false => none) = (match c with
    | true => some x
    | false => none).map f := by
  cases c <;> rfl
section
variable {b own mc ms : Nat} {ini : Bool} {st : List Value} {g h : xH} {n : xN}
theorem sh_iald : xs2 own mc ms ini .iaload (st.map (sv b)) (sh b g h) (sn2 b n) = (xs2 own mc ms ini .iaload st h n).map (s2m b g) := by
  unfold xs2
  dsimp only
  rcases st with _ | ⟨v, _ | ⟨u, r⟩⟩
  · rfl
  · cases v <;> rfl
  · cases v <;> try rfl
    cases u <;> try rfl
    rename_i i a
    show (match sh b g h (a + b) with
      | .inl (0, len, .inl f) => match xin i len with
        | true => some (Value.int (f i.toNatClampNeg) :: r.map (sv b), sh b g h, sn2 b n)
        | false => none
      | _ => none) = (match h a with
      | .inl (0, len, .inl f) => match xin i len with
        | true => some (Value.int (f i.toNatClampNeg) :: r, h, n)
        | false => none
      | _ => none).map (s2m b g)
    rw [sh_at]
    rcases h a with ⟨t, len, f | f | f | f | f⟩ | ⟨c2, fs⟩ <;> try rfl
    all_goals (rcases t with _ | t <;> try rfl)
    exact sh_b2 (xin i len) (Value.int (f i.toNatClampNeg) :: r, h, n) (s2m b g)
theorem sh_lald : xs2 own mc ms ini .laload (st.map (sv b)) (sh b g h) (sn2 b n) = (xs2 own mc ms ini .laload st h n).map (s2m b g) := by
  unfold xs2
  dsimp only
  rcases st with _ | ⟨v, _ | ⟨u, r⟩⟩
  · rfl
  · cases v <;> rfl
  · cases v <;> try rfl
    cases u <;> try rfl
    rename_i i a
    show (match sh b g h (a + b) with
      | .inl (1, len, .inr (.inl f)) => match xin i len with
        | true => some (Value.long (f i.toNatClampNeg) :: r.map (sv b), sh b g h, sn2 b n)
        | false => none
      | _ => none) = (match h a with
      | .inl (1, len, .inr (.inl f)) => match xin i len with
        | true => some (Value.long (f i.toNatClampNeg) :: r, h, n)
        | false => none
      | _ => none).map (s2m b g)
    rw [sh_at]
    rcases h a with ⟨t, len, f | f | f | f | f⟩ | ⟨c2, fs⟩ <;> try rfl
    all_goals (rcases t with _ | _ | t <;> try rfl)
    exact sh_b2 (xin i len) (Value.long (f i.toNatClampNeg) :: r, h, n) (s2m b g)
theorem sh_bald : xs2 own mc ms ini .baload (st.map (sv b)) (sh b g h) (sn2 b n) = (xs2 own mc ms ini .baload st h n).map (s2m b g) := by
  unfold xs2
  dsimp only
  rcases st with _ | ⟨v, _ | ⟨u, r⟩⟩
  · rfl
  · cases v <;> rfl
  · cases v <;> try rfl
    cases u <;> try rfl
    rename_i i a
    show (match sh b g h (a + b) with
      | .inl (2, len, .inl f) => match xin i len with
        | true => some (Value.int (f i.toNatClampNeg) :: r.map (sv b), sh b g h, sn2 b n)
        | false => none
      | _ => none) = (match h a with
      | .inl (2, len, .inl f) => match xin i len with
        | true => some (Value.int (f i.toNatClampNeg) :: r, h, n)
        | false => none
      | _ => none).map (s2m b g)
    rw [sh_at]
    rcases h a with ⟨t, len, f | f | f | f | f⟩ | ⟨c2, fs⟩ <;> try rfl
    all_goals (rcases t with _ | _ | _ | t <;> try rfl)
    exact sh_b2 (xin i len) (Value.int (f i.toNatClampNeg) :: r, h, n) (s2m b g)
theorem sh_aald : xs2 own mc ms ini .aaload (st.map (sv b)) (sh b g h) (sn2 b n) = (xs2 own mc ms ini .aaload st h n).map (s2m b g) := by
  unfold xs2
  dsimp only
  rcases st with _ | ⟨v, _ | ⟨u, r⟩⟩
  · rfl
  · cases v <;> rfl
  · cases v <;> try rfl
    cases u <;> try rfl
    rename_i i a
    show (match sh b g h (a + b) with
      | .inl (t, len, .inr (.inr (.inr (.inr f)))) => match xin i len && (Nat.beq t 3 || Nat.beq t 4) with
        | true => some (va_rf (f i.toNatClampNeg) :: r.map (sv b), sh b g h, sn2 b n)
        | false => none
      | _ => none) = (match h a with
      | .inl (t, len, .inr (.inr (.inr (.inr f)))) => match xin i len && (Nat.beq t 3 || Nat.beq t 4) with
        | true => some (va_rf (f i.toNatClampNeg) :: r, h, n)
        | false => none
      | _ => none).map (s2m b g)
    rw [sh_at]
    rcases h a with ⟨t, len, f | f | f | f | f⟩ | ⟨c2, fs⟩ <;> try rfl
    show (match xin i len && (Nat.beq t 3 || Nat.beq t 4) with
      | true => some (va_rf ((f i.toNatClampNeg).map fun a => a + b) :: r.map (sv b), sh b g h, sn2 b n)
      | false => none) = _
    rw [← sv_rf]
    exact sh_b2 (xin i len && (Nat.beq t 3 || Nat.beq t 4)) (va_rf (f i.toNatClampNeg) :: r, h, n) (s2m b g)
theorem sh_iast : xs2 own mc ms ini .iastore (st.map (sv b)) (sh b g h) (sn2 b n) = (xs2 own mc ms ini .iastore st h n).map (s2m b g) := by
  unfold xs2
  dsimp only
  rcases st with _ | ⟨v, _ | ⟨u, _ | ⟨w, r⟩⟩⟩
  · rfl
  · cases v <;> rfl
  · cases v <;> try rfl
    cases u <;> rfl
  · cases v <;> try rfl
    cases u <;> try rfl
    cases w <;> try rfl
    rename_i x i a
    show (match sh b g h (a + b) with
      | .inl (0, len, .inl f) => match xin i len with
        | true => some (r.map (sv b), va_up (sh b g h) (a + b) (.inl (0, len, .inl (upd f i.toNatClampNeg x))), sn2 b n)
        | false => none
      | _ => none) = (match h a with
      | .inl (0, len, .inl f) => match xin i len with
        | true => some (r, va_up h a (.inl (0, len, .inl (upd f i.toNatClampNeg x))), n)
        | false => none
      | _ => none).map (s2m b g)
    rw [sh_at]
    rcases h a with ⟨t, len, f | f | f | f | f⟩ | ⟨c2, fs⟩ <;> try rfl
    all_goals (rcases t with _ | t <;> try rfl)
    show (match xin i len with
      | true => some (r.map (sv b), va_up (sh b g h) (a + b) (.inl (0, len, .inl (upd f i.toNatClampNeg x))), sn2 b n)
      | false => none) = _
    rw [sh_up (w := .inl (0, len, .inl (upd f i.toNatClampNeg x))) (v := .inl (0, len, .inl (upd f i.toNatClampNeg x))) rfl]
    exact sh_b2 (xin i len) (r, va_up h a (.inl (0, len, .inl (upd f i.toNatClampNeg x))), n) (s2m b g)
theorem sh_last : xs2 own mc ms ini .lastore (st.map (sv b)) (sh b g h) (sn2 b n) = (xs2 own mc ms ini .lastore st h n).map (s2m b g) := by
  unfold xs2
  dsimp only
  rcases st with _ | ⟨v, _ | ⟨u, _ | ⟨w, r⟩⟩⟩
  · rfl
  · cases v <;> rfl
  · cases v <;> try rfl
    cases u <;> rfl
  · cases v <;> try rfl
    cases u <;> try rfl
    cases w <;> try rfl
    rename_i x i a
    show (match sh b g h (a + b) with
      | .inl (1, len, .inr (.inl f)) => match xin i len with
        | true => some (r.map (sv b), va_up (sh b g h) (a + b) (.inl (1, len, .inr (.inl (vp_updL f i.toNatClampNeg x)))), sn2 b n)
        | false => none
      | _ => none) = (match h a with
      | .inl (1, len, .inr (.inl f)) => match xin i len with
        | true => some (r, va_up h a (.inl (1, len, .inr (.inl (vp_updL f i.toNatClampNeg x)))), n)
        | false => none
      | _ => none).map (s2m b g)
    rw [sh_at]
    rcases h a with ⟨t, len, f | f | f | f | f⟩ | ⟨c2, fs⟩ <;> try rfl
    all_goals (rcases t with _ | _ | t <;> try rfl)
    show (match xin i len with
      | true => some (r.map (sv b), va_up (sh b g h) (a + b) (.inl (1, len, .inr (.inl (vp_updL f i.toNatClampNeg x)))), sn2 b n)
      | false => none) = _
    rw [sh_up (w := .inl (1, len, .inr (.inl (vp_updL f i.toNatClampNeg x)))) (v := .inl (1, len, .inr (.inl (vp_updL f i.toNatClampNeg x)))) rfl]
    exact sh_b2 (xin i len) (r, va_up h a (.inl (1, len, .inr (.inl (vp_updL f i.toNatClampNeg x)))), n) (s2m b g)
theorem sh_bast : xs2 own mc ms ini .bastore (st.map (sv b)) (sh b g h) (sn2 b n) = (xs2 own mc ms ini .bastore st h n).map (s2m b g) := by
  unfold xs2
  dsimp only
  rcases st with _ | ⟨v, _ | ⟨u, _ | ⟨w, r⟩⟩⟩
  · rfl
  · cases v <;> rfl
  · cases v <;> try rfl
    cases u <;> rfl
  · cases v <;> try rfl
    cases u <;> try rfl
    cases w <;> try rfl
    rename_i x i a
    show (match sh b g h (a + b) with
      | .inl (2, len, .inl f) => match xin i len with
        | true => some (r.map (sv b), va_up (sh b g h) (a + b) (.inl (2, len, .inl (upd f i.toNatClampNeg (vp_nar .boolean x)))), sn2 b n)
        | false => none
      | _ => none) = (match h a with
      | .inl (2, len, .inl f) => match xin i len with
        | true => some (r, va_up h a (.inl (2, len, .inl (upd f i.toNatClampNeg (vp_nar .boolean x)))), n)
        | false => none
      | _ => none).map (s2m b g)
    rw [sh_at]
    rcases h a with ⟨t, len, f | f | f | f | f⟩ | ⟨c2, fs⟩ <;> try rfl
    all_goals (rcases t with _ | _ | _ | t <;> try rfl)
    show (match xin i len with
      | true => some (r.map (sv b), va_up (sh b g h) (a + b) (.inl (2, len, .inl (upd f i.toNatClampNeg (vp_nar .boolean x)))), sn2 b n)
      | false => none) = _
    rw [sh_up (w := .inl (2, len, .inl (upd f i.toNatClampNeg (vp_nar .boolean x)))) (v := .inl (2, len, .inl (upd f i.toNatClampNeg (vp_nar .boolean x)))) rfl]
    exact sh_b2 (xin i len) (r, va_up h a (.inl (2, len, .inl (upd f i.toNatClampNeg (vp_nar .boolean x)))), n) (s2m b g)
theorem sh_aast : xs2 own mc ms ini .aastore (st.map (sv b)) (sh b g h) (sn2 b n) = (xs2 own mc ms ini .aastore st h n).map (s2m b g) := by
  unfold xs2
  dsimp only
  rcases st with _ | ⟨v, _ | ⟨u, _ | ⟨w, r⟩⟩⟩
  · rfl
  · cases v <;> rfl
  · cases v <;> try rfl
    cases u <;> rfl
  · cases v <;> try rfl
    cases u <;> try rfl
    cases w <;> try rfl
    rename_i x i a
    show (match sh b g h (a + b) with
      | .inl (t, len, .inr (.inr (.inr (.inr f)))) => match sh b g h (x + b) with
        | .inr (ci, _) => match xin i len && ((Nat.beq t 3 && Nat.beq ci 5) || (Nat.beq t 4 && Nat.beq ci 4)) with
          | true => some (r.map (sv b), va_up (sh b g h) (a + b) (.inl (t, len, .inr (.inr (.inr (.inr (va_up f i.toNatClampNeg (some (x + b)))))))), sn2 b n)
          | false => none
        | _ => none
      | _ => none) = (match h a with
      | .inl (t, len, .inr (.inr (.inr (.inr f)))) => match h x with
        | .inr (ci, _) => match xin i len && ((Nat.beq t 3 && Nat.beq ci 5) || (Nat.beq t 4 && Nat.beq ci 4)) with
          | true => some (r, va_up h a (.inl (t, len, .inr (.inr (.inr (.inr (va_up f i.toNatClampNeg (some x))))))), n)
          | false => none
        | _ => none
      | _ => none).map (s2m b g)
    rw [sh_at, sh_at]
    rcases h a with ⟨t, len, f | f | f | f | f⟩ | ⟨c2, fs⟩ <;> try rfl
    rcases h x with ⟨t2, len2, c3⟩ | ⟨ci, fs⟩
    · rfl
    · show (match xin i len && ((Nat.beq t 3 && Nat.beq ci 5) || (Nat.beq t 4 && Nat.beq ci 4)) with
        | true => some (r.map (sv b), va_up (sh b g h) (a + b) (.inl (t, len, .inr (.inr (.inr (.inr (va_up (fun i => (f i).map fun a => a + b) i.toNatClampNeg (some (x + b)))))))), sn2 b n)
        | false => none) = _
      rw [sh_up (w := .inl (t, len, .inr (.inr (.inr (.inr (va_up (fun i => (f i).map fun a => a + b) i.toNatClampNeg (some (x + b)))))))) (v := .inl (t, len, .inr (.inr (.inr (.inr (va_up f i.toNatClampNeg (some x))))))) (by
        have e : va_up (fun i => (f i).map fun a => a + b) i.toNatClampNeg (some (x + b)) = fun j => (va_up f i.toNatClampNeg (some x) j).map fun a => a + b := by
          funext j
          unfold va_up
          split <;> rfl
        rw [e]
        rfl)]
      exact sh_b2 (xin i len && ((Nat.beq t 3 && Nat.beq ci 5) || (Nat.beq t 4 && Nat.beq ci 4))) (r, va_up h a (.inl (t, len, .inr (.inr (.inr (.inr (va_up f i.toNatClampNeg (some x))))))), n) (s2m b g)
end
section
variable {b own mc ms : Nat} {ini : Bool} {st : List Value} {g h : xH} {n : xN}
theorem sh_div {ins : Instr} (hi : ins = .idiv ∨ ins = .irem ∨ ins = .ldiv ∨ ins = .lrem) : xs2 own mc ms ini ins (st.map (sv b)) (sh b g h) (sn2 b n) = (xs2 own mc ms ini ins st h n).map (s2m b g) := by
  have hb : ∀ (c : Bool) (x : List Value × xH × xN), (match c with
      | false => some (s2m b g x)
      | true => none) = (match c with
      | false => some x
      | true => none).map (s2m b g) := fun c x => by cases c <;> rfl
  rcases hi with rfl | rfl | rfl | rfl
  · unfold xs2
    dsimp only
    rcases st with _ | ⟨v, _ | ⟨u, r⟩⟩
    · rfl
    · cases v <;> rfl
    · cases v <;> try rfl
      cases u <;> try rfl
      rename_i y x
      exact hb (decide (y = 0)) (Value.int (x / y) :: r, h, n)
  · unfold xs2
    dsimp only
    rcases st with _ | ⟨v, _ | ⟨u, r⟩⟩
    · rfl
    · cases v <;> rfl
    · cases v <;> try rfl
      cases u <;> try rfl
      rename_i y x
      exact hb (decide (y = 0)) (Value.int (x - x / y * y) :: r, h, n)
  · unfold xs2
    dsimp only
    rcases st with _ | ⟨v, _ | ⟨u, r⟩⟩
    · rfl
    · cases v <;> rfl
    · cases v <;> try rfl
      cases u <;> try rfl
      rename_i y x
      exact hb (decide (y = 0)) (Value.long (x / y) :: r, h, n)
  · unfold xs2
    dsimp only
    rcases st with _ | ⟨v, _ | ⟨u, r⟩⟩
    · rfl
    · cases v <;> rfl
    · cases v <;> try rfl
      cases u <;> try rfl
      rename_i y x
      exact hb (decide (y = 0)) (Value.long (x - x / y * y) :: r, h, n)
theorem sh_newo {ix : Nat} : xs2 own mc ms ini (.new ix) (st.map (sv b)) (sh b g h) (sn2 b n) = (xs2 own mc ms ini (.new ix) st h n).map (s2m b g) := by
  obtain ⟨t, c, s⟩ := n
  unfold xs2
  dsimp only
  cases xas (xclsT own) ix with
  | none => rfl
  | some ci =>
    show (match Nat.blt c mc && Nat.ble (s + xFn ci) ms with
      | true => some (Value.ref (t + b) :: st.map (sv b), va_up (sh b g h) (t + b) (.inr (ci, (List.range (xFn ci)).map fun k => xdef (xFt ci k))), (t + b + 1, c + 1, s + xFn ci))
      | false => none) = (match Nat.blt c mc && Nat.ble (s + xFn ci) ms with
      | true => some (Value.ref t :: st, va_up h t (.inr (ci, (List.range (xFn ci)).map fun k => xdef (xFt ci k))), (t + 1, c + 1, s + xFn ci))
      | false => none).map (s2m b g)
    rw [sh_up (w := .inr (ci, (List.range (xFn ci)).map fun k => xdef (xFt ci k))) (v := .inr (ci, (List.range (xFn ci)).map fun k => xdef (xFt ci k))) (by
      show _ = Sum.inr (ci, List.map (sv b) _)
      rw [sv_def]), show t + b + 1 = t + 1 + b from by omega]
    exact sh_b2 (Nat.blt c mc && Nat.ble (s + xFn ci) ms) (Value.ref t :: st, va_up h t (.inr (ci, (List.range (xFn ci)).map fun k => xdef (xFt ci k))), ((t + 1, c + 1, s + xFn ci) : xN)) (s2m b g)
theorem sh_newk (k t c s mc ms : Nat) (k2 : Int32) (r : List Value) (e : xE) (he : e = se b e) : (match !(decide (k2 < 0)) && (Nat.blt c mc && Nat.ble (s + k) ms && Nat.ble k 1000) with
    | true => some (Value.ref (t + b) :: r.map (sv b), va_up (sh b g h) (t + b) e, ((t + b + 1, c + 1, s + k) : xN))
    | false => none) = (match !(decide (k2 < 0)) && (Nat.blt c mc && Nat.ble (s + k) ms && Nat.ble k 1000) with
    | true => some (Value.ref t :: r, va_up h t e, ((t + 1, c + 1, s + k) : xN))
    | false => none).map (s2m b g) := by
  rw [sh_up (w := e) (v := e) he, show t + b + 1 = t + 1 + b from by omega]
  exact sh_b2 _ (Value.ref t :: r, va_up h t e, ((t + 1, c + 1, s + k) : xN)) (s2m b g)
theorem sh_non {α β : Type} (c : Bool) (f : α → β) : (match c with
    | true => (none : Option β)
    | false => none) = (match c with
    | true => (none : Option α)
    | false => none).map f := by
  cases c <;> rfl
theorem sh_newa {ty : _} : xs2 own mc ms ini (.newarray ty) (st.map (sv b)) (sh b g h) (sn2 b n) = (xs2 own mc ms ini (.newarray ty) st h n).map (s2m b g) := by
  obtain ⟨t, c, s⟩ := n
  unfold xs2
  dsimp only
  rcases st with _ | ⟨v, r⟩
  · rfl
  · cases v <;> try rfl
    rename_i k
    cases ty <;> first
      | exact sh_newk k.toNatClampNeg t c s mc ms k r _ rfl
      | exact sh_non _ _
theorem sh_newr {ix : Nat} : xs2 own mc ms ini (.anewarray ix) (st.map (sv b)) (sh b g h) (sn2 b n) = (xs2 own mc ms ini (.anewarray ix) st h n).map (s2m b g) := by
  obtain ⟨t, c, s⟩ := n
  unfold xs2
  dsimp only
  rcases st with _ | ⟨v, r⟩
  · rfl
  · cases v <;> try rfl
    rename_i k
    show (match !(decide (k < 0)) && (Nat.blt c mc && Nat.ble (s + k.toNatClampNeg) ms && Nat.ble k.toNatClampNeg 1000) with
      | true => match xas (xclsT own) ix with
        | some 5 => some (Value.ref (t + b) :: r.map (sv b), va_up (sh b g h) (t + b) (.inl (3, k.toNatClampNeg, .inr (.inr (.inr (.inr fun _ => none))))), ((t + b + 1, c + 1, s + k.toNatClampNeg) : xN))
        | some 4 => some (Value.ref (t + b) :: r.map (sv b), va_up (sh b g h) (t + b) (.inl (4, k.toNatClampNeg, .inr (.inr (.inr (.inr fun _ => none))))), ((t + b + 1, c + 1, s + k.toNatClampNeg) : xN))
        | _ => none
      | false => none) = (match !(decide (k < 0)) && (Nat.blt c mc && Nat.ble (s + k.toNatClampNeg) ms && Nat.ble k.toNatClampNeg 1000) with
      | true => match xas (xclsT own) ix with
        | some 5 => some (Value.ref t :: r, va_up h t (.inl (3, k.toNatClampNeg, .inr (.inr (.inr (.inr fun _ => none))))), ((t + 1, c + 1, s + k.toNatClampNeg) : xN))
        | some 4 => some (Value.ref t :: r, va_up h t (.inl (4, k.toNatClampNeg, .inr (.inr (.inr (.inr fun _ => none))))), ((t + 1, c + 1, s + k.toNatClampNeg) : xN))
        | _ => none
      | false => none).map (s2m b g)
    rw [sh_up (w := .inl (3, k.toNatClampNeg, .inr (.inr (.inr (.inr fun _ => none))))) (v := .inl (3, k.toNatClampNeg, .inr (.inr (.inr (.inr fun _ => none))))) rfl, sh_up (w := .inl (4, k.toNatClampNeg, .inr (.inr (.inr (.inr fun _ => none))))) (v := .inl (4, k.toNatClampNeg, .inr (.inr (.inr (.inr fun _ => none))))) rfl, show t + b + 1 = t + 1 + b from by omega]
    cases !(decide (k < 0)) && (Nat.blt c mc && Nat.ble (s + k.toNatClampNeg) ms && Nat.ble k.toNatClampNeg 1000) with
    | false => rfl
    | true =>
      dsimp only
      rcases xas (xclsT own) ix with _ | q
      · rfl
      · rcases q with _ | _ | _ | _ | _ | _ | q <;> rfl
theorem sh_s2 {ins : Instr} : xs2 own mc ms ini ins (st.map (sv b)) (sh b g h) (sn2 b n) = (xs2 own mc ms ini ins st h n).map (s2m b g) := by
  cases ins <;> first
    | rfl
    | exact sh_iald
    | exact sh_lald
    | exact sh_bald
    | exact sh_aald
    | exact sh_iast
    | exact sh_last
    | exact sh_bast
    | exact sh_aast
    | exact sh_newo
    | exact sh_newa
    | exact sh_newr
    | exact sh_div (Or.inl rfl)
    | exact sh_div (Or.inr (Or.inl rfl))
    | exact sh_div (Or.inr (Or.inr (Or.inl rfl)))
    | exact sh_div (Or.inr (Or.inr (Or.inr rfl)))
    | skip
  case getfield ix =>
    show (match xgf own ix (st.map (sv b)) (sh b g h) with
      | some st2 => some (st2, sh b g h, sn2 b n)
      | none => none) = (match xgf own ix st h with
      | some st2 => some (st2, h, n)
      | none => none).map (s2m b g)
    rw [sh_gf]
    cases xgf own ix st h <;> rfl
  case putfield ix =>
    show (match xpf own ini ix (st.map (sv b)) (sh b g h) with
      | some (st2, h2) => some (st2, h2, sn2 b n)
      | none => none) = (match xpf own ini ix st h with
      | some (st2, h2) => some (st2, h2, n)
      | none => none).map (s2m b g)
    rw [sh_pf]
    rcases xpf own ini ix st h with _ | ⟨st2, h2⟩ <;> rfl
def s3m (b : Nat) (r : Nat × List Value) : Nat × List Value := (r.1, r.2.map (sv b))
theorem sh_s3 {pc : Nat} {ins : Instr} : xs3 ins pc (st.map (sv b)) = (xs3 ins pc st).map (s3m b) := by
  unfold xs3
  cases ins <;> first
    | rfl
    | skip
  case ifCond c off =>
    rcases st with _ | ⟨v, r⟩
    · rfl
    · cases v <;> try rfl
      rename_i x
      dsimp only
      cases xj pc off with
      | none => rfl
      | some t =>
        show (match xcd c x 0 with
          | true => some (t, r.map (sv b))
          | false => some (pc + 3, r.map (sv b))) = (match xcd c x 0 with
          | true => some (t, r)
          | false => some (pc + 3, r)).map (s3m b)
        cases xcd c x 0 <;> rfl
  case if_icmp c off =>
    rcases st with _ | ⟨v, _ | ⟨u, r⟩⟩
    · rfl
    · cases v <;> rfl
    · cases v <;> try rfl
      cases u <;> try rfl
      rename_i y x
      dsimp only
      cases xj pc off with
      | none => rfl
      | some t =>
        show (match xcd c x y with
          | true => some (t, r.map (sv b))
          | false => some (pc + 3, r.map (sv b))) = (match xcd c x y with
          | true => some (t, r)
          | false => some (pc + 3, r)).map (s3m b)
        cases xcd c x y <;> rfl
  case tableswitch d lo hi offs =>
    rcases st with _ | ⟨v, r⟩
    · rfl
    · cases v <;> try rfl
      rename_i x
      show (match decide (x.toInt < lo) || decide (hi < x.toInt) with
        | true => match xj pc d with
          | some t => some (t, r.map (sv b))
          | none => none
        | false => match offs[(x.toInt - lo).toNat]? with
          | some o => match xj pc o with
            | some t => some (t, r.map (sv b))
            | none => none
          | none => none) = (match decide (x.toInt < lo) || decide (hi < x.toInt) with
        | true => match xj pc d with
          | some t => some (t, r)
          | none => none
        | false => match offs[(x.toInt - lo).toNat]? with
          | some o => match xj pc o with
            | some t => some (t, r)
            | none => none
          | none => none).map (s3m b)
      cases decide (x.toInt < lo) || decide (hi < x.toInt) with
      | true => cases xj pc d <;> rfl
      | false =>
        cases offs[(x.toInt - lo).toNat]? with
        | none => rfl
        | some o =>
          dsimp only
          cases xj pc o <;> rfl
  case lookupswitch d ps =>
    rcases st with _ | ⟨v, r⟩
    · rfl
    · cases v <;> try rfl
      rename_i x
      show (match (ps.toList.zip (ps.toList.drop 1)).all (fun (a, next) => decide (a.1 < next.1)) with
        | true => match xj pc (Op.lookupswitch.offset ps.toList d x.toInt) with
          | some t => some (t, r.map (sv b))
          | none => none
        | false => none) = (match (ps.toList.zip (ps.toList.drop 1)).all (fun (a, next) => decide (a.1 < next.1)) with
        | true => match xj pc (Op.lookupswitch.offset ps.toList d x.toInt) with
          | some t => some (t, r)
          | none => none
        | false => none).map (s3m b)
      cases (ps.toList.zip (ps.toList.drop 1)).all (fun (a, next) => decide (a.1 < next.1)) with
      | false => rfl
      | true =>
        dsimp only
        cases xj pc (Op.lookupswitch.offset ps.toList d x.toInt) <;> rfl
def sgm (b : Nat) (g : xH) (c : xC) : xC := (c.1, sl b c.2.1, c.2.2.1.map (sv b), sh b g c.2.2.2.1, sn2 b c.2.2.2.2)
theorem sh_step {I : xI} {ins : Instr} {c : xC} : xstep I ins (sgm b g c) = (xstep I ins c).map (sgm b g) := by
  obtain ⟨pc, ls, st, h, n⟩ := c
  show (match xs1 I.1 ins pc (sl b ls) (st.map (sv b)) with
    | some (pc, ls, st) => some (pc, ls, st, sh b g h, sn2 b n)
    | none => match xs2 I.1 I.2.2.2.2.2.1 I.2.2.2.2.2.2.1 I.2.2.2.2.2.2.2 ins (st.map (sv b)) (sh b g h) (sn2 b n) with
      | some (st, h, n) => some (pc + xlen ins, sl b ls, st, h, n)
      | none => match xs3 ins pc (st.map (sv b)) with
        | some (pc, st) => some (pc, sl b ls, st, sh b g h, sn2 b n)
        | none => none) = (match xs1 I.1 ins pc ls st with
    | some (pc, ls, st) => some (pc, ls, st, h, n)
    | none => match xs2 I.1 I.2.2.2.2.2.1 I.2.2.2.2.2.2.1 I.2.2.2.2.2.2.2 ins st h n with
      | some (st, h, n) => some (pc + xlen ins, ls, st, h, n)
      | none => match xs3 ins pc st with
        | some (pc, st) => some (pc, ls, st, h, n)
        | none => none).map (sgm b g)
  rw [sh_s1, sh_s2, sh_s3]
  rcases xs1 I.1 ins pc ls st with _ | ⟨p1, l1, s1⟩
  · rcases xs2 I.1 I.2.2.2.2.2.1 I.2.2.2.2.2.2.1 I.2.2.2.2.2.2.2 ins st h n with _ | ⟨s2, h2, n2⟩
    · rcases xs3 ins pc st with _ | ⟨p3, s3⟩ <;> rfl
    · rfl
  · rfl
end
theorem sh_sum (b : Nat) (st : List Value) : xsum (st.map (sv b)) = xsum st := by
  unfold xsum
  rw [List.map_map]
  exact congrArg List.sum (List.map_congr_left (fun v _ => sv_cat b v))
theorem sh_recv {b k cj : Nat} {g h : xH} {av : List Value} : xrecv k cj (sh b g h) (av.map (sv b)) = xrecv k cj h av := by
  unfold xrecv
  split
  · rcases av with _ | ⟨v, r⟩
    · rfl
    · cases v <;> try rfl
      rename_i a
      show (match sh b g h (a + b) with
        | .inr (c2, _) => Nat.beq c2 cj && Nat.blt c2 9
        | .inl _ => false) = (match h a with
        | .inr (c2, _) => Nat.beq c2 cj && Nat.blt c2 9
        | .inl _ => false)
      rw [sh_at]
      rcases h a with ⟨t, n, c⟩ | ⟨c2, fs⟩ <;> rfl
  · rcases av with _ | ⟨v, r⟩
    · rfl
    · cases v <;> rfl
  · rcases av with _ | ⟨v, r⟩
    · rfl
    · cases v <;> rfl
  · rfl
def srm (b : Nat) (g : xH) (r : Option Value × xH × Nat) : Option Value × xH × Nat := (r.1.map (sv b), sh b g r.2.1, r.2.2 + b)
/-- callees that are the same at another place -/
def SHC (b : Nat) (g : xH) (call : xCall) : Prop := ∀ j av h t, call j (av.map (sv b)) (sh b g h) (t + b) = (call j av h t).map (srm b g)
section
variable {b : Nat} {g : xH} {call : xCall} {I : xI} {c : xC}
theorem sh_doC (hc : SHC b g call) {k j na : Nat} : xdoC call I k j na (sgm b g c) = (xdoC call I k j na c).map (sgm b g) := by
  obtain ⟨pc, ls, st, h, t, cn, sn⟩ := c
  unfold xdoC
  cases xtab[j]? with
  | none => rfl
  | some J =>
    show (match (Nat.ble na (st.map (sv b)).length && Nat.ble (xsum ((st.map (sv b)).drop na)) 8) && (xrecv k J.1 (sh b g h) ((st.map (sv b)).take na).reverse && xfit I J (t + b, cn, sn)) with
      | true => match call j ((st.map (sv b)).take na).reverse (sh b g h) (t + b) with
        | some (r, h, t2) => match decide (t2 = t + b + J.2.2.2.2.2.1) with
          | true => some (pc + 3, sl b ls, r.toList ++ (st.map (sv b)).drop na, h, (t2, cn + J.2.2.2.2.2.1, sn + J.2.2.2.2.2.2.1))
          | false => none
        | none => none
      | false => none) = (match (Nat.ble na st.length && Nat.ble (xsum (st.drop na)) 8) && (xrecv k J.1 h (st.take na).reverse && xfit I J (t, cn, sn)) with
      | true => match call j (st.take na).reverse h t with
        | some (r, h, t2) => match decide (t2 = t + J.2.2.2.2.2.1) with
          | true => some (pc + 3, ls, r.toList ++ st.drop na, h, (t2, cn + J.2.2.2.2.2.1, sn + J.2.2.2.2.2.2.1))
          | false => none
        | none => none
      | false => none).map (sgm b g)
    rw [List.length_map, ← List.map_drop, sh_sum, ← List.map_take, ← List.map_reverse, sh_recv, hc j]
    have ef : xfit I J (t + b, cn, sn) = xfit I J (t, cn, sn) := rfl
    rw [ef]
    cases (Nat.ble na st.length && Nat.ble (xsum (st.drop na)) 8) && (xrecv k J.1 h (st.take na).reverse && xfit I J (t, cn, sn)) with
    | false => rfl
    | true =>
      rcases call j (st.take na).reverse h t with _ | ⟨r, h2, t2⟩
      · rfl
      · show (match decide (t2 + b = t + b + J.2.2.2.2.2.1) with
          | true => some (pc + 3, sl b ls, (r.map (sv b)).toList ++ (st.drop na).map (sv b), sh b g h2, (t2 + b, cn + J.2.2.2.2.2.1, sn + J.2.2.2.2.2.2.1))
          | false => none) = (match decide (t2 = t + J.2.2.2.2.2.1) with
          | true => some (pc + 3, ls, r.toList ++ st.drop na, h2, (t2, cn + J.2.2.2.2.2.1, sn + J.2.2.2.2.2.2.1))
          | false => none).map (sgm b g)
        have e : decide (t2 + b = t + b + J.2.2.2.2.2.1) = decide (t2 = t + J.2.2.2.2.2.1) := decide_eq_decide.mpr ⟨fun q => by omega, fun q => by omega⟩
        have e2 : (r.map (sv b)).toList ++ (st.drop na).map (sv b) = (r.toList ++ st.drop na).map (sv b) := by
          cases r <;> rfl
        rw [e, e2]
        cases decide (t2 = t + J.2.2.2.2.2.1) <;> rfl
theorem sh_doO : xdoO I (sgm b g c) = (xdoO I c).map (sgm b g) := by
  obtain ⟨pc, ls, st, h, n⟩ := c
  rcases st with _ | ⟨v, r⟩
  · rfl
  · cases v <;> try rfl
    rename_i a
    show (match Nat.ble 1 I.2.2.2.1 && Nat.ble (xsum (r.map (sv b)) + 12) I.2.2.2.2.1 with
      | true => some (pc + 3, sl b ls, r.map (sv b), sh b g h, sn2 b n)
      | false => none) = (match Nat.ble 1 I.2.2.2.1 && Nat.ble (xsum r + 12) I.2.2.2.2.1 with
      | true => some (pc + 3, ls, r, h, n)
      | false => none).map (sgm b g)
    rw [sh_sum]
    exact sh_b2 _ ((pc + 3, ls, r, h, n) : xC) (sgm b g)
theorem sh_math {k : Nat} {st : List Value} : xmath k (st.map (sv b)) = (xmath k st).map (fun q => (sv b q.1, q.2.map (sv b))) := by
  have h3 : ∀ st : List Value, (match st.map (sv b) with
      | .int y :: .int x :: r => some (Value.int (if y < x then y else x), r)
      | _ => none) = (match st with
      | .int y :: .int x :: r => some (Value.int (if y < x then y else x), r)
      | _ => none).map (fun q : Value × List Value => (sv b q.1, q.2.map (sv b))) := fun st => by
    rcases st with _ | ⟨v, _ | ⟨u, r⟩⟩
    · rfl
    · cases v <;> rfl
    · cases v <;> cases u <;> rfl
  unfold xmath
  split
  · rcases st with _ | ⟨v, r⟩
    · rfl
    · cases v <;> rfl
  · rcases st with _ | ⟨v, r⟩
    · rfl
    · cases v <;> rfl
  · exact h3 st
theorem sh_doM {k : Nat} : xdoM I k (sgm b g c) = (xdoM I k c).map (sgm b g) := by
  obtain ⟨pc, ls, st, h, n⟩ := c
  show (match xmath k (st.map (sv b)) with
    | some (v, r) => match Nat.ble 1 I.2.2.2.1 && Nat.ble (xsum r + 13) I.2.2.2.2.1 with
      | true => some (pc + 3, sl b ls, v :: r, sh b g h, sn2 b n)
      | false => none
    | none => none) = (match xmath k st with
    | some (v, r) => match Nat.ble 1 I.2.2.2.1 && Nat.ble (xsum r + 13) I.2.2.2.2.1 with
      | true => some (pc + 3, ls, v :: r, h, n)
      | false => none
    | none => none).map (sgm b g)
  rw [sh_math]
  rcases xmath k st with _ | ⟨v, r⟩
  · rfl
  · show (match Nat.ble 1 I.2.2.2.1 && Nat.ble (xsum (r.map (sv b)) + 13) I.2.2.2.2.1 with
      | true => some (pc + 3, sl b ls, sv b v :: r.map (sv b), sh b g h, sn2 b n)
      | false => none) = (match Nat.ble 1 I.2.2.2.1 && Nat.ble (xsum r + 13) I.2.2.2.2.1 with
      | true => some (pc + 3, ls, v :: r, h, n)
      | false => none).map (sgm b g)
    rw [sh_sum]
    exact sh_b2 _ ((pc + 3, ls, v :: r, h, n) : xC) (sgm b g)
end
theorem sh_copy {b : Nat} {g h : xH} {st : List Value} : xcopy (st.map (sv b)) (sh b g h) = (xcopy st h).map (spm b g) := by
  unfold xcopy
  rcases st with _ | ⟨v1, _ | ⟨v2, _ | ⟨v3, _ | ⟨v4, _ | ⟨v5, r⟩⟩⟩⟩⟩
  · rfl
  · cases v1 <;> rfl
  · cases v1 <;> try rfl
    cases v2 <;> rfl
  · cases v1 <;> try rfl
    cases v2 <;> try rfl
    cases v3 <;> rfl
  · cases v1 <;> try rfl
    cases v2 <;> try rfl
    cases v3 <;> try rfl
    cases v4 <;> rfl
  · cases v1 <;> try rfl
    cases v2 <;> try rfl
    cases v3 <;> try rfl
    cases v4 <;> try rfl
    cases v5 <;> try rfl
    rename_i k dp a sp b2
    show (match sh b g h (b2 + b) with
      | .inl (0, n0, .inl f) => match sh b g h (a + b) with
        | .inl (0, n1, .inl g2) => match (!(decide (sp < 0)) && !(decide (dp < 0)) && !(decide (k < 0))) && (Nat.ble (sp.toNatClampNeg + k.toNatClampNeg) n0 && Nat.ble (dp.toNatClampNeg + k.toNatClampNeg) n1) with
          | true => some (r.map (sv b), va_up (sh b g h) (a + b) (.inl (0, n1, .inl (va_cpy f g2 sp.toNatClampNeg dp.toNatClampNeg k.toNatClampNeg))))
          | false => none
        | _ => none
      | .inl (1, n0, .inr (.inl f)) => match sh b g h (a + b) with
        | .inl (1, n1, .inr (.inl g2)) => match (!(decide (sp < 0)) && !(decide (dp < 0)) && !(decide (k < 0))) && (Nat.ble (sp.toNatClampNeg + k.toNatClampNeg) n0 && Nat.ble (dp.toNatClampNeg + k.toNatClampNeg) n1) with
          | true => some (r.map (sv b), va_up (sh b g h) (a + b) (.inl (1, n1, .inr (.inl (va_cpy f g2 sp.toNatClampNeg dp.toNatClampNeg k.toNatClampNeg)))))
          | false => none
        | _ => none
      | _ => none) = (match h b2 with
      | .inl (0, n0, .inl f) => match h a with
        | .inl (0, n1, .inl g2) => match (!(decide (sp < 0)) && !(decide (dp < 0)) && !(decide (k < 0))) && (Nat.ble (sp.toNatClampNeg + k.toNatClampNeg) n0 && Nat.ble (dp.toNatClampNeg + k.toNatClampNeg) n1) with
          | true => some (r, va_up h a (.inl (0, n1, .inl (va_cpy f g2 sp.toNatClampNeg dp.toNatClampNeg k.toNatClampNeg))))
          | false => none
        | _ => none
      | .inl (1, n0, .inr (.inl f)) => match h a with
        | .inl (1, n1, .inr (.inl g2)) => match (!(decide (sp < 0)) && !(decide (dp < 0)) && !(decide (k < 0))) && (Nat.ble (sp.toNatClampNeg + k.toNatClampNeg) n0 && Nat.ble (dp.toNatClampNeg + k.toNatClampNeg) n1) with
          | true => some (r, va_up h a (.inl (1, n1, .inr (.inl (va_cpy f g2 sp.toNatClampNeg dp.toNatClampNeg k.toNatClampNeg)))))
          | false => none
        | _ => none
      | _ => none).map (spm b g)
    rw [sh_at, sh_at]
    rcases h b2 with ⟨t, n0, f | f | f | f | f⟩ | ⟨c2, fs⟩ <;> try rfl
    all_goals (rcases t with _ | _ | t <;> try rfl)
    · rcases h a with ⟨t, n1, g2 | g2 | g2 | g2 | g2⟩ | ⟨c2, fs⟩ <;> try rfl
      all_goals (rcases t with _ | t <;> try rfl)
      show (match (!(decide (sp < 0)) && !(decide (dp < 0)) && !(decide (k < 0))) && (Nat.ble (sp.toNatClampNeg + k.toNatClampNeg) n0 && Nat.ble (dp.toNatClampNeg + k.toNatClampNeg) n1) with
        | true => some (r.map (sv b), va_up (sh b g h) (a + b) (.inl (0, n1, .inl (va_cpy f g2 sp.toNatClampNeg dp.toNatClampNeg k.toNatClampNeg))))
        | false => none) = _
      rw [sh_up (w := .inl (0, n1, .inl (va_cpy f g2 sp.toNatClampNeg dp.toNatClampNeg k.toNatClampNeg))) (v := .inl (0, n1, .inl (va_cpy f g2 sp.toNatClampNeg dp.toNatClampNeg k.toNatClampNeg))) rfl]
      exact sh_b2 _ (r, va_up h a (.inl (0, n1, .inl (va_cpy f g2 sp.toNatClampNeg dp.toNatClampNeg k.toNatClampNeg)))) (spm b g)
    · rcases h a with ⟨t, n1, g2 | g2 | g2 | g2 | g2⟩ | ⟨c2, fs⟩ <;> try rfl
      all_goals (rcases t with _ | _ | t <;> try rfl)
      show (match (!(decide (sp < 0)) && !(decide (dp < 0)) && !(decide (k < 0))) && (Nat.ble (sp.toNatClampNeg + k.toNatClampNeg) n0 && Nat.ble (dp.toNatClampNeg + k.toNatClampNeg) n1) with
        | true => some (r.map (sv b), va_up (sh b g h) (a + b) (.inl (1, n1, .inr (.inl (va_cpy f g2 sp.toNatClampNeg dp.toNatClampNeg k.toNatClampNeg)))))
        | false => none) = _
      rw [sh_up (w := .inl (1, n1, .inr (.inl (va_cpy f g2 sp.toNatClampNeg dp.toNatClampNeg k.toNatClampNeg)))) (v := .inl (1, n1, .inr (.inl (va_cpy f g2 sp.toNatClampNeg dp.toNatClampNeg k.toNatClampNeg)))) rfl]
      exact sh_b2 _ (r, va_up h a (.inl (1, n1, .inr (.inl (va_cpy f g2 sp.toNatClampNeg dp.toNatClampNeg k.toNatClampNeg))))) (spm b g)
section
variable {b : Nat} {g : xH} {call : xCall} {I : xI}
theorem sh_doA {c : xC} : xdoA I (sgm b g c) = (xdoA I c).map (sgm b g) := by
  obtain ⟨pc, ls, st, h, n⟩ := c
  show (match xcopy (st.map (sv b)) (sh b g h) with
    | some (r, h) => match Nat.ble 1 I.2.2.2.1 && Nat.ble (xsum r + 18) I.2.2.2.2.1 with
      | true => some (pc + 3, sl b ls, r, h, sn2 b n)
      | false => none
    | none => none) = (match xcopy st h with
    | some (r, h) => match Nat.ble 1 I.2.2.2.1 && Nat.ble (xsum r + 18) I.2.2.2.2.1 with
      | true => some (pc + 3, ls, r, h, n)
      | false => none
    | none => none).map (sgm b g)
  rw [sh_copy]
  rcases xcopy st h with _ | ⟨r, h2⟩
  · rfl
  · show (match Nat.ble 1 I.2.2.2.1 && Nat.ble (xsum (r.map (sv b)) + 18) I.2.2.2.2.1 with
      | true => some (pc + 3, sl b ls, r.map (sv b), sh b g h2, sn2 b n)
      | false => none) = (match Nat.ble 1 I.2.2.2.1 && Nat.ble (xsum r + 18) I.2.2.2.2.1 with
      | true => some (pc + 3, ls, r, h2, n)
      | false => none).map (sgm b g)
    rw [sh_sum]
    exact sh_b2 _ ((pc + 3, ls, r, h2, n) : xC) (sgm b g)
theorem sh_do (hc : SHC b g call) {k j na : Nat} {c : xC} : xdo call I k j na (sgm b g c) = (xdo call I k j na c).map (sgm b g) := by
  unfold xdo
  split
  · exact sh_doO
  · exact sh_doA
  · exact sh_doM
  · exact sh_doM
  · exact sh_doM
  · exact sh_doC hc
theorem sh_ret {rt : Option FieldType} {ins : Instr} {st : List Value} : xret rt ins (st.map (sv b)) = (xret rt ins st).map (Option.map (sv b)) := by
  unfold xret
  cases ins <;> try rfl
  case return_ =>
    rcases st with _ | ⟨v, r⟩
    · rcases rt with _ | ty <;> rfl
    · cases v <;> rfl
  case ireturn =>
    rcases st with _ | ⟨v, _ | ⟨u, r⟩⟩
    · rfl
    · cases v <;> try rfl
      rename_i x
      rcases rt with _ | ty
      · rfl
      · cases ty <;> try rfl
        show (match x == 0 || x == 1 with
          | true => some (some (Value.int x))
          | false => none) = (match x == 0 || x == 1 with
          | true => some (some (Value.int x))
          | false => none).map (Option.map (sv b))
        cases x == 0 || x == 1 <;> rfl
    · cases v <;> rfl
  case lreturn =>
    rcases st with _ | ⟨v, _ | ⟨u, r⟩⟩
    · rfl
    · cases v <;> try rfl
      rcases rt with _ | ty
      · rfl
      · cases ty <;> rfl
    · cases v <;> rfl
theorem sh_run (hc : SHC b g call) {rt : Option FieldType} : ∀ (f : Nat) (c : xC), xrun call I rt f (sgm b g c) = (xrun call I rt f c).map (srm b g)
  | 0, _ => rfl
  | f + 1, c => by
    obtain ⟨pc, ls, st, h, t, cn, sn⟩ := c
    show (match xget I.2.1 pc with
      | none => none
      | some ins => match xret rt ins (st.map (sv b)) with
        | some v => match Nat.ble cn I.2.2.2.2.2.1 && Nat.ble sn I.2.2.2.2.2.2.1 with
          | true => some (v, sh b g h, t + b)
          | false => none
        | none => match xinv I.1 ins with
          | some (k, j, na) => match xdo call I k j na (sgm b g (pc, ls, st, h, t, cn, sn)) with
            | some g2 => xrun call I rt f g2
            | none => none
          | none => match xstep I ins (sgm b g (pc, ls, st, h, t, cn, sn)) with
            | some g2 => xrun call I rt f g2
            | none => none) = (match xget I.2.1 pc with
      | none => none
      | some ins => match xret rt ins st with
        | some v => match Nat.ble cn I.2.2.2.2.2.1 && Nat.ble sn I.2.2.2.2.2.2.1 with
          | true => some (v, h, t)
          | false => none
        | none => match xinv I.1 ins with
          | some (k, j, na) => match xdo call I k j na (pc, ls, st, h, t, cn, sn) with
            | some g2 => xrun call I rt f g2
            | none => none
          | none => match xstep I ins (pc, ls, st, h, t, cn, sn) with
            | some g2 => xrun call I rt f g2
            | none => none).map (srm b g)
    cases xget I.2.1 pc with
    | none => rfl
    | some ins =>
      dsimp only
      rw [sh_ret]
      rcases xret rt ins st with _ | v
      · dsimp only [Option.map_none]
        rcases xinv I.1 ins with _ | ⟨k, j, na⟩
        · dsimp only
          rw [sh_step]
          rcases xstep I ins (pc, ls, st, h, t, cn, sn) with _ | g2
          · rfl
          · exact sh_run hc f g2
        · dsimp only
          rw [sh_do hc]
          rcases xdo call I k j na (pc, ls, st, h, t, cn, sn) with _ | g2
          · rfl
          · exact sh_run hc f g2
      · show (match Nat.ble cn I.2.2.2.2.2.1 && Nat.ble sn I.2.2.2.2.2.2.1 with
          | true => some (v.map (sv b), sh b g h, t + b)
          | false => none) = (match Nat.ble cn I.2.2.2.2.2.1 && Nat.ble sn I.2.2.2.2.2.2.1 with
          | true => some (v, h, t)
          | false => none).map (srm b g)
        exact sh_b2 _ (v, h, t) (srm b g)
end
theorem sh_ent (b : Nat) : ∀ av : List Value, xent (av.map (sv b)) = sl b (xent av)
  | [] => rfl
  | v :: l => by
    have ih := sh_ent b l
    cases v <;> simp only [List.map_cons, sv, xent, ih, sl, Option.map_some, Option.map_none]
theorem sh_pad (b : Nat) : ∀ (n : Nat) (l : xLs), xpad n (sl b l) = sl b (xpad n l)
  | 0, _ => rfl
  | n + 1, [] => by
    show none :: xpad n (sl b []) = none :: sl b (xpad n [])
    rw [sh_pad b n []]
  | n + 1, x :: l => by
    show x.map (sv b) :: xpad n (sl b l) = x.map (sv b) :: sl b (xpad n l)
    rw [sh_pad b n l]
theorem sh_sem (b : Nat) (g : xH) : ∀ d, SHC b g (xsem d)
  | 0 => fun _ _ _ _ => rfl
  | d + 1 => fun j av h t => by
    have ih := sh_sem b g d
    show (match xtab[j]?, xrt[j]? with
      | some I, some rt => match Nat.ble (xent (av.map (sv b))).length I.2.2.1 with
        | true => xrun (xsem d) I rt d (0, xpad I.2.2.1 (xent (av.map (sv b))), [], sh b g h, (t + b, 0, 0))
        | false => none
      | _, _ => none) = (match xtab[j]?, xrt[j]? with
      | some I, some rt => match Nat.ble (xent av).length I.2.2.1 with
        | true => xrun (xsem d) I rt d (0, xpad I.2.2.1 (xent av), [], h, (t, 0, 0))
        | false => none
      | _, _ => none).map (srm b g)
    cases xtab[j]? with
    | none => rfl
    | some I =>
      cases xrt[j]? with
      | none => rfl
      | some rt =>
        dsimp only
        rw [sh_ent, sl_len, sh_pad]
        cases Nat.ble (xent av).length I.2.2.1 with
        | false => rfl
        | true => exact sh_run ih d (0, xpad I.2.2.1 (xent av), [], h, (t, 0, 0))
