/-! the pure machine's steps are the machine's steps: locals and stack -/
/-- the listed locals, as the kit has them -/
def xlv (ls : xLs) : List (Nat × Value) := ls.zipIdx.filterMap fun q => q.1.map fun v => (q.2, v)
theorem xat_get : ∀ (ls : xLs) (i : Nat), xat ls i = (ls[i]?).join
  | [], i => by simp [xat]
  | x :: l, 0 => by simp [xat]
  | x :: l, n + 1 => by simp [xat, xat_get l n]
theorem xlv_mem {ls : xLs} {q : Nat × Value} : q ∈ xlv ls ↔ xat ls q.1 = some q.2 := by
  rw [xat_get]
  simp only [xlv, List.mem_filterMap, List.mem_zipIdx_iff_getElem?, Option.map_eq_some_iff, Prod.exists]
  constructor
  · rintro ⟨a, b, h1, c, h2, h3⟩
    subst h3
    simp [h1, h2]
  · intro h
    cases hq : ls[q.1]? with
    | none => simp [hq] at h
    | some y =>
      simp [hq] at h
      exact ⟨y, q.1, hq, q.2, h, rfl⟩
theorem xat_put : ∀ (ls : xLs) (i j : Nat) (v : Option Value), xat (xput ls i v) j = if j = i then (if i < ls.length then v else none) else xat ls j
  | [], i, j, v => by simp [xat, xput]
  | x :: l, 0, 0, v => by simp [xat, xput]
  | x :: l, 0, j + 1, v => by simp [xat, xput]
  | x :: l, i + 1, 0, v => by simp [xat, xput]
  | x :: l, i + 1, j + 1, v => by simp [xat, xput, xat_put l i j v]
theorem xat_mod : ∀ (ls : xLs) (i j : Nat), xat (xmod ls i) j = if j = i then xkill (xat ls j) else xat ls j
  | [], i, j => by simp [xat, xmod, xkill]
  | x :: l, 0, 0 => by simp [xat, xmod]
  | x :: l, 0, j + 1 => by simp [xat, xmod]
  | x :: l, i + 1, 0 => by simp [xat, xmod]
  | x :: l, i + 1, j + 1 => by simp [xat, xmod, xat_mod l i j]
theorem xput_len : ∀ (ls : xLs) (i : Nat) (v : Option Value), (xput ls i v).length = ls.length
  | [], i, v => rfl
  | x :: l, 0, v => rfl
  | x :: l, i + 1, v => by simp [xput, xput_len l i v]
theorem xmod_len : ∀ (ls : xLs) (i : Nat), (xmod ls i).length = ls.length
  | [], i => rfl
  | x :: l, 0 => rfl
  | x :: l, i + 1 => by simp [xmod, xmod_len l i]
theorem xkl_len (ls : xLs) (i : Nat) : (xkl ls i).length = ls.length := by
  cases i with
  | zero => rfl
  | succ j => exact xmod_len ls j
theorem xkill_some {o : Option Value} {v : Value} (h : xkill o = some v) : o = some v ∧ ¬ v.category = 2 := by
  unfold xkill at h
  split at h
  · cases h
  · cases h
  · refine ⟨h, ?_⟩
    rename_i h1 h2
    subst h
    cases v <;> simp_all [Value.category]
theorem xat_kl {ls : xLs} {i j : Nat} {v : Value} (h : xat (xkl ls i) j = some v) : xat ls j = some v ∧ (j + 1 = i → ¬ v.category = 2) := by
  cases i with
  | zero => exact ⟨h, fun e => by omega⟩
  | succ k =>
    simp only [xkl, xat_mod] at h
    split at h
    · obtain ⟨a, b⟩ := xkill_some h
      exact ⟨a, fun _ => b⟩
    · exact ⟨h, fun e => by omega⟩
theorem lv_less {ls : Array Slot} {nL : Nat} {l l' : List (Nat × Value)} (h : lv_has ls nL l) (hs : ∀ q ∈ l', q ∈ l) : lv_has ls nL l' := ⟨h.1, h.2.1, fun q hq => h.2.2 q (hs q hq)⟩
theorem xst1_len (ls : xLs) (i : Nat) (v : Value) : (xst1 ls i v).length = ls.length := by simp [xst1, xput_len, xkl_len]
theorem xst2_len (ls : xLs) (i : Nat) (v : Value) : (xst2 ls i v).length = ls.length := by simp [xst2, xput_len, xkl_len]
theorem xst1_lv {ls : xLs} {i : Nat} {v : Value} {la : Array Slot} {n : Nat} (h : lv_has la n ((i, v) :: (xlv ls).filter (fun q => !(q.1 == i) && !(q.1 + 1 == i && q.2.category == 2)))) : lv_has la n (xlv (xst1 ls i v)) := by
  refine lv_less h fun q hq => ?_
  have h1 := xlv_mem.mp hq
  rw [xst1, xat_put] at h1
  split at h1
  · rename_i e
    split at h1
    · cases h1
      obtain ⟨q1, q2⟩ := q
      simp only at e
      subst e
      exact List.mem_cons_self
    · cases h1
  · rename_i e
    obtain ⟨a, b⟩ := xat_kl h1
    refine List.mem_cons_of_mem _ (List.mem_filter.mpr ⟨xlv_mem.mpr a, ?_⟩)
    simp only [Bool.and_eq_true, Bool.not_eq_true', beq_eq_false_iff_ne, ne_eq, Bool.and_eq_false_imp, beq_iff_eq]
    exact ⟨e, b⟩
theorem xst2_lv {ls : xLs} {i : Nat} {v : Value} {la : Array Slot} {n : Nat} (h : lv_has la n ((i, v) :: (xlv ls).filter (fun q => !(q.1 == i) && (!(q.1 == i + 1) && !(q.1 + 1 == i && q.2.category == 2))))) : lv_has la n (xlv (xst2 ls i v)) := by
  refine lv_less h fun q hq => ?_
  have h1 := xlv_mem.mp hq
  rw [xst2, xat_put] at h1
  split at h1
  · split at h1 <;> cases h1
  · rename_i e2
    rw [xat_put] at h1
    split at h1
    · rename_i e
      split at h1
      · cases h1
        obtain ⟨q1, q2⟩ := q
        simp only at e
        subst e
        exact List.mem_cons_self
      · cases h1
    · rename_i e
      obtain ⟨a, b⟩ := xat_kl h1
      refine List.mem_cons_of_mem _ (List.mem_filter.mpr ⟨xlv_mem.mpr a, ?_⟩)
      simp only [Bool.and_eq_true, Bool.not_eq_true', beq_eq_false_iff_ne, ne_eq, Bool.and_eq_false_imp, beq_iff_eq]
      exact ⟨e, e2, b⟩
theorem xat_lv {ls : xLs} {la : Array Slot} {n i : Nat} {v : Value} (h : lv_has la n (xlv ls)) (ha : xat ls i = some v) : la[i]? = some (.val v) := h.2.2 (i, v) (xlv_mem.mpr ha)
theorem xblt {a b : Nat} (h : Nat.blt a b = true) : a < b := by simp [Nat.blt] at h; omega
theorem xj_eq {pc t : Nat} {off : Int} (h : xj pc off = some t) : (pc : Int) + off = (t : Int) := by
  unfold xj at h
  split at h
  · rename_i h1
    cases h
    exact h1
  · cases h
theorem xi8 {n : Int} (h1 : -128 ≤ n) (h2 : n ≤ 127) : (Int8.ofInt n).toInt32 = Int32.ofInt n := by
  rw [← Int32.toInt_inj, Int8.toInt_toInt32, Int8.toInt_ofInt_of_le (by omega) (by omega), Int32.toInt_ofInt_of_le (by omega) (by omega)]
theorem xi16 {n : Int} (h1 : -32768 ≤ n) (h2 : n ≤ 32767) : (Int16.ofInt n).toInt32 = Int32.ofInt n := by
  rw [← Int32.toInt_inj, Int16.toInt_toInt32, Int16.toInt_ofInt_of_le (by omega) (by omega), Int32.toInt_ofInt_of_le (by omega) (by omega)]
theorem xlconst (n : Fin 2) : Int64.ofNat (n : Nat) = Int64.ofInt (n.val : Int) := (Int64.ofInt_eq_ofNat ..).symm
theorem xc1_eq {v : Value} (h : xc1 v = true) : v.category = 1 := by
  unfold xc1 at h
  exact Nat.eq_of_beq_eq_true h
section X1
variable {p : Program} {l : Launch} {e : Env} {R : Room} {s : State} {m : MethodId} {args : Array Value} {below : List Frame} {meth : Method} {c : Code} {H : Heap} {locs : List Loc} {cells slots : Nat} {Q : State → Prop} {cc : ByteArray} {pc : Nat} {la : Array Slot}

theorem xldI_ok {ls ls2 : xLs} {st st2 : List Value} {pc2 n i : Nat} (hl : lv_has la ls.length (xlv ls)) (hs : xldI n pc ls st i = some (pc2, ls2, st2)) (kk : ∀ la2 : Array Slot, lv_has la2 ls2.length (xlv ls2) → W p l e R s m args below meth c H locs cells slots Q (F0 m pc2 la2 st2)) (row : ∀ x, la[i]? = some (.val (.int x)) → W p l e R s m args below meth c H locs cells slots Q (F0 m (pc + n) la (.int x :: st)) → W p l e R s m args below meth c H locs cells slots Q (F0 m pc la st)) : W p l e R s m args below meth c H locs cells slots Q (F0 m pc la st) := by
  unfold xldI at hs
  split at hs
  · rename_i x hx
    cases hs
    exact row x (xat_lv hl hx) (kk la hl)
  · cases hs
theorem xldL_ok {ls ls2 : xLs} {st st2 : List Value} {pc2 n i : Nat} (hl : lv_has la ls.length (xlv ls)) (hs : xldL n pc ls st i = some (pc2, ls2, st2)) (kk : ∀ la2 : Array Slot, lv_has la2 ls2.length (xlv ls2) → W p l e R s m args below meth c H locs cells slots Q (F0 m pc2 la2 st2)) (row : ∀ x, la[i]? = some (.val (.long x)) → W p l e R s m args below meth c H locs cells slots Q (F0 m (pc + n) la (.long x :: st)) → W p l e R s m args below meth c H locs cells slots Q (F0 m pc la st)) : W p l e R s m args below meth c H locs cells slots Q (F0 m pc la st) := by
  unfold xldL at hs
  split at hs
  · rename_i x hx
    cases hs
    exact row x (xat_lv hl hx) (kk la hl)
  · cases hs
theorem xldA_ok {ls ls2 : xLs} {st st2 : List Value} {pc2 n i : Nat} (hl : lv_has la ls.length (xlv ls)) (hs : xldA n pc ls st i = some (pc2, ls2, st2)) (kk : ∀ la2 : Array Slot, lv_has la2 ls2.length (xlv ls2) → W p l e R s m args below meth c H locs cells slots Q (F0 m pc2 la2 st2)) (row : ∀ x, la[i]? = some (.val (.ref x)) → W p l e R s m args below meth c H locs cells slots Q (F0 m (pc + n) la (.ref x :: st)) → W p l e R s m args below meth c H locs cells slots Q (F0 m pc la st)) : W p l e R s m args below meth c H locs cells slots Q (F0 m pc la st) := by
  unfold xldA at hs
  split at hs
  · rename_i x hx
    cases hs
    exact row x (xat_lv hl hx) (kk la hl)
  · cases hs
theorem xstI_ok {ls ls2 : xLs} {st st2 : List Value} {pc2 n i : Nat} (hs : xstI n pc ls st i = some (pc2, ls2, st2)) (kk : ∀ la2 : Array Slot, lv_has la2 ls2.length (xlv ls2) → W p l e R s m args below meth c H locs cells slots Q (F0 m pc2 la2 st2)) (row : ∀ x r, st = .int x :: r → i < ls.length → (∀ la2 : Array Slot, lv_has la2 ls.length ((i, .int x) :: (xlv ls).filter (fun q => !(q.1 == i) && !(q.1 + 1 == i && q.2.category == 2))) → W p l e R s m args below meth c H locs cells slots Q (F0 m (pc + n) la2 r)) → W p l e R s m args below meth c H locs cells slots Q (F0 m pc la st)) : W p l e R s m args below meth c H locs cells slots Q (F0 m pc la st) := by
  unfold xstI at hs
  split at hs
  · rename_i x r
    cases hc : Nat.blt i ls.length with
    | false => rw [hc] at hs; cases hs
    | true =>
      rw [hc] at hs
      cases hs
      exact row x _ rfl (xblt hc) (fun la2 h => kk la2 (by rw [xst1_len]; exact xst1_lv h))
  · cases hs
theorem xstL_ok {ls ls2 : xLs} {st st2 : List Value} {pc2 n i : Nat} (hs : xstL n pc ls st i = some (pc2, ls2, st2)) (kk : ∀ la2 : Array Slot, lv_has la2 ls2.length (xlv ls2) → W p l e R s m args below meth c H locs cells slots Q (F0 m pc2 la2 st2)) (row : ∀ x r, st = .long x :: r → i + 1 < ls.length → (∀ la2 : Array Slot, lv_has la2 ls.length ((i, .long x) :: (xlv ls).filter (fun q => !(q.1 == i) && (!(q.1 == i + 1) && !(q.1 + 1 == i && q.2.category == 2)))) → W p l e R s m args below meth c H locs cells slots Q (F0 m (pc + n) la2 r)) → W p l e R s m args below meth c H locs cells slots Q (F0 m pc la st)) : W p l e R s m args below meth c H locs cells slots Q (F0 m pc la st) := by
  unfold xstL at hs
  split at hs
  · rename_i x r
    cases hc : Nat.blt (i + 1) ls.length with
    | false => rw [hc] at hs; cases hs
    | true =>
      rw [hc] at hs
      cases hs
      exact row x _ rfl (xblt hc) (fun la2 h => kk la2 (by rw [xst2_len]; exact xst2_lv h))
  · cases hs
theorem xstA_ok {ls ls2 : xLs} {st st2 : List Value} {pc2 n i : Nat} (hs : xstA n pc ls st i = some (pc2, ls2, st2)) (kk : ∀ la2 : Array Slot, lv_has la2 ls2.length (xlv ls2) → W p l e R s m args below meth c H locs cells slots Q (F0 m pc2 la2 st2)) (row : ∀ x r, st = .ref x :: r → i < ls.length → (∀ la2 : Array Slot, lv_has la2 ls.length ((i, .ref x) :: (xlv ls).filter (fun q => !(q.1 == i) && !(q.1 + 1 == i && q.2.category == 2))) → W p l e R s m args below meth c H locs cells slots Q (F0 m (pc + n) la2 r)) → W p l e R s m args below meth c H locs cells slots Q (F0 m pc la st)) : W p l e R s m args below meth c H locs cells slots Q (F0 m pc la st) := by
  unfold xstA at hs
  split at hs
  · rename_i x r
    cases hc : Nat.blt i ls.length with
    | false => rw [hc] at hs; cases hs
    | true =>
      rw [hc] at hs
      cases hs
      exact row x _ rfl (xblt hc) (fun la2 h => kk la2 (by rw [xst1_len]; exact xst1_lv h))
  · cases hs
set_option maxHeartbeats 4000000 in
theorem xs1_ok (hx : p.tables.exec = Jvm.exec) (hb : c.code = cc) {own : Nat} (hown : s.vm.findClass (xR own) = some m.cls) (hcon : ∀ ix n, xas (xconT own) ix = some n → (Cond.constant (xR own) ix (Int32.ofInt n)).before args s = true) (hconL : ∀ ix n, xas (xconLT own) ix = some n → (Cond.constantLong (xR own) ix (Int64.ofInt n)).before args s = true)
    {ins : Instr} {len pc2 : Nat} {ls ls2 : xLs} {st st2 : List Value} (hd : decode cc pc = .ok (ins, len)) (hlen : xlen ins = len ∨ xlen ins = 0) (hs : xs1 own ins pc ls st = some (pc2, ls2, st2)) (hl : lv_has la ls.length (xlv ls)) (kk : ∀ la2 : Array Slot, lv_has la2 ls2.length (xlv ls2) → W p l e R s m args below meth c H locs cells slots Q (F0 m pc2 la2 st2)) : W p l e R s m args below meth c H locs cells slots Q (F0 m pc la st) := by
  cases ins
  case iconst n =>
    have hq : len = 1 := by rcases hlen with q | q <;> simp [xlen] at q <;> omega
    subst hq
    cases hs
    exact lv_iconst hx hb hd rfl (kk la hl)
  case bipush n =>
    have hq : len = 2 := by rcases hlen with q | q <;> simp [xlen] at q <;> omega
    subst hq
    simp only [xs1] at hs
    cases hc : (decide (-128 ≤ n) && decide (n ≤ 127)) with
    | false => rw [hc] at hs; cases hs
    | true =>
      rw [hc] at hs
      cases hs
      simp only [Bool.and_eq_true, decide_eq_true_eq] at hc
      exact lv_bipush hx hb hd (xi8 hc.1 hc.2) (kk la hl)
  case sipush n =>
    have hq : len = 3 := by rcases hlen with q | q <;> simp [xlen] at q <;> omega
    subst hq
    simp only [xs1] at hs
    cases hc : (decide (-32768 ≤ n) && decide (n ≤ 32767)) with
    | false => rw [hc] at hs; cases hs
    | true =>
      rw [hc] at hs
      cases hs
      simp only [Bool.and_eq_true, decide_eq_true_eq] at hc
      exact lv_sipush hx hb hd (xi16 hc.1 hc.2) (kk la hl)
  case lconst n =>
    have hq : len = 1 := by rcases hlen with q | q <;> simp [xlen] at q <;> omega
    subst hq
    cases hs
    exact lv_lconst hx hb hd (xlconst n) (kk la hl)
  case ldc ix =>
    have hq : len = 2 := by rcases hlen with q | q <;> simp [xlen] at q <;> omega
    subst hq
    simp only [xs1] at hs
    split at hs
    · rename_i n hn
      cases hs
      exact lv_ldc hx hb hown (hcon _ _ hn) hd (kk la hl)
    · cases hs
  case ldc_w ix =>
    have hq : len = 3 := by rcases hlen with q | q <;> simp [xlen] at q <;> omega
    subst hq
    simp only [xs1] at hs
    split at hs
    · rename_i n hn
      cases hs
      exact lv_ldcw hx hb hown (hcon _ _ hn) hd (kk la hl)
    · cases hs
  case ldc2_w ix =>
    have hq : len = 3 := by rcases hlen with q | q <;> simp [xlen] at q <;> omega
    subst hq
    simp only [xs1] at hs
    split at hs
    · rename_i n hn
      cases hs
      exact lv_ldc2 hx hb hown (hconL _ _ hn) hd (kk la hl)
    · cases hs
  case iload i =>
    have hq : len = 2 := by rcases hlen with q | q <;> simp [xlen] at q <;> omega
    subst hq
    exact xldI_ok hl hs kk (fun x h k => lv_iload hx hb hd h k)
  case iload_n k =>
    have hq : len = 1 := by rcases hlen with q | q <;> simp [xlen] at q <;> omega
    subst hq
    exact xldI_ok hl hs kk (fun x h k2 => lv_iload_n hx hb hd rfl h k2)
  case lload i =>
    have hq : len = 2 := by rcases hlen with q | q <;> simp [xlen] at q <;> omega
    subst hq
    exact xldL_ok hl hs kk (fun x h k => lv_lload hx hb hd h k)
  case lload_n k =>
    have hq : len = 1 := by rcases hlen with q | q <;> simp [xlen] at q <;> omega
    subst hq
    exact xldL_ok hl hs kk (fun x h k2 => lv_lload_n hx hb hd rfl h k2)
  case aload i =>
    have hq : len = 2 := by rcases hlen with q | q <;> simp [xlen] at q <;> omega
    subst hq
    exact xldA_ok hl hs kk (fun x h k => lv_aload hx hb hd h k)
  case aload_n k =>
    have hq : len = 1 := by rcases hlen with q | q <;> simp [xlen] at q <;> omega
    subst hq
    exact xldA_ok hl hs kk (fun x h k2 => lv_aload_n hx hb hd rfl h k2)
  case istore i =>
    have hq : len = 2 := by rcases hlen with q | q <;> simp [xlen] at q <;> omega
    subst hq
    exact xstI_ok hs kk (fun x r e h k2 => by subst e; exact lv_istore hx hb hd hl h rfl k2)
  case istore_n k =>
    have hq : len = 1 := by rcases hlen with q | q <;> simp [xlen] at q <;> omega
    subst hq
    exact xstI_ok hs kk (fun x r e h k2 => by subst e; exact lv_istore_n hx hb hd rfl hl h rfl k2)
  case lstore i =>
    have hq : len = 2 := by rcases hlen with q | q <;> simp [xlen] at q <;> omega
    subst hq
    exact xstL_ok hs kk (fun x r e h k2 => by subst e; exact lv_lstore hx hb hd hl h rfl k2)
  case lstore_n k =>
    have hq : len = 1 := by rcases hlen with q | q <;> simp [xlen] at q <;> omega
    subst hq
    exact xstL_ok hs kk (fun x r e h k2 => by subst e; exact lv_lstore_n hx hb hd rfl hl h rfl k2)
  case astore i =>
    have hq : len = 2 := by rcases hlen with q | q <;> simp [xlen] at q <;> omega
    subst hq
    exact xstA_ok hs kk (fun x r e h k2 => by subst e; exact lv_astore hx hb hd hl h rfl k2)
  case astore_n k =>
    have hq : len = 1 := by rcases hlen with q | q <;> simp [xlen] at q <;> omega
    subst hq
    exact xstA_ok hs kk (fun x r e h k2 => by subst e; exact lv_astore_n hx hb hd rfl hl h rfl k2)
  case iinc i n =>
    have hq : len = 3 := by rcases hlen with q | q <;> simp [xlen] at q <;> omega
    subst hq
    simp only [xs1] at hs
    split at hs
    · rename_i x hx2
      cases hc : Nat.blt i ls.length with
      | false => rw [hc] at hs; cases hs
      | true =>
        rw [hc] at hs
        cases hs
        obtain ⟨k, hk⟩ := List.getElem?_of_mem (xlv_mem.mpr hx2 : (i, Value.int x) ∈ xlv ls)
        exact lv_iinc hx hb hd hl hk rfl (xblt hc) rfl (fun la2 h => kk la2 (by rw [xst1_len]; exact xst1_lv h))
    · cases hs
  case iadd =>
    have hq : len = 1 := by rcases hlen with q | q <;> simp [xlen] at q <;> omega
    subst hq
    simp only [xs1, xii] at hs
    split at hs
    · cases hs
      exact lv_iadd hx hb hd (kk la hl)
    · cases hs
  case isub =>
    have hq : len = 1 := by rcases hlen with q | q <;> simp [xlen] at q <;> omega
    subst hq
    simp only [xs1, xii] at hs
    split at hs
    · cases hs
      exact lv_isub hx hb hd (kk la hl)
    · cases hs
  case imul =>
    have hq : len = 1 := by rcases hlen with q | q <;> simp [xlen] at q <;> omega
    subst hq
    simp only [xs1, xii] at hs
    split at hs
    · cases hs
      exact lv_imul hx hb hd (kk la hl)
    · cases hs
  case iand =>
    have hq : len = 1 := by rcases hlen with q | q <;> simp [xlen] at q <;> omega
    subst hq
    simp only [xs1, xii] at hs
    split at hs
    · cases hs
      exact lv_iand hx hb hd (kk la hl)
    · cases hs
  case ior =>
    have hq : len = 1 := by rcases hlen with q | q <;> simp [xlen] at q <;> omega
    subst hq
    simp only [xs1, xii] at hs
    split at hs
    · cases hs
      exact lv_ior hx hb hd (kk la hl)
    · cases hs
  case ixor =>
    have hq : len = 1 := by rcases hlen with q | q <;> simp [xlen] at q <;> omega
    subst hq
    simp only [xs1, xii] at hs
    split at hs
    · cases hs
      exact lv_ixor hx hb hd (kk la hl)
    · cases hs
  case ishl =>
    have hq : len = 1 := by rcases hlen with q | q <;> simp [xlen] at q <;> omega
    subst hq
    simp only [xs1, xii] at hs
    split at hs
    · cases hs
      exact lv_ishl hx hb hd (kk la hl)
    · cases hs
  case ishr =>
    have hq : len = 1 := by rcases hlen with q | q <;> simp [xlen] at q <;> omega
    subst hq
    simp only [xs1, xii] at hs
    split at hs
    · cases hs
      exact lv_ishr hx hb hd (kk la hl)
    · cases hs
  case iushr =>
    have hq : len = 1 := by rcases hlen with q | q <;> simp [xlen] at q <;> omega
    subst hq
    simp only [xs1, xii] at hs
    split at hs
    · cases hs
      exact lv_iushr hx hb hd rfl (kk la hl)
    · cases hs
  case ladd =>
    have hq : len = 1 := by rcases hlen with q | q <;> simp [xlen] at q <;> omega
    subst hq
    simp only [xs1, xll] at hs
    split at hs
    · cases hs
      exact lv_ladd hx hb hd (kk la hl)
    · cases hs
  case lsub =>
    have hq : len = 1 := by rcases hlen with q | q <;> simp [xlen] at q <;> omega
    subst hq
    simp only [xs1, xll] at hs
    split at hs
    · cases hs
      exact lv_lsub hx hb hd (kk la hl)
    · cases hs
  case lmul =>
    have hq : len = 1 := by rcases hlen with q | q <;> simp [xlen] at q <;> omega
    subst hq
    simp only [xs1, xll] at hs
    split at hs
    · cases hs
      exact lv_lmul hx hb hd (kk la hl)
    · cases hs
  case lcmp =>
    have hq : len = 1 := by rcases hlen with q | q <;> simp [xlen] at q <;> omega
    subst hq
    simp only [xs1] at hs
    split at hs
    · cases hs
      exact W.lcmp hx hb hd (kk la hl)
    · cases hs
  case ineg =>
    have hq : len = 1 := by rcases hlen with q | q <;> simp [xlen] at q <;> omega
    subst hq
    simp only [xs1, xi] at hs
    split at hs
    · cases hs
      exact lv_ineg hx hb hd (kk la hl)
    · cases hs
  case lneg =>
    have hq : len = 1 := by rcases hlen with q | q <;> simp [xlen] at q <;> omega
    subst hq
    simp only [xs1, xi] at hs
    split at hs
    · cases hs
      exact lv_lneg hx hb hd (kk la hl)
    · cases hs
  case i2b =>
    have hq : len = 1 := by rcases hlen with q | q <;> simp [xlen] at q <;> omega
    subst hq
    simp only [xs1, xi] at hs
    split at hs
    · cases hs
      exact lv_i2b hx hb hd rfl (kk la hl)
    · cases hs
  case i2s =>
    have hq : len = 1 := by rcases hlen with q | q <;> simp [xlen] at q <;> omega
    subst hq
    simp only [xs1, xi] at hs
    split at hs
    · cases hs
      exact lv_i2s hx hb hd rfl (kk la hl)
    · cases hs
  case i2l =>
    have hq : len = 1 := by rcases hlen with q | q <;> simp [xlen] at q <;> omega
    subst hq
    simp only [xs1, xi] at hs
    split at hs
    · cases hs
      exact lv_i2l hx hb hd rfl (kk la hl)
    · cases hs
  case l2i =>
    have hq : len = 1 := by rcases hlen with q | q <;> simp [xlen] at q <;> omega
    subst hq
    simp only [xs1, xi] at hs
    split at hs
    · cases hs
      exact lv_l2i hx hb hd rfl (kk la hl)
    · cases hs
  case dup =>
    have hq : len = 1 := by rcases hlen with q | q <;> simp [xlen] at q <;> omega
    subst hq
    simp only [xs1] at hs
    split at hs
    · rename_i v r
      cases hc : xc1 v with
      | false => rw [hc] at hs; cases hs
      | true =>
        rw [hc] at hs
        cases hs
        exact lv_dup hx hb hd (xc1_eq hc) (kk la hl)
    · cases hs
  case pop =>
    have hq : len = 1 := by rcases hlen with q | q <;> simp [xlen] at q <;> omega
    subst hq
    simp only [xs1] at hs
    split at hs
    · rename_i v r
      cases hc : xc1 v with
      | false => rw [hc] at hs; cases hs
      | true =>
        rw [hc] at hs
        cases hs
        exact lv_pop hx hb hd (xc1_eq hc) (kk la hl)
    · cases hs
  case dup2 =>
    have hq : len = 1 := by rcases hlen with q | q <;> simp [xlen] at q <;> omega
    subst hq
    simp only [xs1] at hs
    split at hs
    · cases hs
      exact lv_dup2_2 hx hb hd rfl (kk la hl)
    · rename_i v w r _
      cases hc : (xc1 v && xc1 w) with
      | false => rw [hc] at hs; cases hs
      | true =>
        rw [hc] at hs
        cases hs
        simp only [Bool.and_eq_true] at hc
        exact lv_dup2_11 hx hb hd (xc1_eq hc.1) (xc1_eq hc.2) (kk la hl)
    · cases hs
  case goto off =>
    have hq : len = 3 := by rcases hlen with q | q <;> simp [xlen] at q <;> omega
    subst hq
    simp only [xs1] at hs
    split at hs
    · rename_i t ht
      cases hs
      exact lv_goto hx hb hd (xj_eq ht) (kk la hl)
    · cases hs
  all_goals (exact absurd hs (by simp [xs1]))
end X1
