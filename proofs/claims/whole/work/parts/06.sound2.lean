/-! the pure machine's steps are the machine's steps: the heap, branches -/
def xcell (ca : Nat → ClassId) : xE → va_E
  | .inl a => .inl (ca a.1, a.2)
  | .inr b => .inr b
def xW (ca : Nat → ClassId) (base top : Nat) (h : xH) : va_W := (List.range (top - base)).map fun k => (base + k, xcell ca (h (base + k)))
def xtys (ca : Nat → ClassId) : List (ClassId × FieldType) := (List.range 5).map fun k => (ca k, xaty k)
def xA (base : Nat) : Nat → Prop := fun q => base ≤ q
def xMem (D : va_G) (ca : Nat → ClassId) (base top : Nat) (h : xH) (H : Heap) : Prop := H.size = top ∧ base ≤ top ∧ (∀ a, a < base ∨ top ≤ a → h a = xbad) ∧ va_P D xClasses (xW ca base top h) H
theorem xW_len {ca : Nat → ClassId} {base top : Nat} {h : xH} : (xW ca base top h).length = top - base := by simp [xW]
theorem xW_get {ca : Nat → ClassId} {base top : Nat} {h : xH} {k : Nat} : (xW ca base top h)[k]? = if k < top - base then some (base + k, xcell ca (h (base + k))) else none := by
  unfold xW
  by_cases hk : k < top - base
  · rw [List.getElem?_map, List.getElem?_range hk, if_pos hk]
    rfl
  · rw [List.getElem?_eq_none (by simp; omega), if_neg hk]
theorem xW_at {ca : Nat → ClassId} {base top a : Nat} {h : xH} (h1 : base ≤ a) (h2 : a < top) : (xW ca base top h)[a - base]? = some (a, xcell ca (h a)) := by
  rw [xW_get, if_pos (by omega)]
  have e : base + (a - base) = a := by omega
  rw [e]
theorem xW_D {ca : Nat → ClassId} {base top : Nat} {h : xH} : va_D (xA base) (xW ca base top h) := by
  refine ⟨fun i j p q hp hq hpq => ?_, fun k q hq => ?_⟩
  · rw [xW_get] at hp hq
    split at hp <;> split at hq <;> simp_all
    rw [← hp, ← hq] at hpq
    simp only at hpq
    omega
  · rw [xW_get] at hq
    split at hq <;> simp_all
    rw [← hq]
    exact Nat.le_add_right _ _
theorem xW_set {ca : Nat → ClassId} {base top a : Nat} {h : xH} {e : xE} (h1 : base ≤ a) (h2 : a < top) : (xW ca base top h).set (a - base) (a, xcell ca e) = xW ca base top (va_up h a e) := by
  apply List.ext_getElem?
  intro k
  rw [List.getElem?_set, xW_get, xW_get, xW_len]
  by_cases hk : a - base = k
  · subst hk
    simp only [if_true]
    rw [if_pos (by omega), if_pos (by omega)]
    have e2 : base + (a - base) = a := by omega
    rw [e2]
    simp [va_up]
  · rw [if_neg hk]
    split
    · congr 3
      rw [va_up, if_neg (by omega)]
    · rfl
theorem xW_push {ca : Nat → ClassId} {base top : Nat} {h : xH} {e : xE} (h1 : base ≤ top) : xW ca base top h ++ [(top, xcell ca e)] = xW ca base (top + 1) (va_up h top e) := by
  apply List.ext_getElem?
  intro k
  rw [List.getElem?_append, xW_get, xW_get, xW_len]
  split
  · rename_i q
    rw [if_pos (by omega)]
    congr 3
    rw [va_up, if_neg (by omega)]
  · rename_i q
    by_cases hk : k = top - base
    · subst hk
      rw [if_pos (by omega)]
      have e2 : base + (top - base) = top := by omega
      rw [e2]
      simp [va_up]
    · rw [if_neg (by omega), List.getElem?_eq_none (by simp; omega)]
theorem xMem.cell {D : va_G} {ca : Nat → ClassId} {base top a : Nat} {h : xH} {H : Heap} {e : xE} (hM : xMem D ca base top h H) (he : h a = e) (hb : e ≠ xbad) : (base ≤ a ∧ a < top) ∧ (xW ca base top h)[a - base]? = some (a, xcell ca e) := by
  have hr : base ≤ a ∧ a < top := by
    by_cases q : a < base ∨ top ≤ a
    · exact absurd (he.symm.trans (hM.2.2.1 a q)) hb
    · omega
  exact ⟨hr, by rw [xW_at hr.1 hr.2, he]⟩
theorem xMem.put {D : va_G} {ca : Nat → ClassId} {base top a : Nat} {h : xH} {H H1 : Heap} {e : xE} (hM : xMem D ca base top h H) (hr : base ≤ a ∧ a < top) (hP : va_P D xClasses ((xW ca base top h).set (a - base) (a, xcell ca e)) H1) (hz : H1.size ≤ top) : xMem D ca base top (va_up h a e) H1 := by
  rw [xW_set hr.1 hr.2] at hP
  refine ⟨?_, hM.2.1, fun q hq => ?_, hP⟩
  · have h1 := (hP _ _ (xW_at (a := top - 1) (by omega) (by omega))).lt
    simp only at h1
    omega
  · rw [va_up, if_neg (by omega)]
    exact hM.2.2.1 q hq
theorem xMem.push {D : va_G} {ca : Nat → ClassId} {base top q : Nat} {h : xH} {H H1 : Heap} {e : xE} (hM : xMem D ca base top h H) (hP : va_P D xClasses (xW ca base top h ++ [(q, xcell ca e)]) H1) (hD : va_D (xA base) (xW ca base top h ++ [(q, xcell ca e)])) (hz : H1.size ≤ top + 1) : q = top ∧ xMem D ca base (top + 1) (va_up h top e) H1 := by
  have hl : (xW ca base top h ++ [(q, xcell ca e)])[top - base]? = some (q, xcell ca e) := by
    rw [List.getElem?_append_right (by rw [xW_len]; exact Nat.le_refl _), xW_len, Nat.sub_self]
    rfl
  have h1 := (hP _ _ hl).lt
  have h2 : base ≤ q := hD.2 _ _ hl
  simp only at h1
  have hq : q = top := by
    by_cases hlt : q < top
    · have h3 : (xW ca base top h ++ [(q, xcell ca e)])[q - base]? = some (q, xcell ca (h q)) := by
        rw [List.getElem?_append_left (by rw [xW_len]; omega)]
        exact xW_at h2 hlt
      have h4 := hD.1 _ _ _ _ hl h3 rfl
      omega
    · omega
  subst hq
  refine ⟨rfl, ?_, by omega, fun a ha => ?_, by rw [← xW_push hM.2.1]; exact hP⟩
  · omega
  · have h5 := hM.2.1
    rw [va_up, if_neg (by omega)]
    exact hM.2.2.1 a (by omega)
theorem xbad_inl {a : Nat × vp_A} : (Sum.inl a : xE) ≠ xbad := fun h => by cases h
theorem xbad_inr {ci : Nat} {fs : List Value} (h : ci < 9) : (Sum.inr (ci, fs) : xE) ≠ xbad := fun q => by
  have e : ci = 999 := congrArg Prod.fst (Sum.inr.inj q)
  omega
theorem xok_narrow {ty : FieldType} {v : Value} (h : xok ty v = true) : narrow ty v = v ∧ fits ty v = true := by
  unfold xok at h
  split at h
  · exact ⟨rfl, rfl⟩
  · exact ⟨rfl, rfl⟩
  · rename_i v
    have h2 : v = 0 ∨ v = 1 := by simpa using h
    rcases h2 with rfl | rfl <;> exact ⟨by decide, by decide⟩
  · exact ⟨rfl, rfl⟩
  · exact ⟨rfl, rfl⟩
  · cases h
theorem xin_in {i : Int32} {n : Nat} (h : xin i n = true) : vp_in i n := by
  unfold xin at h
  simp only [Bool.and_eq_true, Bool.not_eq_true', decide_eq_false_iff_not] at h
  intro q
  rcases q with q | q
  · exact h.1 q
  · have := xblt h.2
    omega
theorem xble {a b : Nat} (h : Nat.ble a b = true) : a ≤ b := Nat.le_of_ble_eq_true h
theorem xtys_at {ca : Nat → ClassId} {k : Nat} (h : k < 5) : (xtys ca)[k]? = some (ca k, xaty k) := by
  unfold xtys
  rw [List.getElem?_map, List.getElem?_range h]
  rfl
theorem xdefault : ∀ ci, ci < 9 → ∀ k, k < xFn ci → defaultValue (xFt ci k) = xdef (xFt ci k) := by decide +kernel
theorem xca {D : va_G} {ca : Nat → ClassId} {s : State} (hK : va_K D xClasses (xtys ca) s) {k : Nat} (h : k < 5) : s.vm.findClass ("[" ++ (xaty k).toString) = some (ca k) := by
  have h1 := (hK.2 k _ (xtys_at h)).2
  rcases (show k = 0 ∨ k = 1 ∨ k = 2 ∨ k = 3 ∨ k = 4 by omega) with rfl | rfl | rfl | rfl | rfl
  · exact h1
  · exact h1
  · exact h1
  · obtain ⟨_, _, _, _, _, h2⟩ := h1
    exact h2
  · obtain ⟨_, _, _, _, _, h2⟩ := h1
    exact h2
theorem xra {s : State} {cA : ClassId} {k : Nat} (h : k < 5) (h1 : va_RA s cA (xaty k)) : s.vm.findClass ("[" ++ (xaty k).toString) = some cA := by
  rcases (show k = 0 ∨ k = 1 ∨ k = 2 ∨ k = 3 ∨ k = 4 by omega) with rfl | rfl | rfl | rfl | rfl
  · exact h1
  · exact h1
  · exact h1
  · obtain ⟨_, _, _, _, _, h2⟩ := h1
    exact h2
  · obtain ⟨_, _, _, _, _, h2⟩ := h1
    exact h2
section X2
variable {p : Program} {l : Launch} {e : Env} {R : Room} {s : State} {m : MethodId} {args : Array Value} {below : List Frame} {meth : Method} {c : Code} {H : Heap} {locs : List Loc} {Q : State → Prop} {cc : ByteArray} {pc : Nat} {la : Array Slot} {D : va_G} {ca : Nat → ClassId} {base : Nat} {n n2 : xN} {h h2 : xH} {st st2 : List Value} {own : Nat} {ini : Bool} {len : Nat}
theorem W.sz {cells slots : Nat} {g : JFrame} (k : H.size ≤ s.heap.size + cells → W p l e R s m args below meth c H locs cells slots Q g) : W p l e R s m args below meth c H locs cells slots Q g := fun T hT X => k (by have h1 := X.same.2.2.1; rw [← hT]; exact h1) T hT X
/-- what goes on behind a step -/
abbrev xGo (p : Program) (l : Launch) (e : Env) (R : Room) (s : State) (m : MethodId) (args : Array Value) (below : List Frame) (meth : Method) (c : Code) (Q : State → Prop) (D : va_G) (ca : Nat → ClassId) (base : Nat) (la : Array Slot) (pc : Nat) (st : List Value) (h : xH) (n : xN) : Prop :=
  ∀ (H : Heap) (locs : List Loc), xMem D ca base n.1 h H → n.1 = s.heap.size + n.2.1 → va_S (xA base) s.heap H locs → W p l e R s m args below meth c H locs n.2.1 n.2.2 Q (F0 m pc la st)
theorem xgf_ok (hx : p.tables.exec = Jvm.exec) (hb : c.code = cc) (hown : s.vm.findClass (xR own) = some m.cls) (hts : ∀ w ∈ xTb, w.before args s = true) (hK : va_K D xClasses (xtys ca) s) {ix : Nat} (hd : decode cc pc = .ok (.getfield ix, 3)) (hM : xMem D ca base n.1 h H) (hs : xgf own ix st h = some st2)
    (kk : W p l e R s m args below meth c H locs n.2.1 n.2.2 Q (F0 m (pc + 3) la st2)) : W p l e R s m args below meth c H locs n.2.1 n.2.2 Q (F0 m pc la st) := by
  unfold xgf at hs
  split at hs
  · rename_i ci k hq
    obtain ⟨⟨hc, hk⟩, hl⟩ := xfo_ok own _ (xas_mem hq)
    simp only at hc hk hl
    split at hs
    · rename_i a r
      split at hs
      · rename_i c2 fs he
        split at hs
        · rename_i hcc
          have hcc : c2 = ci := Nat.eq_of_beq_eq_true hcc
          subst hcc
          split at hs
          · rename_i v hv
            cases hs
            obtain ⟨hr, hat⟩ := hM.cell he (xbad_inr hc)
            refine va_get hx hb hts (xws_ok c2 hc) hown hK hM.2.2.2 (a - base) hat (xcls_at c2 hc) k hk (hts _ hl) (fun _ h9 => by rw [xdecl c2 hc k hk] at *; exact h9) hv hd kk
          · cases hs
        · cases hs
      · cases hs
    · cases hs
  · cases hs
theorem xpf_ok (hx : p.tables.exec = Jvm.exec) (hb : c.code = cc) (hown : s.vm.findClass (xR own) = some m.cls) (hts : ∀ w ∈ xTb, w.before args s = true) (hK : va_K D xClasses (xtys ca) s) {ix : Nat} (hd : decode cc pc = .ok (.putfield ix, 3)) (hM : xMem D ca base n.1 h H) (hn : n.1 = s.heap.size + n.2.1) (hS : va_S (xA base) s.heap H locs) (hini : ini = true → meth.name = "<init>") (hs : xpf own ini ix st h = some (st2, h2))
    (kk : xGo p l e R s m args below meth c Q D ca base la (pc + 3) st2 h2 n) : W p l e R s m args below meth c H locs n.2.1 n.2.2 Q (F0 m pc la st) := by
  unfold xpf at hs
  split at hs
  · rename_i ci k hq
    obtain ⟨⟨hc, hk⟩, hl⟩ := xfo_ok own _ (xas_mem hq)
    simp only at hc hk hl
    split at hs
    · rename_i v a r
      split at hs
      · rename_i c2 fs he
        split at hs
        · rename_i hcc
          simp only [Bool.and_eq_true, Bool.or_eq_true, Bool.not_eq_true'] at hcc
          obtain ⟨hcc, ⟨hok, hlen, -⟩, hfin⟩ := hcc
          have hcc : c2 = ci := Nat.eq_of_beq_eq_true hcc
          subst hcc
          cases hs
          obtain ⟨hr, hat⟩ := hM.cell he (xbad_inr hc)
          obtain ⟨hnar, hfit⟩ := xok_narrow hok
          have go : ∀ (H1 : Heap) (locs1 : List Loc), va_P D xClasses ((xW ca base n.1 h).set (a - base) (a, .inr (c2, fs.set k v))) H1 → va_D (xA base) ((xW ca base n.1 h).set (a - base) (a, .inr (c2, fs.set k v))) → va_S (xA base) s.heap H1 locs1 → W p l e R s m args below meth c H1 locs1 n.2.1 n.2.2 Q (F0 m (pc + 3) la st2) := by
            intro H1 locs1 hP1 hD1 hS1
            refine W.sz fun hz => kk H1 locs1 (hM.put (e := .inr (c2, fs.set k v)) hr hP1 (by omega)) hn hS1
          rcases hfin with hfin | hfin
          · exact va_put hx hb hts (xws_ok c2 hc) (xFt c2) (xparse c2 hc) (xnames c2 hc) hown hK hM.2.2.2 xW_D hS (a - base) hat (xcls_at c2 hc) k hk (hts _ hl) (fun _ h9 => h9) hfin (xparse c2 hc k hk) hnar hfit (xblt hlen) hd go
          · have howe : own = c2 := Nat.eq_of_beq_eq_true hfin.2
            by_cases hf : (xF c2 k).2.2.2 = true
            · exact va_putF hx hb hts (xws_ok c2 hc) (xFt c2) (xparse c2 hc) (xnames c2 hc) hown hK hM.2.2.2 xW_D hS (a - base) hat (xcls_at c2 hc) k hk (hts _ hl) (fun _ h9 => h9) hf (hini hfin.1) (by rw [xdecl c2 hc k hk, howe]) (xparse c2 hc k hk) hnar hfit (xblt hlen) hd go
            · exact va_put hx hb hts (xws_ok c2 hc) (xFt c2) (xparse c2 hc) (xnames c2 hc) hown hK hM.2.2.2 xW_D hS (a - base) hat (xcls_at c2 hc) k hk (hts _ hl) (fun _ h9 => h9) (by simpa using hf) (xparse c2 hc k hk) hnar hfit (xblt hlen) hd go
        · cases hs
      · cases hs
    · cases hs
  · cases hs

set_option maxHeartbeats 4000000 in
theorem xs2_ok (hx : p.tables.exec = Jvm.exec) (hb : c.code = cc) (hown : s.vm.findClass (xR own) = some m.cls) (hts : ∀ w ∈ xTb, w.before args s = true) (hao : va_AO (xR 4) s ∧ va_AO (xR 5) s) (hK : va_K D xClasses (xtys ca) s) (hM : xMem D ca base n.1 h H) (hn : n.1 = s.heap.size + n.2.1) (hS : va_S (xA base) s.heap H locs) (hA : base ≤ s.heap.size) (hini : ini = true → meth.name = "<init>") {ins : Instr} (hd : decode cc pc = .ok (ins, len)) (hlen : xlen ins = len ∨ xlen ins = 0) (hs : xs2 own R.cells R.slots ini ins st h n = some (st2, h2, n2))
    (kk : xGo p l e R s m args below meth c Q D ca base la (pc + xlen ins) st2 h2 n2) : W p l e R s m args below meth c H locs n.2.1 n.2.2 Q (F0 m pc la st) := by
  have hA2 : ∀ q : Nat, s.heap.size ≤ q → xA base q := fun q h => Nat.le_trans hA h
  cases ins
  case getfield ix =>
    have hq : len = 3 := by rcases hlen with q | q <;> simp [xlen] at q <;> omega
    subst hq
    simp only [xs2] at hs
    split at hs
    · rename_i st3 h3
      cases hs
      exact xgf_ok hx hb hown hts hK hd hM h3 (kk H locs hM hn hS)
    · cases hs
  case putfield ix =>
    have hq : len = 3 := by rcases hlen with q | q <;> simp [xlen] at q <;> omega
    subst hq
    simp only [xs2] at hs
    split at hs
    · rename_i st3 h3 h4
      cases hs
      exact xpf_ok hx hb hown hts hK hd hM hn hS hini h4 kk
    · cases hs
  case iaload =>
    have hq : len = 1 := by rcases hlen with q | q <;> simp [xlen] at q <;> omega
    subst hq
    simp only [xs2] at hs
    split at hs
    · split at hs
      · rename_i he
        split at hs
        · rename_i hi
          cases hs
          obtain ⟨hr, hat⟩ := hM.cell he xbad_inl
          exact va_iald hx hb hK hM.2.2.2 _ 0 hat (xtys_at (by decide)) (xin_in hi) hd (kk H locs hM hn hS)
        · cases hs
      · cases hs
    · cases hs
  case laload =>
    have hq : len = 1 := by rcases hlen with q | q <;> simp [xlen] at q <;> omega
    subst hq
    simp only [xs2] at hs
    split at hs
    · split at hs
      · rename_i he
        split at hs
        · rename_i hi
          cases hs
          obtain ⟨hr, hat⟩ := hM.cell he xbad_inl
          exact va_lald hx hb hK hM.2.2.2 _ 1 hat (xtys_at (by decide)) (xin_in hi) hd (kk H locs hM hn hS)
        · cases hs
      · cases hs
    · cases hs
  case baload =>
    have hq : len = 1 := by rcases hlen with q | q <;> simp [xlen] at q <;> omega
    subst hq
    simp only [xs2] at hs
    split at hs
    · split at hs
      · rename_i he
        split at hs
        · rename_i hi
          cases hs
          obtain ⟨hr, hat⟩ := hM.cell he xbad_inl
          exact va_zald hx hb hK hM.2.2.2 _ 2 hat (xtys_at (by decide)) (xin_in hi) hd (kk H locs hM hn hS)
        · cases hs
      · cases hs
    · cases hs
  case aaload =>
    have hq : len = 1 := by rcases hlen with q | q <;> simp [xlen] at q <;> omega
    subst hq
    simp only [xs2] at hs
    split at hs
    · split at hs
      · rename_i he
        split at hs
        · rename_i hi
          cases hs
          simp only [Bool.and_eq_true, Bool.or_eq_true] at hi
          obtain ⟨hr, hat⟩ := hM.cell he xbad_inl
          rcases hi.2 with ht | ht
          · have ht := Nat.eq_of_beq_eq_true ht
            subst ht
            exact va_aldq (C := xR 5) hx hb hK hM.2.2.2 _ 3 hat (xtys_at (by decide)) (xin_in hi.1) hd (kk H locs hM hn hS)
          · have ht := Nat.eq_of_beq_eq_true ht
            subst ht
            exact va_aldq (C := xR 4) hx hb hK hM.2.2.2 _ 4 hat (xtys_at (by decide)) (xin_in hi.1) hd (kk H locs hM hn hS)
        · cases hs
      · cases hs
    · cases hs
  case iastore =>
    have hq : len = 1 := by rcases hlen with q | q <;> simp [xlen] at q <;> omega
    subst hq
    simp only [xs2] at hs
    split at hs
    · split at hs
      · rename_i he
        split at hs
        · rename_i hi
          cases hs
          obtain ⟨hr, hat⟩ := hM.cell he xbad_inl
          exact va_iast hx hb hK hM.2.2.2 xW_D hS _ 0 hat (xtys_at (by decide)) (xin_in hi) hd (fun H1 locs1 hP1 hD1 hS1 => W.sz fun hz => kk H1 locs1 (hM.put (e := .inl (0, _, _)) hr hP1 (by omega)) hn hS1)
        · cases hs
      · cases hs
    · cases hs
  case lastore =>
    have hq : len = 1 := by rcases hlen with q | q <;> simp [xlen] at q <;> omega
    subst hq
    simp only [xs2] at hs
    split at hs
    · split at hs
      · rename_i he
        split at hs
        · rename_i hi
          cases hs
          obtain ⟨hr, hat⟩ := hM.cell he xbad_inl
          exact va_last hx hb hK hM.2.2.2 xW_D hS _ 1 hat (xtys_at (by decide)) (xin_in hi) hd (fun H1 locs1 hP1 hD1 hS1 => W.sz fun hz => kk H1 locs1 (hM.put (e := .inl (1, _, _)) hr hP1 (by omega)) hn hS1)
        · cases hs
      · cases hs
    · cases hs
  case bastore =>
    have hq : len = 1 := by rcases hlen with q | q <;> simp [xlen] at q <;> omega
    subst hq
    simp only [xs2] at hs
    split at hs
    · split at hs
      · rename_i he
        split at hs
        · rename_i hi
          cases hs
          obtain ⟨hr, hat⟩ := hM.cell he xbad_inl
          exact va_zast hx hb hK hM.2.2.2 xW_D hS _ 2 hat (xtys_at (by decide)) (xin_in hi) hd (fun H1 locs1 hP1 hD1 hS1 => W.sz fun hz => kk H1 locs1 (hM.put (e := .inl (2, _, _)) hr hP1 (by omega)) hn hS1)
        · cases hs
      · cases hs
    · cases hs
  case aastore =>
    have hq : len = 1 := by rcases hlen with q | q <;> simp [xlen] at q <;> omega
    subst hq
    simp only [xs2] at hs
    split at hs
    · split at hs
      · rename_i he
        split at hs
        · rename_i hv
          split at hs
          · rename_i hi
            cases hs
            simp only [Bool.and_eq_true, Bool.or_eq_true] at hi
            obtain ⟨hr, hat⟩ := hM.cell he xbad_inl
            rcases hi.2 with ht | ht
            · have ht1 := Nat.eq_of_beq_eq_true ht.1
              have ht2 := Nat.eq_of_beq_eq_true ht.2
              subst ht1
              subst ht2
              obtain ⟨hr2, hat2⟩ := hM.cell hv (xbad_inr (by decide))
              exact va_astq (r := (xR 5, xF 5, xFn 5)) hx hb hK hM.2.2.2 xW_D hS _ 3 _ 5 hat (xtys_at (by decide)) hat2 (xcls_at 5 (by decide)) (xin_in hi.1) hd (fun H1 locs1 hP1 hD1 hS1 => W.sz fun hz => kk H1 locs1 (hM.put (e := .inl (3, _, _)) hr hP1 (by omega)) hn hS1)
            · have ht1 := Nat.eq_of_beq_eq_true ht.1
              have ht2 := Nat.eq_of_beq_eq_true ht.2
              subst ht1
              subst ht2
              obtain ⟨hr2, hat2⟩ := hM.cell hv (xbad_inr (by decide))
              exact va_astq (r := (xR 4, xF 4, xFn 4)) hx hb hK hM.2.2.2 xW_D hS _ 4 _ 4 hat (xtys_at (by decide)) hat2 (xcls_at 4 (by decide)) (xin_in hi.1) hd (fun H1 locs1 hP1 hD1 hS1 => W.sz fun hz => kk H1 locs1 (hM.put (e := .inl (4, _, _)) hr hP1 (by omega)) hn hS1)
          · cases hs
        · cases hs
      · cases hs
    · cases hs
  case idiv =>
    have hq : len = 1 := by rcases hlen with q | q <;> simp [xlen] at q <;> omega
    subst hq
    simp only [xs2] at hs
    split at hs
    · split at hs
      · rename_i hy
        cases hs
        exact lv_idiv hx hb hd (of_decide_eq_false hy) (kk H locs hM hn hS)
      · cases hs
    · cases hs
  case irem =>
    have hq : len = 1 := by rcases hlen with q | q <;> simp [xlen] at q <;> omega
    subst hq
    simp only [xs2] at hs
    split at hs
    · split at hs
      · rename_i hy
        cases hs
        exact lv_irem hx hb hd (of_decide_eq_false hy) (kk H locs hM hn hS)
      · cases hs
    · cases hs
  case ldiv =>
    have hq : len = 1 := by rcases hlen with q | q <;> simp [xlen] at q <;> omega
    subst hq
    simp only [xs2] at hs
    split at hs
    · split at hs
      · rename_i hy
        cases hs
        exact lv_ldiv hx hb hd (of_decide_eq_false hy) (kk H locs hM hn hS)
      · cases hs
    · cases hs
  case lrem =>
    have hq : len = 1 := by rcases hlen with q | q <;> simp [xlen] at q <;> omega
    subst hq
    simp only [xs2] at hs
    split at hs
    · split at hs
      · rename_i hy
        cases hs
        exact lv_lrem hx hb hd (of_decide_eq_false hy) (kk H locs hM hn hS)
      · cases hs
    · cases hs
  case new ix =>
    have hq : len = 3 := by rcases hlen with q | q <;> simp [xlen] at q <;> omega
    subst hq
    simp only [xs2] at hs
    split at hs
    · rename_i ci hq
      obtain ⟨hc, hl⟩ := xcc_ok own _ (xas_mem hq)
      split at hs
      · rename_i hroom
        cases hs
        simp only [Bool.and_eq_true] at hroom
        have hr1 := xblt hroom.1
        have hr2 := xble hroom.2
        refine va_new (fs := (List.range (xFn ci)).map fun k => xdef (xFt ci k)) hx hb hts (xws_ok ci hc) (xFt ci) (xparse ci hc) hown (hts _ hl) (hts _ (xin_ok ci hc).1) (hts _ (xin_ok ci hc).2) hK hM.2.2.2 xW_D hS hA2 (xcls_at ci hc) (fun j hj => ?_) hr1 hr2 hd (fun q H1 hP1 hD1 hS1 => W.sz fun hz => ?_)
        · rw [xdefault ci hc j hj, vp_V, List.getD_eq_getElem?_getD, List.getElem?_map, List.getElem?_range hj]
          rfl
        · obtain ⟨e1, hM1⟩ := hM.push (e := .inr (ci, _)) hP1 hD1 (by have hz2 : H1.size ≤ s.heap.size + (n.2.1 + 1) := hz; omega)
          subst e1
          exact kk H1 locs hM1 (by show n.1 + 1 = s.heap.size + (n.2.1 + 1); omega) hS1
      · cases hs
    · cases hs
  case newarray ty =>
    have hq : len = 2 := by rcases hlen with q | q <;> simp [xlen] at q <;> omega
    subst hq
    simp only [xs2] at hs
    split at hs
    · rename_i k r
      split at hs
      · rename_i hroom
        simp only [Bool.and_eq_true, Bool.not_eq_true', decide_eq_false_iff_not] at hroom
        obtain ⟨hneg, ⟨hr1, hr2⟩, hr3⟩ := hroom
        have hr1 := xblt hr1
        have hr2 := xble hr2
        have hr3 := xble hr3
        split at hs
        · cases hs
          refine va_newa (atype := .int) (N' := k.toNatClampNeg) (ty := .int) (a0 := (_, .inl fun _ => 0)) hx hb (hts _ xac_int) rfl hK hM.2.2.2 xW_D hS hA2 (fun cA => rfl) hneg rfl (by simp only [componentBytes]; omega) hr1 hr2 hd (fun q cA H1 hK1 hP1 hD1 hS1 => W.sz fun hz => ?_)
          have hcA : cA = ca 0 := Option.some.inj ((xra (k := 0) (by decide) (hK1.2 5 _ rfl).2).symm.trans (xca hK (by decide)))
          subst hcA
          obtain ⟨e1, hM1⟩ := hM.push (e := .inl (0, _, .inl fun _ => 0)) hP1 hD1 (by have hz2 : H1.size ≤ s.heap.size + (n.2.1 + 1) := hz; omega)
          subst e1
          exact kk H1 locs hM1 (by show n.1 + 1 = s.heap.size + (n.2.1 + 1); omega) hS1
        · cases hs
          refine va_newa (atype := .long) (N' := k.toNatClampNeg) (ty := .long) (a0 := (_, .inr (.inl fun _ => 0))) hx hb (hts _ xac_long) rfl hK hM.2.2.2 xW_D hS hA2 (fun cA => rfl) hneg rfl (by simp only [componentBytes]; omega) hr1 hr2 hd (fun q cA H1 hK1 hP1 hD1 hS1 => W.sz fun hz => ?_)
          have hcA : cA = ca 1 := Option.some.inj ((xra (k := 1) (by decide) (hK1.2 5 _ rfl).2).symm.trans (xca hK (by decide)))
          subst hcA
          obtain ⟨e1, hM1⟩ := hM.push (e := .inl (1, _, .inr (.inl fun _ => 0))) hP1 hD1 (by have hz2 : H1.size ≤ s.heap.size + (n.2.1 + 1) := hz; omega)
          subst e1
          exact kk H1 locs hM1 (by show n.1 + 1 = s.heap.size + (n.2.1 + 1); omega) hS1
        · cases hs
          refine va_newa (atype := .boolean) (N' := k.toNatClampNeg) (ty := .boolean) (a0 := (_, .inl fun _ => 0)) hx hb (hts _ xac_boolean) rfl hK hM.2.2.2 xW_D hS hA2 (fun cA => rfl) hneg rfl (by simp only [componentBytes]; omega) hr1 hr2 hd (fun q cA H1 hK1 hP1 hD1 hS1 => W.sz fun hz => ?_)
          have hcA : cA = ca 2 := Option.some.inj ((xra (k := 2) (by decide) (hK1.2 5 _ rfl).2).symm.trans (xca hK (by decide)))
          subst hcA
          obtain ⟨e1, hM1⟩ := hM.push (e := .inl (2, _, .inl fun _ => 0)) hP1 hD1 (by have hz2 : H1.size ≤ s.heap.size + (n.2.1 + 1) := hz; omega)
          subst e1
          exact kk H1 locs hM1 (by show n.1 + 1 = s.heap.size + (n.2.1 + 1); omega) hS1
        · cases hs
      · cases hs
    · cases hs
  case anewarray ix =>
    have hq : len = 3 := by rcases hlen with q | q <;> simp [xlen] at q <;> omega
    subst hq
    simp only [xs2] at hs
    split at hs
    · rename_i k r
      split at hs
      · rename_i hroom
        simp only [Bool.and_eq_true, Bool.not_eq_true', decide_eq_false_iff_not] at hroom
        obtain ⟨hneg, ⟨hr1, hr2⟩, hr3⟩ := hroom
        have hr1 := xblt hr1
        have hr2 := xble hr2
        have hr3 := xble hr3
        split at hs
        · rename_i hq
          obtain ⟨hc, hl⟩ := xcc_ok own _ (xas_mem hq)
          cases hs
          refine va_newq (C := xR 5) (N' := k.toNatClampNeg) hx hb hown (hts _ hl) hao.2 hK hM.2.2.2 xW_D hS hA2 hneg rfl (by omega) hr1 hr2 hd (fun q cA H1 hK1 hP1 hD1 hS1 => W.sz fun hz => ?_)
          have hcA : cA = ca 3 := Option.some.inj ((xra (k := 3) (by decide) (hK1.2 5 _ rfl).2).symm.trans (xca hK (by decide)))
          subst hcA
          obtain ⟨e1, hM1⟩ := hM.push (e := .inl (3, _, .inr (.inr (.inr (.inr fun _ => none))))) hP1 hD1 (by have hz2 : H1.size ≤ s.heap.size + (n.2.1 + 1) := hz; omega)
          subst e1
          exact kk H1 locs hM1 (by show n.1 + 1 = s.heap.size + (n.2.1 + 1); omega) hS1
        · rename_i hq
          obtain ⟨hc, hl⟩ := xcc_ok own _ (xas_mem hq)
          cases hs
          refine va_newq (C := xR 4) (N' := k.toNatClampNeg) hx hb hown (hts _ hl) hao.1 hK hM.2.2.2 xW_D hS hA2 hneg rfl (by omega) hr1 hr2 hd (fun q cA H1 hK1 hP1 hD1 hS1 => W.sz fun hz => ?_)
          have hcA : cA = ca 4 := Option.some.inj ((xra (k := 4) (by decide) (hK1.2 5 _ rfl).2).symm.trans (xca hK (by decide)))
          subst hcA
          obtain ⟨e1, hM1⟩ := hM.push (e := .inl (4, _, .inr (.inr (.inr (.inr fun _ => none))))) hP1 hD1 (by have hz2 : H1.size ≤ s.heap.size + (n.2.1 + 1) := hz; omega)
          subst e1
          exact kk H1 locs hM1 (by show n.1 + 1 = s.heap.size + (n.2.1 + 1); omega) hS1
        · cases hs
      · cases hs
    · cases hs
  all_goals (exact absurd hs (by simp [xs2]))
theorem xif_ok (hx : p.tables.exec = Jvm.exec) (hb : c.code = cc) {cells slots : Nat} {cd : ClassFile.Cond} {off : Int} {x : Int32} {r : List Value} {t : Nat} (hd : decode cc pc = .ok (.ifCond cd off, 3)) (kt : xcd cd x 0 = true → W p l e R s m args below meth c H locs cells slots Q (F0 m t la r)) (kf : xcd cd x 0 = false → W p l e R s m args below meth c H locs cells slots Q (F0 m (pc + 3) la r))  (ht : xj pc off = some t) : W p l e R s m args below meth c H locs cells slots Q (F0 m pc la (.int x :: r)) := by
  cases hc : xcd cd x 0 with
  | true =>
    have k := kt hc
    cases cd <;> simp only [xcd, decide_eq_true_eq, Bool.not_eq_true', decide_eq_false_iff_not] at hc
    · exact lv_if_eq hx hb hd (xj_eq ht) (fun _ => k) (fun q => absurd hc q)
    · exact lv_if_ne hx hb hd (xj_eq ht) (fun _ => k) (fun q => absurd q hc)
    · exact lv_if_lt hx hb hd (xj_eq ht) (fun _ => k) (fun q => absurd hc q)
    · exact lv_if_ge hx hb hd (xj_eq ht) (fun _ => k) (fun q => absurd hc q)
    · exact lv_if_gt hx hb hd (xj_eq ht) (fun _ => k) (fun q => absurd hc q)
    · exact lv_if_le hx hb hd (xj_eq ht) (fun _ => k) (fun q => absurd hc q)
  | false =>
    have k := kf hc
    cases cd <;> simp only [xcd, decide_eq_false_iff_not, Bool.not_eq_false', decide_eq_true_eq] at hc
    · exact lv_if_eq hx hb hd (xj_eq ht) (fun q => absurd q hc) (fun _ => k)
    · exact lv_if_ne hx hb hd (xj_eq ht) (fun q => absurd hc q) (fun _ => k)
    · exact lv_if_lt hx hb hd (xj_eq ht) (fun q => absurd q hc) (fun _ => k)
    · exact lv_if_ge hx hb hd (xj_eq ht) (fun q => absurd q hc) (fun _ => k)
    · exact lv_if_gt hx hb hd (xj_eq ht) (fun q => absurd q hc) (fun _ => k)
    · exact lv_if_le hx hb hd (xj_eq ht) (fun q => absurd q hc) (fun _ => k)
theorem xicmp_ok (hx : p.tables.exec = Jvm.exec) (hb : c.code = cc) {cells slots : Nat} {cd : ClassFile.Cond} {off : Int} {x y : Int32} {r : List Value} {t : Nat} (hd : decode cc pc = .ok (.if_icmp cd off, 3)) (kt : xcd cd x y = true → W p l e R s m args below meth c H locs cells slots Q (F0 m t la r)) (kf : xcd cd x y = false → W p l e R s m args below meth c H locs cells slots Q (F0 m (pc + 3) la r))  (ht : xj pc off = some t) : W p l e R s m args below meth c H locs cells slots Q (F0 m pc la (.int y :: .int x :: r)) := by
  cases hc : xcd cd x y with
  | true =>
    have k := kt hc
    cases cd <;> simp only [xcd, decide_eq_true_eq, Bool.not_eq_true', decide_eq_false_iff_not] at hc
    · exact lv_icmp_eq hx hb hd (xj_eq ht) (fun _ => k) (fun q => absurd hc q)
    · exact lv_icmp_ne hx hb hd (xj_eq ht) (fun _ => k) (fun q => absurd q hc)
    · exact lv_icmp_lt hx hb hd (xj_eq ht) (fun _ => k) (fun q => absurd hc q)
    · exact lv_icmp_ge hx hb hd (xj_eq ht) (fun _ => k) (fun q => absurd hc q)
    · exact lv_icmp_gt hx hb hd (xj_eq ht) (fun _ => k) (fun q => absurd hc q)
    · exact lv_icmp_le hx hb hd (xj_eq ht) (fun _ => k) (fun q => absurd hc q)
  | false =>
    have k := kf hc
    cases cd <;> simp only [xcd, decide_eq_false_iff_not, Bool.not_eq_false', decide_eq_true_eq] at hc
    · exact lv_icmp_eq hx hb hd (xj_eq ht) (fun q => absurd q hc) (fun _ => k)
    · exact lv_icmp_ne hx hb hd (xj_eq ht) (fun q => absurd hc q) (fun _ => k)
    · exact lv_icmp_lt hx hb hd (xj_eq ht) (fun q => absurd q hc) (fun _ => k)
    · exact lv_icmp_ge hx hb hd (xj_eq ht) (fun q => absurd q hc) (fun _ => k)
    · exact lv_icmp_gt hx hb hd (xj_eq ht) (fun q => absurd q hc) (fun _ => k)
    · exact lv_icmp_le hx hb hd (xj_eq ht) (fun q => absurd q hc) (fun _ => k)
theorem xs3_ok (hx : p.tables.exec = Jvm.exec) (hb : c.code = cc) {cells slots pc2 : Nat} {ins : Instr} (hd : decode cc pc = .ok (ins, len)) (hlen : xlen ins = len ∨ xlen ins = 0) (hs : xs3 ins pc st = some (pc2, st2)) (kk : W p l e R s m args below meth c H locs cells slots Q (F0 m pc2 la st2)) : W p l e R s m args below meth c H locs cells slots Q (F0 m pc la st) := by
  cases ins
  case ifCond cd off =>
    have hq : len = 3 := by rcases hlen with q | q <;> simp [xlen] at q <;> omega
    subst hq
    simp only [xs3] at hs
    split at hs
    · rename_i x r t ht
      refine xif_ok hx hb hd (t := t) (ht := ht) (fun hc => ?_) (fun hc => ?_)
      · rw [hc] at hs
        cases hs
        exact kk
      · rw [hc] at hs
        cases hs
        exact kk
    · cases hs
  case if_icmp cd off =>
    have hq : len = 3 := by rcases hlen with q | q <;> simp [xlen] at q <;> omega
    subst hq
    simp only [xs3] at hs
    split at hs
    · rename_i y x r t ht
      refine xicmp_ok hx hb hd (t := t) (ht := ht) (fun hc => ?_) (fun hc => ?_)
      · rw [hc] at hs
        cases hs
        exact kk
      · rw [hc] at hs
        cases hs
        exact kk
    · cases hs
  case tableswitch d lo hi offs =>
    simp only [xs3] at hs
    split at hs
    · rename_i x r
      split at hs
      · rename_i hc
        simp only [Bool.or_eq_true, decide_eq_true_eq] at hc
        split at hs
        · rename_i t ht
          cases hs
          exact lv_tableOut hx hb hd hc (xj_eq ht) kk
        · cases hs
      · rename_i hc
        simp only [Bool.or_eq_false_iff, decide_eq_false_iff_not] at hc
        split at hs
        · rename_i o ho
          split at hs
          · rename_i t ht
            cases hs
            exact lv_tableIn hx hb hd hc.1 hc.2 ho (xj_eq ht) kk
          · cases hs
        · cases hs
    · cases hs
  case lookupswitch d ps =>
    simp only [xs3] at hs
    split at hs
    · rename_i x r
      split at hs
      · rename_i hc
        split at hs
        · rename_i t ht
          cases hs
          exact lv_lookup hx hb hd hc rfl (xj_eq ht) kk
        · cases hs
      · cases hs
    · cases hs
  all_goals (exact absurd hs (by simp [xs3]))
end X2
