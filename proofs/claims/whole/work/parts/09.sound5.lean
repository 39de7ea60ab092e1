/-! the pure machine's runs are the machine's runs -/
/-- what holds all along a method -/
def xCx (p : Program) (R : Room) (s : State) (m : MethodId) (args : Array Value) (meth : Method) (c : Code) (cc : ByteArray) (D : va_G) (ca : Nat → ClassId) (base : Nat) (I : xI) : Prop :=
  p.tables.exec = Jvm.exec ∧ c.code = cc ∧ c.maxLocals = I.2.2.1 ∧ s.vm.findClass (xR I.1) = some m.cls ∧ (∀ w ∈ xTb, w.before args s = true) ∧ xNw s ∧ va_K D xClasses (xtys ca) s ∧ R = xRoom I ∧ (I.2.2.2.2.2.2.2 = true → meth.name = "<init>") ∧ base ≤ s.heap.size ∧ (∀ q ∈ I.2.1, xdec cc q)
section X5
variable {p : Program} {l : Launch} {e : Env} {R : Room} {s : State} {m : MethodId} {args : Array Value} {below : List Frame} {meth : Method} {c : Code} {Q : State → Prop} {cc : ByteArray} {D : va_G} {ca : Nat → ClassId} {base : Nat} {I : xI}
theorem xstep_ok (C : xCx p R s m args meth c cc D ca base I) {ins : Instr} {len : Nat} {g g2 : xC} {la : Array Slot} {H : Heap} {locs : List Loc} (hd : decode cc g.1 = .ok (ins, len)) (hlen : xlen ins = len ∨ xlen ins = 0) (X : xSt s D ca base I.2.2.1 I la H locs g) (hs : xstep I ins g = some g2)
    (kk : ∀ (la2 : Array Slot) (H1 : Heap) (locs1 : List Loc), xSt s D ca base I.2.2.1 I la2 H1 locs1 g2 → W p l e R s m args below meth c H1 locs1 g2.2.2.2.2.2.1 g2.2.2.2.2.2.2 Q (F0 m g2.1 la2 g2.2.2.1)) : W p l e R s m args below meth c H locs g.2.2.2.2.2.1 g.2.2.2.2.2.2 Q (F0 m g.1 la g.2.2.1) := by
  obtain ⟨hx, hb, hml, hown, hts, hN, hK, hR, hini, hba, hdec⟩ := C
  obtain ⟨x1, x2, x3, x4, x5, x6⟩ := X
  unfold xstep at hs
  split at hs
  · rename_i pc ls st h1
    cases hs
    exact xs1_ok hx hb hown (fun ix n h => hts _ (xco_ok I.1 _ (xas_mem h))) (fun ix n h => hts _ (xcl_ok I.1 _ (xas_mem h))) hd hlen h1 x1 (fun la2 h2 => kk la2 H locs ⟨h2, (xs1_len h1).trans x2, x3, x4, x5, x6⟩)
  · split at hs
    · rename_i st h n h1
      cases hs
      subst hR
      exact xs2_ok hx hb hown hts ⟨hN.2.1, hN.2.2⟩ hK x3 x4 x6 hba hini hd hlen h1 (fun H1 locs1 hM1 hn1 hS1 => kk la H1 locs1 ⟨x1, x2, hM1, hn1, xs2_room h1 x5, hS1⟩)
    · split at hs
      · rename_i pc st h1
        cases hs
        exact xs3_ok hx hb hd hlen h1 (kk la H locs ⟨x1, x2, x3, x4, x5, x6⟩)
      · cases hs
theorem xget_dec {L : List (Nat × Instr × Nat)} (h : ∀ q ∈ L, xdec cc q) {pc : Nat} {ins : Instr} (hg : xget L pc = some ins) : ∃ len, decode cc pc = .ok (ins, len) ∧ (xlen ins = len ∨ xlen ins = 0) := by
  obtain ⟨n, hn⟩ := xget_mem hg
  exact ⟨n, (h _ hn).1, (h _ hn).2⟩
theorem xinv_len {own : Nat} {ins : Instr} {q : Nat × Nat × Nat} (h : xinv own ins = some q) : xlen ins = 3 := by
  unfold xinv at h
  split at h <;> first | rfl | cases h
theorem xret_ok (C : xCx p R s m args meth c cc D ca base I) {rt : Option FieldType} (hr : meth.sig.returnType = rt) (hlocks : meth.locks = false) {ins : Instr} {len : Nat} {g : xC} {la : Array Slot} {H : Heap} {locs : List Loc} {v : Option Value} (hd : decode cc g.1 = .ok (ins, len)) (hlen : xlen ins = len ∨ xlen ins = 0) (X : xSt s D ca base I.2.2.1 I la H locs g) (hs : xret rt ins g.2.2.1 = some v) :
    W p l e R s m args below meth c H locs g.2.2.2.2.2.1 g.2.2.2.2.2.2 (MQ below (xQc D ca base v g.2.2.2.1 g.2.2.2.2.1) args s I.2.2.2.2.2.1 I.2.2.2.2.2.2.1 (xA base)) (F0 m g.1 la g.2.2.1) := by
  obtain ⟨hx, hb, hml, hown, hts, hN, hK, hR, hini, hba, hdec⟩ := C
  obtain ⟨x1, x2, x3, x4, x5, x6⟩ := X
  obtain ⟨pc, ls, st, h, t, cb, sb⟩ := g
  have hq : ∀ (o : Option Value) (t1 : State), t1.heap = H → s.WarmedH t1.vm → xQc D ca base o h t args s (.returned o) t1 := fun o t1 ht hW => ⟨rfl, by rw [ht]; exact x3, x6.F ht⟩
  refine W.widen x5.1 x5.2 ?_
  unfold xret at hs
  split at hs
  · have hl : len = 1 := by rcases hlen with q | q <;> simp [xlen] at q <;> omega
    subst hl
    split at hs
    · rename_i he
      cases hs
      have he : st = [] := he
      subst he
      exact W.vret hx hb hr (hq none) x6.2.2 hd
    · cases hs
  · have hl : len = 1 := by rcases hlen with q | q <;> simp [xlen] at q <;> omega
    subst hl
    split at hs
    · rename_i w he
      cases hs
      have he : st = [.int w] := he
      subst he
      exact W.iret hx hb hr (hq _) x6.2.2 hd
    · rename_i w he
      split at hs
      · rename_i hw
        cases hs
        have he : st = [.int w] := he
        subst he
        refine W.zret (ty := .boolean) hx hb hr ?_ (hq _) x6.2.2 hd
        have h2 : w = 0 ∨ w = 1 := by simpa using hw
        rcases h2 with rfl | rfl <;> decide
      · cases hs
    · cases hs
  · have hl : len = 1 := by rcases hlen with q | q <;> simp [xlen] at q <;> omega
    subst hl
    split at hs
    · rename_i w he
      cases hs
      have he : st = [.long w] := he
      subst he
      exact W.lret hx hb hr (hq _) x6.2.2 hd
    · cases hs
  · cases hs
theorem xrun_ok (C : xCx p R s m args meth c cc D ca base I) {call : xCall} (hcall : xOK l call) {rt : Option FieldType} (hr : meth.sig.returnType = rt) (hlocks : meth.locks = false) {r : Option Value} {h2 : xH} {t2 : Nat} : ∀ (f : Nat) (g : xC), xrun call I rt f g = some (r, h2, t2) → ∀ (la : Array Slot) (H : Heap) (locs : List Loc), xSt s D ca base I.2.2.1 I la H locs g → W p l e R s m args below meth c H locs g.2.2.2.2.2.1 g.2.2.2.2.2.2 (MQ below (xQc D ca base r h2 t2) args s I.2.2.2.2.2.1 I.2.2.2.2.2.2.1 (xA base)) (F0 m g.1 la g.2.2.1) := by
  intro f
  induction f with
  | zero => intro g hs; cases hs
  | succ f ih =>
    intro g hs la H locs X
    unfold xrun at hs
    split at hs
    · cases hs
    · rename_i ins hi
      obtain ⟨len, hd, hlen⟩ := xget_dec C.2.2.2.2.2.2.2.2.2.2 hi
      split at hs
      · rename_i v hv
        split at hs
        · cases hs
          exact xret_ok C hr hlocks hd hlen X hv
        · cases hs
      · split at hs
        · rename_i k j na hj
          split at hs
          · rename_i g2 hg2
            have hl := xinv_len hj
            have hl3 : len = 3 := by omega
            subst hl3
            obtain ⟨hx, hb, hml, hown, hts, hN, hK, hR, hini, hba, hdec⟩ := id C
            exact xdo_ok hx hb (hml.trans (X.2.1.symm.trans X.1.1.symm)) hown hts hN hK hcall hR hd hj X hg2 (fun H1 locs1 X1 => ih g2 hs la H1 locs1 X1)
          · cases hs
        · split at hs
          · rename_i g2 hg2
            exact xstep_ok C hd hlen X hg2 (fun la2 H1 locs1 X1 => ih g2 hs la2 H1 locs1 X1)
          · cases hs
end X5
theorem xent_lv : ∀ (av : List Value) (i : Nat) (q : Nat × Value), xat (xent av) q.1 = some q.2 → (i + q.1, q.2) ∈ lv_args i av
  | [], i, q, h => by simp [xent, xat] at h
  | v :: l, i, (k, w), h => by
    have ih := xent_lv l
    cases hc : v.category == 2 with
    | true =>
      have hc2 : v.category = 2 := by simpa using hc
      have e : xent (v :: l) = some v :: none :: xent l := by cases v <;> simp [Value.category] at hc2 <;> rfl
      rw [e] at h
      match k, h with
      | 0, h =>
        cases h
        exact List.mem_cons_self
      | 1, h => cases h
      | k + 2, h =>
        have h3 := ih (i + 2) (k, w) h
        refine List.mem_cons_of_mem _ ?_
        rw [if_pos hc2]
        have e2 : i + (k + 2) = i + 2 + k := by omega
        simp only at h3 ⊢
        rw [e2]
        exact h3
    | false =>
      have hc2 : ¬ v.category = 2 := by simpa using hc
      have e : xent (v :: l) = some v :: xent l := by cases v <;> simp [Value.category] at hc2 <;> rfl
      rw [e] at h
      match k, h with
      | 0, h =>
        cases h
        exact List.mem_cons_self
      | k + 1, h =>
        have h3 := ih (i + 1) (k, w) h
        refine List.mem_cons_of_mem _ ?_
        rw [if_neg hc2]
        have e2 : i + (k + 1) = i + 1 + k := by omega
        simp only at h3 ⊢
        rw [e2]
        exact h3
theorem xpad_at : ∀ (n : Nat) (l : xLs) (i : Nat), xat (xpad n l) i = xat l i
  | 0, l, i => by simp [xpad]
  | n + 1, [], 0 => by simp [xpad, xat]
  | n + 1, [], i + 1 => by simp [xpad, xat, xpad_at n]
  | n + 1, x :: l, 0 => by simp [xpad, xat]
  | n + 1, x :: l, i + 1 => by simp [xpad, xat, xpad_at n]
theorem xpad_len : ∀ (n : Nat) (l : xLs), l.length ≤ n → (xpad n l).length = n
  | 0, l, h => by simpa [xpad] using h
  | n + 1, [], h => by simp [xpad, xpad_len n]
  | n + 1, x :: l, h => by simp [xpad]; exact xpad_len n l (by simp at h; omega)
theorem xent_len : ∀ (av : List Value), (xent av).length = (lg_sl av).length
  | [] => rfl
  | v :: l => by
    have ih := xent_len l
    cases v <;> simp [xent, lg_sl, Value.category] at ih ⊢ <;> omega
theorem xsem_ok (l : Launch) : ∀ d, xOK l (xsem d)
  | 0 => fun j av h t r h2 t2 hs => by cases hs
  | d + 1 => by
    intro j av h t r h2 t2 hs I rt hI hrt D ca base
    unfold xsem at hs
    rw [hI, hrt] at hs
    simp only at hs
    split at hs
    · rename_i hlen
      have hlen := xble hlen
      obtain ⟨⟨hcode, hcls, hpl, hinit⟩, hdec⟩ := xm_ok j I rt hI hrt
      refine Met.ofW (cc := xB j) (maxL := I.2.2.1) (ret := rt) (by rw [hcls]; exact hpl.1) rfl ?_
      intro p e s m args below meth c s₁ B hml hv
      obtain ⟨rfl, hM, hK, hN⟩ := hv
      have hx := B.exec
      have hb := B.bytes
      have hr := B.returns
      have hts0 := atoms_spec (ws := xWs j I rt) B.pre
      have hts : ∀ w ∈ xTb, w.before av.toArray s = true := fun w hw => hts0 w (List.mem_cons_of_mem _ hw)
      have hown : s.vm.findClass (xR I.1) = some m.cls := by rw [← hcls]; exact findClass_of_methodNamed B.named
      have hlocks := B.notSynchronized
      have hnm : meth.name = (xY j).name := (name_of_methodNamed B.named B.method).1
      have hba : base ≤ s.heap.size := by rw [hM.1]; exact hM.2.1
      have C : xCx p (headSpec (xWs j I rt) (xRoom I)).room s m av.toArray meth c (xB j) D ca base I := ⟨hx, hb, hml, hown, hts, hN, hK, rfl, fun q => by rw [hnm]; exact hinit q, hba, hdec⟩
      rw [lg_entry_eq]
      have hl := lv_entry av (n := I.2.2.1) (by rw [← xent_len]; exact hlen)
      refine xrun_ok C (xsem_ok l d) hr hlocks d (0, xpad I.2.2.1 (xent av), [], h, (t, 0, 0)) hs _ s.heap [] ⟨?_, xpad_len _ _ hlen, hM, hM.1.symm, ⟨Nat.zero_le _, Nat.zero_le _⟩, va_S.rf⟩
      simp only
      rw [xpad_len _ _ hlen]
      refine lv_less hl (fun q hq => ?_)
      have h1 := xlv_mem.mp hq
      rw [xpad_at] at h1
      have h2 := xent_lv av 0 q h1
      rw [Nat.zero_add] at h2
      exact h2
    · cases hs
