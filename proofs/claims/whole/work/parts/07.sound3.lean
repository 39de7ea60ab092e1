/-! the pure machine's runs are the machine's runs: calls, returns, methods -/
/-- the nest's links, and the classes that rows are of -/
def xNw (U : State) : Prop := (∀ a i x, Cond.methodLinkNest a i x "EvenErrors" ∈ lw_tbl → va_Nw (.methodLinkNest a i x "EvenErrors") U) ∧ va_AO (xR 4) U ∧ va_AO (xR 5) U
theorem xNw.same {u U : State} (h : u.vm = U.vm) (hN : xNw u) : xNw U := ⟨fun a i x hm => va_Nw.same rfl h (hN.1 a i x hm), va_AO.moved (u := u) (U := U) (by rw [h]; exact Vm.Alike.refl _) hN.2.1, va_AO.moved (u := u) (U := U) (by rw [h]; exact Vm.Alike.refl _) hN.2.2⟩
theorem xNw.warm {s U : State} (hW : s.WarmedH U.vm) (hN : xNw s) : xNw U := ⟨fun a i x hm => va_Nw.warmM hW (hN.1 a i x hm), va_AO.moved hW.alike hN.2.1, va_AO.moved hW.alike hN.2.2⟩
def xPc (D : va_G) (ca : Nat → ClassId) (base : Nat) (av : List Value) (h : xH) (t : Nat) : Array Value → State → Prop := va_Pc av (fun U => xMem D ca base t h U.heap ∧ va_K D xClasses (xtys ca) U ∧ xNw U)
def xQc (D : va_G) (ca : Nat → ClassId) (base : Nat) (r : Option Value) (h : xH) (t : Nat) : Array Value → State → Outcome → State → Prop := fun _ st oc U => oc = .returned r ∧ xMem D ca base t h U.heap ∧ va_F (xA base) st U
def xRoom (I : xI) : Room := { frames := I.2.2.2.1, cells := I.2.2.2.2.2.1, slots := I.2.2.2.2.2.2.1, locals := I.2.2.2.2.1 }
def xWs (j : Nat) (I : xI) (rt : Option FieldType) : List Cond := Cond.code (xY j) (xB j) I.2.2.1 rt :: xTb
/-- what is owed of a table of callees -/
def xOK (l : Launch) (call : xCall) : Prop := ∀ (j : Nat) (av : List Value) (h : xH) (t : Nat) (r : Option Value) (h2 : xH) (t2 : Nat), call j av h t = some (r, h2, t2) → ∀ (I : xI) (rt : Option FieldType), xtab[j]? = some I → xrt[j]? = some rt → ∀ (D : va_G) (ca : Nat → ClassId) (base : Nat), Met l (xY j) (xWs j I rt) (xRoom I) (xPc D ca base av h t) (xQc D ca base r h2 t2) I.2.2.2.2.2.1 I.2.2.2.2.2.2.1 (xA base)
theorem xPc_blind {D : va_G} {ca : Nat → ClassId} {base : Nat} {av : List Value} {h : xH} {t : Nat} : FrameBlind (xPc D ca base av h t) := fun a U g mk q => ⟨q.1, q.2.1, va_K.moved (u := U) (U := U.calling g mk a) (Vm.Alike.refl U.vm) q.2.2.1, xNw.same (u := U) (U := U.calling g mk a) rfl q.2.2.2⟩
theorem xgood {j : Nat} {I : xI} {rt : Option FieldType} (h : Cond.code (xY j) (xB j) I.2.2.1 rt ∈ xTb) : GoodIn xTb (xWs j I rt) := fun w hw => by
  have hm : w ∈ xTb := by
    rcases List.mem_cons.mp hw with rfl | hw
    · exact h
    · exact hw
  exact ⟨hm, good_of_word (xTb_good hm)⟩
theorem xpar {y : MethodName} {na : Nat} (h : (parseMethodDescriptor y.desc).map (fun d => d.parameters.length + 1) = some na) : (parseMethodDescriptor y.desc).map (fun d => d.parameters.length) = some (na - 1) := by
  cases hp : parseMethodDescriptor y.desc with
  | none => rw [hp] at h; cases h
  | some d =>
    rw [hp] at h
    have h2 : d.parameters.length + 1 = na := Option.some.inj h
    show some d.parameters.length = some (na - 1)
    rw [← h2]
    rfl
theorem xsplit {st : List Value} {na : Nat} (h : na ≤ st.length) : st = (st.take na).reverse.reverse ++ st.drop na ∧ (st.take na).reverse.length = na := ⟨by rw [List.reverse_reverse, List.take_append_drop], by simp; omega⟩
theorem xs1_len {own : Nat} {ins : Instr} {pc pc2 : Nat} {ls ls2 : xLs} {st st2 : List Value} (h : xs1 own ins pc ls st = some (pc2, ls2, st2)) : ls2.length = ls.length := by
  unfold xs1 at h
  split at h <;> (try simp only [xldI, xldL, xldA, xstI, xstL, xstA, xii, xll, xi, cond_eq_ite] at h) <;> (repeat' split at h) <;> (try cases h) <;> first | rfl | exact xst1_len _ _ _ | exact xst2_len _ _ _
section X3
variable {p : Program} {l : Launch} {e : Env} {R : Room} {s : State} {m : MethodId} {args : Array Value} {below : List Frame} {meth : Method} {c : Code} {H : Heap} {locs : List Loc} {cells slots : Nat} {Q : State → Prop} {cc : ByteArray} {pc : Nat} {la : Array Slot} {D : va_G} {ca : Nat → ClassId} {base : Nat} {own : Nat}
theorem xrunW {mc ms t : Nat} {r : Option Value} {h : xH} {st0 rest : List Value} {a : Array Value} (hr : va_Run p l e R s m args below meth c H locs cells slots mc ms (F0 m pc la st0) rest (xQc D ca base r h t a) (xA base)) (hS : va_S (xA base) s.heap H locs)
    (kk : ∀ (H1 : Heap) (locs1 : List Loc), xMem D ca base t h H1 → va_S (xA base) s.heap H1 locs1 → W p l e R s m args below meth c H1 locs1 (cells + mc) (slots + ms) Q (F0 m (pc + 3) la (r.toList ++ rest))) : W p l e R s m args below meth c H locs cells slots Q (F0 m pc la st0) := by
  intro T hT X
  obtain ⟨v, st₀, t1, T', L, h0, X', hL, e1, e2, ⟨hv, hm, hz, hk⟩, st⟩ := hr T hT X
  cases hv
  rw [h0] at hz hk
  obtain ⟨t2, a1, b1⟩ := kk T'.heap (locs ++ L) (by rw [e1]; exact hm) ⟨Nat.le_trans hS.1 (by rw [e1]; exact hz), fun q h1 h2 => by rw [e1, hk q (Nat.lt_of_lt_of_le h1 hS.1) h2]; exact hS.2.1 q h1 h2, fun q hq => by
      rcases List.mem_append.mp hq with h | h
      · exact hS.2.2 q h
      · exact hL q h⟩ T' rfl X'
  exact ⟨t2, st t2 a1, b1⟩
theorem xrecv0 {cj : Nat} {h : xH} {av : List Value} (hr : xrecv 0 cj h av = true) : ∃ b As fs, av = .ref b :: As ∧ h b = .inr (cj, fs) ∧ cj < 9 := by
  simp only [xrecv] at hr
  split at hr
  · rename_i b As
    split at hr
    · rename_i c2 fs he
      simp only [Bool.and_eq_true] at hr
      have h1 : c2 = cj := Nat.eq_of_beq_eq_true hr.1
      subst h1
      exact ⟨b, As, fs, rfl, he, xblt hr.2⟩
    · cases hr
  · cases hr
theorem xrecv3 {k cj : Nat} {h : xH} {av : List Value} (hk : k = 3 ∨ k = 4) (hr : xrecv k cj h av = true) : ∃ b As, av = .ref b :: As := by
  rcases hk with rfl | rfl <;> simp only [xrecv] at hr <;> split at hr <;> first | exact ⟨_, _, rfl⟩ | cases hr
/-- a call of an own method -/
theorem xcall_ok (hx : p.tables.exec = Jvm.exec) (hb : c.code = cc) (hml : c.maxLocals = la.size) (hown : s.vm.findClass (xR own) = some m.cls) (hts : ∀ w ∈ xTb, w.before args s = true) (hN : xNw s) (hK : va_K D xClasses (xtys ca) s) {call : xCall} (hcall : xOK l call) {ins : Instr} {ix k j na : Nat} (hk : k < 5) (hins : ins = if k = 0 then .invokevirtual ix else if k < 3 then .invokestatic ix else .invokespecial ix) (hd : decode cc pc = .ok (ins, 3)) (hsite : xsite own ix k j na)
    {I J : xI} (hJ : xtab[j]? = some J) {rt : Option FieldType} (hrt : xrt[j]? = some rt) (hR : R = xRoom I) {h h2 : xH} {t t2 : Nat} {r : Option Value} {st : List Value} (hna : na ≤ st.length) (hsum : xsum (st.drop na) ≤ 8) (hrec : xrecv k J.1 h (st.take na).reverse = true) (hroom : (J.2.2.2.1 + 1 ≤ I.2.2.2.1 ∧ 8 + (J.2.2.1 + 11) + J.2.2.2.2.1 ≤ I.2.2.2.2.1) ∧ (cells + J.2.2.2.2.2.1 ≤ I.2.2.2.2.2.1 ∧ slots + J.2.2.2.2.2.2.1 ≤ I.2.2.2.2.2.2.1))
    (hc : call j (st.take na).reverse h t = some (r, h2, t2)) (hM : xMem D ca base t h H) (hS : va_S (xA base) s.heap H locs)
    (kk : ∀ (H1 : Heap) (locs1 : List Loc), xMem D ca base t2 h2 H1 → va_S (xA base) s.heap H1 locs1 → W p l e R s m args below meth c H1 locs1 (cells + J.2.2.2.2.2.1) (slots + J.2.2.2.2.2.2.1) Q (F0 m (pc + 3) la (r.toList ++ st.drop na))) : W p l e R s m args below meth c H locs cells slots Q (F0 m pc la st) := by
  subst hR
  obtain ⟨⟨hcode, hcls, hpl, -⟩, -⟩ := xm_ok j J rt hJ hrt
  obtain ⟨hspl, hlen⟩ := xsplit hna
  have hMet := hcall j _ h t r h2 t2 hc J rt hJ hrt D ca base
  have hG := xgood hcode
  have hini : (Cond.initialized (xY j).cls).before args s = true := by rw [hcls]; exact hts _ hpl.2.2
  have hmh : (xY j).cls ≠ "java/lang/invoke/MethodHandle" ∧ (xY j).cls ≠ "java/lang/invoke/VarHandle" := by rw [hcls]; exact hpl.2.1
  have hPre : ∀ U : State, U.heap = H → s.WarmedH U.vm → xPc D ca base (st.take na).reverse h t (st.take na).reverse.toArray U := fun U hU hW => ⟨rfl, by rw [hU]; exact hM, va_K.moved hW.alike hK, hN.warm hW⟩
  have hfix : CallFix p m c cc la.size s args xTb (xR own) := ⟨hx, hb, hml, hown, hts⟩
  have hfr : J.2.2.2.1 + 1 ≤ (xRoom I).frames ∧ 8 + (J.2.2.1 + 11) + J.2.2.2.2.1 ≤ (xRoom I).locals := hroom.1
  have hcs : cells + J.2.2.2.2.2.1 ≤ (xRoom I).cells ∧ slots + J.2.2.2.2.2.2.1 ≤ (xRoom I).slots := hroom.2
  generalize hav : (st.take na).reverse = av at *
  generalize hre : st.drop na = rest at *
  subst hspl
  rcases (show k = 0 ∨ k = 1 ∨ k = 2 ∨ k = 3 ∨ k = 4 by omega) with rfl | rfl | rfl | rfl | rfl
  · obtain ⟨b, As, fs, rfl, he, hlt⟩ := xrecv0 hrec
    obtain ⟨h1, h2, h3, h4⟩ := hsite
    have hins : ins = .invokevirtual ix := hins
    subst hins
    obtain ⟨-, hat⟩ := hM.cell he (xbad_inr hlt)
    have hrv := va_recv hK hM.2.2.2 (xcls_at J.1 hlt) hat
    refine xrunW (va_runV (C := (xY j).cls) (As := As) (rest := rest) (b := b) (n := na - 1) hfix hMet ⟨callB_of (na - 1) hts hG rfl rfl rfl hini (hts _ h1) ⟨hmh.1, hmh.2, xpar h4⟩ hfr, hts _ h2, hts _ h3⟩ ⟨xPc_blind, by rw [hcls]; exact hrv, hPre⟩ rfl (by simp at hlen; omega) rfl (by simp) (lv_room hsum) hd hcs) hS kk
  · obtain ⟨h1, h2, h3⟩ := hsite
    have hins : ins = .invokestatic ix := hins
    subst hins
    refine xrunW (va_runS (As := av) (rest := rest) (n := na) hfix hMet ⟨callB_of na hts hG rfl rfl rfl hini (hts _ h1) ⟨hmh.1, hmh.2, h3⟩ hfr, hts _ h2⟩ ⟨xPc_blind, hPre⟩ rfl hlen rfl rfl (lv_room hsum) hd hcs) hS kk
  · obtain ⟨h1, h2, h3⟩ := hsite
    have hins : ins = .invokestatic ix := hins
    subst hins
    refine xrunW (va_runSN (As := av) (rest := rest) (n := na) hfix hMet ⟨va_cnB na hts hG rfl rfl rfl (hN.1 _ _ _ h1) hini ⟨hmh.1, hmh.2, h3⟩ hfr, hts _ h2, trivial⟩ ⟨xPc_blind, hPre⟩ rfl hlen rfl rfl (lv_room hsum) hd hcs) hS kk
  · obtain ⟨b, As, rfl⟩ := xrecv3 (Or.inl rfl) hrec
    obtain ⟨h1, h2, h3, h4, h5⟩ := hsite
    have hins : ins = .invokespecial ix := hins
    subst hins
    have hrn : rt = none := Option.some.inj (hrt.symm.trans h4)
    subst hrn
    refine xrunW (va_runI (As := As) (rest := rest) (b := b) (n := na - 1) hfix hMet ⟨callB_of (na - 1) hts hG rfl rfl rfl hini (hts _ h1) ⟨hmh.1, hmh.2, xpar h5⟩ hfr, h3, hts _ h2⟩ ⟨xPc_blind, hPre⟩ rfl (by simp at hlen; omega) rfl (by simp) (lv_room hsum) hd hcs) hS kk
  · obtain ⟨b, As, rfl⟩ := xrecv3 (Or.inr rfl) hrec
    obtain ⟨h1, h2, h3, h4, h5⟩ := hsite
    have hins : ins = .invokespecial ix := hins
    subst hins
    have hrn : rt = none := Option.some.inj (hrt.symm.trans h4)
    subst hrn
    refine xrunW (va_runIN (As := As) (rest := rest) (b := b) (n := na - 1) hfix hMet ⟨va_cnB (na - 1) hts hG rfl rfl rfl (hN.1 _ _ _ h1) hini ⟨hmh.1, hmh.2, xpar h5⟩ hfr, h3, hts _ h2⟩ ⟨xPc_blind, hPre⟩ rfl (by simp at hlen; omega) rfl (by simp) (lv_room hsum) hd hcs) hS kk
end X3
