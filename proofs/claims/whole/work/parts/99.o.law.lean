/-! THE CLAIM OUT OF ONE WALK OF THE LAW'S BODY. Your part is whole_start (and what it stands on); all else here is the same for every law, but numbers. -/
def R_law : String := "EvenErrorsLaw"
def lw_P (b : Addr) (xs : List Int32) (args : Array Value) (s : State) : Prop := args = #[.ref b] ∧ s.IntsAt b xs ∧ xs.length ≤ 3072 ∧ (Jvm.Cond.and given_1 narrow_1).before args s = true
def lw_Q (_ : Array Value) (s : State) (o : Outcome) (t : State) : Prop := o = .returned (some (.int 1)) ∧ Framed s o t [] 600000 7302250
def lw_Z (below : List Frame) (a : Array Value) (s : State) : State → Prop := fun t => ∃ o, t.status = .running ∧ Ended t below o ∧ lw_Q a s o t
/-- the law's own end, with 1 on the stack, nothing written that was there before, its room as the claim has it -/
theorem lw_ret {p : Program} {l : Launch} {e : Env} {s : State} {m : MethodId} {below : List Frame} {meth : Method} {c : Code} {b : Nat} (hx : p.tables.exec = Jvm.exec) (hb : c.code = code) (hr : meth.sig.returnType = ret) (hlocks : meth.locks = false) {pc : Nat} {H : Heap} {ls : Array Slot} (hdg : decode code pc = .ok (.ireturn, 1)) : W p l e room_1 s m #[Value.ref b] below meth c H [] 600000 7302250 (lw_Z below #[Value.ref b] s) (F0 m pc ls [.int 1]) := by
  intro T hT X
  obtain ⟨fs, hret, hrun, hended, hW, hframe⟩ := X.leave (v := some (.int 1)) (hlocks := hlocks) (fun h => by rw [hr] at h; cases h)
  have hmeth' : T.vm.method? m = some meth := X.method'
  refine ⟨T.setFrames fs, ?_, .returned (some (.int 1)), hrun, hended, rfl, ⟨_, rfl⟩, hW, hframe⟩
  jvm_step X.here [X.here.top, hx, hb, hdg, hmeth', hr, ret, narrow_b1]
  (try refine ⟨rfl, ?_⟩); (try refine ⟨rfl, ?_⟩)
  first | (intro acts; rw [hret _ acts rfl rfl rfl]) | rw [hret _ _ rfl rfl rfl]
  exact Steps.refl _
/-- what holds at the law's entry: the machine, the code, the tables' words (any of lw_tbl by 'hts w (by decide +kernel)'), the script of L ints xs at the cell b, what the Statement gives of the start (any of its parts by flat_of_before) -/
def lw_At (p : Program) (s : State) (m : MethodId) (meth : Method) (c : Code) (b L : Nat) (xs : Nat → Int32) : Prop :=
  p.tables.exec = Jvm.exec ∧ c.code = code ∧ meth.sig.returnType = ret ∧ c.maxLocals = 4 ∧ s.vm.findClass R_law = some m.cls ∧ (∀ w ∈ lw_tbl, w.before #[Value.ref b] s = true) ∧ va_X b L xs s s.heap ∧ b < s.heap.size ∧ meth.locks = false ∧ (Jvm.Cond.and given_1 narrow_1).before #[Value.ref b] s = true
/-! the law: its steps -/
def lwI : xI := (9, [], 4, 10, 392, 600000, 7302250, false)
def lwB (j ci : Nat) (rt : FieldType) : Bool := match xtab[j]?, xrt[j]? with
  | some J, some (some r) => (Nat.beq J.1 ci && decide (r = rt)) && ((Nat.beq J.2.2.2.2.2.1 0 && Nat.beq J.2.2.2.2.2.2.1 0) && xfit lwI J (0, 101, 2096))
  | _, _ => false
theorem lwB_of {j ci : Nat} {rt : FieldType} (h : lwB j ci rt = true) : ∃ J : xI, xtab[j]? = some J ∧ xrt[j]? = some (some rt) ∧ J.1 = ci ∧ J.2.2.2.2.2.1 = 0 ∧ J.2.2.2.2.2.2.1 = 0 ∧ xfit lwI J (0, 101, 2096) = true := by
  unfold lwB at h
  split at h
  · rename_i J r h1 h2
    simp only [Bool.and_eq_true] at h
    obtain ⟨⟨q1, q2⟩, ⟨q3, q4⟩, q5⟩ := h
    rw [of_decide_eq_true q2] at h2
    exact ⟨J, h1, h2, Nat.eq_of_beq_eq_true q1, Nat.eq_of_beq_eq_true q3, Nat.eq_of_beq_eq_true q4, q5⟩
  · cases h
/-- what holds all along the law -/
def LX (p : Program) (s : State) (m : MethodId) (meth : Method) (c : Code) (D : va_G) (ca : Nat → ClassId) (b L : Nat) (xs : Nat → Int32) : Prop := lw_At p s m meth c b L xs ∧ va_K D xClasses (xtys ca) s ∧ xNw s
/-- the law from a place of its body on -/
def WL (p : Program) (l : Launch) (e : Env) (s : State) (m : MethodId) (below : List Frame) (meth : Method) (c : Code) (D : va_G) (ca : Nat → ClassId) (b : Nat) (i : Int32) (pc : Nat) (st : List Value) (h : xH) : Prop :=
  ∀ (ls : Array Slot) (H : Heap) (locs : List Loc), lv_has ls 4 [(0, .ref b), (1, .ref (pA s.heap.size 0)), (2, .ref (pB s.heap.size 0)), (3, .int i)] → xMem D ca s.heap.size (s.heap.size + 101) h H → va_S (xA s.heap.size) s.heap H locs → W p l e room_1 s m #[Value.ref b] below meth c H locs 101 2096 (lw_Z below #[Value.ref b] s) (F0 m pc ls st)
/-- an int of the script, counted from where the law stands -/
def ar (xs : Nat → Int32) (i : Int32) (n : Int) : Int := (xs (i + Int32.ofInt n).toNatClampNeg).toInt
theorem toInt_z (x : Int32) : zInI x.toInt := ⟨Int32.le_toInt x, Int32.toInt_le x⟩
theorem toInt_zL (x : Int64) : zInL x.toInt := ⟨Int64.le_toInt x, Int64.toInt_le x⟩
theorem ar_z (xs : Nat → Int32) (i : Int32) (n : Int) : zInI (ar xs i n) := toInt_z _
section LAW
variable {p : Program} {l : Launch} {e : Env} {s : State} {m : MethodId} {below : List Frame} {meth : Method} {c : Code} {D : va_G} {ca : Nat → ClassId} {b L : Nat} {xs : Nat → Int32} {i : Int32} {h : xH} {pc : Nat} {st : List Value}
theorem nbA {s : State} {b : Nat} (h : b < s.heap.size) : ¬ xA s.heap.size b := Nat.not_le.mpr h
theorem WL.arg0 (C : LX p s m meth c D ca b L xs) {n : Int} (d1 : decode code pc = .ok (.aload_n 0, 1)) (d2 : decode code (pc + 1) = .ok (.iload_n 3, 1)) (d3 : decode code (pc + 1 + 1) = .ok (.iconst n, 1)) (d4 : decode code (pc + 1 + 1 + 1) = .ok (.iadd, 1)) (d5 : decode code (pc + 1 + 1 + 1 + 1) = .ok (.iaload, 1)) (hin : vp_in (i + Int32.ofInt n) L)
    (k : WL p l e s m below meth c D ca b i (pc + 1 + 1 + 1 + 1 + 1) (.int (xs (i + Int32.ofInt n).toNatClampNeg) :: st) h) : WL p l e s m below meth c D ca b i pc st h := by
  intro ls H locs hl hM hS
  obtain ⟨⟨hx, hb, hr, hml, hown, hts, hX, hbl, hlocks, hgv⟩, hK, hN⟩ := id C
  refine lv_aload_n hx hb d1 rfl (lv_at hl 0 rfl) ?_
  refine lv_iload_n hx hb d2 rfl (lv_at hl 3 rfl) ?_
  refine lv_iconst hx hb d3 rfl ?_
  refine lv_iadd hx hb d4 ?_
  exact va_sld hx hb hX hbl (nbA hbl) hS hin d5 (k ls H locs hl hM hS)
theorem WL.arg (C : LX p s m meth c D ca b L xs) {n : Int} (d1 : decode code pc = .ok (.aload_n 0, 1)) (d2 : decode code (pc + 1) = .ok (.iload_n 3, 1)) (d3 : decode code (pc + 1 + 1) = .ok (.iconst n, 1)) (d4 : decode code (pc + 1 + 1 + 1) = .ok (.iadd, 1)) (d5 : decode code (pc + 1 + 1 + 1 + 1) = .ok (.iaload, 1)) (hin : vp_in (i + Int32.ofInt n) L)
    (k : WL p l e s m below meth c D ca b i (pc + 1 + 1 + 1 + 1 + 1) (zc (zi (ar xs i n)) :: st) h) : WL p l e s m below meth c D ca b i pc st h := by
  refine WL.arg0 C d1 d2 d3 d4 d5 hin ?_
  have e1 : zc (zi (ar xs i n)) = .int (xs (i + Int32.ofInt n).toNatClampNeg) := congrArg Value.int (zI_of _)
  rw [← e1]
  exact k
theorem WL.self (C : LX p s m meth c D ca b L xs) (d1 : decode code pc = .ok (.aload_n 1, 1)) (k : WL p l e s m below meth c D ca b i (pc + 1) (.ref (pA s.heap.size 0) :: st) h) : WL p l e s m below meth c D ca b i pc st h := by
  intro ls H locs hl hM hS
  obtain ⟨⟨hx, hb, hr, hml, hown, hts, hX, hbl, hlocks, hgv⟩, hK, hN⟩ := id C
  exact lv_aload_n hx hb d1 rfl (lv_at hl 1 rfl) (k ls H locs hl hM hS)
theorem WL.model (C : LX p s m meth c D ca b L xs) (d1 : decode code pc = .ok (.aload_n 2, 1)) (k : WL p l e s m below meth c D ca b i (pc + 1) (.ref (pB s.heap.size 0) :: st) h) : WL p l e s m below meth c D ca b i pc st h := by
  intro ls H locs hl hM hS
  obtain ⟨⟨hx, hb, hr, hml, hown, hts, hX, hbl, hlocks, hgv⟩, hK, hN⟩ := id C
  exact lv_aload_n hx hb d1 rfl (lv_at hl 2 rfl) (k ls H locs hl hM hS)
theorem WL.call (C : LX p s m meth c D ca b L xs) {ix j ci na a : Nat} {rt : FieldType} {as : List zV} {rest : List Value} {fs : List Value} {Q : Option zV → xH → Prop} {P : Option Value → Prop} (d : decode code pc = .ok (.invokevirtual ix, 3)) (hsite : xsite 9 ix 0 j na) (hB : lwB j ci rt = true) (h9 : Nat.blt ci 9 = true) (hna : as.length + 1 = na) (ha : h a = .inr (ci, fs)) (hsum : xsum rest ≤ 8) (hP : ∀ (ins : Instr) (st : List Value) (v : Option Value), xret (some rt) ins st = some v → P v)
    (k : zEv j (za a :: as) h Q) (kk : ∀ v h2, Q v h2 → P (v.map zc) → WL p l e s m below meth c D ca b i (pc + 3) ((v.map zc).toList ++ rest) h2) : WL p l e s m below meth c D ca b i pc (((za a :: as).map zc).reverse ++ rest) h := by
  intro ls H locs hl hM hS
  obtain ⟨⟨hx, hb, hr, hml, hown, hts, hX, hbl, hlocks, hgv⟩, hK, hN⟩ := id C
  obtain ⟨J, hJ, hrt, rfl, hJc, hJs, hfit⟩ := lwB_of hB
  obtain ⟨d2, r, h2, hs, v, hv, hq⟩ := k (s.heap.size + 101)
  have hPr : P r := sem_ty hrt hP hs
  subst hv
  have hlen : (((za a :: as).map zc).reverse).length = na := by simp [hna]
  have ht : ((((za a :: as).map zc).reverse ++ rest).take na).reverse = (za a :: as).map zc := by
    rw [List.take_left' hlen, List.reverse_reverse]
  have hdr : (((za a :: as).map zc).reverse ++ rest).drop na = rest := List.drop_left' hlen
  have hf : ((J.2.2.2.1 + 1 ≤ lwI.2.2.2.1 ∧ 8 + (J.2.2.1 + 11) + J.2.2.2.2.1 ≤ lwI.2.2.2.2.1) ∧ (101 + J.2.2.2.2.2.1 ≤ lwI.2.2.2.2.2.1 ∧ 2096 + J.2.2.2.2.2.2.1 ≤ lwI.2.2.2.2.2.2.1)) := by
    unfold xfit at hfit
    simp only [Bool.and_eq_true] at hfit
    exact ⟨⟨xble hfit.1.1, xble hfit.1.2⟩, xble hfit.2.1, xble hfit.2.2⟩
  refine xcall_ok (own := 9) (k := 0) (j := j) (na := na) (I := lwI) (call := xsem d2) (h := h) (h2 := h2) (t := s.heap.size + 101) (t2 := s.heap.size + 101) (r := v.map zc) hx hb (by rw [hml, hl.1]) hown (xTb_of hts) hN hK (xsem_ok l d2) (by decide) rfl d hsite hJ hrt rfl ?_ ?_ ?_ hf ?_ hM hS ?_
  · rw [List.length_append, hlen]
    omega
  · rw [hdr]
    exact hsum
  · rw [ht]
    show xrecv 0 J.1 h (.ref a :: as.map zc) = true
    simp only [xrecv, ha, Bool.and_eq_true]
    exact ⟨Nat.beq_refl _, h9⟩
  · rw [ht]
    exact hs
  · intro H1 locs1 hM1 hS1
    rw [hdr, hJc, hJs]
    exact kk v h2 hq hPr ls H1 locs1 hl hM1 hS1
end LAW
