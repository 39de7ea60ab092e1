/-! the pure machine's runs are the machine's runs: whole methods -/
section X4
variable {p : Program} {l : Launch} {e : Env} {R : Room} {s : State} {m : MethodId} {args : Array Value} {below : List Frame} {meth : Method} {c : Code} {H : Heap} {locs : List Loc} {cells slots : Nat} {Q : State → Prop} {cc : ByteArray} {pc : Nat} {la : Array Slot} {D : va_G} {ca : Nat → ClassId} {base : Nat} {own : Nat} {I : xI} {g g2 : xC} {ix : Nat}
theorem xdoO_ok (hx : p.tables.exec = Jvm.exec) (hb : c.code = cc) (hml : c.maxLocals = la.size) (hown : s.vm.findClass (xR own) = some m.cls) (hts : ∀ w ∈ xTb, w.before args s = true) (hR : R = xRoom I) (hd : decode cc g.1 = .ok (.invokespecial ix, 3)) (hsite : Cond.methodLink (xR own) ix objectInit ∈ xTb) (hs : xdoO I g = some g2)
    (kk : g2.2.2.2 = g.2.2.2 → g2.2.1 = g.2.1 → W p l e R s m args below meth c H locs cells slots Q (F0 m g2.1 la g2.2.2.1)) : W p l e R s m args below meth c H locs cells slots Q (F0 m g.1 la g.2.2.1) := by
  obtain ⟨pc, ls, st, rest⟩ := g
  subst hR
  simp only [xdoO] at hs
  split at hs
  · rename_i b r
    split at hs
    · rename_i hroom
      simp only [Bool.and_eq_true] at hroom
      cases hs
      have k := kk rfl rfl
      refine W.objInit (rest := r) (a := b) hx hb hown (hts _ hsite) (hts _ xobj.1) (hts _ xobj.2) rfl hml.symm rfl hd (xble hroom.1) ?_ k
      have h1 := xble hroom.2
      unfold xsum at h1
      show 2 * (F0 m pc la (Value.ref b :: r)).monitorRoom + _ + 12 ≤ I.2.2.2.2.1
      have h2 : (F0 m pc la (Value.ref b :: r)).monitorRoom = 0 := rfl
      rw [h2]
      omega
    · cases hs
  · cases hs
theorem xdoA_ok (hx : p.tables.exec = Jvm.exec) (hb : c.code = cc) (hml : c.maxLocals = la.size) (hown : s.vm.findClass (xR own) = some m.cls) (hts : ∀ w ∈ xTb, w.before args s = true) (hK : va_K D xClasses (xtys ca) s) (hR : R = xRoom I) (hd : decode cc g.1 = .ok (.invokestatic ix, 3)) (hsite : Cond.methodLink (xR own) ix arraycopyName ∈ xTb) (hM : xMem D ca base g.2.2.2.2.1 g.2.2.2.1 H) (hn : g.2.2.2.2.1 = s.heap.size + cells) (hS : va_S (xA base) s.heap H locs) (hs : xdoA I g = some g2)
    (kk : ∀ (H1 : Heap) (locs1 : List Loc), xMem D ca base g2.2.2.2.2.1 g2.2.2.2.1 H1 → va_S (xA base) s.heap H1 locs1 → g2.2.2.2.2 = g.2.2.2.2 → g2.2.1 = g.2.1 → W p l e R s m args below meth c H1 locs1 cells slots Q (F0 m g2.1 la g2.2.2.1)) : W p l e R s m args below meth c H locs cells slots Q (F0 m g.1 la g.2.2.1) := by
  obtain ⟨pc, ls, st, h, n⟩ := g
  subst hR
  simp only [xdoA] at hs
  split at hs
  · rename_i r h2 hc
    split at hs
    · rename_i hroom
      simp only [Bool.and_eq_true] at hroom
      cases hs
      simp only [xcopy] at hc
      have hw : xsum r + (nativeFrameWords "java/lang/System" "arraycopy" 5 + 11) ≤ (xRoom I).locals := xble hroom.2
      split at hc
      · split at hc
        · rename_i he
          split at hc
          · rename_i he2
            split at hc
            · rename_i hq
              simp only [Bool.and_eq_true, Bool.not_eq_true', decide_eq_false_iff_not] at hq
              obtain ⟨⟨⟨q1, q2⟩, q3⟩, q4, q5⟩ := hq
              cases hc
              obtain ⟨hr, hat⟩ := hM.cell he xbad_inl
              obtain ⟨hr2, hat2⟩ := hM.cell he2 xbad_inl
              exact va_copyi hx hb hml hown (hts _ hsite) (hts _ xacp.1) (hts _ xacp.2.1) (hts _ xacp.2.2) hK hM.2.2.2 xW_D hS _ _ 0 0 hat hat2 (xtys_at (by decide)) (xtys_at (by decide)) rfl q1 q2 q3 (xble q4) (xble q5) (fun _ _ => rfl) (xble hroom.1) hw hd (fun H1 locs1 hP1 hD1 hS1 => W.sz fun hz => kk H1 locs1 (hM.put (e := .inl (0, _, _)) hr2 hP1 (by omega)) hS1 rfl rfl)
            · cases hc
          · cases hc
        · rename_i he
          split at hc
          · rename_i he2
            split at hc
            · rename_i hq
              simp only [Bool.and_eq_true, Bool.not_eq_true', decide_eq_false_iff_not] at hq
              obtain ⟨⟨⟨q1, q2⟩, q3⟩, q4, q5⟩ := hq
              cases hc
              obtain ⟨hr, hat⟩ := hM.cell he xbad_inl
              obtain ⟨hr2, hat2⟩ := hM.cell he2 xbad_inl
              exact va_copyl hx hb hml hown (hts _ hsite) (hts _ xacp.1) (hts _ xacp.2.1) (hts _ xacp.2.2) hK hM.2.2.2 xW_D hS _ _ 1 1 hat hat2 (xtys_at (by decide)) (xtys_at (by decide)) rfl q1 q2 q3 (xble q4) (xble q5) (fun _ _ => rfl) (xble hroom.1) hw hd (fun H1 locs1 hP1 hD1 hS1 => W.sz fun hz => kk H1 locs1 (hM.put (e := .inl (1, _, _)) hr2 hP1 (by omega)) hS1 rfl rfl)
            · cases hc
          · cases hc
        · cases hc
      · cases hc
    · cases hs
  · cases hs
theorem xdoM_ok (hx : p.tables.exec = Jvm.exec) (hb : c.code = cc) (hml : c.maxLocals = la.size) (hown : s.vm.findClass (xR own) = some m.cls) (hts : ∀ w ∈ xTb, w.before args s = true) (hR : R = xRoom I) {k j na : Nat} (hk : k = 7 ∨ k = 8 ∨ k = 9) (hcl : cells ≤ R.cells) (hsl : slots ≤ R.slots) (hd : decode cc g.1 = .ok (.invokestatic ix, 3)) (hsite : xsite own ix k j na) (hs : xdoM I k g = some g2)
    (kk : g2.2.2.2 = g.2.2.2 → g2.2.1 = g.2.1 → W p l e R s m args below meth c H locs cells slots Q (F0 m g2.1 la g2.2.2.1)) : W p l e R s m args below meth c H locs cells slots Q (F0 m g.1 la g.2.2.1) := by
  obtain ⟨pc, ls, st, rest⟩ := g
  subst hR
  simp only [xdoM] at hs
  split at hs
  · rename_i v r hc
    split at hs
    · rename_i hroom
      simp only [Bool.and_eq_true] at hroom
      cases hs
      have k1 := kk rfl rfl
      have hw : (r.map fun v => v.category).sum + 13 ≤ (xRoom I).locals := xble hroom.2
      rcases hk with rfl | rfl | rfl
      · simp only [xmath] at hc
        split at hc
        · cases hc
          exact va_mabs hx hb hml hown (hts _ hsite) (hts _ xmath_absint.1) (hts _ xmathI) (hts _ xmath_absint.2) (xble hroom.1) hw hcl hsl hd k1
        · cases hc
      · simp only [xmath] at hc
        split at hc
        · cases hc
          exact va_mabs_long hx hb hml hown (hts _ hsite) (hts _ xmath_abslong.1) (hts _ xmathI) (hts _ xmath_abslong.2) (xble hroom.1) hw hcl hsl hd k1
        · cases hc
      · simp only [xmath] at hc
        split at hc
        · cases hc
          exact va_mmin hx hb hml hown (hts _ hsite) (hts _ xmath_minint.1) (hts _ xmathI) (hts _ xmath_minint.2) (xble hroom.1) hw hcl hsl hd k1
        · cases hc
    · cases hs
  · cases hs
/-- what stands at a configuration -/
def xSt (s : State) (D : va_G) (ca : Nat → ClassId) (base nL : Nat) (I : xI) (la : Array Slot) (H : Heap) (locs : List Loc) (g : xC) : Prop := lv_has la g.2.1.length (xlv g.2.1) ∧ g.2.1.length = nL ∧ xMem D ca base g.2.2.2.2.1 g.2.2.2.1 H ∧ g.2.2.2.2.1 = s.heap.size + g.2.2.2.2.2.1 ∧ (g.2.2.2.2.2.1 ≤ I.2.2.2.2.2.1 ∧ g.2.2.2.2.2.2 ≤ I.2.2.2.2.2.2.1) ∧ va_S (xA base) s.heap H locs
theorem xs2_room {own mc ms : Nat} {ini : Bool} {ins : Instr} {st st2 : List Value} {h h2 : xH} {n n2 : xN} (hs : xs2 own mc ms ini ins st h n = some (st2, h2, n2)) (hn : n.2.1 ≤ mc ∧ n.2.2 ≤ ms) : n2.2.1 ≤ mc ∧ n2.2.2 ≤ ms := by
  unfold xs2 at hs
  (repeat' split at hs) <;> (try cases hs) <;> (try exact hn)
  all_goals
    rename_i hroom _
    first
      | exact ⟨xblt (by simp_all), xble (by simp_all)⟩
theorem xdo_ok (hx : p.tables.exec = Jvm.exec) (hb : c.code = cc) (hml : c.maxLocals = la.size) (hown : s.vm.findClass (xR I.1) = some m.cls) (hts : ∀ w ∈ xTb, w.before args s = true) (hN : xNw s) (hK : va_K D xClasses (xtys ca) s) {call : xCall} (hcall : xOK l call) (hR : R = xRoom I) {nL k j na : Nat} {ins : Instr} (hd : decode cc g.1 = .ok (ins, 3)) (hi : xinv I.1 ins = some (k, j, na)) (X : xSt s D ca base nL I la H locs g) (hs : xdo call I k j na g = some g2)
    (kk : ∀ (H1 : Heap) (locs1 : List Loc), xSt s D ca base nL I la H1 locs1 g2 → W p l e R s m args below meth c H1 locs1 g2.2.2.2.2.2.1 g2.2.2.2.2.2.2 Q (F0 m g2.1 la g2.2.2.1)) : W p l e R s m args below meth c H locs g.2.2.2.2.2.1 g.2.2.2.2.2.2 Q (F0 m g.1 la g.2.2.1) := by
  obtain ⟨x1, x2, x3, x4, x5, x6⟩ := X
  have hC : ∀ {k j na ix : Nat}, k < 5 → xsite I.1 ix k j na → ins = (if k = 0 then .invokevirtual ix else if k < 3 then .invokestatic ix else .invokespecial ix) → xdoC call I k j na g = some g2 → W p l e R s m args below meth c H locs g.2.2.2.2.2.1 g.2.2.2.2.2.2 Q (F0 m g.1 la g.2.2.1) := by
    intro k j na ix hk hsite hins hs
    obtain ⟨pc, ls, st, h, t, cb, sb⟩ := g
    simp only [xdoC] at hs
    split at hs
    · rename_i J hJ
      split at hs
      · rename_i hq
        simp only [Bool.and_eq_true, xfit] at hq
        obtain ⟨⟨q1, q2⟩, q3, ⟨q4, q5⟩, q6, q7⟩ := hq
        split at hs
        · rename_i r h3 t3 hcl
          split at hs
          · rename_i ht
            cases hs
            have ht := of_decide_eq_true ht
            cases hrt : xrt[j]? with
            | none =>
              have h1 : xrt.length = xtab.length := by decide +kernel
              have h2 := (List.getElem?_eq_some_iff.mp hJ).1
              have h3 := List.getElem?_eq_none_iff.mp hrt
              omega
            | some rt =>
              refine xcall_ok hx hb hml hown hts hN hK hcall hk hins hd hsite hJ hrt hR (xble q1) (xble q2) q3 ⟨⟨xble q4, xble q5⟩, xble q6, xble q7⟩ hcl x3 x6 (fun H1 locs1 hM1 hS1 => kk H1 locs1 ⟨x1, x2, hM1, ?_, ⟨xble q6, xble q7⟩, hS1⟩)
              simp only at x4 ht ⊢
              omega
          · cases hs
        · cases hs
      · cases hs
    · cases hs
  cases ins with
  | invokevirtual ix =>
    simp only [xinv] at hi
    split at hi
    · rename_i q hq
      cases hi
      exact hC (k := 0) (j := j) (na := na) (ix := ix) (by decide) (xsi_ok I.1 _ (xas_mem hq)) rfl hs
    · cases hi
  | invokestatic ix =>
    simp only [xinv] at hi
    split at hi
    · rename_i q hq
      cases hi
      exact hC (k := 1) (j := j) (na := na) (ix := ix) (by decide) (xsi_ok I.1 _ (xas_mem hq)) rfl hs
    · rename_i q hq
      cases hi
      exact hC (k := 2) (j := j) (na := na) (ix := ix) (by decide) (xsi_ok I.1 _ (xas_mem hq)) rfl hs
    · rename_i q hq
      cases hi
      refine xdoA_ok hx hb hml hown hts hK hR hd (xsi_ok I.1 _ (xas_mem hq)) x3 x4 x6 hs (fun H1 locs1 hM1 hS1 e1 e2 => ?_)
      have k1 := kk H1 locs1 ⟨by rw [e2]; exact x1, by rw [e2]; exact x2, hM1, by rw [e1]; exact x4, by rw [e1]; exact x5, hS1⟩
      rw [e1] at k1
      exact k1
    · rename_i q hq
      cases hi
      refine xdoM_ok (k := 7) (j := j) (na := na) hx hb hml hown hts hR (by decide) (by rw [hR]; exact x5.1) (by rw [hR]; exact x5.2) hd (xsi_ok I.1 _ (xas_mem hq)) hs (fun e1 e2 => ?_)
      have k1 := kk H locs ⟨by rw [e2]; exact x1, by rw [e2]; exact x2, by rw [e1]; exact x3, by rw [e1]; exact x4, by rw [e1]; exact x5, x6⟩
      rw [e1] at k1
      exact k1
    · rename_i q hq
      cases hi
      refine xdoM_ok (k := 8) (j := j) (na := na) hx hb hml hown hts hR (by decide) (by rw [hR]; exact x5.1) (by rw [hR]; exact x5.2) hd (xsi_ok I.1 _ (xas_mem hq)) hs (fun e1 e2 => ?_)
      have k1 := kk H locs ⟨by rw [e2]; exact x1, by rw [e2]; exact x2, by rw [e1]; exact x3, by rw [e1]; exact x4, by rw [e1]; exact x5, x6⟩
      rw [e1] at k1
      exact k1
    · rename_i q hq
      cases hi
      refine xdoM_ok (k := 9) (j := j) (na := na) hx hb hml hown hts hR (by decide) (by rw [hR]; exact x5.1) (by rw [hR]; exact x5.2) hd (xsi_ok I.1 _ (xas_mem hq)) hs (fun e1 e2 => ?_)
      have k1 := kk H locs ⟨by rw [e2]; exact x1, by rw [e2]; exact x2, by rw [e1]; exact x3, by rw [e1]; exact x4, by rw [e1]; exact x5, x6⟩
      rw [e1] at k1
      exact k1
    · cases hi
  | invokespecial ix =>
    simp only [xinv] at hi
    split at hi
    · rename_i q hq
      cases hi
      exact hC (k := 3) (j := j) (na := na) (ix := ix) (by decide) (xsi_ok I.1 _ (xas_mem hq)) rfl hs
    · rename_i q hq
      cases hi
      exact hC (k := 4) (j := j) (na := na) (ix := ix) (by decide) (xsi_ok I.1 _ (xas_mem hq)) rfl hs
    · rename_i q hq
      cases hi
      refine xdoO_ok hx hb hml hown hts hR hd (xsi_ok I.1 _ (xas_mem hq)) hs (fun e1 e2 => ?_)
      have k1 := kk H locs ⟨by rw [e2]; exact x1, by rw [e2]; exact x2, by rw [e1]; exact x3, by rw [e1]; exact x4, by rw [e1]; exact x5, x6⟩
      rw [e1] at k1
      exact k1
    · cases hi
  | _ => simp [xinv] at hi
end X4
