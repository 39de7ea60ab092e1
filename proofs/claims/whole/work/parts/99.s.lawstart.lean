/-! the law, from its entry -/
theorem law_make {p : Program} {l : Launch} {e : Env} {s : State} {m : MethodId} {below : List Frame} {meth : Method} {c : Code} {D : va_G} {ca : Nat → ClassId} {b L : Nat} {xs : Nat → Int32} (C : LX p s m meth c D ca b L xs) {Q : State → Prop} {pc ix ix2 ci j top top2 cells slots : Nat} {ls : Array Slot} {h h2 : xH} {H : Heap} {locs : List Loc} {J : xI} (hl : ls.size = 4) (d1 : decode code pc = .ok (.new ix, 3)) (d2 : decode code (pc + 3) = .ok (.dup, 1)) (d3 : decode code (pc + 4) = .ok (.invokespecial ix2, 3)) (hk : Cond.classLink (xR 9) ix (xR ci) ∈ xTb) (h9 : ci < 9) (hs : xsite 9 ix2 3 j 1) (hJ : xtab[j]? = some J) (hrt : xrt[j]? = some none) (hroom : ((J.2.2.2.1 + 1 ≤ lwI.2.2.2.1 ∧ 8 + (J.2.2.1 + 11) + J.2.2.2.2.1 ≤ lwI.2.2.2.2.1) ∧ (cells + 1 + J.2.2.2.2.2.1 ≤ lwI.2.2.2.2.2.1 ∧ slots + xFn ci + J.2.2.2.2.2.2.1 ≤ lwI.2.2.2.2.2.2.1))) (hrun : xsem 300 j [.ref top] (va_up h top (oN ci)) (top + 1) = some (none, h2, top2)) (hM : xMem D ca s.heap.size top h H) (ht : top = s.heap.size + cells) (hS : va_S (xA s.heap.size) s.heap H locs)
    (kk : ∀ (H1 : Heap) (locs1 : List Loc), xMem D ca s.heap.size top2 h2 H1 → va_S (xA s.heap.size) s.heap H1 locs1 → W p l e room_1 s m #[Value.ref b] below meth c H1 locs1 (cells + 1 + J.2.2.2.2.2.1) (slots + xFn ci + J.2.2.2.2.2.2.1) Q (F0 m (pc + 7) ls [.ref top])) : W p l e room_1 s m #[Value.ref b] below meth c H locs cells slots Q (F0 m pc ls []) := by
  obtain ⟨⟨hx, hb, hret, hml, hown, hts0, hX, hbl, hlocks, hgv⟩, hK, hN⟩ := id C
  have hts := xTb_of hts0
  refine va_new (fs := (List.range (xFn ci)).map fun k => xdef (xFt ci k)) hx hb hts (xws_ok ci h9) (xFt ci) (xparse ci h9) hown (hts _ hk) (hts _ (xin_ok ci h9).1) (hts _ (xin_ok ci h9).2) hK hM.2.2.2 xW_D hS (fun q h => h) (xcls_at ci h9) (fun j hj => ?_) ?_ ?_ d1 (fun q H1 hP1 hD1 hS1 => W.sz fun hz => ?_)
  · rw [xdefault ci h9 j hj, vp_V, List.getD_eq_getElem?_getD, List.getElem?_map, List.getElem?_range hj]
    rfl
  · have h1 := hroom.2.1
    show cells + 1 ≤ 600000
    have h2 : lwI.2.2.2.2.2.1 = 600000 := rfl
    omega
  · have h1 := hroom.2.2
    show slots + xFn ci ≤ 7302250
    have h2 : lwI.2.2.2.2.2.2.1 = 7302250 := rfl
    omega
  · obtain ⟨e1, hM1⟩ := hM.push (e := oN ci) hP1 hD1 (by have hz2 : H1.size ≤ s.heap.size + (cells + 1) := hz; omega)
    subst e1
    refine lv_dup hx hb d2 rfl ?_
    refine xcall_ok (own := 9) (k := 3) (j := j) (na := 1) (I := lwI) (call := xsem 300) (h := va_up h q (oN ci)) (h2 := h2) (t := q + 1) (t2 := top2) (r := none) (st := [.ref q, .ref q]) hx hb (by rw [hml, hl]) hown hts hN hK (xsem_ok l 300) (by decide) rfl d3 hs hJ hrt rfl (Nat.le_of_ble_eq_true rfl) (Nat.le_of_ble_eq_true rfl) rfl hroom hrun hM1 hS1 ?_
    intro H2 locs2 hM2 hS2
    exact kk H2 locs2 hM2 hS2
theorem xMem_0 {D : va_G} {ca : Nat → ClassId} {H : Heap} : xMem D ca H.size H.size (fun _ => xbad) H := ⟨rfl, Nat.le_refl _, fun _ _ => rfl, fun k q hq => by
  rw [xW_get, if_neg (by omega)] at hq
  cases hq⟩
/-- the law, from its entry: it comes to its end with true -/
theorem whole_start {p : Program} {e : Env} {s : State} {m : MethodId} {below : List Frame} {meth : Method} {c : Code} (l : Launch) (hflags : l.flags = flags0) {b L : Nat} {xs : Nat → Int32} (hL : L ≤ 3072) (C0 : lw_At p s m meth c b L xs) : W p l e room_1 s m #[Value.ref b] below meth c s.heap [] 0 0 (lw_Z below #[Value.ref b] s) (entryFrame m ([Value.ref b] : List Value).toArray 4) := by
  obtain ⟨hx, hb, hret, hml, hown, hts, hX, hbl, hlocks, hgv⟩ := id C0
  obtain ⟨D, ca, hK, hN⟩ := kn_start hts
  have C : LX p s m meth c D ca b L xs := ⟨C0, hK, hN⟩
  have hl := lv_entry ([.ref b]) (n := 4) (Nat.le_of_ble_eq_true rfl)
  rw [lg_entry_eq]
  generalize (lg_sl ([.ref b]) ++ List.replicate (4 - (lg_sl ([.ref b])).length) Slot.unset).toArray = ls at hl ⊢
  have hl : lv_has ls 4 [(0, .ref b)] := hl
  obtain ⟨g7, hr7, hs7⟩ := init7 s.heap.size
  obtain ⟨g8, hr8, hs8⟩ := init8 s.heap.size
  refine law_make C (J := (7, xI_X7_init, 2, 3, 61, 80, 1252, true)) (top2 := s.heap.size + 81) hl.1 d_law_0 d_law_3 d_law_4 xk9_7 (by decide) xs9_9 rfl rfl ⟨⟨Nat.le_of_ble_eq_true rfl, Nat.le_of_ble_eq_true rfl⟩, Nat.le_of_ble_eq_true rfl, Nat.le_of_ble_eq_true rfl⟩ hr7 xMem_0 rfl va_S.rf (fun H1 locs1 hM1 hS1 => ?_)
  have hM1 := xMem_S hM1 hs7 (fun a ha => h7_out ha)
  refine lv_astore_n (lv' := [(1, .ref s.heap.size), (0, .ref b)]) hx hb d_law_7 rfl hl (by decide) rfl (fun ls hl => ?_)
  refine law_make C (J := (8, xI_X8_init, 1, 1, 20, 19, 792, true)) (top2 := s.heap.size + 101) hl.1 d_law_8 d_law_11 d_law_12 xk9_10 (by decide) xs9_12 rfl rfl ⟨⟨Nat.le_of_ble_eq_true rfl, Nat.le_of_ble_eq_true rfl⟩, Nat.le_of_ble_eq_true rfl, Nat.le_of_ble_eq_true rfl⟩ hr8 hM1 rfl hS1 (fun H2 locs2 hM2 hS2 => ?_)
  have hM2 := xMem_S hM2 hs8 (fun a ha => h8_out ha)
  refine lv_astore_n (lv' := [(2, .ref (s.heap.size + 81)), (1, .ref s.heap.size), (0, .ref b)]) hx hb d_law_15 rfl hl (by decide) rfl (fun ls hl => ?_)
  refine lv_iconst (v := 0) hx hb d_law_16 (by decide) ?_
  refine lv_istore_n (lv' := [(3, .int 0), (2, .ref (s.heap.size + 81)), (1, .ref s.heap.size), (0, .ref b)]) hx hb d_law_17 rfl hl (by decide) rfl (fun ls hl => ?_)
  have k := law_loop (l := l) (e := e) (below := below) hL C (L + 1) 0 (h8 s.heap.size) (Int.le_refl 0) (by omega) (by omega) (st_made _)
  have hA : pA s.heap.size 0 = s.heap.size := Nat.zero_add _
  have hB : pB s.heap.size 0 = s.heap.size + 81 := Nat.zero_add _
  refine k ls H2 locs2 ?_ hM2 hS2
  rw [hA, hB]
  exact lv_sub hl [3, 2, 1, 0] rfl
