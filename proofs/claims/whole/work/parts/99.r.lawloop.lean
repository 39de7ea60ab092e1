/-! the law: its loop, its beginning -/
theorem lw_end {p : Program} {l : Launch} {e : Env} {s : State} {m : MethodId} {below : List Frame} {meth : Method} {c : Code} {b L : Nat} {xs : Nat → Int32} {H : Heap} {locs : List Loc} {ls : Array Slot} (C0 : lw_At p s m meth c b L xs) (hS : va_S (xA s.heap.size) s.heap H locs) : W p l e room_1 s m #[Value.ref b] below meth c H locs 101 2096 (lw_Z below #[Value.ref b] s) (F0 m 1010 ls []) := by
  obtain ⟨hx, hb, hret, hml, hown, hts, hX, hbl, hlocks, hgv⟩ := C0
  refine lv_iconst (v := 1) hx hb d_law_1010 (by decide) ?_
  refine va_forget (fun q hq => hS.2.2 q hq) ?_
  refine W.widen (k := 600000) (n := 7302250) (Nat.le_of_ble_eq_true rfl) (Nat.le_of_ble_eq_true rfl) ?_
  exact lw_ret hx hb hret hlocks d_law_1011
theorem ofNat_z (n : Nat) : Int32.ofNat n = zI (n : Int) := by
  show Int32.ofNat n = Int32.ofInt n
  rw [Int32.ofInt_eq_ofNat]
set_option maxRecDepth 100000 in
/-- the law's loop: at its head both hold the same -/
theorem law_loop {p : Program} {l : Launch} {e : Env} {s : State} {m : MethodId} {below : List Frame} {meth : Method} {c : Code} {D : va_G} {ca : Nat → ClassId} {b L : Nat} {xs : Nat → Int32} (hL : L ≤ 3072) (C : LX p s m meth c D ca b L xs) : ∀ (n : Nat) (z : Int) (h : xH), 0 ≤ z → (L : Int) + 1 ≤ z + (n : Int) → z ≤ (L : Int) → ST h (pA s.heap.size) (pB s.heap.size) → WL p l e s m below meth c D ca b (zI z) 18 [] h := by
  intro n
  induction n with
  | zero =>
    intro z h h0 h1 h2
    exact absurd h1 (by omega)
  | succ n ih =>
    intro z h h0 h1 h2 hST ls H locs hl hM hS
    obtain ⟨⟨hx, hb, hret, hml, hown, hts, hX, hbl, hlocks, hgv⟩, hK, hN⟩ := id C
    refine lv_iload_n hx hb d_law_18 rfl (lv_at hl 3 rfl) ?_
    refine lv_aload_n hx hb d_law_19 rfl (lv_at hl 0 rfl) ?_
    refine va_slen hx hb hX hbl (nbA hbl) hS d_law_20 ?_
    refine lv_bipush (v := 6) hx hb d_law_21 rfl ?_
    refine lv_isub hx hb d_law_23 ?_
    refine lv_icmp_gt (tgt := 1010) hx hb d_law_24 (by decide) (fun _ => lw_end C.1 hS) (fun q => ?_)
    have e1 : Int32.ofNat L - 6 = zI ((L : Int) - 6) := by
      rw [ofNat_z]
      exact zI_sub _ 6
    have hz : z + 6 ≤ (L : Int) := by
      rw [e1, zI_lt ⟨by omega, by omega⟩ ⟨by omega, by omega⟩] at q
      omega
    have hin : ∀ k : Int, 1 ≤ k → k ≤ 5 → vp_in (zI z + Int32.ofInt k) L := fun k k1 k2 => by
      rw [show zI z + Int32.ofInt k = zI (z + k) from zI_add z k]
      exact zI_in (by omega) (by omega) (by omega)
    have hin0 : vp_in (zI z) L := zI_in (by omega) (by omega) (by omega)
    have k : ∀ h3, ST h3 (pA s.heap.size) (pB s.heap.size) → WL p l e s m below meth c D ca b (zI z) 1004 [] h3 := by
      intro h3 hS3 ls H locs hl hM hS
      refine lv_iinc (v := zI (z + 6)) (lv' := [(3, .int (zI (z + 6))), (0, .ref b), (1, .ref (pA s.heap.size 0)), (2, .ref (pB s.heap.size 0))]) hx hb d_law_1004 hl (k := 3) rfl (zI_add z 6) (by decide) rfl (fun ls hl => ?_)
      refine lv_goto (tgt := 18) hx hb d_law_1007 (by decide) ?_
      exact ih (z + 6) h3 (by omega) (by omega) hz hS3 ls H locs (lv_sub hl [1, 2, 3, 0] rfl) hM hS
    refine lv_aload_n hx hb d_law_27 rfl (lv_at hl 0 rfl) ?_
    refine lv_iload_n hx hb d_law_28 rfl (lv_at hl 3 rfl) ?_
    refine va_sld hx hb hX hbl (nbA hbl) hS hin0 d_law_29 ?_
    refine lv_bipush (v := 31) hx hb d_law_30 rfl ?_
    refine lv_iand hx hb d_law_32 ?_
    generalize xs (zI z).toNatClampNeg &&& 31 = x
    by_cases ho : x.toInt < 0 ∨ 26 < x.toInt
    · exact lv_tableOut (tgt := 1004) hx hb d_law_33 ho (by decide) (k h hST ls H locs hl hM hS)
    · have h3 : ¬ x.toInt < 0 := fun q => ho (Or.inl q)
      have h4 : ¬ 26 < x.toInt := fun q => ho (Or.inr q)
      have go : ∀ (j : Nat) (off : Int) (tgt : Nat), x.toInt = (j : Int) → (#[123, 156, 179, 202, 225, 258, 291, 314, 337, 350, 374, 408, 442, 476, 510, 544, 578, 601, 614, 637, 650, 663, 716, 759, 802, 825, 908] : Array Int)[j]? = some off → ((33 : Nat) : Int) + off = (tgt : Int) → WL p l e s m below meth c D ca b (zI z) tgt [] h → W p l e room_1 s m #[Value.ref b] below meth c H locs 101 2096 (lw_Z below #[Value.ref b] s) (F0 m 33 ls [.int x]) := fun j off tgt hj ho ht kk => lv_tableIn (off := off) (tgt := tgt) hx hb d_law_33 h3 h4 (by rw [hj, Int.sub_zero, Int.toNat_natCast]; exact ho) ht (kk ls H locs hl hM hS)
      have hx27 : ∃ j : Nat, j < 27 ∧ x.toInt = (j : Int) := ⟨x.toInt.toNat, by omega, by omega⟩
      obtain ⟨j, hj, ej⟩ := hx27
      rcases (show j = 0 ∨ j = 1 ∨ j = 2 ∨ j = 3 ∨ j = 4 ∨ j = 5 ∨ j = 6 ∨ j = 7 ∨ j = 8 ∨ j = 9 ∨ j = 10 ∨ j = 11 ∨ j = 12 ∨ j = 13 ∨ j = 14 ∨ j = 15 ∨ j = 16 ∨ j = 17 ∨ j = 18 ∨ j = 19 ∨ j = 20 ∨ j = 21 ∨ j = 22 ∨ j = 23 ∨ j = 24 ∨ j = 25 ∨ j = 26 by omega) with rfl | rfl | rfl | rfl | rfl | rfl | rfl | rfl | rfl | rfl | rfl | rfl | rfl | rfl | rfl | rfl | rfl | rfl | rfl | rfl | rfl | rfl | rfl | rfl | rfl | rfl | rfl
      · exact go 0 123 156 ej rfl (by decide) (law_point C hin hST k)
      · exact go 1 156 189 ej rfl (by decide) (law_out C hin hST k)
      · exact go 2 179 212 ej rfl (by decide) (law_fix C hin hST k)
      · exact go 3 202 235 ej rfl (by decide) (law_degree C hin hST k)
      · exact go 4 225 258 ej rfl (by decide) (law_under C hin hST k)
      · exact go 5 258 291 ej rfl (by decide) (law_told C hin hST k)
      · exact go 6 291 324 ej rfl (by decide) (law_count C hin hST k)
      · exact go 7 314 347 ej rfl (by decide) (law_type C hin hST k)
      · exact go 8 337 370 ej rfl (by decide) (law_read C hin hST k)
      · exact go 9 350 383 ej rfl (by decide) (law_best C hin hST k)
      · exact go 10 374 407 ej rfl (by decide) (law_part C hin hST k)
      · exact go 11 408 441 ej rfl (by decide) (law_value C hin hST k)
      · exact go 12 442 475 ej rfl (by decide) (law_error C hin hST k)
      · exact go 13 476 509 ej rfl (by decide) (law_step C hin hST k)
      · exact go 14 510 543 ej rfl (by decide) (law_level C hin hST k)
      · exact go 15 544 577 ej rfl (by decide) (law_lost C hin hST k)
      · exact go 16 578 611 ej rfl (by decide) (law_drift C hin hST k)
      · exact go 17 601 634 ej rfl (by decide) (law_undo C hin hST k)
      · exact go 18 614 647 ej rfl (by decide) (law_seed C hin hST k)
      · exact go 19 637 670 ej rfl (by decide) (law_image C hin hST k)
      · exact go 20 650 683 ej rfl (by decide) (law_restore C hin hST k)
      · exact go 21 663 696 ej rfl (by decide) (law_degrees C hin hST k)
      · exact go 22 716 749 ej rfl (by decide) (law_film C hin hST k)
      · exact go 23 759 792 ej rfl (by decide) (law_sheet C hin hST k)
      · exact go 24 802 835 ej rfl (by decide) (law_drop C hin hST k)
      · exact go 25 825 858 ej rfl (by decide) (law_item C hin hST k)
      · exact go 26 908 941 ej rfl (by decide) (law_copy C hin hST k)
