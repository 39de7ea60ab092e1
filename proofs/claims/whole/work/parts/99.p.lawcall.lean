/-! the law: a call of both, compared -/
theorem ST_r7 {h : xH} {A B : Nat → Nat} (hS : ST h A B) : ∃ fs, h (A 0) = .inr (7, fs) := by
  obtain ⟨kt, n, s, k, H, kn, s2, k2, H2, l, T, he, la, sz, it, m, r, hW, -, -⟩ := hS
  exact ⟨_, hW.2.1⟩
theorem ST_r8 {h : xH} {A B : Nat → Nat} (hS : ST h A B) : ∃ fs, h (B 0) = .inr (8, fs) := by
  obtain ⟨kt, n, s, k, H, kn, s2, k2, H2, l, T, he, la, sz, it, m, r, -, hL, -⟩ := hS
  exact ⟨_, hL _ List.mem_cons_self⟩
def iw (xs : Nat → Int32) (i : Int32) : Int := (((xs (i + Int32.ofInt 4).toNatClampNeg).toInt64 <<< ((Int8.ofInt 32).toInt32.toInt64 &&& 63)) ||| ((xs (i + Int32.ofInt 5).toNatClampNeg).toInt64 &&& Int64.ofInt 4294967295)).toInt
section LAW
variable {p : Program} {l : Launch} {e : Env} {s : State} {m : MethodId} {below : List Frame} {meth : Method} {c : Code} {D : va_G} {ca : Nat → ClassId} {b L : Nat} {xs : Nat → Int32} {i : Int32} {h : xH} {pc : Nat} {st : List Value}
theorem st_app (a : Nat) (as : List zV) (rest : List Value) : ((za a :: as).map zc).reverse ++ rest = (as.map zc).reverse ++ (.ref a :: rest) := by
  rw [List.map_cons, List.reverse_cons, List.append_assoc]
  rfl
theorem WL.item (C : LX p s m meth c D ca b L xs) (d1 : decode code pc = .ok (.aload_n 0, 1)) (d2 : decode code (pc + 1) = .ok (.iload_n 3, 1)) (d3 : decode code (pc + 1 + 1) = .ok (.iconst 4, 1)) (d4 : decode code (pc + 1 + 1 + 1) = .ok (.iadd, 1)) (d5 : decode code (pc + 1 + 1 + 1 + 1) = .ok (.iaload, 1)) (hin : vp_in (i + Int32.ofInt 4) L) {q : Nat} (hq : q = pc + 1 + 1 + 1 + 1 + 1)
    (d6 : decode code q = .ok (.i2l, 1)) (d7 : decode code (q + 1) = .ok (.bipush 32, 2)) (d8 : decode code (q + 3) = .ok (.lshl, 1)) {r : Nat} (hr : r = q + 4) (f1 : decode code r = .ok (.aload_n 0, 1)) (f2 : decode code (r + 1) = .ok (.iload_n 3, 1)) (f3 : decode code (r + 1 + 1) = .ok (.iconst 5, 1)) (f4 : decode code (r + 1 + 1 + 1) = .ok (.iadd, 1)) (f5 : decode code (r + 1 + 1 + 1 + 1) = .ok (.iaload, 1)) (hin5 : vp_in (i + Int32.ofInt 5) L)
    {v : Nat} (hv : v = r + 1 + 1 + 1 + 1 + 1) (f6 : decode code v = .ok (.i2l, 1)) (f7 : decode code (v + 1) = .ok (.ldc2_w 120, 3)) (f8 : decode code (v + 4) = .ok (.land, 1)) (f9 : decode code (v + 5) = .ok (.lor, 1)) {w : Nat} (hw : w = v + 6)
    (k : WL p l e s m below meth c D ca b i w (zc (zj (iw xs i)) :: st) h) : WL p l e s m below meth c D ca b i pc st h := by
  refine WL.arg0 C d1 d2 d3 d4 d5 hin ?_
  rw [← hq]
  intro ls H locs hl hM hS
  obtain ⟨⟨hx, hb, hret, hml, hown, hts, hX, hbl, hlocks, hgv⟩, hK, hN⟩ := id C
  refine lv_i2l hx hb d6 rfl ?_
  refine lv_bipush hx hb d7 rfl ?_
  refine lv_lshl hx hb d8 rfl ?_
  rw [show q + 1 + 2 + 1 = r by omega]
  refine WL.arg0 (p := p) (l := l) (e := e) (below := below) C f1 f2 f3 f4 f5 hin5 ?_ ls H locs hl hM hS
  rw [← hv]
  intro ls H locs hl hM hS
  refine lv_i2l hx hb f6 rfl ?_
  refine lv_ldc2 (own := xR 9) (v := Int64.ofInt 4294967295) hx hb hown (xTb_of hts _ (xcl_ok 9 (120, 4294967295) List.mem_cons_self)) f7 ?_
  rw [show v + 1 + 3 = v + 4 by omega]
  refine lv_land hx hb f8 ?_
  refine lv_lor hx hb f9 ?_
  rw [show v + 4 + 1 + 1 = w by omega]
  have e1 : zc (zj (iw xs i)) = .long (((xs (i + Int32.ofInt 4).toNatClampNeg).toInt64 <<< ((Int8.ofInt 32).toInt32.toInt64 &&& 63)) ||| ((xs (i + Int32.ofInt 5).toNatClampNeg).toInt64 &&& Int64.ofInt 4294967295)) := congrArg Value.long (zJ_of _)
  rw [← e1]
  exact k ls H locs hl hM hS
theorem WL.caseI (C : LX p s m meth c D ca b L xs) {pc1 pc2 ix7 j7 ix8 j8 na : Nat} {as : List zV} {off : Int} (hna : as.length + 1 = na) (d0 : decode code pc = .ok (.aload_n 1, 1)) (P1 : ∀ st h, WL p l e s m below meth c D ca b i pc1 ((as.map zc).reverse ++ st) h → WL p l e s m below meth c D ca b i (pc + 1) st h) (d1 : decode code pc1 = .ok (.invokevirtual ix7, 3)) (s1 : xsite 9 ix7 0 j7 na) (c1 : lwB j7 7 .int = true) (d2 : decode code (pc1 + 3) = .ok (.aload_n 2, 1)) (P2 : ∀ st h, WL p l e s m below meth c D ca b i pc2 ((as.map zc).reverse ++ st) h → WL p l e s m below meth c D ca b i (pc1 + 3 + 1) st h) (d3 : decode code pc2 = .ok (.invokevirtual ix8, 3)) (s2 : xsite 9 ix8 0 j8 na) (c2 : lwB j8 8 .int = true) (d4 : decode code (pc2 + 3) = .ok (.if_icmp .eq off, 3)) (ht : ((pc2 + 3 : Nat) : Int) + off = ((1004 : Nat) : Int))
    (hST : ST h (pA s.heap.size) (pB s.heap.size)) (hSA : SAME j7 j8 as h (pA s.heap.size) (pB s.heap.size)) (k : ∀ h3, ST h3 (pA s.heap.size) (pB s.heap.size) → WL p l e s m below meth c D ca b i 1004 [] h3) : WL p l e s m below meth c D ca b i pc [] h := by
  obtain ⟨f7, h7⟩ := ST_r7 hST
  obtain ⟨f8, h8⟩ := ST_r8 hST
  obtain ⟨z, hz⟩ := hSA
  refine WL.self C d0 (P1 _ _ ?_)
  rw [← st_app]
  refine WL.call C d1 s1 c1 rfl hna h7 (Nat.zero_le _) (fun _ _ _ => ret_int) hz ?_
  rintro v h2 ⟨rfl, hb2, hz2⟩ ⟨x, hx⟩
  have e1 : zc z = .int x := Option.some.inj hx
  refine WL.model C d2 (P2 _ _ ?_)
  rw [← st_app]
  refine WL.call C d3 s2 c2 rfl hna (hb2.trans h8) ?_ (fun _ _ _ => ret_int) hz2 ?_
  · show xsum [zc z] ≤ 8
    rw [e1]
    exact Nat.le_of_ble_eq_true rfl
  rintro v h3 ⟨rfl, hS3⟩ -
  intro ls H locs hl hM hS
  obtain ⟨⟨hx, hb, hret, hml, hown, hts, hX, hbl, hlocks, hgv⟩, hK, hN⟩ := id C
  show W p l e room_1 s m #[Value.ref b] below meth c H locs 101 2096 (lw_Z below #[Value.ref b] s) (F0 m (pc2 + 3) ls [zc z, zc z])
  rw [e1]
  exact lv_icmp_eq hx hb d4 ht (fun _ => k h3 hS3 ls H locs hl hM hS) (fun q => absurd rfl q)
theorem WL.caseL (C : LX p s m meth c D ca b L xs) {pc1 pc2 ix7 j7 ix8 j8 na : Nat} {as : List zV} {off : Int} (hna : as.length + 1 = na) (d0 : decode code pc = .ok (.aload_n 1, 1)) (P1 : ∀ st h, WL p l e s m below meth c D ca b i pc1 ((as.map zc).reverse ++ st) h → WL p l e s m below meth c D ca b i (pc + 1) st h) (d1 : decode code pc1 = .ok (.invokevirtual ix7, 3)) (s1 : xsite 9 ix7 0 j7 na) (c1 : lwB j7 7 .long = true) (d2 : decode code (pc1 + 3) = .ok (.aload_n 2, 1)) (P2 : ∀ st h, WL p l e s m below meth c D ca b i pc2 ((as.map zc).reverse ++ st) h → WL p l e s m below meth c D ca b i (pc1 + 3 + 1) st h) (d3 : decode code pc2 = .ok (.invokevirtual ix8, 3)) (s2 : xsite 9 ix8 0 j8 na) (c2 : lwB j8 8 .long = true) (d4 : decode code (pc2 + 3) = .ok (.lcmp, 1)) (d5 : decode code (pc2 + 3 + 1) = .ok (.ifCond .eq off, 3)) (ht : ((pc2 + 3 + 1 : Nat) : Int) + off = ((1004 : Nat) : Int))
    (hST : ST h (pA s.heap.size) (pB s.heap.size)) (hSA : SAME j7 j8 as h (pA s.heap.size) (pB s.heap.size)) (k : ∀ h3, ST h3 (pA s.heap.size) (pB s.heap.size) → WL p l e s m below meth c D ca b i 1004 [] h3) : WL p l e s m below meth c D ca b i pc [] h := by
  obtain ⟨f7, h7⟩ := ST_r7 hST
  obtain ⟨f8, h8⟩ := ST_r8 hST
  obtain ⟨z, hz⟩ := hSA
  refine WL.self C d0 (P1 _ _ ?_)
  rw [← st_app]
  refine WL.call C d1 s1 c1 rfl hna h7 (Nat.zero_le _) (fun _ _ _ => ret_long) hz ?_
  rintro v h2 ⟨rfl, hb2, hz2⟩ ⟨x, hx⟩
  have e1 : zc z = .long x := Option.some.inj hx
  refine WL.model C d2 (P2 _ _ ?_)
  rw [← st_app]
  refine WL.call C d3 s2 c2 rfl hna (hb2.trans h8) ?_ (fun _ _ _ => ret_long) hz2 ?_
  · show xsum [zc z] ≤ 8
    rw [e1]
    exact Nat.le_of_ble_eq_true rfl
  rintro v h3 ⟨rfl, hS3⟩ -
  intro ls H locs hl hM hS
  obtain ⟨⟨hx, hb, hret, hml, hown, hts, hX, hbl, hlocks, hgv⟩, hK, hN⟩ := id C
  show W p l e room_1 s m #[Value.ref b] below meth c H locs 101 2096 (lw_Z below #[Value.ref b] s) (F0 m (pc2 + 3) ls [zc z, zc z])
  rw [e1]
  refine W.lcmp hx hb d4 ?_
  have e2 : lg_cmp x x = 0 := by
    unfold lg_cmp
    rw [if_neg (Int64.lt_irrefl), if_pos rfl]
  rw [e2]
  exact lv_if_eq hx hb d5 ht (fun _ => k h3 hS3 ls H locs hl hM hS) (fun q => absurd rfl q)
end LAW
