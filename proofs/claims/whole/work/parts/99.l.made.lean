/-! the constructors, run: what both make -/
def hD (c : Nat) : xH := va_up (fun _ => xbad) 0 (.inr (c, (List.range (xFn c)).map fun k => xdef (xFt c k)))
def rH (o : Option (Option Value × xH × Nat)) : xH := match o with
  | some (_, h, _) => h
  | none => fun _ => xbad
def vB : Value → Value → Bool
  | .int x, .int y => decide (x = y)
  | .long x, .long y => decide (x = y)
  | .ref a, .ref b => Nat.beq a b
  | .null, .null => true
  | _, _ => false
def vLB : List Value → List Value → Bool
  | [], [] => true
  | x :: l, y :: m => vB x y && vLB l m
  | _, _ => false
def eB : xE → xE → Bool
  | .inr (c, fs), .inr (d, gs) => Nat.beq c d && vLB fs gs
  | .inl (t, n, .inl f), .inl (u, k, .inl g) => (Nat.beq t u && Nat.beq n k) && (List.range n).all fun j => decide (f j = g j)
  | .inl (t, n, .inr (.inl f)), .inl (u, k, .inr (.inl g)) => (Nat.beq t u && Nat.beq n k) && (List.range n).all fun j => decide (f j = g j)
  | .inl (t, n, .inr (.inr (.inr (.inr f)))), .inl (u, k, .inr (.inr (.inr (.inr g)))) => (Nat.beq t u && Nat.beq n k) && (List.range n).all fun j => decide (f j = g j)
  | _, _ => false
/-- cells alike: rows as far as they go -/
def eS (e e2 : xE) : Prop := e = e2 ∨ (∃ (t n : Nat) (f g : Nat → Int32), e = .inl (t, n, .inl f) ∧ e2 = .inl (t, n, .inl g) ∧ ∀ j, j < n → f j = g j) ∨ (∃ (t n : Nat) (f g : Nat → Int64), e = .inl (t, n, .inr (.inl f)) ∧ e2 = .inl (t, n, .inr (.inl g)) ∧ ∀ j, j < n → f j = g j) ∨ (∃ (t n : Nat) (f g : Nat → Option Nat), e = .inl (t, n, .inr (.inr (.inr (.inr f)))) ∧ e2 = .inl (t, n, .inr (.inr (.inr (.inr g)))) ∧ ∀ j, j < n → f j = g j)
theorem vB_eq {x y : Value} (h : vB x y = true) : x = y := by
  unfold vB at h
  split at h
  · rw [of_decide_eq_true h]
  · rw [of_decide_eq_true h]
  · rw [Nat.eq_of_beq_eq_true h]
  · rfl
  · cases h
theorem vLB_eq : ∀ {l m : List Value}, vLB l m = true → l = m
  | [], [], _ => rfl
  | x :: l, y :: m, h => by
    have h2 : (vB x y && vLB l m) = true := h
    rw [Bool.and_eq_true] at h2
    rw [vB_eq h2.1, vLB_eq h2.2]
  | [], _ :: _, h => by cases h
  | _ :: _, [], h => by cases h
theorem rall {p : Nat → Bool} {n : Nat} (h : (List.range n).all p = true) : ∀ j, j < n → p j = true := fun j hj => List.all_eq_true.mp h j (List.mem_range.mpr hj)
theorem eB_S {e e2 : xE} (h : eB e e2 = true) : eS e e2 := by
  unfold eB at h
  split at h
  · rw [Bool.and_eq_true] at h
    rw [Nat.eq_of_beq_eq_true h.1, vLB_eq h.2]
    exact Or.inl rfl
  · rw [Bool.and_eq_true, Bool.and_eq_true] at h
    have e1 := Nat.eq_of_beq_eq_true h.1.1
    have e2 := Nat.eq_of_beq_eq_true h.1.2
    subst e1 e2
    exact Or.inr (Or.inl ⟨_, _, _, _, rfl, rfl, fun j hj => of_decide_eq_true (rall h.2 j hj)⟩)
  · rw [Bool.and_eq_true, Bool.and_eq_true] at h
    have e1 := Nat.eq_of_beq_eq_true h.1.1
    have e2 := Nat.eq_of_beq_eq_true h.1.2
    subst e1 e2
    exact Or.inr (Or.inr (Or.inl ⟨_, _, _, _, rfl, rfl, fun j hj => of_decide_eq_true (rall h.2 j hj)⟩))
  · rw [Bool.and_eq_true, Bool.and_eq_true] at h
    have e1 := Nat.eq_of_beq_eq_true h.1.1
    have e2 := Nat.eq_of_beq_eq_true h.1.2
    subst e1 e2
    exact Or.inr (Or.inr (Or.inr ⟨_, _, _, _, rfl, rfl, fun j hj => of_decide_eq_true (rall h.2 j hj)⟩))
  · cases h
theorem eS_sh {e e2 : xE} (b : Nat) (h : eS e e2) : eS (se b e) (se b e2) := by
  rcases h with rfl | ⟨t, n, f, g, rfl, rfl, h⟩ | ⟨t, n, f, g, rfl, rfl, h⟩ | ⟨t, n, f, g, rfl, rfl, h⟩
  · exact Or.inl rfl
  · exact Or.inr (Or.inl ⟨t, n, f, g, rfl, rfl, h⟩)
  · exact Or.inr (Or.inr (Or.inl ⟨t, n, f, g, rfl, rfl, h⟩))
  · exact Or.inr (Or.inr (Or.inr ⟨t, n, _, _, rfl, rfl, fun j hj => congrArg (Option.map fun a => a + b) (h j hj)⟩))
theorem arr_cg {cA : ClassId} {n : Nat} {v w : Nat → Value} (h : ∀ j, j < n → v j = w j) : arrV cA n v = arrV cA n w := by
  unfold arrV
  have e : (fun j : Fin n => v j.val) = fun j : Fin n => w j.val := funext fun j => h j.val j.isLt
  rw [e]
theorem eS_at {D : va_G} {ca : Nat → ClassId} {cl : List vw_C} {a : Nat} {e e2 : xE} {H : Heap} (h : eS e e2) (k : va_at D cl (a, xcell ca e) H) : va_at D cl (a, xcell ca e2) H := by
  rcases h with rfl | ⟨t, n, f, g, rfl, rfl, h⟩ | ⟨t, n, f, g, rfl, rfl, h⟩ | ⟨t, n, f, g, rfl, rfl, h⟩
  · exact k
  · refine Eq.trans (k : H[a]? = some (vp_cell (ca t) (n, .inl f))) (congrArg some ?_)
    exact arr_cg (v := fun j => Value.int (f j)) (w := fun j => Value.int (g j)) fun j hj => congrArg _ (h j hj)
  · refine Eq.trans (k : H[a]? = some (vp_cell (ca t) (n, .inr (.inl f)))) (congrArg some ?_)
    exact arr_cg (v := fun j => Value.long (f j)) (w := fun j => Value.long (g j)) fun j hj => congrArg _ (h j hj)
  · refine Eq.trans (k : H[a]? = some (vp_cell (ca t) (n, .inr (.inr (.inr (.inr f)))))) (congrArg some ?_)
    exact arr_cg (v := fun j => va_rf (f j)) (w := fun j => va_rf (g j)) fun j hj => congrArg _ (h j hj)
theorem xMem_S {D : va_G} {ca : Nat → ClassId} {base top : Nat} {h h2 : xH} {H : Heap} (k : xMem D ca base top h H) (e : ∀ a, base ≤ a → a < top → eS (h a) (h2 a)) (o : ∀ a, a < base ∨ top ≤ a → h2 a = xbad) : xMem D ca base top h2 H := by
  refine ⟨k.1, k.2.1, o, fun i q hq => ?_⟩
  rw [xW_get] at hq
  split at hq
  · rename_i hi
    cases hq
    have h1 := k.2.2.2 i (base + i, xcell ca (h (base + i))) (by rw [xW_get, if_pos hi])
    exact eS_at (e _ (by omega) (by omega)) h1
  · cases hq
/-- the class's cells in the order of their making -/
def pi7 (i : Nat) : Nat := if 53 ≤ i ∧ i < 58 then i + 5 else if 58 ≤ i ∧ i < 63 then i - 5 else i
def oZ : Nat → Int := fun _ => 0
def oQ : Nat → Int := fun j => if j = 0 then 1 else 0
def oP (a : Nat) : List zE := [ptE (a + 1) (a + 2) 0 0 1 1, .inl (0, 13, .inl oZ), .inl (0, 3, .inl oQ)]
def oF (a : Nat) : List zE := [ftE (a + 1) (a + 2) (a + 3) (a + 4) 0 1 1 0 1 0, .inl (0, 5, .inl oZ), .inl (1, 5, .inl oZ), .inl (1, 5, .inl oZ), .inl (1, 4, .inl oZ)]
def oH (a : Nat) : List zE := [.inr (3, [za (a + 1), zi ((0 : Nat) : Int)]), .inl (4, 6, .inr fun i => some (a + 2 + 3 * i))] ++ (oP (a + 2) ++ (oP (a + 5) ++ (oP (a + 8) ++ (oP (a + 11) ++ (oP (a + 14) ++ oP (a + 17))))))
def oS (a : Nat) : List zE := [shE (a + 1) 0 0 0, .inl (1, 24, .inl oZ)]
def E7 : List zE := rootE pi7 0 :: (oP 1 ++ (oH 4 ++ (oP 24 ++ (oH 27 ++ (tpE pi7 0 0 0 0 0 :: .inl (0, 90, .inl oZ) :: (oP 49 ++ (ehE pi7 0 0 0 :: (oF 53 ++ (.inl (0, 70, .inl oZ) :: .inl (1, 70, .inl oZ) :: .inl (1, 70, .inl oZ) :: .inl (0, 70, .inl oZ) :: .inl (0, 70, .inl oZ) :: (oF 63 ++ (odE pi7 0 :: .inl (0, 8, .inl oZ) :: .inl (2, 256, .inl oZ) :: .inl (1, 9, .inl oZ) :: .inl (3, 4, .inr fun i => some (73 + 2 * i)) :: (oS 73 ++ (oS 75 ++ (oS 77 ++ oS 79))))))))))))))
def om : Nat → Int := fun j => if j = 3 then -4 else 0
def orr : Nat → Nat → Int := fun a j => if a = 1 then (if j = 0 ∨ j = 1 ∨ j = 4 then 1 else 0) else if a = 4 then -4 else 0
def E8 : List zE := (LM id om orr).map Prod.snd
def lH (E : List zE) : xH := fun a => match E[a]? with
  | some e => zcE e
  | none => xbad
def rOk (E : List zE) (n : Nat) (o : Option (Option Value × xH × Nat)) : Bool := match o with
  | some (none, h, t) => Nat.beq t n && (List.range n).all fun i => eB (h i) (lH E i)
  | _ => false
theorem rOk_of {E : List zE} {n : Nat} {o : Option (Option Value × xH × Nat)} (h : rOk E n o = true) : o = some (none, rH o, n) ∧ ∀ i, i < n → eS (rH o i) (lH E i) := by
  unfold rOk at h
  split at h
  · rw [Bool.and_eq_true] at h
    rw [Nat.eq_of_beq_eq_true h.1]
    refine ⟨rfl, fun i hi => eB_S (rall h.2 i ?_)⟩
    rw [Nat.eq_of_beq_eq_true h.1] at *
    exact hi
  · cases h
set_option maxRecDepth 100000 in
theorem made7 : rOk E7 81 (xsem 300 k_X7_init [.ref 0] (hD 7) 1) = true := by decide +kernel
set_option maxRecDepth 100000 in
theorem made8 : rOk E8 20 (xsem 300 k_X8_init [.ref 0] (hD 8) 1) = true := by decide +kernel
def zsv (b : Nat) : zV → zV
  | .inr (.inr a) => za (a + b)
  | v => v
def zsh (b : Nat) : zE → zE
  | .inr (c, fs) => .inr (c, fs.map (zsv b))
  | .inl (t, n, .inr f) => .inl (t, n, .inr fun i => (f i).map fun a => a + b)
  | .inl (t, n, .inl f) => .inl (t, n, .inl f)
theorem zsv_c (b : Nat) (v : zV) : zc (zsv b v) = sv b (zc v) := by
  rcases v with z | z | a <;> rfl
theorem zsh_c (b : Nat) (e : zE) : zcE (zsh b e) = se b (zcE e) := by
  rcases e with ⟨t, n, f | f⟩ | ⟨c, fs⟩
  · rcases t with _ | _ | t <;> rfl
  · rfl
  · show (Sum.inr (c, (fs.map (zsv b)).map zc) : xE) = .inr (c, (fs.map zc).map (sv b))
    rw [List.map_map, List.map_map]
    congr 2
    exact List.map_congr_left fun v _ => zsv_c b v
/-- the heap of both, made at a place -/
def h7 (b : Nat) : xH := sh b (fun _ => xbad) (lH E7)
def h8 (b : Nat) : xH := sh (b + 81) (h7 b) (lH E8)
def pA (b i : Nat) : Nat := pi7 i + b
def pB (b j : Nat) : Nat := j + (b + 81)
theorem pA_lt {b i : Nat} (h : i < 81) : b ≤ pA b i ∧ pA b i < b + 81 := by
  unfold pA pi7
  (repeat' split) <;> omega
theorem h8_A {b i : Nat} (h : i < 81) {e : zE} (he : E7[pi7 i]? = some e) : h8 b (pA b i) = zcE (zsh b e) := by
  unfold h8
  rw [sh, if_pos (pA_lt h).2]
  unfold h7 pA
  rw [sh_at, zsh_c]
  unfold lH
  rw [he]
theorem h8_B {b : Nat} : ∀ q ∈ LM (pB b) om orr, h8 b q.1 = zcE q.2 := by
  have e : LM (pB b) om orr = (LM id om orr).map fun q => (q.1 + (b + 81), zsh (b + 81) q.2) := rfl
  intro q hq
  rw [e] at hq
  obtain ⟨q2, hq2, rfl⟩ := List.mem_map.mp hq
  show sh (b + 81) (h7 b) (lH E8) (q2.1 + (b + 81)) = zcE (zsh (b + 81) q2.2)
  rw [sh_at, zsh_c]
  obtain ⟨i, hi⟩ := List.getElem?_of_mem hq2
  have h20 : i < 20 := by
    have := (List.getElem?_eq_some_iff.mp hi).1
    exact this
  have h1 : q2.1 = i := by
    have h2 : ((LM id om orr).map Prod.fst)[i]? = some q2.1 := by rw [List.getElem?_map, hi]; rfl
    have h3 : (LM id om orr).map Prod.fst = List.range 20 := rfl
    rw [h3, List.getElem?_range h20] at h2
    exact (Option.some.inj h2).symm
  rw [h1]
  unfold lH E8
  rw [List.getElem?_map, hi]
  rfl
theorem pA_AI (b : Nat) : AI (pA b) := fun i j hi hj e => by
  unfold pA pi7 at e
  (repeat' split at e) <;> omega
theorem pAB_DJ (b : Nat) : DJ (pA b) (pB b) := ⟨fun i j _ _ e => by unfold pB at e; omega, fun i j hi _ => by
  have := (pA_lt (b := b) hi).2
  unfold pB
  omega⟩
def on : sn := (0, 0, 1, 1, oZ, oQ)
theorem on_KR : KRs (orr 1) on := ⟨by decide, by decide, by decide, by decide, by decide, by decide⟩
theorem on_COK : COKs on := ⟨by decide, by decide, by decide, by decide, fun _ => Nat.le_refl _, by decide, by decide, by decide, by unfold qOK; decide⟩
theorem pt_of {g : xH} {o y q : Nat} (h1 : g o = zcE (ptE y q 0 0 1 1)) (h2 : g y = zcE (.inl (0, 13, .inl oZ))) (h3 : g q = zcE (.inl (0, 3, .inl oQ))) : PT g o y q on := ⟨oZ, oQ, h1, h2, h3, fun _ _ => rfl, fun _ _ => rfl⟩
theorem st_made (b : Nat) : ST (h8 b) (pA b) (pB b) := by
  have c := @h8_A b
  refine ⟨0, on, 0, 0, fun _ => on, on, 0, 0, fun _ => on, 0, oZ, oZ, oZ, oZ, fun _ => oZ, om, orr, ⟨pA_AI b, c (i := 0) (by decide) rfl, ⟨c (i := 1) (by decide) rfl, c (i := 2) (by decide) rfl, c (i := 3) (by decide) rfl⟩, ⟨by decide, c (i := 4) (by decide) rfl, ⟨_, c (i := 5) (by decide) rfl, ?_⟩, ?_⟩, pt_of (c (i := 24) (by decide) rfl) (c (i := 25) (by decide) rfl) (c (i := 26) (by decide) rfl), ⟨by decide, c (i := 27) (by decide) rfl, ⟨_, c (i := 28) (by decide) rfl, ?_⟩, ?_⟩, ⟨0, 0, 0, 0, c (i := 47) (by decide) rfl, c (i := 48) (by decide) rfl⟩, ⟨0, 0, 1, 1, oZ, oQ, c (i := 49) (by decide) rfl, c (i := 50) (by decide) rfl, c (i := 51) (by decide) rfl, by decide⟩, ⟨0, 0, 0, 0, 1, 1, 0, 1, 0, oZ, oZ, oZ, oZ, oZ, oZ, oZ, oZ, oZ, c (i := 52) (by decide) rfl, ⟨c (i := 58) (by decide) rfl, c (i := 59) (by decide) rfl, c (i := 60) (by decide) rfl, c (i := 61) (by decide) rfl, c (i := 62) (by decide) rfl, c (i := 53) (by decide) rfl, c (i := 54) (by decide) rfl, c (i := 55) (by decide) rfl, c (i := 56) (by decide) rfl, c (i := 57) (by decide) rfl⟩, Or.inl rfl⟩, ⟨0, 1, 1, 0, 1, 0, oZ, oZ, oZ, oZ, c (i := 63) (by decide) rfl, c (i := 64) (by decide) rfl, c (i := 65) (by decide) rfl, c (i := 66) (by decide) rfl, c (i := 67) (by decide) rfl⟩, ⟨0, oZ, oZ, oZ, c (i := 68) (by decide) rfl, c (i := 69) (by decide) rfl, c (i := 70) (by decide) rfl, c (i := 71) (by decide) rfl, fun _ _ => Or.inl rfl⟩, ⟨⟨_, c (i := 72) (by decide) rfl, ?_⟩, ?_⟩⟩, h8_B, on_KR, on_COK, ⟨rfl, by decide, fun i hi => absurd hi (Nat.not_lt_zero i)⟩, Or.inl ⟨rfl, by decide, by decide⟩, ⟨rfl, by decide, rfl, fun j hj => absurd hj (Nat.not_lt_zero j)⟩, ?_, ?_⟩
  · intro j hj
    rcases (show j = 0 ∨ j = 1 ∨ j = 2 ∨ j = 3 ∨ j = 4 ∨ j = 5 by omega) with rfl | rfl | rfl | rfl | rfl | rfl <;> rfl
  · intro j hj
    rcases (show j = 0 ∨ j = 1 ∨ j = 2 ∨ j = 3 ∨ j = 4 ∨ j = 5 by omega) with rfl | rfl | rfl | rfl | rfl | rfl
    · exact pt_of (c (i := 6) (by decide) rfl) (c (i := 7) (by decide) rfl) (c (i := 8) (by decide) rfl)
    · exact pt_of (c (i := 9) (by decide) rfl) (c (i := 10) (by decide) rfl) (c (i := 11) (by decide) rfl)
    · exact pt_of (c (i := 12) (by decide) rfl) (c (i := 13) (by decide) rfl) (c (i := 14) (by decide) rfl)
    · exact pt_of (c (i := 15) (by decide) rfl) (c (i := 16) (by decide) rfl) (c (i := 17) (by decide) rfl)
    · exact pt_of (c (i := 18) (by decide) rfl) (c (i := 19) (by decide) rfl) (c (i := 20) (by decide) rfl)
    · exact pt_of (c (i := 21) (by decide) rfl) (c (i := 22) (by decide) rfl) (c (i := 23) (by decide) rfl)
  · intro j hj
    rcases (show j = 0 ∨ j = 1 ∨ j = 2 ∨ j = 3 ∨ j = 4 ∨ j = 5 by omega) with rfl | rfl | rfl | rfl | rfl | rfl <;> rfl
  · intro j hj
    rcases (show j = 0 ∨ j = 1 ∨ j = 2 ∨ j = 3 ∨ j = 4 ∨ j = 5 by omega) with rfl | rfl | rfl | rfl | rfl | rfl
    · exact pt_of (c (i := 29) (by decide) rfl) (c (i := 30) (by decide) rfl) (c (i := 31) (by decide) rfl)
    · exact pt_of (c (i := 32) (by decide) rfl) (c (i := 33) (by decide) rfl) (c (i := 34) (by decide) rfl)
    · exact pt_of (c (i := 35) (by decide) rfl) (c (i := 36) (by decide) rfl) (c (i := 37) (by decide) rfl)
    · exact pt_of (c (i := 38) (by decide) rfl) (c (i := 39) (by decide) rfl) (c (i := 40) (by decide) rfl)
    · exact pt_of (c (i := 41) (by decide) rfl) (c (i := 42) (by decide) rfl) (c (i := 43) (by decide) rfl)
    · exact pt_of (c (i := 44) (by decide) rfl) (c (i := 45) (by decide) rfl) (c (i := 46) (by decide) rfl)
  · intro j hj
    rcases (show j = 0 ∨ j = 1 ∨ j = 2 ∨ j = 3 by omega) with rfl | rfl | rfl | rfl <;> rfl
  · intro j hj
    rcases (show j = 0 ∨ j = 1 ∨ j = 2 ∨ j = 3 by omega) with rfl | rfl | rfl | rfl
    · exact ⟨c (i := 73) (by decide) rfl, c (i := 74) (by decide) rfl⟩
    · exact ⟨c (i := 75) (by decide) rfl, c (i := 76) (by decide) rfl⟩
    · exact ⟨c (i := 77) (by decide) rfl, c (i := 78) (by decide) rfl⟩
    · exact ⟨c (i := 79) (by decide) rfl, c (i := 80) (by decide) rfl⟩
  · intro s hs
    exact ⟨⟨(by decide : (0 : Int) ≤ 0), (by decide : (0 : Int) ≤ 3)⟩, ⟨(by decide : (0 : Int) ≤ 0), (by decide : (0 : Int) ≤ 24)⟩, Or.inl ⟨rfl, (by decide : (-4 : Int) ≤ -4), (by decide : (-4 : Int) < 0)⟩, rfl, fun i hi => rfl⟩
  · intro s hs i hi
    show zInL 0
    unfold zInL
    decide
/-- an object as it is made -/
def oN (c : Nat) : xE := .inr (c, (List.range (xFn c)).map fun k => xdef (xFt c k))
theorem oN_se (b c : Nat) : se b (oN c) = oN c := by
  show (Sum.inr (c, ((List.range (xFn c)).map fun k => xdef (xFt c k)).map (sv b)) : xE) = .inr (c, (List.range (xFn c)).map fun k => xdef (xFt c k))
  rw [List.map_map]
  congr 2
  refine List.map_congr_left fun k _ => ?_
  show sv b (xdef (xFt c k)) = xdef (xFt c k)
  unfold xdef
  split <;> rfl
theorem new_sh {b c : Nat} {g : xH} (hg : ∀ a, b ≤ a → g a = xbad) : va_up g b (oN c) = sh b g (hD c) := by
  funext a
  unfold va_up sh hD
  by_cases h1 : a = b
  · rw [if_pos h1, if_neg (by omega), h1, Nat.sub_self]
    show oN c = se b (if 0 = 0 then oN c else xbad)
    rw [if_pos rfl, oN_se]
  · rw [if_neg h1]
    by_cases h2 : a < b
    · rw [if_pos h2]
    · rw [if_neg h2, hg a (by omega)]
      show xbad = se b (if a - b = 0 then oN c else xbad)
      rw [if_neg (by omega)]
      rfl
theorem run_sh {j c n b : Nat} {E : List zE} {g : xH} (hg : ∀ a, b ≤ a → g a = xbad) (h : rOk E n (xsem 300 j [.ref 0] (hD c) 1) = true) : ∃ h2 : xH, xsem 300 j [.ref b] (va_up g b (oN c)) (b + 1) = some (none, h2, b + n) ∧ (∀ a, b ≤ a → a < b + n → eS (h2 a) (sh b g (lH E) a)) ∧ ∀ a, a < b → h2 a = g a := by
  obtain ⟨h1, h2⟩ := rOk_of h
  refine ⟨sh b g (rH (xsem 300 j [.ref 0] (hD c) 1)), ?_, fun a ha hb => ?_, fun a ha => ?_⟩
  · have h3 := sh_sem b g 300 j [.ref 0] (hD c) 1
    rw [h1] at h3
    rw [new_sh hg]
    have e1 : [Value.ref 0].map (sv b) = [Value.ref b] := by
      show [Value.ref (0 + b)] = _
      rw [Nat.zero_add]
    rw [e1, Nat.add_comm 1 b] at h3
    rw [h3]
    show some (none, sh b g (rH (xsem 300 j [.ref 0] (hD c) 1)), n + b) = _
    rw [Nat.add_comm n b]
  · unfold sh
    rw [if_neg (by omega), if_neg (by omega)]
    exact eS_sh b (h2 _ (by omega))
  · unfold sh
    rw [if_pos ha]
theorem lH_out {E : List zE} {a : Nat} (h : E.length ≤ a) : lH E a = xbad := by
  unfold lH
  rw [List.getElem?_eq_none h]
theorem h7_out {b a : Nat} (h : a < b ∨ b + 81 ≤ a) : h7 b a = xbad := by
  unfold h7 sh
  split
  · rfl
  · rw [lH_out (show E7.length ≤ a - b from by show 81 ≤ a - b; omega)]
    rfl
theorem h8_out {b a : Nat} (h : a < b ∨ b + 101 ≤ a) : h8 b a = xbad := by
  unfold h8 sh
  split
  · exact h7_out (by omega)
  · rw [lH_out (show E8.length ≤ a - (b + 81) from by show 20 ≤ a - (b + 81); omega)]
    rfl
/-- the class's constructor -/
theorem init7 (b : Nat) : ∃ h2 : xH, xsem 300 k_X7_init [.ref b] (va_up (fun _ => xbad) b (oN 7)) (b + 1) = some (none, h2, b + 81) ∧ ∀ a, b ≤ a → a < b + 81 → eS (h2 a) (h7 b a) := by
  obtain ⟨h2, h3, h4, h5⟩ := run_sh (b := b) (fun _ _ => rfl) made7
  exact ⟨h2, h3, h4⟩
/-- the reference's -/
theorem init8 (b : Nat) : ∃ h2 : xH, xsem 300 k_X8_init [.ref (b + 81)] (va_up (h7 b) (b + 81) (oN 8)) (b + 81 + 1) = some (none, h2, b + 101) ∧ ∀ a, b ≤ a → a < b + 101 → eS (h2 a) (h8 b a) := by
  obtain ⟨h2, h3, h4, h5⟩ := run_sh (b := b + 81) (g := h7 b) (fun a ha => h7_out (Or.inr ha)) made8
  refine ⟨h2, h3, fun a ha hb => ?_⟩
  by_cases q : a < b + 81
  · rw [h5 a q]
    unfold h8 sh
    rw [if_pos q]
    exact Or.inl rfl
  · exact h4 a (by omega) (by omega)
