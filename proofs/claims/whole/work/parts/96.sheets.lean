/-! film, sheet, drop, item, copy of both -/
theorem zov_eq {M : zM} {h : xH} {a : Nat} (hD : (M.map Prod.fst).Nodup) (hq : ∀ q ∈ M, q.1 = a → h a = zcE q.2) : zov M h a = h a := by
  by_cases c : a ∈ M.map Prod.fst
  · obtain ⟨q, hq1, e⟩ := List.mem_map.mp c
    have h1 := zov_all (L := M) (h := h) hD q hq1
    rw [e] at h1
    exact h1.trans (hq q hq1 e).symm
  · exact zov_out c
theorem mach_rf {f g he la sz l i n : Int} (hs : 0 ≤ sz) (hf : (he = 0 ∧ -4 ≤ f ∧ f < 0) ∨ (he = 1 ∧ f = la)) (hla : 0 ≤ la) (hg : g = sz) : machV f g l i n = rfV he la sz l i n := by
  rcases machV_spec f g l i n with h | h | h | h <;> rcases rfV_c he la sz l i n with h2 | h2 | h2 | h2 <;> rcases rcV_c sz i n with h3 | h3 <;> omega
theorem cast_sm {l v : Int} (h : -99 ≤ v ∧ v ≤ 99) : castV l v = v := by
  have h1 : s8 v = v := by
    unfold s8
    rw [Int.bmod_eq_of_le (by omega) (by omega)]
  have h2 : s16 v = v := by
    unfold s16
    rw [Int.bmod_eq_of_le (by omega) (by omega)]
  have h3 : s32 v = v := by
    unfold s32
    rw [Int.bmod_eq_of_le (by omega) (by omega)]
  unfold castV
  rw [h1, h2, h3]
  split
  · rfl
  · split
    · rfl
    · split <;> rfl
theorem cast_L {l v : Int} (h : zInL v) : zInL (castV l v) := by
  have h1 := s8_in v
  have h2 : -32768 ≤ s16 v ∧ s16 v ≤ 32767 := by
    unfold s16
    have h1 := Int.le_bmod (x := v) (m := 65536) (by decide)
    have h2 := Int.bmod_lt (x := v) (m := 65536) (by decide)
    omega
  have h3 : -2147483648 ≤ s32 v ∧ s32 v ≤ 2147483647 := by
    unfold s32
    have h1 := Int.le_bmod (x := v) (m := 4294967296) (by decide)
    have h2 := Int.bmod_lt (x := v) (m := 4294967296) (by decide)
    omega
  unfold castV
  split
  · exact ⟨by omega, by omega⟩
  · split
    · exact ⟨by omega, by omega⟩
    · split
      · exact ⟨by omega, by omega⟩
      · exact h
theorem film_L {la : Int} {th i : Nat} {Y it : Nat → Int} (hY : ∀ p, p < 13 → -99 ≤ Y p ∧ Y p ≤ 99) (h : ∀ j, j < 24 → zInL (it j)) : ∀ k, k ≤ 13 → ∀ j, j < 24 → zInL (fmC la th Y it i k j)
  | 0, _ => h
  | k + 1, hk => fun j hj => by
    have ih := film_L (la := la) (th := th) (i := i) hY h k (by omega) j hj
    have hy := hY k (by omega)
    rw [fmC]
    split
    · rw [cast_sm (l := la) (v := (k : Int) - 6) (by omega), cast_sm (l := la) (v := Y k) hy]
      unfold va_up
      split
      · exact ⟨by omega, by omega⟩
      · split
        · exact ⟨by omega, by omega⟩
        · exact ih
    · exact ih
theorem cpy_L {f g : Nat → Int} {i j n : Nat} (hi : i + n ≤ 24) (hf : ∀ c, c < 24 → zInL (f c)) (hg : ∀ c, c < 24 → zInL (g c)) : ∀ c, c < 24 → zInL (va_cpy f g i j n c) := fun c hc => by
  unfold va_cpy
  split
  · exact hf _ (by omega)
  · exact hg c hc
theorem va_24 {f g : Nat → Int} {s i b c : Nat} {v : Int} (hi : i < 24) (hc : c < 24) (hf : f (24 * b + c) = if b = s then g c else f (24 * b + c)) : va_up f (24 * s + i) v (24 * b + c) = if b = s then va_up g i v c else f (24 * b + c) := by
  by_cases e : b = s
  · rw [if_pos e] at hf ⊢
    subst e
    by_cases q : c = i
    · rw [q, vu_same, vu_same]
    · rw [vu_ne _ _ (by omega), vu_ne _ _ q]
      exact hf
  · rw [if_neg e, vu_ne _ _ (by omega)]
theorem film_eq {R F : Nat → Int} {it : Nat → Int} {th fx d w s i : Nat} {Y Q : Nat → Int} {la : Int} (hK : KR R th fx d w Y Q) (hC : COK th fx d w Y Q) (hF : ∀ c, c < 24 → F (24 * s + c) = it c) (hi : i + 2 * pop th ≤ 24) {b c : Nat} (hc : c < 24) : ∀ k, k ≤ 13 → flmF R F (24 * s + i) k (24 * b + c) = if b = s then fmC la th Y it i k c else F (24 * b + c)
  | 0, _ => by
    show F (24 * b + c) = if b = s then it c else F (24 * b + c)
    by_cases e : b = s
    · rw [if_pos e, e]
      exact hF c hc
    · rw [if_neg e]
  | k + 1, hk => by
    have ih := film_eq (la := la) (b := b) hK hC hF hi hc k (by omega)
    have h1 := hK.1 k (by omega)
    have h2 := hC.2.2.2.2.1 k
    have h3 := bt_lt th k
    have hm := KR_m0 hK hC k (by omega)
    rw [flmF, fmC]
    by_cases q : bt th k = 1
    · rw [if_pos (show 0 < R (k + 18) by omega), if_pos q, hm]
      have h4 := popN_up th (show k + 1 ≤ 13 from hk)
      have h5 : popN th (k + 1) = popN th k + bt th k := rfl
      have h6 : pop th = popN th 13 := rfl
      have hy := hC.2.2.2.2.2.2.2.1 k (by omega)
      rw [hK.2.1 k (by omega) q, cast_sm (l := la) (v := (k : Int) - 6) (by omega), cast_sm (l := la) (v := Y k) hy]
      by_cases e : b = s
      · rw [if_pos e] at ih ⊢
        subst e
        by_cases c1 : c = i + 2 * popN th k + 1
        · rw [show 24 * b + c = 24 * b + i + 2 * popN th k + 1 from by omega, vu_same, c1, vu_same]
        · rw [vu_ne _ _ (by omega), vu_ne _ _ c1]
          by_cases c2 : c = i + 2 * popN th k
          · rw [show 24 * b + c = 24 * b + i + 2 * popN th k from by omega, vu_same, c2, vu_same]
          · rw [vu_ne _ _ (by omega), vu_ne _ _ c2]
            exact ih
      · rw [if_neg e] at ih ⊢
        rw [vu_ne _ _ (by omega), vu_ne _ _ (by omega)]
        exact ih
    · rw [if_neg (show ¬ 0 < R (k + 18) by omega), if_neg q]
      exact ih
section
variable {A B : Nat → Nat} {g h : xH} {kt : Int} {n : sn} {s k : Nat} {H : Nat → sn} {kn : sn} {s2 k2 : Nat} {H2 : Nat → sn} {l : Nat} {T he la sz : Nat → Int} {it : Nat → Nat → Int}
/-- a sheet alone is new -/
theorem CW_sheet (hW : CWd h A kt n s k H kn s2 k2 H2 l T he la sz it) {x : Nat} (hx : x < 4) {he3 la3 sz3 : Int} {it3 : Nat → Int} (h1 : g (A (73 + 2 * x)) = zcE (shE (A (74 + 2 * x)) he3 la3 sz3)) (h2 : g (A (74 + 2 * x)) = zcE (.inl (1, 24, .inl it3))) (e : ∀ i, i < 81 → i ≠ 73 + 2 * x → i ≠ 74 + 2 * x → g (A i) = h (A i)) : CWd g A kt n s k H kn s2 k2 H2 l T (va_up he x he3) (va_up la x la3) (va_up sz x sz3) (va_up it x it3) := by
  obtain ⟨g1, g2, g3, g4, g5, g6, g7, g8, g9, g10, g11, ⟨⟨f, f1, f2⟩, f3⟩⟩ := hW
  refine ⟨g1, (e 0 (by decide) (by omega) (by omega)).trans g2, cN_cg g3 (fun i _ q => e i (by omega) (by omega) (by omega)), ⟨g4.1, PBk_cg g4.2 (fun i _ q => e i (by omega) (by omega) (by omega))⟩, kn_cg g5 (fun i _ q => e i (by omega) (by omega) (by omega)), ⟨g6.1, PBk_cg g6.2 (fun i _ q => e i (by omega) (by omega) (by omega))⟩, cTp_cg g7 (fun i _ q => e i (by omega) (by omega) (by omega)), cDr_cg g8 (fun i _ q => e i (by omega) (by omega) (by omega)), cEx_cg g9 (fun i _ q => e i (by omega) (by omega) (by omega)), cTr_cg g10 (fun i _ q => e i (by omega) (by omega) (by omega)), cOd_cg g11 (fun i _ q => e i (by omega) (by omega) (by omega)), ⟨f, (e 72 (by decide) (by omega) (by omega)).trans f1, f2⟩, fun y hy => ?_⟩
  by_cases c : y = x
  · rw [c, vu_same, vu_same, vu_same, vu_same]
    exact ⟨h1, h2⟩
  · rw [vu_ne _ _ c, vu_ne _ _ c, vu_ne _ _ c, vu_ne _ _ c]
    exact ⟨(e _ (by omega) (by omega) (by omega)).trans (f3 y hy).1, (e _ (by omega) (by omega) (by omega)).trans (f3 y hy).2⟩
theorem ZLs_up (hZ : ZLs it) {x : Nat} {it3 : Nat → Int} (h : ∀ i, i < 24 → zInL (it3 i)) : ZLs (va_up it x it3) := fun y hy => by
  by_cases q : y = x
  · rw [q, vu_same]
    exact h
  · rw [vu_ne _ _ q]
    exact hZ y hy
/-- the four sheets behind a change of one -/
theorem SHs_up {f b c : Nat → Int} (hS : SHs f b c he la sz it) {x : Nat} (hx : x < 4) {f3 b3 c3 : Nat → Int} {he3 la3 sz3 : Int} {it3 : Nat → Int} (e1 : 0 ≤ la3 ∧ la3 ≤ 3) (e2 : 0 ≤ sz3 ∧ sz3 ≤ 24) (e3 : (he3 = 0 ∧ -4 ≤ f3 x ∧ f3 x < 0) ∨ (he3 = 1 ∧ f3 x = la3)) (e4 : b3 x = sz3) (e5 : ∀ y, y < 4 → y ≠ x → f3 y = f y ∧ b3 y = b y) (e6 : ∀ y, y < 4 → ∀ i, i < 24 → c3 (24 * y + i) = if y = x then it3 i else c (24 * y + i)) : SHs f3 b3 c3 (va_up he x he3) (va_up la x la3) (va_up sz x sz3) (va_up it x it3) := fun y hy => by
  by_cases q : y = x
  · rw [q, vu_same, vu_same, vu_same, vu_same]
    refine ⟨e1, e2, e3, e4, fun i hi => ?_⟩
    have := e6 x hx i hi
    rw [if_pos rfl] at this
    exact this
  · rw [vu_ne _ _ q, vu_ne _ _ q, vu_ne _ _ q, vu_ne _ _ q, (e5 y hy q).1, (e5 y hy q).2]
    have h1 := hS y hy
    refine ⟨h1.1, h1.2.1, h1.2.2.1, h1.2.2.2.1, fun i hi => ?_⟩
    have := e6 y hy i hi
    rw [if_neg q] at this
    exact this.trans (h1.2.2.2.2 i hi)
end
