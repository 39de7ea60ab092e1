/-! calls that let the exchange run: the cells behind them -/
theorem mk_zero {b : Nat → Bool} (h : mk b = 0) {p : Nat} (hp : p < 13) : b p = false := by
  have h1 := bt_mk b hp
  rw [h] at h1
  have h2 : bt 0 p = 0 := by
    unfold bt
    rw [Nat.zero_div]
  by_cases q : b p = true
  · rw [if_pos q] at h1
    omega
  · cases hb : b p with
    | true => exact absurd hb q
    | false => rfl
theorem no_pole {th : Nat} {Q : Nat → Int} (h : mk (poleB th Q) = 0) : NPL th Q := fun p hp ht hq => by
  have h1 := mk_zero h hp
  unfold poleB at h1
  exact (of_decide_eq_false h1) ⟨ht, hq⟩
theorem fit_pre {th fx d w : Nat} {Y Q : Nat → Int} (hC : COK th fx d w Y Q) : (∀ k : Nat, k < 13 → zInI (Y k)) ∧ (∀ k : Nat, k < 13 → zInI (qv Q ((k : Int) - 6))) ∧ (∀ k : Nat, k < 13 → zInI (Y k * qv Q ((k : Int) - 6))) ∧ (∀ k : Nat, k < 13 → -1000 ≤ qv Q ((k : Int) - 6) ∧ qv Q ((k : Int) - 6) ≤ 1000) := by
  refine ⟨fun k hk => ?_, fun k hk => (COK_q hC k hk).1, fun k hk => ?_, fun k hk => (COK_q hC k hk).2⟩
  · have := hC.2.2.2.2.2.2.2.1 k hk
    exact ⟨by omega, by omega⟩
  · have h1 := hC.2.2.2.2.2.2.2.1 k hk
    have h2 := qv_bd hC hk
    have h3 := mul_bd (a := Y k) (b := qv Q ((k : Int) - 6)) (A := 99) (B := 129) h1.1 h1.2 h2.1 h2.2
    exact ⟨by omega, by omega⟩
/-- two runs of the exchange are one -/
theorem XHY_seq {th fx d : Nat} {Y Q : Nat → Int} {M lo M2 lo2 : Nat} {cs wo lw go fl fu cs2 wo2 lw2 go2 fl2 fu2 : Nat → Nat} (h1 : XHY th fx d Y Q M lo cs wo lw go fl fu) (h2 : XHY th fx d Y Q M2 lo2 cs2 wo2 lw2 go2 fl2 fu2) : ∀ i, i ≤ M → i ≤ M2 → cs i = cs2 i ∧ wo i = wo2 i ∧ (i + 1 < M + 1 ↔ i + 1 < M2 + 1)
  | i, hi, hi2 => by
    obtain ⟨a1, a2, a3, a4, a5, a6, a7, a8, a9, a10, a11, a12⟩ := h1
    obtain ⟨b1, b2, b3, b4, b5, b6, b7, b8, b9, b10, b11, b12⟩ := h2
    have hlo : lo = lo2 := (show lo = low (bdiff th fx) from a4).trans (show lo2 = low (bdiff th fx) from b4).symm
    have key : cs i = cs2 i → cs i = cs2 i ∧ wo i = wo2 i ∧ (i + 1 < M + 1 ↔ i + 1 < M2 + 1) := fun e => by
      have c1 := a9 i (by omega)
      have c2 := b9 i (by omega)
      rw [← e, ← hlo] at c2
      have c3 : wo i = wo2 i := c1.trans c2.symm
      have c4 : lw i = lw2 i := (show lw i = low (cs i) from (a10 i (by omega)).1).trans ((congrArg low e).trans (show lw2 i = low (cs2 i) from (b10 i (by omega)).1).symm)
      have c5 := a11 i (by omega)
      have c6 := b11 i (by omega)
      rw [← e, ← c3, ← c4] at c6
      refine ⟨e, c3, ?_⟩
      constructor
      · intro q
        by_cases z : i + 1 < M2 + 1
        · exact z
        · exact absurd q (c5.mp (c6.mpr z))
      · intro q
        by_cases z : i + 1 < M + 1
        · exact z
        · exact absurd q (c6.mp (c5.mpr z))
    cases i with
    | zero => exact key (a7.trans b7.symm)
    | succ i =>
      have ih := XHY_seq (h1 := ⟨a1, a2, a3, a4, a5, a6, a7, a8, a9, a10, a11, a12⟩) (h2 := ⟨b1, b2, b3, b4, b5, b6, b7, b8, b9, b10, b11, b12⟩) i (by omega) (by omega)
      have c1 := a12 i (by omega)
      have c2 := b12 i (by omega)
      have d1 : fl i = fl2 i := (show fl i = low (cs i &&& (2 ^ wo i - 1)) from c1.1).trans (by rw [ih.1, ih.2.1]; exact (show fl2 i = low (cs2 i &&& (2 ^ wo2 i - 1)) from c2.1).symm)
      have d2 : fu i = fu2 i := (show fu i = low (bdiff (cs i) (cs i &&& (2 ^ wo i - 1))) from c1.2.1).trans (by rw [ih.1, ih.2.1]; exact (show fu2 i = low (bdiff (cs2 i) (cs2 i &&& (2 ^ wo2 i - 1))) from c2.2.1).symm)
      have d3 : go i = go2 i := by rw [c1.2.2.2.1, c2.2.2.2.1, ih.1, ih.2.1, d1, d2]
      exact key (by rw [c1.2.2.2.2, c2.2.2.2.2, ih.1, ih.2.1, d3])
theorem XHY_u {th fx d : Nat} {Y Q : Nat → Int} {M lo M2 lo2 : Nat} {cs wo lw go fl fu cs2 wo2 lw2 go2 fl2 fu2 : Nat → Nat} (h1 : XHY th fx d Y Q M lo cs wo lw go fl fu) (h2 : XHY th fx d Y Q M2 lo2 cs2 wo2 lw2 go2 fl2 fu2) : M = M2 ∧ ∀ i, i ≤ M → cs i = cs2 i ∧ wo i = wo2 i ∧ (i + 1 < M + 1 → go i = go2 i) := by
  have hM : M = M2 := by
    by_cases q : M ≤ M2
    · have := (XHY_seq h1 h2 M (Nat.le_refl _) q).2.2
      omega
    · have := (XHY_seq h1 h2 M2 (by omega) (Nat.le_refl _)).2.2
      omega
  subst hM
  refine ⟨rfl, fun i hi => ?_⟩
  have ih := XHY_seq h1 h2 i hi hi
  refine ⟨ih.1, ih.2.1, fun hl => ?_⟩
  have c1 := h1.2.2.2.2.2.2.2.2.2.2.2 i hl
  have c2 := h2.2.2.2.2.2.2.2.2.2.2.2 i hl
  have d1 : fl i = fl2 i := (show fl i = low (cs i &&& (2 ^ wo i - 1)) from c1.1).trans (by rw [ih.1, ih.2.1]; exact (show fl2 i = low (cs2 i &&& (2 ^ wo2 i - 1)) from c2.1).symm)
  have d2 : fu i = fu2 i := (show fu i = low (bdiff (cs i) (cs i &&& (2 ^ wo i - 1))) from c1.2.1).trans (by rw [ih.1, ih.2.1]; exact (show fu2 i = low (bdiff (cs2 i) (cs2 i &&& (2 ^ wo2 i - 1))) from c2.2.1).symm)
  rw [c1.2.2.2.1, c2.2.2.2.1, ih.1, ih.2.1, d1, d2]
theorem EXN_cg {fx M : Nat} {Y Q : Nat → Int} {cs wo go cs2 wo2 go2 : Nat → Nat} {st al be up dn ln : Int} {S U D N_ G P : Nat → Int} (h : EXN fx Y Q M cs wo go st al be up dn ln S U D N_ G P) (e : ∀ i, i ≤ M → cs i = cs2 i ∧ wo i = wo2 i ∧ (i + 1 < M + 1 → go i = go2 i)) : EXN fx Y Q M cs2 wo2 go2 st al be up dn ln S U D N_ G P := by
  obtain ⟨h1, h2, h3, h4, h5, h6, h7, h8⟩ := h
  have eM := (e M (Nat.le_refl _)).1
  refine ⟨h1, h2, fun k hk => ?_, by rw [← eM]; exact h4, by rw [← eM]; exact h5, by rw [← eM]; exact h6, by rw [← eM]; exact h7, fun k hk => by rw [← eM]; exact h8 k hk⟩
  obtain ⟨g1, g2, g3, g4, g5⟩ := h3 k hk
  obtain ⟨e1, e2, e3⟩ := e k hk
  refine ⟨by rw [← e1]; exact g1, by rw [← e1]; exact g2, by rw [← e1]; exact g3, ?_, ?_⟩
  · rw [g4]
    split
    · rw [e2]
    · rfl
  · rw [g5]
    split
    · rename_i c
      rw [e3 c]
    · rfl
section
variable {A : Nat → Nat} {g h : xH} {kt : Int} {th fx d w : Nat} {Y Q : Nat → Int} {s k : Nat} {H : Nat → sn} {kn : sn} {s2 k2 : Nat} {H2 : Nat → sn} {l : Nat} {T he la sz : Nat → Int} {it : Nat → Nat → Int}
theorem sl_few {sv st al be up dn ln : Int} {S U D N_ G P : Nat → Int} (hm : pop th < d + 2) (h : sv = 0 ∨ (sv = 1 ∧ SLV th fx d Y Q st al be up dn ln S U D N_ G P)) : sv = 0 ∨ (sv = 1 ∧ EXF th fx d Y Q st al be P) := by
  rcases h with h | ⟨h, h2 | h2⟩
  · exact Or.inl h
  · exact Or.inr ⟨h, h2.2⟩
  · omega
theorem sl_full {sv st al be up dn ln : Int} {S U D N_ G P : Nat → Int} {M lo : Nat} {cs wo lw go fl fu : Nat → Nat} (hX : XHY th fx d Y Q M lo cs wo lw go fl fu) (h : sv = 0 ∨ (sv = 1 ∧ SLV th fx d Y Q st al be up dn ln S U D N_ G P)) : sv = 0 ∨ (sv = 1 ∧ EXN fx Y Q M cs wo go st al be up dn ln S U D N_ G P) := by
  rcases h with h | ⟨h, h2 | ⟨h2, M2, lo2, cs2, wo2, lw2, go2, fl2, fu2, hX2, hE⟩⟩
  · exact Or.inl h
  · have := hX.2.1
    omega
  · have hu := XHY_u hX2 hX
    obtain ⟨hM, hi⟩ := hu
    subst hM
    exact Or.inr ⟨h, EXN_cg hE hi⟩
/-- the exchange has run -/
theorem CW_fit (hW : CWd h A kt (th, fx, d, w, Y, Q) s k H kn s2 k2 H2 l T he la sz it) {st al nd sc be up dn ln : Int} {F W B P S U D N_ G : Nat → Int} (hs : SLV th fx d Y Q st al be up dn ln S U D N_ G P)
    (hg : g = zov [((A 0), rootE A kt), ((A 1), ptE (A 2) (A 3) th fx d w), ((A 2), .inl (0, 13, .inl Y)), ((A 3), .inl (0, 3, .inl Q)), ((A 52), ehE A st al 1), ((A 58), ftE (A 59) (A 60) (A 61) (A 62) nd sc be up dn ln), ((A 59), .inl (0, 5, .inl F)), ((A 60), .inl (1, 5, .inl W)), ((A 61), .inl (1, 5, .inl B)), ((A 62), .inl (1, 4, .inl P)), ((A 53), .inl (0, 70, .inl S)), ((A 54), .inl (1, 70, .inl U)), ((A 55), .inl (1, 70, .inl D)), ((A 56), .inl (0, 70, .inl N_)), ((A 57), .inl (0, 70, .inl G))] h) : CWd g A kt (th, fx, d, w, Y, Q) s k H kn s2 k2 H2 l T he la sz it ∧ KF g h A := by
  have hA := hW.1
  have hD : [(A 0), (A 1), (A 2), (A 3), (A 52), (A 58), (A 59), (A 60), (A 61), (A 62), (A 53), (A 54), (A 55), (A 56), (A 57)].Nodup := nd_A hA (l := [0, 1, 2, 3, 52, 58, 59, 60, 61, 62, 53, 54, 55, 56, 57]) (by decide) (by decide)
  have ho : ∀ i, i < 81 → i ∉ [0, 1, 2, 3, 52, 58, 59, 60, 61, 62, 53, 54, 55, 56, 57] → g (A i) = h (A i) := fun i h1 h2 => by
    rw [hg]
    exact A_out hA [0, 1, 2, 3, 52, 58, 59, 60, 61, 62, 53, 54, 55, 56, 57] rfl (by decide) h1 h2
  have ho2 : ∀ i, (4 ≤ i ∧ i < 52) ∨ (63 ≤ i ∧ i < 81) → g (A i) = h (A i) := fun i h1 => ho i (by omega) (by simp only [List.mem_cons, List.not_mem_nil, or_false]; omega)
  constructor
  · obtain ⟨h1, h2, h3, h4, h5, h6, h7, h8, h9, h10, h11, h12⟩ := hW
    refine ⟨h1, ?_, ⟨?_, ?_, ?_⟩, ⟨h4.1, PBk_cg h4.2 (fun i _ q => ho2 i (by omega))⟩, kn_cg h5 (fun i _ q => ho2 i (by omega)), ⟨h6.1, PBk_cg h6.2 (fun i _ q => ho2 i (by omega))⟩, cTp_cg h7 (fun i _ q => ho2 i (by omega)), cDr_cg h8 (fun i _ q => ho2 i (by omega)), ⟨st, al, 1, nd, sc, be, up, dn, ln, F, W, B, P, S, U, D, N_, G, ?_, ⟨?_, ?_, ?_, ?_, ?_, ?_, ?_, ?_, ?_, ?_⟩, Or.inr ⟨rfl, hs⟩⟩, cTr_cg h10 (fun i _ q => ho2 i (by omega)), cOd_cg h11 (fun i _ q => ho2 i (by omega)), cSh_cg h12 (fun i _ q => ho2 i (by omega))⟩
    · exact zget hg hD 0 rfl
    · exact zget hg hD 1 rfl
    · exact zget hg hD 2 rfl
    · exact zget hg hD 3 rfl
    · exact zget hg hD 4 rfl
    · exact zget hg hD 5 rfl
    · exact zget hg hD 6 rfl
    · exact zget hg hD 7 rfl
    · exact zget hg hD 8 rfl
    · exact zget hg hD 9 rfl
    · exact zget hg hD 10 rfl
    · exact zget hg hD 11 rfl
    · exact zget hg hD 12 rfl
    · exact zget hg hD 13 rfl
    · exact zget hg hD 14 rfl
  · rw [hg]
    exact KF_zov [0, 1, 2, 3, 52, 58, 59, 60, 61, 62, 53, 54, 55, 56, 57] rfl (by decide)
/-- the reference's own numbers do not matter -/
theorem RL_sc {m : Nat → Int} {r : Nat → Nat → Int} {n : sn} (hR : RLd m r kt n k H kn k2 H2 l T he la sz it) {m2 : Nat → Int} {r2 : Nat → Nat → Int} (e1 : m2 1 = m 1) (e3 : m2 3 = m 3) (e5 : m2 5 = m 5) (f1 : r2 1 = r 1) (f2 : r2 2 = r 2) (f3 : r2 3 = r 3) (f4 : r2 4 = r 4) (f5 : r2 5 = r 5) (f6 : r2 6 = r 6) : RLd m2 r2 kt n k H kn k2 H2 l T he la sz it := by
  unfold RLd
  rw [e1, e3, e5, f1, f2, f3, f4, f5, f6]
  exact hR
end
