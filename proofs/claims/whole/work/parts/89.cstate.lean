/-! the class's cells: what they hold between calls -/
def rootE (A : Nat → Nat) (kt : Int) : zE := .inr (7, [za (A 1), za (A 4), za (A 24), za (A 27), zi kt, za (A 47), za (A 49), za (A 52), za (A 63), za (A 68), za (A 72)])
def ptE (y q th fx d w : Nat) : zE := .inr (4, [za y, za q, zi (th : Int), zi (fx : Int), zi (d : Int), zi (w : Int)])
def ehE (A : Nat → Nat) (st al sv : Int) : zE := .inr (0, [za (A 58), za (A 53), za (A 54), za (A 55), za (A 56), za (A 57), zi st, zi al, zi sv])
def ftE (x w b p : Nat) (nd sc be up dn ln : Int) : zE := .inr (1, [za x, za w, za b, zi nd, zj sc, za p, zj be, zj up, zj dn, zi ln])
def tpE (A : Nat → Nat) (l : Nat) (fl at_ nu na_ : Int) : zE := .inr (6, [za (A 48), zi (l : Int), zi fl, zi at_, zi nu, zi na_])
def odE (A : Nat → Nat) (fr : Int) : zE := .inr (2, [za (A 69), za (A 70), za (A 71), zi fr])
def shE (i : Nat) (he la sz : Int) : zE := .inr (5, [za i, zi he, zi la, zi sz])
def cN (h : xH) (A : Nat → Nat) (th fx d w : Nat) (Y Q : Nat → Int) : Prop := h (A 1) = zcE (ptE (A 2) (A 3) th fx d w) ∧ h (A 2) = zcE (.inl (0, 13, .inl Y)) ∧ h (A 3) = zcE (.inl (0, 3, .inl Q))
def cTp (h : xH) (A : Nat → Nat) (l : Nat) (T : Nat → Int) : Prop := ∃ fl at_ nu na_ : Int, h (A 47) = zcE (tpE A l fl at_ nu na_) ∧ h (A 48) = zcE (.inl (0, 90, .inl T))
def cDr (h : xH) (A : Nat → Nat) : Prop := ∃ th fx d w : Nat, ∃ Y Q : Nat → Int, h (A 49) = zcE (ptE (A 50) (A 51) th fx d w) ∧ h (A 50) = zcE (.inl (0, 13, .inl Y)) ∧ h (A 51) = zcE (.inl (0, 3, .inl Q)) ∧ ∀ j, j < 13 → -99 ≤ Y j ∧ Y j ≤ 99
/-- what a solved exchange holds -/
def SLV (th fx d : Nat) (Y Q : Nat → Int) (st al be up dn ln : Int) (S U D N_ G P : Nat → Int) : Prop := (pop th < d + 2 ∧ EXF th fx d Y Q st al be P) ∨ (d + 2 ≤ pop th ∧ ∃ M lo : Nat, ∃ cs wo lw go fl fu : Nat → Nat, XHY th fx d Y Q M lo cs wo lw go fl fu ∧ EXN fx Y Q M cs wo go st al be up dn ln S U D N_ G P)
def cXr (h : xH) (A : Nat → Nat) (nd sc be up dn ln : Int) (F W B P S U D N_ G : Nat → Int) : Prop := h (A 58) = zcE (ftE (A 59) (A 60) (A 61) (A 62) nd sc be up dn ln) ∧ h (A 59) = zcE (.inl (0, 5, .inl F)) ∧ h (A 60) = zcE (.inl (1, 5, .inl W)) ∧ h (A 61) = zcE (.inl (1, 5, .inl B)) ∧ h (A 62) = zcE (.inl (1, 4, .inl P)) ∧ h (A 53) = zcE (.inl (0, 70, .inl S)) ∧ h (A 54) = zcE (.inl (1, 70, .inl U)) ∧ h (A 55) = zcE (.inl (1, 70, .inl D)) ∧ h (A 56) = zcE (.inl (0, 70, .inl N_)) ∧ h (A 57) = zcE (.inl (0, 70, .inl G))
def cEx (h : xH) (A : Nat → Nat) (th fx d : Nat) (Y Q : Nat → Int) : Prop := ∃ st al sv nd sc be up dn ln : Int, ∃ F W B P S U D N_ G : Nat → Int, h (A 52) = zcE (ehE A st al sv) ∧ cXr h A nd sc be up dn ln F W B P S U D N_ G ∧ (sv = 0 ∨ (sv = 1 ∧ SLV th fx d Y Q st al be up dn ln S U D N_ G P))
def cTr (h : xH) (A : Nat → Nat) : Prop := ∃ nd sc be up dn ln : Int, ∃ F W B P : Nat → Int, h (A 63) = zcE (ftE (A 64) (A 65) (A 66) (A 67) nd sc be up dn ln) ∧ h (A 64) = zcE (.inl (0, 5, .inl F)) ∧ h (A 65) = zcE (.inl (1, 5, .inl W)) ∧ h (A 66) = zcE (.inl (1, 5, .inl B)) ∧ h (A 67) = zcE (.inl (1, 4, .inl P))
def cOd (h : xH) (A : Nat → Nat) : Prop := ∃ fr : Int, ∃ PL SF WY : Nat → Int, h (A 68) = zcE (odE A fr) ∧ h (A 69) = zcE (.inl (0, 8, .inl PL)) ∧ h (A 70) = zcE (.inl (2, 256, .inl SF)) ∧ h (A 71) = zcE (.inl (1, 9, .inl WY)) ∧ ∀ j, j < 256 → SF j = 0 ∨ SF j = 1
def cSh (h : xH) (A : Nat → Nat) (he la sz : Nat → Int) (it : Nat → Nat → Int) : Prop := (∃ f : Nat → Option Nat, h (A 72) = zcE (.inl (3, 4, .inr f)) ∧ ∀ s, s < 4 → f s = some (A (73 + 2 * s))) ∧ ∀ s, s < 4 → h (A (73 + 2 * s)) = zcE (shE (A (74 + 2 * s)) (he s) (la s) (sz s)) ∧ h (A (74 + 2 * s)) = zcE (.inl (1, 24, .inl (it s)))
/-- the class's cells -/
def CWd (h : xH) (A : Nat → Nat) (kt : Int) (n : sn) (s k : Nat) (H : Nat → sn) (kn : sn) (s2 k2 : Nat) (H2 : Nat → sn) (l : Nat) (T : Nat → Int) (he la sz : Nat → Int) (it : Nat → Nat → Int) : Prop :=
  AI A ∧ h (A 0) = zcE (rootE A kt) ∧ cN h A n.1 n.2.1 n.2.2.1 n.2.2.2.1 n.2.2.2.2.1 n.2.2.2.2.2 ∧ (s < 6 ∧ PBk h A 4 s k H) ∧ PT h (A 24) (A 25) (A 26) kn ∧ (s2 < 6 ∧ PBk h A 27 s2 k2 H2) ∧ cTp h A l T ∧ cDr h A ∧ cEx h A n.1 n.2.1 n.2.2.1 n.2.2.2.2.1 n.2.2.2.2.2 ∧ cTr h A ∧ cOd h A ∧ cSh h A he la sz it
theorem zget {g h : xH} {M : zM} (hg : g = zov M h) (hD : (M.map Prod.fst).Nodup) (i : Nat) {a : Nat} {c : zE} (hi : M[i]? = some (a, c)) : g a = zcE c := by
  rw [hg]
  exact zov_get hD i hi
section
variable {g h : xH} {A : Nat → Nat}
theorem cN_cg {th fx d w : Nat} {Y Q : Nat → Int} (hW : cN h A th fx d w Y Q) (e : ∀ i, 1 ≤ i → i < 4 → g (A i) = h (A i)) : cN g A th fx d w Y Q :=
  ⟨(e 1 (by decide) (by decide)).trans hW.1, (e 2 (by decide) (by decide)).trans hW.2.1, (e 3 (by decide) (by decide)).trans hW.2.2⟩
theorem kn_cg {kn : sn} (hW : PT h (A 24) (A 25) (A 26) kn) (e : ∀ i, 24 ≤ i → i < 27 → g (A i) = h (A i)) : PT g (A 24) (A 25) (A 26) kn :=
  PT_congr hW (e 24 (by decide) (by decide)) (e 25 (by decide) (by decide)) (e 26 (by decide) (by decide))
theorem cTp_cg {l : Nat} {T : Nat → Int} (hW : cTp h A l T) (e : ∀ i, 47 ≤ i → i < 49 → g (A i) = h (A i)) : cTp g A l T := by
  obtain ⟨fl, at_, nu, na_, h1, h2⟩ := hW
  exact ⟨fl, at_, nu, na_, (e 47 (by decide) (by decide)).trans h1, (e 48 (by decide) (by decide)).trans h2⟩
theorem cDr_cg (hW : cDr h A) (e : ∀ i, 49 ≤ i → i < 52 → g (A i) = h (A i)) : cDr g A := by
  obtain ⟨th, fx, d, w, Y, Q, h1, h2, h3, h4⟩ := hW
  exact ⟨th, fx, d, w, Y, Q, (e 49 (by decide) (by decide)).trans h1, (e 50 (by decide) (by decide)).trans h2, (e 51 (by decide) (by decide)).trans h3, h4⟩
theorem cXr_cg {nd sc be up dn ln : Int} {F W B P S U D N_ G : Nat → Int} (hW : cXr h A nd sc be up dn ln F W B P S U D N_ G) (e : ∀ i, 53 ≤ i → i < 63 → g (A i) = h (A i)) : cXr g A nd sc be up dn ln F W B P S U D N_ G := by
  obtain ⟨h0, h1, h2, h3, h4, h5, h6, h7, h8, h9⟩ := hW
  exact ⟨(e 58 (by decide) (by decide)).trans h0, (e 59 (by decide) (by decide)).trans h1, (e 60 (by decide) (by decide)).trans h2, (e 61 (by decide) (by decide)).trans h3, (e 62 (by decide) (by decide)).trans h4, (e 53 (by decide) (by decide)).trans h5, (e 54 (by decide) (by decide)).trans h6, (e 55 (by decide) (by decide)).trans h7, (e 56 (by decide) (by decide)).trans h8, (e 57 (by decide) (by decide)).trans h9⟩
theorem cEx_cg {th fx d : Nat} {Y Q : Nat → Int} (hW : cEx h A th fx d Y Q) (e : ∀ i, 52 ≤ i → i < 63 → g (A i) = h (A i)) : cEx g A th fx d Y Q := by
  obtain ⟨st, al, sv, nd, sc, be, up, dn, ln, F, W, B, P, S, U, D, N_, G, h1, h2, h3⟩ := hW
  exact ⟨st, al, sv, nd, sc, be, up, dn, ln, F, W, B, P, S, U, D, N_, G, (e 52 (by decide) (by decide)).trans h1, cXr_cg h2 (fun i h1 h2 => e i (by omega) h2), h3⟩
/-- an exchange that has to run again -/
theorem cEx_un {th fx d th2 fx2 d2 : Nat} {Y Q Y2 Q2 : Nat → Int} {st al : Int} (hW : cEx h A th fx d Y Q) (h0 : g (A 52) = zcE (ehE A st al 0)) (e : ∀ i, 53 ≤ i → i < 63 → g (A i) = h (A i)) : cEx g A th2 fx2 d2 Y2 Q2 := by
  obtain ⟨st1, al1, sv, nd, sc, be, up, dn, ln, F, W, B, P, S, U, D, N_, G, h1, h2, h3⟩ := hW
  exact ⟨st, al, 0, nd, sc, be, up, dn, ln, F, W, B, P, S, U, D, N_, G, h0, cXr_cg h2 e, Or.inl rfl⟩
theorem cTr_cg (hW : cTr h A) (e : ∀ i, 63 ≤ i → i < 68 → g (A i) = h (A i)) : cTr g A := by
  obtain ⟨nd, sc, be, up, dn, ln, F, W, B, P, h1, h2, h3, h4, h5⟩ := hW
  exact ⟨nd, sc, be, up, dn, ln, F, W, B, P, (e 63 (by decide) (by decide)).trans h1, (e 64 (by decide) (by decide)).trans h2, (e 65 (by decide) (by decide)).trans h3, (e 66 (by decide) (by decide)).trans h4, (e 67 (by decide) (by decide)).trans h5⟩
theorem cOd_cg (hW : cOd h A) (e : ∀ i, 68 ≤ i → i < 72 → g (A i) = h (A i)) : cOd g A := by
  obtain ⟨fr, PL, SF, WY, h1, h2, h3, h4, h5⟩ := hW
  exact ⟨fr, PL, SF, WY, (e 68 (by decide) (by decide)).trans h1, (e 69 (by decide) (by decide)).trans h2, (e 70 (by decide) (by decide)).trans h3, (e 71 (by decide) (by decide)).trans h4, h5⟩
theorem cSh_cg {he la sz : Nat → Int} {it : Nat → Nat → Int} (hW : cSh h A he la sz it) (e : ∀ i, 72 ≤ i → i < 81 → g (A i) = h (A i)) : cSh g A he la sz it := by
  obtain ⟨⟨f, h1, h2⟩, h3⟩ := hW
  exact ⟨⟨f, (e 72 (by decide) (by decide)).trans h1, h2⟩, fun s hs => ⟨(e (73 + 2 * s) (by omega) (by omega)).trans (h3 s hs).1, (e (74 + 2 * s) (by omega) (by omega)).trans (h3 s hs).2⟩⟩
variable {kt : Int} {n : sn} {s k : Nat} {H : Nat → sn} {kn : sn} {s2 k2 : Nat} {H2 : Nat → sn} {l : Nat} {T : Nat → Int} {he la sz : Nat → Int} {it : Nat → Nat → Int}
/-- cells that are the same -/
theorem CW_cg (hW : CWd h A kt n s k H kn s2 k2 H2 l T he la sz it) (e : ∀ i, i < 81 → g (A i) = h (A i)) : CWd g A kt n s k H kn s2 k2 H2 l T he la sz it := by
  obtain ⟨h1, h2, h3, h4, h5, h6, h7, h8, h9, h10, h11, h12⟩ := hW
  exact ⟨h1, (e 0 (by decide)).trans h2, cN_cg h3 (fun i _ q => e i (by omega)), ⟨h4.1, PBk_cg h4.2 (fun i _ q => e i (by omega))⟩, kn_cg h5 (fun i _ q => e i (by omega)), ⟨h6.1, PBk_cg h6.2 (fun i _ q => e i (by omega))⟩, cTp_cg h7 (fun i _ q => e i (by omega)), cDr_cg h8 (fun i _ q => e i (by omega)), cEx_cg h9 (fun i _ q => e i (by omega)), cTr_cg h10 (fun i _ q => e i (by omega)), cOd_cg h11 (fun i _ q => e i (by omega)), cSh_cg h12 (fun i _ q => e i (by omega))⟩
/-- POINTS, past and the exchange's mark are new -/
theorem CW_now (hW : CWd h A kt n s k H kn s2 k2 H2 l T he la sz it) {s3 k3 : Nat} {H3 : Nat → sn} {n3 : sn} {st al : Int} (h0 : g (A 0) = zcE (rootE A kt)) (hN : cN g A n3.1 n3.2.1 n3.2.2.1 n3.2.2.2.1 n3.2.2.2.2.1 n3.2.2.2.2.2) (hP : s3 < 6 ∧ PBk g A 4 s3 k3 H3) (hE : g (A 52) = zcE (ehE A st al 0)) (e : ∀ i, 24 ≤ i → i ≠ 52 → i < 81 → g (A i) = h (A i)) : CWd g A kt n3 s3 k3 H3 kn s2 k2 H2 l T he la sz it := by
  obtain ⟨h1, h2, h3, h4, h5, h6, h7, h8, h9, h10, h11, h12⟩ := hW
  exact ⟨h1, h0, hN, hP, kn_cg h5 (fun i _ q => e i (by omega) (by omega) (by omega)), ⟨h6.1, PBk_cg h6.2 (fun i _ q => e i (by omega) (by omega) (by omega))⟩, cTp_cg h7 (fun i _ q => e i (by omega) (by omega) (by omega)), cDr_cg h8 (fun i _ q => e i (by omega) (by omega) (by omega)), cEx_un h9 hE (fun i _ q => e i (by omega) (by omega) (by omega)), cTr_cg h10 (fun i _ q => e i (by omega) (by omega) (by omega)), cOd_cg h11 (fun i _ q => e i (by omega) (by omega) (by omega)), cSh_cg h12 (fun i _ q => e i (by omega) (by omega) (by omega))⟩
/-- the cells behind a call that noted the past -/
theorem CW_st (hW : CWd h A kt n s k H kn s2 k2 H2 l T he la sz it) {s3 k3 : Nat} {H3 : Nat → sn} {hb : xH} {th fx d w : Nat} {Y Q : Nat → Int} {st al : Int} (hs3 : s3 < 6) (hg : g = zov [((A 0), rootE A kt), ((A 1), ptE (A 2) (A 3) th fx d w), ((A 2), .inl (0, 13, .inl Y)), ((A 3), .inl (0, 3, .inl Q)), ((A 52), ehE A st al 0)] hb) (hP : PBk hb A 4 s3 k3 H3) (hf : ∀ a, (∀ i, i < 24 → a ≠ A i) → a ≠ A 52 → hb a = h a) : CWd g A kt (th, fx, d, w, Y, Q) s3 k3 H3 kn s2 k2 H2 l T he la sz it := by
  have hA := hW.1
  have hD : [(A 0), (A 1), (A 2), (A 3), (A 52)].Nodup := nd_A hA (l := [0, 1, 2, 3, 52]) (by decide) (by decide)
  have ho : ∀ i, i < 81 → i ∉ [0, 1, 2, 3, 52] → g (A i) = hb (A i) := fun i h1 h2 => by
    rw [hg]
    exact A_out hA [0, 1, 2, 3, 52] rfl (by decide) h1 h2
  have hi : ∀ i, 24 ≤ i → i ≠ 52 → i < 81 → hb (A i) = h (A i) := fun i h1 h2 h3 => hf _ (fun j hj q => by have := hA i j h3 (by omega) q; omega) (fun q => h2 (hA i 52 h3 (by decide) q))
  refine CW_now (st := st) (al := al) (n3 := (th, fx, d, w, Y, Q)) hW ?_ ⟨?_, ?_, ?_⟩ ⟨hs3, PBk_cg hP (fun i h1 h2 => ho i (by omega) (by simp only [List.mem_cons, List.not_mem_nil, or_false]; omega))⟩ ?_ (fun i h1 h2 h3 => (ho i h3 (by simp only [List.mem_cons, List.not_mem_nil, or_false]; omega)).trans (hi i h1 h2 h3))
  · exact zget hg hD 0 rfl
  · exact zget hg hD 1 rfl
  · exact zget hg hD 2 rfl
  · exact zget hg hD 3 rfl
  · exact zget hg hD 4 rfl
end
