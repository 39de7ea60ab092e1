/-! lost of both -/
section
variable {R : Nat → Int} {th fx d w s t b : Nat} {Y Q : Nat → Int}
theorem lev_same (hK : KR R th fx d w Y Q) (hC : COK th fx d w Y Q) (hQ : NPL th Q) (ht : t < 8192) (hrt : refP R t) (hb : b < 8192) (hrb : refP R b) : cmpV ((aOf R t).natAbs : Int) (bOf R t) ((aOf R b).natAbs : Int) (bOf R b) = 0 ↔ (aOf R t).natAbs = (aOf R b).natAbs ∧ bOf R t = bOf R b := by
  have h1 := a_cop hK hC hQ ht hrt
  have h2 := a_cop hK hC hQ hb hrb
  have h3 := (ab_bd hK hC hQ ht hrt).2.1
  have h4 := (ab_bd hK hC hQ hb hrb).2.1
  have hc := cmpV_c ((aOf R t).natAbs : Int) (bOf R t) ((aOf R b).natAbs : Int) (bOf R b)
  constructor
  · intro h
    have e : ((aOf R t).natAbs : Int) * bOf R b = ((aOf R b).natAbs : Int) * bOf R t := by
      rcases hc with c | c | c
      · omega
      · exact c.2
      · omega
    have e2 : (aOf R t).natAbs * (bOf R b).natAbs = (aOf R b).natAbs * (bOf R t).natAbs := by
      have e3 := congrArg Int.natAbs e
      rw [Int.natAbs_mul, Int.natAbs_mul, Int.natAbs_natCast, Int.natAbs_natCast] at e3
      exact e3
    have h5 := cop_eq (by omega) (by omega) h1 h2 e2
    exact ⟨h5.1, by omega⟩
  · rintro ⟨e1, e2⟩
    rw [e1, e2]
    unfold cmpV
    rw [if_neg (Int.lt_irrefl _), if_pos rfl]
theorem free_R (hK : KR R th fx d w Y Q) (hC : COK th fx d w Y Q) : mk (kindB R 1) = bdiff th fx := by
  refine (mk_congr (fun p hp => ?_)).trans (mk_bt (bd_lt hC.1))
  have h1 := hK.1 p hp
  have h2 := hC.2.2.2.2.1 p
  have h3 := bt_lt th p
  have h4 := bt_diff th fx p
  refine decide_eq_decide.mpr ⟨fun q => by omega, fun q => ⟨by omega, Or.inr (by omega)⟩⟩
theorem ref_in (hK : KR R th fx d w Y Q) (hC : COK th fx d w Y Q) (ht : t < 8192) : refP R t ↔ (∀ p, bt t p = 1 → bt (bdiff th fx) p = 1) ∧ (pop t : Int) = (d : Int) + 2 - (pop fx : Int) := by
  rw [KR_ref hK hC ht]
  constructor
  · rintro ⟨h1, h2⟩
    exact ⟨fun p hp => by have := h1 p hp; rw [bt_diff]; omega, h2⟩
  · rintro ⟨h1, h2⟩
    refine ⟨fun p hp => ?_, h2⟩
    have h3 := h1 p hp
    rw [bt_diff] at h3
    have := bt_lt th p
    omega
theorem fr8 (hC : COK th fx d w Y Q) : (lk (bdiff th fx) 13).length ≤ 8 ∧ popN (bdiff th fx) 13 ≤ 8 := by
  have h1 : pop (bdiff th fx) ≤ pop th := popN_mono (fun p _ => by rw [bt_diff]; omega)
  have h2 := lk_len (bdiff th fx) 13
  have h3 := hC.2.2.2.2.2.2.1
  have h4 : pop (bdiff th fx) = popN (bdiff th fx) 13 := rfl
  omega
theorem tp_70 (hK : KR R th fx d w Y Q) (hC : COK th fx d w Y Q) (b : Nat) : (plB (tpB R b) 8192).length ≤ 70 := by
  have h8 := (fr8 hC).2
  have hpf := hC.2.2.2.2.2.1
  have hd := hC.2.2.1
  refine ref_70 (f := bdiff th fx) (m := d + 2 - pop fx) (c := nfP (plB (tpB R b) 8192)) h8 (by omega) (fun i hi => ?_) (fun i j hij hj => ?_)
  · have h1 := plB_mem.mp (nfP_in hi)
    have h2 := tpB_i h1.2
    have h3 := (ref_in hK hC h1.1).mp h2.1
    refine ⟨h1.1, fun p hp => ⟨?_, h3.1 p hp⟩, by omega⟩
    by_cases c : p < 13
    · exact c
    · have := bt_big (k := 13) (p := p) h1.1 (by omega)
      omega
  · have hp : (plB (tpB R b) 8192).Pairwise (fun a b => a < b) := by
      unfold plB
      exact List.Pairwise.filter _ List.pairwise_lt_range
    have h2 := List.pairwise_iff_getElem.mp hp i j (by omega) hj hij
    simp only [nfP, List.getD_eq_getElem?_getD, List.getElem?_eq_getElem hj, List.getElem?_eq_getElem (show i < (plB (tpB R b) 8192).length by omega), Option.getD_some]
    omega
theorem ms_nz {l : List Nat} {up dn n : Int} {m : Nat} : msF fx Y Q l up dn n m ≠ 0 ↔ (pop m : Int) = n ∧ cU fx Y Q (soN l m l.length) = up ∧ cD fx Y Q (soN l m l.length) = dn := by
  unfold msF
  by_cases c : (pop m : Int) = n ∧ cU fx Y Q (soN l m l.length) = up ∧ cD fx Y Q (soN l m l.length) = dn
  · rw [if_pos c]
    exact ⟨fun _ => c, fun _ => by decide⟩
  · rw [if_neg c]
    exact ⟨fun q => absurd rfl q, fun q => absurd q c⟩
theorem pop_m {n m : Nat} (hn : n ≤ 8) (hm : m < 2 ^ n) : pop m = popN m n := pop_hi0 hm 13 (by omega)
/-- a set's mark: some reference within it has the best's level -/
theorem mark_eq (hK : KR R th fx d w Y Q) (hC : COK th fx d w Y Q) (hQ : NPL th Q) (hb : b < 8192) (hrb : refP R b) {up dn : Int} (hup : up = ((aOf R b).natAbs : Int)) (hdn : dn = bOf R b) {SF : Nat → Int} {m : Nat} (hm : m < 2 ^ (lk (bdiff th fx) 13).length) : anV (plB (tpB R b) 8192) (soN (lk (bdiff th fx) 13) m (lk (bdiff th fx) 13).length) (plB (tpB R b) 8192).length ≠ 0 ↔ spA (cpF (msF fx Y Q (lk (bdiff th fx) 13) up dn ((d : Int) + 2 - (pop fx : Int))) SF (2 ^ (lk (bdiff th fx) 13).length)) (2 ^ (lk (bdiff th fx) 13).length) (lk (bdiff th fx) 13).length m ≠ 0 := by
  have h8 := (fr8 hC).1
  have hso : ∀ m, soN (lk (bdiff th fx) 13) m (lk (bdiff th fx) 13).length < 8192 := fun m => soN_lt (fun j hj => (lk_lt hj).1) _ (Nat.le_refl _)
  have hlv : ∀ t, t < 8192 → refP R t → (cmpV ((aOf R t).natAbs : Int) (bOf R t) ((aOf R b).natAbs : Int) (bOf R b) = 0 ↔ cU fx Y Q t = up ∧ cD fx Y Q t = dn) := fun t ht hrt => by
    rw [lev_same hK hC hQ ht hrt hb hrb]
    have h := ans_step hK hC hQ ht hrt
    rw [← h.1, ← h.2, hup, hdn]
    constructor
    · rintro ⟨e1, e2⟩
      exact ⟨by rw [e1], e2⟩
    · rintro ⟨e1, e2⟩
      exact ⟨by omega, e2⟩
  rw [an_all, spA_all h8 _ (Nat.le_refl _) m hm]
  constructor
  · rintro ⟨i, hi, hs⟩
    have h1 := plB_mem.mp (nfP_in hi)
    have h2 := tpB_i h1.2
    have h3 := (ref_in hK hC h1.1).mp h2.1
    generalize nfP (plB (tpB R b) 8192) i = t at *
    obtain ⟨m2, hm2, e⟩ := soN_to h1.1 h3.1 h8
    have hsub := (and_sub h1.1).mp hs
    have hpm := soN_pop (f := bdiff th fx) (m := m2) _ (Nat.le_refl _)
    refine ⟨m2, hm2, ?_, fun j hj => ?_, fun j hj => ?_⟩
    · have e2 : cpF (msF fx Y Q (lk (bdiff th fx) 13) up dn ((d : Int) + 2 - (pop fx : Int))) SF (2 ^ (lk (bdiff th fx) 13).length) m2 = msF fx Y Q (lk (bdiff th fx) 13) up dn ((d : Int) + 2 - (pop fx : Int)) m2 := if_pos hm2
      rw [e2, ms_nz, e]
      rw [e] at hpm
      refine ⟨?_, (hlv t h1.1 h2.1).mp h2.2⟩
      rw [pop_m h8 hm2, ← hpm]
      exact h3.2
    · have hb1 := bt_lt m2 j
      by_cases c : bt m2 j = 1
      · have h5 := (soN_one (m := m2) hj).mpr c
        rw [e] at h5
        have h6 := (soN_one (m := m) hj).mp (hsub _ (lk_lt hj).1 h5)
        omega
      · omega
    · rw [bt_big hm2 hj, bt_big hm hj]
  · rintro ⟨m2, hm2, h1, h2, h3⟩
    have e2 : cpF (msF fx Y Q (lk (bdiff th fx) 13) up dn ((d : Int) + 2 - (pop fx : Int))) SF (2 ^ (lk (bdiff th fx) 13).length) m2 = msF fx Y Q (lk (bdiff th fx) 13) up dn ((d : Int) + 2 - (pop fx : Int)) m2 := if_pos hm2
    rw [e2, ms_nz] at h1
    have hpm := soN_pop (f := bdiff th fx) (m := m2) _ (Nat.le_refl _)
    have ht := hso m2
    have hrt : refP R (soN (lk (bdiff th fx) 13) m2 (lk (bdiff th fx) 13).length) := (ref_in hK hC ht).mpr ⟨fun p hp => (soN_in hp).2, by rw [hpm, ← pop_m h8 hm2]; exact h1.1⟩
    have htp := tpB_t (b := b) hrt ((hlv _ ht hrt).mpr h1.2)
    have hmem : soN (lk (bdiff th fx) 13) m2 (lk (bdiff th fx) 13).length ∈ plB (tpB R b) 8192 := plB_mem.mpr ⟨ht, htp⟩
    obtain ⟨i, hi, e⟩ := List.getElem_of_mem hmem
    refine ⟨i, hi, ?_⟩
    have e3 : nfP (plB (tpB R b) 8192) i = soN (lk (bdiff th fx) 13) m2 (lk (bdiff th fx) 13).length := by
      simp only [nfP, List.getD_eq_getElem?_getD, List.getElem?_eq_getElem hi, Option.getD_some]
      exact e
    rw [e3, and_sub ht]
    intro p hp hb1
    obtain ⟨j, j1, j2, j3⟩ := soN_bt.mp hb1
    rw [← j3]
    have h5 := h2 j j1
    have h6 := bt_lt m j
    exact (soN_one j1).mpr (by omega)
theorem lo_sum (R : Nat → Int) (b : Nat) (c : Int) : ∀ T, loU R b c T = sumN (fun t => if bdiff t (mk (kindB R 1)) = 0 then (if anV (plB (tpB R b) 8192) t (plB (tpB R b) 8192).length ≠ 0 then prN c (mk (kindB R 1)) t 13 else 0) else 0) T
  | 0 => rfl
  | T + 1 => by
    rw [loU, sumN, lo_sum R b c T]
    generalize plB (tpB R b) 8192 = LL
    refine congrArg (HAdd.hAdd _) ?_
    by_cases a : bdiff T (mk (kindB R 1)) = 0
    · rw [if_pos a]
      by_cases e : anV (LL) T (LL).length ≠ 0
      · rw [if_pos ⟨e, a⟩, if_pos e]
      · rw [if_neg (fun q => e q.1), if_neg e]
    · rw [if_neg a, if_neg (fun q => a q.2)]
/-- the odds, the class's and the reference's -/
theorem lost_sum (hK : KR R th fx d w Y Q) (hC : COK th fx d w Y Q) (hQ : NPL th Q) (hb : b < 8192) (hrb : refP R b) {up dn c : Int} (hup : up = ((aOf R b).natAbs : Int)) (hdn : dn = bOf R b) {SF WY : Nat → Int} : loU R b c 8192 = sumN (fun m => (if spA (cpF (msF fx Y Q (lk (bdiff th fx) 13) up dn ((d : Int) + 2 - (pop fx : Int))) SF (2 ^ (lk (bdiff th fx) 13).length)) (2 ^ (lk (bdiff th fx) 13).length) (lk (bdiff th fx) 13).length m ≠ 0 then 1 else 0) * (pwZ (10 - c) (pop m) * pwZ c ((lk (bdiff th fx) 13).length - pop m))) (2 ^ (lk (bdiff th fx) 13).length) ∧
    loU R b c 8192 = abN (wyA WY (spA (cpF (msF fx Y Q (lk (bdiff th fx) 13) up dn ((d : Int) + 2 - (pop fx : Int))) SF (2 ^ (lk (bdiff th fx) 13).length)) (2 ^ (lk (bdiff th fx) 13).length) (lk (bdiff th fx) 13).length) (2 ^ (lk (bdiff th fx) 13).length)) c (lk (bdiff th fx) 13).length ((lk (bdiff th fx) 13).length + 1) := by
  have h8 := fr8 hC
  have hln := lk_len (bdiff th fx) 13
  have e1 : loU R b c 8192 = sumN (fun m => (if spA (cpF (msF fx Y Q (lk (bdiff th fx) 13) up dn ((d : Int) + 2 - (pop fx : Int))) SF (2 ^ (lk (bdiff th fx) 13).length)) (2 ^ (lk (bdiff th fx) 13).length) (lk (bdiff th fx) 13).length m ≠ 0 then 1 else 0) * (pwZ (10 - c) (pop m) * pwZ c ((lk (bdiff th fx) 13).length - pop m))) (2 ^ (lk (bdiff th fx) 13).length) := by
    have hsm := fun (L : List Nat) => sum_masks (bdiff th fx) 13 (Nat.le_refl _) h8.2 (fun t => if anV L t L.length ≠ 0 then prN c (bdiff th fx) t 13 else 0)
    rw [show (2 : Nat) ^ 13 = 8192 from by decide] at hsm
    have hmk := fun (m : Nat) (hm : m < 2 ^ (lk (bdiff th fx) 13).length) => mark_eq (SF := SF) hK hC hQ hb hrb hup hdn hm
    rw [lo_sum, free_R hK hC]
    generalize plB (tpB R b) 8192 = LL at *
    refine (hsm LL).trans (sumN_congr (fun m hm => ?_))
    have hmk := hmk m hm
    have hpm := soN_pop (f := bdiff th fx) (m := m) _ (Nat.le_refl _)
    have hpr := (pr_pw (c := c) (f := bdiff th fx) (t := soN (lk (bdiff th fx) 13) m (lk (bdiff th fx) 13).length) (fun p hp => (soN_in hp).2) 13).2
    by_cases a : anV (LL) (soN (lk (bdiff th fx) 13) m (lk (bdiff th fx) 13).length) (LL).length ≠ 0
    · rw [if_pos (hmk.mp a), Int.one_mul, pop_m h8.1 hm, ← hpm]
      rw [← hln] at hpr
      exact (if_pos a).trans hpr
    · rw [if_neg (fun q => a (hmk.mpr q)), Int.zero_mul]
      exact if_neg a
  refine ⟨e1, ?_⟩
  rw [ab_sum, e1]
  have hpo : ∀ m, m < 2 ^ (lk (bdiff th fx) 13).length → pop m < (lk (bdiff th fx) 13).length + 1 := fun m hm => by
    rw [pop_m h8.1 hm]
    have := popN_le m (lk (bdiff th fx) 13).length
    omega
  have hn9 : (lk (bdiff th fx) 13).length + 1 ≤ 9 := by omega
  generalize spA (cpF (msF fx Y Q (lk (bdiff th fx) 13) up dn ((d : Int) + 2 - (pop fx : Int))) SF (2 ^ (lk (bdiff th fx) 13).length)) (2 ^ (lk (bdiff th fx) 13).length) (lk (bdiff th fx) 13).length = SF2
  generalize (lk (bdiff th fx) 13).length = n at *
  exact (wy_all (WY := WY) (SF := SF2) (H := fun i => pwZ (10 - c) i * pwZ c (n - i)) hn9 (2 ^ n) hpo).symm
theorem pw_b {b : Int} (hb : 0 ≤ b ∧ b ≤ 10) : ∀ n, 0 ≤ pwZ b n ∧ pwZ b n ≤ pwZ 10 n
  | 0 => ⟨show (0 : Int) ≤ 1 by decide, Int.le_refl 1⟩
  | n + 1 => by
    have ih := pw_b hb n
    rw [pwZ, pwZ]
    exact ⟨Int.mul_nonneg ih.1 hb.1, Int.mul_le_mul ih.2 hb.2 hb.1 (by omega)⟩
theorem pw_8 : ∀ n, n < 9 → 0 < pwZ 10 n ∧ pwZ 10 n ≤ 100000000 := by decide +kernel
theorem lost_bd {SF : Nat → Int} {c : Int} (hc : 0 ≤ c ∧ c ≤ 10) {n : Nat} (hn : n ≤ 8) : 0 ≤ sumN (fun m => (if SF m ≠ 0 then 1 else 0) * (pwZ (10 - c) (pop m) * pwZ c (n - pop m))) (2 ^ n) ∧ sumN (fun m => (if SF m ≠ 0 then 1 else 0) * (pwZ (10 - c) (pop m) * pwZ c (n - pop m))) (2 ^ n) ≤ 2560000000000000000 := by
  have h8 := pw8 hn
  have ht : ∀ m, m < 2 ^ n → 0 ≤ (if SF m ≠ 0 then 1 else 0) * (pwZ (10 - c) (pop m) * pwZ c (n - pop m)) ∧ (if SF m ≠ 0 then 1 else 0) * (pwZ (10 - c) (pop m) * pwZ c (n - pop m)) ≤ 10000000000000000 := fun m hm => by
    have hp := pop8 m (by omega)
    have a1 := pw_b (b := 10 - c) (by omega) (pop m)
    have a2 := pw_b hc (n - pop m)
    have a3 := pw_8 (pop m) (by omega)
    have a4 := pw_8 (n - pop m) (by omega)
    have a5 := Int.mul_nonneg a1.1 a2.1
    have a6 := mul_bd (a := pwZ (10 - c) (pop m)) (b := pwZ c (n - pop m)) (A := 100000000) (B := 100000000) (by omega) (by omega) (by omega) (by omega)
    split
    · rw [Int.one_mul]
      omega
    · rw [Int.zero_mul]
      omega
  have h1 := sum_bd (B := 10000000000000000) (fun m hm => ⟨by have := ht m hm; omega, (ht m hm).2⟩) (n := 2 ^ n)
  have h2 := sumN_nn (fun m hm => (ht m hm).1) (n := 2 ^ n)
  have h6 : ((2 ^ n : Nat) : Int) * 10000000000000000 ≤ 256 * 10000000000000000 := Int.mul_le_mul_of_nonneg_right (by omega) (by decide)
  omega
theorem ls_fr {x y : Int} (hx : 0 ≤ x) (hy : 0 < y) {z : Int} (hz : z = 0 ∨ z = 1) : (if z = 0 then fdU x y else (y.natAbs : Int).tdiv (Int.gcd x y : Int)) = frV x y z := by
  have hz2 : ¬ z = 2 := by omega
  unfold frV
  rw [if_neg hz2]
  by_cases c : x = 0
  · rw [if_pos c, c]
    have hg : Int.gcd 0 y = y.natAbs := Int.gcd_zero_left y
    rcases hz with rfl | rfl
    · rw [if_pos rfl, if_pos rfl, fdU, if_neg (by omega), Int.zero_tdiv]
    · rw [if_neg (by decide), if_neg (by decide), hg]
      exact Int.tdiv_self (by omega)
  · rw [if_neg c]
    rcases hz with rfl | rfl
    · rw [if_pos rfl, if_pos rfl, fdU, if_neg (by omega), Int.natAbs_of_nonneg hx]
    · rw [if_neg (by decide), if_neg (by decide)]
end
section
variable {A : Nat → Nat} {g h : xH} {kt : Int} {th fx d w : Nat} {Y Q : Nat → Int} {s k : Nat} {H : Nat → sn} {kn : sn} {s2 k2 : Nat} {H2 : Nat → sn} {l : Nat} {T he la sz : Nat → Int} {it : Nat → Nat → Int}
theorem CW_lost (hW : CWd h A kt (th, fx, d, w, Y, Q) s k H kn s2 k2 H2 l T he la sz it) {st al nd sc be up dn ln : Int} {F W B P S U D N_ G : Nat → Int} (hs : SLV th fx d Y Q st al be up dn ln S U D N_ G P) {fr nt sct bet upt dnt lnt : Int} {PL SF WY Ft Wt : Nat → Int} (hSF : ∀ j, j < 256 → SF j = 0 ∨ SF j = 1)
    (hg : g = zov [((A 0), rootE A kt), ((A 1), ptE (A 2) (A 3) th fx d w), ((A 2), .inl (0, 13, .inl Y)), ((A 3), .inl (0, 3, .inl Q)), ((A 52), ehE A st al 1), ((A 58), ftE (A 59) (A 60) (A 61) (A 62) nd sc be up dn ln), ((A 59), .inl (0, 5, .inl F)), ((A 60), .inl (1, 5, .inl W)), ((A 61), .inl (1, 5, .inl B)), ((A 62), .inl (1, 4, .inl P)), ((A 53), .inl (0, 70, .inl S)), ((A 54), .inl (1, 70, .inl U)), ((A 55), .inl (1, 70, .inl D)), ((A 56), .inl (0, 70, .inl N_)), ((A 57), .inl (0, 70, .inl G)), ((A 68), odE A fr), ((A 69), .inl (0, 8, .inl PL)), ((A 70), .inl (2, 256, .inl SF)), ((A 71), .inl (1, 9, .inl WY)), ((A 63), ftE (A 64) (A 65) (A 66) (A 67) nt sct bet upt dnt lnt), ((A 64), .inl (0, 5, .inl Ft)), ((A 65), .inl (1, 5, .inl Wt))] h) : CWd g A kt (th, fx, d, w, Y, Q) s k H kn s2 k2 H2 l T he la sz it ∧ KF g h A := by
  have hA := hW.1
  have hD : [(A 0), (A 1), (A 2), (A 3), (A 52), (A 58), (A 59), (A 60), (A 61), (A 62), (A 53), (A 54), (A 55), (A 56), (A 57), (A 68), (A 69), (A 70), (A 71), (A 63), (A 64), (A 65)].Nodup := nd_A hA (l := [0, 1, 2, 3, 52, 58, 59, 60, 61, 62, 53, 54, 55, 56, 57, 68, 69, 70, 71, 63, 64, 65]) (by decide) (by decide)
  have ho : ∀ i, i < 81 → i ∉ [0, 1, 2, 3, 52, 58, 59, 60, 61, 62, 53, 54, 55, 56, 57, 68, 69, 70, 71, 63, 64, 65] → g (A i) = h (A i) := fun i h1 h2 => by
    rw [hg]
    exact A_out hA [0, 1, 2, 3, 52, 58, 59, 60, 61, 62, 53, 54, 55, 56, 57, 68, 69, 70, 71, 63, 64, 65] rfl (by decide) h1 h2
  have ho2 : ∀ i, (4 ≤ i ∧ i < 52) ∨ (66 ≤ i ∧ i < 68) ∨ (72 ≤ i ∧ i < 81) → g (A i) = h (A i) := fun i h1 => ho i (by omega) (by simp only [List.mem_cons, List.not_mem_nil, or_false]; omega)
  constructor
  · obtain ⟨h1, h2, h3, h4, h5, h6, h7, h8, h9, h10, h11, h12⟩ := hW
    obtain ⟨nt0, sct0, bet0, upt0, dnt0, lnt0, Ft0, Wt0, Bt, Pt, t1, t2, t3, t4, t5⟩ := h10
    exact ⟨h1, zget hg hD 0 rfl, ⟨zget hg hD 1 rfl, zget hg hD 2 rfl, zget hg hD 3 rfl⟩, ⟨h4.1, PBk_cg h4.2 (fun i _ q => ho2 i (by omega))⟩, kn_cg h5 (fun i _ q => ho2 i (by omega)), ⟨h6.1, PBk_cg h6.2 (fun i _ q => ho2 i (by omega))⟩, cTp_cg h7 (fun i _ q => ho2 i (by omega)), cDr_cg h8 (fun i _ q => ho2 i (by omega)), ⟨st, al, 1, nd, sc, be, up, dn, ln, F, W, B, P, S, U, D, N_, G, zget hg hD 4 rfl, ⟨zget hg hD 5 rfl, zget hg hD 6 rfl, zget hg hD 7 rfl, zget hg hD 8 rfl, zget hg hD 9 rfl, zget hg hD 10 rfl, zget hg hD 11 rfl, zget hg hD 12 rfl, zget hg hD 13 rfl, zget hg hD 14 rfl⟩, Or.inr ⟨rfl, hs⟩⟩, ⟨nt, sct, bet, upt, dnt, lnt, Ft, Wt, Bt, Pt, zget hg hD 19 rfl, zget hg hD 20 rfl, zget hg hD 21 rfl, (ho2 66 (by omega)).trans t4, (ho2 67 (by omega)).trans t5⟩, ⟨fr, PL, SF, WY, zget hg hD 15 rfl, zget hg hD 16 rfl, zget hg hD 17 rfl, zget hg hD 18 rfl, hSF⟩, cSh_cg h12 (fun i _ q => ho2 i (by omega))⟩
  · rw [hg]
    exact KF_zov [0, 1, 2, 3, 52, 58, 59, 60, 61, 62, 53, 54, 55, 56, 57, 68, 69, 70, 71, 63, 64, 65] rfl (by decide)
end
section
variable {A B : Nat → Nat} {h : xH}
set_option maxHeartbeats 2000000 in
theorem st_lost {x y : Int} (hJ : DJ A B) (hS : ST h A B) (zx : zInI x) (zy : zInI y) : SAME k_X7_lost k_X8_lost [zi x, zi y] h A B := by
  have hS2 := hS
  obtain ⟨kt, ⟨th, fx, d, w, Y, Q⟩, s, k, H, kn, s2, k2, H2, l, T, he, la, sz, it, m, r, hW, hL, hR⟩ := hS
  have hD := DJ_nd hJ m r
  have hA := hW.1
  have hD4 : [(A 0), (A 1), (A 2), (A 3)].Nodup := nd_A hA (l := [0, 1, 2, 3]) (by decide) (by decide)
  have hD5 : [(A 0), (A 1), (A 2), (A 3), (A 52)].Nodup := nd_A hA (l := [0, 1, 2, 3, 52]) (by decide) (by decide)
  have hc1 : h (A 1) = zcE (ptE (A 2) (A 3) th fx d w) := hW.2.2.1.1
  have hc2 : h (A 2) = zcE (.inl (0, 13, .inl Y)) := hW.2.2.1.2.1
  have hc3 : h (A 3) = zcE (.inl (0, 3, .inl Q)) := hW.2.2.1.2.2
  have hcE : cEx h A th fx d Y Q := hW.2.2.2.2.2.2.2.2.1
  obtain ⟨st, al, sv, nd, sc, be, up, dn, ln, F, W, Bb, P, S, U, D, N_, G, hc4, hXr, hsv⟩ := hcE
  have hK : KR (r 1) th fx d w Y Q := hR.1
  have hC : COK th fx d w Y Q := hR.2.1
  have hk := KR_kOK hK
  have hP := hW.2.2.2.1
  have hu := hR.2.2.1
  obtain ⟨x0, x1, x2, x3, x4, x5, x6, x7, x8, x9⟩ := hXr
  have hD10 : [(A 0), (A 1), (A 2), (A 3), (A 52), (A 58), (A 59), (A 60), (A 61), (A 62)].Nodup := nd_A hA (l := [0, 1, 2, 3, 52, 58, 59, 60, 61, 62]) (by decide) (by decide)
  have hD15 : [(A 0), (A 1), (A 2), (A 3), (A 52), (A 58), (A 59), (A 60), (A 61), (A 62), (A 53), (A 54), (A 55), (A 56), (A 57)].Nodup := nd_A hA (l := [0, 1, 2, 3, 52, 58, 59, 60, 61, 62, 53, 54, 55, 56, 57]) (by decide) (by decide)
  obtain ⟨fY, fq, fYQ, fqb⟩ := fit_pre hC
  have hd := hC.2.2.1
  have hm0 : manyN (r 1) 0 13 = pop th := KR_m0 hK hC 13 (Nat.le_refl _)
  by_cases hx : 0 ≤ x ∧ x ≤ 10
  · by_cases hy : 0 ≤ y ∧ y ≤ 1
    · by_cases hpo : mk (poleB th Q) = 0
      · obtain ⟨r1, r2, r3, r4, r5, r6, r7⟩ := ref_pre hK hC hpo
        have hQ := no_pole hpo
        by_cases hm : pop th < d + 2
        · refine same_of (z := zj 1) (n := (th, fx, d, w, Y, Q)) hJ hL (zEv_up (sp_X7_lost_few hW.2.1 hc1 hc2 hc3 hc4 x0 x1 x2 x3 x4 x5 x6 x7 x8 x9 hD15 hx hy hC.1 hC.2.1 hd fY fq fYQ fqb hpo hm (fun e => gSO_all hC e) (sl_few hm hsv)) (fun v g hq => by
            obtain ⟨nd2, sc2, be2, up2, dn2, ln2, al2, F2, W2, B2, P2, hv, hg, hE⟩ := hq
            exact ⟨hv, CW_fit hW (Or.inl ⟨hm, hE⟩) hg⟩)) (fun h2 hL2 hD2 => zEv_up (sp_X8_lost_few hL2 hD2 hx hy r1 r2 r3 r6 (by omega)) (fun v h3 hq => ⟨hq.1, m, r, hq.2.trans (zov_self hL2), hR⟩))
        · have hm : d + 2 ≤ pop th := by omega
          obtain ⟨M, lo, lw, go, fl, fu, hX, hsq, hon, hgo, hmax, hlw, h70⟩ := full_pre hK hC hQ hm
          obtain ⟨hex, hfr⟩ := ref_ex hK hC hm
          have hcM := hsq M (Nat.lt_succ_self M)
          have hst := ans_step hK hC hQ hcM.1 hcM.2
          have hsl := sl_full hX hsv
          have href : ∀ h2 : xH, (∀ q ∈ LM B m r, h2 q.1 = zcE q.2) → zND (LM B m r) → _ := fun h2 hL2 hD2 => sp_X8_lost_ok (h := h2) (A := B) hL2 hD2 hx hy r1 r2 r3 r4 r5 r6 (by omega) hex (fun b _ => tp_70 hK hC b)
          by_cases hz : cU fx Y Q (sq (r 1) d M) = 0
          · refine same_of (z := zj 1) (n := (th, fx, d, w, Y, Q)) hJ hL (zEv_up (sp_X7_lost_zero hW.2.1 hc1 hc2 hc3 hc4 x0 x1 x2 x3 x4 x5 x6 x7 x8 x9 hD15 hx hy hC.1 hC.2.1 hd fY fq fYQ fqb hpo hX hsl hz) (fun v g hq => by
        obtain ⟨nd2, sc2, be2, up2, dn2, ln2, F2, W2, B2, P2, S2, U2, D2, N2_, G2, hv, hg, hE⟩ := hq
        exact ⟨hv, CW_fit hW (Or.inr ⟨hm, M, lo, _, _, lw, go, fl, fu, hX, hE⟩) hg⟩)) (fun h2 hL2 hD2 => zEv_up (href h2 hL2 hD2) (fun v h3 hq => ?_))
            obtain ⟨bs, y1, y2, y3, y4, y5, y6, t_, a_, b_, e1, e2, hv, hg, hb⟩ := hq
            have hbs := best_same hK hC hQ hcM.1 hcM.2 hmax hb
            exact ⟨hv.trans (by rw [lsV, if_pos (show aOf (r 1) bs = 0 by omega)]), _, _, hg, RL_sc hR rfl rfl rfl rfl rfl rfl rfl rfl rfl⟩
          · obtain ⟨fr, PL, SF, WY, o1, o2, o3, o4, o5⟩ := hW.2.2.2.2.2.2.2.2.2.2.1
            obtain ⟨nt, sct, bet, upt, dnt, lnt, Ft, Wt, Bt, Pt, t1, t2, t3, t4, t5⟩ := hW.2.2.2.2.2.2.2.2.2.1
            have hD22 : [(A 0), (A 1), (A 2), (A 3), (A 52), (A 58), (A 59), (A 60), (A 61), (A 62), (A 53), (A 54), (A 55), (A 56), (A 57), (A 68), (A 69), (A 70), (A 71), (A 63), (A 64), (A 65)].Nodup := nd_A hA (l := [0, 1, 2, 3, 52, 58, 59, 60, 61, 62, 53, 54, 55, 56, 57, 68, 69, 70, 71, 63, 64, 65]) (by decide) (by decide)
            have h8 := fr8 hC
            have hbM := ab_bd hK hC hQ hcM.1 hcM.2
            have hls := fun (c : Int) => lost_sum (c := c) (SF := SF) (WY := WY) hK hC hQ hcM.1 hcM.2 (up := cU fx Y Q (sq (r 1) d M)) (dn := cD fx Y Q (sq (r 1) d M)) hst.1.symm hst.2.symm
            have hbd := fun (SF2 : Nat → Int) => lost_bd (SF := SF2) hx (n := (lk (bdiff th fx) 13).length) h8.1
            have hp8 := pw_8 (lk (bdiff th fx) 13).length (by omega)
            have hab := (hls x).1.symm.trans (hls x).2
            refine same_of (z := zj (frV (abN (wyA WY (spA (cpF (msF fx Y Q (lk (bdiff th fx) 13) (cU fx Y Q (sq (r 1) d M)) (cD fx Y Q (sq (r 1) d M)) ((d : Int) + 2 - (pop fx : Int))) SF (2 ^ (lk (bdiff th fx) 13).length)) (2 ^ (lk (bdiff th fx) 13).length) (lk (bdiff th fx) 13).length) (2 ^ (lk (bdiff th fx) 13).length)) x (lk (bdiff th fx) 13).length ((lk (bdiff th fx) 13).length + 1)) (pwZ 10 (lk (bdiff th fx) 13).length) y)) (kt := kt) (n := (th, fx, d, w, Y, Q)) (s := s) (k := k) (H := H) (kn := kn) (s2 := s2) (k2 := k2) (H2 := H2) (l := l) (T := T) (he := he) (la := la) (sz := sz) (it := it) hJ hL (zEv_up (sp_X7_lost_ok (l := lk (bdiff th fx) 13) (a := 2 ^ (lk (bdiff th fx) 13).length) hW.2.1 hc1 hc2 hc3 hc4 x0 x1 x2 x3 x4 x5 x6 x7 x8 x9 o1 o2 o3 o4 t1 t2 t3 hD22 hx hy hC.1 hC.2.1 hd fY fq fYQ fqb hpo hX hsl hz rfl rfl h8.1 o5 (by omega) (by omega) (fun m2 hm2 hp2 => ?_) ?_) (fun v g hq => ?_)) (fun h2 hL2 hD2 => zEv_up (href h2 hL2 hD2) (fun v h3 hq => ?_))
            · have hlt : soN (lk (bdiff th fx) 13) m2 (lk (bdiff th fx) 13).length < 8192 := soN_lt (fun j hj => (lk_lt hj).1) _ (Nat.le_refl _)
              have hpm := soN_pop (f := bdiff th fx) (m := m2) _ (Nat.le_refl _)
              have hrt := (ref_in hK hC hlt).mpr ⟨fun p hp => (soN_in hp).2, by rw [hpm, ← pop_m h8.1 hm2]; exact hp2⟩
              have hs5 := ans_step hK hC hQ hlt hrt
              have hb5 := ab_bd hK hC hQ hlt hrt
              exact ⟨hlt, cSO_all hK hC hQ hlt hrt, ⟨by omega, by omega⟩, ⟨by omega, by omega⟩⟩
            · rw [← hab]
              exact ⟨by have := hbd (spA (cpF (msF fx Y Q (lk (bdiff th fx) 13) (cU fx Y Q (sq (r 1) d M)) (cD fx Y Q (sq (r 1) d M)) ((d : Int) + 2 - (pop fx : Int))) SF (2 ^ (lk (bdiff th fx) 13).length)) (2 ^ (lk (bdiff th fx) 13).length) (lk (bdiff th fx) 13).length); omega, by omega, by omega⟩
            · obtain ⟨nd2, sc2, be2, up2, dn2, ln2, F2, W2, B2, P2, S2, U2, D2, N2_, G2, nd3, sc3, up3, dn3, ln3, F3, W3, hv, hg, hE⟩ := hq
              exact ⟨hv, CW_lost hW (Or.inr ⟨hm, M, lo, _, _, lw, go, fl, fu, hX, hE⟩) (fun j hj => spA_b (msF_bb o5 (msF_c fx Y Q _ _ _ _)) _ _ j hj) hg⟩
            · obtain ⟨bs, y1, y2, y3, y4, y5, y6, t_, a_, b_, e1, e2, hv, hg, hb⟩ := hq
              have hbs := best_same hK hC hQ hcM.1 hcM.2 hmax hb
              have hls2 := lost_sum (c := x) (SF := SF) (WY := WY) hK hC hQ hb.1 hb.2.1 (up := cU fx Y Q (sq (r 1) d M)) (dn := cD fx Y Q (sq (r 1) d M)) (by rw [hbs.1]; exact hst.1.symm) (by rw [hbs.2.1]; exact hst.2.symm)
              have hm1 : manyN (r 1) 1 13 = (lk (bdiff th fx) 13).length := (KR_m1 hK hC 13 (Nat.le_refl _)).trans (lk_len _ _).symm
              have hb0 := hbd (spA (cpF (msF fx Y Q (lk (bdiff th fx) 13) (cU fx Y Q (sq (r 1) d M)) (cD fx Y Q (sq (r 1) d M)) ((d : Int) + 2 - (pop fx : Int))) SF (2 ^ (lk (bdiff th fx) 13).length)) (2 ^ (lk (bdiff th fx) 13).length) (lk (bdiff th fx) 13).length)
              rw [hab] at hb0
              exact ⟨hv.trans (by rw [lsV, if_neg (show ¬ aOf (r 1) bs = 0 by omega), hm1, pw10_z, hls2.2, ls_fr hb0.1 hp8.1 (by omega)]), _, _, hg, RL_sc hR rfl rfl rfl rfl rfl rfl rfl rfl rfl⟩
      · exact same_id hJ hS2 (sp_X7_lost_pole hW.2.1 hc1 hc2 hc3 hD4 hx hy hC.1 fq hpo) (sp_X8_lost_none hL hD hx hy (KR_ROK hK hC) (by rw [KR_pole hK hC]; exact hpo))
    · exact same_id hJ hS2 (sp_X7_lost_bad zx zy (Or.inr hy)) (sp_X8_lost_bad2 hL hD zx zy hx hy)
  · exact same_id hJ hS2 (sp_X7_lost_bad zx zy (Or.inl hx)) (sp_X8_lost_bad1 hL hD zx zy hx)
end
