/-! a check over all sets of at most five places -/
def dN (a b : Nat) : Nat := (a - b) + (b - a)
def qbN (p : Nat) : Nat := 3 + 3 * dN p 6 + 3 * (dN p 6 * dN p 6)
def prM (e : Nat → Nat) (l : List Nat) (i : Nat) : Nat → Nat
  | 0 => 1
  | j + 1 => prM e l i j * (bif Nat.beq j i then 1 else e (nfP l j))
def smM (f : Nat → Nat) : Nat → Nat
  | 0 => 0
  | i + 1 => smM f i + f i
def gcM (f : Nat → Nat) : Nat → Nat
  | 0 => 0
  | i + 1 => Nat.gcd (gcM f i) (f i)
def vM (l : List Nat) (i : Nat) : Nat := 479001600 / prM (dN (nfP l i)) l i l.length
def frc (n : Nat) (k : Nat → Bool) : Bool :=
  match n with
  | 0 => k 0
  | m + 1 => k (m + 1)
theorem frc_e (n : Nat) (k : Nat → Bool) : frc n k = k n := by cases n <;> rfl
def frM (f : Nat → Nat) : List Nat → (List Nat → Bool) → Bool
  | [], k => k []
  | a :: l, k => frc (f a) fun y => frM f l fun ys => k (y :: ys)
theorem frM_e (f : Nat → Nat) : ∀ (l : List Nat) (k : List Nat → Bool), frM f l k = k (l.map f)
  | [], k => rfl
  | a :: l, k => by
    rw [frM, frc_e, frM_e f l]
    rfl
def allP (f : Nat → Bool) : Nat → Bool
  | 0 => true
  | k + 1 => f k && allP f k
theorem allP_ok {f : Nat → Bool} : ∀ {k : Nat}, allP f k = true → ∀ p, p < k → f p = true
  | 0, _, p, hp => absurd hp (Nat.not_lt_zero p)
  | k + 1, h, p, hp => by
    rw [allP, Bool.and_eq_true] at h
    by_cases e : p = k
    · rw [e]; exact h.1
    · exact allP_ok h.2 p (by omega)
def tsM (l vs : List Nat) (A g c : Nat) (e : Nat → Nat) : Bool := Nat.ble (99 * (479001600 * A) * c + 198 * A * smM (fun i => nfP vs i * prM e l i l.length) l.length) (71000000000000000 * (g * g))
def tstM (l : List Nat) : Bool := frM (vM l) (List.range l.length) fun ws => frM (fun i => nfP ws i * qbN (nfP l i)) (List.range l.length) fun vs => frc (smM (nfP vs) l.length) fun A => frc (gcM (nfP ws) l.length) fun g => tsM l vs A g 0 (fun x => 1 + dN x 6) && allP (fun p => tsM l vs A g (qbN p) (dN p)) 13
def ckM : Nat → Nat → List Nat → Bool
  | 0, _, l => tstM l
  | k + 1, b, l => ckM k b l && (match b with
    | 0 => true
    | c + 1 => ckM k c (k :: l))
theorem ckM_s (k b : Nat) (l : List Nat) : ckM (k + 1) (b + 1) l = (ckM k (b + 1) l && ckM k b (k :: l)) := rfl
theorem ck_12 : ckM 12 4 [12] = true := by decide +kernel
theorem ck_11 : ckM 11 4 [11] = true := by decide +kernel
theorem ck_10 : ckM 10 4 [10] = true := by decide +kernel
theorem ck_9 : ckM 9 4 [9] = true := by decide +kernel
theorem ck_8 : ckM 8 4 [8] = true := by decide +kernel
theorem ck_0 : ckM 8 5 [] = true := by decide +kernel
theorem ck_a9 : ckM 9 5 [] = true := (ckM_s 8 4 []).trans (by rw [ck_0, ck_8]; rfl)
theorem ck_a10 : ckM 10 5 [] = true := (ckM_s 9 4 []).trans (by rw [ck_a9, ck_9]; rfl)
theorem ck_a11 : ckM 11 5 [] = true := (ckM_s 10 4 []).trans (by rw [ck_a10, ck_10]; rfl)
theorem ck_a12 : ckM 12 5 [] = true := (ckM_s 11 4 []).trans (by rw [ck_a11, ck_11]; rfl)
theorem ck_all : ckM 13 5 [] = true := (ckM_s 12 4 []).trans (by rw [ck_a12, ck_12]; rfl)
