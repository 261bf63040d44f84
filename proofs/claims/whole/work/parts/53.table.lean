/-! rows as numbers, five sayings at the most -/
/-- digit k of x, n digits in base n, the greatest first -/
def dg (n x k : Nat) : Nat := x / n ^ (n - 1 - k) % n
/-- are the lowest k digits of x new, and none in m -/
def vdg (n : Nat) : Nat → Nat → Nat → Bool
  | _, _, 0 => true
  | x, m, k + 1 => bif m.testBit (x % n) then false else vdg n (x / n) (m ||| 2 ^ (x % n)) k
def vd (n x : Nat) : Bool := vdg n x 0 n
def fi (o : Nat → Nat) : Nat → Option Nat
  | 0 => none
  | i + 1 => bif Nat.ble (o i) (o (i + 1)) then some i else fi o i
def fj (o : Nat → Nat) (i : Nat) : Nat → Nat
  | 0 => 0
  | j + 1 => bif Nat.ble (j + 1) i then j + 1 else bif Nat.ble (o i) (o (j + 1)) then j + 1 else fj o i j
def rv : Nat → (Nat → Nat) → Nat → Nat → Nat → Nat
  | 0, o, _, _ => o
  | f + 1, o, a, b => bif Nat.ble b a then o else rv f (sw o a b) (a + 1) (b - 1)
def nxt (n : Nat) (o : Nat → Nat) : Option (Nat → Nat) := match fi o (n - 1) with
  | none => none
  | some i => some (rv n (sw o i (fj o i (n - 1))) (i + 1) (n - 1))
def numr (n : Nat) (o : Nat → Nat) : Nat → Nat
  | 0 => 0
  | k + 1 => numr n o k * n + o k
/-- for all below -/
def fa (p : Nat → Bool) : Nat → Bool
  | 0 => true
  | k + 1 => bif p k then fa p k else false
theorem fa_at {p : Nat → Bool} : ∀ {N : Nat}, fa p N = true → ∀ k, k < N → p k = true
  | 0, _, k, hk => absurd hk (Nat.not_lt_zero _)
  | N + 1, h, k, hk => by
    unfold fa at h
    cases hp : p N with
    | false => rw [hp] at h; cases h
    | true =>
      rw [hp] at h
      by_cases e : k = N
      · rw [e]; exact hp
      · exact fa_at h k (by omega)
def df (n x : Nat) : Bool := fa (fun k => fa (fun j => !Nat.beq (dg n x j) (dg n x k)) k) n
def gp (n x z : Nat) : Bool := fa (fun d => !vd n (x + 1 + d)) (z - x - 1)
def tb (n x : Nat) : Bool := bif vd n x then df n x && (match nxt n (dg n x) with
  | none => gp n x (n ^ n)
  | some o => Nat.blt x (numr n o n) && Nat.blt (numr n o n) (n ^ n) && vd n (numr n o n) && fa (fun k => Nat.beq (o k) (dg n (numr n o n) k)) n && gp n x (numr n o n)) else true
def fst (n : Nat) : Bool := vd n (numr n (fun k => k) n) && Nat.blt (numr n (fun k => k) n) (n ^ n) && fa (fun k => Nat.beq k (dg n (numr n (fun k => k) n) k)) n && fa (fun d => !vd n d) (numr n (fun k => k) n)
def cnt (n : Nat) : Nat → Nat
  | 0 => 0
  | x + 1 => bif vd n x then cnt n x + 1 else cnt n x
theorem t_fst : ∀ n, n ≤ 5 → fst n = true := by decide +kernel
theorem t_tb : ∀ n, n ≤ 5 → fa (tb n) (n ^ n) = true := by decide +kernel
theorem t_cnt : ∀ n, n ≤ 5 → cnt n (n ^ n) ≤ 120 := by decide +kernel
