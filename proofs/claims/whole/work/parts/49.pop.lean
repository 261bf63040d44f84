/-! how many bits are set; cellOdds -/
variable {B C : jA3} {n : Nat}
def bc : Nat → Nat → Nat
  | 0, _ => 0
  | k + 1, a => a % 2 + bc k (a / 2)
theorem and_spl {j a b c d : Nat} (hb : b < 2 ^ j) (hd : d < 2 ^ j) : (2 ^ j * a + b) &&& (2 ^ j * c + d) = 2 ^ j * (a &&& c) + (b &&& d) := by
  apply Nat.eq_of_testBit_eq
  intro i
  have hbd : b &&& d < 2 ^ j := Nat.and_lt_two_pow _ hd
  rw [Nat.testBit_and, Nat.testBit_two_pow_mul_add a hb, Nat.testBit_two_pow_mul_add c hd, Nat.testBit_two_pow_mul_add _ hbd]
  split
  · rw [Nat.testBit_and]
  · rw [Nat.testBit_and]
theorem and_2 {a b c d : Nat} (hb : b < 2) (hd : d < 2) : (2 * a + b) &&& (2 * c + d) = 2 * (a &&& c) + (b &&& d) := and_spl (j := 1) hb hd
theorem and_8 {a b c d : Nat} (hb : b < 256) (hd : d < 256) : (256 * a + b) &&& (256 * c + d) = 256 * (a &&& c) + (b &&& d) := and_spl (j := 8) hb hd
theorem bc_ker : ∀ k a, a < 2 ^ k → a ≠ 0 → (a &&& (a - 1)) < a ∧ bc k (a &&& (a - 1)) + 1 = bc k a
  | 0, a, h, h0 => absurd h (by omega)
  | k + 1, a, h, h0 => by
    have hp : 2 ^ (k + 1) = 2 * 2 ^ k := by rw [Nat.pow_succ]; omega
    rcases Nat.mod_two_eq_zero_or_one a with e | e
    · obtain ⟨c, rfl⟩ : ∃ c, a = 2 * c := ⟨a / 2, by omega⟩
      have hc : c ≠ 0 := by omega
      obtain ⟨i1, i2⟩ := bc_ker k c (by omega) hc
      have e1 : 2 * c &&& (2 * c - 1) = 2 * (c &&& (c - 1)) := by
        have := and_2 (a := c) (b := 0) (c := c - 1) (d := 1) (by omega) (by omega)
        rw [show 2 * (c - 1) + 1 = 2 * c - 1 by omega] at this
        exact this
      rw [e1]
      refine ⟨by omega, ?_⟩
      show 2 * (c &&& (c - 1)) % 2 + bc k (2 * (c &&& (c - 1)) / 2) + 1 = 2 * c % 2 + bc k (2 * c / 2)
      rw [Nat.mul_div_cancel_left _ (by omega), Nat.mul_div_cancel_left _ (by omega)]
      omega
    · obtain ⟨c, rfl⟩ : ∃ c, a = 2 * c + 1 := ⟨a / 2, by omega⟩
      have e1 : 2 * c + 1 &&& (2 * c + 1 - 1) = 2 * c := by
        have := and_2 (a := c) (b := 1) (c := c) (d := 0) (by omega) (by omega)
        rw [Nat.and_self] at this
        exact this
      rw [e1]
      refine ⟨by omega, ?_⟩
      show 2 * c % 2 + bc k (2 * c / 2) + 1 = (2 * c + 1) % 2 + bc k ((2 * c + 1) / 2)
      rw [Nat.mul_div_cancel_left _ (by omega), show (2 * c + 1) / 2 = c by omega]
      omega
theorem bc_0 : ∀ k a, bc k a = 0 → ∀ c, c < k → a / 2 ^ c % 2 = 0
  | 0, _, _, c, hc => absurd hc (Nat.not_lt_zero _)
  | k + 1, a, h, c, hc => by
    have h : a % 2 + bc k (a / 2) = 0 := h
    cases c with
    | zero => rw [Nat.pow_zero, Nat.div_one]; omega
    | succ c =>
      have := bc_0 k (a / 2) (by omega) c (by omega)
      rw [Nat.div_div_eq_div_mul] at this
      rw [Nat.pow_succ, Nat.mul_comm]
      exact this
theorem bc_add : ∀ j k a, bc (j + k) a = bc j a + bc k (a / 2 ^ j)
  | 0, k, a => by rw [Nat.zero_add, Nat.pow_zero, Nat.div_one]; show bc k a = 0 + bc k a; omega
  | j + 1, k, a => by
    rw [Nat.succ_add]
    show a % 2 + bc (j + k) (a / 2) = a % 2 + bc j (a / 2) + bc k (a / 2 ^ (j + 1))
    rw [bc_add j k (a / 2), Nat.div_div_eq_div_mul, Nat.pow_succ, Nat.mul_comm 2]
    omega
theorem bc_mod (a : Nat) : bc 8 (a % 256) = bc 8 a := by
  simp only [bc]
  omega
theorem bc_le : ∀ k a, bc k a ≤ k
  | 0, _ => Nat.le_refl _
  | k + 1, a => by
    have := bc_le k (a / 2)
    show a % 2 + bc k (a / 2) ≤ k + 1
    omega
/-- a mask of n equal bytes -/
def MK (c : Nat) : Nat → Nat
  | 0 => 0
  | n + 1 => 256 * MK c n + c
def S1 (n a : Nat) : Nat := a - ((a / 2) &&& MK 85 n)
def S2 (n x : Nat) : Nat := (x &&& MK 51 n) + ((x / 4) &&& MK 51 n)
def s1 (b : Nat) : Nat := b - ((b / 2) &&& 85)
def s2 (y : Nat) : Nat := (y &&& 51) + ((y / 4) &&& 51)
theorem t85 : ∀ r, r < 2 → ∀ c, c < 128 → (128 * r + c) &&& 85 = c &&& 85 := by decide +kernel
theorem t51 : ∀ r, r < 4 → ∀ c, c < 64 → (64 * r + c) &&& 51 = c &&& 51 := by decide +kernel
theorem t15 : ∀ r, r < 256 → r &&& 15 = r % 16 := by decide +kernel
theorem tN8 : ∀ b, b < 256 → s1 b < 256 ∧ s2 (s1 b) % 16 ≤ 4 ∧ s2 (s1 b) / 16 ≤ 4 ∧ s2 (s1 b) / 16 + s2 (s1 b) % 16 = bc 8 b := by decide +kernel
theorem S1_s {a b : Nat} (hb : b < 256) (n : Nat) : S1 (n + 1) (256 * a + b) = 256 * S1 n a + s1 b := by
  unfold S1 s1
  have e : (256 * a + b) / 2 = 256 * (a / 2) + (128 * (a % 2) + b / 2) := by omega
  rw [e, MK, and_8 (by omega) (by omega), t85 _ (Nat.mod_lt _ (by omega)) _ (by omega)]
  have h1 : a / 2 &&& MK 85 n ≤ a := Nat.le_trans Nat.and_le_left (Nat.div_le_self _ _)
  have h2 : b / 2 &&& 85 ≤ b := Nat.le_trans Nat.and_le_left (Nat.div_le_self _ _)
  omega
theorem S2_s {x y : Nat} (hy : y < 256) (n : Nat) : S2 (n + 1) (256 * x + y) = 256 * S2 n x + s2 y := by
  unfold S2 s2
  have e : (256 * x + y) / 4 = 256 * (x / 4) + (64 * (x % 4) + y / 4) := by omega
  rw [e, MK, and_8 hy (by omega), and_8 (by omega) (by omega), t51 _ (Nat.mod_lt _ (by omega)) _ (by omega)]
  omega
/-- bytes after the second step: a high and a low half, that add up to the byte's bits -/
def YY : Nat → Nat → Nat
  | 0, _ => 0
  | n + 1, a => 256 * YY n (a / 256) + s2 (s1 (a % 256))
theorem YY_eq : ∀ n a, S2 n (S1 n a) = YY n a
  | 0, a => by
    show (S1 0 a &&& 0) + (S1 0 a / 4 &&& 0) = 0
    rw [Nat.and_zero, Nat.and_zero]
  | n + 1, a => by
    have hb : a % 256 < 256 := Nat.mod_lt _ (by omega)
    have e : S1 (n + 1) a = 256 * S1 n (a / 256) + s1 (a % 256) := by
      have := S1_s (a := a / 256) hb n
      rw [show 256 * (a / 256) + a % 256 = a by omega] at this
      exact this
    rw [e, S2_s (tN8 _ hb).1, YY_eq n, YY]
/-- the bits of each byte -/
def ZZ : Nat → Nat → Nat
  | 0, _ => 0
  | n + 1, a => 256 * ZZ n (a / 256) + bc 8 (a % 256)
theorem YZ : ∀ n a, YY n a % 16 ≤ 4 ∧ (YY n a + YY n a / 16) &&& MK 15 n = ZZ n a
  | 0, _ => ⟨by show 0 % 16 ≤ 4; omega, by show (YY 0 _ + YY 0 _ / 16) &&& 0 = 0; rw [Nat.and_zero]⟩
  | n + 1, a => by
    obtain ⟨i1, i2⟩ := YZ n (a / 256)
    obtain ⟨-, t1, t2, t3⟩ := tN8 _ (Nat.mod_lt a (show 256 > 0 by omega))
    show (256 * YY n (a / 256) + s2 (s1 (a % 256))) % 16 ≤ 4 ∧ (256 * YY n (a / 256) + s2 (s1 (a % 256)) + (256 * YY n (a / 256) + s2 (s1 (a % 256))) / 16) &&& (256 * MK 15 n + 15) = 256 * ZZ n (a / 256) + bc 8 (a % 256)
    rw [← t3, ← i2]
    generalize YY n (a / 256) = V at *
    generalize s2 (s1 (a % 256)) = d at *
    generalize MK 15 n = M at *
    clear i2 t3
    have e : 256 * V + d + (256 * V + d) / 16 = 256 * (V + V / 16) + (16 * (V % 16 + d / 16) + (d / 16 + d % 16)) := by omega
    refine ⟨by omega, ?_⟩
    rw [e, and_8 (by omega) (by omega), t15 _ (by omega)]
    omega
theorem q1 {z z1 c0 : Nat} (b0 : c0 ≤ 8) (e0 : z = 256 * z1 + c0) : z / 256 = z1 := by omega
theorem q2 {z z1 z2 z3 c0 c1 c2 : Nat} (b0 : c0 ≤ 8) (b1 : c1 ≤ 8) (b2 : c2 ≤ 8) (e0 : z = 256 * z1 + c0) (e1 : z1 = 256 * z2 + c1) (e2 : z2 = 256 * z3 + c2) : (z + z1) / 65536 = z2 + z3 := by
  have : z + z1 = 65536 * (z2 + z3) + (256 * (c1 + c2) + (c0 + c1)) := by omega
  rw [this, Nat.mul_add_div (by omega), Nat.div_eq_of_lt (by omega), Nat.add_zero]
theorem q3 {z z1 z2 z3 z4 z5 z6 z7 c0 c1 c2 c3 c4 c5 c6 : Nat} (b0 : c0 ≤ 8) (b1 : c1 ≤ 8) (b2 : c2 ≤ 8) (b3 : c3 ≤ 8) (b4 : c4 ≤ 8) (b5 : c5 ≤ 8) (b6 : c6 ≤ 8) (e0 : z = 256 * z1 + c0) (e1 : z1 = 256 * z2 + c1) (e2 : z2 = 256 * z3 + c2) (e3 : z3 = 256 * z4 + c3) (e4 : z4 = 256 * z5 + c4) (e5 : z5 = 256 * z6 + c5) (e6 : z6 = 256 * z7 + c6) : (z + z1 + (z2 + z3)) / 4294967296 = z4 + z5 + (z6 + z7) := by
  have : z + z1 + (z2 + z3) = 4294967296 * (z4 + z5 + (z6 + z7)) + (c0 + 256 * c1 + 65536 * c2 + 16777216 * c3 + (c1 + 256 * c2 + 65536 * c3 + 16777216 * c4) + (c2 + 256 * c3 + 65536 * c4 + 16777216 * c5) + (c3 + 256 * c4 + 65536 * c5 + 16777216 * c6)) := by
    rw [e0, e1, e2, e3, e4, e5, e6]
    omega
  rw [this, Nat.mul_add_div (by omega), Nat.div_eq_of_lt (by omega), Nat.add_zero]
theorem sums8 {z z1 z2 z3 z4 z5 z6 z7 c0 c1 c2 c3 c4 c5 c6 c7 : Nat} (b0 : c0 ≤ 8) (b1 : c1 ≤ 8) (b2 : c2 ≤ 8) (b3 : c3 ≤ 8) (b4 : c4 ≤ 8) (b5 : c5 ≤ 8) (b6 : c6 ≤ 8) (b7 : c7 ≤ 8) (e0 : z = 256 * z1 + c0) (e1 : z1 = 256 * z2 + c1) (e2 : z2 = 256 * z3 + c2) (e3 : z3 = 256 * z4 + c3) (e4 : z4 = 256 * z5 + c4) (e5 : z5 = 256 * z6 + c5) (e6 : z6 = 256 * z7 + c6) (e7 : z7 = c7) : (z + z1 + (z2 + z3) + (z4 + z5 + (z6 + z7))) % 128 = c0 + c1 + c2 + c3 + c4 + c5 + c6 + c7 ∧ z + z1 + (z2 + z3) + (z4 + z5 + (z6 + z7)) < 2 ^ 62 := by
  have w6 : z6 ≤ 2056 := by omega
  have w5 : z5 ≤ 526344 := by omega
  have w4 : z4 ≤ 134744072 := by omega
  have w3 : z3 ≤ 34494482440 := by omega
  have w2 : z2 ≤ 8830587504648 := by omega
  have w1 : z1 ≤ 2260630401189896 := by omega
  have w0 : z ≤ 578721382704613384 := by omega
  refine ⟨?_, by omega⟩
  have : z + z1 + (z2 + z3) + (z4 + z5 + (z6 + z7)) = 128 * (2 * (z1 + z2 + z3 + z4 + z5 + z6 + z7)) + (c0 + c1 + c2 + c3 + c4 + c5 + c6 + c7) := by omega
  rw [this, Nat.mul_add_mod, Nat.mod_eq_of_lt (by omega)]
/-- the last steps -/
theorem last8 (m : Nat) : (ZZ 8 m + ZZ 8 m / 256 + (ZZ 8 m + ZZ 8 m / 256) / 65536 + (ZZ 8 m + ZZ 8 m / 256 + (ZZ 8 m + ZZ 8 m / 256) / 65536) / 4294967296) % 128 = bc 64 m ∧ ZZ 8 m + ZZ 8 m / 256 + (ZZ 8 m + ZZ 8 m / 256) / 65536 + (ZZ 8 m + ZZ 8 m / 256 + (ZZ 8 m + ZZ 8 m / 256) / 65536) / 4294967296 < 2 ^ 62 := by
  have hb : ∀ a, bc 8 (a % 256) ≤ 8 := fun a => bc_le 8 _
  have st : ∀ k a, bc (8 + k) a = bc 8 (a % 256) + bc k (a / 256) := fun k a => by rw [bc_add, bc_mod]
  have eb : bc 64 m = bc 8 (m % 256) + bc 8 (m / 256 % 256) + bc 8 (m / 256 / 256 % 256) + bc 8 (m / 256 / 256 / 256 % 256) + bc 8 (m / 256 / 256 / 256 / 256 % 256) + bc 8 (m / 256 / 256 / 256 / 256 / 256 % 256) + bc 8 (m / 256 / 256 / 256 / 256 / 256 / 256 % 256) + bc 8 (m / 256 / 256 / 256 / 256 / 256 / 256 / 256 % 256) := by
    rw [show bc 64 m = bc (8 + 56) m from rfl, st, show (56 : Nat) = 8 + 48 from rfl, st, show (48 : Nat) = 8 + 40 from rfl, st, show (40 : Nat) = 8 + 32 from rfl, st, show (32 : Nat) = 8 + 24 from rfl, st, show (24 : Nat) = 8 + 16 from rfl, st, show (16 : Nat) = 8 + 8 from rfl, st, ← bc_mod (m / 256 / 256 / 256 / 256 / 256 / 256 / 256)]
    simp only [Nat.add_assoc]
  have e0 : ZZ 8 m = 256 * ZZ 7 (m / 256) + bc 8 (m % 256) := rfl
  have e1 : ZZ 7 (m / 256) = 256 * ZZ 6 (m / 256 / 256) + bc 8 (m / 256 % 256) := rfl
  have e2 : ZZ 6 (m / 256 / 256) = 256 * ZZ 5 (m / 256 / 256 / 256) + bc 8 (m / 256 / 256 % 256) := rfl
  have e3 : ZZ 5 (m / 256 / 256 / 256) = 256 * ZZ 4 (m / 256 / 256 / 256 / 256) + bc 8 (m / 256 / 256 / 256 % 256) := rfl
  have e4 : ZZ 4 (m / 256 / 256 / 256 / 256) = 256 * ZZ 3 (m / 256 / 256 / 256 / 256 / 256) + bc 8 (m / 256 / 256 / 256 / 256 % 256) := rfl
  have e5 : ZZ 3 (m / 256 / 256 / 256 / 256 / 256) = 256 * ZZ 2 (m / 256 / 256 / 256 / 256 / 256 / 256) + bc 8 (m / 256 / 256 / 256 / 256 / 256 % 256) := rfl
  have e6 : ZZ 2 (m / 256 / 256 / 256 / 256 / 256 / 256) = 256 * ZZ 1 (m / 256 / 256 / 256 / 256 / 256 / 256 / 256) + bc 8 (m / 256 / 256 / 256 / 256 / 256 / 256 % 256) := rfl
  have e7 : ZZ 1 (m / 256 / 256 / 256 / 256 / 256 / 256 / 256) = bc 8 (m / 256 / 256 / 256 / 256 / 256 / 256 / 256 % 256) := Nat.zero_add _
  rw [q1 (hb _) e0, q2 (hb _) (hb _) (hb _) e0 e1 e2, q3 (hb _) (hb _) (hb _) (hb _) (hb _) (hb _) (hb _) e0 e1 e2 e3 e4 e5 e6, eb]
  exact sums8 (hb _) (hb _) (hb _) (hb _) (hb _) (hb _) (hb _) (hb _) e0 e1 e2 e3 e4 e5 e6 e7
theorem andL_n (a b : Nat) : lN a &&& lN b = lN (a &&& b) := by
  apply Int64.toBitVec_inj.mp
  rw [Int64.toBitVec_and]
  show BitVec.ofNat 64 a &&& BitVec.ofNat 64 b = BitVec.ofNat 64 (a &&& b)
  apply BitVec.eq_of_getLsbD_eq
  intro i hi
  simp only [BitVec.getLsbD_and, BitVec.getLsbD_ofNat, Nat.testBit_and, hi, decide_true, Bool.true_and]
theorem ush_k : ∀ k, k < 64 → (((nI k).toInt64.toUInt64 &&& Int64.toUInt64 63).toBitVec % 64).toNat = k := by decide +kernel
theorem ssh_k : ∀ k, k < 64 → (((nI k).toInt64 &&& 63).toBitVec.smod 64).toNat = k := by decide +kernel
theorem lush_n {a k : Nat} (ha : a < 2 ^ 64) (hk : k < 64) : jlushr (lN a) (nI k) = lN (a / 2 ^ k) := by
  apply Int64.toBitVec_inj.mp
  show (BitVec.ofNat 64 a) >>> (((nI k).toInt64.toUInt64 &&& Int64.toUInt64 63).toBitVec % 64).toNat = BitVec.ofNat 64 (a / 2 ^ k)
  rw [ush_k k hk]
  apply BitVec.eq_of_toNat_eq
  rw [BitVec.toNat_ushiftRight, BitVec.toNat_ofNat, BitVec.toNat_ofNat, Nat.mod_eq_of_lt ha, Nat.shiftRight_eq_div_pow, Nat.mod_eq_of_lt (Nat.lt_of_le_of_lt (Nat.div_le_self _ _) ha)]
theorem lssh_n {a k : Nat} (ha : a < 2 ^ 63) (hk : k < 64) : jlshr (lN a) (nI k) = lN (a / 2 ^ k) := by
  rw [← lush_n (by omega) hk]
  apply Int64.toBitVec_inj.mp
  show (BitVec.ofNat 64 a).sshiftRight (((nI k).toInt64 &&& 63).toBitVec.smod 64).toNat = (BitVec.ofNat 64 a) >>> (((nI k).toInt64.toUInt64 &&& Int64.toUInt64 63).toBitVec % 64).toNat
  rw [ush_k k hk, ssh_k k hk]
  apply BitVec.sshiftRight_eq_of_msb_false
  rw [BitVec.msb_eq_decide, BitVec.toNat_ofNat, Nat.mod_eq_of_lt (by omega)]
  exact decide_eq_false (by omega)
theorem l2i_n (a : Nat) : (lN a).toInt32 = nI a := by
  apply Int32.toBitVec_inj.mp
  apply BitVec.eq_of_getLsbD_eq
  intro i hi
  rw [l2i_bit _ hi]
  show (BitVec.ofNat 64 a).getLsbD i = (BitVec.ofNat 32 a).getLsbD i
  rw [BitVec.getLsbD_ofNat, BitVec.getLsbD_ofNat, decide_eq_true hi, decide_eq_true (show i < 64 by omega)]
theorem and127 (a : Nat) : nI a &&& 127 = nI (a % 128) := by
  show nI a &&& nI 127 = _
  rw [and_n]
  congr 1
  exact Nat.and_two_pow_sub_one_eq_mod a 7
theorem S1_le (n a : Nat) : S1 n a ≤ a := Nat.sub_le _ _
theorem S2_lt {n x : Nat} (h : x < 2 ^ 61) : S2 n x < 2 ^ 62 := by
  have h1 : x &&& MK 51 n ≤ x := Nat.and_le_left
  have h2 : x / 4 &&& MK 51 n ≤ x := Nat.le_trans Nat.and_le_left (Nat.div_le_self _ _)
  unfold S2
  omega
theorem bc64 {m : Nat} (h : m < 2 ^ 61) : fJ13_bitCount_95d88 (lN m) = nI (bc 64 m) := by
  have e1 : lN m - ((jlushr (lN m) (1 : Int32)) &&& (6148914691236517205 : Int64)) = lN (S1 8 m) := by
    rw [show jlushr (lN m) (1 : Int32) = lN (m / 2) from lush_n (k := 1) (by omega) (by omega), show (6148914691236517205 : Int64) = lN (MK 85 8) from rfl, andL_n, lN_sub (Nat.le_trans Nat.and_le_left (Nat.div_le_self _ _))]
    rfl
  have h1 : S1 8 m < 2 ^ 61 := Nat.lt_of_le_of_lt (S1_le _ _) h
  have e2 : (lN (S1 8 m) &&& (3689348814741910323 : Int64)) + ((jlushr (lN (S1 8 m)) (2 : Int32)) &&& (3689348814741910323 : Int64)) = lN (YY 8 m) := by
    rw [show jlushr (lN (S1 8 m)) (2 : Int32) = lN (S1 8 m / 4) from lush_n (k := 2) (by omega) (by omega), show (3689348814741910323 : Int64) = lN (MK 51 8) from rfl, andL_n, andL_n, lN_add, ← YY_eq]
    rfl
  have h2 : YY 8 m < 2 ^ 62 := by rw [← YY_eq]; exact S2_lt h1
  have e3 : (lN (YY 8 m) + (jlushr (lN (YY 8 m)) (4 : Int32))) &&& (1085102592571150095 : Int64) = lN (ZZ 8 m) := by
    rw [show jlushr (lN (YY 8 m)) (4 : Int32) = lN (YY 8 m / 16) from lush_n (k := 4) (by omega) (by omega), show (1085102592571150095 : Int64) = lN (MK 15 8) from rfl, lN_add, andL_n, (YZ 8 m).2]
  obtain ⟨z1, z2⟩ := last8 m
  unfold fJ13_bitCount_95d88
  rw [e1, e2, e3, show jlushr (lN (ZZ 8 m)) (8 : Int32) = lN (ZZ 8 m / 256) from lush_n (k := 8) (by omega) (by omega), lN_add]
  rw [show jlushr (lN (ZZ 8 m + ZZ 8 m / 256)) (16 : Int32) = lN ((ZZ 8 m + ZZ 8 m / 256) / 65536) from lush_n (k := 16) (by omega) (by omega), lN_add]
  rw [show jlushr (lN (ZZ 8 m + ZZ 8 m / 256 + (ZZ 8 m + ZZ 8 m / 256) / 65536)) (32 : Int32) = lN ((ZZ 8 m + ZZ 8 m / 256 + (ZZ 8 m + ZZ 8 m / 256) / 65536) / 4294967296) from lush_n (k := 32) (by omega) (by omega), lN_add]
  rw [l2i_n, and127, z1]
theorem ker64 {A : jA3} {l3 l6 : Int32} {l7 : Int64} : ∀ m c, m < 2 ^ 61 → jwh (cX11_cellOdds_88 A l3 l6 l7) (lN c, lN m) = some (lN (c + bc 64 m)) := by
  intro m
  induction m using Nat.strongRecOn with
  | ind m ih =>
    intro c hm
    by_cases h0 : m = 0
    · subst h0
      exact jwh_out rfl
    · obtain ⟨h1, h2⟩ := bc_ker 64 m (by omega) h0
      have e : cX11_cellOdds_88 A l3 l6 l7 (lN c, lN m) = some (.inl (lN (c + 1), lN (m &&& (m - 1)))) := by
        show (if (lg_cmp (lN m) (0 : Int64)) = 0 then _ else some (Sum.inl (lN c + 1, lN m &&& (lN m - 1)))) = _
        rw [if_neg (by
          rw [cmp_0, show (0 : Int64) = lN 0 from rfl, pk_lEQ (by omega) (by omega)]
          exact h0), show (1 : Int64) = lN 1 from rfl, lN_sub (by omega), andL_n, lN_add]
      rw [jwh_go e, ih _ h1 (c + 1) (by omega), show c + 1 + bc 64 (m &&& (m - 1)) = c + (bc 64 (m &&& (m - 1)) + 1) by omega, h2]
theorem and_any (M : Nat) (hM : M < 2 ^ 61) (X : Int64) : ∃ m, m < 2 ^ 61 ∧ lN M &&& X = lN m := by
  refine ⟨M &&& X.toBitVec.toNat, Nat.lt_of_le_of_lt Nat.and_le_left hM, ?_⟩
  rw [← andL_n]
  congr 1
  apply Int64.toBitVec_inj.mp
  show X.toBitVec = BitVec.ofNat 64 X.toBitVec.toNat
  apply BitVec.eq_of_toNat_eq
  rw [BitVec.toNat_ofNat, Nat.mod_eq_of_lt X.toBitVec.isLt]
theorem m_cellOdds (h : Rel B C) (l1 l2 l3 : Int32) (l4 : Int64) (l6 : Int32) : Sim (fun x y => x.1 = y) (fX10_cellOdds B l1 l2 l3 l4 l6) (fX11_cellOdds C l1 l2 l3 l4 l6) := by
  obtain ⟨n, S, D, X, hb⟩ := h.2.2.2.2.2.2.1.un
  unfold fX10_cellOdds fX11_cellOdds
  refine Sim.ii Iff.rfl (fun _ => Sim.rt rfl) (fun q1 => Sim.ii Iff.rfl (fun _ => Sim.rt rfl) (fun q2 => Sim.ii Iff.rfl (fun _ => Sim.rt rfl) (fun q3 => Sim.ii Iff.rfl (fun _ => Sim.rt rfl) (fun q4 => Sim.ii Iff.rfl (fun _ => Sim.rt rfl) (fun q5 => Sim.ii Iff.rfl (fun _ => Sim.rt rfl) (fun q6 => ?_))))))
  obtain ⟨q, hq, rfl⟩ := wn_n (n := 3) rfl q1
  obtain ⟨v, hv, ev⟩ := wn_n (n := 60) rfl q3
  obtain ⟨d, hd, ed⟩ := wn_n (n := 365) rfl q4
  obtain ⟨c, hc, rfl⟩ := wn_n (n := 60) rfl q5
  obtain ⟨p, hp, rfl⟩ := wn_n (n := 1) rfl q6
  rw [ev, ed]
  obtain ⟨⟨x1, x2⟩, y, e1, e2, M, hM, e3, e4⟩ := s_cells hb (show q < 4 by omega) hv hd
  have e3 : x1 = lN M := e3
  subst e3 e4
  rw [e1, e2]
  obtain ⟨m, hm, em⟩ := and_any M hM (l4 ^^^ (-1 : Int64))
  refine Sim.bl rfl <| Sim.br rfl ?_
  show Sim _ (Option.bind (fX10_lowest ((jlushr (lN M &&& (l4 ^^^ (-1 : Int64))) (nI c)) &&& (1 : Int64)) ((fJ13_bitCount_95d88 (lN M &&& (l4 ^^^ (-1 : Int64)))).toInt64) (nI p)) _) _
  have hle := bc_le 64 m
  rw [em, show ((0 : Int64), lN m) = (lN 0, lN m) from rfl, ker64 m 0 hm, bc64 hm, nI_l (by omega), Nat.zero_add, lush_n (by omega) (by omega), lssh_n (by omega) (by omega), show (1 : Int64) = lN 1 from rfl, andL_n, Nat.and_one_is_mod]
  have hs := low_part (z := lN (m / 2 ^ c % 2)) (a := m / 2 ^ c % 2) (b := bc 64 m) (p := nI p) (by omega) (by omega) (Or.inl rfl) (fun e => bc_0 64 m e c (by omega)) (by
    match p, hp with
    | 0, _ => exact Or.inl rfl
    | 1, _ => exact Or.inr rfl)
  refine Sim.br rfl ?_
  refine Sim.ir (fun z => ?_) (fun z => ?_)
  · rw [if_pos z] at hs
    obtain ⟨x, y, f1, f2, f3⟩ := hs
    rw [f1, f2]
    exact Sim.rt f3
  · rw [if_neg z] at hs
    obtain ⟨x, y, f1, f2, f3⟩ := hs
    rw [f1, f2]
    exact Sim.rt f3
