/-! text: what a token is; the code's tokens -/
variable {B C A : jA3}
def isL (b : Nat) : Bool := Nat.ble 97 b && Nat.ble b 122
def isD (b : Nat) : Bool := Nat.ble 48 b && Nat.ble b 57
def isB (b : Nat) : Bool := Nat.beq b 32 || Nat.beq b 10
def isG (b : Nat) : Bool := Nat.beq b 40 || Nat.beq b 41 || Nat.beq b 59 || Nat.beq b 43 || Nat.beq b 45 || Nat.beq b 42 || Nat.beq b 60 || Nat.beq b 61
/-- on from p while P holds -/
def rn (P : Nat → Bool) (v : Nat → Nat) (z : Nat) : Nat → Nat → Nat
  | 0, p => p
  | f + 1, p => bif Nat.blt p z && P (v p) then rn P v z f (p + 1) else p
theorem rn_stop {P : Nat → Bool} {v : Nat → Nat} {z p : Nat} (h : ¬ (p < z ∧ P (v p) = true)) : ∀ f, rn P v z f p = p
  | 0 => rfl
  | f + 1 => by
    rw [rn]
    cases q : Nat.blt p z && P (v p) with
    | false => rfl
    | true =>
      obtain ⟨q1, q2⟩ := and_b q
      exact absurd ⟨Nat.le_of_ble_eq_true q1, q2⟩ h
theorem blt_t {a b : Nat} (h : a < b) : Nat.blt a b = true := ble_t h
theorem rn_go {P : Nat → Bool} {v : Nat → Nat} {z p f : Nat} (h : p < z) (h2 : P (v p) = true) : rn P v z (f + 1) p = rn P v z f (p + 1) := by
  rw [rn, blt_t h, h2]
  rfl
theorem rn_le {P : Nat → Bool} {v : Nat → Nat} {z : Nat} : ∀ f p, p ≤ z → p ≤ rn P v z f p ∧ rn P v z f p ≤ z
  | 0, p, h => ⟨Nat.le_refl _, h⟩
  | f + 1, p, h => by
    rw [rn]
    cases q : Nat.blt p z && P (v p) with
    | false => exact ⟨Nat.le_refl _, h⟩
    | true =>
      have h1 : p < z := Nat.le_of_ble_eq_true (and_b q).1
      have := rn_le (P := P) (v := v) f (p + 1) h1
      exact ⟨by show p ≤ rn P v z f (p + 1); omega, this.2⟩
/-- where it stops -/
theorem rn_at {P : Nat → Bool} {v : Nat → Nat} {z : Nat} : ∀ f p, z ≤ p + f → ¬ (rn P v z f p < z ∧ P (v (rn P v z f p)) = true)
  | 0, p, h => fun q => by
    have : p < z := q.1
    omega
  | f + 1, p, h => by
    rw [rn]
    cases q : Nat.blt p z && P (v p) with
    | false =>
      intro ⟨q1, q2⟩
      have q1 : p < z := q1
      have q2 : P (v p) = true := q2
      rw [blt_t q1, q2] at q
      cases q
    | true => exact rn_at f (p + 1) (by omega)
theorem rn_all {P : Nat → Bool} {v : Nat → Nat} {z : Nat} : ∀ f p i, p ≤ i → i < rn P v z f p → P (v i) = true
  | 0, p, i, h1, h2 => by
    have : i < p := h2
    omega
  | f + 1, p, i, h1, h2 => by
    rw [rn] at h2
    cases q : Nat.blt p z && P (v p) with
    | false =>
      rw [q] at h2
      have : i < p := h2
      omega
    | true =>
      rw [q] at h2
      by_cases e : i = p
      · rw [e]; exact (and_b q).2
      · exact rn_all f (p + 1) i (by omega) h2
theorem L_cls : ∀ b, b < 256 → fX8_isLetter (nI b) = if isL b = true then 1 else 0 := by decide +kernel
theorem D_cls : ∀ b, b < 256 → fX8_isDigit (nI b) = if isD b = true then 1 else 0 := by decide +kernel
theorem L_ref : ∀ b, b < 256 → fX11_isLetter (nI b).toInt8.toInt32 = if isL b = true then 1 else 0 := by decide +kernel
theorem D_ref : ∀ b, b < 256 → fX11_isDigit (nI b).toInt8.toInt32 = if isD b = true then 1 else 0 := by decide +kernel
theorem eq_ref : ∀ b, b < 256 → ∀ c, c < 128 → ((nI b).toInt8.toInt32 = nI c ↔ b = c) := by decide +kernel
theorem lo_ref : ∀ b, b < 128 → (nI b).toInt8.toInt32 = nI b := by decide +kernel
/-- the tape, the code's way -/
def tpB (A : jA3) (v : Nat → Nat) (z : Nat) : Prop := z ≤ 160 ∧ A 22 1 = nI z ∧ ∀ i, i < z → A 23 i = nI (v i) ∧ v i < 256
def tpC (T : jA3) (v : Nat → Nat) (z : Nat) : Prop := z ≤ 160 ∧ T 94 4 = nI z ∧ ∀ i, i < z → T 97 i = (nI (v i)).toInt8.toInt32 ∧ v i < 256
theorem tpB.fr {A A2 : jA3} {v : Nat → Nat} {z : Nat} (h : tpB A v z) {ws : List (Nat × Nat × Option Nat)} (f : Fr ws A A2) (h1 : inW ws 22 1 = false) (h2 : ∀ i, inW ws 23 i = false) : tpB A2 v z :=
  ⟨h.1, by rw [f 22 1 h1]; exact h.2.1, fun i hi => by rw [f 23 i (h2 i)]; exact h.2.2 i hi⟩
theorem tpC.fr {A A2 : jA3} {v : Nat → Nat} {z : Nat} (h : tpC A v z) {ws : List (Nat × Nat × Option Nat)} (f : Fr ws A A2) (h1 : inW ws 94 4 = false) (h2 : ∀ i, inW ws 97 i = false) : tpC A2 v z :=
  ⟨h.1, by rw [f 94 4 h1]; exact h.2.1, fun i hi => by rw [f 97 i (h2 i)]; exact h.2.2 i hi⟩
/-- one more, in cell 22 5 -/
abbrev up5 (s : jA3) : jA3 := va_up s 22 (upd (s 22) 5 ((s 22 5) + (1 : Int32)))
theorem rn_B {v : Nat → Nat} {z : Nat} {P : Nat → Bool} {b : jA3 → Option (jA3 ⊕ jA3)}
    (hb : ∀ (s : jA3) (p : Nat), p ≤ z → tpB s v z → s 22 5 = nI p → b s = if p < z ∧ P (v p) = true then some (.inl (up5 s)) else some (.inr s)) :
    ∀ (f : Nat) {A : jA3} {p : Nat}, z ≤ p + f → p ≤ z → tpB A v z → A 22 5 = nI p → ∃ A2, jwh b A = some A2 ∧ Fr [(22, 22, some 5)] A A2 ∧ A2 22 5 = nI (rn P v z f p)
  | 0, A, p, h, hp, hA, h5 => ⟨A, jwh_out (by rw [hb A p hp hA h5, if_neg (by omega)]), Fr.rf, h5⟩
  | f + 1, A, p, h, hp, hA, h5 => by
    by_cases q : p < z ∧ P (v p) = true
    · have f1 : Fr [(22, 22, some 5)] A (up5 A) := Fr.up Fr.rf (FrC.up FrC.bs rfl)
      obtain ⟨A2, e, f2, g⟩ := rn_B hb f (A := up5 A) (p := p + 1) (by omega) (by omega) (hA.fr f1 rfl (fun _ => rfl)) (by show upd (A 22) 5 (A 22 5 + 1) 5 = _; rw [upd_at, h5, nI_1])
      refine ⟨A2, ?_, f1.tr f2, ?_⟩
      · rw [jwh_go (by rw [hb A p hp hA h5, if_pos q]), e]
      · rw [rn_go q.1 q.2]; exact g
    · refine ⟨A, jwh_out (by rw [hb A p hp hA h5, if_neg q]), Fr.rf, ?_⟩
      rw [rn_stop q]; exact h5
theorem b_gen {v : Nat → Nat} {z p : Nat} {P : Nat → Bool} {s : jA3} {x : Option (jA3 ⊕ jA3)} (hp : p ≤ z) (h : tpB s v z) (h5 : s 22 5 = nI p)
    (hx : p < z → x = if P (v p) = true then some (.inl (up5 s)) else some (.inr s)) : (if (s 22 1) ≤ (s 22 5) then some (.inr s) else jgd (vp_in (s 22 5) 160) x) = if p < z ∧ P (v p) = true then some (.inl (up5 s)) else some (.inr s) := by
  obtain ⟨h1, h2, h3⟩ := h
  rw [h5, h2]
  by_cases q : p < z
  · rw [if_neg (nI_ge q (by omega)), jgd_t (vp_in_nI (by omega) (by omega)), hx q]
    by_cases r : P (v p) = true
    · rw [if_pos r, if_pos ⟨q, r⟩]
    · rw [if_neg r, if_neg (fun w => r w.2)]
  · rw [if_pos (nI_le (by omega) (by omega)), if_neg (fun w => q w.1)]
theorem b_blank {v : Nat → Nat} {z : Nat} (s : jA3) (p : Nat) (hp : p ≤ z) (h : tpB s v z) (h5 : s 22 5 = nI p) : cX8_cutUp_26 s = if p < z ∧ isB (v p) = true then some (.inl (up5 s)) else some (.inr s) := by
  unfold cX8_cutUp_26 jX8_cutUp_65_26
  refine b_gen hp h h5 (fun q => ?_)
  obtain ⟨h1, h2, h3⟩ := h
  have hv := (h3 p q).2
  rw [h5, jx_n (by omega), (h3 p q).1, jgd_t (vp_in_nI (by omega) (by omega))]
  have e1 : (nI (v p) = (32 : Int32)) ↔ v p = 32 := nI_eq (b := 32) (by omega) (by omega)
  have e2 : (nI (v p) = (10 : Int32)) ↔ v p = 10 := nI_eq (b := 10) (by omega) (by omega)
  have e3 : isB (v p) = true ↔ v p = 32 ∨ v p = 10 := by unfold isB; rw [Bool.or_eq_true, Nat.beq_eq, Nat.beq_eq]
  by_cases r1 : v p = 32
  · rw [if_pos (e1.mpr r1), if_pos (e3.mpr (Or.inl r1)), ← h5]
  · rw [if_neg (fun w => r1 (e1.mp w))]
    by_cases r2 : v p = 10
    · rw [if_pos (e2.mpr r2), if_pos (e3.mpr (Or.inr r2)), ← h5]
    · rw [if_neg (fun w => r2 (e2.mp w)), if_neg (fun w => (e3.mp w).elim r1 r2)]
theorem b_digit {v : Nat → Nat} {z : Nat} {l1 : Int32} (s : jA3) (p : Nat) (hp : p ≤ z) (h : tpB s v z) (h5 : s 22 5 = nI p) : cX8_tokenAt_69 l1 s = if p < z ∧ isD (v p) = true then some (.inl (up5 s)) else some (.inr s) := by
  unfold cX8_tokenAt_69
  refine b_gen hp h h5 (fun q => ?_)
  obtain ⟨h1, h2, h3⟩ := h
  rw [h5, jx_n (by omega), (h3 p q).1, D_cls _ (h3 p q).2]
  cases isD (v p)
  · show (if (0 : Int32) = 0 then some (Sum.inr s) else _) = some (Sum.inr s)
    rw [if_pos rfl]
  · show (if (1 : Int32) = 0 then some (Sum.inr s) else _) = some (Sum.inl (up5 s))
    rw [if_neg (by decide), ← h5]
theorem b_letter {v : Nat → Nat} {z : Nat} {l1 : Int32} (s : jA3) (p : Nat) (hp : p ≤ z) (h : tpB s v z) (h5 : s 22 5 = nI p) : cX8_tokenAt_12 l1 s = if p < z ∧ isL (v p) = true then some (.inl (up5 s)) else some (.inr s) := by
  unfold cX8_tokenAt_12
  refine b_gen hp h h5 (fun q => ?_)
  obtain ⟨h1, h2, h3⟩ := h
  rw [h5, jx_n (by omega), (h3 p q).1, L_cls _ (h3 p q).2]
  cases isL (v p)
  · show (if (0 : Int32) = 0 then some (Sum.inr s) else _) = some (Sum.inr s)
    rw [if_pos rfl]
  · show (if (1 : Int32) = 0 then some (Sum.inr s) else _) = some (Sum.inl (up5 s))
    rw [if_neg (by decide), ← h5]
/-- the number that stands from s up to e -/
def nm (v : Nat → Nat) (s : Nat) : Nat → Nat
  | 0 => 0
  | k + 1 => 10 * nm v s k + (v (s + k) - 48)
theorem nm_lt {v : Nat → Nat} {s : Nat} : ∀ k, (∀ i, i < k → isD (v (s + i)) = true) → nm v s k < 10 ^ k
  | 0, _ => by show 0 < 1; omega
  | k + 1, h => by
    have ih := nm_lt k (fun i hi => h i (by omega))
    have hk := h k (by omega)
    unfold isD at hk
    have a := Nat.le_of_ble_eq_true (and_b hk).2
    show 10 * nm v s k + (v (s + k) - 48) < 10 ^ (k + 1)
    rw [Nat.pow_succ]
    omega
theorem dig_up {y b : Nat} (h1 : 48 ≤ b) : ((10 : Int32) * nI y) + nI b - (48 : Int32) = nI (10 * y + (b - 48)) := by
  rw [lit_n 10, pk_mul, nI_add, lit_n 48, pk_sub (by omega), show 10 * y + b - 48 = 10 * y + (b - 48) by omega]
theorem r_number {v : Nat → Nat} {z s e : Nat} (h : tpB A v z) (h5 : A 22 5 = nI e) (hse : s ≤ e) (hez : e ≤ z) (hd : ∀ i, s ≤ i → i < e → isD (v i) = true) : fX8_numberFrom A (nI s) = some (nI (if e - s ≤ 4 then 1000 + nm v s (e - s) else 1)) := by
  obtain ⟨h1, h2, h3⟩ := h
  unfold fX8_numberFrom
  rw [h5, pk_sub hse]
  by_cases q : e - s ≤ 4
  · rw [if_pos (show nI (e - s) ≤ (4 : Int32) from nI_le (b := 4) q (by omega)), if_pos q]
    have hr : Run (fun x => x = nI (nm v s (e - s))) (jwh (cX8_numberFrom_16 A) ((0 : Int32), nI s)) := by
      refine Run.up (e - s) (fun k t => t.1 = nI (nm v s k) ∧ t.2 = nI (s + k)) ?_ ?_ (Nat.zero_le _) ⟨rfl, rfl⟩
      · rintro k ⟨t1, t2⟩ hk ⟨q1, q2⟩
        have q1 : t1 = nI (nm v s k) := q1
        have q2 : t2 = nI (s + k) := q2
        subst q1 q2
        have hb := hd (s + k) (by omega) (by omega)
        unfold isD at hb
        have a := Nat.le_of_ble_eq_true (and_b hb).1
        unfold cX8_numberFrom_16
        simp only [h5, jx_n (show s + k < 2 ^ 31 by omega), (h3 (s + k) (by omega)).1]
        refine Run.im (nI_ge (by omega) (by omega)) <| Run.g (vp_in_nI (by omega) (by omega)) <| Run.rt ⟨?_, by show nI (s + k) + 1 = _; rw [nI_1]; rfl⟩
        show (10 : Int32) * nI (nm v s k) + nI (v (s + k)) - 48 = _
        rw [dig_up a]
        rfl
      · rintro ⟨t1, t2⟩ ⟨q1, q2⟩
        have q2 : t2 = nI (s + (e - s)) := q2
        rw [show s + (e - s) = e by omega] at q2
        subst q2
        unfold cX8_numberFrom_16
        simp only [h5]
        exact Run.ip (nI_le (Nat.le_refl _) (by omega)) <| Run.rt q1
    obtain ⟨x, ex, rfl⟩ := hr
    rw [ex]
    show some ((1000 : Int32) + nI (nm v s (e - s))) = _
    rw [lit_n 1000, nI_add]
  · rw [if_neg (show ¬ nI (e - s) ≤ (4 : Int32) from nI_ge (a := 4) (b := e - s) (by omega) (by omega)), if_neg q]
    rfl
