/-! rows are few: no more than fac n -/
theorem fb_holes : ∀ (m n : Nat) (f : Nat → Nat), (∀ i, i < n → f i < m) → (∀ i j, i < j → j < n → f i ≠ f j) → n ≤ m := by
  intro m
  induction m with
  | zero =>
    intro n f h1 _
    rcases Nat.eq_zero_or_pos n with h | h
    · omega
    · exact absurd (h1 0 h) (Nat.not_lt_zero _)
  | succ m ih =>
    intro n f h1 h2
    by_cases hx : ∃ i, i < n ∧ f i = m
    · obtain ⟨a, ha, hfa⟩ := hx
      have hg := ih (n - 1) (fun i => if i < a then f i else f (i + 1)) (by
        intro i hi
        by_cases q : i < a
        · simp only [if_pos q]
          have b1 := h1 i (by omega)
          have b2 := h2 i a q ha
          omega
        · simp only [if_neg q]
          have b1 := h1 (i + 1) (by omega)
          have b2 := h2 a (i + 1) (by omega) (by omega)
          omega) (by
        intro i j hij hj
        by_cases q : i < a
        · by_cases r : j < a
          · simp only [if_pos q, if_pos r]
            exact h2 i j hij (by omega)
          · simp only [if_pos q, if_neg r]
            exact h2 i (j + 1) (by omega) (by omega)
        · have r : ¬ j < a := by omega
          simp only [if_neg q, if_neg r]
          exact h2 (i + 1) (j + 1) (by omega) (by omega))
      omega
    · have hg := ih n f (fun i hi => by
        have b1 := h1 i hi
        have b2 : f i ≠ m := fun e => hx ⟨i, hi, e⟩
        omega) h2
      omega
/-- as many as places, none twice: each place is taken -/
theorem fb_onto {n : Nat} {f : Nat → Nat} (h : ∀ i, i < n → f i < n) (h2 : ∀ i j, i < j → j < n → f i ≠ f j) {y : Nat} (hy : y < n) : ∃ i, i < n ∧ f i = y := by
  refine Classical.byContradiction fun hx => ?_
  have hne : ∀ i, i < n → f i ≠ y := fun i hi e => hx ⟨i, hi, e⟩
  have := fb_holes (n - 1) n (fun i => if f i < y then f i else f i - 1) (by
    intro i hi
    have b1 := h i hi
    have b2 := hne i hi
    by_cases q : f i < y
    · simp only [if_pos q]; omega
    · simp only [if_neg q]; omega) (by
    intro i j hij hj
    have b1 := hne i (by omega)
    have b2 := hne j hj
    have b3 := h2 i j hij hj
    by_cases q : f i < y
    · by_cases r : f j < y
      · simp only [if_pos q, if_pos r]; exact b3
      · simp only [if_pos q, if_neg r]; omega
    · by_cases r : f j < y
      · simp only [if_neg q, if_pos r]; omega
      · simp only [if_neg q, if_neg r]; omega)
  omega
/-- where v stands, looking from the end -/
def fpos (o : Nat → Nat) (v : Nat) : Nat → Nat
  | 0 => 0
  | k + 1 => if o k = v then k else fpos o v k
theorem fpos_at {o : Nat → Nat} {v : Nat} : ∀ N, (∃ k, k < N ∧ o k = v) → fpos o v N < N ∧ o (fpos o v N) = v
  | 0, ⟨k, hk, _⟩ => absurd hk (Nat.not_lt_zero _)
  | N + 1, ⟨k, hk, e⟩ => by
    rw [fpos]
    by_cases q : o N = v
    · rw [if_pos q]
      exact ⟨by omega, q⟩
    · rw [if_neg q]
      have hk2 : k ≠ N := fun z => q (z ▸ e)
      have := fpos_at N ⟨k, by omega, e⟩
      exact ⟨by omega, this.2⟩
def orem (p : Nat) (o : Nat → Nat) (k : Nat) : Nat := if k < p then o k else o (k + 1)
def Pm (n : Nat) (o : Nat → Nat) : Prop := (∀ k, k < n → o k < n) ∧ ∀ j k, j < k → k < n → o j ≠ o k
theorem Pm.rem {n : Nat} {o : Nat → Nat} (h : Pm (n + 1) o) : fpos o n (n + 1) < n + 1 ∧ o (fpos o n (n + 1)) = n ∧ Pm n (orem (fpos o n (n + 1)) o) := by
  obtain ⟨p1, p2⟩ := fpos_at (n + 1) (fb_onto h.1 h.2 (show n < n + 1 by omega))
  generalize fpos o n (n + 1) = p at p1 p2 ⊢
  refine ⟨p1, p2, fun k hk => ?_, fun j k hj hk => ?_⟩
  · unfold orem
    by_cases q : k < p
    · rw [if_pos q]
      have a := h.1 k (by omega)
      have b := h.2 k p q p1
      omega
    · rw [if_neg q]
      have a := h.1 (k + 1) (by omega)
      have b := h.2 p (k + 1) (by omega) (by omega)
      omega
  · unfold orem
    by_cases q : j < p
    · by_cases r : k < p
      · rw [if_pos q, if_pos r]
        exact h.2 j k hj (by omega)
      · rw [if_pos q, if_neg r]
        exact h.2 j (k + 1) (by omega) (by omega)
    · rw [if_neg q, if_neg (by omega)]
      exact h.2 (j + 1) (k + 1) (by omega) (by omega)
def fac : Nat → Nat
  | 0 => 1
  | n + 1 => fac n * (n + 1)
def enc : Nat → (Nat → Nat) → Nat
  | 0, _ => 0
  | n + 1, o => enc n (orem (fpos o n (n + 1)) o) * (n + 1) + fpos o n (n + 1)
theorem enc_lt : ∀ n o, Pm n o → enc n o < fac n
  | 0, _, _ => by show 0 < 1; omega
  | n + 1, o, h => by
    obtain ⟨p1, p2, p3⟩ := h.rem
    have := enc_lt n _ p3
    show enc n (orem (fpos o n (n + 1)) o) * (n + 1) + fpos o n (n + 1) < fac n * (n + 1)
    have h2 : (enc n (orem (fpos o n (n + 1)) o) + 1) * (n + 1) ≤ fac n * (n + 1) := Nat.mul_le_mul_right _ this
    rw [Nat.add_mul, Nat.one_mul] at h2
    omega
theorem enc_in : ∀ n o o2, Pm n o → Pm n o2 → enc n o = enc n o2 → ∀ k, k < n → o k = o2 k
  | 0, _, _, _, _, _, k, hk => absurd hk (Nat.not_lt_zero _)
  | n + 1, o, o2, h, h2, e, k, hk => by
    obtain ⟨p1, p2, p3⟩ := h.rem
    obtain ⟨q1, q2, q3⟩ := h2.rem
    have e : enc n (orem (fpos o n (n + 1)) o) * (n + 1) + fpos o n (n + 1) = enc n (orem (fpos o2 n (n + 1)) o2) * (n + 1) + fpos o2 n (n + 1) := e
    have e1 : fpos o n (n + 1) = fpos o2 n (n + 1) := by
      have := congrArg (· % (n + 1)) e
      simp only [Nat.mul_add_mod_self_right, Nat.mod_eq_of_lt p1, Nat.mod_eq_of_lt q1] at this
      exact this
    rw [← e1] at e q2 q3
    have e2 : enc n (orem (fpos o n (n + 1)) o) = enc n (orem (fpos o n (n + 1)) o2) := by
      have : enc n (orem (fpos o n (n + 1)) o) * (n + 1) = enc n (orem (fpos o n (n + 1)) o2) * (n + 1) := by omega
      exact Nat.eq_of_mul_eq_mul_right (by omega) this
    have ih := enc_in n _ _ p3 q3 e2
    generalize fpos o n (n + 1) = p at *
    rcases Nat.lt_trichotomy k p with q | q | q
    · have := ih k (by omega)
      unfold orem at this
      rw [if_pos q, if_pos q] at this
      exact this
    · rw [q, p2, q2]
    · have := ih (k - 1) (by omega)
      unfold orem at this
      rw [if_neg (by omega), if_neg (by omega), show k - 1 + 1 = k by omega] at this
      exact this
theorem fac_8 {n : Nat} (h : n ≤ 8) : fac n ≤ 40320 := by
  have : ∀ n, n ≤ 8 → fac n ≤ 40320 := by decide
  exact this n h
/-- rows whose worth goes up and up are few -/
theorem few_rows {n c : Nat} {f : Nat → Nat → Nat} {W : (Nat → Nat) → Nat} (h8 : n ≤ 8) (hf : ∀ i, i < c → Pm n (f i)) (hW : ∀ i j, i < j → j < c → W (f i) < W (f j)) (hc : ∀ o o2, (∀ k, k < n → o k = o2 k) → W o = W o2) : c ≤ 40320 := by
  refine Nat.le_trans (fb_holes (fac n) c (fun i => enc n (f i)) (fun i hi => enc_lt n _ (hf i hi)) (fun i j hij hj e => ?_)) (fac_8 h8)
  have := hc _ _ (enc_in n _ _ (hf i (by omega)) (hf j hj) e)
  have := hW i j hij hj
  omega
