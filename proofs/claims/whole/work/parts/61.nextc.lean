/-! text: the reference's words and next -/
variable {B C T : jA3}
def SL (j : Nat) : Nat := if j < 32 then S11 j else S12 (j - 32)
def wsr (k : Nat) : Nat := ([0, 4, 9, 15, 20, 25, 32, 36, 42, 48, 51, 55, 59] : List Nat).getD k 0
def wen (k : Nat) : Nat := ([3, 8, 14, 19, 24, 31, 35, 41, 47, 50, 54, 58] : List Nat).getD k 0
theorem kl_t : ∀ j, j < 59 → KL j = nI (SL j) ∧ SL j < 128 := by decide +kernel
theorem wen_t : ∀ k, k < 12 → wsr k ≤ wen k ∧ wen k < 59 ∧ SL (wen k) = 32 ∧ wsr (k + 1) = wen k + 1 := by decide +kernel
theorem wch_t : ∀ k, k < 12 → ∀ i, i < wen k - wsr k → SL (wsr k + i) ≠ 32 := by decide +kernel
def cas (W : Nat → Bool) : Nat → Nat → Option Nat
  | 0, _ => none
  | f + 1, k => bif W k then some k else cas W f (k + 1)
theorem cas_hit {W : Nat → Bool} {k : Nat} : ∀ f k0, k0 ≤ k → k < k0 + f → (∀ j, k0 ≤ j → j < k → W j = false) → W k = true → cas W f k0 = some k
  | 0, k0, h1, h2, _, _ => by omega
  | f + 1, k0, h1, h2, h3, h4 => by
    rw [cas]
    by_cases e : k0 = k
    · rw [e, h4]; rfl
    · rw [h3 k0 (Nat.le_refl _) (by omega)]
      exact cas_hit f (k0 + 1) (by omega) (by omega) (fun j a b => h3 j (by omega) b) h4
theorem cas_none {W : Nat → Bool} : ∀ f k0, (∀ j, k0 ≤ j → j < k0 + f → W j = false) → cas W f k0 = none
  | 0, _, _ => rfl
  | f + 1, k0, h => by
    rw [cas, h k0 (Nat.le_refl _) (by omega)]
    exact cas_none f (k0 + 1) (fun j a b => h j (by omega) (by omega))
theorem fa_cong {p q : Nat → Bool} : ∀ {N : Nat}, (∀ k, k < N → p k = q k) → fa p N = fa q N
  | 0, _ => rfl
  | N + 1, h => by rw [fa, fa, h N (by omega), fa_cong (fun k hk => h k (by omega))]
theorem mat_cong {S S2 : Nat → Nat} {v : Nat → Nat} {s e st j st2 j2 : Nat} (hl : j - st = j2 - st2) (h : ∀ i, i < j - st → S (st + i) = S2 (st2 + i)) : mat S v s e st j = mat S2 v s e st2 j2 := by
  unfold mat
  by_cases q : j - st = e - s
  · rw [beq_t q, beq_t (hl ▸ q)]
    exact fa_cong (fun k hk => by rw [h k (by omega)])
  · rw [beq_f q, beq_f (fun w => q (hl.trans w))]
    rfl
theorem wrd_cas (v : Nat → Nat) (s e : Nat) : wrd v s e = cas (fun k => mat SL v s e (wsr k) (wen k)) 12 0 := by
  show _ = bif mat SL v s e 0 3 then some 0 else bif mat SL v s e 4 8 then some 1 else bif mat SL v s e 9 14 then some 2 else bif mat SL v s e 15 19 then some 3 else bif mat SL v s e 20 24 then some 4 else bif mat SL v s e 25 31 then some 5 else
    bif mat SL v s e 32 35 then some 6 else bif mat SL v s e 36 41 then some 7 else bif mat SL v s e 42 47 then some 8 else bif mat SL v s e 48 50 then some 9 else bif mat SL v s e 51 54 then some 10 else bif mat SL v s e 55 58 then some 11 else none
  unfold wrd
  have t1 : ∀ j, j < 32 → SL j = S11 j := fun j hj => if_pos hj
  have t2 : ∀ j, SL (32 + j) = S12 j := fun j => by unfold SL; rw [if_neg (by omega), Nat.add_sub_cancel_left]
  have a : ∀ st j, j < 32 → mat S11 v s e st j = mat SL v s e st j := fun st j hj => mat_cong rfl (fun i hi => (t1 _ (by omega)).symm)
  have b : ∀ st j, mat S12 v s e st j = mat SL v s e (32 + st) (32 + j) := fun st j => mat_cong (by omega) (fun i hi => by rw [Nat.add_assoc, t2])
  rw [a 0 3 (by omega), a 4 8 (by omega), a 9 14 (by omega), a 15 19 (by omega), a 20 24 (by omega), a 25 31 (by omega), b 0 3, b 4 9, b 10 15, b 16 18, b 19 22, b 23 26]
theorem r_in {v : Nat → Nat} {z s e k : Nat} (hc : ∀ j, T 103 j = KL j) (ht : tpC T v z) (h14 : T 94 14 = nI e) (hse : s ≤ e) (hez : e ≤ z) (hk : k < 12) : Run (fun t => t.1 = nI (wen k) ∧ t.2.1 = nI (s + (wen k - wsr k)) ∧ ((t.2.2 = 1 ∧ wen k - wsr k ≤ e - s ∧ sm SL v s (wsr k) (wen k - wsr k) = true) ∨ (t.2.2 = 0 ∧ mat SL v s e (wsr k) (wen k) = false))) (jwh (cX11_wordNow_18 T (nI k)) (nI (wsr k), nI s, (1 : Int32))) := by
  obtain ⟨t1, t2, t3, t4⟩ := wen_t k hk
  have t5 := wch_t k hk
  obtain ⟨g1, g2, g3⟩ := ht
  generalize hst : wsr k = st at *
  generalize hen : wen k = en at *
  refine Run.up (en - st) (fun i t => t.1 = nI (st + i) ∧ t.2.1 = nI (s + i) ∧ ((t.2.2 = 1 ∧ i ≤ e - s ∧ ∀ j, j < i → v (s + j) = SL (st + j)) ∨ (t.2.2 = 0 ∧ mat SL v s e st en = false))) ?_ ?_ (Nat.zero_le _) ⟨rfl, rfl, Or.inl ⟨rfl, Nat.zero_le _, fun j hj => absurd hj (Nat.not_lt_zero _)⟩⟩
  · rintro i ⟨a1, a2, a3⟩ hi ⟨q1, q2, q3⟩
    have q1 : a1 = nI (st + i) := q1
    have q2 : a2 = nI (s + i) := q2
    subst q1 q2
    have q3 : (a3 = 1 ∧ i ≤ e - s ∧ ∀ j, j < i → v (s + j) = SL (st + j)) ∨ (a3 = 0 ∧ mat SL v s e st en = false) := q3
    obtain ⟨k1, k2⟩ := kl_t (st + i) (by omega)
    have n32 : ¬ nI (SL (st + i)) = (32 : Int32) := fun w => t5 i hi ((nI_eq (b := 32) (by omega) (by omega)).mp w)
    have v59 : vp_in (nI (st + i)) 59 := vp_in_nI (by omega) (by omega)
    have hno : ∀ (q : mat SL v s e st en = false), Run (SO (fun t : Int32 × Int32 × Int32 => t.1 = nI (st + (i + 1)) ∧ t.2.1 = nI (s + (i + 1)) ∧ ((t.2.2 = 1 ∧ i + 1 ≤ e - s ∧ ∀ j, j < i + 1 → v (s + j) = SL (st + j)) ∨ (t.2.2 = 0 ∧ mat SL v s e st en = false))) (fun t : Int32 × Int32 × Int32 => t.1 = nI en ∧ t.2.1 = nI (s + (en - st)) ∧ ((t.2.2 = 1 ∧ en - st ≤ e - s ∧ sm SL v s st (en - st) = true) ∨ (t.2.2 = 0 ∧ mat SL v s e st en = false)))) (jX11_wordNow_52_18 T (nI (st + i)) (nI k) (nI (s + i))) := fun q => Run.rt ⟨by show nI (st + i) + 1 = _; rw [nI_1]; rfl, by show nI (s + i) + 1 = _; rw [nI_1]; rfl, Or.inr ⟨rfl, q⟩⟩
    unfold cX11_wordNow_18
    simp only [hc, jx_n (show st + i < 2 ^ 31 by omega), k1, h14]
    refine Run.g v59 <| Run.im n32 ?_
    by_cases w : e ≤ s + i
    · refine Run.ip (nI_le w (by omega)) <| hno ?_
      rcases q3 with ⟨-, r2, -⟩ | ⟨-, r⟩
      · unfold mat
        rw [beq_f (by omega)]
        rfl
      · exact r
    · have hv := (g3 (s + i) (by omega)).2
      have ec := eq_ref (v (s + i)) hv (SL (st + i)) k2
      rw [jx_n (by omega), (g3 (s + i) (by omega)).1]
      refine Run.im (nI_ge (by omega) (by omega)) <| Run.g (vp_in_nI (by omega) (by omega)) <| Run.g v59 <| Run.i (fun y => ?_) (fun y => hno ?_)
      · refine Run.rt ⟨by show nI (st + i) + 1 = _; rw [nI_1]; rfl, by show nI (s + i) + 1 = _; rw [nI_1]; rfl, ?_⟩
        rcases q3 with ⟨r1, r2, r3⟩ | ⟨r1, r2⟩
        · refine Or.inl ⟨r1, by omega, fun j hj => ?_⟩
          by_cases q : j = i
          · rw [q]; exact ec.mp y
          · exact r3 j (by omega)
        · exact Or.inr ⟨r1, r2⟩
      · rcases q3 with ⟨-, r2, -⟩ | ⟨-, r⟩
        · unfold mat
          by_cases q : en - st = e - s
          · rw [beq_t q]
            exact fa_not (k := i) (by omega) (beq_f (fun w => y (ec.mpr w)))
          · rw [beq_f q]
            rfl
        · exact r
  · rintro ⟨a1, a2, a3⟩ ⟨q1, q2, q3⟩
    have q1 : a1 = nI (st + (en - st)) := q1
    have q2 : a2 = nI (s + (en - st)) := q2
    rw [show st + (en - st) = en by omega] at q1
    subst q1 q2
    obtain ⟨k1, k2⟩ := kl_t en t2
    unfold cX11_wordNow_18
    simp only [hc, jx_n (show en < 2 ^ 31 by omega), k1, t3]
    refine Run.g (vp_in_nI (by omega) (by omega)) <| Run.ip rfl <| Run.rt ⟨rfl, rfl, ?_⟩
    rcases q3 with ⟨r1, r2, r3⟩ | ⟨r1, r2⟩
    · exact Or.inl ⟨r1, r2, fa_of (fun j hj => beq_t (r3 j hj))⟩
    · exact Or.inr ⟨r1, r2⟩
theorem r_wordC {v : Nat → Nat} {z s e : Nat} (hc : ∀ j, T 103 j = KL j) (hm : ∀ j, T 104 j = KM j) (ht : tpC T v z) (h13 : T 94 13 = nI s) (h14 : T 94 14 = nI e) (hse : s ≤ e) (hez : e ≤ z) : fX11_wordNow T = some (match wrd v s e with | none => -1 | some k => KM k) := by
  have hz := ht.1
  unfold fX11_wordNow
  rw [wrd_cas]
  have hr : Run (fun x => (x = .inl () ∧ ∀ j, j < 12 → mat SL v s e (wsr j) (wen j) = false) ∨ ∃ k, k < 12 ∧ x = .inr (KM k) ∧ mat SL v s e (wsr k) (wen k) = true ∧ ∀ j, j < k → mat SL v s e (wsr j) (wen j) = false) (jwh (cX11_wordNow_4 T) ((0 : Int32), (0 : Int32))) := by
    refine Run.up 12 (fun k t => t.1 = nI (wsr k) ∧ t.2 = nI k ∧ ∀ j, j < k → mat SL v s e (wsr j) (wen j) = false) ?_ ?_ (Nat.zero_le _) ⟨rfl, rfl, fun j hj => absurd hj (Nat.not_lt_zero _)⟩
    · rintro k ⟨a1, a2⟩ hk ⟨q1, q2, q3⟩
      have q1 : a1 = nI (wsr k) := q1
      have q2 : a2 = nI k := q2
      subst q1 q2
      obtain ⟨t1, t2, t3, t4⟩ := wen_t k hk
      obtain ⟨⟨b1, b2, b3⟩, e1, c1, c2, c3⟩ := r_in hc ht h14 hse hez hk
      have c1 : b1 = nI (wen k) := c1
      have c2 : b2 = nI (s + (wen k - wsr k)) := c2
      subst c1 c2
      have c3 : (b3 = 1 ∧ wen k - wsr k ≤ e - s ∧ sm SL v s (wsr k) (wen k - wsr k) = true) ∨ (b3 = 0 ∧ mat SL v s e (wsr k) (wen k) = false) := c3
      have hno : mat SL v s e (wsr k) (wen k) = false → ∀ j, j < k + 1 → mat SL v s e (wsr j) (wen j) = false := fun q j hj => by
        by_cases w : j = k
        · rw [w]; exact q
        · exact q3 j (by omega)
      unfold cX11_wordNow_4
      simp only [h13, h14, jx_n (show k < 2 ^ 31 by omega)]
      refine Run.im (nI_ge (b := 12) hk (by omega)) ?_
      rw [e1]
      refine Run.be rfl ?_
      rcases c3 with ⟨r1, r2, r3⟩ | ⟨r1, r2⟩
      · subst r1
        refine Run.im (show ¬ (1 : Int32) = 0 by decide) ?_
        by_cases w : wen k - wsr k = e - s
        · refine Run.ip (show nI (s + (wen k - wsr k)) = nI e by rw [show s + (wen k - wsr k) = e by omega]) <| Run.g (vp_in_nI (by omega) (by omega)) <| Run.rt (Or.inr ⟨k, hk, by rw [hm], ?_, q3⟩)
          unfold mat
          rw [beq_t w, ← w]
          exact r3
        · refine Run.im (show ¬ nI (s + (wen k - wsr k)) = nI e by rw [nI_eq (by omega) (by omega)]; omega) <| Run.rt ⟨by show nI (wen k) + 1 = _; rw [nI_1, t4], nI_1 k, hno ?_⟩
          unfold mat
          rw [beq_f w]
          rfl
      · subst r1
        exact Run.ip rfl <| Run.rt ⟨by show nI (wen k) + 1 = _; rw [nI_1, t4], nI_1 k, hno r2⟩
    · rintro ⟨a1, a2⟩ ⟨q1, q2, q3⟩
      have q2 : a2 = nI 12 := q2
      subst q2
      unfold cX11_wordNow_4
      exact Run.ip (nI_le (a := 12) (b := 12) (Nat.le_refl _) (by omega)) <| Run.rt (Or.inl ⟨rfl, q3⟩)
  obtain ⟨x, ex, ⟨rfl, q⟩ | ⟨k, hk, rfl, q1, q2⟩⟩ := hr
  · rw [ex, cas_none 12 0 (fun j _ h2 => q j (by omega))]
    rfl
  · rw [ex, cas_hit 12 0 (Nat.zero_le _) (by omega) (fun j _ h2 => q2 j h2) q1]
    rfl
