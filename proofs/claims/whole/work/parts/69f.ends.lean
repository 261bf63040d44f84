/-! text: the reference lays the ends away -/
variable {T : jA3} {n q : Nat}
theorem r_ends (h5 : T 94 5 = nI q) (hq : q ≤ 5) : ∃ T2, jwh cX11_text_168 ((0 : Int32), T) = some T2 ∧ Fr [(100, 100, none)] T T2 ∧ (∀ k, k < 3 → T2 100 (3 * q + k) = T 100 (18 + k)) ∧ ∀ j, j < 3 * q → T2 100 j = T 100 j := by
  have hr : Run (fun T2 => Fr [(100, 100, none)] T T2 ∧ (∀ k, k < 3 → T2 100 (3 * q + k) = T 100 (18 + k)) ∧ ∀ j, j < 3 * q → T2 100 j = T 100 j) (jwh cX11_text_168 ((0 : Int32), T)) := by
    refine Run.up 3 (fun i s => s.1 = nI i ∧ Fr [(100, 100, none)] T s.2 ∧ (∀ k, k < i → s.2 100 (3 * q + k) = T 100 (18 + k)) ∧ ∀ j, (j < 3 * q ∨ 18 ≤ j) → s.2 100 j = T 100 j) ?_ ?_ (Nat.zero_le _) ⟨rfl, Fr.rf, fun k hk => absurd hk (Nat.not_lt_zero _), fun j _ => rfl⟩
    · rintro i ⟨s1, S⟩ hi ⟨e1, fS, g1, g2⟩
      have e1 : s1 = nI i := e1
      subst e1
      have fS : Fr [(100, 100, none)] T S := fS
      have g1 : ∀ k, k < i → S 100 (3 * q + k) = T 100 (18 + k) := g1
      have g2 : ∀ j, (j < 3 * q ∨ 18 ≤ j) → S 100 j = T 100 j := g2
      have s5 : S 94 5 = nI q := by rw [fS 94 5 rfl]; exact h5
      have v1 : vp_in (nI (18 + i)) 21 := vp_in_nI (by omega) (by omega)
      have v2 : vp_in (nI (3 * q + i)) 21 := vp_in_nI (by omega) (by omega)
      have ea : (18 : Int32) + nI i = nI (18 + i) := by rw [lit_n 18, nI_add]
      have eb : (3 : Int32) * nI q + nI i = nI (3 * q + i) := by rw [lit_n 3, pk_mul, nI_add]
      unfold cX11_text_168
      rw [if_neg (show ¬ (3 : Int32) ≤ nI i from nI_ge (b := 3) hi (by omega))]
      simp only [ea, s5, eb, jx_n (show 18 + i < 2 ^ 31 by omega), jx_n (show 3 * q + i < 2 ^ 31 by omega)]
      refine Run.g v1 <| Run.g v2 <| Run.be rfl <| Run.rt ⟨nI_1 i, Fr.up fS (FrC.al (fun _ => rfl)), fun k hk => ?_, fun j hj => ?_⟩
      · show upd (S 100) (3 * q + i) (S 100 (18 + i)) (3 * q + k) = _
        by_cases w : k = i
        · rw [w, upd_at]
          exact g2 (18 + i) (Or.inr (by omega))
        · rw [upd_ne (show 3 * q + k ≠ 3 * q + i by omega)]
          exact g1 k (by omega)
      · show upd (S 100) (3 * q + i) (S 100 (18 + i)) j = _
        rw [upd_ne (by omega)]
        exact g2 j hj
    · rintro ⟨s1, S⟩ ⟨e1, fS, g1, g2⟩
      have e1 : s1 = nI 3 := e1
      subst e1
      unfold cX11_text_168
      rw [if_pos (show (3 : Int32) ≤ nI 3 by decide)]
      exact Run.rt ⟨fS, g1, fun j hj => g2 j (Or.inl hj)⟩
  exact hr
