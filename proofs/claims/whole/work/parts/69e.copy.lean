/-! text: the reference lays a text away -/
variable {T : jA3} {n q : Nat}
theorem r_lay (h10 : T 94 10 = nI n) (h5 : T 94 5 = nI q) (hn : n ≤ 160) (hq : q ≤ 5) : ∃ T2, jwh cX11_text_102 ((0 : Int32), T) = some T2 ∧ Fr [(98, 98, none), (99, 99, none)] T T2 ∧ (∀ k, k < n → T2 98 (170 * q + k) = T 98 (1020 + k) ∧ T2 99 (170 * q + k) = T 99 (1020 + k)) ∧ ∀ j, j < 170 * q → T2 98 j = T 98 j ∧ T2 99 j = T 99 j := by
  have hr : Run (fun T2 => Fr [(98, 98, none), (99, 99, none)] T T2 ∧ (∀ k, k < n → T2 98 (170 * q + k) = T 98 (1020 + k) ∧ T2 99 (170 * q + k) = T 99 (1020 + k)) ∧ ∀ j, j < 170 * q → T2 98 j = T 98 j ∧ T2 99 j = T 99 j) (jwh cX11_text_102 ((0 : Int32), T)) := by
    refine Run.up n (fun i s => s.1 = nI i ∧ Fr [(98, 98, none), (99, 99, none)] T s.2 ∧ (∀ k, k < i → s.2 98 (170 * q + k) = T 98 (1020 + k) ∧ s.2 99 (170 * q + k) = T 99 (1020 + k)) ∧ ∀ j, (j < 170 * q ∨ 1020 ≤ j) → s.2 98 j = T 98 j ∧ s.2 99 j = T 99 j) ?_ ?_ (Nat.zero_le _) ⟨rfl, Fr.rf, fun k hk => absurd hk (Nat.not_lt_zero _), fun j _ => ⟨rfl, rfl⟩⟩
    · rintro i ⟨s1, S⟩ hi ⟨e1, fS, g1, g2⟩
      have e1 : s1 = nI i := e1
      subst e1
      have fS : Fr [(98, 98, none), (99, 99, none)] T S := fS
      have g1 : ∀ k, k < i → S 98 (170 * q + k) = T 98 (1020 + k) ∧ S 99 (170 * q + k) = T 99 (1020 + k) := g1
      have g2 : ∀ j, (j < 170 * q ∨ 1020 ≤ j) → S 98 j = T 98 j ∧ S 99 j = T 99 j := g2
      have s10 : S 94 10 = nI n := by rw [fS 94 10 rfl]; exact h10
      have s5 : S 94 5 = nI q := by rw [fS 94 5 rfl]; exact h5
      have v1 : vp_in (nI (1020 + i)) 1190 := vp_in_nI (by omega) (by omega)
      have v2 : vp_in (nI (170 * q + i)) 1190 := vp_in_nI (by omega) (by omega)
      have ea : (1020 : Int32) + nI i = nI (1020 + i) := by rw [lit_n 1020, nI_add]
      have eb : (170 : Int32) * nI q + nI i = nI (170 * q + i) := by rw [lit_n 170, pk_mul, nI_add]
      unfold cX11_text_102
      rw [if_neg (show ¬ S 94 10 ≤ nI i by rw [s10]; exact nI_ge hi (by omega))]
      simp only [ea, s5, eb, jx_n (show 1020 + i < 2 ^ 31 by omega), jx_n (show 170 * q + i < 2 ^ 31 by omega)]
      refine Run.g v1 <| Run.g v2 <| Run.be rfl ?_
      generalize hM : va_up S 98 (upd (S 98) (170 * q + i) (S 98 (1020 + i))) = M
      have m5 : M 94 5 = nI q := by rw [← hM]; exact s5
      have m99 : M 99 = S 99 := by rw [← hM]; rfl
      have m98 : M 98 = upd (S 98) (170 * q + i) (S 98 (1020 + i)) := by rw [← hM]; rfl
      have fM : Fr [(98, 98, none), (99, 99, none)] T M := by rw [← hM]; exact Fr.up fS (FrC.al (fun _ => rfl))
      rw [m5, eb, jx_n (show 170 * q + i < 2 ^ 31 by omega)]
      refine Run.g v1 <| Run.g v2 <| Run.be rfl <| Run.rt ⟨nI_1 i, Fr.up fM (FrC.al (fun _ => rfl)), fun k hk => ?_, fun j hj => ?_⟩
      · show M 98 (170 * q + k) = _ ∧ upd (M 99) (170 * q + i) (M 99 (1020 + i)) (170 * q + k) = _
        rw [m98, m99]
        by_cases w : k = i
        · rw [w, upd_at, upd_at]
          exact g2 (1020 + i) (Or.inr (by omega))
        · rw [upd_ne (show 170 * q + k ≠ 170 * q + i by omega), upd_ne (show 170 * q + k ≠ 170 * q + i by omega)]
          exact g1 k (by omega)
      · show M 98 j = _ ∧ upd (M 99) (170 * q + i) (M 99 (1020 + i)) j = _
        rw [m98, m99, upd_ne (by omega), upd_ne (by omega)]
        exact g2 j hj
    · rintro ⟨s1, S⟩ ⟨e1, fS, g1, g2⟩
      have e1 : s1 = nI n := e1
      subst e1
      have s10 : S 94 10 = nI n := by rw [show S 94 10 = T 94 10 from fS 94 10 rfl]; exact h10
      unfold cX11_text_102
      rw [if_pos (show S 94 10 ≤ nI n by rw [s10]; exact nI_le (Nat.le_refl _) (by omega))]
      exact Run.rt ⟨fS, g1, fun j hj => g2 j (Or.inl hj)⟩
  exact hr
