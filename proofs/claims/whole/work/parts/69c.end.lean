/-! text: the end of it -/
variable {A T : jA3} {v : Nat → Nat} {z N i n d m : Nat}
theorem end_step (hTS : TS v z N) (h : OK A T v z N i n d) : (tcd v z i = 0 ∧ fX5_expect A 0 = some A ∧ T 94 15 = 4) ∨ (tcd v z i ≠ 0 ∧ ¬ T 94 15 = 4 ∧ ∃ A2 T2, fX5_expect A 0 = some A2 ∧ fX11_faulty T = some T2 ∧ FL A2 T2 v z N n) := by
  obtain ⟨hz, hN, hall, -⟩ := id hTS
  have hc := hTS.2.2.2.2 i
  have hiN : i ≤ N := h.2.2.1
  unfold fX5_expect
  rw [if_neg (show ¬ (0 : Int32) ≤ A 21 5 by rw [h.2.2.2.2.2.2.1]; decide), h.token hN]
  by_cases q : tcd v z i = 0
  · have ei : i = N := by
      rcases Nat.lt_or_ge i N with w | w
      · exact absurd q (hall i w).1
      · omega
    refine Or.inl ⟨q, ?_, (end_is h.tk).mpr q⟩
    show (if nI (tcd v z i) = (0 : Int32) then Option.bind (fX5_next A) _ else _) = _
    rw [if_pos (show nI (tcd v z i) = (0 : Int32) from (code_is (k := 0) hc (by omega)).mpr q)]
    have e1 : fX5_next A = some A := by
      unfold fX5_next
      rw [h.1.1, h.2.2.2.2.2.1, nI_pred, if_pos (nI_le (by omega) (by omega))]
    rw [e1]
    rfl
  · obtain ⟨A2, T2, e1, e2, hF⟩ := o_fault h hN hz (Nat.le_refl n)
    refine Or.inr ⟨q, fun w => q ((end_is h.tk).mp w), A2, T2, ?_, e2, hF⟩
    show (if nI (tcd v z i) = (0 : Int32) then _ else Option.bind (fX5_fail A) _) = _
    rw [if_neg (show ¬ nI (tcd v z i) = (0 : Int32) from fun w => q ((code_is (k := 0) hc (by omega)).mp w)), e1]
    rfl
/-- both have read: no fault and three rules, or one fault -/
def RD (v : Nat → Nat) (z N : Nat) (A T : jA3) : Prop := (A 21 5 = -1 ∧ T 94 11 = -1 ∧ ∃ e : Nat → Nat, e 0 = 0 ∧ e 0 ≤ e 1 ∧ e 1 ≤ e 2 ∧ e 2 ≤ e 3 ∧ e 3 ≤ 160 ∧ T 94 10 = nI (e 3) ∧ (∀ p, p < 4 → A 27 p = nI (e p)) ∧ (∀ p, p < 3 → Steps (A 26) (e p) (e (p + 1))) ∧ (∀ p, p < 3 → T 100 (18 + p) = nI (e (p + 1))) ∧ ∀ k, k < e 3 → T 98 (1020 + k) = actOf (A 26 k) ∧ T 99 (1020 + k) = withOf (A 26 k)) ∨ ∃ q, q ≤ 160 ∧ A 21 5 = nI q ∧ T 94 11 = nI q
theorem read_end (hTS : TS v z N) (h : RP v z N 3 A T ∨ ∃ m, m ≤ 160 ∧ FL A T v z N m) : ∃ A2 T2, fX5_expect (va_up A 27 (upd (A 27) 3 (A 21 3))) 0 = some A2 ∧ jX11_text_61 T = jX11_text_80 T2 ∧ RD v z N A2 T2 ∧ Fr [(94, 94, some 11)] T T2 := by
  rcases h with ⟨i, n, e, hO, he0, hep, hq⟩ | ⟨m, hm, hF⟩
  · have a3 : A 21 3 = nI n := hO.2.2.2.2.2.2.2.1
    have hin : n ≤ i ∧ i ≤ N := ⟨hO.2.2.2.1, hO.2.2.1⟩
    have hN := hTS.2.1
    have hO2 := hO.c27 (upd (A 27) 3 (A 21 3))
    unfold jX11_text_61
    rw [if_neg (show ¬ (0 : Int32) ≤ T 94 11 by rw [hO.negC]; decide)]
    rcases end_step hTS hO2 with ⟨q, e1, e2⟩ | ⟨q, w, A2, T2, e1, e2, hF⟩
    · refine ⟨_, T, e1, by rw [if_pos e2], Or.inl ⟨hO.2.2.2.2.2.2.1, hO.negC, e, he0, (hq 0 (by omega)).1, (hq 1 (by omega)).1, (hq 2 (by omega)).1, by omega, by rw [hep]; exact hO.2.2.2.2.2.2.2.2.2.1, fun p hp => ?_, fun p hp => (hq p hp).2.2.1, fun p hp => (hq p hp).2.2.2, by rw [hep]; exact hO.2.2.2.2.2.2.2.2.2.2.2.2.2.2⟩, Fr.rf⟩
      show upd (A 27) 3 (A 21 3) p = nI (e p)
      by_cases w : p = 3
      · rw [w, upd_at, a3, hep]
      · rw [upd_ne w]
        exact (hq p (by omega)).2.1
    · obtain ⟨-, -, q2, i2, m0, b1, b2, b3, b4, b5, b6, b7⟩ := hF
      refine ⟨A2, T2, e1, ?_, Or.inr ⟨q2, b1, b5, b6⟩, (w_fX11_faulty e2)⟩
      rw [if_neg w, e2]
      rfl
  · have hF2 := hF.c27 (upd (A 27) 3 (A 21 3))
    unfold jX11_text_61
    obtain ⟨-, -, q2, i2, m0, b1, b2, b3, b4, b5, b6, b7⟩ := id hF
    exact ⟨_, T, hF2.expect 0, by rw [if_pos hF.geC], Or.inr ⟨q2, b1, b5, b6⟩, Fr.rf⟩
