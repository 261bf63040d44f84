/-! text: the three rules of a text -/
variable {A T : jA3} {v : Nat → Nat} {z N i n d m : Nat}
theorem OK.c27 (h : OK A T v z N i n d) (g : Nat → Int32) : OK (va_up A 27 g) T v z N i n d := by
  obtain ⟨h1, h2, h3, h4, h5, h6, h7, h8, h9, h10, h11, h12, h13, h14, h15⟩ := h
  exact ⟨⟨h1.1, h1.2⟩, h2, h3, h4, h5, h6, h7, h8, h9, h10, h11, h12, h13, h14, h15⟩
theorem FL.c27 (h : FL A T v z N m) (g : Nat → Int32) : FL (va_up A 27 g) T v z N m := by
  obtain ⟨h1, h2, q, i, m0, a1, a2, a3, a4, a5, a6, a7⟩ := h
  exact ⟨⟨h1.1, h1.2⟩, h2, q, i, m0, a1, a2, a3, a4, a5, a6, a7⟩
theorem OK.c100 (h : OK A T v z N i n d) (g : Nat → Int32) : OK A (va_up T 100 g) v z N i n d := by
  obtain ⟨h1, h2, h3, h4, h5, h6, h7, h8, h9, h10, h11, h12, h13, h14, h15⟩ := h
  exact ⟨h1, ⟨⟨h2.1.1, h2.1.2.1, h2.1.2.2⟩, h2.2.1, h2.2.2⟩, h3, h4, h5, h6, h7, h8, h9, h10, h11, h12, h13, h14, h15⟩
theorem FL.expect (h : FL A T v z N m) (x : Int32) : fX5_expect A x = some A := by
  unfold fX5_expect
  rw [if_pos h.ge, h.fail]
  rfl
/-- a token that must stand there -/
theorem o_expect (hTS : TS v z N) (h : OK A T v z N i n d) {c : Nat} (hc2 : 2 ≤ c) (hc3 : c < 20000) : (tcd v z i = c ∧ i < N ∧ ∃ A2 T2, fX5_expect A (nI c) = some A2 ∧ fX11_next T = some T2 ∧ OK A2 T2 v z N (i + 1) n d ∧ A2 26 = A 26) ∨ (tcd v z i ≠ c ∧ ∃ A2 T2, fX5_expect A (nI c) = some A2 ∧ fX11_faulty T = some T2 ∧ FL A2 T2 v z N n) := by
  obtain ⟨hz, hN, -⟩ := id hTS
  have hc := hTS.2.2.2.2 i
  unfold fX5_expect
  rw [if_neg (show ¬ (0 : Int32) ≤ A 21 5 by rw [h.2.2.2.2.2.2.1]; decide), h.token hN]
  by_cases q : tcd v z i = c
  · have hi := h.lt hTS (by omega) (by omega)
    obtain ⟨A2, T2, e1, e2, hO, h26⟩ := o_next h hi hN
    refine Or.inl ⟨q, hi, A2, T2, ?_, e2, hO, h26⟩
    show (if nI (tcd v z i) = nI c then _ else _) = _
    rw [if_pos ((code_is hc hc3).mpr q), e1]
    rfl
  · obtain ⟨A2, T2, e1, e2, hF⟩ := o_fault h hN hz (Nat.le_refl n)
    refine Or.inr ⟨q, A2, T2, ?_, e2, hF⟩
    show (if nI (tcd v z i) = nI c then _ else _) = _
    rw [if_neg (fun w => q ((code_is hc hc3).mp w)), e1]
    rfl
def RP (v : Nat → Nat) (z N p : Nat) (A T : jA3) : Prop := ∃ i n, ∃ e : Nat → Nat, OK A T v z N i n 0 ∧ e 0 = 0 ∧ e p = n ∧ ∀ q, q < p → e q ≤ e (q + 1) ∧ A 27 q = nI (e q) ∧ Steps (A 26) (e q) (e (q + 1)) ∧ T 100 (18 + q) = nI (e (q + 1))
theorem FL_tail (h : FL A T v z N m) : ∀ (f p : Nat), p + f = 3 → ∃ A2, jwh cX5_readTape_24 (nI p, A) = some A2 ∧ FL A2 T v z N m := by
  intro f
  induction f generalizing A with
  | zero =>
    intro p hp
    refine ⟨A, jwh_out ?_, h⟩
    unfold cX5_readTape_24
    rw [if_pos (show (3 : Int32) ≤ nI p from nI_le (a := 3) (by omega) (by omega))]
  | succ f ih =>
    intro p hp
    have h2 := h.c27 (upd (A 27) p (A 21 3))
    obtain ⟨A2, e, hF⟩ := ih h2 (p + 1) (by omega)
    refine ⟨A2, ?_, hF⟩
    rw [← e]
    refine jwh_go ?_
    unfold cX5_readTape_24
    rw [if_neg (show ¬ (3 : Int32) ≤ nI p from nI_ge (b := 3) (by omega) (by omega)), jgd_t (vp_in_nI (by omega) (by omega)), jx_n (by omega)]
    show Option.bind (fX5_expect (va_up A 27 (upd (A 27) p (A 21 3))) _) _ = _
    rw [h2.expect]
    show Option.bind (fX5_readLevel (63 + 1) (va_up A 27 (upd (A 27) p (A 21 3))) 0 0) _ = _
    rw [h2.lev]
    show Option.bind (fX5_expect (va_up A 27 (upd (A 27) p (A 21 3))) 59) _ = _
    rw [h2.expect, ← nI_1 p]
    rfl
