/-! text: the loop over the three rules -/
variable {A T : jA3} {v : Nat → Nat} {z N i n d m : Nat}
theorem rule_step (hTS : TS v z N) {p : Nat} (hp : p < 3) (h : RP v z N p A T) : ∃ A2 T2, cX5_readTape_24 (nI p, A) = some (.inl (nI (p + 1), A2)) ∧ cX11_text_38 (nI p, T) = some (.inl (nI (p + 1), T2)) ∧ (RP v z N (p + 1) A2 T2 ∨ ∃ m, m ≤ 160 ∧ FL A2 T2 v z N m) := by
  obtain ⟨hz, hN, -⟩ := id hTS
  obtain ⟨i, n, e, hO, he0, hep, hq⟩ := h
  have hin : n ≤ i ∧ i ≤ N := ⟨hO.2.2.2.1, hO.2.2.1⟩
  have a3 : A 21 3 = nI n := hO.2.2.2.2.2.2.2.1
  generalize hM : va_up A 27 (upd (A 27) p (nI n)) = M
  have hOM : OK M T v z N i n 0 := by rw [← hM]; exact hO.c27 _
  have m27 : ∀ q, q < p → M 27 q = nI (e q) := fun q h => by
    rw [← hM]
    show upd (A 27) p (nI n) q = _
    rw [upd_ne (by omega)]
    exact (hq q h).2.1
  have m27p : M 27 p = nI n := by rw [← hM]; exact upd_at
  have m26 : M 26 = A 26 := by rw [← hM]; rfl
  have ec : cX5_readTape_24 (nI p, A) = Option.bind (fX5_expect M (nI (300 + p))) fun r5 => Option.bind (fX5_readLevel 64 r5 (0 : Int32) (0 : Int32)) fun r7 => Option.bind (fX5_expect r7 (nI 59)) fun r9 => some (.inl (nI (p + 1), r9)) := by
    unfold cX5_readTape_24
    rw [if_neg (show ¬ (3 : Int32) ≤ nI p from nI_ge (b := 3) (by omega) (by omega)), jgd_t (vp_in_nI (by omega) (by omega)), jx_n (by omega)]
    show Option.bind (fX5_expect (va_up A 27 (upd (A 27) p (A 21 3))) ((300 : Int32) + nI p)) _ = _
    rw [a3, hM, lit_n 300, nI_add, ← nI_1 p]
    rfl
  have er : cX11_text_38 (nI p, T) = Option.bind (fX11_rule T (nI p)) fun r3 => some (.inl (nI (p + 1), r3)) := by
    unfold cX11_text_38
    rw [if_neg (show ¬ (2 : Int32) < nI p from nI_nlt (a := 2) (b := p) (by omega) (by omega)), if_neg (show ¬ (0 : Int32) ≤ T 94 11 by rw [hO.negC]; decide), ← nI_1 p]
  rw [ec, er]
  unfold fX11_rule
  rw [lit_n 10, nI_add, key_is hO.tk hO.negC (show p < 6 by omega)]
  rcases o_expect hTS hOM (c := 300 + p) (by omega) (by omega) with ⟨q, hi, A2, T2, e1, e2, hO2, h26⟩ | ⟨q, A2, T2, e1, e2, hF⟩
  · obtain ⟨A3, T3, e3, e4, hR⟩ := both_rules hTS hO2
    have f1 := w_fX5_expect e1
    have f3 := w_fX5_readLevel e3
    have g2 := w_fX11_next e2
    have g4 := w_fX11_either e4
    rw [if_pos q, if_neg (show ¬ (1 : Int32) = 0 by decide), e1, e2]
    rcases hR with ⟨i3, n3, c1, c2, c3, c4, c5, c6⟩ | c
    · have hc4 : n3 ≤ i3 ∧ i3 ≤ N := ⟨c4.2.2.2.1, c4.2.2.1⟩
      have es : fX11_isSign T3 (59 : Int32) = if tcd v z i3 = 59 then 1 else 0 := sign_is c4.tk c4.negC (c := 59) rfl
      rcases o_expect hTS c4 (c := 59) (by omega) (by omega) with ⟨q2, hi3, A4, T4, e5, e6, hO4, h264⟩ | ⟨q2, A4, T4, e5, e6, hF⟩
      · have f5 := w_fX5_expect e5
        have g6 := w_fX11_next e6
        have t10 : T4 94 10 = nI n3 := hO4.2.2.2.2.2.2.2.2.2.1
        have a26 : ∀ k, k < n → A4 26 k = A 26 k := fun k hk => by rw [h264, c6 k hk, h26, m26]
        refine ⟨A4, va_up T4 100 (upd (T4 100) (18 + p) (nI n3)), ?_, ?_, Or.inl ⟨i3 + 1, n3, fun q => if q = p + 1 then n3 else e q, hO4.c100 _, by show (if 0 = p + 1 then _ else _) = 0; rw [if_neg (by omega)]; exact he0, if_pos rfl, fun q hq2 => ?_⟩⟩
        · show Option.bind (fX5_readLevel 64 A2 0 0) _ = _
          rw [e3]
          show Option.bind (fX5_expect A3 (nI 59)) _ = _
          rw [e5]
          rfl
        · show Option.bind (Option.bind (fX11_either 64 T2) _) _ = _
          rw [e4]
          show Option.bind (if fX11_isSign T3 (59 : Int32) = 0 then _ else Option.bind (fX11_next T3) _) _ = _
          rw [es, if_pos q2, if_neg (show ¬ (1 : Int32) = 0 by decide), e6, lit_n 18, nI_add]
          show Option.bind (jgd (vp_in (nI (18 + p)) 21) (some (va_up T4 100 (upd (T4 100) (jx (nI (18 + p))) (T4 94 10))))) _ = _
          rw [jgd_t (vp_in_nI (by omega) (by omega)), jx_n (by omega), t10]
          rfl
        · show (if q = p + 1 then n3 else e q) ≤ (if q + 1 = p + 1 then n3 else e (q + 1)) ∧ A4 27 q = nI (if q = p + 1 then n3 else e q) ∧ Steps (A4 26) (if q = p + 1 then n3 else e q) (if q + 1 = p + 1 then n3 else e (q + 1)) ∧ upd (T4 100) (18 + p) (nI n3) (18 + q) = nI (if q + 1 = p + 1 then n3 else e (q + 1))
          have k27 : A4 27 q = M 27 q := by rw [f5 27 q rfl, f3 27 q rfl, f1 27 q rfl]
          rw [if_neg (show ¬ q = p + 1 by omega), k27]
          by_cases w : q = p
          · rw [if_pos (by omega), w, hep, m27p, upd_at]
            exact ⟨c2, rfl, by rw [h264]; exact c5, rfl⟩
          · have hqp : q < p := by omega
            obtain ⟨r1, r2, r3, r4⟩ := hq q hqp
            have hle : ∀ b, q + 1 + b = p → e (q + 1) ≤ n := by
              intro b
              induction b generalizing q with
              | zero => intro hb; rw [show q + 1 = p by omega, hep]; exact Nat.le_refl _
              | succ b ih =>
                intro hb
                have h1 := (hq (q + 1) (by omega)).1
                have h2 := ih (q + 1) (by omega) (by rw [f5 27 _ rfl, f3 27 _ rfl, f1 27 _ rfl]) (by omega) (by omega) (hq (q + 1) (by omega)).1 (hq (q + 1) (by omega)).2.1 (hq (q + 1) (by omega)).2.2.1 (hq (q + 1) (by omega)).2.2.2 (by omega)
                omega
            have hle2 := hle (p - (q + 1)) (by omega)
            rw [if_neg (by omega), m27 q hqp, upd_ne (by omega)]
            refine ⟨r1, rfl, Steps.cong r3 (fun k h1 h2 => (a26 k (by omega)).symm), ?_⟩
            rw [g6 100 _ rfl, g4 100 _ rfl, g2 100 _ rfl]
            exact r4
      · refine ⟨A4, T4, ?_, ?_, Or.inr ⟨n3, by omega, hF⟩⟩
        · show Option.bind (fX5_readLevel 64 A2 0 0) _ = _
          rw [e3]
          show Option.bind (fX5_expect A3 (nI 59)) _ = _
          rw [e5]
          rfl
        · show Option.bind (Option.bind (fX11_either 64 T2) _) _ = _
          rw [e4]
          show Option.bind (if fX11_isSign T3 (59 : Int32) = 0 then Option.bind (fX11_faulty T3) _ else _) _ = _
          rw [es, if_neg q2, if_pos rfl, e6]
          rfl
    · refine ⟨A3, T3, ?_, ?_, Or.inr ⟨_, by omega, c⟩⟩
      · show Option.bind (fX5_readLevel 64 A2 0 0) _ = _
        rw [e3]
        show Option.bind (fX5_expect A3 (nI 59)) _ = _
        rw [c.expect]
        rfl
      · show Option.bind (Option.bind (fX11_either 64 T2) _) _ = _
        rw [e4]
        show Option.bind (if fX11_isSign T3 (59 : Int32) = 0 then Option.bind (fX11_faulty T3) _ else _) _ = _
        rw [c.sign, if_pos rfl, c.faulty]
        rfl
  · rw [if_neg q, if_pos rfl, e1, e2]
    refine ⟨A2, T2, ?_, rfl, Or.inr ⟨n, by omega, hF⟩⟩
    show Option.bind (fX5_readLevel (63 + 1) A2 0 0) _ = _
    rw [hF.lev]
    show Option.bind (fX5_expect A2 (nI 59)) _ = _
    rw [hF.expect]
    rfl
