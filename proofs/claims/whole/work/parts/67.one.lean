/-! text: one beside one; all depths -/
variable {A T : jA3} {v : Nat → Nat} {z N i n d m : Nat}
/-- a name or a number: written, then next -/
theorem o_push (h : OK A T v z N i n d) (hi : i < N) (hN : N ≤ 160) (x y w : Int32) (hy : y = actOf x) (hw : w = withOf x) : ∃ A1 T1 A2 T2, fX5_write A x = some A1 ∧ fX5_next A1 = some A2 ∧ fX11_addStep T y w = some T1 ∧ fX11_next T1 = some T2 ∧ OK A2 T2 v z N (i + 1) (n + 1) d ∧ A2 26 n = x ∧ ∀ k, k ≠ n → A2 26 k = A 26 k := by
  obtain ⟨h1, h2, h3, h4, h5, h6, h7, h8, h9, h10, h11, h12, h13, h14, h15⟩ := h
  generalize hA2 : va_up (va_up A 26 (upd (A 26) n x)) 21 (upd (A 21) 3 (nI (n + 1))) = A2
  generalize hT2 : va_up (va_up (va_up T 98 (upd (T 98) (1020 + n) y)) 99 (upd (T 99) (1020 + n) w)) 94 (upd (T 94) 10 (nI (n + 1))) = T2
  have e1 : fX5_write A x = some A2 := by
    unfold fX5_write
    rw [h7, if_neg (show ¬ (0 : Int32) ≤ -1 by decide), h8, if_neg (show ¬ (Int32.ofNat 160) ≤ nI n from nI_ge (b := 160) (by omega) (by omega)), jgd_t (vp_in_nI (by omega) (by omega)), jx_n (by omega), ← hA2, ← nI_1]
    show some (va_up (va_up A 26 (upd (A 26) n x)) 21 (upd (A 21) 3 (A 21 3 + 1))) = _
    rw [h8]
  have v1 : vp_in (nI (1020 + n)) 1190 := vp_in_nI (by omega) (by omega)
  have e2 : fX11_addStep T y w = some T2 := by
    unfold fX11_addStep
    rw [h10, lit_n 1020, nI_add, jgd_t v1, jx_n (by omega), ← hT2]
    show jgd (vp_in (nI 1020 + T 94 10) 1190) (some (va_up (va_up (va_up T 98 (upd (T 98) (1020 + n) y)) 99 (upd (T 99) (jx (nI 1020 + T 94 10)) w)) 94 (upd (T 94) 10 (T 94 10 + 1)))) = _
    rw [h10, nI_add, jgd_t v1, jx_n (by omega), nI_1]
  have f1 : Fr wPA A A2 := by rw [← hA2]; exact Fr.up (Fr.up Fr.rf (FrC.al (fun _ => rfl))) (FrC.al (fun _ => rfl))
  have f2 : Fr wPC T T2 := by rw [← hT2]; exact Fr.up (Fr.up (Fr.up Fr.rf (FrC.al (fun _ => rfl))) (FrC.al (fun _ => rfl))) (FrC.up (FrC.ne rfl (FrC.ne rfl FrC.bs)) rfl)
  have a26 : ∀ k, A2 26 k = upd (A 26) n x k := fun k => by rw [← hA2]; rfl
  have hTC := h2.fr f2
  obtain ⟨T3, e3, f3, a1, a2, a3⟩ := r_nextC (i := i + 1) hTC.2.1 hTC.2.2 hTC.1 (by rw [← hT2]; exact h13)
  have hTA := h1.fr f1
  have e4 : fX5_next A2 = some (va_up A2 21 (upd (A2 21) 4 (nI (i + 1)))) := by
    unfold fX5_next
    rw [hTA.1, show A2 21 4 = nI i by rw [← hA2]; exact h6, nI_pred, if_neg (nI_ge hi (by omega)), nI_1]
  have f4 : Fr wPA A2 (va_up A2 21 (upd (A2 21) 4 (nI (i + 1)))) := Fr.up Fr.rf (FrC.al (fun _ => rfl))
  refine ⟨A2, T2, _, T3, e1, e4, e2, e3, ⟨hTA.fr f4, hTC.fr (f3.wd rfl), by omega, by omega, h5, rfl, by rw [← hA2]; exact h7, by rw [← hA2]; rfl, by rw [f3 94 11 rfl, ← hT2]; exact h9, by rw [f3 94 10 rfl, ← hT2]; rfl, by rw [f3 94 12 rfl, ← hT2]; exact h11, a1, a2, a3, fun k hk => ?_⟩, by show A2 26 n = x; rw [a26, upd_at], fun k hk => by show A2 26 k = _; rw [a26, upd_ne hk]⟩
  rw [f3 98 _ rfl, f3 99 _ rfl]
  show T2 98 (1020 + k) = actOf (A2 26 k) ∧ T2 99 (1020 + k) = withOf (A2 26 k)
  rw [a26, ← hT2]
  show upd (T 98) (1020 + n) y (1020 + k) = _ ∧ upd (T 99) (1020 + n) w (1020 + k) = _
  by_cases q : k = n
  · rw [q, upd_at, upd_at, upd_at]
    exact ⟨hy, hw⟩
  · rw [upd_ne (show 1020 + k ≠ 1020 + n by omega), upd_ne (show 1020 + k ≠ 1020 + n by omega), upd_ne q]
    exact h15 k (by omega)
theorem one_push (hTS : TS v z N) (h : OK A T v z N i n d) (hi : i < N) (x y w : Int32) (hx : isPush x) (hy : y = actOf x) (hw : w = withOf x) : Sim (Res A v z N d n i) (Option.bind (fX5_write A x) fun r6 => Option.bind (fX5_next r6) fun r8 => some r8) (Option.bind (fX11_addStep T y w) fun r9 => Option.bind (fX11_next r9) fun r11 => some r11) := by
  obtain ⟨A1, T1, A2, T2, e1, e2, e3, e4, hO, w1, w2⟩ := o_push h hi hTS.2.1 x y w hy hw
  rw [e1, e3]
  refine Sim.bl rfl <| Sim.br rfl ?_
  rw [e2, e4]
  exact Sim.bl rfl <| Sim.br rfl <| Sim.rt (Or.inl ⟨i + 1, n + 1, by omega, by omega, by omega, hO, Steps.push (by rw [w1]; exact hx), fun k hk => w2 k (by omega)⟩)
/-- a bracket, a minus, or a fault -/
theorem one58 (hTS : TS v z N) {kc kr : Nat} (h0 : d < 5 → P0 v z N kc kr (d + 1)) (h5 : d < 5 → P5 v z N kc kr (d + 1)) (h : OK A T v z N i n d) : Sim (Res A v z N d n i) (jX5_readOne_58 (fX5_readLevel kc) A (nI d) (nI (tcd v z i))) (jX11_one_65 (rX11 kr) T) := by
  obtain ⟨hz, hN, -⟩ := id hTS
  have hc := hTS.2.2.2.2 i
  have hin : n ≤ i ∧ i ≤ N := ⟨h.2.2.2.1, h.2.2.1⟩
  unfold jX5_readOne_58 jX11_one_65 fX5_readOpened
  rw [show fX11_isSign T (45 : Int32) = if tcd v z i = 45 then 1 else 0 from sign_is h.tk h.negC (c := 45) rfl, show fX11_isSign T (40 : Int32) = if tcd v z i = 40 then 1 else 0 from sign_is h.tk h.negC (c := 40) rfl]
  by_cases q : tcd v z i = 45
  · rw [if_pos (show nI (tcd v z i) = (45 : Int32) from (code_is (k := 45) hc (by omega)).mpr q), if_pos q, if_neg (show ¬ (1 : Int32) = 0 by decide)]
    have hi := h.lt hTS (by omega) (by omega)
    by_cases hd : d < 5
    · obtain ⟨A2, T2, e1, e2, hO, h26⟩ := o_open h hi hN hd
      rw [if_pos (show nI d < (5 : Int32) from nI_lt (b := 5) hd (by omega)), e1, e2, nI_1]
      obtain ⟨A3, T3, e3, e4, hR⟩ := h5 hd A2 T2 (i + 1) n hO
      refine Sim.bl (a := A3) (by show Option.bind (fX5_readLevel kc A2 (nI 5) (nI (d + 1))) _ = _; rw [e3]; rfl) <| Sim.br rfl <| Sim.imr (show ¬ (1 : Int32) = 0 by decide) ?_
      show Sim _ _ (Option.bind (rX11 kr 2 T2) _)
      rw [e4]
      refine Sim.br rfl ?_
      rcases hR with ⟨i3, n3, c1, c2, c3, c4, c5, c6⟩ | c
      · have hdn : T3 94 12 - (1 : Int32) = nI d := by rw [c4.d12, nI_pred]
        rw [hdn]
        obtain ⟨S4, T4, e5, e6, hO4, w1, w2⟩ := o_write (c4.set12 (show d ≤ 5 by omega)) (by omega) hN (-19) 4 0 (by decide) (by decide)
        rw [e5, e6]
        refine Sim.bl rfl <| Sim.br rfl <| Sim.rt (Or.inl ⟨i3, n3 + 1, by omega, by omega, by omega, hO4, ?_, fun j hj => ?_⟩)
        · exact Steps.turn c2 (Steps.cong c5 (fun j h1 h2 => (w2 j (by omega)).symm)) (by rw [w1]; exact Or.inr rfl)
        · rw [w2 j (by omega), c6 j hj, h26]
      · have c' := c.set12 (T3 94 12 - (1 : Int32))
        obtain ⟨T4, e6, c2⟩ := c'.add (by omega) 4 0
        rw [c.write, e6]
        exact Sim.bl rfl <| Sim.br rfl <| Sim.rt (Or.inr (c2.mono (by omega)))
    · have hd5 : d = 5 := by have := h.2.2.2.2.1; omega
      obtain ⟨A2, T2, e1, e2, hF⟩ := o_full h hN hz hd5
      rw [if_neg (show ¬ nI d < (5 : Int32) from nI_nlt (a := d) (b := 5) (by omega) (by omega)), e1, e2]
      refine Sim.bl (a := A2) rfl ?_
      rw [hF.write]
      exact Sim.bl rfl <| Sim.br rfl <| Sim.ipr rfl <| Sim.rt (Or.inr hF)
  · rw [if_neg (show ¬ nI (tcd v z i) = (45 : Int32) from fun w => q ((code_is (k := 45) hc (by omega)).mp w)), if_neg q, if_pos rfl]
    by_cases q1 : tcd v z i = 40
    · rw [if_pos (show nI (tcd v z i) = (40 : Int32) from (code_is (k := 40) hc (by omega)).mpr q1), if_pos q1, if_neg (show ¬ (1 : Int32) = 0 by decide)]
      have hi := h.lt hTS (by omega) (by omega)
      by_cases hd : d < 5
      · obtain ⟨A2, T2, e1, e2, hO, h26⟩ := o_open h hi hN hd
        rw [if_pos (show nI d < (5 : Int32) from nI_lt (b := 5) hd (by omega)), e1, e2, nI_1]
        obtain ⟨A3, T3, e3, e4, hR⟩ := h0 hd A2 T2 (i + 1) n hO
        refine Sim.bl (a := A3) (by show Option.bind (fX5_readLevel kc A2 (nI 0) (nI (d + 1))) _ = _; rw [e3]; rfl) <| Sim.br rfl <| Sim.imr (show ¬ (1 : Int32) = 0 by decide) ?_
        show Sim _ _ (Option.bind (rX11 kr 0 T2) _)
        rw [e4]
        refine Sim.br rfl ?_
        unfold fX5_expect
        rcases hR with ⟨i3, n3, c1, c2, c3, c4, c5, c6⟩ | c
        · have hc3 := hTS.2.2.2.2 i3
          have hdn : T3 94 12 - (1 : Int32) = nI d := by rw [c4.d12, nI_pred]
          rw [if_neg (show ¬ (0 : Int32) ≤ A3 21 5 by rw [c4.2.2.2.2.2.2.1]; decide), c4.token hN, show fX11_isSign T3 (41 : Int32) = if tcd v z i3 = 41 then 1 else 0 from sign_is c4.tk c4.negC (c := 41) rfl, hdn]
          by_cases q2 : tcd v z i3 = 41
          · obtain ⟨A4, T4, e5, e6, hO4, h264⟩ := o_next (c4.set12 (show d ≤ 5 by omega)) (c4.lt hTS (by omega) (by omega)) hN
            rw [if_pos q2, if_neg (show ¬ (1 : Int32) = 0 by decide), e6]
            refine Sim.bl (a := A4) ?_ <| Sim.br rfl <| Sim.rt (Or.inl ⟨i3 + 1, n3, by omega, c2, by omega, hO4, by rw [h264]; exact c5, fun k hk => by rw [h264, c6 k hk, h26]⟩)
            show (if nI (tcd v z i3) = (41 : Int32) then _ else _) = _
            rw [if_pos (show nI (tcd v z i3) = (41 : Int32) from (code_is (k := 41) hc3 (by omega)).mpr q2), e5]
            rfl
          · obtain ⟨A4, T4, e5, e6, hF⟩ := o_fault c4 hN hz (show n3 ≤ n + N - i by have := c4.2.2.1; omega)
            rw [if_neg q2, if_pos rfl, e6]
            refine Sim.bl (a := A4) ?_ <| Sim.br rfl <| Sim.rt (Or.inr hF)
            show (if nI (tcd v z i3) = (41 : Int32) then _ else _) = _
            rw [if_neg (show ¬ nI (tcd v z i3) = (41 : Int32) from fun w => q2 ((code_is (k := 41) hc3 (by omega)).mp w)), e5]
            rfl
        · rw [if_pos c.ge, c.fail, c.sign, if_pos rfl, c.faulty]
          exact Sim.bl rfl <| Sim.br rfl <| Sim.rt (Or.inr (c.mono (by omega)))
      · have hd5 : d = 5 := by have := h.2.2.2.2.1; omega
        obtain ⟨A2, T2, e1, e2, hF⟩ := o_full h hN hz hd5
        rw [if_neg (show ¬ nI d < (5 : Int32) from nI_nlt (a := d) (b := 5) (by omega) (by omega)), e1, e2]
        refine Sim.bl (a := A2) rfl ?_
        unfold fX5_expect
        rw [if_pos hF.ge, hF.fail]
        exact Sim.bl rfl <| Sim.br rfl <| Sim.ipr rfl <| Sim.rt (Or.inr hF)
    · rw [if_neg (show ¬ nI (tcd v z i) = (40 : Int32) from fun w => q1 ((code_is (k := 40) hc (by omega)).mp w)), if_neg q1, if_pos rfl]
      obtain ⟨A4, T4, e5, e6, hF⟩ := o_fault h hN hz (show n ≤ n + N - i by omega)
      rw [e5, e6]
      exact Sim.bl rfl <| Sim.br rfl <| Sim.rt (Or.inr hF)
