/-! text: comparison, beside denied -/
variable {A T : jA3} {v : Nat → Nat} {z N i n d m : Nat}
abbrev set12 (T : jA3) (x : Int32) : jA3 := va_up T 94 (upd (T 94) 12 x)
theorem OK.set12 {d2 : Nat} (h : OK A T v z N i n d) (hd : d2 ≤ 5) : OK A (set12 T (nI d2)) v z N i n d2 := by
  obtain ⟨h1, h2, h3, h4, h5, h6, h7, h8, h9, h10, h11, h12, h13, h14, h15⟩ := h
  have f2 : Fr wPC T (va_up T 94 (upd (T 94) 12 (nI d2))) := Fr.up Fr.rf (FrC.up FrC.bs rfl)
  exact ⟨h1, h2.fr f2, h3, h4, hd, h6, h7, h8, h9, h10, rfl, h12, h13, h14, h15⟩
theorem FL.set12 (h : FL A T v z N m) (x : Int32) : FL A (set12 T x) v z N m := by
  obtain ⟨h1, h2, q, i, m0, a1, a2, a3, a4, a5, a6, a7⟩ := h
  have f2 : Fr wPC T (va_up T 94 (upd (T 94) 12 x)) := Fr.up Fr.rf (FrC.up FrC.bs rfl)
  exact ⟨h1, h2.fr f2, q, i, m0, a1, a2, a3, a4, a5, a6, a7⟩
theorem OK.d12 (h : OK A T v z N i n d) : T 94 12 = nI d := h.2.2.2.2.2.2.2.2.2.2.1
/-- something opens -/
theorem o_open (h : OK A T v z N i n d) (hi : i < N) (hN : N ≤ 160) (hd : d < 5) : ∃ A2 T2, fX5_next A = some A2 ∧ fX11_opens T = some (1, T2) ∧ OK A2 T2 v z N (i + 1) n (d + 1) ∧ A2 26 = A 26 := by
  obtain ⟨A2, T2, e1, e2, hO, h26⟩ := o_next (h.set12 (show d + 1 ≤ 5 by omega)) hi hN
  refine ⟨A2, T2, e1, ?_, hO, h26⟩
  unfold fX11_opens
  rw [h.d12, if_neg (show ¬ nI d = (5 : Int32) from fun w => by have := (nI_eq (b := 5) (by omega) (by omega)).mp w; omega), nI_1, e2]
  rfl
theorem o_full (h : OK A T v z N i n d) (hN : N ≤ 160) (hz : z ≤ 160) (hd : d = 5) : ∃ A2 T2, fX5_fail A = some A2 ∧ fX11_opens T = some (0, T2) ∧ FL A2 T2 v z N (n + N - i) := by
  obtain ⟨A2, T2, e1, e2, hF⟩ := o_fault h hN hz (show n ≤ n + N - i by have := h.2.2.1; omega)
  refine ⟨A2, T2, e1, ?_, hF⟩
  unfold fX11_opens
  rw [h.d12, hd, if_pos (show nI 5 = (5 : Int32) from rfl), e2]
  rfl
theorem FL.lev (h : FL A T v z N m) (k : Nat) (l x : Int32) : fX5_readLevel (k + 1) A l x = some A := by
  show gX5_readLevel (fX5_readLevel k) A l x = _
  unfold gX5_readLevel
  rw [if_neg (fun w => by
    have := h.ge
    rw [Int32.le_iff_toInt_le] at this
    rw [Int32.lt_iff_toInt_lt] at w
    omega)]
theorem FL.cmp (h : FL A T v z N m) (hN : N ≤ 160) (k : Nat) (l x : Int32) : ∃ A2, jX5_readComparison_58 (fX5_readLevel (k + 1)) A l x = some A2 ∧ FL A2 T v z N m := by
  unfold jX5_readComparison_58
  by_cases q : x = 0
  · rw [if_pos q]
    exact ⟨A, rfl, h⟩
  · obtain ⟨A2, e, h2⟩ := h.next hN
    rw [if_neg q, e]
    show ∃ A3, Option.bind (fX5_readLevel (k + 1) A2 3 l) _ = some A3 ∧ _
    rw [h2.lev]
    show ∃ A3, Option.bind (fX5_write A2 x) _ = some A3 ∧ _
    rw [h2.write]
    exact ⟨A2, rfl, h2⟩
/-- a comparison's second half -/
theorem cmp_two (hTS : TS v z N) {kc kr : Nat} (h3 : P3 v z N kc kr d) {A0 : jA3} {n0 i0 : Nat} {x : Int32} (hx0 : ¬ x = 0) (hx : isTwo x) (hxw : withOf x = 0) (h : OK A T v z N i n d) (hi : i < N) (b1 : i0 ≤ i) (b2 : n0 ≤ n) (b3 : n + i0 ≤ n0 + i) (b5 : Steps (A 26) n0 n) (b6 : ∀ k, k < n0 → A 26 k = A0 26 k) (h16 : T 94 16 = actOf x) : Sim (Res A0 v z N d n0 i0) (jX5_readComparison_58 (fX5_readLevel kc) A (nI d) x) (jX11_denied_61 (rX11 kr) T) := by
  obtain ⟨hz, hN, -⟩ := id hTS
  unfold jX5_readComparison_58 jX11_denied_61
  obtain ⟨S2, T2, e1, e2, hO, h26⟩ := o_next h hi hN
  rw [if_neg hx0, e1, e2, h16]
  refine Sim.bl rfl <| Sim.br rfl <| Sim.bd (h3 S2 T2 (i + 1) n hO) ?_
  have hin : n ≤ i ∧ i ≤ N := ⟨h.2.2.2.1, h.2.2.1⟩
  rintro S3 T3 (⟨i3, n3, c1, c2, c3, c4, c5, c6⟩ | c)
  · obtain ⟨S4, T4, e3, e4, hO4, w1, w2⟩ := o_write c4 (by omega) hN x (actOf x) 0 rfl hxw.symm
    rw [e3, e4]
    refine Sim.bl rfl <| Sim.br rfl <| Sim.rt (Or.inl ⟨i3, n3 + 1, by omega, by omega, by omega, hO4, ?_, fun j hj => ?_⟩)
    · refine Steps.two b2 c2 (Steps.cong b5 (fun j h1 h2 => ?_)) (Steps.cong c5 (fun j h1 h2 => ?_)) (by rw [w1]; exact hx)
      · rw [w2 j (by omega), c6 j h2, h26]
      · rw [w2 j (by omega)]
    · rw [w2 j (by omega), c6 j (by omega), h26]
      exact b6 j hj
  · obtain ⟨T4, e4, c2⟩ := c.add (by omega) (actOf x) 0
    rw [c.write, e4]
    exact Sim.bl rfl <| Sim.br rfl <| Sim.rt (Or.inr (c2.mono (by omega)))
theorem up2 (hTS : TS v z N) {kc kr : Nat} (h3 : P3 v z N (kc + 1) kr d) (h2 : d < 5 → P2 v z N (kc + 1) kr (d + 1)) : P2 v z N (kc + 2) (kr + 1) d := by
  intro A T i n h
  obtain ⟨hz, hN, -⟩ := id hTS
  have hc := hTS.2.2.2.2 i
  have hin : n ≤ i ∧ i ≤ N := ⟨h.2.2.2.1, h.2.2.1⟩
  show Sim _ (gX5_readLevel (fX5_readLevel (kc + 1)) A (nI 2) (nI d)) (gX11_denied (rX11 kr) T)
  unfold gX5_readLevel gX11_denied
  rw [if_pos h.neg, if_pos (show nI 2 = (2 : Int32) from rfl), bind_id]
  unfold fX5_readComparison
  rw [h.token hN, show fX11_isKey T (15 : Int32) = if tcd v z i = 305 then 1 else 0 from key_is h.tk h.negC (k := 5) (by omega)]
  refine Sim.bl rfl ?_
  by_cases q : tcd v z i = 305
  · rw [if_pos (show nI (tcd v z i) = (305 : Int32) from (code_is (k := 305) hc (by omega)).mpr q), if_pos q, if_neg (show ¬ (1 : Int32) = 0 by decide)]
    unfold fX5_readOpened
    have hi := h.lt hTS (by omega) (by omega)
    by_cases hd : d < 5
    · obtain ⟨A2, T2, e1, e2, hO, h26⟩ := o_open h hi hN hd
      rw [if_pos (show nI d < (5 : Int32) from nI_lt (b := 5) hd (by omega)), e1, e2, nI_1]
      obtain ⟨A3, T3, e3, e4, hR⟩ := h2 hd A2 T2 (i + 1) n hO
      refine Sim.bl (a := A3) (by show Option.bind (fX5_readLevel (kc + 1) A2 (nI 2) (nI (d + 1))) _ = _; rw [e3]; rfl) <| Sim.br rfl <| Sim.imr (show ¬ (1 : Int32) = 0 by decide) ?_
      show Sim _ _ (Option.bind (rX11 kr 1 T2) _)
      rw [e4]
      refine Sim.br rfl ?_
      rcases hR with ⟨i3, n3, c1, c2, c3, c4, c5, c6⟩ | c
      · have hdn : T3 94 12 - (1 : Int32) = nI d := by rw [c4.d12, nI_pred]
        rw [hdn]
        obtain ⟨S4, T4, e5, e6, hO4, w1, w2⟩ := o_write (c4.set12 (show d ≤ 5 by omega)) (by omega) hN (-13) 3 0 (by decide) (by decide)
        rw [e5, e6]
        refine Sim.bl rfl <| Sim.br rfl <| Sim.rt (Or.inl ⟨i3, n3 + 1, by omega, by omega, by omega, hO4, ?_, fun j hj => ?_⟩)
        · exact Steps.turn c2 (Steps.cong c5 (fun j h1 h2 => (w2 j (by omega)).symm)) (by rw [w1]; exact Or.inl rfl)
        · rw [w2 j (by omega), c6 j hj, h26]
      · have c' := c.set12 (T3 94 12 - (1 : Int32))
        obtain ⟨T4, e6, c2⟩ := c'.add (by omega) 3 0
        rw [c.write, e6]
        exact Sim.bl rfl <| Sim.br rfl <| Sim.rt (Or.inr (c2.mono (by omega)))
    · have hd5 : d = 5 := by have := h.2.2.2.2.1; omega
      obtain ⟨A2, T2, e1, e2, hF⟩ := o_full h hN hz hd5
      rw [if_neg (show ¬ nI d < (5 : Int32) from nI_nlt (a := d) (b := 5) (by omega) (by omega)), e1, e2]
      refine Sim.bl (a := A2) rfl ?_
      rw [hF.write]
      exact Sim.bl rfl <| Sim.br rfl <| Sim.ipr rfl <| Sim.rt (Or.inr hF)
  · rw [if_neg (show ¬ nI (tcd v z i) = (305 : Int32) from fun w => q ((code_is (k := 305) hc (by omega)).mp w)), if_neg q, if_pos rfl]
    refine Sim.bd (h3 A T i n h) ?_
    rintro A1 T1 (⟨i1, n1, b1, b2, b3, b4, b5, b6⟩ | b)
    · have hc1 := hTS.2.2.2.2 i1
      rw [b4.token hN, show fX11_isSign T1 (60 : Int32) = if tcd v z i1 = 60 then 1 else 0 from sign_is b4.tk b4.negC (c := 60) rfl, show fX11_isSign T1 (61 : Int32) = if tcd v z i1 = 61 then 1 else 0 from sign_is b4.tk b4.negC (c := 61) rfl]
      have e16 : ∀ c, isG c = true → tcd v z i1 = c → T1 94 16 = nI c := fun c hg hq => by
        have hl := isG_lt hg
        rcases b4.tk with ⟨w, _⟩ | ⟨w, _⟩ | ⟨j, hj, w, _⟩ | ⟨j, hj, w, _⟩ | ⟨_, _, _, w⟩ | ⟨j, hj, w, _⟩
        · omega
        · omega
        · omega
        · omega
        · rw [w, hq]
        · omega
      refine Sim.bl rfl ?_
      by_cases q1 : tcd v z i1 = 60
      · rw [if_pos (show nI (tcd v z i1) = (60 : Int32) from (code_is (k := 60) hc1 (by omega)).mpr q1), if_pos q1, if_neg (show ¬ (1 : Int32) = 0 by decide)]
        exact cmp_two hTS h3 (by decide) (by unfold isTwo; decide) (by decide) b4 (b4.lt hTS (by omega) (by omega)) b1 b2 b3 b5 b6 (by rw [e16 60 rfl q1]; decide)
      · rw [if_neg (show ¬ nI (tcd v z i1) = (60 : Int32) from fun w => q1 ((code_is (k := 60) hc1 (by omega)).mp w)), if_neg q1, if_pos rfl]
        refine Sim.bl rfl ?_
        by_cases q2 : tcd v z i1 = 61
        · rw [if_pos (show nI (tcd v z i1) = (61 : Int32) from (code_is (k := 61) hc1 (by omega)).mpr q2), if_pos q2, if_neg (show ¬ (1 : Int32) = 0 by decide)]
          exact cmp_two hTS h3 (by decide) (by unfold isTwo; decide) (by decide) b4 (b4.lt hTS (by omega) (by omega)) b1 b2 b3 b5 b6 (by rw [e16 61 rfl q2]; decide)
        · rw [if_neg (show ¬ nI (tcd v z i1) = (61 : Int32) from fun w => q2 ((code_is (k := 61) hc1 (by omega)).mp w)), if_neg q2, if_pos rfl]
          unfold jX5_readComparison_58
          exact Sim.ipl rfl <| Sim.rt (Or.inl ⟨i1, n1, b1, b2, b3, b4, b5, b6⟩)
    · rw [b.sign, b.sign, if_pos rfl, if_pos rfl]
      obtain ⟨c, ec⟩ := b.token hN
      rw [ec]
      refine Sim.bl rfl ?_
      have hfin : ∀ x : Int32, Sim (Res A v z N d n i) (jX5_readComparison_58 (fX5_readLevel (kc + 1)) A1 (nI d) x) (some T1) := fun x => by
        obtain ⟨A2, e, h2⟩ := b.cmp hN kc (nI d) x
        rw [e]
        exact Sim.rt (Or.inr h2)
      refine Sim.il (fun _ => hfin _) (fun _ => Sim.bl rfl <| Sim.il (fun _ => hfin _) (fun _ => hfin _))
