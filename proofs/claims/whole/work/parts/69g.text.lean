/-! text: both -/
variable {B C B2 C2 A T : jA3} {n m q : Nat}
theorem r_add (h : A 20 2 = nI n) (hn : n ≤ 5) : Run (fun z => z.1 = nI n ∧ z.2 20 2 = nI (n + 1) ∧ (∀ k, k < 160 → z.2 (30 + n) k = A 26 k) ∧ (∀ k, k < 4 → z.2 (37 + n) k = A 27 k) ∧ (∀ c j, c ≠ 20 → c ≠ 30 + n → c ≠ 37 + n → z.2 c j = A c j) ∧ Fr [(20, 20, some 2), (30, 35, none), (37, 42, none)] A z.2) (fX2_add A) := by
  have v : vp_in (nI n) 6 := vp_in_nI (by omega) (by omega)
  have en : jx (nI n) = n := jx_n (by omega)
  unfold fX2_add
  rw [h, en]
  refine Run.g v <| Run.g ⟨by decide, by decide, by decide, by decide, by decide⟩ <| Run.be rfl ?_
  generalize hM : va_up A (30 + n) (va_cpy (A 26) (A (30 + n)) 0 0 (jx (Int32.ofNat 160))) = M
  have m20 : M 20 2 = nI n := by rw [← hM, ju_ne _ _ (by omega)]; exact h
  rw [m20, en]
  refine Run.g v <| Run.g ⟨by decide, by decide, by decide, by decide, by decide⟩ <| Run.be rfl ?_
  generalize hN : va_up M (37 + n) (va_cpy (M 27) (M (37 + n)) 0 0 (jx (Int32.ofNat 4))) = N
  have n20 : N 20 2 = nI n := by rw [← hN, ju_ne _ _ (by omega)]; exact m20
  have fN : Fr [(20, 20, some 2), (30, 35, none), (37, 42, none)] A N := by
    rw [← hN, ← hM]
    exact Fr.up (Fr.up Fr.rf (FrC.al fun j => inW_rng (lo := 30) (hi := 35) rfl (by omega) (by omega))) (FrC.al fun j => inW_rng (lo := 37) (hi := 42) rfl (by omega) (by omega))
  rw [n20]
  refine Run.rt ⟨?_, ?_, fun k hk => ?_, fun k hk => ?_, fun c j a1 a2 a3 => ?_, Fr.up fN (FrC.up FrC.bs rfl)⟩
  · show nI n + 1 - 1 = nI n
    rw [nI_1]
    exact nI_pred n
  · show upd (N 20) 2 (nI n + 1) 2 = _
    rw [upd_at]
    exact nI_1 n
  · show va_up N 20 _ (30 + n) k = _
    rw [ju_ne _ _ (by omega), ← hN, ju_ne _ _ (by omega), ← hM, ju_same, show jx (Int32.ofNat 160) = 160 from rfl, pk_cpy_in (by omega) (by omega), Nat.zero_add, Nat.sub_zero]
  · show va_up N 20 _ (37 + n) k = _
    rw [ju_ne _ _ (by omega), ← hN, ju_same, show jx (Int32.ofNat 4) = 4 from rfl, pk_cpy_in (by omega) (by omega), Nat.zero_add, Nat.sub_zero, ← hM, ju_ne _ _ (by omega)]
  · show va_up N 20 _ c j = _
    rw [ju_ne _ _ a1, ← hN, ju_ne _ _ a3, ← hM, ju_ne _ _ a2]
theorem r_keep (h11 : T 94 11 = -1) (h5 : T 94 5 = nI n) (h10 : T 94 10 = nI m) (hn : n ≤ 5) (hm : m ≤ 160) : Run (fun z => z.1 = nI n ∧ z.2 94 4 = 0 ∧ z.2 94 5 = nI (n + 1) ∧ Fr [(94, 94, some 4), (94, 94, some 5), (98, 98, none), (99, 99, none), (100, 100, none)] T z.2 ∧ (∀ k, k < m → z.2 98 (170 * n + k) = T 98 (1020 + k) ∧ z.2 99 (170 * n + k) = T 99 (1020 + k)) ∧ (∀ j, j < 170 * n → z.2 98 j = T 98 j ∧ z.2 99 j = T 99 j) ∧ (∀ k, k < 3 → z.2 100 (3 * n + k) = T 100 (18 + k)) ∧ ∀ j, j < 3 * n → z.2 100 j = T 100 j) (jX11_text_80 T) := by
  unfold jX11_text_80
  rw [if_pos (show T 94 11 < 0 by rw [h11]; decide)]
  generalize hM : va_up T 94 (upd (T 94) 4 (0 : Int32)) = M
  have fM : Fr [(94, 94, some 4), (94, 94, some 5), (98, 98, none), (99, 99, none), (100, 100, none)] T M := by rw [← hM]; exact Fr.up Fr.rf (FrC.up FrC.bs rfl)
  have m4 : M 94 4 = 0 := by rw [← hM]; rfl
  have m5 : M 94 5 = nI n := by rw [← hM]; exact h5
  have m10 : M 94 10 = nI m := by rw [← hM]; exact h10
  have m98 : M 98 = T 98 := by rw [← hM]; rfl
  have m99 : M 99 = T 99 := by rw [← hM]; rfl
  have m100 : M 100 = T 100 := by rw [← hM]; rfl
  obtain ⟨S, e1, f1, a1, a2⟩ := r_lay m10 m5 hm hn
  obtain ⟨R, e2, f2, b1, b2⟩ := r_ends (T := S) (q := n) (by rw [f1 94 5 rfl]; exact m5) hn
  refine Run.be e1 <| Run.be e2 ?_
  have r5 : R 94 5 = nI n := by rw [f2 94 5 rfl, f1 94 5 rfl]; exact m5
  rw [r5]
  refine Run.rt ⟨?_, ?_, ?_, Fr.up ((fM.tr (f1.wd rfl)).tr (f2.wd rfl)) (FrC.up FrC.bs rfl), fun k hk => ?_, fun j hj => ?_, fun k hk => ?_, fun j hj => ?_⟩
  · show nI n + 1 - 1 = nI n
    rw [nI_1]
    exact nI_pred n
  · show upd (R 94) 5 (nI n + 1) 4 = _
    rw [upd_ne (by omega), f2 94 4 rfl, f1 94 4 rfl]
    exact m4
  · show upd (R 94) 5 (nI n + 1) 5 = _
    rw [upd_at]
    exact nI_1 n
  · show R 98 _ = _ ∧ R 99 _ = _
    rw [f2 98 _ rfl, f2 99 _ rfl, ← m98, ← m99]
    exact a1 k hk
  · show R 98 _ = _ ∧ R 99 _ = _
    rw [f2 98 _ rfl, f2 99 _ rfl, ← m98, ← m99]
    exact a2 j hj
  · show R 100 _ = _
    rw [b1 k hk, f1 100 _ rfl, m100]
  · show R 100 _ = _
    rw [b2 j hj, f1 100 _ rfl, m100]
theorem rText.low (h : rText B C q) (hq : q < n) (b1 : ∀ j, B2 (30 + q) j = B (30 + q) j) (b2 : ∀ j, B2 (37 + q) j = B (37 + q) j) (l1 : ∀ j, j < 170 * n → C2 98 j = C 98 j ∧ C2 99 j = C 99 j) (l2 : ∀ j, j < 3 * n → C2 100 j = C 100 j) : rText B2 C2 q := by
  obtain ⟨e, g0, g1, g2, g3, g4, g5, g6, g7⟩ := h
  unfold rText
  rw [show B2 (30 + q) = B (30 + q) from funext b1, show B2 (37 + q) = B (37 + q) from funext b2]
  refine ⟨e, g0, g1, g2, g3, g4, g5, g6, fun w => ⟨fun p hp => ?_, fun k hk => ?_⟩⟩
  · rw [l2 _ (by omega)]
    exact (g7 w).1 p hp
  · rw [(l1 (170 * q + k) (by omega)).1, (l1 (170 * q + k) (by omega)).2]
    exact (g7 w).2 k hk
abbrev wTxB : List (Nat × Nat × Option Nat) := [(20, 20, some 2), (21, 22, none), (24, 27, none), (30, 35, none), (37, 42, none)]
abbrev wTxC : List (Nat × Nat × Option Nat) := [(94, 94, some 4), (94, 94, some 5), (94, 94, some 10), (94, 94, some 11), (94, 94, some 12), (94, 94, some 13), (94, 94, some 14), (94, 94, some 15), (94, 94, some 16), (98, 98, none), (99, 99, none), (100, 100, none)]
theorem m_text (h : Rel B C) : Sim (fun x y => x.1 = y.1 ∧ Rel x.2 y.2 ∧ Fr wTxB B x.2) (fX10_text B) (fX11_text C) := by
  obtain ⟨h1, h2, h3, h4, h5, h6, h7, h8, h9, h10⟩ := id h
  obtain ⟨c1, c2, t, n, c3, c4, c5, c6, c7, c8, c9⟩ := id h3
  unfold fX10_text fX11_text
  have hh : B 20 2 < (6 : Int32) ↔ ¬ C 94 5 = (6 : Int32) := by
    rw [c2, c4]
    rcases Nat.lt_or_ge n 6 with w | w
    · exact ⟨fun _ q => absurd ((nI_eq (b := 6) (by omega) (by omega)).mp q) (by omega), fun _ => nI_lt (b := 6) w (by omega)⟩
    · have : n = 6 := by omega
      subst this
      decide
  refine Sim.ix hh (fun q => ?_) (fun q => Sim.rt ⟨rfl, h, Fr.rf⟩)
  have hn : n ≤ 5 := by
    rcases Nat.lt_or_ge n 6 with w | w
    · omega
    · have : n = 6 := by omega
      subst this
      rw [c4] at q
      exact absurd q (by decide)
  obtain ⟨v, z, N, A2, T2, e1, e2, hD, fT, l1, l2⟩ := read_both h1 h4
  rw [e2]
  refine Sim.bl e1 ?_
  have fA := w_fX5_readTape e1
  show Sim _ (if 0 ≤ A2 21 5 then some ((-100 : Int32) - A2 21 5, va_up A2 22 (upd (A2 22) 1 (0 : Int32))) else Option.bind (fX2_add (va_up A2 22 (upd (A2 22) 1 (0 : Int32)))) fun r5 => some (r5.1, r5.2)) _
  have fA : Fr [(21, 21, none), (22, 22, some 1), (22, 22, some 4), (22, 22, some 5), (24, 24, none), (25, 25, none), (26, 26, none), (27, 27, none)] B (va_up A2 22 (upd (A2 22) 1 (0 : Int32))) := fA
  have x22 : va_up A2 22 (upd (A2 22) 1 (0 : Int32)) 22 1 = 0 := rfl
  have x26 : va_up A2 22 (upd (A2 22) 1 (0 : Int32)) 26 = A2 26 := rfl
  have x27 : va_up A2 22 (upd (A2 22) 1 (0 : Int32)) 27 = A2 27 := rfl
  generalize va_up A2 22 (upd (A2 22) 1 (0 : Int32)) = X at fA x22 x26 x27
  rcases hD with ⟨d1, d2, e, g0, g1, g2, g3, g4, g5, g6, g7, g8, g9⟩ | ⟨p, q1, q2, q3⟩
  · rw [if_neg (show ¬ 0 ≤ A2 21 5 by rw [d1]; decide)]
    have x20 : X 20 2 = nI n := by rw [fA 20 2 rfl]; exact c4
    have t5 : T2 94 5 = nI n := by rw [fT 94 5 rfl, c2]; exact c4
    refine Sim.rl (r_add x20 hn) fun x hx => ?_
    obtain ⟨a1, a2, a3, a4, a5, a6⟩ := hx
    refine Sim.of_runs (P := fun u => u = (x.1, x.2)) (Run.rt rfl) (r_keep d2 t5 g5 hn g4) ?_
    rintro u y rfl ⟨b1, b2, b3, b4, b5, b6, b7, b8⟩
    have fB : Fr wTxB B x.2 := (fA.wd rfl).tr (a6.wd rfl)
    have fC : Fr wTxC C y.2 := (fT.wd rfl).tr (b4.wd rfl)
    have same : ∀ c j, c ≠ 20 → c ≠ 30 + n → c ≠ 37 + n → inW [(21, 22, none), (24, 27, none)] c j = false → x.2 c j = B c j := fun c j w1 w2 w3 w4 => (a5 c j w1 w2 w3).trans ((fA.wd (w2 := [(21, 22, none), (24, 27, none)]) rfl) c j w4)
    have keep : ∀ j, j < 170 * n → y.2 98 j = C 98 j ∧ y.2 99 j = C 99 j := fun j hj => ⟨(b6 j hj).1.trans (l1 j (by omega)).1, (b6 j hj).2.trans (l1 j (by omega)).2⟩
    refine ⟨a1.trans b1.symm, ⟨h1.fr fB fC rfl rfl, h2.fr fB fC rfl rfl, ⟨?_, ?_, t, n + 1, ?_, a2, by omega, by omega, fun k hk => ?_, fun k hk => ?_, fun r hr => ?_⟩, ⟨?_, 0, by omega, ?_, fun i hi => absurd hi (Nat.not_lt_zero _)⟩, h5.fr fB fC rfl rfl, h6.fr fB fC rfl rfl, h7.fr fB fC rfl rfl, h8.fr fB fC rfl rfl, ⟨?_, fun hne => ?_⟩, h10.fr fB fC rfl rfl⟩, fB⟩
    · show y.2 94 6 = x.2 17 2
      rw [fC 94 6 rfl, fB 17 2 rfl]
      exact c1
    · exact b3.trans a2.symm
    · show x.2 17 2 = nI t
      rw [fB 17 2 rfl]
      exact c3
    · show x.2 30 k = _
      rw [same 30 k (by omega) (by omega) (by omega) rfl]
      exact c7 k hk
    · show x.2 37 k = _
      rw [same 37 k (by omega) (by omega) (by omega) rfl]
      exact c8 k hk
    · by_cases w : r = n
      · subst w
        refine ⟨e, g0, g1, g2, g3, g4, fun p hp => ?_, fun p hp => ?_, fun _ => ⟨fun p hp => ?_, fun k hk => ?_⟩⟩
        · show x.2 (37 + r) p = _
          rw [a4 p hp, x27]
          exact g6 p hp
        · refine (g7 p hp).cong fun k w1 w2 => ?_
          show A2 26 k = x.2 (30 + r) k
          have : e (p + 1) ≤ 160 := by
            have : p = 0 ∨ p = 1 ∨ p = 2 := by omega
            rcases this with w | w | w <;> subst w <;> simp only [Nat.zero_add, Nat.reduceAdd] <;> omega
          rw [a3 k (by omega), x26]
        · show y.2 100 _ = _
          rw [b7 p hp]
          exact g8 p hp
        · show y.2 98 _ = actOf (x.2 (30 + r) k) ∧ y.2 99 _ = withOf (x.2 (30 + r) k)
          rw [(b5 k hk).1, (b5 k hk).2, a3 k (by omega), x26]
          exact g9 k hk
      · have hr2 : r < n := by omega
        refine (c9 r hr2).low hr2 (fun j => ?_) (fun j => ?_) keep (fun j hj => (b8 j hj).trans (l2 j (by omega)))
        · exact same _ j (by omega) (by omega) (by omega) (dj_in (l := [(30, 42, none)]) rfl (inW_rng (lo := 30) (hi := 42) rfl (by omega) (by omega)))
        · exact same _ j (by omega) (by omega) (by omega) (dj_in (l := [(30, 42, none)]) rfl (inW_rng (lo := 30) (hi := 42) rfl (by omega) (by omega)))
    · show y.2 94 4 = x.2 22 1
      rw [b2, a5 22 1 (by omega) (by omega) (by omega), x22]
    · show x.2 22 1 = _
      rw [a5 22 1 (by omega) (by omega) (by omega), x22]
      rfl
    · show y.2 94 47 = x.2 83 3
      rw [fC 94 47 rfl, fB 83 3 rfl]
      exact h9.1
    · have hne : ¬ x.2 83 3 = 0 := hne
      rw [fB 83 3 rfl] at hne
      obtain ⟨k1, k2, k3, t0, p, w, o, k4, k5, k6, k7, k8, k9, k10, k11, k12⟩ := h9.2 hne
      have en : p = n := by
        rw [k5, nI_eq (by omega) (by omega)] at c4
        exact c4
      subst en
      refine ⟨?_, ?_, fun i hi => ?_, t0, p + 1, w, o, ?_, a2, by omega, by omega, ?_, ?_, k10, k11, fun i j hi hj => ?_⟩
      · show y.2 94 48 = x.2 84 2
        rw [fC 94 48 rfl, fB 84 2 rfl]
        exact k1
      · show y.2 94 49 = x.2 83 2
        rw [fC 94 49 rfl, fB 83 2 rfl]
        exact k2
      · show y.2 124 i = x.2 85 i ∧ y.2 125 i = x.2 86 i ∧ KC 5 i ≤ x.2 85 i ∧ x.2 85 i ≤ KC 6 i ∧ ∃ v, v < 100 ∧ x.2 86 i = nI v
        rw [fC 124 i rfl, fC 125 i rfl, fB 85 i rfl, fB 86 i rfl]
        exact k3 i hi
      · show x.2 84 2 = _
        rw [fB 84 2 rfl]
        exact k4
      · show x.2 83 2 = _
        rw [fB 83 2 rfl]
        exact k8
      · show x.2 54 3 = _
        rw [fB 54 3 rfl]
        exact k9
      · show y.2 126 (6 * i + j) = x.2 (88 + i) j ∧ ∃ t, t < 100 ∧ x.2 (88 + i) j = nI t
        rw [fC 126 _ rfl, fB.at (l := [(88, 93, none)]) rfl (88 + i) j (inW_rng (lo := 88) (hi := 93) rfl (by omega) (by omega))]
        exact k12 i j hi hj
  · rw [if_pos (show 0 ≤ A2 21 5 by rw [q2]; exact nI_le (a := 0) (Nat.zero_le _) (by omega))]
    unfold jX11_text_80
    rw [if_neg (show ¬ T2 94 11 < 0 by rw [q3]; exact nI_nlt (b := 0) (Nat.zero_le _) (by omega))]
    have fC : Fr wTxC C (va_up T2 94 (upd (T2 94) 4 (0 : Int32))) := Fr.up (fT.wd rfl) (FrC.up FrC.bs rfl)
    have fB : Fr wTxB B X := fA.wd rfl
    refine Sim.rt ⟨by rw [q2, q3], ⟨h1.fr fA fC rfl rfl, h2.fr fA fC rfl rfl, ⟨?_, ?_, t, n, ?_, ?_, c5, c6, fun k hk => ?_, fun k hk => ?_, fun r hr => ?_⟩, ⟨?_, 0, by omega, x22, fun i hi => absurd hi (Nat.not_lt_zero _)⟩, h5.fr fA fC rfl rfl, h6.fr fA fC rfl rfl, h7.fr fA fC rfl rfl, h8.fr fA fC rfl rfl, h9.fr fA fC rfl rfl, h10.fr fA fC rfl rfl⟩, fB⟩
    · show va_up T2 94 (upd (T2 94) 4 (0 : Int32)) 94 6 = X 17 2
      rw [fC 94 6 rfl, fA 17 2 rfl]
      exact c1
    · show T2 94 5 = X 20 2
      rw [fT 94 5 rfl, fA 20 2 rfl]
      exact c2
    · show X 17 2 = _
      rw [fA 17 2 rfl]
      exact c3
    · show X 20 2 = _
      rw [fA 20 2 rfl]
      exact c4
    · show X 30 k = _
      rw [fA 30 k rfl]
      exact c7 k hk
    · show X 37 k = _
      rw [fA 37 k rfl]
      exact c8 k hk
    · refine (c9 r hr).low (n := 6) (by omega) (fun j => ?_) (fun j => ?_) (fun j hj => ?_) (fun j hj => ?_)
      · exact fA.at (l := [(30, 42, none)]) rfl _ j (inW_rng (lo := 30) (hi := 42) rfl (by omega) (by omega))
      · exact fA.at (l := [(30, 42, none)]) rfl _ j (inW_rng (lo := 30) (hi := 42) rfl (by omega) (by omega))
      · exact l1 j (by omega)
      · exact l2 j (by omega)
    · exact x22.symm
