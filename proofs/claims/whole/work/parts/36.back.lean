/-! back, sheet, cell, copy, sayingsBy -/
variable {B C : jA3}
abbrev wBkB : List (Nat × Nat × Option Nat) := [(17, 17, some 2), (18, 19, none), (57, 62, none)]
abbrev wBkC : List (Nat × Nat × Option Nat) := [(94, 94, some 6), (95, 96, none), (115, 115, none)]
theorem r_back {w : Nat} (hw : w ≤ 6) (g : B 83 2 = nI w) : Run (fun r => r.1 = B 16 5 ∧ Fr wBkB B r.2 ∧ r.2 17 2 = B 84 2 ∧ (∀ i, i < 6 → r.2 18 i = B 85 i ∧ r.2 19 i = B 86 i) ∧ (∀ i j, i < w → j < w → r.2 (57 + i) j = B (88 + i) j) ∧ ∀ i j, i < 6 → w ≤ i ∨ w ≤ j → r.2 (57 + i) j = B (57 + i) j) (Option.bind (fX1_giveBack B) fun r2 => some ((r2 16 5), r2)) := by
  have e0 : fX4_becomeLike_v2 B = some (va_up (va_up (va_up B 18 (va_cpy (B 85) (B 18) 0 0 6)) 19 (va_cpy (B 86) (B 19) 0 0 6)) 17 (upd (B 17) 2 (B 84 2))) := by
    unfold fX4_becomeLike_v2
    rw [jgd_t jcp6]
    show jgd (jcp (0 : Int32) (0 : Int32) (6 : Int32) 6 6) _ = _
    rw [jgd_t jcp6]
    rfl
  unfold fX1_giveBack fX1_copyTaken_v2
  rw [e0]
  generalize hM : va_up (va_up (va_up B 18 (va_cpy (B 85) (B 18) 0 0 6)) 19 (va_cpy (B 86) (B 19) 0 0 6)) 17 (upd (B 17) 2 (B 84 2)) = M
  have fM : Fr wBkB B M := by
    rw [← hM]
    exact Fr.up (Fr.up (Fr.up Fr.rf (FrC.al fun _ => rfl)) (FrC.al fun _ => rfl)) (FrC.up FrC.bs rfl)
  have m57 : ∀ i, i < 6 → M (57 + i) = B (57 + i) := fun i hi => by
    rw [← hM, ju_ne _ _ (by omega), ju_ne _ _ (by omega), ju_ne _ _ (by omega)]
  have hl : Run (fun A2 => Fr [(57, 62, none)] M A2 ∧ (∀ i j, i < w → j < w → A2 (57 + i) j = B (88 + i) j) ∧ ∀ i j, i < 6 → w ≤ i ∨ w ≤ j → A2 (57 + i) j = B (57 + i) j) (jwh cX1_copyTaken_v2_2 ((0 : Int32), M)) := by
    have m83 : M 83 2 = nI w := by rw [← hM]; exact g
    have m88 : ∀ i, i < 6 → M (88 + i) = B (88 + i) := fun i hi => by
      rw [← hM, ju_ne _ _ (by omega), ju_ne _ _ (by omega), ju_ne _ _ (by omega)]
    refine Run.up w (fun k s => s.1 = nI k ∧ Fr [(57, 62, none)] M s.2 ∧ (∀ i j, i < k → j < w → s.2 (57 + i) j = B (88 + i) j) ∧ ∀ i j, i < 6 → k ≤ i ∨ w ≤ j → s.2 (57 + i) j = B (57 + i) j) ?_ ?_ (Nat.zero_le _) ⟨rfl, Fr.rf, fun i j hi => absurd hi (Nat.not_lt_zero _), fun i j hi _ => by show M (57 + i) j = _; rw [m57 i hi]⟩
    · rintro k ⟨s1, S⟩ hk ⟨e, hS, hI, hJ⟩
      have e : s1 = nI k := e
      subst e
      have hS : Fr [(57, 62, none)] M S := hS
      have hJ : ∀ i j, i < 6 → k ≤ i ∨ w ≤ j → S (57 + i) j = B (57 + i) j := hJ
      have a1 : S 83 2 = nI w := by rw [hS 83 2 rfl]; exact m83
      have v : vp_in (nI k) 6 := vp_in_nI (by omega) (by omega)
      have a2 : S (88 + k) = B (88 + k) := by
        rw [← m88 k (by omega)]
        funext j
        exact hS.at (l := [(88, 93, none)]) rfl _ j (inW_rng (lo := 88) (hi := 93) rfl (by omega) (by omega))
      have jc : jcp (0 : Int32) (0 : Int32) (nI w) 6 6 := by
        refine ⟨by decide, by decide, nI_pos (by omega), ?_, ?_⟩
        · rw [nI_clamp (by omega)]
          show 0 + w ≤ 6
          omega
        · rw [nI_clamp (by omega)]
          show 0 + w ≤ 6
          omega
      unfold cX1_copyTaken_v2_2
      simp only [a1, jx_n (show k < 2 ^ 31 by omega), jx_n (show w < 2 ^ 31 by omega), a2]
      refine Run.im (nI_ge hk (by omega)) <| Run.g v <| Run.g v <| Run.g jc <| Run.rt ⟨nI_1 k, ?_, fun i j hi hj => ?_, fun i j hi hj => ?_⟩
      · exact Fr.up hS (FrC.al fun j => inW_rng (lo := 57) (hi := 62) rfl (by omega) (by omega))
      · show va_up S (57 + k) _ (57 + i) j = _
        by_cases e : i = k
        · subst e
          rw [ju_same, pk_cpy_in (by omega) (by omega), Nat.zero_add, Nat.sub_zero]
        · rw [ju_ne _ _ (by omega)]
          exact hI i j (by omega) hj
      · show va_up S (57 + k) _ (57 + i) j = _
        by_cases e : i = k
        · subst e
          rw [ju_same, pk_cpy_out (by omega)]
          exact hJ i j hi (by omega)
        · rw [ju_ne _ _ (by omega)]
          exact hJ i j hi (by omega)
    · rintro ⟨s1, S⟩ ⟨e, hS, hI, hJ⟩
      have e : s1 = nI w := e
      subst e
      have a1 : S 83 2 = nI w := by rw [show S 83 2 = M 83 2 from hS 83 2 rfl]; exact m83
      unfold cX1_copyTaken_v2_2
      simp only [a1]
      exact Run.ip (nI_le (Nat.le_refl _) (by omega)) <| Run.rt ⟨hS, hI, hJ⟩
  obtain ⟨A2, e2, f2, h2, h3⟩ := hl
  show Run _ (Option.bind (Option.bind (Option.bind (jwh cX1_copyTaken_v2_2 ((0 : Int32), M)) _) _) _)
  rw [e2]
  refine Run.rt ⟨?_, fM.tr (f2.wd rfl), ?_, fun i hi => ?_, h2, h3⟩
  · show A2 16 5 = _
    rw [f2 16 5 rfl, fM 16 5 rfl]
  · show A2 17 2 = _
    rw [f2 17 2 rfl, ← hM]
    rfl
  · show A2 18 i = _ ∧ A2 19 i = _
    rw [f2 18 i rfl, f2 19 i rfl, ← hM]
    show va_cpy (B 85) (B 18) 0 0 6 i = _ ∧ va_cpy (B 86) (B 19) 0 0 6 i = _
    rw [pk_cpy_in (by omega) (by omega), pk_cpy_in (by omega) (by omega), Nat.zero_add, Nat.sub_zero]
    exact ⟨rfl, rfl⟩
theorem r_backC {w : Nat} (hw : w ≤ 6) (g : C 94 49 = nI w) : Run (fun r => r.1 = C 94 21 ∧ Fr wBkC C r.2 ∧ r.2 94 6 = C 94 48 ∧ (∀ i, i < 6 → r.2 95 i = C 124 i ∧ r.2 96 i = C 125 i) ∧ (∀ i j, i < w → j < w → r.2 115 (6 * i + j) = C 126 (6 * i + j)) ∧ ∀ i j, i < 6 → j < 6 → w ≤ i ∨ w ≤ j → r.2 115 (6 * i + j) = C 115 (6 * i + j)) (Option.bind (jwh (cX11_back_20) ((0 : Int32), (va_up C 94 (upd (C 94) 6 (C 94 48))))) fun e2 => Option.bind (jwh (cX11_back_58) ((0 : Int32), e2)) fun e4 => some ((e4 94 21), e4)) := by
  generalize hM : va_up C 94 (upd (C 94) 6 (C 94 48)) = M
  have fM : Fr [(94, 94, some 6)] C M := by
    rw [← hM]
    exact Fr.one rfl
  have hl : Run (fun A2 => Fr [(95, 96, none)] M A2 ∧ ∀ i, i < 6 → A2 95 i = C 124 i ∧ A2 96 i = C 125 i) (jwh cX11_back_20 ((0 : Int32), M)) := by
    refine Run.up 6 (fun k s => s.1 = nI k ∧ Fr [(95, 96, none)] M s.2 ∧ ∀ i, i < k → s.2 95 i = C 124 i ∧ s.2 96 i = C 125 i) ?_ ?_ (Nat.zero_le _) ⟨rfl, Fr.rf, fun i hi => absurd hi (Nat.not_lt_zero _)⟩
    · rintro k ⟨s1, S⟩ hk ⟨e, hS, hI⟩
      have e : s1 = nI k := e
      subst e
      have hS : Fr [(95, 96, none)] M S := hS
      have v : vp_in (nI k) 6 := vp_in_nI (by omega) (by omega)
      have a1 : S 124 k = C 124 k := by rw [hS 124 k rfl, fM 124 k rfl]
      have a2 : S 125 k = C 125 k := by rw [hS 125 k rfl, fM 125 k rfl]
      unfold cX11_back_20
      simp only [jx_n (show k < 2 ^ 31 by omega)]
      refine Run.im (nI_ge (b := 6) hk (by omega)) <| Run.g v <| Run.g v <| Run.be rfl <| Run.g v <| Run.g v <| Run.rt ⟨nI_1 k, ?_, fun i hi => ?_⟩
      · exact Fr.up (Fr.up hS (FrC.up FrC.bs rfl)) (FrC.up FrC.bs rfl)
      · show upd (S 95) k (S 124 k) i = _ ∧ upd (S 96) k (S 125 k) i = _
        by_cases e : i = k
        · subst e
          rw [upd_at, upd_at]
          exact ⟨a1, a2⟩
        · rw [upd_ne e, upd_ne e]
          exact hI i (by omega)
    · rintro ⟨s1, S⟩ ⟨e, hS, hI⟩
      have e : s1 = nI 6 := e
      subst e
      unfold cX11_back_20
      exact Run.ip (nI_le (a := 6) (Nat.le_refl _) (by omega)) <| Run.rt ⟨hS, hI⟩
  obtain ⟨A2, e2, f2, h2⟩ := hl
  have a49 : A2 94 49 = nI w := by rw [f2 94 49 rfl, fM 94 49 rfl]; exact g
  have a115 : ∀ i, A2 115 i = C 115 i := fun i => by rw [f2 115 i rfl, fM 115 i rfl]
  have a126 : ∀ i, A2 126 i = C 126 i := fun i => by rw [f2 126 i rfl, fM 126 i rfl]
  have hl3 : Run (fun A3 => Fr [(115, 115, none)] A2 A3 ∧ (∀ i j, i < w → j < w → A3 115 (6 * i + j) = C 126 (6 * i + j)) ∧ ∀ i j, i < 6 → j < 6 → w ≤ i ∨ w ≤ j → A3 115 (6 * i + j) = C 115 (6 * i + j)) (jwh cX11_back_58 ((0 : Int32), A2)) := by
    refine Run.up w (fun k s => s.1 = nI k ∧ Fr [(115, 115, none)] A2 s.2 ∧ (∀ i j, i < k → j < w → s.2 115 (6 * i + j) = C 126 (6 * i + j)) ∧ ∀ i j, i < 6 → j < 6 → k ≤ i ∨ w ≤ j → s.2 115 (6 * i + j) = C 115 (6 * i + j)) ?_ ?_ (Nat.zero_le _) ⟨rfl, Fr.rf, fun i j hi => absurd hi (Nat.not_lt_zero _), fun i j _ _ _ => a115 _⟩
    · rintro k ⟨s1, S⟩ hk ⟨e, hS, hI, hJ⟩
      have e : s1 = nI k := e
      subst e
      have hS : Fr [(115, 115, none)] A2 S := hS
      have hI : ∀ i j, i < k → j < w → S 115 (6 * i + j) = C 126 (6 * i + j) := hI
      have hJ : ∀ i j, i < 6 → j < 6 → k ≤ i ∨ w ≤ j → S 115 (6 * i + j) = C 115 (6 * i + j) := hJ
      have b49 : S 94 49 = nI w := by rw [hS 94 49 rfl]; exact a49
      have hin : Run (fun A3 => Fr [(115, 115, none)] A2 A3 ∧ (∀ i j, i < k + 1 → j < w → A3 115 (6 * i + j) = C 126 (6 * i + j)) ∧ ∀ i j, i < 6 → j < 6 → k + 1 ≤ i ∨ w ≤ j → A3 115 (6 * i + j) = C 115 (6 * i + j)) (jwh (cX11_back_68 (nI k)) ((0 : Int32), S)) := by
        refine Run.up w (fun m s => s.1 = nI m ∧ Fr [(115, 115, none)] A2 s.2 ∧ (∀ i j, i < k → j < w → s.2 115 (6 * i + j) = C 126 (6 * i + j)) ∧ (∀ j, j < m → s.2 115 (6 * k + j) = C 126 (6 * k + j)) ∧ ∀ i j, i < 6 → j < 6 → k + 1 ≤ i ∨ w ≤ j → s.2 115 (6 * i + j) = C 115 (6 * i + j)) ?_ ?_ (Nat.zero_le _) ⟨rfl, hS, hI, fun j hj => absurd hj (Nat.not_lt_zero _), fun i j hi hj hh => hJ i j hi hj (by omega)⟩
        · rintro m ⟨s1, T⟩ hm ⟨e, hT, p1, p2, p3⟩
          have e : s1 = nI m := e
          subst e
          have hT : Fr [(115, 115, none)] A2 T := hT
          have c49 : T 94 49 = nI w := by rw [hT 94 49 rfl]; exact a49
          have e6 : (6 : Int32) * nI k + nI m = nI (6 * k + m) := by rw [lit_n 6, pk_mul, nI_add]
          have t126 : T 126 (6 * k + m) = C 126 (6 * k + m) := by rw [hT 126 _ rfl]; exact a126 _
          have v : vp_in (nI (6 * k + m)) 36 := vp_in_nI (by omega) (by omega)
          unfold cX11_back_68
          simp only [c49, e6, jx_n (show 6 * k + m < 2 ^ 31 by omega), t126]
          refine Run.im (nI_ge hm (by omega)) <| Run.g v <| Run.g v <| Run.rt ⟨nI_1 m, Fr.up hT (FrC.up FrC.bs rfl), fun i j hi hj => ?_, fun j hj => ?_, fun i j hi hj hh => ?_⟩
          · show upd (T 115) (6 * k + m) (C 126 (6 * k + m)) (6 * i + j) = _
            rw [upd_ne (by omega)]
            exact p1 i j hi hj
          · show upd (T 115) (6 * k + m) (C 126 (6 * k + m)) (6 * k + j) = _
            by_cases e : j = m
            · subst e; exact upd_at
            · rw [upd_ne (by omega)]
              exact p2 j (by omega)
          · show upd (T 115) (6 * k + m) (C 126 (6 * k + m)) (6 * i + j) = _
            rw [upd_ne (by omega)]
            exact p3 i j hi hj hh
        · rintro ⟨s1, T⟩ ⟨e, hT, p1, p2, p3⟩
          have e : s1 = nI w := e
          subst e
          have c49 : T 94 49 = nI w := by rw [show T 94 49 = A2 94 49 from hT 94 49 rfl]; exact a49
          unfold cX11_back_68
          simp only [c49]
          refine Run.ip (nI_le (Nat.le_refl _) (by omega)) <| Run.rt ⟨hT, fun i j hi hj => ?_, p3⟩
          by_cases e : i = k
          · subst e
            exact p2 j hj
          · exact p1 i j (by omega) hj
      unfold cX11_back_58
      simp only [b49]
      refine Run.im (nI_ge hk (by omega)) <| Run.bd hin ?_
      rintro A3 ⟨q1, q2, q3⟩
      exact Run.rt ⟨nI_1 k, q1, q2, q3⟩
    · rintro ⟨s1, S⟩ ⟨e, hS, hI, hJ⟩
      have e : s1 = nI w := e
      subst e
      have b49 : S 94 49 = nI w := by rw [show S 94 49 = A2 94 49 from hS 94 49 rfl]; exact a49
      unfold cX11_back_58
      simp only [b49]
      exact Run.ip (nI_le (Nat.le_refl _) (by omega)) <| Run.rt ⟨hS, hI, hJ⟩
  obtain ⟨A3, e3, f3, h3, h4⟩ := hl3
  rw [e2]
  refine Run.be rfl ?_
  rw [e3]
  refine Run.rt ⟨?_, ((fM.wd rfl).tr (f2.wd rfl)).tr (f3.wd rfl), ?_, fun i hi => ?_, h3, h4⟩
  · show A3 94 21 = _
    rw [f3 94 21 rfl, f2 94 21 rfl, fM 94 21 rfl]
  · show A3 94 6 = _
    rw [f3 94 6 rfl, f2 94 6 rfl, ← hM]
    rfl
  · show A3 95 i = _ ∧ A3 96 i = _
    rw [f3 95 i rfl, f3 96 i rfl]
    exact h2 i hi
theorem m_back (h : Rel B C) : Sim (fun x y => x.1 = y.1 ∧ Rel x.2 y.2 ∧ Fr wBkB B x.2) (fX10_back B) (fX11_back C) := by
  obtain ⟨h1, h2, h3, h4, h5, h6, h7, h8, h9, h10⟩ := id h
  unfold fX10_back fX11_back
  rw [h9.1]
  refine Sim.ii Iff.rfl (fun _ => Sim.rt ⟨rfl, h, Fr.rf⟩) (fun q => ?_)
  obtain ⟨k1, k2, k3, t, p, w, m, k4, k5, k6, k7, k8, k9, k10, k11, k12⟩ := h9.2 q
  refine Sim.of_runs (r_back (by omega) k8) (r_backC (w := w) (by omega) (by rw [k2]; exact k8)) ?_
  rintro x y ⟨a1, fB, a2, a3, a4, a5⟩ ⟨b1, fC, b2, b3, b4, b5⟩
  refine ⟨by rw [a1, b1, h5.1], ?_, fB⟩
  obtain ⟨g1, n, g2, g3, g4, g5, g6⟩ := id h6
  have em : m = n := by
    rw [k9, nI_eq (by omega) (by omega)] at g3
    exact g3
  subst em
  obtain ⟨c1, c2, t0, n0, c3, c4, c5, c6, c7, c8, c9⟩ := id h3
  have en : p = n0 := by
    rw [k5, nI_eq (by omega) (by omega)] at c4
    exact c4
  subst en
  have e20 : x.2 20 2 = B 20 2 := fB 20 2 rfl
  have e945 : y.2 94 5 = C 94 5 := fC 94 5 rfl
  refine ⟨h1.fr fB fC rfl rfl, ⟨fun i hi => ?_, fun i hi => ?_, fun i hi => ?_, fun i hi => ?_⟩, ⟨?_, ?_, t, p, by rw [a2]; exact k4, by rw [e20]; exact k5, k6, k7, fun k hk => by rw [fB 30 k rfl]; exact c7 k hk, fun k hk => by rw [fB 37 k rfl]; exact c8 k hk, fun q hq => ?_⟩, h4.fr fB fC rfl rfl, h5.fr fB fC rfl rfl, ⟨?_, m, g2, ?_, fun i hi => ?_, fun i j hi hj => ?_, fun i j hi hj hh => ?_⟩, h7.fr fB fC rfl rfl, h8.fr fB fC rfl rfl, h9.fr fB fC rfl rfl, h10.fr fB fC rfl rfl⟩
  · rw [(a3 i hi).1, (b3 i hi).1]; exact (k3 i hi).1
  · rw [(a3 i hi).2, (b3 i hi).2]; exact (k3 i hi).2.1
  · rw [(a3 i hi).1]; exact ⟨(k3 i hi).2.2.1, (k3 i hi).2.2.2.1⟩
  · rw [(a3 i hi).2]; exact (k3 i hi).2.2.2.2
  · rw [a2, b2, k1]
  · rw [e20, e945]; exact c2
  · have e1 : x.2 (30 + q) = B (30 + q) := funext fun j => fB.at (l := [(30, 42, none)]) rfl _ j (inW_rng (lo := 30) (hi := 42) rfl (by omega) (by omega))
    have e2 : x.2 (37 + q) = B (37 + q) := funext fun j => fB.at (l := [(30, 42, none)]) rfl _ j (inW_rng (lo := 30) (hi := 42) rfl (by omega) (by omega))
    have e3 : y.2 98 = C 98 := funext fun j => fC 98 j rfl
    have e4 : y.2 99 = C 99 := funext fun j => fC 99 j rfl
    have e5 : y.2 100 = C 100 := funext fun j => fC 100 j rfl
    unfold rText
    rw [e1, e2, e3, e4, e5]
    exact c9 q hq
  · rw [fC 94 33 rfl, fB 54 3 rfl]; exact g1
  · rw [fB 54 3 rfl]; exact g3
  · rw [fB 55 i rfl, fB 63 i rfl, fC 113 i rfl, fC 114 i rfl]; exact g4 i hi
  · by_cases e : i < w ∧ j < w
    · rw [a4 i j e.1 e.2, b4 i j e.1 e.2]
      exact k12 i j e.1 e.2
    · rw [a5 i j (by omega) (by omega), b5 i j (by omega) (by omega) (by omega)]
      exact g5 i j hi hj
  · rw [a5 i j hi (by omega), b5 i j hi hj (by omega)]
    exact g6 i j hi hj hh
