/-! clocks -/
theorem sz64 (z : Int64) (h : -1000000000000 ≤ z.toInt ∧ z.toInt ≤ 1000000000000) : ∃ a : Nat, a < 2 ^ 63 ∧ (z = lN a ∨ z = -lN a) := by
  refine ⟨z.toInt.natAbs, by omega, ?_⟩
  rcases Int.natAbs_eq z.toInt with e | e
  · refine Or.inl (Int64.toInt_inj.mp ?_)
    rw [pk_lT (by omega)]
    exact e
  · refine Or.inr (Int64.toInt_inj.mp ?_)
    rw [neg_lT (by omega)]
    exact e
theorem mul_bd {x y M N : Int} (h1 : -M ≤ x) (h2 : x ≤ M) (h3 : 0 ≤ y) (h4 : y ≤ N) (hM : 0 ≤ M) : -(M * N) ≤ x * y ∧ x * y ≤ M * N := by
  have a1 : x * y ≤ M * y := Int.mul_le_mul_of_nonneg_right h2 h3
  have a2 : M * y ≤ M * N := Int.mul_le_mul_of_nonneg_left h4 hM
  have a3 : -M * y ≤ x * y := Int.mul_le_mul_of_nonneg_right h1 h3
  rw [Int.neg_mul] at a3
  omega
theorem m_clocks (l1 l2 l3 l4 : Int32) : Sim (fun x y => x = y) (fX10_clocks l1 l2 l3 l4) (fX11_clocks l1 l2 l3 l4) := by
  unfold fX10_clocks fX11_clocks
  refine Sim.ii Iff.rfl (fun _ => Sim.rt rfl) (fun q1 => ?_)
  refine Sim.ii Iff.rfl (fun _ => Sim.rt rfl) (fun q2 => ?_)
  by_cases q3 : l3 < 0
  · exact Sim.ipl (wn0.mpr (Or.inl q3)) <| Sim.ipr q3 <| Sim.rt rfl
  · obtain ⟨j, hj, rfl⟩ := nI_of q3
    have e1 : nI j / (100 : Int32) = nI (j / 100) := by rw [lit_n 100, pk_div hj (by omega) (by omega)]
    have e2 : jrem (nI j) (100 : Int32) = nI (j % 100) := pk_rem (d := 100) hj (by omega) (by omega)
    rw [e1, e2]
    refine Sim.imr q3 ?_
    by_cases hj2 : j ≤ 9999
    · refine Sim.iml (fun z => ?_) ?_
      · rcases wn0.mp z with z | z
        · exact q3 z
        · exact nI_nlt (a := 9999) (b := j) (by omega) (by omega) z
      · by_cases q4 : fX10_within l4 0 3 = 0
        · refine Sim.ipl q4 ?_
          exact Sim.ir (fun _ => Sim.rt rfl) (fun _ => Sim.ir (fun _ => Sim.rt rfl) (fun _ => Sim.ipr q4 (Sim.rt rfl)))
        · refine Sim.iml q4 ?_
          by_cases q5 : j / 100 < 1
          · exact Sim.ipl (nI_lt (b := 1) q5 (by omega)) <| Sim.ipr (wn0.mpr (Or.inl (nI_lt (b := 1) q5 (by omega)))) <| Sim.rt rfl
          · refine Sim.iml (nI_nlt (b := 1) (by omega) (by omega)) <| Sim.imr (fun z => ?_) ?_
            · rcases wn0.mp z with z | z
              · exact nI_nlt (b := 1) (by omega) (by omega) z
              · exact nI_nlt (a := 99) (by omega) (by omega) z
            · by_cases q6 : j % 100 = 0
              · refine Sim.iml ?_ <| Sim.ipr (by rw [q6]; rfl) <| Sim.rt rfl
                rw [q6]
                decide
              · refine Sim.ipl (nI_le (a := 1) (by omega) (by omega)) <| Sim.imr (nI_ne0 (by omega) (by omega)) <| Sim.imr q4 ?_
                obtain ⟨p, hp, rfl⟩ := wn_n (n := 3) rfl q4
                have hq : j % 100 < 100 := Nat.mod_lt _ (by omega)
                have hP : j / 100 < 100 := by omega
                have b1 : ((nI (j / 100) + nI (j % 100)).toInt64) = lN (j / 100 + j % 100) := by rw [nI_add, nI_l (by omega)]
                have b2 : (nI (j / 100)).toInt64 + (nI (j % 100)).toInt64 = lN (j / 100 + j % 100) := by rw [nI_l (by omega), nI_l (by omega), lN_add]
                have hmul : j / 100 * (j % 100) ≤ 99 * 99 := Nat.mul_le_mul (by omega) (by omega)
                have b3 : (nI (j / 100) * nI (j % 100)).toInt64 = lN (j / 100 * (j % 100)) := by rw [pk_mul, nI_l (by omega)]
                have b4 : (nI (j / 100)).toInt64 * (nI (j % 100)).toInt64 = lN (j / 100 * (j % 100)) := by rw [nI_l (by omega), nI_l (by omega), lN_mul]
                rw [b1, b2, b3, b4]
                have r1 := wn1 q1
                have r2 := wn1 q2
                simp only [Int32.lt_iff_toInt_lt, show (-9999 : Int32).toInt = -9999 from by decide, show (9999 : Int32).toInt = 9999 from by decide] at r1 r2
                have tq : (nI (j % 100)).toInt = ((j % 100 : Nat) : Int) := nI_toInt (by omega)
                have tp : (nI (j / 100)).toInt = ((j / 100 : Nat) : Int) := nI_toInt (by omega)
                have m1 := mul_bd (x := l1.toInt) (y := (nI (j % 100)).toInt) (M := 9999) (N := 99) (by omega) (by omega) (by omega) (by omega) (by omega)
                have m2 := mul_bd (x := l2.toInt) (y := (nI (j / 100)).toInt) (M := 9999) (N := 99) (by omega) (by omega) (by omega) (by omega) (by omega)
                have t1 : (l1 * nI (j % 100)).toInt = l1.toInt * (nI (j % 100)).toInt := fb_mulI (by omega) (by omega)
                have t2 : (l2 * nI (j / 100)).toInt = l2.toInt * (nI (j / 100)).toInt := fb_mulI (by omega) (by omega)
                have t3 : (l1 * nI (j % 100) + l2 * nI (j / 100)).toInt = l1.toInt * (nI (j % 100)).toInt + l2.toInt * (nI (j / 100)).toInt := by rw [fb_addI (by omega) (by omega), t1, t2]
                have u1 : (l1.toInt64 * (nI (j % 100)).toInt64).toInt = l1.toInt * (nI (j % 100)).toInt := by rw [fb_mulL (by rw [Int32.toInt_toInt64, Int32.toInt_toInt64]; omega) (by rw [Int32.toInt_toInt64, Int32.toInt_toInt64]; omega), Int32.toInt_toInt64, Int32.toInt_toInt64]
                have u2 : (l2.toInt64 * (nI (j / 100)).toInt64).toInt = l2.toInt * (nI (j / 100)).toInt := by rw [fb_mulL (by rw [Int32.toInt_toInt64, Int32.toInt_toInt64]; omega) (by rw [Int32.toInt_toInt64, Int32.toInt_toInt64]; omega), Int32.toInt_toInt64, Int32.toInt_toInt64]
                have ez : (l1 * nI (j % 100) + l2 * nI (j / 100)).toInt64 = l1.toInt64 * (nI (j % 100)).toInt64 + l2.toInt64 * (nI (j / 100)).toInt64 := by
                  apply Int64.toInt_inj.mp
                  rw [Int32.toInt_toInt64, t3, fb_addL (by omega) (by omega), u1, u2]
                obtain ⟨a, ha, hz⟩ := sz64 (l1.toInt64 * (nI (j % 100)).toInt64 + l2.toInt64 * (nI (j / 100)).toInt64) (by rw [← ez, Int32.toInt_toInt64, t3]; omega)
                rw [ez]
                by_cases hp2 : 2 ≤ p
                · refine Sim.ipl (nI_le (a := 2) hp2 (by omega)) <| Sim.ipr (nI_le (a := 2) hp2 (by omega)) ?_
                  have em : nI p - (2 : Int32) = nI (p - 2) := by rw [lit_n 2, pk_sub hp2]
                  rw [em]
                  have hs := low_part (z := lN (j / 100 * (j % 100))) (a := j / 100 * (j % 100)) (b := j / 100 + j % 100) (p := nI (p - 2)) (by omega) (by omega) (Or.inl rfl) (by omega) (by
                    match p, hp, hp2 with
                    | 2, _, _ => exact Or.inl rfl
                    | 3, _, _ => exact Or.inr rfl)
                  refine Sim.ir (fun z => ?_) (fun z => ?_)
                  · have : p = 2 := (nI_eq (b := 2) (by omega) (by omega)).mp z
                    subst this
                    exact Sim.bd hs (fun x y e => Sim.rt e)
                  · have : p = 3 := by
                      have : p ≠ 2 := fun e => z (by rw [e]; rfl)
                      omega
                    subst this
                    exact Sim.bd hs (fun x y e => Sim.rt e)
                · refine Sim.iml (nI_ge (b := 2) (by omega) (by omega)) <| Sim.imr (nI_ge (b := 2) (by omega) (by omega)) ?_
                  have hs := low_part (a := a) (b := j / 100 + j % 100) (p := nI p) ha (by omega) hz (by omega) (by
                    rcases (show p = 0 ∨ p = 1 by omega) with rfl | rfl
                    · exact Or.inl rfl
                    · exact Or.inr rfl)
                  refine Sim.ir (fun z => ?_) (fun z => ?_)
                  · rw [if_pos z] at hs
                    exact Sim.bd hs (fun x y e => Sim.rt e)
                  · rw [if_neg z] at hs
                    exact Sim.bd hs (fun x y e => Sim.rt e)
    · refine Sim.ipl (wn0.mpr (Or.inr (nI_lt (a := 9999) (by omega) hj))) <| Sim.ipr (wn0.mpr (Or.inr ?_)) <| Sim.rt rfl
      exact nI_lt (a := 99) (by omega) (by omega)
