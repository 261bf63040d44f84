/-! a walk along a row, both ways; told -/
variable {B C : jA3} {n : Nat}
noncomputable def tkF (B : jA3) (i m : Nat) : Nat := jx ((ctk B i m).getD 0)
noncomputable def lkF (B : jA3) (i m : Nat) : Nat := jx ((clk B i m).getD 0)
theorem vals (h : RN B C) (hn : B 16 5 = nI n) (h8 : n ≤ 8) {i : Nat} (hi : i < n) (m : Nat) : ctk B i m = some (nI (tkF B i m)) ∧ 1 ≤ tkF B i m ∧ tkF B i m ≤ 12 ∧ clk B i m = some (nI (lkF B i m)) ∧ lkF B i m ≤ 100 ∧ (∃ T, fX11_takesIn C (nI i) (nI m) = some (nI (tkF B i m), T)) ∧ ∃ T, fX11_likely C (nI i) (nI m) = some (nI (lkF B i m), T) := by
  obtain ⟨x, y, e1, e2, e3, v, v1, v2, rfl⟩ := s_tk h hn h8 hi m
  obtain ⟨x', y', f1, f2, f3, u, u1, rfl⟩ := s_lk h hn h8 hi m
  have a : tkF B i m = v := by
    unfold tkF
    rw [e1]
    exact jx_n (by omega)
  have b : lkF B i m = u := by
    unfold lkF
    rw [f1]
    exact jx_n (by omega)
  rw [a, b]
  refine ⟨e1, v1, v2, f1, u1, ⟨y.2, ?_⟩, y'.2, ?_⟩
  · rw [e2, e3]
  · rw [f2, f3]
theorem vals_eq {B2 : jA3} (h : RN B C) (h2 : RN B2 C) (hn : B 16 5 = nI n) (hn2 : B2 16 5 = nI n) (h8 : n ≤ 8) {i : Nat} (hi : i < n) (m : Nat) : tkF B2 i m = tkF B i m ∧ lkF B2 i m = lkF B i m := by
  obtain ⟨-, a1, a2, -, a3, ⟨T1, a4⟩, T2, a5⟩ := vals h hn h8 hi m
  obtain ⟨-, b1, b2, -, b3, ⟨T3, b4⟩, T4, b5⟩ := vals h2 hn2 h8 hi m
  rw [a4] at b4
  rw [a5] at b5
  have c1 := congrArg Prod.fst (Option.some.inj b4)
  have c2 := congrArg Prod.fst (Option.some.inj b5)
  exact ⟨((nI_eq (by omega) (by omega)).mp c1).symm, ((nI_eq (by omega) (by omega)).mp c2).symm⟩
def CK (B0 A : jA3) (n : Nat) : Prop := ∀ i m, i < n → m < 12 → A 53 (12 * i + m) = 0 ∨ (A 53 (12 * i + m) = nI (tkF B0 i m) ∧ A 52 (12 * i + m) = nI (lkF B0 i m))
theorem r_learn {A B0 : jA3} (h : RN A C) (hB : RN B0 C) (hc : CK B0 A n) (hn : A 16 5 = nI n) (hn0 : B0 16 5 = nI n) (h8 : n ≤ 8) {i m : Nat} (hi : i < n) (hm : m < 12) : Run (fun r => r.1 = nI (12 * i + m) ∧ r.2 53 (12 * i + m) = nI (tkF B0 i m) ∧ r.2 52 (12 * i + m) = nI (lkF B0 i m) ∧ CK B0 r.2 n ∧ Fr [(28, 28, none), (43, 43, none), (52, 53, none)] A r.2) (fX6_learn A (nI i) (nI m)) := by
  have ep : nI i * (12 : Int32) + nI m = nI (12 * i + m) := by rw [lit_n 12, pk_mul, nI_add, Nat.mul_comm]
  have vp : vp_in (nI (12 * i + m)) 96 := vp_in_nI (by omega) (by omega)
  have vi : vp_in (nI i) 8 := vp_in_nI (by omega) (by omega)
  unfold fX6_learn jX6_learn_59
  rw [ep, jx_n (show 12 * i + m < 2 ^ 31 by omega), jx_n (show i < 2 ^ 31 by omega)]
  refine Run.g vp <| Run.i (fun q => ?_) (fun q => ?_)
  · obtain ⟨a1, a2, a3, -⟩ := vals h hn h8 hi m
    obtain ⟨z1, z2⟩ := vals_eq hB h hn0 hn h8 hi m
    rw [z1] at a1 a2 a3
    unfold ctk at a1
    obtain ⟨r4, k1, k2⟩ := of_bind a1
    have f4 : Fr [(28, 28, none), (43, 43, none), (52, 53, none)] A r4.2 := (w_fX6_lawSays k1).wd rfl
    refine Run.g vi <| Run.be k1 <| Run.be k2 <| Run.g vp <| Run.be rfl ?_
    generalize hM : va_up r4.2 53 (upd (r4.2 53) (12 * i + m) (nI (tkF B0 i m))) = M
    have fM : Fr [(28, 28, none), (43, 43, none), (52, 53, none)] A M := by
      rw [← hM]
      exact Fr.up f4 (FrC.up FrC.bs rfl)
    have hM2 : RN M C := h.fr fM (Fr.rf (ws := [])) rfl rfl rfl rfl rfl rfl rfl rfl
    have hnM : M 16 5 = nI n := by rw [fM 16 5 rfl]; exact hn
    obtain ⟨-, -, -, b1, b2, -⟩ := vals hM2 hnM h8 hi m
    obtain ⟨z3, z4⟩ := vals_eq hB hM2 hn0 hnM h8 hi m
    rw [z4] at b1
    unfold clk at b1
    obtain ⟨r11, k3, b1⟩ := of_bind b1
    obtain ⟨r2, k4, k5⟩ := of_bind b1
    have f2 : Fr [(28, 28, none), (43, 43, none), (52, 53, none)] A r2.2 := fM.tr ((w_fX6_lawSays k4).wd rfl)
    have g2 : Fr [(28, 28, none), (43, 43, none)] M r2.2 := (w_fX6_lawSays k4).wd rfl
    have g4 : Fr [(28, 28, none), (43, 43, none)] A r4.2 := (w_fX6_lawSays k1).wd rfl
    have fin : Run (fun (r : Int32 × jA3) => r.1 = nI (12 * i + m) ∧ r.2 53 (12 * i + m) = nI (tkF B0 i m) ∧ r.2 52 (12 * i + m) = nI (lkF B0 i m) ∧ CK B0 r.2 n ∧ Fr [(28, 28, none), (43, 43, none), (52, 53, none)] A r.2) (some (nI (12 * i + m), va_up r2.2 52 (upd (r2.2 52) (12 * i + m) (nI (lkF B0 i m))))) := by
      have p53 : ∀ j, va_up r2.2 52 (upd (r2.2 52) (12 * i + m) (nI (lkF B0 i m))) 53 j = upd (A 53) (12 * i + m) (nI (tkF B0 i m)) j := fun j => by
        show r2.2 53 j = _
        rw [g2 53 j rfl, ← hM]
        show upd (r4.2 53) (12 * i + m) (nI (tkF B0 i m)) j = _
        by_cases e : j = 12 * i + m
        · subst e; rw [upd_at, upd_at]
        · rw [upd_ne e, upd_ne e, g4 53 j rfl]
      have p52 : ∀ j, va_up r2.2 52 (upd (r2.2 52) (12 * i + m) (nI (lkF B0 i m))) 52 j = upd (A 52) (12 * i + m) (nI (lkF B0 i m)) j := fun j => by
        show upd (r2.2 52) (12 * i + m) (nI (lkF B0 i m)) j = _
        by_cases e : j = 12 * i + m
        · subst e; rw [upd_at, upd_at]
        · rw [upd_ne e, upd_ne e, g2 52 j rfl, ← hM]
          show r4.2 52 j = _
          exact g4 52 j rfl
      refine Run.rt ⟨rfl, ?_, ?_, fun i2 m2 h1 h2 => ?_, Fr.up f2 (FrC.up FrC.bs rfl)⟩
      · exact (p53 _).trans upd_at
      · exact (p52 _).trans upd_at
      · show va_up r2.2 52 (upd (r2.2 52) (12 * i + m) (nI (lkF B0 i m))) 53 (12 * i2 + m2) = 0 ∨ (va_up r2.2 52 (upd (r2.2 52) (12 * i + m) (nI (lkF B0 i m))) 53 (12 * i2 + m2) = nI (tkF B0 i2 m2) ∧ va_up r2.2 52 (upd (r2.2 52) (12 * i + m) (nI (lkF B0 i m))) 52 (12 * i2 + m2) = nI (lkF B0 i2 m2))
        rw [p53, p52]
        by_cases e : 12 * i2 + m2 = 12 * i + m
        · have e1 : i2 = i := by omega
          have e2 : m2 = m := by omega
          subst e1 e2
          rw [upd_at, upd_at]
          exact Or.inr ⟨rfl, rfl⟩
        · rw [upd_ne e, upd_ne e]
          exact hc i2 m2 h1 h2
    refine Run.be k3 ?_
    refine Run.i (fun z => ?_) (fun z => ?_)
    · rw [if_pos z] at k4
      refine Run.g vi <| Run.be k4 <| Run.be k5 <| Run.g vp fin
    · rw [if_neg z] at k4
      refine Run.g vi <| Run.be k4 <| Run.be k5 <| Run.g vp fin
  · rcases hc i m hi hm with z | ⟨z1, z2⟩
    · exact absurd z q
    · exact Run.rt ⟨rfl, z1, z2, hc, Fr.rf⟩
/-- from sailBy on -/
theorem rn_sail (h : Rel B C) : ∃ B2, fX6_sailBy B (B 18 0) = some B2 ∧ RN B2 C ∧ Fr [(16, 16, some 14), (53, 53, none)] B B2 ∧ ∀ n, n ≤ 8 → CK B2 B2 n := by
  obtain ⟨B2, e, f, -, h0⟩ := r_sail B (B 18 0)
  obtain ⟨hN, -⟩ := sail_near h.2.1 e
  have hmi : ∃ mi, 1 ≤ mi ∧ mi ≤ 12 ∧ B2 18 5 = nI mi := by
    obtain ⟨q1, q2⟩ := h.2.1.2.2.1 5 (by omega)
    rw [Int32.le_iff_toInt_le] at q1 q2
    have z1 : (KC 5 5).toInt = 1 := by decide
    have z2 : (KC 6 5).toInt = 12 := by decide
    refine ⟨(B 18 5).toInt.toNat, by omega, by omega, ?_⟩
    rw [f 18 5 rfl]
    apply Int32.toInt_inj.mp
    rw [nI_toInt (by omega)]
    omega
  refine ⟨B2, e, ⟨h.1.fr f (Fr.rf (ws := [])) rfl rfl, hN, h.2.2.1.fr f (Fr.rf (ws := [])) rfl rfl, h.2.2.2.2.1.fr f (Fr.rf (ws := [])) rfl rfl, hmi⟩, f, fun n h8 i m hi hm => Or.inl (h0 _ (by omega))⟩
theorem m_told (h : Rel B C) (l1 l2 l3 : Int32) : Sim (fun x y => x.1 = y.1) (fX10_told B l1 l2 l3) (fX11_told C l1 l2 l3) := by
  obtain ⟨n, g1, g2, g3, g4⟩ := say_un h.2.2.2.2.1
  unfold fX10_told fX11_told fX11_isSaying
  rw [min_eq h.2.1, g2, g3]
  refine Sim.ii Iff.rfl (fun _ => Sim.rt rfl) (fun q1 => Sim.ii Iff.rfl (fun _ => Sim.rt rfl) (fun q2 => ?_))
  obtain ⟨i, hi, rfl⟩ := wn_m (by omega) q1
  have v : vp_in (nI i) 8 := vp_in_nI (by omega) (by omega)
  obtain ⟨B2, e, hRN, fr, hCK⟩ := rn_sail h
  obtain ⟨k, t, mo, q3, q4, q5, a1, a2, a3, b1, b2, b3⟩ := g4 i hi
  have c1 : B2 44 i = nI k := by rw [fr 44 i rfl]; exact a1
  have c2 : B2 45 i = nI t := by rw [fr 45 i rfl]; exact a2
  have c3 : B2 46 i = nI mo := by rw [fr 46 i rfl]; exact a3
  have hn : B2 16 5 = nI n := by rw [fr 16 5 rfl]; exact g2
  show Sim _ (Option.bind (fX6_sailBy B (B 18 0)) _) _
  rw [e, jx_n (by omega)]
  refine Sim.bl rfl ?_
  rw [c1, c2, c3, b1, b2, b3]
  refine Sim.ii Iff.rfl (fun _ => Sim.gl v <| Sim.gr v <| Sim.rt rfl) (fun _ => ?_)
  refine Sim.ii Iff.rfl (fun _ => Sim.gl v <| Sim.gr v <| Sim.rt rfl) (fun _ => ?_)
  refine Sim.ii Iff.rfl (fun _ => Sim.gl v <| Sim.gr v <| Sim.rt rfl) (fun _ => ?_)
  have hm : ∃ m, m < 12 ∧ l2 = nI m := by
    obtain ⟨-, -, -, -, mi, m1, m2, m3⟩ := hRN
    unfold fX11_isMinute at q2
    rw [h.2.1.1 5 (by omega), ← fr 18 5 rfl, m3] at q2
    obtain ⟨m, hm, rfl⟩ := wn_m (by omega) q2
    exact ⟨m, by omega, rfl⟩
  obtain ⟨m, hm, rfl⟩ := hm
  obtain ⟨r, e1, r1, r2, r3, -⟩ := r_learn hRN hRN (hCK n g1) hn hn g1 hi hm
  obtain ⟨-, -, -, -, -, ⟨T1, t1⟩, T2, t2⟩ := vals hRN hn g1 hi m
  have vp : vp_in r.1 96 := by rw [r1]; exact vp_in_nI (by omega) (by omega)
  have jr : jx r.1 = 12 * i + m := by rw [r1]; exact jx_n (by omega)
  refine Sim.ii Iff.rfl (fun _ => ?_) (fun _ => ?_)
  · refine Sim.bl e1 <| Sim.gl vp <| Sim.br t2 <| Sim.rt ?_
    show r.2 52 (jx r.1) = _
    rw [jr, r3]
  refine Sim.ii Iff.rfl (fun _ => ?_) (fun _ => ?_)
  · refine Sim.bl e1 <| Sim.gl vp <| Sim.br t1 <| Sim.rt ?_
    show r.2 53 (jx r.1) = _
    rw [jr, r2]
  refine Sim.ii Iff.rfl (fun _ => ?_) (fun _ => Sim.rt rfl)
  rw [e_byMouth (fun j => hRN.1.1 7 (by omega) (by omega) j) (show i < 8 by omega) q3 c1]
  refine Sim.bl rfl <| Sim.gr v ?_
  match k, q3 with
  | 0, _ => exact Sim.gr v <| Sim.rt rfl
  | 1, _ => exact Sim.gr v <| Sim.rt rfl
  | 2, _ => exact Sim.gr v <| Sim.rt rfl
  | 3, _ => exact Sim.gr v <| Sim.rt rfl
  | 4, _ => exact Sim.rt rfl
  | 5, _ => exact Sim.gr v <| Sim.rt rfl
