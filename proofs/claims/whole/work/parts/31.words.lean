/-! odds, was, list, bits, ask, clocks -/
variable {B C : jA3}
theorem lit_n (n : Nat) : (OfNat.ofNat n : Int32) = nI n := rfl
theorem s_all {n w : Nat} (g1 : C 94 33 = B 54 3) (g2 : n ≤ 6) (g3 : B 54 3 = nI n) (g5 : ∀ i j, i < n → j < n → C 115 (6 * i + j) = B (57 + i) j ∧ ∃ t, t < 100 ∧ B (57 + i) j = nI t) (hw : w < n) : Sim (fun x y => ∃ S, S < 600 ∧ x = nI S ∧ y = lN (max 1 S)) (fX9_allTakenOf B (nI w)) (fX11_allTaken C (nI w)) := by
  unfold fX9_allTakenOf fX11_allTaken
  refine Sim.bd (R := fun x y => ∃ S, S < 600 ∧ x = nI S ∧ y = lN S) ?_ ?_
  · refine Sim.up n (fun k s t => ∃ S, S ≤ 99 * k ∧ s = (nI S, nI k) ∧ t = (lN S, nI k)) ?_ ?_ (Nat.zero_le _) ⟨0, by omega, rfl, rfl⟩
    · rintro k s t hk ⟨S, hS, rfl, rfl⟩
      unfold cX9_allTakenOf_4 cX11_allTaken_5
      obtain ⟨a1, t0, a2, a3⟩ := g5 w k hw hk
      have c1 : ¬ nI n ≤ nI k := nI_ge hk (by omega)
      have e6 : (6 : Int32) * nI w + nI k = nI (6 * w + k) := by rw [lit_n 6, pk_mul, nI_add]
      simp only [g1, g3, e6, jx_n (show w < 2 ^ 31 by omega), jx_n (show k < 2 ^ 31 by omega), jx_n (show 6 * w + k < 2 ^ 31 by omega), a1, a3]
      refine Sim.iml c1 <| Sim.imr c1 <| Sim.gl (vp_in_nI (by omega) (by omega)) <| Sim.gl (vp_in_nI (by omega) (by omega)) <| Sim.gr (vp_in_nI (by omega) (by omega)) <| Sim.rt ⟨S + t0, by omega, ?_, ?_⟩
      · rw [nI_add, nI_1]
      · rw [nI_l (by omega), lN_add, nI_1]
    · rintro s t ⟨S, hS, rfl, rfl⟩
      unfold cX9_allTakenOf_4 cX11_allTaken_5
      have c1 : nI n ≤ nI n := nI_le (Nat.le_refl _) (by omega)
      rw [g1, g3]
      exact Sim.ipl c1 <| Sim.ipr c1 <| Sim.rt ⟨S, by omega, rfl, rfl⟩
  · rintro x y ⟨S, hS, rfl, rfl⟩
    refine Sim.ir (fun z => Sim.rt ⟨S, hS, rfl, ?_⟩) (fun z => Sim.rt ⟨S, hS, rfl, ?_⟩)
    · have : S = 0 := (pk_lEQ (b := 0) (by omega) (by omega)).mp (cmp_0.mp z)
      subst this
      rfl
    · have : S ≠ 0 := fun e => z (cmp_0.mpr (by subst e; rfl))
      rw [Nat.max_eq_right (by omega)]
abbrev WM : Nat := 9801 * 599 ^ 5
theorem s_weight {n w v : Nat} (g1 : C 94 33 = B 54 3) (g2 : n ≤ 6) (g3 : B 54 3 = nI n) (g4 : ∀ i, i < n → C 113 i = B 55 i ∧ C 114 i = B 63 i ∧ ∃ v o, v < 10000 ∧ o < 100 ∧ B 55 i = nI v ∧ B 63 i = nI o) (g5 : ∀ i j, i < n → j < n → C 115 (6 * i + j) = B (57 + i) j ∧ ∃ t, t < 100 ∧ B (57 + i) j = nI t) (hw : w < n) (hv : v < n) : Sim (fun x y => ∃ W, W ≤ WM ∧ x = lN W ∧ y = lN W) (fX9_weight B (nI w) (nI v)) (fX11_counts C (nI w) (nI v)) := by
  unfold fX9_weight fX11_counts
  obtain ⟨a1, t0, a2, a3⟩ := g5 w v hw hv
  obtain ⟨b1, b2, -, o, -, b3, -, b4⟩ := g4 w hw
  have e6 : (6 : Int32) * nI w + nI v = nI (6 * w + v) := by rw [lit_n 6, pk_mul, nI_add]
  have v1 : vp_in (nI w) 6 := vp_in_nI (by omega) (by omega)
  simp only [e6, jx_n (show w < 2 ^ 31 by omega), jx_n (show v < 2 ^ 31 by omega), jx_n (show 6 * w + v < 2 ^ 31 by omega), a1, a3, b2, b4]
  have hot : o * t0 ≤ 9801 := Nat.le_trans (Nat.mul_le_mul (show o ≤ 99 by omega) (show t0 ≤ 99 by omega)) (by decide)
  refine Sim.gl v1 <| Sim.gl v1 <| Sim.gl (vp_in_nI (by omega) (by omega)) <| Sim.gr v1 <| Sim.gr (vp_in_nI (by omega) (by omega)) <| Sim.bd (R := fun x y => ∃ W, W ≤ WM ∧ x = lN W ∧ y = lN W) ?_ (fun x y h => Sim.rt h)
  refine Sim.up n (fun k s t => ∃ W, W ≤ 9801 * 599 ^ (if w < k then k - 1 else k) ∧ s = (lN W, nI k) ∧ t = (lN W, nI k)) ?_ ?_ (Nat.zero_le _) ⟨o * t0, by simpa using hot, ?_, ?_⟩
  · rintro k s t hk ⟨W, hW, rfl, rfl⟩
    unfold cX9_weight_20 cX11_counts_24
    have c1 : ¬ nI n ≤ nI k := nI_ge hk (by omega)
    simp only [g1, g3]
    refine Sim.iml c1 <| Sim.imr c1 <| Sim.ii Iff.rfl (fun q => ?_) (fun q => ?_)
    · have e : k = w := (nI_eq (by omega) (by omega)).mp q
      subst e
      refine Sim.rt ⟨W, ?_, by rw [nI_1], by rw [nI_1]⟩
      rw [if_neg (Nat.lt_irrefl _)] at hW
      rw [if_pos (Nat.lt_succ_self _)]
      exact hW
    · have ne : k ≠ w := fun e => q (by rw [e])
      refine Sim.bd (s_all g1 g2 g3 g5 hk) ?_
      rintro x y ⟨S, hS, rfl, rfl⟩
      have em : (jmax (1 : Int32) (nI S)).toInt64 = lN (max 1 S) := by
        show (if nI 1 < nI S then nI S else nI 1).toInt64 = _
        by_cases hh : 1 < S
        · rw [if_pos (nI_lt hh (by omega)), nI_l (by omega), Nat.max_eq_right (by omega)]
        · rw [if_neg (nI_nlt (by omega) (by omega)), nI_l (by omega), Nat.max_eq_left (by omega)]
      refine Sim.rt ⟨W * max 1 S, ?_, ?_, ?_⟩
      · have hm : max 1 S ≤ 599 := by omega
        refine Nat.le_trans (Nat.mul_le_mul hW hm) (Nat.le_of_eq ?_)
        rw [Nat.mul_assoc, ← Nat.pow_succ]
        congr 2
        split <;> split <;> omega
      · rw [em, lN_mul, nI_1]
      · rw [lN_mul, nI_1]
  · rintro s t ⟨W, hW, rfl, rfl⟩
    unfold cX9_weight_20 cX11_counts_24
    have c1 : nI n ≤ nI n := nI_le (Nat.le_refl _) (by omega)
    rw [g1, g3]
    refine Sim.ipl c1 <| Sim.ipr c1 <| Sim.rt ⟨W, ?_, rfl, rfl⟩
    rw [if_pos hw] at hW
    exact Nat.le_trans hW (Nat.mul_le_mul (Nat.le_refl _) (Nat.pow_le_pow_right (by omega) (by omega)))
  · rw [pk_mul, nI_l (by omega)]; rfl
  · rw [nI_l (by omega), nI_l (by omega), lN_mul]; rfl
/-- the greatest divisor, both ways -/
theorem gcd_ref : ∀ (b a : Nat), a < 2 ^ 63 → b < 2 ^ 63 → jwh cX11_common_17 (lN a, lN b) = some (lN (Nat.gcd b a)) := by
  intro b
  induction b using Nat.strongRecOn with
  | ind b ih =>
    intro a ha hb
    by_cases h0 : b = 0
    · subst h0
      refine jwh_out ?_
      show (if lg_cmp (lN 0) 0 = 0 then some (Sum.inr (lN a)) else _) = _
      rw [if_pos (cmp_0.mpr (show lN 0 = 0 from rfl)), Nat.gcd_zero_left]
    · have hn : ¬ lN b = 0 := fun e => h0 ((pk_lEQ (b := 0) hb (by omega)).mp e)
      have e1 : cX11_common_17 (lN a, lN b) = some (.inl (lN b, lN (a % b))) := by
        unfold cX11_common_17
        rw [if_neg (fun e => hn (cmp_0.mp e)), jgd_t hn]
        show some (Sum.inl (lN b, lN a - lN a / lN b * lN b)) = _
        rw [pk_lRem ha (by omega) hb]
      rw [jwh_go e1, ih (a % b) (Nat.mod_lt _ (by omega)) b hb (Nat.lt_trans (Nat.mod_lt _ (by omega)) hb)]
      rw [Nat.gcd_rec b a]
theorem gcd_cls (G : Nat) : ∀ {k a b : Nat}, a < 2 ^ 63 → b < 2 ^ 63 → Nat.gcd b a = G → k ≤ 130 → (1 ≤ k → b < a ∧ (a + b) * 3 ^ (k - 1) ≤ 2 ^ (64 + k)) → Run (fun r => r = lN G) (jwh cX10_greatestDivisor_9 (lN a, lN b, nI k)) := by
  intro k a b ha hb hG hk hI
  refine Run.up 130 (fun k s => ∃ a b, s = (lN a, lN b, nI k) ∧ a < 2 ^ 63 ∧ b < 2 ^ 63 ∧ Nat.gcd b a = G ∧ (1 ≤ k → b < a ∧ (a + b) * 3 ^ (k - 1) ≤ 2 ^ (64 + k))) ?_ ?_ hk ⟨a, b, rfl, ha, hb, hG, hI⟩
  · rintro k s hk ⟨a, b, rfl, ha, hb, hG, hI⟩
    unfold cX10_greatestDivisor_9
    refine Run.im (nI_ge (b := 130) hk (by omega)) ?_
    by_cases h0 : b = 0
    · subst h0
      refine Run.ip (cmp_0.mpr rfl) (Run.rt ?_)
      rw [Nat.gcd_zero_left] at hG
      show lN a = lN G
      rw [hG]
    · have hn : ¬ lN b = 0 := fun e => h0 ((pk_lEQ (b := 0) hb (by omega)).mp e)
      refine Run.im (fun e => hn (cmp_0.mp e)) <| Run.g hn <| Run.rt ⟨b, a % b, ?_, hb, Nat.lt_trans (Nat.mod_lt _ (by omega)) hb, ?_, fun _ => ⟨Nat.mod_lt _ (by omega), ?_⟩⟩
      · show (lN b, lN a - lN a / lN b * lN b, nI k + 1) = _
        rw [pk_lRem ha (by omega) hb, nI_1]
      · rw [← hG, Nat.gcd_rec b a]
      · rw [Nat.add_sub_cancel]
        have hr : a % b < b := Nat.mod_lt _ (by omega)
        cases k with
        | zero =>
          have : 2 ^ (64 + (0 + 1)) = 2 ^ 63 * 4 := by decide
          rw [this, Nat.pow_zero, Nat.mul_one]
          omega
        | succ k =>
          obtain ⟨i1, i2⟩ := hI (by omega)
          rw [Nat.add_sub_cancel] at i2
          have hq : b + a % b ≤ a := by
            have h1 := Nat.div_add_mod a b
            have h2 : 1 ≤ a / b := (Nat.le_div_iff_mul_le (by omega)).mpr (by omega)
            have h3 : b * 1 ≤ b * (a / b) := Nat.mul_le_mul (Nat.le_refl _) h2
            omega
          have h3 : 3 * (b + a % b) ≤ 2 * (a + b) := by omega
          calc (b + a % b) * 3 ^ (k + 1) = 3 * (b + a % b) * 3 ^ k := by rw [Nat.pow_succ, Nat.mul_comm 3 (b + a % b), Nat.mul_assoc, Nat.mul_comm (3 ^ k) 3]
            _ ≤ 2 * (a + b) * 3 ^ k := Nat.mul_le_mul h3 (Nat.le_refl _)
            _ = 2 * ((a + b) * 3 ^ k) := Nat.mul_assoc _ _ _
            _ ≤ 2 * 2 ^ (64 + (k + 1)) := Nat.mul_le_mul (Nat.le_refl _) i2
            _ = 2 ^ (64 + (k + 1 + 1)) := by rw [← Nat.add_assoc 64 (k + 1) 1, Nat.pow_succ 2 (64 + (k + 1)), Nat.mul_comm]
  · rintro s ⟨a, b, rfl, ha, hb, hG, hI⟩
    unfold cX10_greatestDivisor_9
    refine Run.ip (nI_le (Nat.le_refl _) (by omega)) (Run.rt ?_)
    obtain ⟨i1, i2⟩ := hI (by omega)
    exfalso
    have h3 : (1 : Nat) * 3 ^ (130 - 1) ≤ (a + b) * 3 ^ (130 - 1) := Nat.mul_le_mul (by omega) (Nat.le_refl _)
    exact absurd (Nat.le_trans h3 i2) (by decide)
theorem gcd_both {a b : Nat} (ha : a < 2 ^ 63) (hb : b < 2 ^ 63) : fX10_greatestDivisor (lN a) (lN b) = some (lN (Nat.gcd b a)) := by
  obtain ⟨r, e, rfl⟩ := gcd_cls (Nat.gcd b a) (k := 0) ha hb rfl (by omega) (fun h => absurd h (by omega))
  unfold fX10_greatestDivisor
  show Option.bind (jwh cX10_greatestDivisor_9 (lN a, lN b, nI 0)) _ = _
  rw [e]
  rfl
/-- above z (its size a), below b: the two ways to say it in lowest terms -/
theorem low_part {z : Int64} {a b : Nat} {p : Int32} (ha : a < 2 ^ 63) (hb : b < 2 ^ 63) (hz : z = lN a ∨ z = -lN a) (h0 : b = 0 → a = 0) (hp : p = 0 ∨ p = 1) : Sim (fun x y => x = y) (fX10_lowest z (lN b) p) (fX11_part z (lN b) (if p = 0 then 1 else 0)) := by
  have hab : jlab z = lN a := by
    show (if 0 < z then z else -z) = lN a
    rcases hz with rfl | rfl
    · by_cases h : 0 < lN a
      · rw [if_pos h]
      · rw [if_neg h]
        have : a = 0 := by
          have h2 : ¬ lN 0 < lN a := h
          rw [pk_lLT (by omega) ha] at h2
          omega
        subst this
        rfl
    · by_cases h : 0 < -lN a
      · exfalso
        rw [Int64.lt_iff_toInt_lt, neg_lT ha] at h
        have : (0 : Int64).toInt = 0 := by decide
        omega
      · rw [if_neg h]
        exact Int64.neg_neg
  have hz0 : lg_cmp z 0 = 0 ↔ a = 0 := by
    rw [cmp_0]
    constructor
    · intro e
      rw [e] at hab
      have h2 : lN 0 = lN a := hab
      exact ((pk_lEQ (by omega) ha).mp h2).symm
    · intro e
      subst e
      rcases hz with rfl | rfl <;> rfl
  have hb0 : lg_cmp (lN b) 0 = 0 ↔ b = 0 := by
    rw [cmp_0]
    exact pk_lEQ (b := 0) hb (by omega)
  unfold fX10_lowest fX11_part
  rw [hab, gcd_both ha hb]
  refine Sim.bl rfl ?_
  by_cases ea : a = 0
  · rw [if_pos (hz0.mpr ea)]
    subst ea
    have ez : z = 0 := by rcases hz with rfl | rfl <;> rfl
    subst ez
    rw [Nat.gcd_zero_right]
    by_cases eb : b = 0
    · subst eb
      rw [if_pos (cmp_0.mpr (show lN 0 = 0 from rfl))]
      rcases hp with rfl | rfl
      · exact Sim.rt rfl
      · exact Sim.rt rfl
    · have hn : ¬ lN b = 0 := fun e => eb (hb0.mp (cmp_0.mpr e))
      rw [if_neg (fun e => eb (hb0.mp e)), jgd_t hn, jgd_t hn]
      rcases hp with rfl | rfl
      · refine Sim.rt ?_
        show lN 0 / lN b = 0
        rw [pk_lDiv (by omega) (by omega) hb, Nat.zero_div]
        rfl
      · refine Sim.rt ?_
        show lN b / lN b = 1
        rw [pk_lDiv hb (by omega) hb, Nat.div_self (by omega)]
        rfl
  · have eb : b ≠ 0 := fun e => ea (h0 e)
    have hg : Nat.gcd b a ≠ 0 := fun e => eb (Nat.eq_zero_of_gcd_eq_zero_left e)
    have hgl : Nat.gcd b a < 2 ^ 63 := Nat.lt_of_le_of_lt (Nat.gcd_le_left _ (by omega)) hb
    have hgn : ¬ lN (Nat.gcd b a) = 0 := fun e => hg ((pk_lEQ (b := 0) hgl (by omega)).mp e)
    have hc : fX11_common z (lN b) = some (lN (Nat.gcd b a)) := by
      unfold fX11_common
      have hr := gcd_ref b a ha hb
      rcases hz with rfl | rfl
      · rw [if_pos (cmp_ge.mpr (by
          show ¬ lN a < lN 0
          rw [pk_lLT ha (by omega)]
          omega)), hr]
        rfl
      · by_cases h : 0 ≤ lg_cmp (-lN a) 0
        · exfalso
          rw [cmp_ge, Int64.lt_iff_toInt_lt, neg_lT ha] at h
          have : (0 : Int64).toInt = 0 := by decide
          omega
        · rw [if_neg h, Int64.neg_neg, hr]
          rfl
    rw [if_neg (fun e => ea (hz0.mp e)), if_neg (fun e => eb (hb0.mp e)), if_neg (fun e => hgn (cmp_0.mp e)), jgd_t hgn, jgd_t hgn, hc]
    refine Sim.br rfl ?_
    rw [jgd_t hgn, jgd_t hgn]
    rcases hp with rfl | rfl
    · exact Sim.rt rfl
    · exact Sim.rt rfl
theorem wm_lt : 6 * WM < 2 ^ 63 := by decide
theorem s_sum {n v w W0 : Nat} (l1 l2 l3 : Int32) (g1 : C 94 33 = B 54 3) (g2 : n ≤ 6) (g3 : B 54 3 = nI n) (g4 : ∀ i, i < n → C 113 i = B 55 i ∧ C 114 i = B 63 i ∧ ∃ v o, v < 10000 ∧ o < 100 ∧ B 55 i = nI v ∧ B 63 i = nI o) (g5 : ∀ i j, i < n → j < n → C 115 (6 * i + j) = B (57 + i) j ∧ ∃ t, t < 100 ∧ B (57 + i) j = nI t) (hv : v < n) (hw : w < n) (h0 : W0 ≤ WM) (e0 : fX9_weight B (nI w) (nI v) = some (lN W0)) (hl : l1 = nI v) : Sim (fun x y => ∃ W, W ≤ 6 * WM ∧ W0 ≤ W ∧ x = lN W ∧ y = lN W) (fX9_weightOfAll B (nI v)) (jwh (cX11_odds_35 C l1 l2 l3) ((0 : Int64), (0 : Int32))) := by
  subst hl
  have hs : Sim (fun x y => ∃ W, W ≤ 6 * WM ∧ W0 ≤ W ∧ x = lN W ∧ y = lN W) (jwh (cX9_weightOfAll_5 B (nI v)) ((0 : Int64), (0 : Int32))) (jwh (cX11_odds_35 C (nI v) l2 l3) ((0 : Int64), (0 : Int32))) := by
    refine Sim.up n (fun k s t => ∃ W, W ≤ k * WM ∧ (w < k → W0 ≤ W) ∧ s = (lN W, nI k) ∧ t = (lN W, nI k)) ?_ ?_ (Nat.zero_le _) ⟨0, by omega, by omega, rfl, rfl⟩
    · rintro k s t hk ⟨W, hW, hW2, rfl, rfl⟩
      unfold cX9_weightOfAll_5 cX11_odds_35
      have c1 : ¬ nI n ≤ nI k := nI_ge hk (by omega)
      simp only [g1, g3]
      obtain ⟨x, y, e1, e2, V, hV, rfl, rfl⟩ := s_weight g1 g2 g3 g4 g5 hk hv
      have hwm := wm_lt
      have hk2 : w < k + 1 → W0 ≤ W + V := fun hh => by
        by_cases e : w = k
        · subst e
          rw [e0] at e1
          have e3 := Option.some.inj e1
          rw [pk_lEQ (by omega) (by omega)] at e3
          omega
        · have := hW2 (by omega)
          omega
      refine Sim.iml c1 <| Sim.imr c1 <| Sim.bl e1 <| Sim.br e2 <| Sim.rt ⟨W + V, ?_, hk2, ?_, ?_⟩
      · rw [Nat.succ_mul]; omega
      · rw [lN_add, nI_1]
      · rw [lN_add, nI_1]
    · rintro s t ⟨W, hW, hW2, rfl, rfl⟩
      unfold cX9_weightOfAll_5 cX11_odds_35
      have c1 : nI n ≤ nI n := nI_le (Nat.le_refl _) (by omega)
      rw [g1, g3]
      exact Sim.ipl c1 <| Sim.ipr c1 <| Sim.rt ⟨W, Nat.le_trans hW (Nat.mul_le_mul g2 (Nat.le_refl _)), hW2 hw, rfl, rfl⟩
  obtain ⟨x, y, e1, e2, h⟩ := hs
  unfold fX9_weightOfAll
  rw [e1, e2]
  exact Sim.rt h
theorem m_odds (h : Rel B C) (l1 l2 l3 : Int32) : Sim (fun x y => x = y) (fX10_odds B l1 l2 l3) (fX11_odds C l1 l2 l3) := by
  obtain ⟨g1, n, g2, g3, g4, g5, g6⟩ := h.2.2.2.2.2.1
  unfold fX10_odds fX11_odds fX9_has fX11_isWord
  rw [g1, g3]
  refine Sim.ii Iff.rfl (fun _ => Sim.rt rfl) (fun q1 => ?_)
  refine Sim.ii Iff.rfl (fun _ => Sim.rt rfl) (fun q2 => ?_)
  refine Sim.ii Iff.rfl (fun _ => Sim.rt rfl) (fun q3 => ?_)
  obtain ⟨v, hv, rfl⟩ := wn_m (by omega) q1
  obtain ⟨w, hw, rfl⟩ := wn_m (by omega) q2
  obtain ⟨p, hp, rfl⟩ := wn_n (n := 1) rfl q3
  obtain ⟨x, y, e1, e2, W, hW, rfl, rfl⟩ := s_weight g1 g2 g3 g4 g5 hw hv
  obtain ⟨x, y, e3, e4, T, hT, hT2, rfl, rfl⟩ := s_sum (nI v) (nI w) (nI p) g1 g2 g3 g4 g5 hv hw hW e1 rfl
  have hWT : T = 0 → W = 0 := fun e => by omega
  rw [e1, e2, e3, e4]
  have hwm := wm_lt
  have hs := low_part (z := lN W) (a := W) (b := T) (p := nI p) (by omega) (by omega) (Or.inl rfl) hWT (by
    match p, hp with
    | 0, _ => exact Or.inl rfl
    | 1, _ => exact Or.inr rfl)
  refine Sim.bl rfl <| Sim.bl rfl <| Sim.br rfl <| Sim.br rfl ?_
  refine Sim.ir (fun z => ?_) (fun z => ?_)
  · rw [if_pos z] at hs
    exact Sim.bd hs (fun x y e => Sim.rt e)
  · rw [if_neg z] at hs
    exact Sim.bd hs (fun x y e => Sim.rt e)
theorem m_was (h : Rel B C) (l1 : Int32) : Sim (fun x y => x = y) (fX10_was B l1) (fX11_was C l1) := by
  obtain ⟨g1, n, g2, g3, g4, g5, g6⟩ := h.2.2.2.2.2.1
  unfold fX10_was fX11_was fX9_has fX11_isWord fX9_likeliest
  rw [g1, g3]
  refine Sim.ii Iff.rfl (fun _ => Sim.rt rfl) (fun q1 => ?_)
  obtain ⟨v, hv, rfl⟩ := wn_m (by omega) q1
  have hs : Sim (fun x y => x = y) (jwh (cX9_likeliest_7 B (nI v)) ((-1 : Int32), (0 : Int64), (0 : Int32))) (jwh (cX11_was_18 C (nI v)) ((-1 : Int32), (0 : Int64), (0 : Int32))) := by
    refine Sim.up n (fun k s t => s = t ∧ s.2.2 = nI k) ?_ ?_ (Nat.zero_le _) ⟨rfl, rfl⟩
    · rintro k ⟨s1, s2, s3⟩ t hk ⟨rfl, e⟩
      have e : s3 = nI k := e
      subst e
      unfold cX9_likeliest_7 cX11_was_18
      have c1 : ¬ nI n ≤ nI k := nI_ge hk (by omega)
      simp only [g1, g3]
      refine Sim.iml c1 <| Sim.imr c1 <| Sim.bd (s_weight g1 g2 g3 g4 g5 hk hv) ?_
      rintro x y ⟨V, hV, rfl, rfl⟩
      refine Sim.ix (by rw [cmp_le, cmp_gt]) (fun _ => Sim.rt ⟨rfl, ?_⟩) (fun _ => Sim.rt ⟨rfl, ?_⟩)
      · exact nI_1 k
      · exact nI_1 k
    · rintro ⟨s1, s2, s3⟩ t ⟨rfl, e⟩
      have e : s3 = nI n := e
      subst e
      unfold cX9_likeliest_7 cX11_was_18
      have c1 : nI n ≤ nI n := nI_le (Nat.le_refl _) (by omega)
      rw [g1, g3]
      exact Sim.ipl c1 <| Sim.ipr c1 <| Sim.rt rfl
  obtain ⟨x, y, e1, e2, rfl⟩ := hs
  rw [e1, e2]
  exact Sim.rt rfl
