/-! list, bits, ask -/
variable {B C : jA3}
def pc (m : Nat) : Nat := m % 2 + m / 2 % 2 + m / 4 % 2 + m / 8 % 2 + m / 16 % 2 + m / 32 % 2 + m / 64 % 2 + m / 128 % 2 + m / 256 % 2 + m / 512 % 2
theorem bc_cls : ∀ m, m < 1024 → fJ6_bitCount_0f7a4 (nI m) = nI (pc m) := by decide +kernel
theorem pc_step : ∀ m, m < 1024 → m ≠ 0 → (nI m &&& (nI m - 1)) = nI (m &&& (m - 1)) ∧ (m &&& (m - 1)) < m ∧ pc (m &&& (m - 1)) + 1 = pc m := by decide +kernel
theorem pc_le : ∀ m, m < 1024 → pc m ≤ 10 := by decide +kernel
theorem pc_full : ∀ n, n ≤ 10 → pc (2 ^ n - 1) = n := by decide +kernel
theorem bits_ref : ∀ (m c : Nat), m < 1024 → jwh cX11_bitsOf_4 (nI c, nI m) = some (nI (c + pc m)) := by
  intro m
  induction m using Nat.strongRecOn with
  | ind m ih =>
    intro c hm
    by_cases h0 : m = 0
    · subst h0
      exact jwh_out rfl
    · obtain ⟨h1, h2, h3⟩ := pc_step m hm h0
      have e : cX11_bitsOf_4 (nI c, nI m) = some (.inl (nI (c + 1), nI (m &&& (m - 1)))) := by
        show (if nI m = 0 then _ else some (Sum.inl (nI c + 1, nI m &&& (nI m - 1)))) = _
        rw [if_neg (nI_ne0 (by omega) (by omega)), h1, nI_1]
      rw [jwh_go e, ih _ h2 (c + 1) (by omega)]
      congr 2
      omega
theorem bitsOf_n {m : Nat} (h : m < 1024) : fX11_bitsOf (nI m) = some (nI (pc m)) := by
  unfold fX11_bitsOf
  rw [show ((0 : Int32), nI m) = (nI 0, nI m) from rfl, bits_ref m 0 h, Nat.zero_add]
  rfl
theorem s_muddle {n m : Nat} (l1 l2 l3 l4 : Int32) (g1 : C 94 33 = B 54 3) (g2 : n ≤ 6) (g3 : B 54 3 = nI n) (g5 : ∀ i j, i < n → j < n → C 115 (6 * i + j) = B (57 + i) j ∧ ∃ t, t < 100 ∧ B (57 + i) j = nI t) (hm : m < 2 ^ 31) : Sim (fun x y => ∃ M, M < 2 ^ 31 ∧ x = nI M ∧ y = nI M) (fX9_muddle B (nI m)) (jwh (cX11_list_61 C l1 l2 l3 l4 (nI m)) ((0 : Int32), (0 : Int32))) := by
  have hs : Sim (fun x y => ∃ M, M < 2 ^ 31 ∧ x = nI M ∧ y = nI M) (jwh (cX9_muddle_4 B (nI m)) ((0 : Int32), (0 : Int32))) (jwh (cX11_list_61 C l1 l2 l3 l4 (nI m)) ((0 : Int32), (0 : Int32))) := by
    refine Sim.up n (fun k s t => ∃ M, M ≤ 600 * k ∧ s = (nI M, nI k) ∧ t = (nI M, nI k)) ?_ ?_ (Nat.zero_le _) ⟨0, by omega, rfl, rfl⟩
    · rintro k s t hk ⟨M, hM, rfl, rfl⟩
      unfold cX9_muddle_4 cX11_list_61
      have c1 : ¬ nI n ≤ nI k := nI_ge hk (by omega)
      simp only [g1, g3]
      refine Sim.iml c1 <| Sim.imr c1 <| Sim.bd (R := fun x y => ∃ M, M ≤ 600 * (k + 1) ∧ x = nI M ∧ y = nI M) ?_ ?_
      · refine Sim.up n (fun j s t => ∃ M2, M2 ≤ 600 * k + 99 * j ∧ s = (nI M2, nI j) ∧ t = (nI M2, nI j)) ?_ ?_ (Nat.zero_le _) ⟨M, by omega, rfl, rfl⟩
        · rintro j s t hj ⟨M2, hM2, rfl, rfl⟩
          unfold cX9_muddle_15 cX11_list_73
          have c2 : ¬ nI n ≤ nI j := nI_ge hj (by omega)
          obtain ⟨a1, t0, a2, a3⟩ := g5 k j hk hj
          have e6 : (6 : Int32) * nI k + nI j = nI (6 * k + j) := by rw [lit_n 6, pk_mul, nI_add]
          simp only [g1, g3, e6, jx_n (show k < 2 ^ 31 by omega), jx_n (show j < 2 ^ 31 by omega), jx_n (show 6 * k + j < 2 ^ 31 by omega), a1, a3]
          have stay : Sim (SR (fun s t => ∃ M2, M2 ≤ 600 * k + 99 * (j + 1) ∧ s = (nI M2, nI (j + 1)) ∧ t = (nI M2, nI (j + 1))) (fun x y => ∃ M, M ≤ 600 * (k + 1) ∧ x = nI M ∧ y = nI M)) (some (Sum.inl (nI M2, nI j + 1)) : Option ((Int32 × Int32) ⊕ Int32)) (some (Sum.inl (nI M2, nI j + 1)) : Option ((Int32 × Int32) ⊕ Int32)) :=
            Sim.rt ⟨M2, by omega, by rw [nI_1], by rw [nI_1]⟩
          refine Sim.iml c2 <| Sim.imr c2 <| Sim.ii Iff.rfl (fun _ => stay) (fun _ => ?_)
          refine Sim.ix (bit01 hm (by omega)) (fun _ => stay) (fun _ => ?_)
          refine Sim.ix (bit01 hm (by omega)) (fun _ => stay) (fun _ => ?_)
          refine Sim.gl (vp_in_nI (by omega) (by omega)) <| Sim.gl (vp_in_nI (by omega) (by omega)) <| Sim.gr (vp_in_nI (by omega) (by omega)) <| Sim.rt ⟨M2 + t0, by omega, by rw [nI_add, nI_1], by rw [nI_add, nI_1]⟩
        · rintro s t ⟨M2, hM2, rfl, rfl⟩
          unfold cX9_muddle_15 cX11_list_73
          have c2 : nI n ≤ nI n := nI_le (Nat.le_refl _) (by omega)
          rw [g1, g3]
          exact Sim.ipl c2 <| Sim.ipr c2 <| Sim.rt ⟨M2, by omega, rfl, rfl⟩
      · rintro x y ⟨M2, hM2, rfl, rfl⟩
        exact Sim.rt ⟨M2, hM2, by rw [nI_1], by rw [nI_1]⟩
    · rintro s t ⟨M, hM, rfl, rfl⟩
      unfold cX9_muddle_4 cX11_list_61
      have c1 : nI n ≤ nI n := nI_le (Nat.le_refl _) (by omega)
      rw [g1, g3]
      exact Sim.ipl c1 <| Sim.ipr c1 <| Sim.rt ⟨M, by omega, rfl, rfl⟩
  obtain ⟨x, y, e1, e2, h⟩ := hs
  unfold fX9_muddle
  rw [e1, e2]
  exact Sim.rt h
theorem m_list (h : Rel B C) (l1 l2 : Int32) : Sim (fun x y => x = y) (fX10_list B l1 l2) (fX11_list C l1 l2) := by
  obtain ⟨g1, n, g2, g3, g4, g5, g6⟩ := h.2.2.2.2.2.1
  unfold fX10_list fX11_list fX9_clearestList
  rw [g1, g3]
  refine Sim.ii Iff.rfl (fun _ => Sim.rt rfl) (fun q1 => ?_)
  refine Sim.ii Iff.rfl (fun _ => Sim.rt rfl) (fun q2 => ?_)
  obtain ⟨b, hb, rfl⟩ := wn_n (n := n) (nI_toInt (by omega)) q1
  have hp : 2 ^ n ≤ 64 := Nat.pow_le_pow_right (n := 2) (by omega) g2
  have hp2 : 2 ^ b ≤ 2 ^ n := Nat.pow_le_pow_right (n := 2) (by omega) hb
  have hp3 : 0 < 2 ^ b := Nat.pow_pos (by omega)
  have hs : Sim (fun x y => ∃ f M, f < 64 ∧ M < 2 ^ 31 ∧ x = nI f ∧ y = (nI f, nI M) ∧ fX9_muddle B (nI f) = some (nI M)) (jwh (cX9_clearestList_7 B (nI b)) ((0 : Int32), (-1 : Int32), (0 : Int32))) (jwh (cX11_list_32 C (nI b) l2) ((0 : Int32), (-1 : Int32), (0 : Int32))) := by
    refine Sim.up (2 ^ n) (fun k s t => s = t ∧ ((s = (0, -1, nI k) ∧ k ≤ 2 ^ b - 1) ∨ ∃ f M, f < 64 ∧ M < 2 ^ 31 ∧ s = (nI f, nI M, nI k) ∧ fX9_muddle B (nI f) = some (nI M))) ?_ ?_ (Nat.zero_le _) ⟨rfl, Or.inl ⟨rfl, by omega⟩⟩
    · rintro k s t hk ⟨rfl, hI⟩
      have e3 : s.2.2 = nI k := by
        rcases hI with ⟨rfl, -⟩ | ⟨f, M, -, -, rfl, -⟩ <;> rfl
      unfold cX9_clearestList_7 cX11_list_32
      have c1 : ¬ nI (2 ^ n) ≤ nI k := nI_ge hk (by omega)
      simp only [g1, g3, jshl_1 (show n < 31 by omega), e3, bc_cls k (by omega), bitsOf_n (show k < 1024 by omega)]
      refine Sim.iml c1 <| Sim.imr c1 <| Sim.br rfl <| Sim.ii Iff.rfl (fun q => ?_) (fun q => ?_)
      · obtain ⟨x, y, e1, e2, M, hM, rfl, rfl⟩ := s_muddle (m := k) (nI b) l2 s.1 s.2.1 g1 g2 g3 g5 (by omega)
        refine Sim.bl e1 <| Sim.br e2 ?_
        have new : ∀ (f1 f2 f3 f4 : Int32), Sim (SR (fun s t => s = t ∧ ((s = ((0 : Int32), (-1 : Int32), nI (k + 1)) ∧ k + 1 ≤ 2 ^ b - 1) ∨ ∃ f M, f < 64 ∧ M < 2 ^ 31 ∧ s = (nI f, nI M, nI (k + 1)) ∧ fX9_muddle B (nI f) = some (nI M))) (fun x y => ∃ f M, f < 64 ∧ M < 2 ^ 31 ∧ x = nI f ∧ y = (nI f, nI M) ∧ fX9_muddle B (nI f) = some (nI M))) (jX9_clearestList_45_7 B f1 (nI k) (nI M)) (jX11_list_156_32 C f2 f3 (nI k) (nI M)) := fun f1 f2 f3 f4 =>
          Sim.rt ⟨rfl, Or.inr ⟨k, M, by omega, hM, by rw [nI_1], e1⟩⟩
        refine Sim.ii Iff.rfl (fun _ => new _ _ _ 0) (fun q2 => ?_)
        rcases hI with ⟨rfl, -⟩ | ⟨f, M2, hf, hM2, rfl, e4⟩
        · exact absurd (show (-1 : Int32) < 0 by decide) q2
        · refine Sim.ix (by rw [i32_lt_nle]; simp) (fun _ => Sim.rt ⟨rfl, Or.inr ⟨f, M2, hf, hM2, by rw [nI_1], e4⟩⟩) (fun _ => new _ _ _ 0)
      · refine Sim.rt ⟨rfl, ?_⟩
        rcases hI with ⟨rfl, hk2⟩ | ⟨f, M, hf, hM, rfl, e4⟩
        · refine Or.inl ⟨by rw [nI_1], ?_⟩
          rcases Nat.lt_or_ge k (2 ^ b - 1) with hlt | hge
          · omega
          · exfalso
            apply q
            have : k = 2 ^ b - 1 := by omega
            rw [this, pc_full b (by omega)]
        · exact Or.inr ⟨f, M, hf, hM, by rw [nI_1], e4⟩
    · rintro s t ⟨rfl, hI⟩
      unfold cX9_clearestList_7 cX11_list_32
      have c1 : nI (2 ^ n) ≤ nI (2 ^ n) := nI_le (Nat.le_refl _) (by omega)
      rcases hI with ⟨rfl, hk⟩ | ⟨f, M, hf, hM, rfl, e4⟩
      · omega
      · simp only [g1, g3, jshl_1 (show n < 31 by omega)]
        exact Sim.ipl c1 <| Sim.ipr c1 <| Sim.rt ⟨f, M, hf, hM, rfl, rfl, e4⟩
  obtain ⟨x, y, e1, e2, f, M, hf, hM, rfl, rfl, e4⟩ := hs
  rw [e1, e2]
  refine Sim.bl rfl <| Sim.br rfl <| Sim.ii Iff.rfl (fun _ => Sim.rt rfl) (fun _ => Sim.bl e4 <| Sim.rt rfl)
def fig (v p : Nat) : Nat := v / 10 ^ (3 - p) % 10
theorem fig_cls {v p : Nat} (hv : v < 10000) (hp : p < 4) : fX9_figure (nI v) (nI p) = some (nI (fig v p)) := by
  have hr : Run (fun r => r = nI (v / 10 ^ (3 - p))) (jwh cX9_figure_6 (nI v, nI (p + 1))) := by
    refine Run.up 4 (fun k s => p + 1 ≤ k ∧ s = (nI (v / 10 ^ (k - (p + 1))), nI k)) ?_ ?_ (k := p + 1) (by omega) ⟨Nat.le_refl _, by rw [Nat.sub_self, Nat.pow_zero, Nat.div_one]⟩
    · rintro k s hk ⟨hk2, rfl⟩
      unfold cX9_figure_6
      refine Run.im (nI_ge (b := 4) hk (by omega)) (Run.rt ⟨by omega, ?_⟩)
      have hd : v / 10 ^ (k - (p + 1)) < 2 ^ 31 := Nat.lt_of_le_of_lt (Nat.div_le_self _ _) (by omega)
      show (nI (v / 10 ^ (k - (p + 1))) / nI 10, nI k + 1) = _
      rw [pk_div hd (by omega) (by omega), Nat.div_div_eq_div_mul, ← Nat.pow_succ, nI_1]
      congr 4
      omega
    · rintro s ⟨hk2, rfl⟩
      unfold cX9_figure_6
      refine Run.ip (nI_le (Nat.le_refl 4) (by omega)) (Run.rt ?_)
      show nI (v / 10 ^ (4 - (p + 1))) = nI (v / 10 ^ (3 - p))
      rw [show 4 - (p + 1) = 3 - p by omega]
  obtain ⟨r, e, rfl⟩ := hr
  unfold fX9_figure
  rw [nI_1, e]
  have hd : v / 10 ^ (3 - p) < 2 ^ 31 := Nat.lt_of_le_of_lt (Nat.div_le_self _ _) (by omega)
  show some (nI (v / 10 ^ (3 - p)) - nI (v / 10 ^ (3 - p)) / nI 10 * nI 10) = _
  rw [pk_rem hd (by omega) (by omega)]
  rfl
theorem fig_ref {v p : Nat} (hv : v < 10000) (hp : p < 4) : fX11_figure (nI v) (nI p) = nI (fig v p) := by
  unfold fX11_figure
  match p, hp with
  | 0, _ =>
    rw [if_pos (show nI 0 = 0 from rfl), lit_n 1000, pk_div (by omega) (by omega) (by omega)]
    show nI (v / 1000) = nI (v / 10 ^ 3 % 10)
    rw [Nat.mod_eq_of_lt (by omega)]
  | 1, _ =>
    rw [if_neg (by decide), if_pos (show nI 1 = 1 from rfl)]
    show nI v / nI 100 - nI v / nI 100 / nI 10 * nI 10 = nI (v / 10 ^ 2 % 10)
    rw [pk_div (by omega) (by omega) (by omega), pk_rem (by omega) (by omega) (by omega)]
  | 2, _ =>
    rw [if_neg (by decide), if_neg (by decide), if_pos (show nI 2 = 2 from rfl)]
    show nI v / nI 10 - nI v / nI 10 / nI 10 * nI 10 = nI (v / 10 ^ 1 % 10)
    rw [pk_div (by omega) (by omega) (by omega), pk_rem (by omega) (by omega) (by omega)]
  | 3, _ =>
    rw [if_neg (by decide), if_neg (by decide), if_neg (by decide)]
    show nI v - nI v / nI 10 * nI 10 = nI (v / 10 ^ 0 % 10)
    rw [pk_rem (by omega) (by omega) (by omega), Nat.pow_zero, Nat.div_one]
theorem fig_lt (v p : Nat) : fig v p < 10 := Nat.mod_lt _ (by omega)
theorem fig_eq {a b p q : Nat} : nI (fig a p) = nI (fig b q) ↔ fig a p = fig b q := nI_eq (Nat.lt_trans (fig_lt _ _) (by omega)) (Nat.lt_trans (fig_lt _ _) (by omega))
def Fits (v u w k : Nat) : Prop := ∀ p, p < k → w.testBit p = true → fig v p = fig u p
theorem fits_cls {v u w : Nat} (hv : v < 10000) (hu : u < 10000) (hw : w < 16) : Run (fun r => (Fits v u w 4 ∧ r = 1) ∨ (¬ Fits v u w 4 ∧ r = 0)) (fX9_fits (nI v) (nI u) (nI w)) := by
  unfold fX9_fits
  refine Run.bd (R := fun z => (Fits v u w 4 ∧ z = .inl ()) ∨ (¬ Fits v u w 4 ∧ z = .inr 0)) ?_ ?_
  · refine Run.up 4 (fun k s => s = nI k ∧ Fits v u w k) ?_ ?_ (Nat.zero_le _) ⟨rfl, fun p hp => absurd hp (Nat.not_lt_zero _)⟩
    · rintro k s hk ⟨rfl, hI⟩
      unfold cX9_fits_2
      refine Run.im (nI_ge (b := 4) hk (by omega)) ?_
      rw [fig_cls hv hk, fig_cls hu hk]
      have up : (w.testBit k = true → fig v k = fig u k) → Fits v u w (k + 1) := fun hh p hp hb => by
        rcases Nat.lt_or_ge p k with h1 | h1
        · exact hI p h1 hb
        · have e : p = k := by omega
          subst e
          exact hh hb
      refine Run.i (fun q => Run.rt ⟨nI_1 k, up fun hb => ?_⟩) (fun q => Run.be rfl <| Run.be rfl <| Run.i (fun q2 => Run.rt ⟨nI_1 k, up fun _ => fig_eq.mp q2⟩) (fun q2 => Run.rt (Or.inr ⟨fun hf => q2 (fig_eq.mpr (hf k hk ?_)), rfl⟩)))
      · rw [(bit0 (by omega) (by omega)).mp q] at hb
        cases hb
      · cases hb : w.testBit k with
        | true => rfl
        | false => exact absurd ((bit0 (by omega) (by omega)).mpr hb) q
    · rintro s ⟨rfl, hI⟩
      unfold cX9_fits_2
      exact Run.ip (nI_le (Nat.le_refl 4) (by omega)) (Run.rt (Or.inl ⟨hI, rfl⟩))
  · rintro z (⟨h1, rfl⟩ | ⟨h1, rfl⟩)
    · exact Run.rt (Or.inl ⟨h1, rfl⟩)
    · exact Run.rt (Or.inr ⟨h1, rfl⟩)
theorem fits_ref {v u w x : Nat} (l3 : Int32) (hv : v < 10000) (hu : u < 10000) (hw : w < 16) (hx : x < 6) (hc : C 113 x = nI v) : Run (fun r => (Fits v u w 4 ∧ r = 1) ∨ (¬ Fits v u w 4 ∧ r = 0)) (jwh (cX11_fitting_20 C (nI u) (nI w) l3 (nI x)) ((1 : Int32), (0 : Int32))) := by
  refine Run.up 4 (fun k s => ∃ b, s = (b, nI k) ∧ ((Fits v u w k ∧ b = 1) ∨ (¬ Fits v u w k ∧ b = 0))) ?_ ?_ (Nat.zero_le _) ⟨1, rfl, Or.inl ⟨fun p hp => absurd hp (Nat.not_lt_zero _), rfl⟩⟩
  · rintro k s hk ⟨b, rfl, hI⟩
    unfold cX11_fitting_20
    have v1 : vp_in (nI x) 6 := vp_in_nI hx (by omega)
    simp only [jx_n (show x < 2 ^ 31 by omega), hc, fig_ref hv hk, fig_ref hu hk]
    have up : (w.testBit k = true → fig v k = fig u k) → (Fits v u w (k + 1) ↔ Fits v u w k) := fun hh => ⟨fun hf p hp hb => hf p (by omega) hb, fun hf p hp hb => by
      rcases Nat.lt_or_ge p k with h1 | h1
      · exact hf p h1 hb
      · have e : p = k := by omega
        subst e
        exact hh hb⟩
    refine Run.im (nI_ge (b := 4) hk (by omega)) <| Run.i (fun q => Run.g v1 <| Run.i (fun q2 => Run.rt ⟨b, by rw [nI_1], ?_⟩) (fun q2 => Run.rt ⟨0, by rw [nI_1], Or.inr ⟨fun hf => q2 (fig_eq.mpr (hf k (by omega) ((bit1 (by omega) (by omega)).mp q))), rfl⟩⟩)) (fun q => Run.rt ⟨b, by rw [nI_1], ?_⟩)
    · rw [up (fun _ => fig_eq.mp q2)]
      exact hI
    · rw [up (fun hb => absurd ((bit1 (by omega) (by omega)).mpr hb) q)]
      exact hI
  · rintro s ⟨b, rfl, hI⟩
    unfold cX11_fitting_20
    exact Run.ip (nI_le (Nat.le_refl 4) (by omega)) (Run.rt hI)
theorem s_fit {n u w : Nat} (g1 : C 94 33 = B 54 3) (g2 : n ≤ 6) (g3 : B 54 3 = nI n) (g4 : ∀ i, i < n → C 113 i = B 55 i ∧ C 114 i = B 63 i ∧ ∃ v o, v < 10000 ∧ o < 100 ∧ B 55 i = nI v ∧ B 63 i = nI o) (hu : u < 10000) (hw : w < 16) : Sim (fun x y => ∃ m, m < 64 ∧ x = nI m ∧ y = nI m) (fX9_fitting B (nI u) (nI w)) (fX11_fitting C (nI u) (nI w)) := by
  unfold fX9_fitting fX11_fitting
  refine Sim.bd (R := fun x y => ∃ m, m < 64 ∧ x = nI m ∧ y = nI m) ?_ (fun x y h => Sim.rt h)
  refine Sim.up n (fun k s t => ∃ m, m < 2 ^ k ∧ s = (nI m, nI k) ∧ t = (nI m, nI k)) ?_ ?_ (Nat.zero_le _) ⟨0, by omega, rfl, rfl⟩
  · rintro k s t hk ⟨m, hm, rfl, rfl⟩
    unfold cX9_fitting_5 cX11_fitting_5
    have c1 : ¬ nI n ≤ nI k := nI_ge hk (by omega)
    obtain ⟨b1, b2, v, o, b3, b4, b5, b6⟩ := g4 k hk
    obtain ⟨r1, e1, hr1⟩ := fits_cls b3 hu hw
    obtain ⟨r2, e2, hr2⟩ := fits_ref (C := C) (nI m) b3 hu hw (show k < 6 by omega) (by rw [b1, b5])
    have hr : r1 = r2 := by
      rcases hr1 with ⟨p, rfl⟩ | ⟨p, rfl⟩ <;> rcases hr2 with ⟨p2, rfl⟩ | ⟨p2, rfl⟩
      · rfl
      · exact absurd p p2
      · exact absurd p2 p
      · rfl
    subst hr
    have hk2 : 2 ^ k < 2 ^ (k + 1) := Nat.pow_lt_pow_right (by omega) (by omega)
    simp only [g1, g3, jx_n (show k < 2 ^ 31 by omega), b5]
    refine Sim.iml c1 <| Sim.imr c1 <| Sim.gl (vp_in_nI (by omega) (by omega)) <| Sim.bl e1 <| Sim.br e2 <| Sim.ii Iff.rfl (fun _ => Sim.rt ⟨m, by omega, by rw [nI_1], by rw [nI_1]⟩) (fun _ => Sim.rt ⟨m ||| 2 ^ k, or_lt (by omega) hk2, ?_, ?_⟩)
    · rw [jshl_1 (by omega), or_n, nI_1]
    · rw [jshl_1 (by omega), or_n, nI_1]
  · rintro s t ⟨m, hm, rfl, rfl⟩
    unfold cX9_fitting_5 cX11_fitting_5
    have c1 : nI n ≤ nI n := nI_le (Nat.le_refl _) (by omega)
    rw [g1, g3]
    exact Sim.ipl c1 <| Sim.ipr c1 <| Sim.rt ⟨m, Nat.lt_of_lt_of_le hm (Nat.pow_le_pow_right (n := 2) (by omega) g2), rfl, rfl⟩
theorem m_bits (h : Rel B C) (l1 l2 : Int32) : Sim (fun x y => x = y) (fX10_bits B l1 l2) (fX11_bits C l1 l2) := by
  obtain ⟨g1, n, g2, g3, g4, g5, g6⟩ := h.2.2.2.2.2.1
  unfold fX10_bits fX11_bits fX11_isHeard
  refine Sim.il (fun q => Sim.ipr (by rw [in_eq, if_pos q]) (Sim.rt rfl)) (fun q => Sim.il (fun q2 => Sim.ipr (by rw [in_eq, if_neg q, if_pos q2]) (Sim.rt rfl)) (fun q2 => Sim.imr (by rw [in_eq, if_neg q, if_neg q2]; decide) ?_))
  obtain ⟨u, hu, rfl⟩ := wn_n (n := 9999) rfl q
  obtain ⟨w, hw, rfl⟩ := wn_n (n := 15) rfl q2
  refine Sim.bd (s_fit g1 g2 g3 g4 (by omega) (by omega)) ?_
  rintro x y ⟨m, hm, rfl, rfl⟩
  exact Sim.rt rfl
theorem s_most {n m p : Nat} (l2 l3 l5 l6 : Int32) (g1 : C 94 33 = B 54 3) (g2 : n ≤ 6) (g3 : B 54 3 = nI n) (g4 : ∀ i, i < n → C 113 i = B 55 i ∧ C 114 i = B 63 i ∧ ∃ v o, v < 10000 ∧ o < 100 ∧ B 55 i = nI v ∧ B 63 i = nI o) (hm : m < 64) (hp : p < 4) : Sim (fun x y => x = y ∧ ¬ x < 0) (fX9_mostAlike B (nI m) (nI p)) (jwh (cX11_ask_62 C l2 l3 (nI m) l5 l6 (nI p)) ((0 : Int32), (0 : Int32))) := by
  have hs : Sim (fun x y => x = y ∧ ¬ x < 0) (jwh (cX9_mostAlike_5 B (nI m) (nI p)) ((0 : Int32), (0 : Int32))) (jwh (cX11_ask_62 C l2 l3 (nI m) l5 l6 (nI p)) ((0 : Int32), (0 : Int32))) := by
    refine Sim.up 10 (fun k s t => ∃ x, s = (nI x, nI k) ∧ t = (nI x, nI k) ∧ x ≤ 6) ?_ ?_ (Nat.zero_le _) ⟨0, rfl, rfl, by omega⟩
    · rintro k s t hk ⟨x, rfl, rfl, hx⟩
      unfold cX9_mostAlike_5 cX11_ask_62
      refine Sim.iml (nI_ge (b := 10) hk (by omega)) <| Sim.imr (nI_ge (b := 10) hk (by omega)) <| Sim.bd (R := fun a b => ∃ y, a = nI y ∧ b = nI y ∧ y ≤ 6) ?_ ?_
      · refine Sim.up n (fun j s t => ∃ y, s = (nI y, nI j) ∧ t = (nI y, nI j) ∧ y ≤ j) ?_ ?_ (Nat.zero_le _) ⟨0, rfl, rfl, by omega⟩
        · rintro j s t hj ⟨y, rfl, rfl, hy⟩
          unfold cX9_mostAlike_18 cX11_ask_75 jX11_ask_118_75
          have c1 : ¬ nI n ≤ nI j := nI_ge hj (by omega)
          obtain ⟨b1, b2, v, o, b3, b4, b5, b6⟩ := g4 j hj
          have v1 : vp_in (nI j) 6 := vp_in_nI (by omega) (by omega)
          simp only [g1, g3, jx_n (show j < 2 ^ 31 by omega), b1, b5, fig_cls b3 hp, fig_ref b3 hp, Int32.add_zero]
          refine Sim.iml c1 <| Sim.imr c1 <| Sim.ix (bit01 (by omega) (by omega)) (fun _ => Sim.rt ⟨y, by rw [nI_1], by rw [nI_1], by omega⟩) (fun _ => Sim.gl v1 <| Sim.gr v1 <| Sim.bl rfl <| Sim.ii Iff.rfl (fun _ => Sim.rt ⟨y + 1, by rw [nI_1, nI_1], by rw [nI_1, nI_1], by omega⟩) (fun _ => Sim.rt ⟨y, by rw [nI_1], by rw [nI_1], by omega⟩))
        · rintro s t ⟨y, rfl, rfl, hy⟩
          unfold cX9_mostAlike_18 cX11_ask_75
          have c1 : nI n ≤ nI n := nI_le (Nat.le_refl _) (by omega)
          rw [g1, g3]
          exact Sim.ipl c1 <| Sim.ipr c1 <| Sim.rt ⟨y, rfl, rfl, by omega⟩
      · rintro a b ⟨y, rfl, rfl, hy⟩
        refine Sim.ir (fun q => Sim.rt ⟨x, ?_, by rw [nI_1], hx⟩) (fun q => Sim.rt ⟨y, ?_, by rw [nI_1], hy⟩)
        · show ((if nI x < nI y then nI y else nI x), nI k + 1) = _
          rw [if_neg (by rw [i32_lt_nle]; exact fun z => z q), nI_1]
        · show ((if nI x < nI y then nI y else nI x), nI k + 1) = _
          rw [if_pos (i32_nle q), nI_1]
    · rintro s t ⟨x, rfl, rfl, hx⟩
      unfold cX9_mostAlike_5 cX11_ask_62
      exact Sim.ipl (nI_le (Nat.le_refl 10) (by omega)) <| Sim.ipr (nI_le (Nat.le_refl 10) (by omega)) <| Sim.rt ⟨rfl, nI_pos (by omega)⟩
  obtain ⟨x, y, e1, e2, h⟩ := hs
  unfold fX9_mostAlike
  rw [e1, e2]
  exact Sim.rt h
theorem m_ask (h : Rel B C) (l1 l2 l3 : Int32) : Sim (fun x y => x = y) (fX10_ask B l1 l2 l3) (fX11_ask C l1 l2 l3) := by
  obtain ⟨g1, n, g2, g3, g4, g5, g6⟩ := h.2.2.2.2.2.1
  unfold fX10_ask fX11_ask fX11_isHeard
  refine Sim.il (fun q => Sim.ipr (by rw [in_eq, if_pos q]) (Sim.rt rfl)) (fun q => Sim.il (fun q2 => Sim.ipr (by rw [in_eq, if_neg q, if_pos q2]) (Sim.rt rfl)) (fun q2 => Sim.imr (by rw [in_eq, if_neg q, if_neg q2]; decide) ?_))
  refine Sim.ii Iff.rfl (fun _ => Sim.rt rfl) (fun q3 => ?_)
  obtain ⟨u, hu, rfl⟩ := wn_n (n := 9999) rfl q
  obtain ⟨w, hw, rfl⟩ := wn_n (n := 15) rfl q2
  refine Sim.bd (s_fit g1 g2 g3 g4 (by omega) (by omega)) ?_
  rintro x y ⟨m, hm, rfl, rfl⟩
  refine Sim.bd (R := fun a b => a.1 = b.1 ∧ ((a.1 = -1 ∧ a.2 = -1) ∨ (¬ a.1 < 0 ∧ a.2 = b.2))) ?_ ?_
  · refine Sim.up 4 (fun k s t => s.2.2 = nI k ∧ t.2.2 = nI k ∧ s.1 = t.1 ∧ ((s.1 = -1 ∧ s.2.1 = -1) ∨ (¬ s.1 < 0 ∧ s.2.1 = t.2.1))) ?_ ?_ (Nat.zero_le _) ⟨rfl, rfl, rfl, Or.inl ⟨rfl, rfl⟩⟩
    · rintro k ⟨s1, s2, s3⟩ ⟨t1, t2, t3⟩ hk ⟨e1, e2, e3, hI⟩
      have e1 : s3 = nI k := e1
      have e2 : t3 = nI k := e2
      have e3 : s1 = t1 := e3
      subst e1 e2 e3
      have hI : (s1 = -1 ∧ s2 = -1) ∨ (¬ s1 < 0 ∧ s2 = t2) := hI
      unfold cX10_ask_53 cX11_ask_37
      refine Sim.iml (nI_ge (b := 4) hk (by omega)) <| Sim.imr (nI_ge (b := 4) hk (by omega)) <| Sim.ix (bit01 (by omega) (by omega)) (fun _ => ?_) (fun _ => Sim.rt ⟨nI_1 k, nI_1 k, rfl, hI⟩)
      obtain ⟨r, r2, f1, f2, rfl, f3⟩ := s_most (nI w) l3 s1 t2 g1 g2 g3 g4 hm hk
      refine Sim.bl f1 <| Sim.br f2 ?_
      have new : ∀ (a1 a2 a3 a4 a5 a6 : Int32), Sim (SR (fun (s t : Int32 × Int32 × Int32) => s.2.2 = nI (k + 1) ∧ t.2.2 = nI (k + 1) ∧ s.1 = t.1 ∧ ((s.1 = -1 ∧ s.2.1 = -1) ∨ (¬ s.1 < 0 ∧ s.2.1 = t.2.1))) (fun (a b : Int32 × Int32) => a.1 = b.1 ∧ ((a.1 = -1 ∧ a.2 = -1) ∨ (¬ a.1 < 0 ∧ a.2 = b.2)))) (jX10_ask_93_53 B a1 a2 a3 (nI k) r) (jX11_ask_160_37 C a4 a5 a6 (nI k) r) := fun _ _ _ _ _ _ =>
        Sim.rt ⟨nI_1 k, nI_1 k, rfl, Or.inr ⟨nI_pos (by omega), rfl⟩⟩
      refine Sim.ii Iff.rfl (fun _ => new _ _ _ _ _ _) (fun q5 => ?_)
      rcases hI with ⟨rfl, -⟩ | ⟨h1, rfl⟩
      · exact absurd (show (-1 : Int32) < 0 by decide) q5
      · exact Sim.ix (by rw [i32_lt_nle]; simp) (fun _ => Sim.rt ⟨nI_1 k, nI_1 k, rfl, Or.inr ⟨h1, rfl⟩⟩) (fun _ => new _ _ _ _ _ _)
    · rintro ⟨s1, s2, s3⟩ ⟨t1, t2, t3⟩ ⟨e1, e2, e3, hI⟩
      have e1 : s3 = nI 4 := e1
      have e2 : t3 = nI 4 := e2
      subst e1 e2
      unfold cX10_ask_53 cX11_ask_37
      exact Sim.ipl (nI_le (Nat.le_refl 4) (by omega)) <| Sim.ipr (nI_le (Nat.le_refl 4) (by omega)) <| Sim.rt ⟨e3, hI⟩
  · rintro ⟨a1, a2⟩ ⟨b1, b2⟩ ⟨e, hI⟩
    have e : a1 = b1 := e
    subst e
    rcases hI with ⟨h1, h2⟩ | ⟨h1, h2⟩
    · have h1 : a1 = -1 := h1
      have h2 : a2 = -1 := h2
      subst h1 h2
      exact Sim.ipr (show (-1 : Int32) < 0 by decide) <| Sim.il (fun _ => Sim.rt rfl) (fun _ => Sim.rt rfl)
    · have h2 : a2 = b2 := h2
      subst h2
      exact Sim.imr h1 <| Sim.ii Iff.rfl (fun _ => Sim.rt rfl) (fun _ => Sim.rt rfl)
