/-! sheet, cell, copy, sayingsBy -/
variable {B C : jA3}
theorem inW_no {a c j : Nat} (h : c ≠ a) : inW [(a, a, none)] c j = false := by
  cases e : inW [(a, a, none)] c j with
  | false => rfl
  | true =>
    simp only [inW, Bool.or_false, Bool.and_eq_true, Nat.ble_eq] at e
    omega
theorem sh_neg (h : rSheet B C) {s : Nat} (hs : s < 4) : B 81 s = -1 ↔ ¬ 0 ≤ C 127 s := by
  obtain ⟨h1, h2⟩ := h s hs
  rw [h1]
  rcases h2 with e | ⟨k, n, hk, -, e, -⟩
  · rw [e]; decide
  · rw [e]
    constructor
    · intro z
      rw [z]
      decide
    · intro z
      exact absurd (nI_pos' (by omega)) z
theorem sh_neg2 (h : rSheet B C) {s : Nat} (hs : s < 4) : B 81 s = -1 ↔ C 127 s < 0 := by
  rw [sh_neg h hs, i32_lt_nle]
theorem sh_some (h : rSheet B C) {s : Nat} (hs : s < 4) (hn : ¬ B 81 s = -1) : C 127 s = B 81 s ∧ ∃ k n, k < 3 ∧ n ≤ 40 ∧ B 81 s = nI k ∧ B 82 s = nI n ∧ C 128 s = nI n ∧ ∀ i, i < n → C 129 (40 * s + i) = B (77 + s) i := by
  obtain ⟨h1, h2⟩ := h s hs
  rcases h2 with e | h2
  · exact absurd e hn
  · exact ⟨h1, h2⟩
theorem r_renew {s : Nat} {l2 l3 : Int32} (hs : s < 4) : Run (fun r => r.1 = 1 ∧ Fr [(77, 82, none)] B r.2 ∧ r.2 81 s = l2 ∧ r.2 82 s = l3 ∧ (∀ j, j < 40 → r.2 (77 + s) j = 0) ∧ ∀ t, t < 4 → t ≠ s → r.2 81 t = B 81 t ∧ r.2 82 t = B 82 t ∧ r.2 (77 + t) = B (77 + t)) (fX7_renew B (nI s) l2 l3) := by
  unfold fX7_renew
  have v : vp_in (nI s) 4 := vp_in_nI hs (by omega)
  obtain ⟨A1, e1, f1, h1⟩ := r_fill (A := B) (c := 77 + s) (n := 40) (v := 0) (by omega)
  rw [jx_n (by omega)]
  refine Run.g v <| Run.be e1 <| Run.g v <| Run.g v <| Run.rt ⟨rfl, ?_, ?_, ?_, fun j hj => ?_, fun t ht hne => ⟨?_, ?_, ?_⟩⟩
  · have f2 : Fr [(77, 82, none)] B A1 := fun c j q => f1 c j (by
      cases e : inW [(77 + s, 77 + s, none)] c j with
      | false => rfl
      | true =>
        have : c = 77 + s := by
          simp only [inW, Bool.or_false, Bool.and_eq_true, Nat.ble_eq] at e
          omega
        rw [inW_rng (lo := 77) (hi := 82) rfl (by omega) (by omega)] at q
        cases q)
    exact Fr.up (Fr.up f2 (FrC.up FrC.bs rfl)) (FrC.up FrC.bs rfl)
  · show upd (A1 81) s l2 s = l2
    exact upd_at
  · show upd (A1 82) s l3 s = l3
    exact upd_at
  · show va_up (va_up A1 81 _) 82 _ (77 + s) j = 0
    rw [ju_ne _ _ (by omega), ju_ne _ _ (by omega)]
    exact h1 j hj
  · show upd (A1 81) s l2 t = _
    rw [upd_ne hne]
    exact f1 81 t (inW_no (by omega))
  · show upd (A1 82) s l3 t = _
    rw [upd_ne hne]
    exact f1 82 t (inW_no (by omega))
  · show va_up (va_up A1 81 _) 82 _ (77 + t) = _
    rw [ju_ne _ _ (by omega), ju_ne _ _ (by omega)]
    funext j
    exact f1 (77 + t) j (inW_no (by omega))
abbrev wSh (s : Nat) : List (Nat × Nat × Option Nat) := [(77, 82, none)]
theorem m_sheet (h : Rel B C) (l1 l2 l3 : Int32) : Sim (fun x y => x.1 = y.1 ∧ Rel x.2 y.2 ∧ Fr [(77, 82, none)] B x.2) (fX10_sheet B l1 l2 l3) (fX11_sheet C l1 l2 l3) := by
  obtain ⟨h1, h2, h3, h4, h5, h6, h7, h8, h9, h10⟩ := id h
  unfold fX10_sheet fX11_sheet
  refine Sim.ii Iff.rfl (fun _ => Sim.rt ⟨rfl, h, Fr.rf⟩) (fun q1 => Sim.ii Iff.rfl (fun _ => Sim.rt ⟨rfl, h, Fr.rf⟩) (fun q2 => ?_))
  obtain ⟨s, hs, rfl⟩ := wn_n (n := 3) rfl q1
  have v : vp_in (nI s) 4 := vp_in_nI (by omega) (by omega)
  refine Sim.ii Iff.rfl (fun q3 => ?_) (fun q3 => ?_)
  · subst q3
    obtain ⟨x, e1, a1, fB, a2, a3, a4, a5⟩ := r_renew (B := B) (l2 := -1) (l3 := 0) (show s < 4 by omega)
    rw [e1, jx_n (by omega)]
    refine Sim.bl rfl <| Sim.gr v <| Sim.rt ⟨a1, ?_, fB⟩
    show Rel x.2 (va_up C 127 (upd (C 127) s (-1)))
    have fC : Fr [(127, 127, none)] C (va_up C 127 (upd (C 127) s (-1))) := Fr.one rfl
    refine ⟨h1.fr fB fC rfl rfl, h2.fr fB fC rfl rfl, h3.fr fB fC rfl rfl, h4.fr fB fC rfl rfl, h5.fr fB fC rfl rfl, h6.fr fB fC rfl rfl, h7.fr fB fC rfl rfl, h8.fr fB fC rfl rfl, h9.fr fB fC rfl rfl, fun t ht => ?_⟩
    show upd (C 127) s (-1) t = x.2 81 t ∧ _
    by_cases e : t = s
    · subst e
      rw [upd_at, a2]
      exact ⟨rfl, Or.inl rfl⟩
    · obtain ⟨b1, b2, b3⟩ := a5 t ht e
      rw [upd_ne e, b1, b2, b3]
      exact h10 t ht
  · refine Sim.ii Iff.rfl (fun q4 => ?_) (fun _ => Sim.rt ⟨rfl, h, Fr.rf⟩)
    refine Sim.ii Iff.rfl (fun q5 => ?_) (fun _ => Sim.rt ⟨rfl, h, Fr.rf⟩)
    obtain ⟨n, hn, rfl⟩ := nI_of2 (M := 40) (n := 40) (by decide) (by rw [i32_lt_nle]; exact fun z => z q5) q4
    have hk : ∃ k, k < 3 ∧ l2 = nI k := by
      have r1 := (wn1 q2).1
      have r2 := (wn1 q2).2
      obtain ⟨k, hk, rfl⟩ := nI_of2 (x := l2) (M := 2) (n := 2) (by decide) (by
        intro z
        apply q3
        rw [Int32.lt_iff_toInt_lt] at z r1
        apply Int32.toInt_inj.mp
        have : (0 : Int32).toInt = 0 := by decide
        have : (-1 : Int32).toInt = -1 := by decide
        omega) (i32_nlt r2)
      exact ⟨k, by omega, rfl⟩
    obtain ⟨k, hk, rfl⟩ := hk
    obtain ⟨x, e1, a1, fB, a2, a3, a4, a5⟩ := r_renew (B := B) (l2 := nI k) (l3 := nI n) (show s < 4 by omega)
    rw [e1, jx_n (by omega)]
    refine Sim.bl rfl <| Sim.gr v <| Sim.br rfl <| Sim.gr v <| Sim.br rfl ?_
    generalize hM : va_up (va_up C 127 (upd (C 127) s (nI k))) 128 (upd (C 128) s (nI n)) = M
    have fM : Fr [(127, 128, none)] C M := by
      rw [← hM]
      exact Fr.up (Fr.up Fr.rf (FrC.up FrC.bs rfl)) (FrC.up FrC.bs rfl)
    have hl : Run (fun A2 => Fr [(129, 129, none)] M A2 ∧ (∀ j, j < n → A2 129 (40 * s + j) = 0) ∧ ∀ t j, t < 4 → t ≠ s → j < 40 → A2 129 (40 * t + j) = C 129 (40 * t + j)) (jwh (cX11_sheet_66 (nI s) (nI n)) ((0 : Int32), M)) := by
      refine Run.up n (fun m z => z.1 = nI m ∧ Fr [(129, 129, none)] M z.2 ∧ (∀ j, j < m → z.2 129 (40 * s + j) = 0) ∧ ∀ t j, t < 4 → t ≠ s → j < 40 → z.2 129 (40 * t + j) = C 129 (40 * t + j)) ?_ ?_ (Nat.zero_le _) ⟨rfl, Fr.rf, fun j hj => absurd hj (Nat.not_lt_zero _), fun t j _ _ _ => by show M 129 _ = _; rw [fM 129 _ rfl]⟩
      · rintro m ⟨s1, S⟩ hm ⟨e, hS, p1, p2⟩
        have e : s1 = nI m := e
        subst e
        have hS : Fr [(129, 129, none)] M S := hS
        have e4 : (40 : Int32) * nI s + nI m = nI (40 * s + m) := by rw [lit_n 40, pk_mul, nI_add]
        unfold cX11_sheet_66
        simp only [e4, jx_n (show 40 * s + m < 2 ^ 31 by omega)]
        refine Run.im (nI_ge hm (by omega)) <| Run.g (vp_in_nI (by omega) (by omega)) <| Run.rt ⟨nI_1 m, Fr.up hS (FrC.up FrC.bs rfl), fun j hj => ?_, fun t j ht hne hj => ?_⟩
        · show upd (S 129) (40 * s + m) 0 (40 * s + j) = 0
          by_cases e : j = m
          · subst e; exact upd_at
          · rw [upd_ne (by omega)]
            exact p1 j (by omega)
        · show upd (S 129) (40 * s + m) 0 (40 * t + j) = _
          rw [upd_ne (by omega)]
          exact p2 t j ht hne hj
      · rintro ⟨s1, S⟩ ⟨e, hS, p1, p2⟩
        have e : s1 = nI n := e
        subst e
        unfold cX11_sheet_66
        exact Run.ip (nI_le (Nat.le_refl _) (by omega)) <| Run.rt ⟨hS, p1, p2⟩
    obtain ⟨A2, e2, f2, p1, p2⟩ := hl
    show Sim _ _ (Option.bind (jwh (cX11_sheet_66 (nI s) (nI n)) ((0 : Int32), va_up (va_up C 127 (upd (C 127) s (nI k))) 128 (upd (C 128) s (nI n)))) _)
    rw [hM]
    refine Sim.br e2 <| Sim.rt ⟨a1, ?_, fB⟩
    show Rel x.2 A2
    have fC : Fr [(127, 129, none)] C A2 := (fM.wd rfl).tr (f2.wd rfl)
    refine ⟨h1.fr fB fC rfl rfl, h2.fr fB fC rfl rfl, h3.fr fB fC rfl rfl, h4.fr fB fC rfl rfl, h5.fr fB fC rfl rfl, h6.fr fB fC rfl rfl, h7.fr fB fC rfl rfl, h8.fr fB fC rfl rfl, h9.fr fB fC rfl rfl, fun t ht => ?_⟩
    have m1 : A2 127 t = upd (C 127) s (nI k) t := by rw [f2 127 t rfl, ← hM]; rfl
    have m2 : A2 128 t = upd (C 128) s (nI n) t := by rw [f2 128 t rfl, ← hM]; rfl
    rw [m1, m2]
    by_cases e : t = s
    · subst e
      rw [upd_at, upd_at, a2, a3]
      exact ⟨rfl, Or.inr ⟨k, n, hk, hn, rfl, rfl, rfl, fun i hi => by rw [p1 i hi, a4 i (by omega)]⟩⟩
    · obtain ⟨b1, b2, b3⟩ := a5 t ht e
      rw [upd_ne e, upd_ne e, b1, b2, b3]
      obtain ⟨c1, c2⟩ := h10 t ht
      refine ⟨c1, c2.imp id ?_⟩
      rintro ⟨k', n', d1, d2, d3, d4, d5, d6⟩
      exact ⟨k', n', d1, d2, d3, d4, d5, fun i hi => by rw [p2 t i ht e (by omega)]; exact d6 i hi⟩
theorem rel_cell (h : Rel B C) {s i n k : Nat} {x : Int32} (hs : s < 4) (hi : i < n) (hn : n ≤ 40) (e81 : B 81 s = nI k) (hk : k < 3) (e82 : B 82 s = nI n) : Rel (va_up B (77 + s) (upd (B (77 + s)) i x)) (va_up C 129 (upd (C 129) (40 * s + i) x)) ∧ Fr [(77, 82, none)] B (va_up B (77 + s) (upd (B (77 + s)) i x)) := by
  obtain ⟨h1, h2, h3, h4, h5, h6, h7, h8, h9, h10⟩ := id h
  have fB : Fr [(77, 82, none)] B (va_up B (77 + s) (upd (B (77 + s)) i x)) := Fr.up Fr.rf (FrC.al fun j => inW_rng (lo := 77) (hi := 82) rfl (by omega) (by omega))
  have fC : Fr [(129, 129, none)] C (va_up C 129 (upd (C 129) (40 * s + i) x)) := Fr.one rfl
  refine ⟨⟨h1.fr fB fC rfl rfl, h2.fr fB fC rfl rfl, h3.fr fB fC rfl rfl, h4.fr fB fC rfl rfl, h5.fr fB fC rfl rfl, h6.fr fB fC rfl rfl, h7.fr fB fC rfl rfl, h8.fr fB fC rfl rfl, h9.fr fB fC rfl rfl, fun t ht => ?_⟩, fB⟩
  have e1 : va_up B (77 + s) (upd (B (77 + s)) i x) 81 = B 81 := ju_ne _ _ (by omega)
  have e2 : va_up B (77 + s) (upd (B (77 + s)) i x) 82 = B 82 := ju_ne _ _ (by omega)
  rw [e1, e2]
  obtain ⟨c1, c2⟩ := h10 t ht
  refine ⟨c1, c2.imp id ?_⟩
  rintro ⟨k', n', d1, d2, d3, d4, d5, d6⟩
  refine ⟨k', n', d1, d2, d3, d4, d5, fun j hj => ?_⟩
  show upd (C 129) (40 * s + i) x (40 * t + j) = _
  by_cases e : t = s
  · subst e
    rw [ju_same]
    by_cases ej : j = i
    · subst ej; rw [upd_at, upd_at]
    · rw [upd_ne (by omega), upd_ne ej]; exact d6 j hj
  · rw [ju_ne _ _ (by omega), upd_ne (by omega)]
    exact d6 j hj
theorem m_cell (h : Rel B C) (l1 l2 l3 : Int32) : Sim (fun x y => x.1 = y.1 ∧ Rel x.2 y.2 ∧ Fr [(77, 82, none)] B x.2) (fX10_cell B l1 l2 l3) (fX11_cell C l1 l2 l3) := by
  have h10 := h.2.2.2.2.2.2.2.2.2
  unfold fX10_cell fX11_cell
  refine Sim.ii Iff.rfl (fun _ => Sim.rt ⟨rfl, h, Fr.rf⟩) (fun q1 => ?_)
  obtain ⟨s, hs, rfl⟩ := wn_n (n := 3) rfl q1
  have v : vp_in (nI s) 4 := vp_in_nI (by omega) (by omega)
  rw [jx_n (by omega)]
  refine Sim.gl v <| Sim.gr v <| Sim.ix (sh_neg h10 (by omega)) (fun _ => Sim.rt ⟨rfl, h, Fr.rf⟩) (fun q2 => ?_)
  obtain ⟨a1, k, n, a2, a3, a4, a5, a6, a7⟩ := sh_some h10 (show s < 4 by omega) q2
  rw [a5, a6]
  refine Sim.gl v <| Sim.gr v <| Sim.ii Iff.rfl (fun _ => Sim.rt ⟨rfl, h, Fr.rf⟩) (fun q3 => ?_)
  obtain ⟨i, hi, rfl⟩ := wn_m (by omega) q3
  have e4 : (40 : Int32) * nI s + nI i = nI (40 * s + i) := by rw [lit_n 40, pk_mul, nI_add]
  have vi : vp_in (nI i) 40 := vp_in_nI (by omega) (by omega)
  have v2 : vp_in (nI (40 * s + i)) 160 := vp_in_nI (by omega) (by omega)
  unfold fX7_write
  rw [e4, jx_n (by omega), jx_n (by omega), jx_n (by omega), a1]
  refine Sim.bg v <| Sim.gr v ?_
  by_cases q4 : B 81 s = 0
  · rw [if_pos q4]
    exact Sim.bg v <| Sim.bg vi <| Sim.ipr q4 <| Sim.gr v2 <| Sim.rt ⟨rfl, rel_cell h (by omega) hi a3 a4 a2 a5⟩
  · rw [if_neg q4]
    refine Sim.bg v <| Sim.bg v <| Sim.imr q4 <| Sim.gr v ?_
    by_cases q5 : B 81 s = 1
    · rw [if_pos q5]
      exact Sim.bg vi <| Sim.ipr q5 <| Sim.gr v2 <| Sim.rt ⟨rfl, rel_cell h (by omega) hi a3 a4 a2 a5⟩
    · rw [if_neg q5]
      exact Sim.bg vi <| Sim.imr q5 <| Sim.gr v2 <| Sim.rt ⟨rfl, rel_cell h (by omega) hi a3 a4 a2 a5⟩
/-- holds, both ways -/
theorem holds_n {s z i n : Nat} (hs : s < 4) (e : B 82 s = nI z) (hz : z ≤ 40) (hi : i < 2 ^ 31) (hn : n < 2 ^ 31) : fX7_holds B (nI s) (nI i) (nI n) = some (if z < i + n then 0 else 1) := by
  unfold fX7_holds
  rw [if_neg (nI_pos hn), if_neg (nI_pos hi), jgd_t (vp_in_nI hs (by omega)), jx_n (by omega), e]
  have t : (nI z - nI n).toInt = (z : Int) - n := by rw [fb_subI (by rw [nI_toInt (by omega), nI_toInt hn]; omega) (by rw [nI_toInt (by omega), nI_toInt hn]; omega), nI_toInt (by omega), nI_toInt hn]
  by_cases q : z < i + n
  · rw [if_pos q, if_pos (by rw [Int32.lt_iff_toInt_lt, t, nI_toInt hi]; omega)]
  · rw [if_neg q, if_neg (by rw [Int32.lt_iff_toInt_lt, t, nI_toInt hi]; omega)]
theorem holds_bad {s : Nat} {i n : Int32} (h : n < 0 ∨ i < 0) : fX7_holds B (nI s) i n = some 0 := by
  unfold fX7_holds
  by_cases q : n < 0
  · rw [if_pos q]
  · rw [if_neg q]
    rcases h with h | h
    · exact absurd h q
    · rw [if_pos h]
theorem cmp_in {i n z : Nat} (hi : i < 2 ^ 31) (hn : n < 2 ^ 31) (hz : z ≤ 40) : 0 < lg_cmp ((nI i).toInt64 + (nI n).toInt64) ((nI z).toInt64) ↔ z < i + n := by
  rw [cmp_gt, nI_l hi, nI_l hn, nI_l (by omega), lN_add, pk_lLT (by omega) (by omega)]
theorem m_copy (h : Rel B C) (l1 l2 l3 l4 l5 : Int32) : Sim (fun x y => x.1 = y.1 ∧ Rel x.2 y.2 ∧ Fr [(77, 82, none)] B x.2) (fX10_copy B l1 l2 l3 l4 l5) (fX11_copy C l1 l2 l3 l4 l5) := by
  obtain ⟨h1, h2, h3, h4, h5, h6, h7, h8, h9, h10⟩ := id h
  have no : ∀ c : Int32, (fun (x y : Int32 × jA3) => x.1 = y.1 ∧ Rel x.2 y.2 ∧ Fr [(77, 82, none)] B x.2) (c, B) (c, C) := fun c => ⟨rfl, h, Fr.rf⟩
  unfold fX10_copy fX11_copy
  refine Sim.ii Iff.rfl (fun _ => Sim.rt (no _)) (fun q1 => Sim.ii Iff.rfl (fun _ => Sim.rt (no _)) (fun q2 => ?_))
  obtain ⟨s, hs, rfl⟩ := wn_n (n := 3) rfl q1
  obtain ⟨o, ho, rfl⟩ := wn_n (n := 3) rfl q2
  have v : vp_in (nI s) 4 := vp_in_nI (by omega) (by omega)
  have vo : vp_in (nI o) 4 := vp_in_nI (by omega) (by omega)
  rw [jx_n (show s < 2 ^ 31 by omega), jx_n (show o < 2 ^ 31 by omega)]
  refine Sim.gl v <| Sim.gr v <| Sim.ii (sh_neg2 h10 (by omega)) (fun _ => Sim.rt (no _)) (fun q3 => ?_)
  refine Sim.gl vo <| Sim.gr vo <| Sim.ix (sh_neg h10 (by omega)) (fun _ => Sim.rt (no _)) (fun q4 => ?_)
  obtain ⟨a1, k, z, a2, a3, a4, a5, a6, a7⟩ := sh_some h10 (show s < 4 by omega) q3
  obtain ⟨b1, k', z', b2, b3, b4, b5, b6, b7⟩ := sh_some h10 (show o < 4 by omega) q4
  refine Sim.gl v <| Sim.gl vo <| Sim.gr v <| Sim.gr vo <| Sim.ii (by rw [a1, b1]) (fun q5 => ?_) (fun _ => Sim.rt (no _))
  rw [a6, b6]
  by_cases hn : l5 < 0
  · rw [holds_bad (Or.inl hn)]
    exact Sim.bl rfl <| Sim.ipl rfl <| Sim.ipr hn <| Sim.rt (no _)
  · refine Sim.imr hn ?_
    obtain ⟨n, hn2, rfl⟩ := nI_of hn
    by_cases hi : l2 < 0
    · rw [holds_bad (Or.inr hi)]
      exact Sim.bl rfl <| Sim.ipl rfl <| Sim.ipr hi <| Sim.rt (no _)
    · refine Sim.imr hi ?_
      obtain ⟨i, hi2, rfl⟩ := nI_of hi
      rw [holds_n (show s < 4 by omega) a5 a3 hi2 hn2]
      refine Sim.bl rfl ?_
      by_cases hc : z < i + n
      · refine Sim.ipl (by rw [if_pos hc]) <| Sim.ir (fun _ => Sim.rt (no _)) (fun _ => Sim.gr v <| Sim.ipr ((cmp_in hi2 hn2 a3).mpr hc) <| Sim.rt (no _))
      · refine Sim.iml (by rw [if_neg hc]; decide) ?_
        by_cases hj : l4 < 0
        · rw [holds_bad (Or.inr hj)]
          exact Sim.bl rfl <| Sim.ipl rfl <| Sim.ipr hj <| Sim.rt (no _)
        · refine Sim.imr hj <| Sim.gr v <| Sim.imr (fun w => hc ((cmp_in hi2 hn2 a3).mp w)) <| Sim.gr vo ?_
          obtain ⟨j, hj2, rfl⟩ := nI_of hj
          rw [holds_n (show o < 4 by omega) b5 b3 hj2 hn2]
          refine Sim.bl rfl ?_
          by_cases hd : z' < j + n
          · refine Sim.ipl (by rw [if_pos hd]) <| Sim.imr (fun w => ?_) <| Sim.rt (no _)
            have w2 := (cmp_in hj2 hn2 b3).mpr hd
            rw [i32_lt_nle] at w2
            exact w2 w
          · refine Sim.iml (by rw [if_neg hd]; decide) <| Sim.ipr ?_ ?_
            · refine Decidable.byContradiction fun w => hd ((cmp_in hj2 hn2 b3).mp (i32_nle w))
            · have jc : jcp (nI i) (nI j) (nI n) 40 40 := by
                refine ⟨hi, hj, hn, ?_, ?_⟩
                · rw [nI_clamp hi2, nI_clamp hn2]; omega
                · rw [nI_clamp hj2, nI_clamp hn2]; omega
              rw [jx_n hi2, jx_n hj2, jx_n hn2]
              have hl1 : Run (fun A2 => Fr [(130, 130, none)] C A2 ∧ ∀ q, q < n → A2 130 q = C 129 (40 * s + i + q)) (jwh (cX11_copy_111 (nI s) (nI i) (nI o) (nI j) (nI n)) ((0 : Int32), C)) := by
                refine Run.up n (fun m t => t.1 = nI m ∧ Fr [(130, 130, none)] C t.2 ∧ ∀ q, q < m → t.2 130 q = C 129 (40 * s + i + q)) ?_ ?_ (Nat.zero_le _) ⟨rfl, Fr.rf, fun q hq => absurd hq (Nat.not_lt_zero _)⟩
                · rintro m ⟨s1, S⟩ hm ⟨e, hS, p1⟩
                  have e : s1 = nI m := e
                  subst e
                  have hS : Fr [(130, 130, none)] C S := hS
                  have e4 : (40 : Int32) * nI s + nI i + nI m = nI (40 * s + i + m) := by rw [lit_n 40, pk_mul, nI_add, nI_add]
                  have e5 : S 129 (40 * s + i + m) = C 129 (40 * s + i + m) := hS 129 _ rfl
                  unfold cX11_copy_111
                  simp only [e4, jx_n (show 40 * s + i + m < 2 ^ 31 by omega), jx_n (show m < 2 ^ 31 by omega), e5]
                  refine Run.im (nI_ge hm (by omega)) <| Run.g (vp_in_nI (by omega) (by omega)) <| Run.g (vp_in_nI (by omega) (by omega)) <| Run.rt ⟨nI_1 m, Fr.up hS (FrC.up FrC.bs rfl), fun q hq => ?_⟩
                  show upd (S 130) m (C 129 (40 * s + i + m)) q = _
                  by_cases e : q = m
                  · subst e; exact upd_at
                  · rw [upd_ne e]; exact p1 q (by omega)
                · rintro ⟨s1, S⟩ ⟨e, hS, p1⟩
                  have e : s1 = nI n := e
                  subst e
                  unfold cX11_copy_111
                  exact Run.ip (nI_le (Nat.le_refl _) (by omega)) <| Run.rt ⟨hS, p1⟩
              obtain ⟨A2, e2, f2, p1⟩ := hl1
              have hl2 : Run (fun A3 => Fr [(129, 129, none)] A2 A3 ∧ ∀ q, A3 129 q = if 40 * o + j ≤ q ∧ q < 40 * o + j + n then C 129 (40 * s + i + (q - (40 * o + j))) else C 129 q) (jwh (cX11_copy_148 (nI o) (nI j) (nI n)) ((0 : Int32), A2)) := by
                refine Run.up n (fun m t => t.1 = nI m ∧ Fr [(129, 129, none)] A2 t.2 ∧ ∀ q, t.2 129 q = if 40 * o + j ≤ q ∧ q < 40 * o + j + m then C 129 (40 * s + i + (q - (40 * o + j))) else C 129 q) ?_ ?_ (Nat.zero_le _) ⟨rfl, Fr.rf, fun q => by rw [if_neg (by omega)]; exact f2 129 q rfl⟩
                · rintro m ⟨s1, S⟩ hm ⟨e, hS, p2⟩
                  have e : s1 = nI m := e
                  subst e
                  have hS : Fr [(129, 129, none)] A2 S := hS
                  have e4 : (40 : Int32) * nI o + nI j + nI m = nI (40 * o + j + m) := by rw [lit_n 40, pk_mul, nI_add, nI_add]
                  have e5 : S 130 m = C 129 (40 * s + i + m) := by rw [hS 130 m rfl]; exact p1 m hm
                  unfold cX11_copy_148
                  simp only [e4, jx_n (show 40 * o + j + m < 2 ^ 31 by omega), jx_n (show m < 2 ^ 31 by omega), e5]
                  refine Run.im (nI_ge hm (by omega)) <| Run.g (vp_in_nI (by omega) (by omega)) <| Run.g (vp_in_nI (by omega) (by omega)) <| Run.rt ⟨nI_1 m, Fr.up hS (FrC.up FrC.bs rfl), fun q => ?_⟩
                  show upd (S 129) (40 * o + j + m) (C 129 (40 * s + i + m)) q = _
                  by_cases e : q = 40 * o + j + m
                  · subst e
                    rw [upd_at, if_pos (by omega)]
                    congr 1
                    omega
                  · rw [upd_ne e]
                    refine (p2 q).trans ?_
                    by_cases w : 40 * o + j ≤ q ∧ q < 40 * o + j + m
                    · rw [if_pos w, if_pos (by omega)]
                    · rw [if_neg w, if_neg (by omega)]
                · rintro ⟨s1, S⟩ ⟨e, hS, p2⟩
                  have e : s1 = nI n := e
                  subst e
                  unfold cX11_copy_148
                  exact Run.ip (nI_le (Nat.le_refl _) (by omega)) <| Run.rt ⟨hS, p2⟩
              obtain ⟨A3, e3, f3, p2⟩ := hl2
              refine Sim.gl v <| Sim.gl vo <| Sim.gl jc <| Sim.br e2 <| Sim.br e3 <| Sim.rt ?_
              show _ = _ ∧ Rel (va_up B (77 + o) (va_cpy (B (77 + s)) (B (77 + o)) i j n)) A3 ∧ Fr [(77, 82, none)] B (va_up B (77 + o) (va_cpy (B (77 + s)) (B (77 + o)) i j n))
              have fB : Fr [(77, 82, none)] B (va_up B (77 + o) (va_cpy (B (77 + s)) (B (77 + o)) i j n)) := Fr.up Fr.rf (FrC.al fun j => inW_rng (lo := 77) (hi := 82) rfl (by omega) (by omega))
              have fC : Fr [(129, 130, none)] C A3 := (f2.wd rfl).tr (f3.wd rfl)
              refine ⟨rfl, ⟨h1.fr fB fC rfl rfl, h2.fr fB fC rfl rfl, h3.fr fB fC rfl rfl, h4.fr fB fC rfl rfl, h5.fr fB fC rfl rfl, h6.fr fB fC rfl rfl, h7.fr fB fC rfl rfl, h8.fr fB fC rfl rfl, h9.fr fB fC rfl rfl, fun t ht => ?_⟩, fB⟩
              have x1 : va_up B (77 + o) (va_cpy (B (77 + s)) (B (77 + o)) i j n) 81 = B 81 := ju_ne _ _ (by omega)
              have x2 : va_up B (77 + o) (va_cpy (B (77 + s)) (B (77 + o)) i j n) 82 = B 82 := ju_ne _ _ (by omega)
              rw [x1, x2, fC 127 t rfl, fC 128 t rfl]
              obtain ⟨c1, c2⟩ := h10 t ht
              refine ⟨c1, c2.imp id ?_⟩
              rintro ⟨k2, n2, d1, d2, d3, d4, d5, d6⟩
              refine ⟨k2, n2, d1, d2, d3, d4, d5, fun q hq => ?_⟩
              rw [p2]
              by_cases e : t = o
              · subst e
                have en : n2 = z' := by
                  rw [b5, nI_eq (by omega) (by omega)] at d4
                  omega
                rw [ju_same]
                by_cases w : j ≤ q ∧ q < j + n
                · rw [if_pos (by omega), pk_cpy_in w.1 w.2, show 40 * t + q - (40 * t + j) = q - j by omega, Nat.add_assoc]
                  exact a7 _ (by omega)
                · rw [if_neg (by omega), pk_cpy_out (by omega)]
                  exact d6 q hq
              · rw [ju_ne _ _ (by omega), if_neg (by omega)]
                exact d6 q hq
theorem m_sayingsBy (h : Rel B C) (l1 l2 l3 l4 : Int32) : Sim (fun x y => x.1 = y.1 ∧ Rel x.2 y.2) (fX10_sayingsBy B l1 l2 l3 l4) (fX11_sayingsBy C l1 l2 l3 l4) := by
  have h10 := h.2.2.2.2.2.2.2.2.2
  unfold fX10_sayingsBy fX11_sayingsBy
  refine Sim.ii Iff.rfl (fun _ => Sim.rt ⟨rfl, h⟩) (fun q1 => Sim.ii Iff.rfl (fun _ => Sim.rt ⟨rfl, h⟩) (fun q2 => Sim.ii Iff.rfl (fun _ => Sim.rt ⟨rfl, h⟩) (fun q3 => ?_)))
  obtain ⟨s, hs, rfl⟩ := wn_n (n := 3) rfl q1
  obtain ⟨n, hn, rfl⟩ := wn_n (n := 8) rfl q3
  have v : vp_in (nI s) 4 := vp_in_nI (by omega) (by omega)
  rw [jx_n (by omega)]
  refine Sim.gl v <| Sim.gr v <| Sim.ix (sh_neg h10 (by omega)) (fun _ => Sim.rt ⟨rfl, h⟩) (fun q4 => ?_)
  obtain ⟨a1, k, z, a2, a3, a4, a5, a6, a7⟩ := sh_some h10 (show s < 4 by omega) q4
  refine Sim.gl v <| Sim.gr v <| Sim.ii (by rw [a1]) (fun _ => Sim.gl v ?_) (fun _ => Sim.rt ⟨rfl, h⟩)
  have hs2 : Sim (fun x y => (∃ c S T, x = .inl (c, S) ∧ y = .inl (c, T) ∧ Rel S T) ∨ ∃ c S T, x = .inr (c, S) ∧ y = .inr (c, T) ∧ Rel S T) (jwh (cX10_sayingsBy_81 (nI s) l3 (nI n) (77 + s)) ((0 : Int32), (0 : Int32), B)) (jwh (cX11_sayingsBy_61 (nI s) l3 (nI n)) ((0 : Int32), (0 : Int32), C)) := by
    refine Sim.up n (fun m x y => x.1 = y.1 ∧ x.2.1 = nI m ∧ y.2.1 = nI m ∧ Rel x.2.2 y.2.2 ∧ Fr [(16, 16, some 5), (44, 46, none)] B x.2.2 ∧ Fr [(94, 94, some 21), (105, 107, none)] C y.2.2) ?_ ?_ (Nat.zero_le _) ⟨rfl, rfl, rfl, h, Fr.rf, Fr.rf⟩
    · rintro m ⟨x1, x2, S⟩ ⟨y1, y2, T⟩ hm ⟨e1, e2, e3, hR, hS, hT⟩
      have e1 : x1 = y1 := e1
      have e2 : x2 = nI m := e2
      have e3 : y2 = nI m := e3
      subst e1 e2 e3
      have hR : Rel S T := hR
      have hS : Fr [(16, 16, some 5), (44, 46, none)] B S := hS
      have hT : Fr [(94, 94, some 21), (105, 107, none)] C T := hT
      have s82 : S 82 s = nI z := by rw [hS 82 s rfl]; exact a5
      have t128 : T 128 s = nI z := by rw [hT 128 s rfl]; exact a6
      have s77 : ∀ j, S (77 + s) j = B (77 + s) j := fun j => hS.at (l := [(77, 80, none)]) rfl _ j (inW_rng (lo := 77) (hi := 80) rfl (by omega) (by omega))
      have t129 : ∀ j, T 129 j = C 129 j := fun j => hT 129 j rfl
      have e3m : (3 : Int32) * nI m = nI (3 * m) := by rw [lit_n 3, pk_mul]
      have rng := fb_rng l3
      have l64 : (l3.toInt64 + (nI (3 * m)).toInt64).toInt = l3.toInt + 3 * m := by
        rw [fb_addL (by rw [Int32.toInt_toInt64, Int32.toInt_toInt64, nI_toInt (by omega)]; omega) (by rw [Int32.toInt_toInt64, Int32.toInt_toInt64, nI_toInt (by omega)]; omega), Int32.toInt_toInt64, Int32.toInt_toInt64, nI_toInt (by omega)]
        omega
      unfold cX10_sayingsBy_81 cX11_sayingsBy_61
      simp only [e3m]
      have out : Sim (SR (fun (x y : Int32 × Int32 × jA3) => x.1 = y.1 ∧ x.2.1 = nI (m + 1) ∧ y.2.1 = nI (m + 1) ∧ Rel x.2.2 y.2.2 ∧ Fr [(16, 16, some 5), (44, 46, none)] B x.2.2 ∧ Fr [(94, 94, some 21), (105, 107, none)] C y.2.2) (fun (x y : (Int32 × jA3) ⊕ (Int32 × jA3)) => (∃ c S T, x = .inl (c, S) ∧ y = .inl (c, T) ∧ Rel S T) ∨ ∃ c S T, x = .inr (c, S) ∧ y = .inr (c, T) ∧ Rel S T)) (some (Sum.inr (Sum.inr ((-12 : Int32), S)))) (some (Sum.inr (Sum.inr ((-12 : Int32), T)))) := Sim.rt (Or.inr ⟨-12, S, T, rfl, rfl, hR⟩)
      refine Sim.iml (nI_ge hm (by omega)) <| Sim.imr (nI_ge hm (by omega)) ?_
      have ez : (0 : Int64).toInt = 0 := by decide
      by_cases w1 : l3.toInt + 3 * m < 0
      · have w2 : l3 + nI (3 * m) < 0 := by
          rw [Int32.lt_iff_toInt_lt, fb_addI (by rw [nI_toInt (by omega)]; omega) (by rw [nI_toInt (by omega)]; omega), nI_toInt (by omega)]
          have : (0 : Int32).toInt = 0 := by decide
          omega
        rw [holds_bad (Or.inr w2)]
        refine Sim.bl rfl <| Sim.ipl rfl <| Sim.ipr ?_ out
        rw [cmp_lt, Int64.lt_iff_toInt_lt, l64]
        omega
      · refine Sim.imr ?_ <| Sim.gr v ?_
        · rw [cmp_lt, Int64.lt_iff_toInt_lt, l64]
          omega
        · rw [jx_n (show s < 2 ^ 31 by omega), t128]
          have l64b : (l3.toInt64 + (nI (3 * m)).toInt64 + 2).toInt = l3.toInt + 3 * m + 2 := by
            have : (2 : Int64).toInt = 2 := by decide
            rw [fb_addL (by rw [l64]; omega) (by rw [l64]; omega), l64, this]
          have hc : lg_cmp (l3.toInt64 + (nI (3 * m)).toInt64 + 2) ((nI z).toInt64) < 0 ↔ l3.toInt + 3 * m + 2 < z := by
            rw [cmp_lt, Int64.lt_iff_toInt_lt, l64b, Int32.toInt_toInt64, nI_toInt (by omega)]
          by_cases w2 : l3.toInt + 3 * m + 2 < z
          · refine Sim.ipr (hc.mpr w2) ?_
            obtain ⟨p, hp⟩ : ∃ p : Nat, (p : Int) = l3.toInt + 3 * m := ⟨(l3.toInt + 3 * m).toNat, by omega⟩
            have ep : l3 + nI (3 * m) = nI p := by
              apply Int32.toInt_inj.mp
              rw [fb_addI (by rw [nI_toInt (by omega)]; omega) (by rw [nI_toInt (by omega)]; omega), nI_toInt (by omega), nI_toInt (by omega)]
              omega
            have ep2 : (l3.toInt64 + (nI (3 * m)).toInt64).toInt32 = nI p := by
              rw [show l3.toInt64 + (nI (3 * m)).toInt64 = lN p from by
                apply Int64.toInt_inj.mp
                rw [l64, pk_lT (by omega)]
                omega]
              exact lN_i p
            have e4 : (40 : Int32) * nI s + nI p = nI (40 * s + p) := by rw [lit_n 40, pk_mul, nI_add]
            have hh3 : fX7_holds S (nI s) (nI p) 3 = some (if z < p + 3 then 0 else 1) := holds_n (n := 3) (show s < 4 by omega) s82 a3 (show p < 2 ^ 31 by omega) (by omega)
            rw [ep, ep2, hh3, if_neg (by omega)]
            have pp1 : nI p + 1 = nI (p + 1) := nI_1 p
            have pp2 : nI p + 2 = nI (p + 2) := by rw [lit_n 2, nI_add]
            have qq1 : nI (40 * s + p) + 1 = nI (40 * s + (p + 1)) := by rw [nI_1, Nat.add_assoc]
            have qq2 : nI (40 * s + p) + 2 = nI (40 * s + (p + 2)) := by rw [lit_n 2, nI_add, Nat.add_assoc]
            rw [e4, pp1, pp2, qq1, qq2, jx_n (show p < 2 ^ 31 by omega), jx_n (show p + 1 < 2 ^ 31 by omega), jx_n (show p + 2 < 2 ^ 31 by omega), jx_n (show 40 * s + p < 2 ^ 31 by omega), jx_n (show 40 * s + (p + 1) < 2 ^ 31 by omega), jx_n (show 40 * s + (p + 2) < 2 ^ 31 by omega)]
            rw [t129, t129, t129, a7 p (by omega), a7 (p + 1) (by omega), a7 (p + 2) (by omega), s77, s77, s77]
            refine Sim.bl rfl <| Sim.iml (by decide) <| Sim.gl (vp_in_nI (by omega) (by omega)) <| Sim.gl (vp_in_nI (by omega) (by omega)) <| Sim.gl (vp_in_nI (by omega) (by omega)) <| Sim.gr (vp_in_nI (by omega) (by omega)) <| Sim.gr (vp_in_nI (by omega) (by omega)) <| Sim.gr (vp_in_nI (by omega) (by omega)) ?_
            obtain ⟨x, y, f1, f2, f3, f4⟩ := m_say hR (B (77 + s) p) (B (77 + s) (p + 1)) (B (77 + s) (p + 2))
            have g1 : Fr [(16, 16, some 5), (44, 46, none)] B x.2 := hS.tr ((w_fX10_say f1).wd rfl)
            have g2 : Fr [(94, 94, some 21), (105, 107, none)] C y.2 := hT.tr ((w_fX11_say f2).wd rfl)
            exact Sim.bl f1 <| Sim.br f2 <| Sim.ii (by rw [f3]) (fun _ => Sim.rt ⟨rfl, nI_1 m, nI_1 m, f4, g1, g2⟩) (fun _ => Sim.rt ⟨rfl, nI_1 m, nI_1 m, f4, g1, g2⟩)
          · refine Sim.imr (fun w => w2 (hc.mp w)) ?_
            have hh : fX7_holds S (nI s) (l3 + nI (3 * m)) 3 = some 0 := by
              by_cases w3 : l3 + nI (3 * m) < 0
              · exact holds_bad (Or.inr w3)
              · obtain ⟨p, hp, ep⟩ := nI_of w3
                have tp : (l3 + nI (3 * m)).toInt = (p : Int) := by rw [ep, nI_toInt hp]
                rw [ep]
                refine (holds_n (n := 3) (show s < 4 by omega) s82 a3 hp (by omega)).trans ?_
                rw [if_pos]
                have tb : (l3 + nI (3 * m)).toInt = (l3.toInt + 3 * m).bmod (2 ^ 32) := by rw [Int32.toInt_add, nI_toInt (by omega)]; rfl
                rw [tb, Int.bmod_def] at tp
                split at tp <;> omega
            rw [hh]
            exact Sim.bl rfl <| Sim.ipl rfl out
    · rintro ⟨x1, x2, S⟩ ⟨y1, y2, T⟩ ⟨e1, e2, e3, hR, hS, hT⟩
      have e1 : x1 = y1 := e1
      have e2 : x2 = nI n := e2
      have e3 : y2 = nI n := e3
      subst e1 e2 e3
      unfold cX10_sayingsBy_81 cX11_sayingsBy_61
      exact Sim.ipl (nI_le (Nat.le_refl _) (by omega)) <| Sim.ipr (nI_le (Nat.le_refl _) (by omega)) <| Sim.rt (Or.inl ⟨x1, S, T, rfl, rfl, hR⟩)
  obtain ⟨x, y, e1, e2, hxy⟩ := hs2
  rw [e1, e2]
  rcases hxy with ⟨c, S, T, rfl, rfl, hR⟩ | ⟨c, S, T, rfl, rfl, hR⟩
  · exact Sim.rt ⟨rfl, hR⟩
  · exact Sim.rt ⟨rfl, hR⟩
