/-! side, judge, drawn -/
variable {B C : jA3} {n : Nat} {x : Int32}
theorem in95 {i : Nat} (h : i ≠ 0) : inW ((95, 95, some 0) :: WC) 95 i = false := by
  cases i with
  | zero => exact absurd rfl h
  | succ i => rfl
theorem m_side (h : Rel B C) {L : jL3} : Sim (fun x y => x.1 = y.1 ∧ Rel x.2 y.2.1) (fX10_side B) (fX11_side C L) := by
  obtain ⟨n, hP⟩ := h.pre
  obtain ⟨h1, h2, h3, h4, h5, h6, h7, h8, h9, h10⟩ := id hP
  unfold fX10_side fX11_side
  have b5 : B 5 0 = 0 := by rw [h1.1 5 (by omega) (by omega)]; rfl
  rw [b5]
  have hs : Sim (fun s t => s.1 = t.1 ∧ Fr WB B s.2 ∧ Fr ((95, 95, some 0) :: WC) C t.2.1) (jwh cX10_side_13 ((0 : Int32), (-1 : Int64), (0 : Int32), B)) (jwh (cX11_side_16 (C 95 0)) ((0 : Int32), (-1 : Int64), (0 : Int32), C, L)) := by
    refine Sim.up 21 (fun k s t => s.1 = t.1 ∧ s.2.1 = t.2.1 ∧ s.2.2.1 = nI k ∧ t.2.2.1 = nI k ∧ Fr WB B s.2.2.2 ∧ Fr ((95, 95, some 0) :: WC) C t.2.2.2.1) ?_ ?_ (Nat.zero_le _) ⟨rfl, rfl, rfl, rfl, Fr.rf, Fr.rf⟩
    · rintro k ⟨s1, s2, s3, S⟩ ⟨t1, t2, t3, T, L2⟩ hk ⟨q1, q2, q3, q4, hS, hT⟩
      have q1 : s1 = t1 := q1
      have q2 : s2 = t2 := q2
      have q3 : s3 = nI k := q3
      have q4 : t3 = nI k := q4
      subst q1 q2 q3 q4
      have hS : Fr WB B S := hS
      have hT : Fr ((95, 95, some 0) :: WC) C T := hT
      have s6 : S 6 0 = nI 20 := by rw [hS 6 0 rfl, h1.1 6 (by omega) (by omega)]; rfl
      generalize hM : va_up T 95 (upd (T 95) 0 (nI k)) = M
      have fM : Fr ((95, 95, some 0) :: WC) C M := by
        rw [← hM]
        exact Fr.up hT (FrC.up FrC.bs rfl)
      have hP2 : Pre S M (nI k) n := by
        refine ⟨h1.fr hS fM rfl rfl, h2.fr hS fM rfl rfl, h3.fr hS fM rfl rfl, by rw [← hM]; rfl, fun i a b => ?_, ?_, by rw [hS 16 5 rfl]; exact h7, h8, by rw [fM 94 21 rfl]; exact h9, fun t ht => ?_⟩
        · rw [fM 95 i (in95 (by omega)), hS 18 i rfl]
          exact h5 i a b
        · obtain ⟨mi, m1, m2, m3⟩ := h6
          exact ⟨mi, m1, m2, by rw [hS 18 5 rfl]; exact m3⟩
        · obtain ⟨w, w1, w2, w3⟩ := h10 t ht
          exact ⟨w, w1, by rw [hS 19 t rfl]; exact w2, by rw [fM 96 t rfl]; exact w3⟩
      obtain ⟨B0, hCx, -, u, e1, a1, -⟩ := c_came hP2
      obtain ⟨v, e2, b1, -⟩ := c_cameC (L := L2) hCx
      have fu : Fr WB B u.2 := hS.tr ((w_fX6_worthAsTheyCame e1).wd rfl)
      have fv : Fr ((95, 95, some 0) :: WC) C v.2.1 := fM.tr ((w_fX11_worthOfAll e2).wd rfl)
      unfold cX10_side_13 cX11_side_16
      simp only [s6]
      refine Sim.iml (nI_nlt (by omega) (by omega)) <| Sim.imr (nI_nlt (a := 20) (b := k) (by omega) (by omega)) <| Sim.br rfl ?_
      show Sim _ _ (Option.bind (fX11_worthOfAll (va_up T 95 (upd (T 95) 0 (nI k))) L2) _)
      rw [hM]
      refine Sim.bl e1 <| Sim.br e2 <| Sim.ix (by rw [cmp_le, cmp_gt, a1, b1]) (fun _ => Sim.rt ⟨rfl, rfl, nI_1 k, nI_1 k, fu, fv⟩) (fun _ => Sim.rt ⟨rfl, by show u.1 = v.1; rw [a1, b1], nI_1 k, nI_1 k, fu, fv⟩)
    · rintro ⟨s1, s2, s3, S⟩ ⟨t1, t2, t3, T, L2⟩ ⟨q1, q2, q3, q4, hS, hT⟩
      have q3 : s3 = nI 21 := q3
      have q4 : t3 = nI 21 := q4
      subst q3 q4
      have s6 : S 6 0 = nI 20 := by rw [show S 6 0 = B 6 0 from hS 6 0 rfl, h1.1 6 (by omega) (by omega)]; rfl
      unfold cX10_side_13 cX11_side_16
      simp only [s6]
      exact Sim.ipl (nI_lt (by omega) (by omega)) <| Sim.ipr (nI_lt (a := 20) (b := 21) (by omega) (by omega)) <| Sim.rt ⟨q1, hS, hT⟩
  obtain ⟨s, t, e1, e2, a1, a2, a3⟩ := hs
  rw [e1, e2]
  refine Sim.rt ⟨a1, ?_⟩
  refine h.fr a2 (fun c j q => ?_)
  show va_up t.2.1 95 (upd (t.2.1 95) 0 (C 95 0)) c j = C c j
  by_cases e : c = 95
  · subst e
    rw [ju_same]
    by_cases ej : j = 0
    · subst ej; exact upd_at
    · rw [upd_ne ej]
      exact a3 95 j (in95 ej)
  · rw [ju_ne _ _ e]
    refine a3 c j ?_
    show (Nat.ble 95 c && Nat.ble c 95 && Nat.beq 0 j || inW WC c j) = false
    rw [q, Bool.or_false]
    cases hb : (Nat.ble 95 c && Nat.ble c 95) with
    | false => rfl
    | true =>
      simp only [Bool.and_eq_true, Nat.ble_eq] at hb
      omega
theorem m_judge (h : Rel B C) {L : jL3} (l1 : Int32) : Sim (fun x y => x.1 = y.1) (fX10_judge B l1) (fX11_judge C L l1) := by
  obtain ⟨n, hP⟩ := h.pre
  obtain ⟨h1, h2, h3, h4, h5, h6, h7, h8, h9, hw⟩ := id hP
  have h10 := h.2.2.2.2.2.2.2.2.2
  unfold fX10_judge fX11_judge
  refine Sim.ii Iff.rfl (fun _ => Sim.rt rfl) (fun q1 => ?_)
  obtain ⟨s, hs, rfl⟩ := wn_n (n := 3) rfl q1
  have v : vp_in (nI s) 4 := vp_in_nI (by omega) (by omega)
  rw [jx_n (by omega)]
  refine Sim.gl v <| Sim.gr v <| Sim.ii (sh_neg2 h10 (by omega)) (fun _ => Sim.rt rfl) (fun q2 => ?_)
  obtain ⟨a1, k, z, a2, a3, a4, a5, a6, a7⟩ := sh_some h10 (show s < 4 by omega) q2
  unfold fX6_worthByNumbers
  rw [a5, a6, h7, h9]
  refine Sim.gl v <| Sim.gl v <| Sim.gr v ?_
  by_cases hz : z ≤ n
  · rw [if_pos (nI_le hz (by omega))]
    refine Sim.ipr (nI_le hz (by omega)) <| Sim.gr v ?_
    have hs2 : Sim (fun x y => (∃ A T, x = .inl A ∧ y = .inl T ∧ Fr [(50, 50, none)] B A ∧ Fr [(94, 94, some 25), (108, 108, none)] C T ∧ T 94 25 = nI z ∧ ∃ o, Row n z o ∧ (∀ k, k < z → A 50 k = nI (o k)) ∧ ∀ k, k < z → T 108 k = nI (o k)) ∨ ∃ p q, x = .inr p ∧ y = .inr q ∧ p.1 = q.1) (jwh (cX6_worthByNumbers_17 (77 + s) 40 (nI z)) ((0 : Int32), (0 : Int32), B)) (jwh (cX11_judge_47 L (nI s)) ((0 : Int32), (0 : Int32), va_up C 94 (upd (C 94) 25 (nI z)))) := by
      refine Sim.up z (fun k s t => s.2.1 = nI k ∧ t.2.1 = nI k ∧ Fr [(50, 50, none)] B s.2.2 ∧ Fr [(94, 94, some 25), (108, 108, none)] C t.2.2 ∧ t.2.2 94 25 = nI z ∧ ∃ o m, m < 256 ∧ s.1 = nI m ∧ t.1 = nI m ∧ Row n k o ∧ (∀ i, m.testBit i = true ↔ ∃ j, j < k ∧ o j = i) ∧ (∀ j, j < k → s.2.2 50 j = nI (o j)) ∧ ∀ j, j < k → t.2.2 108 j = nI (o j)) ?_ ?_ (Nat.zero_le _) ⟨rfl, rfl, Fr.rf, Fr.up Fr.rf (FrC.up FrC.bs rfl), rfl, fun _ => 0, 0, by omega, rfl, rfl, ⟨by omega, fun k hk => absurd hk (Nat.not_lt_zero _), fun j k h1 h2 => absurd h2 (Nat.not_lt_zero _)⟩, fun i => by simp, fun j hj => absurd hj (Nat.not_lt_zero _), fun j hj => absurd hj (Nat.not_lt_zero _)⟩
      · rintro k ⟨s1, s2, S⟩ ⟨t1, t2, T⟩ hk ⟨q1, q2, hS, hT, h25, o, m, hm, q3, q4, hR, hb, p1, p2⟩
        have q1 : s2 = nI k := q1
        have q2 : t2 = nI k := q2
        have q3 : s1 = nI m := q3
        have q4 : t1 = nI m := q4
        subst q1 q2 q3 q4
        have hS : Fr [(50, 50, none)] B S := hS
        have hT : Fr [(94, 94, some 25), (108, 108, none)] C T := hT
        have h25 : T 94 25 = nI z := h25
        have p1 : ∀ j, j < k → S 50 j = nI (o j) := p1
        have p2 : ∀ j, j < k → T 108 j = nI (o j) := p2
        have s77 : S (77 + s) k = B (77 + s) k := hS.at (l := [(77, 80, none)]) rfl _ k (inW_rng (lo := 77) (hi := 80) rfl (by omega) (by omega))
        have e4 : (40 : Int32) * nI s + nI k = nI (40 * s + k) := by rw [lit_n 40, pk_mul, nI_add]
        have t129 : T 129 (40 * s + k) = B (77 + s) k := by rw [hT 129 _ rfl]; exact a7 k hk
        have s16 : S 16 5 = nI n := by rw [hS 16 5 rfl]; exact h7
        have t21 : T 94 21 = nI n := by rw [hT 94 21 rfl]; exact h9
        unfold cX6_worthByNumbers_17 cX11_judge_47 fX11_isSaying
        simp only [h25, e4, jx_n (show k < 2 ^ 31 by omega), jx_n (show 40 * s + k < 2 ^ 31 by omega), s77, t129, s16, t21]
        refine Sim.iml (nI_ge hk (by omega)) <| Sim.imr (nI_ge hk (by omega)) <| Sim.gl (vp_in_nI (by omega) (by omega)) <| Sim.gr (vp_in_nI (by omega) (by omega)) <| Sim.ii Iff.rfl (fun _ => Sim.rt (Or.inr ⟨_, _, rfl, rfl, rfl⟩)) (fun y1 => ?_)
        obtain ⟨i, hi, ei⟩ := wn_m (by omega) y1
        rw [ei]
        refine Sim.ix (bit01 (by omega) (by omega)) (fun y2 => ?_) (fun _ => Sim.rt (Or.inr ⟨_, _, rfl, rfl, rfl⟩))
        have y2' := (bit0 (show m < 2 ^ 31 by omega) (show i < 32 by omega)).mp y2
        have hne : ∀ j, j < k → o j ≠ i := fun j hj e => by
          rw [(hb i).mpr ⟨j, hj, e⟩] at y2'
          cases y2'
        have v8 : vp_in (nI k) 8 := vp_in_nI (by omega) (by omega)
        refine Sim.gl v8 <| Sim.gr v8 <| Sim.rt ⟨nI_1 k, nI_1 k, Fr.up hS (FrC.up FrC.bs rfl), Fr.up hT (FrC.up FrC.bs rfl), h25, fun j => if j = k then i else o j, m ||| 2 ^ i, or_lt (n := 8) hm (Nat.pow_lt_pow_right (by omega) (by omega)), ?_, ?_, ⟨by omega, fun j hj => ?_, fun j1 j2 x1 x2 => ?_⟩, fun q => ?_, fun j hj => ?_, fun j hj => ?_⟩
        · rw [jshl_1 (by omega), or_n]
        · rw [jshl_1 (by omega), or_n]
        · show (if j = k then i else o j) < n
          split
          · exact hi
          · exact hR.2.1 j (by omega)
        · show (if j1 = k then i else o j1) ≠ (if j2 = k then i else o j2)
          rw [if_neg (by omega)]
          split
          · exact hne j1 (by omega)
          · exact hR.2.2 j1 j2 x1 (by omega)
        · rw [or_bit, Bool.or_eq_true, hb q, decide_eq_true_eq]
          constructor
          · rintro (⟨j, w1, w2⟩ | w)
            · exact ⟨j, by omega, by show (if j = k then i else o j) = q; rw [if_neg (by omega)]; exact w2⟩
            · exact ⟨k, by omega, by show (if k = k then i else o k) = q; rw [if_pos rfl]; exact w⟩
          · rintro ⟨j, w1, w2⟩
            have w2 : (if j = k then i else o j) = q := w2
            by_cases e : j = k
            · rw [if_pos e] at w2
              exact Or.inr w2
            · rw [if_neg e] at w2
              exact Or.inl ⟨j, by omega, w2⟩
        · show upd (S 50) k (nI i) j = nI (if j = k then i else o j)
          by_cases e : j = k
          · rw [if_pos e, e, upd_at]
          · rw [if_neg e, upd_ne e]; exact p1 j (by omega)
        · show upd (T 108) k (nI i) j = nI (if j = k then i else o j)
          by_cases e : j = k
          · rw [if_pos e, e, upd_at]
          · rw [if_neg e, upd_ne e]; exact p2 j (by omega)
      · rintro ⟨s1, s2, S⟩ ⟨t1, t2, T⟩ ⟨q1, q2, hS, hT, h25, o, m, hm, q3, q4, hR, hb, p1, p2⟩
        have q1 : s2 = nI z := q1
        have q2 : t2 = nI z := q2
        subst q1 q2
        have h25 : T 94 25 = nI z := h25
        unfold cX6_worthByNumbers_17 cX11_judge_47
        simp only [h25]
        exact Sim.ipl (nI_le (Nat.le_refl _) (by omega)) <| Sim.ipr (nI_le (Nat.le_refl _) (by omega)) <| Sim.rt (Or.inl ⟨S, T, rfl, rfl, hS, hT, h25, o, hR, p1, p2⟩)
    obtain ⟨u, w, e1, e2, huw⟩ := hs2
    rw [e1, e2]
    rcases huw with ⟨A, T, rfl, rfl, fA, fT, t25, o, hR, p1, p2⟩ | ⟨p, q, rfl, rfl, hpq⟩
    · have hP2 : Pre A T (A 18 0) n := by
        refine ⟨h1.fr fA fT rfl rfl, h2.fr fA fT rfl rfl, h3.fr fA fT rfl rfl, by rw [fT 95 0 rfl, fA 18 0 rfl]; exact h4, fun i x1 x2 => by rw [fT 95 i rfl, fA 18 i rfl]; exact h5 i x1 x2, ?_, by rw [fA 16 5 rfl]; exact h7, h8, by rw [fT 94 21 rfl]; exact h9, fun t ht => ?_⟩
        · obtain ⟨mi, m1, m2, m3⟩ := h6
          exact ⟨mi, m1, m2, by rw [fA 18 5 rfl]; exact m3⟩
        · obtain ⟨w, w1, w2, w3⟩ := hw t ht
          exact ⟨w, w1, by rw [fA 19 t rfl]; exact w2, by rw [fT 96 t rfl]; exact w3⟩
      obtain ⟨B0, e3, hCx, fr, hCK⟩ := ctx_sail hP2
      obtain ⟨x, e4, c1, -⟩ := c_walk hCx Fr.rf hCK hR (fun k hk => by rw [fr 50 k rfl]; exact p1 k hk)
      obtain ⟨y, e5, d1, -⟩ := c_worth (L := L) hCx hR p2 t25
      refine Sim.bl (a := (x.1, x.2)) ?_ ?_
      · show Option.bind (fX6_sailBy A (A 18 0)) _ = _
        rw [e3]
        show Option.bind (fX6_walk B0 (nI z)) _ = _
        rw [e4]
        rfl
      · show Sim _ _ (Option.bind (fX11_worthOf T L) _)
        rw [e5]
        refine Sim.rt ?_
        show x.1 = y.1
        rw [c1, d1]
    · exact Sim.rt hpq
  · rw [if_neg (nI_ge (by omega) (by omega))]
    exact Sim.bl rfl <| Sim.imr (nI_ge (by omega) (by omega)) <| Sim.rt rfl
