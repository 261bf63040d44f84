/-! set, want, count, pass, force, say, word, mistake, print, printed, meet, taken: no loop in them -/
variable {B C : jA3}
theorem isNow_eq {k : Nat} (hk : k ≤ 5) (v : Int32) : fX10_within v (KC 5 k) (KC 6 k) = 0 ↔ fX11_isNow (nI k) v = 0 := by
  match k, hk with
  | 0, _ => unfold fX11_isNow; rw [if_pos (by decide)]; exact Iff.rfl
  | 1, _ => unfold fX11_isNow; rw [if_neg (by decide), if_pos (by decide)]; exact Iff.rfl
  | 2, _ => unfold fX11_isNow; rw [if_neg (by decide), if_neg (by decide), if_pos (by decide)]; exact Iff.rfl
  | 3, _ => unfold fX11_isNow; rw [if_neg (by decide), if_neg (by decide), if_neg (by decide), if_pos (by decide)]; exact Iff.rfl
  | 4, _ => unfold fX11_isNow; rw [if_neg (by decide), if_neg (by decide), if_neg (by decide), if_neg (by decide), if_pos (by decide)]; exact Iff.rfl
  | 5, _ => unfold fX11_isNow; rw [if_neg (by decide), if_neg (by decide), if_neg (by decide), if_neg (by decide), if_neg (by decide)]; exact Iff.rfl
theorem Fr.one {ws : List (Nat × Nat × Option Nat)} {A : jA3} {c i : Nat} {v : Int32} (h : inW ws c i = true) : Fr ws A (va_up A c (upd (A c) i v)) := Fr.up Fr.rf (FrC.up FrC.bs h)
theorem m_set (h : Rel B C) (l1 l2 : Int32) : Sim (fun x y => x.1 = y.1 ∧ Rel x.2 y.2) (fX10_set B l1 l2) (fX11_set C l1 l2) := by
  obtain ⟨h1, h2, h3, h4, h5, h6, h7, h8, h9, h10⟩ := id h
  unfold fX10_set fX11_set
  refine Sim.ii Iff.rfl (fun _ => Sim.rt ⟨rfl, h⟩) (fun q => ?_)
  obtain ⟨k, hk, rfl⟩ := wn_n (n := 5) rfl q
  have v : vp_in (nI k) 6 := vp_in_nI (by omega) (by omega)
  rw [jx_n (by omega), h1.1 5 (by omega) (by omega), h1.1 6 (by omega) (by omega)]
  refine Sim.gl v <| Sim.gl v <| Sim.ii (isNow_eq hk l2) (fun _ => Sim.rt ⟨rfl, h⟩) (fun q2 => Sim.gl v <| Sim.gl v <| Sim.gr v <| Sim.gr v ?_)
  refine Sim.rt ⟨(h2.1 k (by omega)).symm, ?_⟩
  have fB : Fr [(18, 18, none)] B (va_up B 18 (upd (B 18) k l2)) := Fr.one rfl
  have fC : Fr [(95, 95, none)] C (va_up C 95 (upd (C 95) k l2)) := Fr.one rfl
  refine ⟨h1.fr fB fC rfl rfl, ⟨fun i hi => ?_, fun i hi => ?_, fun i hi => ?_, fun i hi => ?_⟩, h3.fr fB fC rfl rfl, h4.fr fB fC rfl rfl, h5.fr fB fC rfl rfl, h6.fr fB fC rfl rfl, h7.fr fB fC rfl rfl, h8.fr fB fC rfl rfl, h9.fr fB fC rfl rfl, h10.fr fB fC rfl rfl⟩
  · show upd (C 95) k l2 i = upd (B 18) k l2 i
    by_cases e : i = k
    · subst e; rw [upd_at, upd_at]
    · rw [upd_ne e, upd_ne e]; exact h2.1 i hi
  · exact h2.2.1 i hi
  · show KC 5 i ≤ upd (B 18) k l2 i ∧ upd (B 18) k l2 i ≤ KC 6 i
    by_cases e : i = k
    · subst e
      rw [upd_at]
      exact ⟨i32_nlt (wn1 q2).1, i32_nlt (wn1 q2).2⟩
    · rw [upd_ne e]; exact h2.2.2.1 i hi
  · exact h2.2.2.2 i hi
theorem m_want (h : Rel B C) (l1 l2 : Int32) : Sim (fun x y => x.1 = y.1 ∧ Rel x.2 y.2) (fX10_want B l1 l2) (fX11_want C l1 l2) := by
  obtain ⟨h1, h2, h3, h4, h5, h6, h7, h8, h9, h10⟩ := id h
  unfold fX10_want fX11_want
  refine Sim.ii Iff.rfl (fun _ => Sim.rt ⟨rfl, h⟩) (fun q => ?_)
  obtain ⟨k, hk, rfl⟩ := wn_n (n := 5) rfl q
  have v : vp_in (nI k) 6 := vp_in_nI (by omega) (by omega)
  rw [jx_n (by omega)]
  refine Sim.ii Iff.rfl (fun _ => Sim.rt ⟨rfl, h⟩) (fun q2 => Sim.gl v <| Sim.gl v <| Sim.gr v <| Sim.gr v ?_)
  obtain ⟨u, hu, rfl⟩ := wn_n (n := 99) rfl q2
  refine Sim.rt ⟨(h2.2.1 k (by omega)).symm, ?_⟩
  have fB : Fr [(19, 19, none)] B (va_up B 19 (upd (B 19) k (nI u))) := Fr.one rfl
  have fC : Fr [(96, 96, none)] C (va_up C 96 (upd (C 96) k (nI u))) := Fr.one rfl
  refine ⟨h1.fr fB fC rfl rfl, ⟨h2.1, fun i hi => ?_, h2.2.2.1, fun i hi => ?_⟩, h3.fr fB fC rfl rfl, h4.fr fB fC rfl rfl, h5.fr fB fC rfl rfl, h6.fr fB fC rfl rfl, h7.fr fB fC rfl rfl, h8.fr fB fC rfl rfl, h9.fr fB fC rfl rfl, h10.fr fB fC rfl rfl⟩
  · show upd (C 96) k (nI u) i = upd (B 19) k (nI u) i
    by_cases e : i = k
    · subst e; rw [upd_at, upd_at]
    · rw [upd_ne e, upd_ne e]; exact h2.2.1 i hi
  · show ∃ v, v < 100 ∧ upd (B 19) k (nI u) i = nI v
    by_cases e : i = k
    · subst e; exact ⟨u, by omega, upd_at⟩
    · rw [upd_ne e]; exact h2.2.2.2 i hi
theorem m_count (h : Rel B C) (l1 : Int32) : Sim (fun x y => x = y) (fX10_count B l1) (fX11_count C l1) := by
  obtain ⟨h1, h2, h3, h4, h5, h6, h7, h8, h9, h10⟩ := id h
  unfold fX10_count fX11_count
  refine Sim.ii Iff.rfl (fun _ => ?_) (fun q => ?_)
  · refine Sim.ii Iff.rfl (fun _ => Sim.rt h5.1.symm) (fun _ => ?_)
    refine Sim.ii Iff.rfl (fun _ => Sim.rt h6.1.symm) (fun _ => ?_)
    refine Sim.ii Iff.rfl (fun _ => Sim.rt h7.1.symm) (fun _ => ?_)
    refine Sim.ii Iff.rfl (fun _ => Sim.rt h8.1.symm) (fun _ => ?_)
    refine Sim.ii Iff.rfl (fun _ => Sim.rt h3.2.1.symm) (fun _ => ?_)
    refine Sim.ii Iff.rfl (fun _ => Sim.rt h3.1.symm) (fun _ => ?_)
    exact Sim.ii Iff.rfl (fun _ => Sim.rt h4.1.symm) (fun _ => Sim.rt rfl)
  · obtain ⟨k, hk, rfl⟩ := wn_n (n := 5) rfl q
    have v : vp_in (nI k) 6 := vp_in_nI (by omega) (by omega)
    rw [jx_n (by omega)]
    exact Sim.gl v <| Sim.gr v <| Sim.rt (h2.1 k (by omega)).symm
theorem far_eq (h : rPass B C) (m : Int32) : fX4_far B (B 18 0) m = fX11_farIn C m := by
  unfold fX4_far fX11_farIn fX4_minutes
  rw [jab_eq, h.1 0 (by omega), h.1 1 (by omega), h.1 5 (by omega)]
theorem min_eq (h : rPass B C) (m : Int32) : fX4_hasMinute B m = fX11_isMinute C m := by
  unfold fX4_hasMinute fX11_isMinute fX4_minutes
  rw [h.1 5 (by omega)]
  rfl
theorem m_pass (h : Rel B C) (l1 : Int32) : fX10_pass B l1 = fX11_pass C l1 := by
  unfold fX10_pass fX11_pass fX4_near
  rw [far_eq h.2.1, min_eq h.2.1]
theorem m_force (h : Rel B C) (l1 : Int32) : Sim (fun x y => x.1 = y.1 ∧ Rel x.2 y.2) (fX10_force B l1) (fX11_force C l1) := by
  obtain ⟨h1, h2, h3, h4, h5, h6, h7, h8, h9, h10⟩ := id h
  obtain ⟨g1, g2, t, n, g3, g4, g5, g6, g7, g8, g9⟩ := h3
  unfold fX10_force fX11_force
  rw [g2, g4]
  refine Sim.ii Iff.rfl (fun _ => Sim.rt ⟨rfl, h⟩) (fun q => ?_)
  obtain ⟨k, hk, rfl⟩ := wn_m (by omega) q
  refine Sim.rt ⟨g1.symm, ?_⟩
  show Rel (va_up B 17 (upd (B 17) 2 (nI k))) (va_up C 94 (upd (C 94) 6 (nI k)))
  have fB : Fr [(17, 17, some 2)] B (va_up B 17 (upd (B 17) 2 (nI k))) := Fr.one rfl
  have fC : Fr [(94, 94, some 6)] C (va_up C 94 (upd (C 94) 6 (nI k))) := Fr.one rfl
  refine ⟨h1.fr fB fC rfl rfl, h2.fr fB fC rfl rfl, ⟨rfl, g2, k, n, rfl, g4, hk, g6, g7, g8, fun q hq => ?_⟩, h4.fr fB fC rfl rfl, h5.fr fB fC rfl rfl, h6.fr fB fC rfl rfl, h7.fr fB fC rfl rfl, h8.fr fB fC rfl rfl, h9.fr fB fC rfl rfl, h10.fr fB fC rfl rfl⟩
  have e1 : va_up B 17 (upd (B 17) 2 (nI k)) (30 + q) = B (30 + q) := ju_ne _ _ (by omega)
  have e2 : va_up B 17 (upd (B 17) 2 (nI k)) (37 + q) = B (37 + q) := ju_ne _ _ (by omega)
  unfold rText
  rw [e1, e2]
  exact g9 q hq
theorem m_say (h : Rel B C) (l1 l2 l3 : Int32) : Sim (fun x y => x.1 = y.1 ∧ Rel x.2 y.2) (fX10_say B l1 l2 l3) (fX11_say C l1 l2 l3) := by
  obtain ⟨h1, h2, h3, h4, h5, h6, h7, h8, h9, h10⟩ := id h
  obtain ⟨g1, n, g2, g3, g4⟩ := h5
  unfold fX10_say fX11_say fX6_add
  refine Sim.ii Iff.rfl (fun _ => Sim.rt ⟨rfl, h⟩) (fun q1 => ?_)
  refine Sim.ii Iff.rfl (fun _ => Sim.rt ⟨rfl, h⟩) (fun q2 => ?_)
  refine Sim.ii Iff.rfl (fun _ => Sim.rt ⟨rfl, h⟩) (fun q3 => ?_)
  obtain ⟨a, ha, rfl⟩ := wn_n (n := 5) rfl q1
  obtain ⟨b, hb, rfl⟩ := wn_n (n := 5) rfl q2
  obtain ⟨c, hc, rfl⟩ := wn_n (n := 9) rfl q3
  refine Sim.ix (by rw [g1, g3, show (8 : Int32) = nI 8 from rfl, nI_ltI (by omega) (by omega), nI_eq (by omega) (by omega)]; omega) (fun q4 => ?_) (fun _ => Sim.rt ⟨rfl, h⟩)
  have hn : n < 8 := by
    rw [g3, show (8 : Int32) = nI 8 from rfl, nI_ltI (by omega) (by omega)] at q4
    exact q4
  have v1 : vp_in (B 16 5) 8 := by rw [g3]; exact vp_in_nI hn (by omega)
  have v2 : vp_in (C 94 21) 8 := by rw [g1]; exact v1
  have j1 : jx (B 16 5) = n := by rw [g3]; exact jx_n (by omega)
  have j2 : jx (C 94 21) = n := by rw [g1]; exact j1
  refine Sim.bg v1 <| Sim.bg v1 <| Sim.bg v1 <| Sim.gr v2 <| Sim.gr v2 <| Sim.gr v2 <| Sim.rt ⟨?_, ?_⟩
  · show B 16 5 + 1 - 1 = C 94 21 + 1 - 1
    rw [g1]
  · show Rel (va_up (va_up (va_up (va_up B 44 (upd (B 44) (jx (B 16 5)) (nI a))) 45 (upd (B 45) (jx (B 16 5)) (nI b))) 46 (upd (B 46) (jx (B 16 5)) (nI c))) 16 (upd (B 16) 5 (B 16 5 + 1))) (va_up (va_up (va_up (va_up C 105 (upd (C 105) (jx (C 94 21)) (nI a))) 106 (upd (C 106) (jx (C 94 21)) (nI b))) 107 (upd (C 107) (jx (C 94 21)) (nI c))) 94 (upd (C 94) 21 (C 94 21 + 1)))
    rw [j1, j2]
    have fB : Fr [(16, 16, some 5), (44, 46, none)] B (va_up (va_up (va_up (va_up B 44 (upd (B 44) n (nI a))) 45 (upd (B 45) n (nI b))) 46 (upd (B 46) n (nI c))) 16 (upd (B 16) 5 (B 16 5 + 1))) := Fr.up (Fr.up (Fr.up (Fr.up Fr.rf (FrC.up FrC.bs rfl)) (FrC.up FrC.bs rfl)) (FrC.up FrC.bs rfl)) (FrC.up FrC.bs rfl)
    have fC : Fr [(94, 94, some 21), (105, 107, none)] C (va_up (va_up (va_up (va_up C 105 (upd (C 105) n (nI a))) 106 (upd (C 106) n (nI b))) 107 (upd (C 107) n (nI c))) 94 (upd (C 94) 21 (C 94 21 + 1))) := Fr.up (Fr.up (Fr.up (Fr.up Fr.rf (FrC.up FrC.bs rfl)) (FrC.up FrC.bs rfl)) (FrC.up FrC.bs rfl)) (FrC.up FrC.bs rfl)
    refine ⟨h1.fr fB fC rfl rfl, h2.fr fB fC rfl rfl, h3.fr fB fC rfl rfl, h4.fr fB fC rfl rfl, ⟨?_, n + 1, by omega, ?_, fun i hi => ?_⟩, h6.fr fB fC rfl rfl, h7.fr fB fC rfl rfl, h8.fr fB fC rfl rfl, h9.fr fB fC rfl rfl, h10.fr fB fC rfl rfl⟩
    · show C 94 21 + 1 = B 16 5 + 1
      rw [g1]
    · show B 16 5 + 1 = nI (n + 1)
      rw [g3, nI_1]
    · show upd (C 105) n (nI a) i = upd (B 44) n (nI a) i ∧ upd (C 106) n (nI b) i = upd (B 45) n (nI b) i ∧ upd (C 107) n (nI c) i = upd (B 46) n (nI c) i ∧ ∃ k t m, k < 6 ∧ t < 6 ∧ m < 10 ∧ upd (B 44) n (nI a) i = nI k ∧ upd (B 45) n (nI b) i = nI t ∧ upd (B 46) n (nI c) i = nI m
      by_cases e : i = n
      · subst e
        simp only [upd_at]
        exact ⟨trivial, trivial, trivial, a, b, c, by omega, by omega, by omega, rfl, rfl, rfl⟩
      · simp only [upd_ne e]
        exact g4 i (by omega)
theorem m_word (h : Rel B C) (l1 l2 : Int32) : Sim (fun x y => x.1 = y.1 ∧ Rel x.2 y.2) (fX10_word B l1 l2) (fX11_word C l1 l2) := by
  obtain ⟨h1, h2, h3, h4, h5, h6, h7, h8, h9, h10⟩ := id h
  obtain ⟨g1, n, g2, g3, g4, g5, g6⟩ := h6
  unfold fX10_word fX11_word fX9_add
  refine Sim.ii Iff.rfl (fun _ => Sim.rt ⟨rfl, h⟩) (fun q1 => ?_)
  refine Sim.ii Iff.rfl (fun _ => Sim.rt ⟨rfl, h⟩) (fun q2 => ?_)
  obtain ⟨a, ha, rfl⟩ := wn_n (n := 9999) rfl q1
  obtain ⟨b, hb, rfl⟩ := wn_n (n := 99) rfl q2
  refine Sim.ix (by rw [g1, g3, show (6 : Int32) = nI 6 from rfl, nI_ltI (by omega) (by omega), nI_eq (by omega) (by omega)]; omega) (fun q4 => ?_) (fun _ => Sim.rt ⟨rfl, h⟩)
  have hn : n < 6 := by
    rw [g3, show (6 : Int32) = nI 6 from rfl, nI_ltI (by omega) (by omega)] at q4
    exact q4
  have v1 : vp_in (B 54 3) 6 := by rw [g3]; exact vp_in_nI hn (by omega)
  have v2 : vp_in (C 94 33) 6 := by rw [g1]; exact v1
  have j1 : jx (B 54 3) = n := by rw [g3]; exact jx_n (by omega)
  have j2 : jx (C 94 33) = n := by rw [g1]; exact j1
  have e7 : (7 : Int32) * C 94 33 = nI (7 * n) := by rw [g1, g3, show (7 : Int32) = nI 7 from rfl, pk_mul]
  have v3 : vp_in ((7 : Int32) * C 94 33) 36 := by rw [e7]; exact vp_in_nI (by omega) (by omega)
  have j3 : jx ((7 : Int32) * C 94 33) = 7 * n := by rw [e7]; exact jx_n (by omega)
  refine Sim.bg v1 <| Sim.bg v1 <| Sim.gr v2 <| Sim.gr v2 <| Sim.gr v3 <| Sim.rt ⟨?_, ?_⟩
  · show B 54 3 + 1 - 1 = C 94 33 + 1 - 1
    rw [g1]
  · show Rel (va_up (va_up (va_up B 55 (upd (B 55) (jx (B 54 3)) (nI a))) 63 (upd (B 63) (jx (B 54 3)) (nI b))) 54 (upd (B 54) 3 (B 54 3 + 1))) (va_up (va_up (va_up (va_up C 113 (upd (C 113) (jx (C 94 33)) (nI a))) 114 (upd (C 114) (jx (C 94 33)) (nI b))) 115 (upd (C 115) (jx ((7 : Int32) * C 94 33)) 10)) 94 (upd (C 94) 33 (C 94 33 + 1)))
    rw [j1, j2, j3]
    have fB : Fr [(54, 54, some 3), (55, 55, none), (63, 63, none)] B (va_up (va_up (va_up B 55 (upd (B 55) n (nI a))) 63 (upd (B 63) n (nI b))) 54 (upd (B 54) 3 (B 54 3 + 1))) := Fr.up (Fr.up (Fr.up Fr.rf (FrC.up FrC.bs rfl)) (FrC.up FrC.bs rfl)) (FrC.up FrC.bs rfl)
    have fC : Fr [(94, 94, some 33), (113, 115, none)] C (va_up (va_up (va_up (va_up C 113 (upd (C 113) n (nI a))) 114 (upd (C 114) n (nI b))) 115 (upd (C 115) (7 * n) 10)) 94 (upd (C 94) 33 (C 94 33 + 1))) := Fr.up (Fr.up (Fr.up (Fr.up Fr.rf (FrC.up FrC.bs rfl)) (FrC.up FrC.bs rfl)) (FrC.up FrC.bs rfl)) (FrC.up FrC.bs rfl)
    refine ⟨h1.fr fB fC rfl rfl, h2.fr fB fC rfl rfl, h3.fr fB fC rfl rfl, h4.fr fB fC rfl rfl, h5.fr fB fC rfl rfl, ⟨?_, n + 1, by omega, ?_, fun i hi => ?_, fun i j hi hj => ?_, fun i j hi hj hh => ?_⟩, h7.fr fB fC rfl rfl, h8.fr fB fC rfl rfl, ⟨h9.1, fun hz => ?_⟩, h10.fr fB fC rfl rfl⟩
    · show C 94 33 + 1 = B 54 3 + 1
      rw [g1]
    · show B 54 3 + 1 = nI (n + 1)
      rw [g3, nI_1]
    · show upd (C 113) n (nI a) i = upd (B 55) n (nI a) i ∧ upd (C 114) n (nI b) i = upd (B 63) n (nI b) i ∧ ∃ v o, v < 10000 ∧ o < 100 ∧ upd (B 55) n (nI a) i = nI v ∧ upd (B 63) n (nI b) i = nI o
      by_cases e : i = n
      · subst e
        simp only [upd_at]
        exact ⟨trivial, trivial, a, b, by omega, by omega, rfl, rfl⟩
      · simp only [upd_ne e]
        exact g4 i (by omega)
    · have e1 : (va_up (va_up (va_up B 55 (upd (B 55) n (nI a))) 63 (upd (B 63) n (nI b))) 54 (upd (B 54) 3 (B 54 3 + 1))) (57 + i) = B (57 + i) := by rw [ju_ne _ _ (by omega), ju_ne _ _ (by omega), ju_ne _ _ (by omega)]
      rw [e1]
      show upd (C 115) (7 * n) 10 (6 * i + j) = B (57 + i) j ∧ ∃ t, t < 100 ∧ B (57 + i) j = nI t
      by_cases e : i < n ∧ j < n
      · rw [upd_ne (by omega)]
        exact g5 i j e.1 e.2
      · obtain ⟨k1, k2⟩ := g6 i j (by omega) (by omega) (by omega)
        by_cases e2 : i = j
        · have e3 : 6 * i + j = 7 * n := by omega
          rw [e3, upd_at, k2, if_pos e2]
          exact ⟨rfl, 10, by omega, rfl⟩
        · rw [upd_ne (by omega), k1, k2, if_neg e2]
          exact ⟨rfl, 0, by omega, rfl⟩
    · have e1 : (va_up (va_up (va_up B 55 (upd (B 55) n (nI a))) 63 (upd (B 63) n (nI b))) 54 (upd (B 54) 3 (B 54 3 + 1))) (57 + i) = B (57 + i) := by rw [ju_ne _ _ (by omega), ju_ne _ _ (by omega), ju_ne _ _ (by omega)]
      rw [e1]
      show upd (C 115) (7 * n) 10 (6 * i + j) = 0 ∧ B (57 + i) j = if i = j then 10 else 0
      rw [upd_ne (by omega)]
      exact g6 i j hi hj (by omega)
    · obtain ⟨k1, k2, k3, t, p, w, m, k4, k5, k6, k7, k8, k9, k10, k11, k12⟩ := h9.2 hz
      have em : m = n := by
        rw [k9, nI_eq (by omega) (by omega)] at g3
        exact g3
      subst em
      refine ⟨k1, k2, k3, t, p, w, m + 1, k4, k5, k6, k7, k8, ?_, by omega, by omega, fun i j hi hj => ?_⟩
      · show B 54 3 + 1 = nI (m + 1)
        rw [g3, nI_1]
      · have e1 : (va_up (va_up (va_up B 55 (upd (B 55) m (nI a))) 63 (upd (B 63) m (nI b))) 54 (upd (B 54) 3 (B 54 3 + 1))) (88 + i) = B (88 + i) := by rw [ju_ne _ _ (by omega), ju_ne _ _ (by omega), ju_ne _ _ (by omega)]
        rw [e1]
        exact k12 i j hi hj
theorem m_mistake (h : Rel B C) (l1 l2 l3 : Int32) : Sim (fun x y => x.1 = y.1 ∧ Rel x.2 y.2 ∧ Fr [(57, 62, none)] B x.2) (fX10_mistake B l1 l2 l3) (fX11_mistake C l1 l2 l3) := by
  obtain ⟨h1, h2, h3, h4, h5, h6, h7, h8, h9, h10⟩ := id h
  obtain ⟨g1, n, g2, g3, g4, g5, g6⟩ := h6
  unfold fX10_mistake fX11_mistake fX9_has fX11_isWord
  rw [g1, g3]
  refine Sim.ii Iff.rfl (fun _ => Sim.rt ⟨rfl, h, Fr.rf⟩) (fun q1 => ?_)
  refine Sim.ii Iff.rfl (fun _ => Sim.rt ⟨rfl, h, Fr.rf⟩) (fun q2 => ?_)
  refine Sim.ii Iff.rfl (fun _ => Sim.rt ⟨rfl, h, Fr.rf⟩) (fun q3 => ?_)
  obtain ⟨a, ha, rfl⟩ := wn_m (by omega) q1
  obtain ⟨b, hb, rfl⟩ := wn_m (by omega) q2
  obtain ⟨c, hc, rfl⟩ := wn_n (n := 99) rfl q3
  have e6 : (6 : Int32) * nI a + nI b = nI (6 * a + b) := by rw [show (6 : Int32) = nI 6 from rfl, pk_mul, nI_add]
  rw [e6, jx_n (by omega), jx_n (by omega), jx_n (by omega)]
  have v1 : vp_in (nI a) 6 := vp_in_nI (by omega) (by omega)
  have v2 : vp_in (nI b) 6 := vp_in_nI (by omega) (by omega)
  have v3 : vp_in (nI (6 * a + b)) 36 := vp_in_nI (by omega) (by omega)
  have g5' := g5 a b ha hb
  refine Sim.gl v1 <| Sim.gl v2 <| Sim.gl v1 <| Sim.gl v2 <| Sim.gr v3 <| Sim.gr v3 <| Sim.rt ⟨g5'.1.symm, ?_, ?_⟩
  · show Rel (va_up B (57 + a) (upd (B (57 + a)) b (nI c))) (va_up C 115 (upd (C 115) (6 * a + b) (nI c)))
    have fB : Fr [(57, 62, none)] B (va_up B (57 + a) (upd (B (57 + a)) b (nI c))) := Fr.up Fr.rf (FrC.al fun j => inW_rng (lo := 57) (hi := 62) rfl (by omega) (by omega))
    have fC : Fr [(115, 115, none)] C (va_up C 115 (upd (C 115) (6 * a + b) (nI c))) := Fr.one rfl
    refine ⟨h1.fr fB fC rfl rfl, h2.fr fB fC rfl rfl, h3.fr fB fC rfl rfl, h4.fr fB fC rfl rfl, h5.fr fB fC rfl rfl, ⟨by rw [ju_ne _ (j := 54) _ (by omega)]; exact g1, n, g2, by rw [ju_ne _ (j := 54) _ (by omega)]; exact g3, fun i hi => ?_, fun i j hi hj => ?_, fun i j hi hj hh => ?_⟩, h7.fr fB fC rfl rfl, h8.fr fB fC rfl rfl, h9.fr fB fC rfl rfl, h10.fr fB fC rfl rfl⟩
    · rw [fB.at (l := [(55, 55, none), (63, 63, none)]) rfl 55 i rfl, fB.at (l := [(55, 55, none), (63, 63, none)]) rfl 63 i rfl]
      exact g4 i hi
    · show upd (C 115) (6 * a + b) (nI c) (6 * i + j) = _ ∧ _
      by_cases e : i = a
      · subst e
        rw [ju_same]
        by_cases e2 : j = b
        · subst e2
          rw [upd_at, upd_at]
          exact ⟨rfl, c, by omega, rfl⟩
        · rw [upd_ne (by omega), upd_ne e2]
          exact g5 i j hi hj
      · rw [ju_ne _ _ (by omega), upd_ne (by omega)]
        exact g5 i j hi hj
    · show upd (C 115) (6 * a + b) (nI c) (6 * i + j) = 0 ∧ _
      rw [upd_ne (by omega)]
      by_cases e : i = a
      · subst e
        rw [ju_same, upd_ne (by omega)]
        exact g6 i j hi hj hh
      · rw [ju_ne _ _ (by omega)]
        exact g6 i j hi hj hh
  · exact Fr.up Fr.rf (FrC.al fun j => inW_rng (lo := 57) (hi := 62) rfl (by omega) (by omega))
theorem m_print (h : Rel B C) (l1 l2 l3 l4 : Int32) : Sim (fun x y => x.1 = y.1 ∧ Rel x.2 y.2) (fX10_print B l1 l2 l3 l4) (fX11_print C l1 l2 l3 l4) := by
  obtain ⟨h1, h2, h3, h4, h5, h6, h7, h8, h9, h10⟩ := id h
  obtain ⟨g1, n, g2, g3, g4⟩ := h7
  unfold fX10_print fX11_print fX0_add
  refine Sim.ii Iff.rfl (fun _ => Sim.rt ⟨rfl, h⟩) (fun q1 => ?_)
  refine Sim.ii Iff.rfl (fun _ => Sim.rt ⟨rfl, h⟩) (fun q2 => ?_)
  refine Sim.ii Iff.rfl (fun _ => Sim.rt ⟨rfl, h⟩) (fun q3 => ?_)
  refine Sim.ii Iff.rfl (fun _ => Sim.rt ⟨rfl, h⟩) (fun q4 => ?_)
  obtain ⟨a, ha, rfl⟩ := wn_n (n := 3) rfl q1
  obtain ⟨b, hb, rfl⟩ := wn_n (n := 365) rfl q2
  obtain ⟨c, hc, rfl⟩ := wn_n (n := 60) rfl q3
  obtain ⟨d, hd, rfl⟩ := wn_n (n := 9) rfl q4
  refine Sim.ix (by rw [g1, g3, show (10 : Int32) = nI 10 from rfl, nI_ltI (by omega) (by omega), nI_eq (by omega) (by omega)]; omega) (fun q4 => ?_) (fun _ => Sim.rt ⟨rfl, h⟩)
  have hn : n < 10 := by
    rw [g3, show (10 : Int32) = nI 10 from rfl, nI_ltI (by omega) (by omega)] at q4
    exact q4
  have v1 : vp_in (B 64 4) 10 := by rw [g3]; exact vp_in_nI hn (by omega)
  have v2 : vp_in (C 94 37) 10 := by rw [g1]; exact v1
  have j1 : jx (B 64 4) = n := by rw [g3]; exact jx_n (by omega)
  have j2 : jx (C 94 37) = n := by rw [g1]; exact j1
  refine Sim.bg v1 <| Sim.bg v1 <| Sim.bg v1 <| Sim.bg v1 <| Sim.gr v2 <| Sim.gr v2 <| Sim.gr v2 <| Sim.gr v2 <| Sim.rt ⟨?_, ?_⟩
  · show B 64 4 + 1 - 1 = C 94 37 + 1 - 1
    rw [g1]
  · show Rel (va_up (va_up (va_up (va_up (va_up B 65 (upd (B 65) (jx (B 64 4)) (nI a))) 66 (upd (B 66) (jx (B 64 4)) (nI b))) 67 (upd (B 67) (jx (B 64 4)) (nI c))) 68 (upd (B 68) (jx (B 64 4)) (nI d))) 64 (upd (B 64) 4 (B 64 4 + 1))) (va_up (va_up (va_up (va_up (va_up C 116 (upd (C 116) (jx (C 94 37)) (nI a))) 117 (upd (C 117) (jx (C 94 37)) (nI b))) 118 (upd (C 118) (jx (C 94 37)) (nI c))) 119 (upd (C 119) (jx (C 94 37)) (nI d))) 94 (upd (C 94) 37 (C 94 37 + 1)))
    rw [j1, j2]
    have fB : Fr [(64, 64, some 4), (65, 68, none)] B (va_up (va_up (va_up (va_up (va_up B 65 (upd (B 65) n (nI a))) 66 (upd (B 66) n (nI b))) 67 (upd (B 67) n (nI c))) 68 (upd (B 68) n (nI d))) 64 (upd (B 64) 4 (B 64 4 + 1))) := Fr.up (Fr.up (Fr.up (Fr.up (Fr.up Fr.rf (FrC.up FrC.bs rfl)) (FrC.up FrC.bs rfl)) (FrC.up FrC.bs rfl)) (FrC.up FrC.bs rfl)) (FrC.up FrC.bs rfl)
    have fC : Fr [(94, 94, some 37), (116, 119, none)] C (va_up (va_up (va_up (va_up (va_up C 116 (upd (C 116) n (nI a))) 117 (upd (C 117) n (nI b))) 118 (upd (C 118) n (nI c))) 119 (upd (C 119) n (nI d))) 94 (upd (C 94) 37 (C 94 37 + 1))) := Fr.up (Fr.up (Fr.up (Fr.up (Fr.up Fr.rf (FrC.up FrC.bs rfl)) (FrC.up FrC.bs rfl)) (FrC.up FrC.bs rfl)) (FrC.up FrC.bs rfl)) (FrC.up FrC.bs rfl)
    refine ⟨h1.fr fB fC rfl rfl, h2.fr fB fC rfl rfl, h3.fr fB fC rfl rfl, h4.fr fB fC rfl rfl, h5.fr fB fC rfl rfl, h6.fr fB fC rfl rfl, ⟨?_, n + 1, by omega, ?_, fun i hi => ?_⟩, h8.fr fB fC rfl rfl, h9.fr fB fC rfl rfl, h10.fr fB fC rfl rfl⟩
    · show C 94 37 + 1 = B 64 4 + 1
      rw [g1]
    · show B 64 4 + 1 = nI (n + 1)
      rw [g3, nI_1]
    · show upd (C 116) n (nI a) i = upd (B 65) n (nI a) i ∧ upd (C 117) n (nI b) i = upd (B 66) n (nI b) i ∧ upd (C 118) n (nI c) i = upd (B 67) n (nI c) i ∧ upd (C 119) n (nI d) i = upd (B 68) n (nI d) i ∧ ∃ s d' c' b', s < 4 ∧ d' ≤ 365 ∧ c' ≤ 60 ∧ b' < 10 ∧ upd (B 65) n (nI a) i = nI s ∧ upd (B 66) n (nI b) i = nI d' ∧ upd (B 67) n (nI c) i = nI c' ∧ upd (B 68) n (nI d) i = nI b'
      by_cases e : i = n
      · subst e
        simp only [upd_at]
        exact ⟨trivial, trivial, trivial, trivial, a, b, c, d, by omega, by omega, by omega, by omega, rfl, rfl, rfl, rfl⟩
      · simp only [upd_ne e]
        exact g4 i (by omega)
theorem m_printed (h : Rel B C) (l1 l2 : Int32) : Sim (fun x y => x = y) (fX10_printed B l1 l2) (fX11_printed C l1 l2) := by
  obtain ⟨g1, n, g2, g3, g4⟩ := h.2.2.2.2.2.2.1
  unfold fX10_printed fX11_printed fX11_isReport
  rw [g1, g3]
  refine Sim.ii Iff.rfl (fun _ => Sim.rt rfl) (fun q1 => ?_)
  obtain ⟨a, ha, rfl⟩ := wn_m (by omega) q1
  have v : vp_in (nI a) 10 := vp_in_nI (by omega) (by omega)
  rw [jx_n (by omega)]
  obtain ⟨k1, k2, k3, k4, -⟩ := g4 a ha
  refine Sim.ii Iff.rfl (fun _ => Sim.gl v <| Sim.gr v <| Sim.rt k1.symm) (fun _ => ?_)
  refine Sim.ii Iff.rfl (fun _ => Sim.gl v <| Sim.gr v <| Sim.rt k2.symm) (fun _ => ?_)
  refine Sim.ii Iff.rfl (fun _ => Sim.gl v <| Sim.gr v <| Sim.rt k3.symm) (fun _ => ?_)
  exact Sim.ii Iff.rfl (fun _ => Sim.gl v <| Sim.gr v <| Sim.rt k4.symm) (fun _ => Sim.rt rfl)
theorem m_meet (h : Rel B C) (l1 l2 l3 : Int32) : Sim (fun x y => x.1 = y.1 ∧ Rel x.2 y.2) (fX10_meet B l1 l2 l3) (fX11_meet C l1 l2 l3) := by
  obtain ⟨h1, h2, h3, h4, h5, h6, h7, h8, h9, h10⟩ := id h
  obtain ⟨g1, n, g2, g3, g4⟩ := h8
  unfold fX10_meet fX11_meet fX3_lastDay
  refine Sim.ii Iff.rfl (fun _ => Sim.rt ⟨rfl, h⟩) (fun q1 => ?_)
  refine Sim.ii Iff.rfl (fun _ => Sim.rt ⟨rfl, h⟩) (fun q2 => ?_)
  refine Sim.ii Iff.rfl (fun _ => Sim.rt ⟨rfl, h⟩) (fun q3 => ?_)
  refine Sim.ii Iff.rfl (fun _ => Sim.rt ⟨rfl, h⟩) (fun q4 => ?_)
  obtain ⟨a, ha, rfl⟩ := wn_n (n := 365) rfl q1
  obtain ⟨b, hb, rfl⟩ := wn_n (n := 3) rfl q2
  obtain ⟨c, hc, rfl⟩ := wn_n (n := 3) rfl q3
  have add : Sim (fun x y => x.1 = y.1 ∧ Rel x.2 y.2) (if B 70 3 < (24 : Int32) then Option.bind (fX3_add B (nI a) (nI b) (nI c)) fun r12 => some (r12.1, r12.2) else some ((-4 : Int32), B)) (jX11_meet_54 C (nI a) (nI b) (nI c)) := by
    unfold jX11_meet_54 fX3_add
    refine Sim.ix (by rw [g1, g3, show (24 : Int32) = nI 24 from rfl, nI_ltI (by omega) (by omega), nI_eq (by omega) (by omega)]; omega) (fun q4 => ?_) (fun _ => Sim.rt ⟨rfl, h⟩)
    have hn : n < 24 := by
      rw [g3, show (24 : Int32) = nI 24 from rfl, nI_ltI (by omega) (by omega)] at q4
      exact q4
    have v1 : vp_in (B 70 3) 24 := by rw [g3]; exact vp_in_nI hn (by omega)
    have v2 : vp_in (C 94 42) 24 := by rw [g1]; exact v1
    have j1 : jx (B 70 3) = n := by rw [g3]; exact jx_n (by omega)
    have j2 : jx (C 94 42) = n := by rw [g1]; exact j1
    refine Sim.bg v1 <| Sim.bg v1 <| Sim.bg v1 <| Sim.gr v2 <| Sim.gr v2 <| Sim.gr v2 <| Sim.rt ⟨?_, ?_⟩
    · show B 70 3 + 1 - 1 = C 94 42 + 1 - 1
      rw [g1]
    · show Rel (va_up (va_up (va_up (va_up B 71 (upd (B 71) (jx (B 70 3)) (nI a))) 72 (upd (B 72) (jx (B 70 3)) (nI b))) 73 (upd (B 73) (jx (B 70 3)) (nI c))) 70 (upd (B 70) 3 (B 70 3 + 1))) (va_up (va_up (va_up (va_up C 120 (upd (C 120) (jx (C 94 42)) (nI a))) 121 (upd (C 121) (jx (C 94 42)) (nI b))) 122 (upd (C 122) (jx (C 94 42)) (nI c))) 94 (upd (C 94) 42 (C 94 42 + 1)))
      rw [j1, j2]
      have fB : Fr [(70, 70, some 3), (71, 73, none)] B (va_up (va_up (va_up (va_up B 71 (upd (B 71) n (nI a))) 72 (upd (B 72) n (nI b))) 73 (upd (B 73) n (nI c))) 70 (upd (B 70) 3 (B 70 3 + 1))) := Fr.up (Fr.up (Fr.up (Fr.up Fr.rf (FrC.up FrC.bs rfl)) (FrC.up FrC.bs rfl)) (FrC.up FrC.bs rfl)) (FrC.up FrC.bs rfl)
      have fC : Fr [(94, 94, some 42), (120, 122, none)] C (va_up (va_up (va_up (va_up C 120 (upd (C 120) n (nI a))) 121 (upd (C 121) n (nI b))) 122 (upd (C 122) n (nI c))) 94 (upd (C 94) 42 (C 94 42 + 1))) := Fr.up (Fr.up (Fr.up (Fr.up Fr.rf (FrC.up FrC.bs rfl)) (FrC.up FrC.bs rfl)) (FrC.up FrC.bs rfl)) (FrC.up FrC.bs rfl)
      refine ⟨h1.fr fB fC rfl rfl, h2.fr fB fC rfl rfl, h3.fr fB fC rfl rfl, h4.fr fB fC rfl rfl, h5.fr fB fC rfl rfl, h6.fr fB fC rfl rfl, h7.fr fB fC rfl rfl, ⟨?_, n + 1, by omega, ?_, fun i hi => ?_⟩, h9.fr fB fC rfl rfl, h10.fr fB fC rfl rfl⟩
      · show C 94 42 + 1 = B 70 3 + 1
        rw [g1]
      · show B 70 3 + 1 = nI (n + 1)
        rw [g3, nI_1]
      · show upd (C 120) n (nI a) i = upd (B 71) n (nI a) i ∧ upd (C 121) n (nI b) i = upd (B 72) n (nI b) i ∧ upd (C 122) n (nI c) i = upd (B 73) n (nI c) i ∧ ∃ k t m, k ≤ 365 ∧ t < 4 ∧ m < 4 ∧ upd (B 71) n (nI a) i = nI k ∧ upd (B 72) n (nI b) i = nI t ∧ upd (B 73) n (nI c) i = nI m
        by_cases e : i = n
        · subst e
          simp only [upd_at]
          exact ⟨trivial, trivial, trivial, a, b, c, by omega, by omega, by omega, rfl, rfl, rfl⟩
        · simp only [upd_ne e]
          exact g4 i (by omega)
  by_cases hn : n = 0
  · subst hn
    have z1 : B 70 3 ≤ 0 := by rw [g3]; decide
    have z2 : C 94 42 ≤ 0 := by rw [g1]; exact z1
    rw [if_pos z1]
    refine Sim.ipr z2 <| Sim.bl (a := 0) rfl <| Sim.ipl ?_ add
    exact nI_pos' (by omega)
  · have z1 : ¬ B 70 3 ≤ 0 := by rw [g3]; exact nI_nle (by omega) (by omega)
    have z2 : ¬ C 94 42 ≤ 0 := by rw [g1]; exact z1
    have e1 : B 70 3 - 1 = nI (n - 1) := by
      rw [g3, show (1 : Int32) = nI 1 from rfl, pk_sub (by omega)]
    have e2 : C 94 42 - 1 = nI (n - 1) := by rw [g1]; exact e1
    have v : vp_in (nI (n - 1)) 24 := vp_in_nI (by omega) (by omega)
    rw [if_neg z1, e1, e2, jx_n (by omega)]
    refine Sim.imr z2 <| Sim.bg v <| Sim.gr v ?_
    rw [(g4 (n - 1) (by omega)).1]
    exact Sim.bl rfl <| Sim.ii Iff.rfl (fun _ => add) (fun _ => Sim.rt ⟨rfl, h⟩)
theorem m_taken (h : Rel B C) (l1 l2 : Int32) : Sim (fun x y => x = y) (fX10_taken B l1 l2) (fX11_taken C l1 l2) := by
  obtain ⟨h1, h2, h3, h4, h5, h6, h7, h8, h9, h10⟩ := id h
  obtain ⟨g1, n, g2, g3, g4⟩ := h5
  obtain ⟨k1, m, k2, k3, k4, k5, k6⟩ := h6
  unfold fX10_taken fX11_taken
  refine Sim.ii Iff.rfl (fun _ => Sim.rt rfl) (fun q1 => ?_)
  refine Sim.ii Iff.rfl (fun _ => Sim.rt rfl) (fun q2 => ?_)
  obtain ⟨b, hb, rfl⟩ := wn_n (n := 6) rfl q1
  obtain ⟨a, ha, rfl⟩ := wn_n (n := 13) rfl q2
  refine Sim.ii Iff.rfl (fun q3 => ?_) (fun q3 => ?_)
  · have ha6 : 6 ≤ a := by
      rw [show (6 : Int32) = nI 6 from rfl, nI_leI (by omega) (by omega)] at q3
      exact q3
    unfold jX10_taken_37 jX10_taken_50 jX10_taken_75 fX11_isSaying
    have e : nI a - (6 : Int32) = nI (a - 6) := by rw [show (6 : Int32) = nI 6 from rfl, pk_sub (by omega)]
    rw [e, g1, g3, if_pos rfl, if_pos rfl, if_pos rfl, jx_n (by omega)]
    by_cases hn : a - 6 < n
    · refine Sim.ipl (nI_lt hn (by omega)) <| Sim.imr (by rw [in_eq, wn_y hn (by omega)]; decide) ?_
      refine Sim.ii Iff.rfl (fun _ => Sim.rt rfl) (fun q4 => ?_)
      have hb6 : b < 6 := by
        rw [show (6 : Int32) = nI 6 from rfl, nI_leI (by omega) (by omega)] at q4
        omega
      have v : vp_in (nI (a - 6)) 8 := vp_in_nI (by omega) (by omega)
      refine Sim.gr v ?_
      obtain ⟨p1, p2, p3, k, t, u, p4, p5, p6, p7, p8, p9⟩ := g4 (a - 6) hn
      have vk : vp_in (nI k) 6 := vp_in_nI (by omega) (by omega)
      unfold fX6_isOf
      rw [p1, p7, jx_n (by omega), p7, jx_n (by omega), h1.1 7 (by omega) (by omega)]
      have hu : ∀ k, k < 6 → ∀ b, b < 6 → fX11_isUnder (nI k) (nI b) = (if nI b = 0 then 1 else if nI k = nI b then 1 else if KC 7 k = nI b then 1 else 0) := by decide +kernel
      rw [hu k p4 b hb6]
      refine Sim.rl (R := fun r => r = (if nI b = 0 then 1 else if nI k = nI b then 1 else if KC 7 k = nI b then 1 else 0)) ?_ (fun r hr => ?_)
      · refine Run.i (fun z => Run.rt (by rw [if_pos z])) (fun z => Run.g v <| Run.i (fun z2 => Run.rt (by rw [if_neg z, if_pos z2])) (fun z2 => Run.g v <| Run.g vk <| Run.i (fun z3 => Run.rt (by rw [if_neg z, if_neg z2, if_pos z3])) (fun z3 => Run.rt (by rw [if_neg z, if_neg z2, if_neg z3]))))
      · subst hr
        exact Sim.ii Iff.rfl (fun _ => Sim.rt rfl) (fun _ => Sim.rt rfl)
    · refine Sim.iml (nI_nlt (by omega) (by omega)) <| Sim.ipr ?_ (Sim.rt rfl)
      refine Decidable.byContradiction fun z => ?_
      obtain ⟨j, hj, e⟩ := wn_m (by omega) z
      rw [nI_eq (by omega) (by omega)] at e
      omega
  · have ha6 : a < 6 := by
      rw [show (6 : Int32) = nI 6 from rfl, nI_leI (by omega) (by omega)] at q3
      omega
    unfold jX10_taken_37 jX10_taken_50 jX10_taken_75 fX11_isWord
    rw [k1, k3]
    simp only [if_neg (show ¬ (1 : Int32) = 0 by decide), jx_n (show a < 2 ^ 31 by omega)]
    by_cases hn : a < m
    · refine Sim.ipl (nI_lt hn (by omega)) <| Sim.imr (by rw [in_eq, wn_y hn (by omega)]; decide) ?_
      have v : vp_in (nI a) 6 := vp_in_nI (by omega) (by omega)
      exact Sim.ii Iff.rfl (fun _ => Sim.gl v <| Sim.gr v <| Sim.rt (k4 a hn).1.symm) (fun _ => Sim.rt rfl)
    · refine Sim.iml (nI_nlt (by omega) (by omega)) <| Sim.ipr ?_ (Sim.rt rfl)
      refine Decidable.byContradiction fun z => ?_
      obtain ⟨j, hj, e⟩ := wn_m (by omega) z
      rw [nI_eq (by omega) (by omega)] at e
      omega
