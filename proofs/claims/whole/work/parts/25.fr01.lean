/-! WHAT EACH FUNCTION LEAVES AS IT WAS, printed by gen25.py -/
theorem w_fX6_drawnSayings {A : Nat → Nat → Int32} {l1 : Int32} {z : (Int32 × (Nat → Nat → Int32))} (h : fX6_drawnSayings A l1 = some z) : Fr [(16, 16, some 9), (16, 16, some 14), (28, 28, none), (43, 43, none), (47, 47, none), (48, 48, none), (49, 49, none), (50, 50, none), (52, 52, none), (53, 53, none)] A z.2 := by
  unfold fX6_drawnSayings at h
  obtain ⟨r1, q1, h⟩ := of_bind h
  have f2 : Fr [(16, 16, some 9), (16, 16, some 14), (28, 28, none), (43, 43, none), (47, 47, none), (48, 48, none), (49, 49, none), (50, 50, none), (52, 52, none), (53, 53, none)] A r1.2 := Fr.tr Fr.rf ((w_fX6_worthAsTheyCame q1).wd rfl)
  obtain ⟨e3, q3, h⟩ := of_bind h
  obtain rfl := Option.some.inj h
  exact f2
theorem w_fX10_drawn {A : Nat → Nat → Int32} {l1 : Int32} {l2 : Int32} {z : (Int32 × (Nat → Nat → Int32))} (h : fX10_drawn A l1 l2 = some z) : Fr [(16, 16, some 9), (16, 16, some 14), (28, 28, none), (43, 43, none), (47, 47, none), (48, 48, none), (49, 49, none), (50, 50, none), (52, 52, none), (53, 53, none)] A z.2 := by
  unfold fX10_drawn at h
  rcases of_ite h with ⟨-, h⟩ | ⟨-, h⟩
  · obtain rfl := Option.some.inj h
    exact Fr.rf
  · rcases of_ite h with ⟨-, h⟩ | ⟨-, h⟩
    · obtain rfl := Option.some.inj h
      exact Fr.rf
    · obtain ⟨r5, q1, h⟩ := of_bind h
      have f2 : Fr [(16, 16, some 9), (16, 16, some 14), (28, 28, none), (43, 43, none), (47, 47, none), (48, 48, none), (49, 49, none), (50, 50, none), (52, 52, none), (53, 53, none)] A r5.2 := Fr.tr Fr.rf ((w_fX6_drawnSayings q1).wd rfl)
      rcases of_ite h with ⟨-, h⟩ | ⟨-, h⟩
      · obtain rfl := Option.some.inj h
        exact f2
      · obtain ⟨r8, q3, h⟩ := of_bind h
        rcases of_ite h with ⟨-, h⟩ | ⟨-, h⟩
        · obtain rfl := Option.some.inj h
          exact f2
        · obtain ⟨r11, q4, h⟩ := of_bind h
          obtain rfl := Option.some.inj h
          exact f2
theorem w_fX4_becomeLike {A : Nat → Nat → Int32} {z : (Nat → Nat → Int32)} (h : fX4_becomeLike A = some z) : Fr [(84, 84, some 2), (85, 85, none), (86, 86, none)] A z := by
  unfold fX4_becomeLike at h
  obtain ⟨-, h⟩ := of_guard h
  obtain ⟨m2, q1, h⟩ := of_bind h
  have f2 : Fr [(84, 84, some 2), (85, 85, none), (86, 86, none)] A m2 := Fr.eq q1 (Fr.up Fr.rf (FrC.al fun _ => rfl))
  obtain ⟨-, h⟩ := of_guard h
  obtain ⟨m5, q3, h⟩ := of_bind h
  have f4 : Fr [(84, 84, some 2), (85, 85, none), (86, 86, none)] A m5 := Fr.eq q3 (Fr.up f2 (FrC.al fun _ => rfl))
  obtain rfl := Option.some.inj h
  exact (Fr.up f4 (FrC.up FrC.bs rfl))
theorem w_fX4_becomeLike_v2 {A : Nat → Nat → Int32} {z : (Nat → Nat → Int32)} (h : fX4_becomeLike_v2 A = some z) : Fr [(17, 17, some 2), (18, 18, none), (19, 19, none)] A z := by
  unfold fX4_becomeLike_v2 at h
  obtain ⟨-, h⟩ := of_guard h
  obtain ⟨m2, q1, h⟩ := of_bind h
  have f2 : Fr [(17, 17, some 2), (18, 18, none), (19, 19, none)] A m2 := Fr.eq q1 (Fr.up Fr.rf (FrC.al fun _ => rfl))
  obtain ⟨-, h⟩ := of_guard h
  obtain ⟨m5, q3, h⟩ := of_bind h
  have f4 : Fr [(17, 17, some 2), (18, 18, none), (19, 19, none)] A m5 := Fr.eq q3 (Fr.up f2 (FrC.al fun _ => rfl))
  obtain rfl := Option.some.inj h
  exact (Fr.up f4 (FrC.up FrC.bs rfl))
theorem w_cX10_sayingsBy_81 (l1 : Int32) (l3 : Int32) (l4 : Int32) (cl5 : Nat) (s : (Int32 × Int32 × (Nat → Nat → Int32))) (z : ((Int32 × Int32 × (Nat → Nat → Int32)) ⊕ ((Int32 × (Nat → Nat → Int32)) ⊕ (Int32 × (Nat → Nat → Int32))))) (h : cX10_sayingsBy_81 l1 l3 l4 cl5 s = some z) : Fr [(16, 16, some 5), (44, 44, none), (45, 45, none), (46, 46, none)] s.2.2 ((Sum.elim (fun (x : Int32 × Int32 × (Nat → Nat → Int32)) => x.2.2) (Sum.elim (fun (x : Int32 × (Nat → Nat → Int32)) => x.2) (fun (x : Int32 × (Nat → Nat → Int32)) => x.2))) z) := by
  unfold cX10_sayingsBy_81 at h
  rcases of_ite h with ⟨-, h⟩ | ⟨-, h⟩
  · obtain rfl := Option.some.inj h
    exact Fr.rf
  · obtain ⟨r2, q1, h⟩ := of_bind h
    rcases of_ite h with ⟨-, h⟩ | ⟨-, h⟩
    · obtain rfl := Option.some.inj h
      exact Fr.rf
    · obtain ⟨-, h⟩ := of_guard h
      obtain ⟨-, h⟩ := of_guard h
      obtain ⟨-, h⟩ := of_guard h
      obtain ⟨r9, q2, h⟩ := of_bind h
      have f3 : Fr [(16, 16, some 5), (44, 44, none), (45, 45, none), (46, 46, none)] s.2.2 r9.2 := Fr.tr Fr.rf ((w_fX10_say q2).wd rfl)
      rcases of_ite h with ⟨-, h⟩ | ⟨-, h⟩
      · obtain rfl := Option.some.inj h
        exact f3
      · obtain rfl := Option.some.inj h
        exact f3
theorem w_fX10_sayingsBy {A : Nat → Nat → Int32} {l1 : Int32} {l2 : Int32} {l3 : Int32} {l4 : Int32} {z : (Int32 × (Nat → Nat → Int32))} (h : fX10_sayingsBy A l1 l2 l3 l4 = some z) : Fr [(16, 16, some 5), (44, 44, none), (45, 45, none), (46, 46, none)] A z.2 := by
  unfold fX10_sayingsBy at h
  rcases of_ite h with ⟨-, h⟩ | ⟨-, h⟩
  · obtain rfl := Option.some.inj h
    exact Fr.rf
  · rcases of_ite h with ⟨-, h⟩ | ⟨-, h⟩
    · obtain rfl := Option.some.inj h
      exact Fr.rf
    · rcases of_ite h with ⟨-, h⟩ | ⟨-, h⟩
      · obtain rfl := Option.some.inj h
        exact Fr.rf
      · obtain ⟨-, h⟩ := of_guard h
        rcases of_ite h with ⟨-, h⟩ | ⟨-, h⟩
        · obtain rfl := Option.some.inj h
          exact Fr.rf
        · obtain ⟨-, h⟩ := of_guard h
          rcases of_ite h with ⟨-, h⟩ | ⟨-, h⟩
          · obtain ⟨-, h⟩ := of_guard h
            rcases of_elim h with ⟨e13, q1, h⟩ | ⟨s0, q1, h⟩
            · have f2 : Fr [(16, 16, some 5), (44, 44, none), (45, 45, none), (46, 46, none)] A e13.2 := Fr.tr Fr.rf ((Fr.lp (ms := (fun (x : Int32 × Int32 × (Nat → Nat → Int32)) => x.2.2)) (mr := (Sum.elim (fun (x : Int32 × (Nat → Nat → Int32)) => x.2) (fun (x : Int32 × (Nat → Nat → Int32)) => x.2))) (w_cX10_sayingsBy_81 _ _ _ _) q1).wd rfl)
              obtain rfl := Option.some.inj h
              exact f2
            · have f3 : Fr [(16, 16, some 5), (44, 44, none), (45, 45, none), (46, 46, none)] A s0.2 := Fr.tr Fr.rf ((Fr.lp (ms := (fun (x : Int32 × Int32 × (Nat → Nat → Int32)) => x.2.2)) (mr := (Sum.elim (fun (x : Int32 × (Nat → Nat → Int32)) => x.2) (fun (x : Int32 × (Nat → Nat → Int32)) => x.2))) (w_cX10_sayingsBy_81 _ _ _ _) q1).wd rfl)
              obtain rfl := Option.some.inj h
              exact f3
          · obtain rfl := Option.some.inj h
            exact Fr.rf
theorem w_fX11_set {A : Nat → Nat → Int32} {l1 : Int32} {l2 : Int32} {z : (Int32 × (Nat → Nat → Int32))} (h : fX11_set A l1 l2 = some z) : Fr [(95, 95, none)] A z.2 := by
  unfold fX11_set at h
  rcases of_ite h with ⟨-, h⟩ | ⟨-, h⟩
  · obtain rfl := Option.some.inj h
    exact Fr.rf
  · rcases of_ite h with ⟨-, h⟩ | ⟨-, h⟩
    · obtain rfl := Option.some.inj h
      exact Fr.rf
    · obtain ⟨-, h⟩ := of_guard h
      obtain ⟨-, h⟩ := of_guard h
      obtain ⟨m7, q1, h⟩ := of_bind h
      have f2 : Fr [(95, 95, none)] A m7 := Fr.eq q1 (Fr.up Fr.rf (FrC.up FrC.bs rfl))
      obtain rfl := Option.some.inj h
      exact f2
theorem w_fX11_want {A : Nat → Nat → Int32} {l1 : Int32} {l2 : Int32} {z : (Int32 × (Nat → Nat → Int32))} (h : fX11_want A l1 l2 = some z) : Fr [(96, 96, none)] A z.2 := by
  unfold fX11_want at h
  rcases of_ite h with ⟨-, h⟩ | ⟨-, h⟩
  · obtain rfl := Option.some.inj h
    exact Fr.rf
  · rcases of_ite h with ⟨-, h⟩ | ⟨-, h⟩
    · obtain rfl := Option.some.inj h
      exact Fr.rf
    · obtain ⟨-, h⟩ := of_guard h
      obtain ⟨-, h⟩ := of_guard h
      obtain ⟨m7, q1, h⟩ := of_bind h
      have f2 : Fr [(96, 96, none)] A m7 := Fr.eq q1 (Fr.up Fr.rf (FrC.up FrC.bs rfl))
      obtain rfl := Option.some.inj h
      exact f2
theorem w_cX11_feed_33 (l1 : Int64) (s : (Int32 × (Nat → Nat → Int32))) (z : ((Int32 × (Nat → Nat → Int32)) ⊕ (Nat → Nat → Int32))) (h : cX11_feed_33 l1 s = some z) : Fr [(94, 94, some 4), (97, 97, none)] s.2 ((Sum.elim (fun (x : Int32 × (Nat → Nat → Int32)) => x.2) (fun (x : Nat → Nat → Int32) => x)) z) := by
  unfold cX11_feed_33 at h
  rcases of_ite h with ⟨-, h⟩ | ⟨-, h⟩
  · obtain rfl := Option.some.inj h
    exact Fr.rf
  · obtain ⟨-, h⟩ := of_guard h
    obtain ⟨m3, q1, h⟩ := of_bind h
    have f2 : Fr [(94, 94, some 4), (97, 97, none)] s.2 m3 := Fr.eq q1 (Fr.up Fr.rf (FrC.up FrC.bs rfl))
    obtain rfl := Option.some.inj h
    exact (Fr.up f2 (FrC.up FrC.bs rfl))
theorem w_fX11_feed {A : Nat → Nat → Int32} {l1 : Int64} {l3 : Int32} {z : (Int32 × (Nat → Nat → Int32))} (h : fX11_feed A l1 l3 = some z) : Fr [(94, 94, some 4), (97, 97, none)] A z.2 := by
  unfold fX11_feed at h
  rcases of_ite h with ⟨-, h⟩ | ⟨-, h⟩
  · obtain rfl := Option.some.inj h
    exact Fr.rf
  · rcases of_ite h with ⟨-, h⟩ | ⟨-, h⟩
    · obtain ⟨e4, q1, h⟩ := of_bind h
      have f2 : Fr [(94, 94, some 4), (97, 97, none)] A e4 := Fr.tr Fr.rf ((Fr.lp (ms := (fun (x : Int32 × (Nat → Nat → Int32)) => x.2)) (mr := (fun (x : Nat → Nat → Int32) => x)) (w_cX11_feed_33 _) q1).wd rfl)
      obtain rfl := Option.some.inj h
      exact f2
    · obtain rfl := Option.some.inj h
      exact Fr.rf
theorem w_jX11_next_47_8 {A : Nat → Nat → Int32} {z : ((Nat → Nat → Int32) ⊕ (Nat → Nat → Int32))} (h : jX11_next_47_8 A = some z) : Fr [(94, 94, some 13)] A ((Sum.elim (fun (x : Nat → Nat → Int32) => x) (fun (x : Nat → Nat → Int32) => x)) z) := by
  unfold jX11_next_47_8 at h
  obtain rfl := Option.some.inj h
  exact (Fr.up Fr.rf (FrC.up FrC.bs rfl))
theorem w_cX11_next_8 (s : (Nat → Nat → Int32)) (z : ((Nat → Nat → Int32) ⊕ (Nat → Nat → Int32))) (h : cX11_next_8 s = some z) : Fr [(94, 94, some 13)] s ((Sum.elim (fun (x : Nat → Nat → Int32) => x) (fun (x : Nat → Nat → Int32) => x)) z) := by
  unfold cX11_next_8 at h
  rcases of_ite h with ⟨-, h⟩ | ⟨-, h⟩
  · obtain rfl := Option.some.inj h
    exact Fr.rf
  · obtain ⟨-, h⟩ := of_guard h
    rcases of_ite h with ⟨-, h⟩ | ⟨-, h⟩
    · exact Fr.tr Fr.rf ((w_jX11_next_47_8 h).wd rfl)
    · obtain ⟨-, h⟩ := of_guard h
      rcases of_ite h with ⟨-, h⟩ | ⟨-, h⟩
      · exact Fr.tr Fr.rf ((w_jX11_next_47_8 h).wd rfl)
      · obtain rfl := Option.some.inj h
        exact Fr.rf
theorem w_jX11_next_251_188 {A : Nat → Nat → Int32} {z : ((Nat → Nat → Int32) ⊕ (Nat → Nat → Int32))} (h : jX11_next_251_188 A = some z) : Fr [(94, 94, some 14)] A ((Sum.elim (fun (x : Nat → Nat → Int32) => x) (fun (x : Nat → Nat → Int32) => x)) z) := by
  unfold jX11_next_251_188 at h
  obtain rfl := Option.some.inj h
  exact (Fr.up Fr.rf (FrC.up FrC.bs rfl))
theorem w_cX11_next_188 (s : (Nat → Nat → Int32)) (z : ((Nat → Nat → Int32) ⊕ (Nat → Nat → Int32))) (h : cX11_next_188 s = some z) : Fr [(94, 94, some 14), (94, 94, some 16)] s ((Sum.elim (fun (x : Nat → Nat → Int32) => x) (fun (x : Nat → Nat → Int32) => x)) z) := by
  unfold cX11_next_188 at h
  rcases of_ite h with ⟨-, h⟩ | ⟨-, h⟩
  · obtain rfl := Option.some.inj h
    exact Fr.rf
  · obtain ⟨-, h⟩ := of_guard h
    rcases of_ite h with ⟨-, h⟩ | ⟨-, h⟩
    · obtain rfl := Option.some.inj h
      exact Fr.rf
    · rcases of_ite h with ⟨-, h⟩ | ⟨-, h⟩
      · exact Fr.tr Fr.rf ((w_jX11_next_251_188 h).wd rfl)
      · obtain ⟨-, h⟩ := of_guard h
        exact Fr.tr (Fr.up Fr.rf (FrC.up FrC.bs rfl)) ((w_jX11_next_251_188 h).wd rfl)
theorem w_jX11_next_264 {A : Nat → Nat → Int32} {z : (Nat → Nat → Int32)} (h : jX11_next_264 A = some z) : Fr [(94, 94, some 15)] A z := by
  unfold jX11_next_264 at h
  rcases of_ite h with ⟨-, h⟩ | ⟨-, h⟩
  · obtain rfl := Option.some.inj h
    exact (Fr.up Fr.rf (FrC.up FrC.bs rfl))
  · obtain rfl := Option.some.inj h
    exact (Fr.up Fr.rf (FrC.up FrC.bs rfl))
theorem w_cX11_next_110 (s : (Nat → Nat → Int32)) (z : ((Nat → Nat → Int32) ⊕ (Nat → Nat → Int32))) (h : cX11_next_110 s = some z) : Fr [(94, 94, some 14)] s ((Sum.elim (fun (x : Nat → Nat → Int32) => x) (fun (x : Nat → Nat → Int32) => x)) z) := by
  unfold cX11_next_110 at h
  rcases of_ite h with ⟨-, h⟩ | ⟨-, h⟩
  · obtain rfl := Option.some.inj h
    exact Fr.rf
  · obtain ⟨-, h⟩ := of_guard h
    rcases of_ite h with ⟨-, h⟩ | ⟨-, h⟩
    · obtain rfl := Option.some.inj h
      exact Fr.rf
    · obtain rfl := Option.some.inj h
      exact (Fr.up Fr.rf (FrC.up FrC.bs rfl))
theorem w_jX11_next_149 {A : Nat → Nat → Int32} {z : (Nat → Nat → Int32)} (h : jX11_next_149 A = some z) : Fr [(94, 94, some 15), (94, 94, some 16)] A z := by
  unfold jX11_next_149 at h
  obtain ⟨r1, q1, h⟩ := of_bind h
  rcases of_ite h with ⟨-, h⟩ | ⟨-, h⟩
  · obtain ⟨m4, q2, h⟩ := of_bind h
    have f3 : Fr [(94, 94, some 15), (94, 94, some 16)] A m4 := Fr.eq q2 (Fr.up (Fr.up Fr.rf (FrC.up FrC.bs rfl)) (FrC.up (FrC.up (FrC.sm (FrC.up FrC.bs rfl) FrC.bs) rfl) rfl))
    obtain rfl := Option.some.inj h
    exact f3
  · obtain ⟨m6, q4, h⟩ := of_bind h
    have f5 : Fr [(94, 94, some 15), (94, 94, some 16)] A m6 := Fr.eq q4 (Fr.up (Fr.up Fr.rf (FrC.up FrC.bs rfl)) (FrC.up (FrC.up (FrC.sm (FrC.up FrC.bs rfl) FrC.bs) rfl) rfl))
    obtain rfl := Option.some.inj h
    exact f5
theorem w_jX11_next_60 {A : Nat → Nat → Int32} {z : (Nat → Nat → Int32)} (h : jX11_next_60 A = some z) : Fr [(94, 94, some 13), (94, 94, some 14), (94, 94, some 15), (94, 94, some 16)] A z := by
  unfold jX11_next_60 at h
  rcases of_ite h with ⟨-, h⟩ | ⟨-, h⟩
  · obtain ⟨-, h⟩ := of_guard h
    rcases of_ite h with ⟨-, h⟩ | ⟨-, h⟩
    · rcases of_ite h with ⟨-, h⟩ | ⟨-, h⟩
      · obtain ⟨m7, q1, h⟩ := of_bind h
        have f2 : Fr [(94, 94, some 13), (94, 94, some 14), (94, 94, some 15), (94, 94, some 16)] A m7 := Fr.eq q1 (Fr.up (Fr.up Fr.rf (FrC.up FrC.bs rfl)) (FrC.up (FrC.up (FrC.sm (FrC.up FrC.bs rfl) FrC.bs) rfl) rfl))
        rcases of_ite h with ⟨-, h⟩ | ⟨-, h⟩
        · obtain ⟨m10, q3, h⟩ := of_bind h
          have f4 : Fr [(94, 94, some 13), (94, 94, some 14), (94, 94, some 15), (94, 94, some 16)] A m10 := Fr.eq q3 (Fr.up (Fr.up f2 (FrC.up FrC.bs rfl)) (FrC.up (FrC.up (FrC.sm (FrC.up FrC.bs rfl) FrC.bs) rfl) rfl))
          obtain rfl := Option.some.inj h
          exact f4
        · rcases of_ite h with ⟨-, h⟩ | ⟨-, h⟩
          · obtain ⟨m13, q5, h⟩ := of_bind h
            have f6 : Fr [(94, 94, some 13), (94, 94, some 14), (94, 94, some 15), (94, 94, some 16)] A m13 := Fr.eq q5 (Fr.up (Fr.up f2 (FrC.up FrC.bs rfl)) (FrC.up (FrC.up (FrC.sm (FrC.up FrC.bs rfl) FrC.bs) rfl) rfl))
            obtain rfl := Option.some.inj h
            exact f6
          · rcases of_ite h with ⟨-, h⟩ | ⟨-, h⟩
            · obtain ⟨m16, q7, h⟩ := of_bind h
              have f8 : Fr [(94, 94, some 13), (94, 94, some 14), (94, 94, some 15), (94, 94, some 16)] A m16 := Fr.eq q7 (Fr.up (Fr.up f2 (FrC.up FrC.bs rfl)) (FrC.up (FrC.up (FrC.sm (FrC.up FrC.bs rfl) FrC.bs) rfl) rfl))
              obtain rfl := Option.some.inj h
              exact f8
            · rcases of_ite h with ⟨-, h⟩ | ⟨-, h⟩
              · obtain ⟨m19, q9, h⟩ := of_bind h
                have f10 : Fr [(94, 94, some 13), (94, 94, some 14), (94, 94, some 15), (94, 94, some 16)] A m19 := Fr.eq q9 (Fr.up (Fr.up f2 (FrC.up FrC.bs rfl)) (FrC.up (FrC.up (FrC.sm (FrC.up FrC.bs rfl) FrC.bs) rfl) rfl))
                obtain rfl := Option.some.inj h
                exact f10
              · rcases of_ite h with ⟨-, h⟩ | ⟨-, h⟩
                · obtain ⟨m22, q11, h⟩ := of_bind h
                  have f12 : Fr [(94, 94, some 13), (94, 94, some 14), (94, 94, some 15), (94, 94, some 16)] A m22 := Fr.eq q11 (Fr.up (Fr.up f2 (FrC.up FrC.bs rfl)) (FrC.up (FrC.up (FrC.sm (FrC.up FrC.bs rfl) FrC.bs) rfl) rfl))
                  obtain rfl := Option.some.inj h
                  exact f12
                · rcases of_ite h with ⟨-, h⟩ | ⟨-, h⟩
                  · obtain ⟨m25, q13, h⟩ := of_bind h
                    have f14 : Fr [(94, 94, some 13), (94, 94, some 14), (94, 94, some 15), (94, 94, some 16)] A m25 := Fr.eq q13 (Fr.up (Fr.up f2 (FrC.up FrC.bs rfl)) (FrC.up (FrC.up (FrC.sm (FrC.up FrC.bs rfl) FrC.bs) rfl) rfl))
                    obtain rfl := Option.some.inj h
                    exact f14
                  · rcases of_ite h with ⟨-, h⟩ | ⟨-, h⟩
                    · obtain ⟨m28, q15, h⟩ := of_bind h
                      have f16 : Fr [(94, 94, some 13), (94, 94, some 14), (94, 94, some 15), (94, 94, some 16)] A m28 := Fr.eq q15 (Fr.up (Fr.up f2 (FrC.up FrC.bs rfl)) (FrC.up (FrC.up (FrC.sm (FrC.up FrC.bs rfl) FrC.bs) rfl) rfl))
                      obtain rfl := Option.some.inj h
                      exact f16
                    · rcases of_ite h with ⟨-, h⟩ | ⟨-, h⟩
                      · obtain ⟨m33, q17, h⟩ := of_bind h
                        have f18 : Fr [(94, 94, some 13), (94, 94, some 14), (94, 94, some 15), (94, 94, some 16)] A m33 := Fr.eq q17 (Fr.up (Fr.up f2 (FrC.up FrC.bs rfl)) (FrC.up (FrC.up (FrC.sm (FrC.up FrC.bs rfl) FrC.bs) rfl) rfl))
                        obtain rfl := Option.some.inj h
                        exact f18
                      · obtain ⟨m31, q19, h⟩ := of_bind h
                        have f20 : Fr [(94, 94, some 13), (94, 94, some 14), (94, 94, some 15), (94, 94, some 16)] A m31 := Fr.eq q19 (Fr.up (Fr.up f2 (FrC.up FrC.bs rfl)) (FrC.up (FrC.up (FrC.sm (FrC.up FrC.bs rfl) FrC.bs) rfl) rfl))
                        obtain rfl := Option.some.inj h
                        exact f20
      · obtain ⟨m35, q21, h⟩ := of_bind h
        have f22 : Fr [(94, 94, some 13), (94, 94, some 14), (94, 94, some 15), (94, 94, some 16)] A m35 := Fr.eq q21 (Fr.up (Fr.up Fr.rf (FrC.up FrC.bs rfl)) (FrC.up (FrC.up (FrC.sm (FrC.up FrC.bs rfl) FrC.bs) rfl) rfl))
        obtain ⟨e37, q23, h⟩ := of_bind h
        have f24 : Fr [(94, 94, some 13), (94, 94, some 14), (94, 94, some 15), (94, 94, some 16)] A e37 := Fr.tr f22 ((Fr.lp (ms := (fun (x : Nat → Nat → Int32) => x)) (mr := (fun (x : Nat → Nat → Int32) => x)) (w_cX11_next_188 ) q23).wd rfl)
        exact Fr.tr f24 ((w_jX11_next_264 h).wd rfl)
    · obtain ⟨e39, q25, h⟩ := of_bind h
      have f26 : Fr [(94, 94, some 13), (94, 94, some 14), (94, 94, some 15), (94, 94, some 16)] A e39 := Fr.tr (Fr.up Fr.rf (FrC.up FrC.bs rfl)) ((Fr.lp (ms := (fun (x : Nat → Nat → Int32) => x)) (mr := (fun (x : Nat → Nat → Int32) => x)) (w_cX11_next_110 ) q25).wd rfl)
      exact Fr.tr f26 ((w_jX11_next_149 h).wd rfl)
  · obtain ⟨m41, q27, h⟩ := of_bind h
    have f28 : Fr [(94, 94, some 13), (94, 94, some 14), (94, 94, some 15), (94, 94, some 16)] A m41 := Fr.eq q27 (Fr.up (Fr.up Fr.rf (FrC.up FrC.bs rfl)) (FrC.up (FrC.up (FrC.sm (FrC.up FrC.bs rfl) FrC.bs) rfl) rfl))
    obtain rfl := Option.some.inj h
    exact (Fr.up f28 (FrC.up FrC.bs rfl))
theorem w_fX11_next {A : Nat → Nat → Int32} {z : (Nat → Nat → Int32)} (h : fX11_next A = some z) : Fr [(94, 94, some 13), (94, 94, some 14), (94, 94, some 15), (94, 94, some 16)] A z := by
  unfold fX11_next at h
  obtain ⟨e1, q1, h⟩ := of_bind h
  have f2 : Fr [(94, 94, some 13), (94, 94, some 14), (94, 94, some 15), (94, 94, some 16)] A e1 := Fr.tr (Fr.up Fr.rf (FrC.up FrC.bs rfl)) ((Fr.lp (ms := (fun (x : Nat → Nat → Int32) => x)) (mr := (fun (x : Nat → Nat → Int32) => x)) (w_cX11_next_8 ) q1).wd rfl)
  exact Fr.tr f2 ((w_jX11_next_60 h).wd rfl)
theorem w_fX11_addStep {A : Nat → Nat → Int32} {l1 : Int32} {l2 : Int32} {z : (Nat → Nat → Int32)} (h : fX11_addStep A l1 l2 = some z) : Fr [(94, 94, some 10), (98, 98, none), (99, 99, none)] A z := by
  unfold fX11_addStep at h
  obtain ⟨-, h⟩ := of_guard h
  obtain ⟨m2, q1, h⟩ := of_bind h
  have f2 : Fr [(94, 94, some 10), (98, 98, none), (99, 99, none)] A m2 := Fr.eq q1 (Fr.up Fr.rf (FrC.up FrC.bs rfl))
  obtain ⟨-, h⟩ := of_guard h
  obtain ⟨m5, q3, h⟩ := of_bind h
  have f4 : Fr [(94, 94, some 10), (98, 98, none), (99, 99, none)] A m5 := Fr.eq q3 (Fr.up f2 (FrC.up FrC.bs rfl))
  obtain rfl := Option.some.inj h
  exact (Fr.up f4 (FrC.up FrC.bs rfl))
theorem w_cX11_all_4 {rc : Nat → (Nat → Nat → Int32) → Option (Nat → Nat → Int32)} (hrc : ∀ k A z, rc k A = some z → Fr [(94, 94, some 10), (94, 94, some 11), (94, 94, some 12), (94, 94, some 13), (94, 94, some 14), (94, 94, some 15), (94, 94, some 16), (98, 98, none), (99, 99, none)] A z) (s : (Nat → Nat → Int32)) (z : ((Nat → Nat → Int32) ⊕ (Nat → Nat → Int32))) (h : cX11_all_4 rc s = some z) : Fr [(94, 94, some 10), (94, 94, some 11), (94, 94, some 12), (94, 94, some 13), (94, 94, some 14), (94, 94, some 15), (94, 94, some 16), (98, 98, none), (99, 99, none)] s ((Sum.elim (fun (x : Nat → Nat → Int32) => x) (fun (x : Nat → Nat → Int32) => x)) z) := by
  unfold cX11_all_4 at h
  rcases of_ite h with ⟨-, h⟩ | ⟨-, h⟩
  · obtain rfl := Option.some.inj h
    exact Fr.rf
  · obtain ⟨r3, q1, h⟩ := of_bind h
    have f2 : Fr [(94, 94, some 10), (94, 94, some 11), (94, 94, some 12), (94, 94, some 13), (94, 94, some 14), (94, 94, some 15), (94, 94, some 16), (98, 98, none), (99, 99, none)] s r3 := Fr.tr Fr.rf ((w_fX11_next q1).wd rfl)
    obtain ⟨r5, q3, h⟩ := of_bind h
    have f4 : Fr [(94, 94, some 10), (94, 94, some 11), (94, 94, some 12), (94, 94, some 13), (94, 94, some 14), (94, 94, some 15), (94, 94, some 16), (98, 98, none), (99, 99, none)] s r5 := Fr.tr f2 ((hrc _ _ _ q3).wd rfl)
    obtain ⟨r7, q5, h⟩ := of_bind h
    have f6 : Fr [(94, 94, some 10), (94, 94, some 11), (94, 94, some 12), (94, 94, some 13), (94, 94, some 14), (94, 94, some 15), (94, 94, some 16), (98, 98, none), (99, 99, none)] s r7 := Fr.tr f4 ((w_fX11_addStep q5).wd rfl)
    obtain rfl := Option.some.inj h
    exact f6
theorem w_fX11_all {rc : Nat → (Nat → Nat → Int32) → Option (Nat → Nat → Int32)} (hrc : ∀ k A z, rc k A = some z → Fr [(94, 94, some 10), (94, 94, some 11), (94, 94, some 12), (94, 94, some 13), (94, 94, some 14), (94, 94, some 15), (94, 94, some 16), (98, 98, none), (99, 99, none)] A z) {A : Nat → Nat → Int32} {z : (Nat → Nat → Int32)} (h : fX11_all rc A = some z) : Fr [(94, 94, some 10), (94, 94, some 11), (94, 94, some 12), (94, 94, some 13), (94, 94, some 14), (94, 94, some 15), (94, 94, some 16), (98, 98, none), (99, 99, none)] A z := by
  unfold fX11_all at h
  obtain ⟨r1, q1, h⟩ := of_bind h
  have f2 : Fr [(94, 94, some 10), (94, 94, some 11), (94, 94, some 12), (94, 94, some 13), (94, 94, some 14), (94, 94, some 15), (94, 94, some 16), (98, 98, none), (99, 99, none)] A r1 := Fr.tr Fr.rf ((hrc _ _ _ q1).wd rfl)
  obtain ⟨e3, q3, h⟩ := of_bind h
  have f4 : Fr [(94, 94, some 10), (94, 94, some 11), (94, 94, some 12), (94, 94, some 13), (94, 94, some 14), (94, 94, some 15), (94, 94, some 16), (98, 98, none), (99, 99, none)] A e3 := Fr.tr f2 ((Fr.lp (ms := (fun (x : Nat → Nat → Int32) => x)) (mr := (fun (x : Nat → Nat → Int32) => x)) (w_cX11_all_4 hrc ) q3).wd rfl)
  obtain rfl := Option.some.inj h
  exact f4
theorem w_cX11_either_4 {rc : Nat → (Nat → Nat → Int32) → Option (Nat → Nat → Int32)} (hrc : ∀ k A z, rc k A = some z → Fr [(94, 94, some 10), (94, 94, some 11), (94, 94, some 12), (94, 94, some 13), (94, 94, some 14), (94, 94, some 15), (94, 94, some 16), (98, 98, none), (99, 99, none)] A z) (s : (Nat → Nat → Int32)) (z : ((Nat → Nat → Int32) ⊕ (Nat → Nat → Int32))) (h : cX11_either_4 rc s = some z) : Fr [(94, 94, some 10), (94, 94, some 11), (94, 94, some 12), (94, 94, some 13), (94, 94, some 14), (94, 94, some 15), (94, 94, some 16), (98, 98, none), (99, 99, none)] s ((Sum.elim (fun (x : Nat → Nat → Int32) => x) (fun (x : Nat → Nat → Int32) => x)) z) := by
  unfold cX11_either_4 at h
  rcases of_ite h with ⟨-, h⟩ | ⟨-, h⟩
  · obtain rfl := Option.some.inj h
    exact Fr.rf
  · obtain ⟨r3, q1, h⟩ := of_bind h
    have f2 : Fr [(94, 94, some 10), (94, 94, some 11), (94, 94, some 12), (94, 94, some 13), (94, 94, some 14), (94, 94, some 15), (94, 94, some 16), (98, 98, none), (99, 99, none)] s r3 := Fr.tr Fr.rf ((w_fX11_next q1).wd rfl)
    obtain ⟨r5, q3, h⟩ := of_bind h
    have f4 : Fr [(94, 94, some 10), (94, 94, some 11), (94, 94, some 12), (94, 94, some 13), (94, 94, some 14), (94, 94, some 15), (94, 94, some 16), (98, 98, none), (99, 99, none)] s r5 := Fr.tr f2 ((w_fX11_all hrc q3).wd rfl)
    obtain ⟨r7, q5, h⟩ := of_bind h
    have f6 : Fr [(94, 94, some 10), (94, 94, some 11), (94, 94, some 12), (94, 94, some 13), (94, 94, some 14), (94, 94, some 15), (94, 94, some 16), (98, 98, none), (99, 99, none)] s r7 := Fr.tr f4 ((w_fX11_addStep q5).wd rfl)
    obtain rfl := Option.some.inj h
    exact f6
theorem w_gX11_either {rc : Nat → (Nat → Nat → Int32) → Option (Nat → Nat → Int32)} (hrc : ∀ k A z, rc k A = some z → Fr [(94, 94, some 10), (94, 94, some 11), (94, 94, some 12), (94, 94, some 13), (94, 94, some 14), (94, 94, some 15), (94, 94, some 16), (98, 98, none), (99, 99, none)] A z) {A : Nat → Nat → Int32} {z : (Nat → Nat → Int32)} (h : gX11_either rc A = some z) : Fr [(94, 94, some 10), (94, 94, some 11), (94, 94, some 12), (94, 94, some 13), (94, 94, some 14), (94, 94, some 15), (94, 94, some 16), (98, 98, none), (99, 99, none)] A z := by
  unfold gX11_either at h
  obtain ⟨r1, q1, h⟩ := of_bind h
  have f2 : Fr [(94, 94, some 10), (94, 94, some 11), (94, 94, some 12), (94, 94, some 13), (94, 94, some 14), (94, 94, some 15), (94, 94, some 16), (98, 98, none), (99, 99, none)] A r1 := Fr.tr Fr.rf ((w_fX11_all hrc q1).wd rfl)
  obtain ⟨e3, q3, h⟩ := of_bind h
  have f4 : Fr [(94, 94, some 10), (94, 94, some 11), (94, 94, some 12), (94, 94, some 13), (94, 94, some 14), (94, 94, some 15), (94, 94, some 16), (98, 98, none), (99, 99, none)] A e3 := Fr.tr f2 ((Fr.lp (ms := (fun (x : Nat → Nat → Int32) => x)) (mr := (fun (x : Nat → Nat → Int32) => x)) (w_cX11_either_4 hrc ) q3).wd rfl)
  obtain rfl := Option.some.inj h
  exact f4
theorem w_cX11_term_4 {rc : Nat → (Nat → Nat → Int32) → Option (Nat → Nat → Int32)} (hrc : ∀ k A z, rc k A = some z → Fr [(94, 94, some 10), (94, 94, some 11), (94, 94, some 12), (94, 94, some 13), (94, 94, some 14), (94, 94, some 15), (94, 94, some 16), (98, 98, none), (99, 99, none)] A z) (s : (Nat → Nat → Int32)) (z : ((Nat → Nat → Int32) ⊕ (Nat → Nat → Int32))) (h : cX11_term_4 rc s = some z) : Fr [(94, 94, some 10), (94, 94, some 11), (94, 94, some 12), (94, 94, some 13), (94, 94, some 14), (94, 94, some 15), (94, 94, some 16), (98, 98, none), (99, 99, none)] s ((Sum.elim (fun (x : Nat → Nat → Int32) => x) (fun (x : Nat → Nat → Int32) => x)) z) := by
  unfold cX11_term_4 at h
  rcases of_ite h with ⟨-, h⟩ | ⟨-, h⟩
  · obtain rfl := Option.some.inj h
    exact Fr.rf
  · obtain ⟨r3, q1, h⟩ := of_bind h
    have f2 : Fr [(94, 94, some 10), (94, 94, some 11), (94, 94, some 12), (94, 94, some 13), (94, 94, some 14), (94, 94, some 15), (94, 94, some 16), (98, 98, none), (99, 99, none)] s r3 := Fr.tr Fr.rf ((w_fX11_next q1).wd rfl)
    obtain ⟨r5, q3, h⟩ := of_bind h
    have f4 : Fr [(94, 94, some 10), (94, 94, some 11), (94, 94, some 12), (94, 94, some 13), (94, 94, some 14), (94, 94, some 15), (94, 94, some 16), (98, 98, none), (99, 99, none)] s r5 := Fr.tr f2 ((hrc _ _ _ q3).wd rfl)
    obtain ⟨r7, q5, h⟩ := of_bind h
    have f6 : Fr [(94, 94, some 10), (94, 94, some 11), (94, 94, some 12), (94, 94, some 13), (94, 94, some 14), (94, 94, some 15), (94, 94, some 16), (98, 98, none), (99, 99, none)] s r7 := Fr.tr f4 ((w_fX11_addStep q5).wd rfl)
    obtain rfl := Option.some.inj h
    exact f6
theorem w_fX11_term {rc : Nat → (Nat → Nat → Int32) → Option (Nat → Nat → Int32)} (hrc : ∀ k A z, rc k A = some z → Fr [(94, 94, some 10), (94, 94, some 11), (94, 94, some 12), (94, 94, some 13), (94, 94, some 14), (94, 94, some 15), (94, 94, some 16), (98, 98, none), (99, 99, none)] A z) {A : Nat → Nat → Int32} {z : (Nat → Nat → Int32)} (h : fX11_term rc A = some z) : Fr [(94, 94, some 10), (94, 94, some 11), (94, 94, some 12), (94, 94, some 13), (94, 94, some 14), (94, 94, some 15), (94, 94, some 16), (98, 98, none), (99, 99, none)] A z := by
  unfold fX11_term at h
  obtain ⟨r1, q1, h⟩ := of_bind h
  have f2 : Fr [(94, 94, some 10), (94, 94, some 11), (94, 94, some 12), (94, 94, some 13), (94, 94, some 14), (94, 94, some 15), (94, 94, some 16), (98, 98, none), (99, 99, none)] A r1 := Fr.tr Fr.rf ((hrc _ _ _ q1).wd rfl)
  obtain ⟨e3, q3, h⟩ := of_bind h
  have f4 : Fr [(94, 94, some 10), (94, 94, some 11), (94, 94, some 12), (94, 94, some 13), (94, 94, some 14), (94, 94, some 15), (94, 94, some 16), (98, 98, none), (99, 99, none)] A e3 := Fr.tr f2 ((Fr.lp (ms := (fun (x : Nat → Nat → Int32) => x)) (mr := (fun (x : Nat → Nat → Int32) => x)) (w_cX11_term_4 hrc ) q3).wd rfl)
  obtain rfl := Option.some.inj h
  exact f4
theorem w_jX11_sum_22_4 {rc : Nat → (Nat → Nat → Int32) → Option (Nat → Nat → Int32)} (hrc : ∀ k A z, rc k A = some z → Fr [(94, 94, some 10), (94, 94, some 11), (94, 94, some 12), (94, 94, some 13), (94, 94, some 14), (94, 94, some 15), (94, 94, some 16), (98, 98, none), (99, 99, none)] A z) {A : Nat → Nat → Int32} {z : ((Nat → Nat → Int32) ⊕ (Nat → Nat → Int32))} (h : jX11_sum_22_4 rc A = some z) : Fr [(94, 94, some 10), (94, 94, some 11), (94, 94, some 12), (94, 94, some 13), (94, 94, some 14), (94, 94, some 15), (94, 94, some 16), (98, 98, none), (99, 99, none)] A ((Sum.elim (fun (x : Nat → Nat → Int32) => x) (fun (x : Nat → Nat → Int32) => x)) z) := by
  unfold jX11_sum_22_4 at h
  obtain ⟨r1, q1, h⟩ := of_bind h
  have f2 : Fr [(94, 94, some 10), (94, 94, some 11), (94, 94, some 12), (94, 94, some 13), (94, 94, some 14), (94, 94, some 15), (94, 94, some 16), (98, 98, none), (99, 99, none)] A r1 := Fr.tr Fr.rf ((w_fX11_next q1).wd rfl)
  obtain ⟨r3, q3, h⟩ := of_bind h
  have f4 : Fr [(94, 94, some 10), (94, 94, some 11), (94, 94, some 12), (94, 94, some 13), (94, 94, some 14), (94, 94, some 15), (94, 94, some 16), (98, 98, none), (99, 99, none)] A r3 := Fr.tr f2 ((w_fX11_term hrc q3).wd rfl)
  obtain ⟨r5, q5, h⟩ := of_bind h
  have f6 : Fr [(94, 94, some 10), (94, 94, some 11), (94, 94, some 12), (94, 94, some 13), (94, 94, some 14), (94, 94, some 15), (94, 94, some 16), (98, 98, none), (99, 99, none)] A r5 := Fr.tr f4 ((w_fX11_addStep q5).wd rfl)
  obtain rfl := Option.some.inj h
  exact f6
theorem w_cX11_sum_4 {rc : Nat → (Nat → Nat → Int32) → Option (Nat → Nat → Int32)} (hrc : ∀ k A z, rc k A = some z → Fr [(94, 94, some 10), (94, 94, some 11), (94, 94, some 12), (94, 94, some 13), (94, 94, some 14), (94, 94, some 15), (94, 94, some 16), (98, 98, none), (99, 99, none)] A z) (s : (Nat → Nat → Int32)) (z : ((Nat → Nat → Int32) ⊕ (Nat → Nat → Int32))) (h : cX11_sum_4 rc s = some z) : Fr [(94, 94, some 10), (94, 94, some 11), (94, 94, some 12), (94, 94, some 13), (94, 94, some 14), (94, 94, some 15), (94, 94, some 16), (98, 98, none), (99, 99, none)] s ((Sum.elim (fun (x : Nat → Nat → Int32) => x) (fun (x : Nat → Nat → Int32) => x)) z) := by
  unfold cX11_sum_4 at h
  rcases of_ite h with ⟨-, h⟩ | ⟨-, h⟩
  · rcases of_ite h with ⟨-, h⟩ | ⟨-, h⟩
    · obtain rfl := Option.some.inj h
      exact Fr.rf
    · exact Fr.tr Fr.rf ((w_jX11_sum_22_4 hrc h).wd rfl)
  · exact Fr.tr Fr.rf ((w_jX11_sum_22_4 hrc h).wd rfl)
theorem w_fX11_sum {rc : Nat → (Nat → Nat → Int32) → Option (Nat → Nat → Int32)} (hrc : ∀ k A z, rc k A = some z → Fr [(94, 94, some 10), (94, 94, some 11), (94, 94, some 12), (94, 94, some 13), (94, 94, some 14), (94, 94, some 15), (94, 94, some 16), (98, 98, none), (99, 99, none)] A z) {A : Nat → Nat → Int32} {z : (Nat → Nat → Int32)} (h : fX11_sum rc A = some z) : Fr [(94, 94, some 10), (94, 94, some 11), (94, 94, some 12), (94, 94, some 13), (94, 94, some 14), (94, 94, some 15), (94, 94, some 16), (98, 98, none), (99, 99, none)] A z := by
  unfold fX11_sum at h
  obtain ⟨r1, q1, h⟩ := of_bind h
  have f2 : Fr [(94, 94, some 10), (94, 94, some 11), (94, 94, some 12), (94, 94, some 13), (94, 94, some 14), (94, 94, some 15), (94, 94, some 16), (98, 98, none), (99, 99, none)] A r1 := Fr.tr Fr.rf ((w_fX11_term hrc q1).wd rfl)
  obtain ⟨e3, q3, h⟩ := of_bind h
  have f4 : Fr [(94, 94, some 10), (94, 94, some 11), (94, 94, some 12), (94, 94, some 13), (94, 94, some 14), (94, 94, some 15), (94, 94, some 16), (98, 98, none), (99, 99, none)] A e3 := Fr.tr f2 ((Fr.lp (ms := (fun (x : Nat → Nat → Int32) => x)) (mr := (fun (x : Nat → Nat → Int32) => x)) (w_cX11_sum_4 hrc ) q3).wd rfl)
  obtain rfl := Option.some.inj h
  exact f4
theorem w_fX11_faulty {A : Nat → Nat → Int32} {z : (Nat → Nat → Int32)} (h : fX11_faulty A = some z) : Fr [(94, 94, some 11)] A z := by
  unfold fX11_faulty at h
  rcases of_ite h with ⟨-, h⟩ | ⟨-, h⟩
  · obtain rfl := Option.some.inj h
    exact Fr.rf
  · obtain rfl := Option.some.inj h
    exact (Fr.up Fr.rf (FrC.up FrC.bs rfl))
theorem w_fX11_opens {A : Nat → Nat → Int32} {z : (Int32 × (Nat → Nat → Int32))} (h : fX11_opens A = some z) : Fr [(94, 94, some 11), (94, 94, some 12), (94, 94, some 13), (94, 94, some 14), (94, 94, some 15), (94, 94, some 16)] A z.2 := by
  unfold fX11_opens at h
  rcases of_ite h with ⟨-, h⟩ | ⟨-, h⟩
  · obtain ⟨r4, q1, h⟩ := of_bind h
    have f2 : Fr [(94, 94, some 11), (94, 94, some 12), (94, 94, some 13), (94, 94, some 14), (94, 94, some 15), (94, 94, some 16)] A r4 := Fr.tr Fr.rf ((w_fX11_faulty q1).wd rfl)
    obtain rfl := Option.some.inj h
    exact f2
  · obtain ⟨r2, q3, h⟩ := of_bind h
    have f4 : Fr [(94, 94, some 11), (94, 94, some 12), (94, 94, some 13), (94, 94, some 14), (94, 94, some 15), (94, 94, some 16)] A r2 := Fr.tr (Fr.up Fr.rf (FrC.up FrC.bs rfl)) ((w_fX11_next q3).wd rfl)
    obtain rfl := Option.some.inj h
    exact f4
theorem w_jX11_denied_61 {rc : Nat → (Nat → Nat → Int32) → Option (Nat → Nat → Int32)} (hrc : ∀ k A z, rc k A = some z → Fr [(94, 94, some 10), (94, 94, some 11), (94, 94, some 12), (94, 94, some 13), (94, 94, some 14), (94, 94, some 15), (94, 94, some 16), (98, 98, none), (99, 99, none)] A z) {A : Nat → Nat → Int32} {z : (Nat → Nat → Int32)} (h : jX11_denied_61 rc A = some z) : Fr [(94, 94, some 10), (94, 94, some 11), (94, 94, some 12), (94, 94, some 13), (94, 94, some 14), (94, 94, some 15), (94, 94, some 16), (98, 98, none), (99, 99, none)] A z := by
  unfold jX11_denied_61 at h
  obtain ⟨r1, q1, h⟩ := of_bind h
  have f2 : Fr [(94, 94, some 10), (94, 94, some 11), (94, 94, some 12), (94, 94, some 13), (94, 94, some 14), (94, 94, some 15), (94, 94, some 16), (98, 98, none), (99, 99, none)] A r1 := Fr.tr Fr.rf ((w_fX11_next q1).wd rfl)
  obtain ⟨r3, q3, h⟩ := of_bind h
  have f4 : Fr [(94, 94, some 10), (94, 94, some 11), (94, 94, some 12), (94, 94, some 13), (94, 94, some 14), (94, 94, some 15), (94, 94, some 16), (98, 98, none), (99, 99, none)] A r3 := Fr.tr f2 ((w_fX11_sum hrc q3).wd rfl)
  obtain ⟨r5, q5, h⟩ := of_bind h
  have f6 : Fr [(94, 94, some 10), (94, 94, some 11), (94, 94, some 12), (94, 94, some 13), (94, 94, some 14), (94, 94, some 15), (94, 94, some 16), (98, 98, none), (99, 99, none)] A r5 := Fr.tr f4 ((w_fX11_addStep q5).wd rfl)
  obtain rfl := Option.some.inj h
  exact f6
theorem w_gX11_denied {rc : Nat → (Nat → Nat → Int32) → Option (Nat → Nat → Int32)} (hrc : ∀ k A z, rc k A = some z → Fr [(94, 94, some 10), (94, 94, some 11), (94, 94, some 12), (94, 94, some 13), (94, 94, some 14), (94, 94, some 15), (94, 94, some 16), (98, 98, none), (99, 99, none)] A z) {A : Nat → Nat → Int32} {z : (Nat → Nat → Int32)} (h : gX11_denied rc A = some z) : Fr [(94, 94, some 10), (94, 94, some 11), (94, 94, some 12), (94, 94, some 13), (94, 94, some 14), (94, 94, some 15), (94, 94, some 16), (98, 98, none), (99, 99, none)] A z := by
  unfold gX11_denied at h
  rcases of_ite h with ⟨-, h⟩ | ⟨-, h⟩
  · obtain ⟨r3, q1, h⟩ := of_bind h
    have f2 : Fr [(94, 94, some 10), (94, 94, some 11), (94, 94, some 12), (94, 94, some 13), (94, 94, some 14), (94, 94, some 15), (94, 94, some 16), (98, 98, none), (99, 99, none)] A r3 := Fr.tr Fr.rf ((w_fX11_sum hrc q1).wd rfl)
    rcases of_ite h with ⟨-, h⟩ | ⟨-, h⟩
    · rcases of_ite h with ⟨-, h⟩ | ⟨-, h⟩
      · obtain rfl := Option.some.inj h
        exact f2
      · exact Fr.tr f2 ((w_jX11_denied_61 hrc h).wd rfl)
    · exact Fr.tr f2 ((w_jX11_denied_61 hrc h).wd rfl)
  · obtain ⟨r9, q3, h⟩ := of_bind h
    have f4 : Fr [(94, 94, some 10), (94, 94, some 11), (94, 94, some 12), (94, 94, some 13), (94, 94, some 14), (94, 94, some 15), (94, 94, some 16), (98, 98, none), (99, 99, none)] A r9.2 := Fr.tr Fr.rf ((w_fX11_opens q3).wd rfl)
    rcases of_ite h with ⟨-, h⟩ | ⟨-, h⟩
    · obtain rfl := Option.some.inj h
      exact f4
    · obtain ⟨r13, q5, h⟩ := of_bind h
      have f6 : Fr [(94, 94, some 10), (94, 94, some 11), (94, 94, some 12), (94, 94, some 13), (94, 94, some 14), (94, 94, some 15), (94, 94, some 16), (98, 98, none), (99, 99, none)] A r13 := Fr.tr f4 ((hrc _ _ _ q5).wd rfl)
      obtain ⟨r15, q7, h⟩ := of_bind h
      have f8 : Fr [(94, 94, some 10), (94, 94, some 11), (94, 94, some 12), (94, 94, some 13), (94, 94, some 14), (94, 94, some 15), (94, 94, some 16), (98, 98, none), (99, 99, none)] A r15 := Fr.tr (Fr.up f6 (FrC.up FrC.bs rfl)) ((w_fX11_addStep q7).wd rfl)
      obtain rfl := Option.some.inj h
      exact f8
theorem w_jX11_one_65 {rc : Nat → (Nat → Nat → Int32) → Option (Nat → Nat → Int32)} (hrc : ∀ k A z, rc k A = some z → Fr [(94, 94, some 10), (94, 94, some 11), (94, 94, some 12), (94, 94, some 13), (94, 94, some 14), (94, 94, some 15), (94, 94, some 16), (98, 98, none), (99, 99, none)] A z) {A : Nat → Nat → Int32} {z : (Nat → Nat → Int32)} (h : jX11_one_65 rc A = some z) : Fr [(94, 94, some 10), (94, 94, some 11), (94, 94, some 12), (94, 94, some 13), (94, 94, some 14), (94, 94, some 15), (94, 94, some 16), (98, 98, none), (99, 99, none)] A z := by
  unfold jX11_one_65 at h
  rcases of_ite h with ⟨-, h⟩ | ⟨-, h⟩
  · rcases of_ite h with ⟨-, h⟩ | ⟨-, h⟩
    · obtain ⟨r5, q1, h⟩ := of_bind h
      have f2 : Fr [(94, 94, some 10), (94, 94, some 11), (94, 94, some 12), (94, 94, some 13), (94, 94, some 14), (94, 94, some 15), (94, 94, some 16), (98, 98, none), (99, 99, none)] A r5 := Fr.tr Fr.rf ((w_fX11_faulty q1).wd rfl)
      obtain rfl := Option.some.inj h
      exact f2
    · obtain ⟨r7, q3, h⟩ := of_bind h
      have f4 : Fr [(94, 94, some 10), (94, 94, some 11), (94, 94, some 12), (94, 94, some 13), (94, 94, some 14), (94, 94, some 15), (94, 94, some 16), (98, 98, none), (99, 99, none)] A r7.2 := Fr.tr Fr.rf ((w_fX11_opens q3).wd rfl)
      rcases of_ite h with ⟨-, h⟩ | ⟨-, h⟩
      · obtain rfl := Option.some.inj h
        exact f4
      · obtain ⟨r11, q5, h⟩ := of_bind h
        have f6 : Fr [(94, 94, some 10), (94, 94, some 11), (94, 94, some 12), (94, 94, some 13), (94, 94, some 14), (94, 94, some 15), (94, 94, some 16), (98, 98, none), (99, 99, none)] A r11 := Fr.tr f4 ((hrc _ _ _ q5).wd rfl)
        rcases of_ite h with ⟨-, h⟩ | ⟨-, h⟩
        · obtain ⟨r17, q7, h⟩ := of_bind h
          have f8 : Fr [(94, 94, some 10), (94, 94, some 11), (94, 94, some 12), (94, 94, some 13), (94, 94, some 14), (94, 94, some 15), (94, 94, some 16), (98, 98, none), (99, 99, none)] A r17 := Fr.tr f6 ((w_fX11_faulty q7).wd rfl)
          obtain rfl := Option.some.inj h
          exact f8
        · obtain ⟨r15, q9, h⟩ := of_bind h
          have f10 : Fr [(94, 94, some 10), (94, 94, some 11), (94, 94, some 12), (94, 94, some 13), (94, 94, some 14), (94, 94, some 15), (94, 94, some 16), (98, 98, none), (99, 99, none)] A r15 := Fr.tr (Fr.up f6 (FrC.up FrC.bs rfl)) ((w_fX11_next q9).wd rfl)
          obtain rfl := Option.some.inj h
          exact f10
  · obtain ⟨r19, q11, h⟩ := of_bind h
    have f12 : Fr [(94, 94, some 10), (94, 94, some 11), (94, 94, some 12), (94, 94, some 13), (94, 94, some 14), (94, 94, some 15), (94, 94, some 16), (98, 98, none), (99, 99, none)] A r19.2 := Fr.tr Fr.rf ((w_fX11_opens q11).wd rfl)
    rcases of_ite h with ⟨-, h⟩ | ⟨-, h⟩
    · obtain rfl := Option.some.inj h
      exact f12
    · obtain ⟨r23, q13, h⟩ := of_bind h
      have f14 : Fr [(94, 94, some 10), (94, 94, some 11), (94, 94, some 12), (94, 94, some 13), (94, 94, some 14), (94, 94, some 15), (94, 94, some 16), (98, 98, none), (99, 99, none)] A r23 := Fr.tr f12 ((hrc _ _ _ q13).wd rfl)
      obtain ⟨r25, q15, h⟩ := of_bind h
      have f16 : Fr [(94, 94, some 10), (94, 94, some 11), (94, 94, some 12), (94, 94, some 13), (94, 94, some 14), (94, 94, some 15), (94, 94, some 16), (98, 98, none), (99, 99, none)] A r25 := Fr.tr (Fr.up f14 (FrC.up FrC.bs rfl)) ((w_fX11_addStep q15).wd rfl)
      obtain rfl := Option.some.inj h
      exact f16
theorem w_gX11_one {rc : Nat → (Nat → Nat → Int32) → Option (Nat → Nat → Int32)} (hrc : ∀ k A z, rc k A = some z → Fr [(94, 94, some 10), (94, 94, some 11), (94, 94, some 12), (94, 94, some 13), (94, 94, some 14), (94, 94, some 15), (94, 94, some 16), (98, 98, none), (99, 99, none)] A z) {A : Nat → Nat → Int32} {z : (Nat → Nat → Int32)} (h : gX11_one rc A = some z) : Fr [(94, 94, some 10), (94, 94, some 11), (94, 94, some 12), (94, 94, some 13), (94, 94, some 14), (94, 94, some 15), (94, 94, some 16), (98, 98, none), (99, 99, none)] A z := by
  unfold gX11_one at h
  rcases of_ite h with ⟨-, h⟩ | ⟨-, h⟩
  · rcases of_ite h with ⟨-, h⟩ | ⟨-, h⟩
    · obtain ⟨r9, q1, h⟩ := of_bind h
      have f2 : Fr [(94, 94, some 10), (94, 94, some 11), (94, 94, some 12), (94, 94, some 13), (94, 94, some 14), (94, 94, some 15), (94, 94, some 16), (98, 98, none), (99, 99, none)] A r9 := Fr.tr Fr.rf ((w_fX11_addStep q1).wd rfl)
      obtain ⟨r11, q3, h⟩ := of_bind h
      have f4 : Fr [(94, 94, some 10), (94, 94, some 11), (94, 94, some 12), (94, 94, some 13), (94, 94, some 14), (94, 94, some 15), (94, 94, some 16), (98, 98, none), (99, 99, none)] A r11 := Fr.tr f2 ((w_fX11_next q3).wd rfl)
      obtain rfl := Option.some.inj h
      exact f4
    · rcases of_ite h with ⟨-, h⟩ | ⟨-, h⟩
      · rcases of_ite h with ⟨-, h⟩ | ⟨-, h⟩
        · exact Fr.tr Fr.rf ((w_jX11_one_65 hrc h).wd rfl)
        · obtain ⟨r5, q5, h⟩ := of_bind h
          have f6 : Fr [(94, 94, some 10), (94, 94, some 11), (94, 94, some 12), (94, 94, some 13), (94, 94, some 14), (94, 94, some 15), (94, 94, some 16), (98, 98, none), (99, 99, none)] A r5 := Fr.tr Fr.rf ((w_fX11_addStep q5).wd rfl)
          obtain ⟨r7, q7, h⟩ := of_bind h
          have f8 : Fr [(94, 94, some 10), (94, 94, some 11), (94, 94, some 12), (94, 94, some 13), (94, 94, some 14), (94, 94, some 15), (94, 94, some 16), (98, 98, none), (99, 99, none)] A r7 := Fr.tr f6 ((w_fX11_next q7).wd rfl)
          obtain rfl := Option.some.inj h
          exact f8
      · exact Fr.tr Fr.rf ((w_jX11_one_65 hrc h).wd rfl)
  · obtain rfl := Option.some.inj h
    exact Fr.rf
theorem w_rX11 : ∀ {k i : Nat} {A : Nat → Nat → Int32} {z : Nat → Nat → Int32}, rX11 k i A = some z → Fr [(94, 94, some 10), (94, 94, some 11), (94, 94, some 12), (94, 94, some 13), (94, 94, some 14), (94, 94, some 15), (94, 94, some 16), (98, 98, none), (99, 99, none)] A z
  | 0, _, _, _, h => by cases h
  | k + 1, 0, A, z, h => (w_gX11_either (rc := rX11 k) (fun i A z q => w_rX11 q) h).wd rfl
  | k + 1, 1, A, z, h => (w_gX11_denied (rc := rX11 k) (fun i A z q => w_rX11 q) h).wd rfl
  | k + 1, _ + 2, A, z, h => (w_gX11_one (rc := rX11 k) (fun i A z q => w_rX11 q) h).wd rfl
theorem w_fX11_either {k : Nat} {A z : Nat → Nat → Int32} (h : fX11_either k A = some z) : Fr [(94, 94, some 10), (94, 94, some 11), (94, 94, some 12), (94, 94, some 13), (94, 94, some 14), (94, 94, some 15), (94, 94, some 16), (98, 98, none), (99, 99, none)] A z := w_rX11 h
theorem w_fX11_rule {A : Nat → Nat → Int32} {l1 : Int32} {z : (Nat → Nat → Int32)} (h : fX11_rule A l1 = some z) : Fr [(94, 94, some 10), (94, 94, some 11), (94, 94, some 12), (94, 94, some 13), (94, 94, some 14), (94, 94, some 15), (94, 94, some 16), (98, 98, none), (99, 99, none), (100, 100, none)] A z := by
  unfold fX11_rule at h
  rcases of_ite h with ⟨-, h⟩ | ⟨-, h⟩
  · obtain ⟨r16, q1, h⟩ := of_bind h
    have f2 : Fr [(94, 94, some 10), (94, 94, some 11), (94, 94, some 12), (94, 94, some 13), (94, 94, some 14), (94, 94, some 15), (94, 94, some 16), (98, 98, none), (99, 99, none), (100, 100, none)] A r16 := Fr.tr Fr.rf ((w_fX11_faulty q1).wd rfl)
    obtain rfl := Option.some.inj h
    exact f2
  · obtain ⟨r3, q3, h⟩ := of_bind h
    have f4 : Fr [(94, 94, some 10), (94, 94, some 11), (94, 94, some 12), (94, 94, some 13), (94, 94, some 14), (94, 94, some 15), (94, 94, some 16), (98, 98, none), (99, 99, none), (100, 100, none)] A r3 := Fr.tr Fr.rf ((w_fX11_next q3).wd rfl)
    obtain ⟨r5, q5, h⟩ := of_bind h
    have f6 : Fr [(94, 94, some 10), (94, 94, some 11), (94, 94, some 12), (94, 94, some 13), (94, 94, some 14), (94, 94, some 15), (94, 94, some 16), (98, 98, none), (99, 99, none), (100, 100, none)] A r5 := Fr.tr f4 ((w_fX11_either q5).wd rfl)
    rcases of_ite h with ⟨-, h⟩ | ⟨-, h⟩
    · obtain ⟨r14, q7, h⟩ := of_bind h
      have f8 : Fr [(94, 94, some 10), (94, 94, some 11), (94, 94, some 12), (94, 94, some 13), (94, 94, some 14), (94, 94, some 15), (94, 94, some 16), (98, 98, none), (99, 99, none), (100, 100, none)] A r14 := Fr.tr f6 ((w_fX11_faulty q7).wd rfl)
      obtain rfl := Option.some.inj h
      exact f8
    · obtain ⟨r9, q9, h⟩ := of_bind h
      have f10 : Fr [(94, 94, some 10), (94, 94, some 11), (94, 94, some 12), (94, 94, some 13), (94, 94, some 14), (94, 94, some 15), (94, 94, some 16), (98, 98, none), (99, 99, none), (100, 100, none)] A r9 := Fr.tr f6 ((w_fX11_next q9).wd rfl)
      obtain ⟨-, h⟩ := of_guard h
      obtain ⟨m12, q11, h⟩ := of_bind h
      have f12 : Fr [(94, 94, some 10), (94, 94, some 11), (94, 94, some 12), (94, 94, some 13), (94, 94, some 14), (94, 94, some 15), (94, 94, some 16), (98, 98, none), (99, 99, none), (100, 100, none)] A m12 := Fr.eq q11 (Fr.up f10 (FrC.up FrC.bs rfl))
      obtain rfl := Option.some.inj h
      exact f12
theorem w_cX11_text_38 (s : (Int32 × (Nat → Nat → Int32))) (z : ((Int32 × (Nat → Nat → Int32)) ⊕ (Nat → Nat → Int32))) (h : cX11_text_38 s = some z) : Fr [(94, 94, some 10), (94, 94, some 11), (94, 94, some 12), (94, 94, some 13), (94, 94, some 14), (94, 94, some 15), (94, 94, some 16), (98, 98, none), (99, 99, none), (100, 100, none)] s.2 ((Sum.elim (fun (x : Int32 × (Nat → Nat → Int32)) => x.2) (fun (x : Nat → Nat → Int32) => x)) z) := by
  unfold cX11_text_38 at h
  rcases of_ite h with ⟨-, h⟩ | ⟨-, h⟩
  · obtain rfl := Option.some.inj h
    exact Fr.rf
  · rcases of_ite h with ⟨-, h⟩ | ⟨-, h⟩
    · obtain rfl := Option.some.inj h
      exact Fr.rf
    · obtain ⟨r3, q1, h⟩ := of_bind h
      have f2 : Fr [(94, 94, some 10), (94, 94, some 11), (94, 94, some 12), (94, 94, some 13), (94, 94, some 14), (94, 94, some 15), (94, 94, some 16), (98, 98, none), (99, 99, none), (100, 100, none)] s.2 r3 := Fr.tr Fr.rf ((w_fX11_rule q1).wd rfl)
      obtain rfl := Option.some.inj h
      exact f2
theorem w_cX11_text_102 (s : (Int32 × (Nat → Nat → Int32))) (z : ((Int32 × (Nat → Nat → Int32)) ⊕ (Nat → Nat → Int32))) (h : cX11_text_102 s = some z) : Fr [(98, 98, none), (99, 99, none)] s.2 ((Sum.elim (fun (x : Int32 × (Nat → Nat → Int32)) => x.2) (fun (x : Nat → Nat → Int32) => x)) z) := by
  unfold cX11_text_102 at h
  rcases of_ite h with ⟨-, h⟩ | ⟨-, h⟩
  · obtain rfl := Option.some.inj h
    exact Fr.rf
  · obtain ⟨-, h⟩ := of_guard h
    obtain ⟨-, h⟩ := of_guard h
    obtain ⟨m4, q1, h⟩ := of_bind h
    have f2 : Fr [(98, 98, none), (99, 99, none)] s.2 m4 := Fr.eq q1 (Fr.up Fr.rf (FrC.up FrC.bs rfl))
    obtain ⟨-, h⟩ := of_guard h
    obtain ⟨-, h⟩ := of_guard h
    obtain ⟨m8, q3, h⟩ := of_bind h
    have f4 : Fr [(98, 98, none), (99, 99, none)] s.2 m8 := Fr.eq q3 (Fr.up f2 (FrC.up FrC.bs rfl))
    obtain rfl := Option.some.inj h
    exact f4
theorem w_cX11_text_168 (s : (Int32 × (Nat → Nat → Int32))) (z : ((Int32 × (Nat → Nat → Int32)) ⊕ (Nat → Nat → Int32))) (h : cX11_text_168 s = some z) : Fr [(100, 100, none)] s.2 ((Sum.elim (fun (x : Int32 × (Nat → Nat → Int32)) => x.2) (fun (x : Nat → Nat → Int32) => x)) z) := by
  unfold cX11_text_168 at h
  rcases of_ite h with ⟨-, h⟩ | ⟨-, h⟩
  · obtain rfl := Option.some.inj h
    exact Fr.rf
  · obtain ⟨-, h⟩ := of_guard h
    obtain ⟨-, h⟩ := of_guard h
    obtain ⟨m4, q1, h⟩ := of_bind h
    have f2 : Fr [(100, 100, none)] s.2 m4 := Fr.eq q1 (Fr.up Fr.rf (FrC.up FrC.bs rfl))
    obtain rfl := Option.some.inj h
    exact f2
theorem w_jX11_text_80 {A : Nat → Nat → Int32} {z : (Int32 × (Nat → Nat → Int32))} (h : jX11_text_80 A = some z) : Fr [(94, 94, some 4), (94, 94, some 5), (98, 98, none), (99, 99, none), (100, 100, none)] A z.2 := by
  unfold jX11_text_80 at h
  rcases of_ite h with ⟨-, h⟩ | ⟨-, h⟩
  · obtain ⟨e2, q1, h⟩ := of_bind h
    have f2 : Fr [(94, 94, some 4), (94, 94, some 5), (98, 98, none), (99, 99, none), (100, 100, none)] A e2 := Fr.tr (Fr.up Fr.rf (FrC.up FrC.bs rfl)) ((Fr.lp (ms := (fun (x : Int32 × (Nat → Nat → Int32)) => x.2)) (mr := (fun (x : Nat → Nat → Int32) => x)) (w_cX11_text_102 ) q1).wd rfl)
    obtain ⟨e4, q3, h⟩ := of_bind h
    have f4 : Fr [(94, 94, some 4), (94, 94, some 5), (98, 98, none), (99, 99, none), (100, 100, none)] A e4 := Fr.tr f2 ((Fr.lp (ms := (fun (x : Int32 × (Nat → Nat → Int32)) => x.2)) (mr := (fun (x : Nat → Nat → Int32) => x)) (w_cX11_text_168 ) q3).wd rfl)
    obtain rfl := Option.some.inj h
    exact (Fr.up f4 (FrC.up FrC.bs rfl))
  · obtain rfl := Option.some.inj h
    exact (Fr.up Fr.rf (FrC.up FrC.bs rfl))
theorem w_jX11_text_61 {A : Nat → Nat → Int32} {z : (Int32 × (Nat → Nat → Int32))} (h : jX11_text_61 A = some z) : Fr [(94, 94, some 4), (94, 94, some 5), (94, 94, some 11), (98, 98, none), (99, 99, none), (100, 100, none)] A z.2 := by
  unfold jX11_text_61 at h
  rcases of_ite h with ⟨-, h⟩ | ⟨-, h⟩
  · exact Fr.tr Fr.rf ((w_jX11_text_80 h).wd rfl)
  · rcases of_ite h with ⟨-, h⟩ | ⟨-, h⟩
    · exact Fr.tr Fr.rf ((w_jX11_text_80 h).wd rfl)
    · obtain ⟨r3, q1, h⟩ := of_bind h
      have f2 : Fr [(94, 94, some 4), (94, 94, some 5), (94, 94, some 11), (98, 98, none), (99, 99, none), (100, 100, none)] A r3 := Fr.tr Fr.rf ((w_fX11_faulty q1).wd rfl)
      exact Fr.tr f2 ((w_jX11_text_80 h).wd rfl)
theorem w_fX11_text {A : Nat → Nat → Int32} {z : (Int32 × (Nat → Nat → Int32))} (h : fX11_text A = some z) : Fr [(94, 94, some 4), (94, 94, some 5), (94, 94, some 10), (94, 94, some 11), (94, 94, some 12), (94, 94, some 13), (94, 94, some 14), (94, 94, some 15), (94, 94, some 16), (98, 98, none), (99, 99, none), (100, 100, none)] A z.2 := by
  unfold fX11_text at h
  rcases of_ite h with ⟨-, h⟩ | ⟨-, h⟩
  · obtain rfl := Option.some.inj h
    exact Fr.rf
  · obtain ⟨m2, q1, h⟩ := of_bind h
    have f2 : Fr [(94, 94, some 4), (94, 94, some 5), (94, 94, some 10), (94, 94, some 11), (94, 94, some 12), (94, 94, some 13), (94, 94, some 14), (94, 94, some 15), (94, 94, some 16), (98, 98, none), (99, 99, none), (100, 100, none)] A m2 := Fr.eq q1 (Fr.up (Fr.up Fr.rf (FrC.up FrC.bs rfl)) (FrC.up (FrC.up (FrC.sm (FrC.up FrC.bs rfl) FrC.bs) rfl) rfl))
    obtain ⟨m4, q3, h⟩ := of_bind h
    have f4 : Fr [(94, 94, some 4), (94, 94, some 5), (94, 94, some 10), (94, 94, some 11), (94, 94, some 12), (94, 94, some 13), (94, 94, some 14), (94, 94, some 15), (94, 94, some 16), (98, 98, none), (99, 99, none), (100, 100, none)] A m4 := Fr.eq q3 (Fr.up (Fr.up f2 (FrC.up FrC.bs rfl)) (FrC.up (FrC.up (FrC.sm (FrC.up FrC.bs rfl) FrC.bs) rfl) rfl))
    obtain ⟨r6, q5, h⟩ := of_bind h
    have f6 : Fr [(94, 94, some 4), (94, 94, some 5), (94, 94, some 10), (94, 94, some 11), (94, 94, some 12), (94, 94, some 13), (94, 94, some 14), (94, 94, some 15), (94, 94, some 16), (98, 98, none), (99, 99, none), (100, 100, none)] A r6 := Fr.tr f4 ((w_fX11_next q5).wd rfl)
    obtain ⟨e8, q7, h⟩ := of_bind h
    have f8 : Fr [(94, 94, some 4), (94, 94, some 5), (94, 94, some 10), (94, 94, some 11), (94, 94, some 12), (94, 94, some 13), (94, 94, some 14), (94, 94, some 15), (94, 94, some 16), (98, 98, none), (99, 99, none), (100, 100, none)] A e8 := Fr.tr f6 ((Fr.lp (ms := (fun (x : Int32 × (Nat → Nat → Int32)) => x.2)) (mr := (fun (x : Nat → Nat → Int32) => x)) (w_cX11_text_38 ) q7).wd rfl)
    exact Fr.tr f8 ((w_jX11_text_61 h).wd rfl)
theorem w_fX11_force {A : Nat → Nat → Int32} {l1 : Int32} {z : (Int32 × (Nat → Nat → Int32))} (h : fX11_force A l1 = some z) : Fr [(94, 94, some 6)] A z.2 := by
  unfold fX11_force at h
  rcases of_ite h with ⟨-, h⟩ | ⟨-, h⟩
  · obtain rfl := Option.some.inj h
    exact Fr.rf
  · obtain rfl := Option.some.inj h
    exact (Fr.up Fr.rf (FrC.up FrC.bs rfl))
theorem w_cX11_gives_112 (l1 : Int32) (s : (Int32 × Int32 × (Nat → Nat → Int32))) (z : ((Int32 × Int32 × (Nat → Nat → Int32)) ⊕ (Nat → Nat → Int32))) (h : cX11_gives_112 l1 s = some z) : Fr [(101, 101, none)] s.2.2 ((Sum.elim (fun (x : Int32 × Int32 × (Nat → Nat → Int32)) => x.2.2) (fun (x : Nat → Nat → Int32) => x)) z) := by
  unfold cX11_gives_112 at h
  obtain ⟨-, h⟩ := of_guard h
  rcases of_ite h with ⟨-, h⟩ | ⟨-, h⟩
  · obtain rfl := Option.some.inj h
    exact Fr.rf
  · obtain ⟨-, h⟩ := of_guard h
    rcases of_ite h with ⟨-, h⟩ | ⟨-, h⟩
    · obtain ⟨-, h⟩ := of_guard h
      obtain ⟨-, h⟩ := of_guard h
      obtain ⟨m10, q1, h⟩ := of_bind h
      have f2 : Fr [(101, 101, none)] s.2.2 m10 := Fr.eq q1 (Fr.up Fr.rf (FrC.up FrC.bs rfl))
      obtain rfl := Option.some.inj h
      exact f2
    · rcases of_ite h with ⟨-, h⟩ | ⟨-, h⟩
      · obtain ⟨-, h⟩ := of_guard h
        obtain ⟨-, h⟩ := of_guard h
        obtain ⟨-, h⟩ := of_guard h
        obtain ⟨m15, q3, h⟩ := of_bind h
        have f4 : Fr [(101, 101, none)] s.2.2 m15 := Fr.eq q3 (Fr.up Fr.rf (FrC.up FrC.bs rfl))
        obtain rfl := Option.some.inj h
        exact f4
      · rcases of_ite h with ⟨-, h⟩ | ⟨-, h⟩
        · obtain ⟨-, h⟩ := of_guard h
          rcases of_ite h with ⟨-, h⟩ | ⟨-, h⟩
          · obtain ⟨-, h⟩ := of_guard h
            obtain ⟨m23, q5, h⟩ := of_bind h
            have f6 : Fr [(101, 101, none)] s.2.2 m23 := Fr.eq q5 (Fr.up Fr.rf (FrC.up FrC.bs rfl))
            obtain rfl := Option.some.inj h
            exact f6
          · obtain ⟨-, h⟩ := of_guard h
            obtain ⟨m20, q7, h⟩ := of_bind h
            have f8 : Fr [(101, 101, none)] s.2.2 m20 := Fr.eq q7 (Fr.up Fr.rf (FrC.up FrC.bs rfl))
            obtain rfl := Option.some.inj h
            exact f8
        · rcases of_ite h with ⟨-, h⟩ | ⟨-, h⟩
          · obtain ⟨-, h⟩ := of_guard h
            obtain ⟨-, h⟩ := of_guard h
            obtain ⟨m27, q9, h⟩ := of_bind h
            have f10 : Fr [(101, 101, none)] s.2.2 m27 := Fr.eq q9 (Fr.up Fr.rf (FrC.up FrC.bs rfl))
            obtain rfl := Option.some.inj h
            exact f10
          · obtain ⟨-, h⟩ := of_guard h
            obtain ⟨-, h⟩ := of_guard h
            obtain ⟨-, h⟩ := of_guard h
            obtain ⟨-, h⟩ := of_guard h
            obtain ⟨m33, q11, h⟩ := of_bind h
            have f12 : Fr [(101, 101, none)] s.2.2 m33 := Fr.eq q11 (Fr.up Fr.rf (FrC.up FrC.bs rfl))
            obtain rfl := Option.some.inj h
            exact f12
theorem w_jX11_gives_99 {A : Nat → Nat → Int32} {l1 : Int32} {l2 : Int32} {s0 : Int32} {z : (Int32 × (Nat → Nat → Int32))} (h : jX11_gives_99 A l1 l2 s0 = some z) : Fr [(101, 101, none)] A z.2 := by
  unfold jX11_gives_99 at h
  obtain ⟨e1, q1, h⟩ := of_bind h
  have f2 : Fr [(101, 101, none)] A e1 := Fr.tr Fr.rf ((Fr.lp (ms := (fun (x : Int32 × Int32 × (Nat → Nat → Int32)) => x.2.2)) (mr := (fun (x : Nat → Nat → Int32) => x)) (w_cX11_gives_112 _) q1).wd rfl)
  obtain rfl := Option.some.inj h
  exact f2
theorem w_fX11_gives {A : Nat → Nat → Int32} {l1 : Int32} {z : (Int32 × (Nat → Nat → Int32))} (h : fX11_gives A l1 = some z) : Fr [(101, 101, none)] A z.2 := by
  unfold fX11_gives at h
  rcases of_ite h with ⟨-, h⟩ | ⟨-, h⟩
  · rcases of_ite h with ⟨-, h⟩ | ⟨-, h⟩
    · obtain rfl := Option.some.inj h
      exact Fr.rf
    · rcases of_ite h with ⟨-, h⟩ | ⟨-, h⟩
      · obtain rfl := Option.some.inj h
        exact Fr.rf
      · obtain rfl := Option.some.inj h
        exact Fr.rf
  · rcases of_ite h with ⟨-, h⟩ | ⟨-, h⟩
    · exact Fr.tr Fr.rf ((w_jX11_gives_99 h).wd rfl)
    · obtain ⟨-, h⟩ := of_guard h
      exact Fr.tr Fr.rf ((w_jX11_gives_99 h).wd rfl)
theorem w_fX11_says {A : Nat → Nat → Int32} {l1 : Int32} {l2 : Int32} {l3 : Int32} {z : (Int32 × (Nat → Nat → Int32))} (h : fX11_says A l1 l2 l3 = some z) : Fr [(101, 101, none), (102, 102, none)] A z.2 := by
  unfold fX11_says at h
  obtain ⟨m1, q1, h⟩ := of_bind h
  have f2 : Fr [(101, 101, none), (102, 102, none)] A m1 := Fr.eq q1 (Fr.up Fr.rf (FrC.up FrC.bs rfl))
  obtain ⟨m3, q3, h⟩ := of_bind h
  have f4 : Fr [(101, 101, none), (102, 102, none)] A m3 := Fr.eq q3 (Fr.up f2 (FrC.up FrC.bs rfl))
  obtain ⟨m5, q5, h⟩ := of_bind h
  have f6 : Fr [(101, 101, none), (102, 102, none)] A m5 := Fr.eq q5 (Fr.up f4 (FrC.up FrC.bs rfl))
  obtain ⟨m7, q7, h⟩ := of_bind h
  have f8 : Fr [(101, 101, none), (102, 102, none)] A m7 := Fr.eq q7 (Fr.up f6 (FrC.up FrC.bs rfl))
  obtain ⟨m9, q9, h⟩ := of_bind h
  have f10 : Fr [(101, 101, none), (102, 102, none)] A m9 := Fr.eq q9 (Fr.up f8 (FrC.up FrC.bs rfl))
  obtain ⟨m11, q11, h⟩ := of_bind h
  have f12 : Fr [(101, 101, none), (102, 102, none)] A m11 := Fr.eq q11 (Fr.up f10 (FrC.up FrC.bs rfl))
  rcases of_ite h with ⟨-, h⟩ | ⟨-, h⟩
  · obtain ⟨r16, q13, h⟩ := of_bind h
    have f14 : Fr [(101, 101, none), (102, 102, none)] A r16.2 := Fr.tr f12 ((w_fX11_gives q13).wd rfl)
    obtain rfl := Option.some.inj h
    exact f14
  · obtain ⟨r14, q15, h⟩ := of_bind h
    have f16 : Fr [(101, 101, none), (102, 102, none)] A r14.2 := Fr.tr f12 ((w_fX11_gives q15).wd rfl)
    obtain rfl := Option.some.inj h
    exact f16
theorem w_fX11_asks {A : Nat → Nat → Int32} {l1 : Int32} {l2 : Int32} {l3 : Int32} {z : (Int32 × (Nat → Nat → Int32))} (h : fX11_asks A l1 l2 l3 = some z) : Fr [(101, 101, none), (102, 102, none)] A z.2 := by
  unfold fX11_asks at h
  rcases of_ite h with ⟨-, h⟩ | ⟨-, h⟩
  · obtain rfl := Option.some.inj h
    exact Fr.rf
  · rcases of_ite h with ⟨-, h⟩ | ⟨-, h⟩
    · obtain rfl := Option.some.inj h
      exact Fr.rf
    · rcases of_ite h with ⟨-, h⟩ | ⟨-, h⟩
      · obtain rfl := Option.some.inj h
        exact Fr.rf
      · obtain ⟨r7, q1, h⟩ := of_bind h
        have f2 : Fr [(101, 101, none), (102, 102, none)] A r7.2 := Fr.tr Fr.rf ((w_fX11_says q1).wd rfl)
        obtain rfl := Option.some.inj h
        exact f2
theorem w_fX11_say {A : Nat → Nat → Int32} {l1 : Int32} {l2 : Int32} {l3 : Int32} {z : (Int32 × (Nat → Nat → Int32))} (h : fX11_say A l1 l2 l3 = some z) : Fr [(94, 94, some 21), (105, 105, none), (106, 106, none), (107, 107, none)] A z.2 := by
  unfold fX11_say at h
  rcases of_ite h with ⟨-, h⟩ | ⟨-, h⟩
  · obtain rfl := Option.some.inj h
    exact Fr.rf
  · rcases of_ite h with ⟨-, h⟩ | ⟨-, h⟩
    · obtain rfl := Option.some.inj h
      exact Fr.rf
    · rcases of_ite h with ⟨-, h⟩ | ⟨-, h⟩
      · obtain rfl := Option.some.inj h
        exact Fr.rf
      · rcases of_ite h with ⟨-, h⟩ | ⟨-, h⟩
        · obtain rfl := Option.some.inj h
          exact Fr.rf
        · obtain ⟨-, h⟩ := of_guard h
          obtain ⟨m9, q1, h⟩ := of_bind h
          have f2 : Fr [(94, 94, some 21), (105, 105, none), (106, 106, none), (107, 107, none)] A m9 := Fr.eq q1 (Fr.up Fr.rf (FrC.up FrC.bs rfl))
          obtain ⟨-, h⟩ := of_guard h
          obtain ⟨m12, q3, h⟩ := of_bind h
          have f4 : Fr [(94, 94, some 21), (105, 105, none), (106, 106, none), (107, 107, none)] A m12 := Fr.eq q3 (Fr.up f2 (FrC.up FrC.bs rfl))
          obtain ⟨-, h⟩ := of_guard h
          obtain ⟨m15, q5, h⟩ := of_bind h
          have f6 : Fr [(94, 94, some 21), (105, 105, none), (106, 106, none), (107, 107, none)] A m15 := Fr.eq q5 (Fr.up f4 (FrC.up FrC.bs rfl))
          obtain rfl := Option.some.inj h
          exact (Fr.up f6 (FrC.up FrC.bs rfl))
theorem w_fX11_likely {A : Nat → Nat → Int32} {l1 : Int32} {l2 : Int32} {z : (Int32 × (Nat → Nat → Int32))} (h : fX11_likely A l1 l2 = some z) : Fr [(101, 101, none), (102, 102, none)] A z.2 := by
  unfold fX11_likely at h
  obtain ⟨-, h⟩ := of_guard h
  obtain ⟨r2, q1, h⟩ := of_bind h
  have f2 : Fr [(101, 101, none), (102, 102, none)] A r2.2 := Fr.tr Fr.rf ((w_fX11_says q1).wd rfl)
  obtain ⟨-, h⟩ := of_guard h
  obtain ⟨-, h⟩ := of_guard h
  rcases of_ite h with ⟨-, h⟩ | ⟨-, h⟩
  · obtain rfl := Option.some.inj h
    exact f2
  · rcases of_ite h with ⟨-, h⟩ | ⟨-, h⟩
    · obtain ⟨-, h⟩ := of_guard h
      obtain ⟨r12, q3, h⟩ := of_bind h
      obtain rfl := Option.some.inj h
      exact f2
    · rcases of_ite h with ⟨-, h⟩ | ⟨-, h⟩
      · obtain rfl := Option.some.inj h
        exact f2
      · rcases of_ite h with ⟨-, h⟩ | ⟨-, h⟩
        · obtain ⟨-, h⟩ := of_guard h
          obtain ⟨r15, q4, h⟩ := of_bind h
          have f5 : Fr [(101, 101, none), (102, 102, none)] A r15.2 := Fr.tr f2 ((w_fX11_says q4).wd rfl)
          obtain rfl := Option.some.inj h
          exact f5
        · rcases of_ite h with ⟨-, h⟩ | ⟨-, h⟩
          · obtain ⟨-, h⟩ := of_guard h
            rcases of_ite h with ⟨-, h⟩ | ⟨-, h⟩
            · obtain ⟨-, h⟩ := of_guard h
              obtain ⟨r20, q6, h⟩ := of_bind h
              have f7 : Fr [(101, 101, none), (102, 102, none)] A r20.2 := Fr.tr f2 ((w_fX11_says q6).wd rfl)
              obtain rfl := Option.some.inj h
              exact f7
            · obtain rfl := Option.some.inj h
              exact f2
          · obtain rfl := Option.some.inj h
            exact f2
theorem w_fX11_takesIn {A : Nat → Nat → Int32} {l1 : Int32} {l2 : Int32} {z : (Int32 × (Nat → Nat → Int32))} (h : fX11_takesIn A l1 l2 = some z) : Fr [(101, 101, none), (102, 102, none)] A z.2 := by
  unfold fX11_takesIn at h
  obtain ⟨-, h⟩ := of_guard h
  obtain ⟨r2, q1, h⟩ := of_bind h
  have f2 : Fr [(101, 101, none), (102, 102, none)] A r2.2 := Fr.tr Fr.rf ((w_fX11_says q1).wd rfl)
  obtain ⟨-, h⟩ := of_guard h
  rcases of_ite h with ⟨-, h⟩ | ⟨-, h⟩
  · obtain ⟨-, h⟩ := of_guard h
    obtain rfl := Option.some.inj h
    exact f2
  · rcases of_ite h with ⟨-, h⟩ | ⟨-, h⟩
    · obtain rfl := Option.some.inj h
      exact f2
    · rcases of_ite h with ⟨-, h⟩ | ⟨-, h⟩
      · obtain rfl := Option.some.inj h
        exact f2
      · rcases of_ite h with ⟨-, h⟩ | ⟨-, h⟩
        · obtain rfl := Option.some.inj h
          exact f2
        · obtain rfl := Option.some.inj h
          exact f2
theorem w_fX11_told {A : Nat → Nat → Int32} {l1 : Int32} {l2 : Int32} {l3 : Int32} {z : (Int32 × (Nat → Nat → Int32))} (h : fX11_told A l1 l2 l3 = some z) : Fr [(101, 101, none), (102, 102, none)] A z.2 := by
  unfold fX11_told at h
  rcases of_ite h with ⟨-, h⟩ | ⟨-, h⟩
  · obtain rfl := Option.some.inj h
    exact Fr.rf
  · rcases of_ite h with ⟨-, h⟩ | ⟨-, h⟩
    · obtain rfl := Option.some.inj h
      exact Fr.rf
    · rcases of_ite h with ⟨-, h⟩ | ⟨-, h⟩
      · obtain ⟨-, h⟩ := of_guard h
        obtain rfl := Option.some.inj h
        exact Fr.rf
      · rcases of_ite h with ⟨-, h⟩ | ⟨-, h⟩
        · obtain ⟨-, h⟩ := of_guard h
          obtain rfl := Option.some.inj h
          exact Fr.rf
        · rcases of_ite h with ⟨-, h⟩ | ⟨-, h⟩
          · obtain ⟨-, h⟩ := of_guard h
            obtain rfl := Option.some.inj h
            exact Fr.rf
          · rcases of_ite h with ⟨-, h⟩ | ⟨-, h⟩
            · obtain ⟨r14, q1, h⟩ := of_bind h
              have f2 : Fr [(101, 101, none), (102, 102, none)] A r14.2 := Fr.tr Fr.rf ((w_fX11_likely q1).wd rfl)
              obtain rfl := Option.some.inj h
              exact f2
            · rcases of_ite h with ⟨-, h⟩ | ⟨-, h⟩
              · obtain ⟨r16, q3, h⟩ := of_bind h
                have f4 : Fr [(101, 101, none), (102, 102, none)] A r16.2 := Fr.tr Fr.rf ((w_fX11_takesIn q3).wd rfl)
                obtain rfl := Option.some.inj h
                exact f4
              · rcases of_ite h with ⟨-, h⟩ | ⟨-, h⟩
                · obtain ⟨-, h⟩ := of_guard h
                  rcases of_ite h with ⟨-, h⟩ | ⟨-, h⟩
                  · obtain rfl := Option.some.inj h
                    exact Fr.rf
                  · obtain ⟨-, h⟩ := of_guard h
                    rcases of_ite h with ⟨-, h⟩ | ⟨-, h⟩
                    · obtain rfl := Option.some.inj h
                      exact Fr.rf
                    · obtain rfl := Option.some.inj h
                      exact Fr.rf
                · obtain rfl := Option.some.inj h
                  exact Fr.rf
theorem w_cX11_theRow_10 (s : (Int32 × (Nat → Nat → Int32))) (z : ((Int32 × (Nat → Nat → Int32)) ⊕ (Nat → Nat → Int32))) (h : cX11_theRow_10 s = some z) : Fr [(108, 108, none)] s.2 ((Sum.elim (fun (x : Int32 × (Nat → Nat → Int32)) => x.2) (fun (x : Nat → Nat → Int32) => x)) z) := by
  unfold cX11_theRow_10 at h
  rcases of_ite h with ⟨-, h⟩ | ⟨-, h⟩
  · obtain rfl := Option.some.inj h
    exact Fr.rf
  · obtain ⟨-, h⟩ := of_guard h
    obtain ⟨m3, q1, h⟩ := of_bind h
    have f2 : Fr [(108, 108, none)] s.2 m3 := Fr.eq q1 (Fr.up Fr.rf (FrC.up FrC.bs rfl))
    obtain rfl := Option.some.inj h
    exact f2
theorem w_fX11_theRow {A : Nat → Nat → Int32} {z : (Nat → Nat → Int32)} (h : fX11_theRow A = some z) : Fr [(94, 94, some 25), (108, 108, none)] A z := by
  unfold fX11_theRow at h
  obtain ⟨e1, q1, h⟩ := of_bind h
  have f2 : Fr [(94, 94, some 25), (108, 108, none)] A e1 := Fr.tr (Fr.up Fr.rf (FrC.up FrC.bs rfl)) ((Fr.lp (ms := (fun (x : Int32 × (Nat → Nat → Int32)) => x.2)) (mr := (fun (x : Nat → Nat → Int32) => x)) (w_cX11_theRow_10 ) q1).wd rfl)
  obtain rfl := Option.some.inj h
  exact f2
theorem w_cX11_worthOf_32 (s : (Int32 × Int32 × (Nat → Nat → Int32) × (Nat → Nat → Int64))) (z : ((Int32 × Int32 × (Nat → Nat → Int32) × (Nat → Nat → Int64)) ⊕ ((Nat → Nat → Int32) × (Nat → Nat → Int64)))) (h : cX11_worthOf_32 s = some z) : Fr [(94, 94, some 29), (101, 101, none), (102, 102, none), (109, 109, none), (110, 110, none)] s.2.2.1 ((Sum.elim (fun (x : Int32 × Int32 × (Nat → Nat → Int32) × (Nat → Nat → Int64)) => x.2.2.1) (fun (x : (Nat → Nat → Int32) × (Nat → Nat → Int64)) => x.1)) z) := by
  unfold cX11_worthOf_32 at h
  rcases of_ite h with ⟨-, h⟩ | ⟨-, h⟩
  · obtain rfl := Option.some.inj h
    exact Fr.rf
  · obtain ⟨-, h⟩ := of_guard h
    obtain ⟨m3, q1, h⟩ := of_bind h
    have f2 : Fr [(94, 94, some 29), (101, 101, none), (102, 102, none), (109, 109, none), (110, 110, none)] s.2.2.1 m3 := Fr.eq q1 (Fr.up Fr.rf (FrC.up FrC.bs rfl))
    obtain ⟨-, h⟩ := of_guard h
    obtain ⟨m6, q3, h⟩ := of_bind h
    have f4 : Fr [(94, 94, some 29), (101, 101, none), (102, 102, none), (109, 109, none), (110, 110, none)] s.2.2.1 m6 := Fr.eq q3 (Fr.up f2 (FrC.up FrC.bs rfl))
    rcases of_ite h with ⟨-, h⟩ | ⟨-, h⟩
    · obtain ⟨-, h⟩ := of_guard h
      obtain ⟨-, h⟩ := of_guard h
      obtain ⟨m11, q5, h⟩ := of_bind h
      have f6 : Fr [(94, 94, some 29), (101, 101, none), (102, 102, none), (109, 109, none), (110, 110, none)] s.2.2.1 m11 := Fr.eq q5 (Fr.up f4 (FrC.up FrC.bs rfl))
      obtain ⟨r13, q7, h⟩ := of_bind h
      have f8 : Fr [(94, 94, some 29), (101, 101, none), (102, 102, none), (109, 109, none), (110, 110, none)] s.2.2.1 r13.2 := Fr.tr f6 ((w_fX11_likely q7).wd rfl)
      obtain ⟨r15, q9, h⟩ := of_bind h
      have f10 : Fr [(94, 94, some 29), (101, 101, none), (102, 102, none), (109, 109, none), (110, 110, none)] s.2.2.1 r15.2 := Fr.tr f8 ((w_fX11_takesIn q9).wd rfl)
      rcases of_ite h with ⟨-, h⟩ | ⟨-, h⟩
      · obtain ⟨-, h⟩ := of_guard h
        obtain ⟨m19, q11, h⟩ := of_bind h
        have f12 : Fr [(94, 94, some 29), (101, 101, none), (102, 102, none), (109, 109, none), (110, 110, none)] s.2.2.1 m19 := Fr.eq q11 (Fr.up (Fr.up f10 (FrC.up FrC.bs rfl)) (FrC.up (FrC.ne rfl FrC.bs) rfl))
        obtain ⟨-, h⟩ := of_guard h
        obtain ⟨-, h⟩ := of_guard h
        obtain ⟨-, h⟩ := of_guard h
        obtain ⟨-, h⟩ := of_guard h
        obtain ⟨m25, q13, h⟩ := of_bind h
        obtain rfl := Option.some.inj h
        exact f12
      · obtain rfl := Option.some.inj h
        exact f10
    · obtain rfl := Option.some.inj h
      exact f4
theorem w_fX11_worthOf {A : Nat → Nat → Int32} {L : Nat → Nat → Int64} {z : (Int64 × (Nat → Nat → Int32) × (Nat → Nat → Int64))} (h : fX11_worthOf A L = some z) : Fr [(94, 94, some 29), (101, 101, none), (102, 102, none), (109, 109, none), (110, 110, none)] A z.2.1 := by
  unfold fX11_worthOf at h
  obtain ⟨e1, q1, h⟩ := of_bind h
  obtain ⟨e3, q2, h⟩ := of_bind h
  have f3 : Fr [(94, 94, some 29), (101, 101, none), (102, 102, none), (109, 109, none), (110, 110, none)] A e3.1 := Fr.tr (Fr.up Fr.rf (FrC.up FrC.bs rfl)) ((Fr.lp (ms := (fun (x : Int32 × Int32 × (Nat → Nat → Int32) × (Nat → Nat → Int64)) => x.2.2.1)) (mr := (fun (x : (Nat → Nat → Int32) × (Nat → Nat → Int64)) => x.1)) (w_cX11_worthOf_32 ) q2).wd rfl)
  obtain ⟨e5, q4, h⟩ := of_bind h
  obtain rfl := Option.some.inj h
  exact f3
theorem w_fX11_worthOfAll {A : Nat → Nat → Int32} {L : Nat → Nat → Int64} {z : (Int64 × (Nat → Nat → Int32) × (Nat → Nat → Int64))} (h : fX11_worthOfAll A L = some z) : Fr [(94, 94, some 25), (94, 94, some 29), (101, 101, none), (102, 102, none), (108, 108, none), (109, 109, none), (110, 110, none)] A z.2.1 := by
  unfold fX11_worthOfAll at h
  obtain ⟨r1, q1, h⟩ := of_bind h
  have f2 : Fr [(94, 94, some 25), (94, 94, some 29), (101, 101, none), (102, 102, none), (108, 108, none), (109, 109, none), (110, 110, none)] A r1 := Fr.tr Fr.rf ((w_fX11_theRow q1).wd rfl)
  obtain ⟨r3, q3, h⟩ := of_bind h
  have f4 : Fr [(94, 94, some 25), (94, 94, some 29), (101, 101, none), (102, 102, none), (108, 108, none), (109, 109, none), (110, 110, none)] A r3.2.1 := Fr.tr f2 ((w_fX11_worthOf q3).wd rfl)
  obtain rfl := Option.some.inj h
  exact f4
theorem w_fX11_run {A : Nat → Nat → Int32} {L : Nat → Nat → Int64} {l1 : Int32} {z : (Int64 × (Nat → Nat → Int32) × (Nat → Nat → Int64))} (h : fX11_run A L l1 = some z) : Fr [(94, 94, some 25), (94, 94, some 29), (101, 101, none), (102, 102, none), (108, 108, none), (109, 109, none), (110, 110, none)] A z.2.1 := by
  unfold fX11_run at h
  rcases of_ite h with ⟨-, h⟩ | ⟨-, h⟩
  · obtain rfl := Option.some.inj h
    exact Fr.rf
  · obtain ⟨r3, q1, h⟩ := of_bind h
    have f2 : Fr [(94, 94, some 25), (94, 94, some 29), (101, 101, none), (102, 102, none), (108, 108, none), (109, 109, none), (110, 110, none)] A r3.2.1 := Fr.tr Fr.rf ((w_fX11_worthOfAll q1).wd rfl)
    rcases of_ite h with ⟨-, h⟩ | ⟨-, h⟩
    · obtain rfl := Option.some.inj h
      exact f2
    · rcases of_ite h with ⟨-, h⟩ | ⟨-, h⟩
      · obtain rfl := Option.some.inj h
        exact f2
      · obtain ⟨-, h⟩ := of_guard h
        obtain rfl := Option.some.inj h
        exact f2
theorem w_fX11_minute {A : Nat → Nat → Int32} {L : Nat → Nat → Int64} {l1 : Int32} {l2 : Int32} {z : (Int32 × (Nat → Nat → Int32) × (Nat → Nat → Int64))} (h : fX11_minute A L l1 l2 = some z) : Fr [(94, 94, some 25), (94, 94, some 29), (101, 101, none), (102, 102, none), (108, 108, none), (109, 109, none), (110, 110, none)] A z.2.1 := by
  unfold fX11_minute at h
  rcases of_ite h with ⟨-, h⟩ | ⟨-, h⟩
  · obtain rfl := Option.some.inj h
    exact Fr.rf
  · rcases of_ite h with ⟨-, h⟩ | ⟨-, h⟩
    · obtain rfl := Option.some.inj h
      exact Fr.rf
    · obtain ⟨r5, q1, h⟩ := of_bind h
      have f2 : Fr [(94, 94, some 25), (94, 94, some 29), (101, 101, none), (102, 102, none), (108, 108, none), (109, 109, none), (110, 110, none)] A r5.2.1 := Fr.tr Fr.rf ((w_fX11_worthOfAll q1).wd rfl)
      rcases of_ite h with ⟨-, h⟩ | ⟨-, h⟩
      · obtain ⟨-, h⟩ := of_guard h
        obtain rfl := Option.some.inj h
        exact f2
      · obtain ⟨-, h⟩ := of_guard h
        obtain rfl := Option.some.inj h
        exact f2
theorem w_cX11_judge_47 (L : Nat → Nat → Int64) (l1 : Int32) (s : (Int32 × Int32 × (Nat → Nat → Int32))) (z : ((Int32 × Int32 × (Nat → Nat → Int32)) ⊕ ((Nat → Nat → Int32) ⊕ (Int64 × (Nat → Nat → Int32) × (Nat → Nat → Int64))))) (h : cX11_judge_47 L l1 s = some z) : Fr [(108, 108, none)] s.2.2 ((Sum.elim (fun (x : Int32 × Int32 × (Nat → Nat → Int32)) => x.2.2) (Sum.elim (fun (x : Nat → Nat → Int32) => x) (fun (x : Int64 × (Nat → Nat → Int32) × (Nat → Nat → Int64)) => x.2.1))) z) := by
  unfold cX11_judge_47 at h
  rcases of_ite h with ⟨-, h⟩ | ⟨-, h⟩
  · obtain rfl := Option.some.inj h
    exact Fr.rf
  · obtain ⟨-, h⟩ := of_guard h
    rcases of_ite h with ⟨-, h⟩ | ⟨-, h⟩
    · obtain rfl := Option.some.inj h
      exact Fr.rf
    · rcases of_ite h with ⟨-, h⟩ | ⟨-, h⟩
      · obtain rfl := Option.some.inj h
        exact Fr.rf
      · obtain ⟨-, h⟩ := of_guard h
        obtain ⟨m7, q1, h⟩ := of_bind h
        have f2 : Fr [(108, 108, none)] s.2.2 m7 := Fr.eq q1 (Fr.up Fr.rf (FrC.up FrC.bs rfl))
        obtain rfl := Option.some.inj h
        exact f2
theorem w_fX11_judge {A : Nat → Nat → Int32} {L : Nat → Nat → Int64} {l1 : Int32} {z : (Int64 × (Nat → Nat → Int32) × (Nat → Nat → Int64))} (h : fX11_judge A L l1 = some z) : Fr [(94, 94, some 25), (94, 94, some 29), (101, 101, none), (102, 102, none), (108, 108, none), (109, 109, none), (110, 110, none)] A z.2.1 := by
  unfold fX11_judge at h
  rcases of_ite h with ⟨-, h⟩ | ⟨-, h⟩
  · obtain rfl := Option.some.inj h
    exact Fr.rf
  · obtain ⟨-, h⟩ := of_guard h
    rcases of_ite h with ⟨-, h⟩ | ⟨-, h⟩
    · obtain rfl := Option.some.inj h
      exact Fr.rf
    · obtain ⟨-, h⟩ := of_guard h
      rcases of_ite h with ⟨-, h⟩ | ⟨-, h⟩
      · obtain ⟨-, h⟩ := of_guard h
        rcases of_elim h with ⟨e8, q1, h⟩ | ⟨s0, q1, h⟩
        · have f2 : Fr [(94, 94, some 25), (94, 94, some 29), (101, 101, none), (102, 102, none), (108, 108, none), (109, 109, none), (110, 110, none)] A e8 := Fr.tr (Fr.up Fr.rf (FrC.up FrC.bs rfl)) ((Fr.lp (ms := (fun (x : Int32 × Int32 × (Nat → Nat → Int32)) => x.2.2)) (mr := (Sum.elim (fun (x : Nat → Nat → Int32) => x) (fun (x : Int64 × (Nat → Nat → Int32) × (Nat → Nat → Int64)) => x.2.1))) (w_cX11_judge_47 _ _) q1).wd rfl)
          obtain ⟨r10, q3, h⟩ := of_bind h
          have f4 : Fr [(94, 94, some 25), (94, 94, some 29), (101, 101, none), (102, 102, none), (108, 108, none), (109, 109, none), (110, 110, none)] A r10.2.1 := Fr.tr f2 ((w_fX11_worthOf q3).wd rfl)
          obtain rfl := Option.some.inj h
          exact f4
        · have f5 : Fr [(94, 94, some 25), (94, 94, some 29), (101, 101, none), (102, 102, none), (108, 108, none), (109, 109, none), (110, 110, none)] A s0.2.1 := Fr.tr (Fr.up Fr.rf (FrC.up FrC.bs rfl)) ((Fr.lp (ms := (fun (x : Int32 × Int32 × (Nat → Nat → Int32)) => x.2.2)) (mr := (Sum.elim (fun (x : Nat → Nat → Int32) => x) (fun (x : Int64 × (Nat → Nat → Int32) × (Nat → Nat → Int64)) => x.2.1))) (w_cX11_judge_47 _ _) q1).wd rfl)
          obtain rfl := Option.some.inj h
          exact f5
      · obtain rfl := Option.some.inj h
        exact Fr.rf
theorem w_cX11_keepRow_7 (L : Nat → Nat → Int64) (s : (Int32 × (Nat → Nat → Int32))) (z : ((Int32 × (Nat → Nat → Int32)) ⊕ (Nat → Nat → Int32))) (h : cX11_keepRow_7 L s = some z) : Fr [(112, 112, none)] s.2 ((Sum.elim (fun (x : Int32 × (Nat → Nat → Int32)) => x.2) (fun (x : Nat → Nat → Int32) => x)) z) := by
  unfold cX11_keepRow_7 at h
  rcases of_ite h with ⟨-, h⟩ | ⟨-, h⟩
  · obtain rfl := Option.some.inj h
    exact Fr.rf
  · obtain ⟨-, h⟩ := of_guard h
    obtain ⟨-, h⟩ := of_guard h
    obtain ⟨m4, q1, h⟩ := of_bind h
    have f2 : Fr [(112, 112, none)] s.2 m4 := Fr.eq q1 (Fr.up Fr.rf (FrC.up FrC.bs rfl))
    obtain rfl := Option.some.inj h
    exact f2
theorem w_fX11_keepRow {A : Nat → Nat → Int32} {L : Nat → Nat → Int64} {l1 : Int64} {z : ((Nat → Nat → Int32) × (Nat → Nat → Int64))} (h : fX11_keepRow A L l1 = some z) : Fr [(112, 112, none)] A z.1 := by
  unfold fX11_keepRow at h
  obtain ⟨e1, q1, h⟩ := of_bind h
  have f2 : Fr [(112, 112, none)] A e1 := Fr.tr Fr.rf ((Fr.lp (ms := (fun (x : Int32 × (Nat → Nat → Int32)) => x.2)) (mr := (fun (x : Nat → Nat → Int32) => x)) (w_cX11_keepRow_7 _) q1).wd rfl)
  obtain rfl := Option.some.inj h
  exact f2
theorem w_fX11_exchange {A : Nat → Nat → Int32} {l1 : Int32} {l2 : Int32} {z : (Nat → Nat → Int32)} (h : fX11_exchange A l1 l2 = some z) : Fr [(108, 108, none)] A z := by
  unfold fX11_exchange at h
  obtain ⟨-, h⟩ := of_guard h
  obtain ⟨-, h⟩ := of_guard h
  obtain ⟨-, h⟩ := of_guard h
  obtain ⟨m4, q1, h⟩ := of_bind h
  have f2 : Fr [(108, 108, none)] A m4 := Fr.eq q1 (Fr.up Fr.rf (FrC.up FrC.bs rfl))
  obtain ⟨-, h⟩ := of_guard h
  obtain ⟨m7, q3, h⟩ := of_bind h
  have f4 : Fr [(108, 108, none)] A m7 := Fr.eq q3 (Fr.up f2 (FrC.up FrC.bs rfl))
  obtain rfl := Option.some.inj h
  exact f4
theorem w_cX11_rowBy_10 (l2 : Int32) (s : (Int32 × Int32 × Int32 × (Nat → Nat → Int32))) (z : ((Int32 × Int32 × Int32 × (Nat → Nat → Int32)) ⊕ ((Nat → Nat → Int32) ⊕ (Int32 × (Nat → Nat → Int32))))) (h : cX11_rowBy_10 l2 s = some z) : Fr [(108, 108, none)] s.2.2.2 ((Sum.elim (fun (x : Int32 × Int32 × Int32 × (Nat → Nat → Int32)) => x.2.2.2) (Sum.elim (fun (x : Nat → Nat → Int32) => x) (fun (x : Int32 × (Nat → Nat → Int32)) => x.2))) z) := by
  unfold cX11_rowBy_10 at h
  rcases of_ite h with ⟨-, h⟩ | ⟨-, h⟩
  · obtain rfl := Option.some.inj h
    exact Fr.rf
  · obtain ⟨-, h⟩ := of_guard h
    obtain ⟨-, h⟩ := of_guard h
    obtain ⟨m4, q1, h⟩ := of_bind h
    have f2 : Fr [(108, 108, none)] s.2.2.2 m4 := Fr.eq q1 (Fr.up Fr.rf (FrC.up FrC.bs rfl))
    obtain ⟨-, h⟩ := of_guard h
    obtain ⟨-, h⟩ := of_guard h
    rcases of_ite h with ⟨-, h⟩ | ⟨-, h⟩
    · obtain rfl := Option.some.inj h
      exact f2
    · obtain ⟨-, h⟩ := of_guard h
      obtain rfl := Option.some.inj h
      exact f2
theorem w_fX11_rowBy {A : Nat → Nat → Int32} {l1 : Int32} {l2 : Int32} {z : (Int32 × (Nat → Nat → Int32))} (h : fX11_rowBy A l1 l2 = some z) : Fr [(108, 108, none)] A z.2 := by
  unfold fX11_rowBy at h
  rcases of_elim h with ⟨e1, q1, h⟩ | ⟨s0, q1, h⟩
  · have f2 : Fr [(108, 108, none)] A e1 := Fr.tr Fr.rf ((Fr.lp (ms := (fun (x : Int32 × Int32 × Int32 × (Nat → Nat → Int32)) => x.2.2.2)) (mr := (Sum.elim (fun (x : Nat → Nat → Int32) => x) (fun (x : Int32 × (Nat → Nat → Int32)) => x.2))) (w_cX11_rowBy_10 _) q1).wd rfl)
    obtain rfl := Option.some.inj h
    exact f2
  · have f3 : Fr [(108, 108, none)] A s0.2 := Fr.tr Fr.rf ((Fr.lp (ms := (fun (x : Int32 × Int32 × Int32 × (Nat → Nat → Int32)) => x.2.2.2)) (mr := (Sum.elim (fun (x : Nat → Nat → Int32) => x) (fun (x : Int32 × (Nat → Nat → Int32)) => x.2))) (w_cX11_rowBy_10 _) q1).wd rfl)
    obtain rfl := Option.some.inj h
    exact f3
theorem w_cX11_findBest_139 (l6 : Int32) (s : (Int32 × Int32 × Int32 × Int64 × Int32 × (Nat → Nat → Int32) × (Nat → Nat → Int64))) (z : ((Int32 × Int32 × Int32 × Int64 × Int32 × (Nat → Nat → Int32) × (Nat → Nat → Int64)) ⊕ (Int32 × Int32 × Int32 × Int64 × (Nat → Nat → Int32) × (Nat → Nat → Int64)))) (h : cX11_findBest_139 l6 s = some z) : Fr [(94, 94, some 29), (101, 101, none), (102, 102, none), (108, 108, none), (109, 109, none), (110, 110, none)] s.2.2.2.2.2.1 ((Sum.elim (fun (x : Int32 × Int32 × Int32 × Int64 × Int32 × (Nat → Nat → Int32) × (Nat → Nat → Int64)) => x.2.2.2.2.2.1) (fun (x : Int32 × Int32 × Int32 × Int64 × (Nat → Nat → Int32) × (Nat → Nat → Int64)) => x.2.2.2.2.1)) z) := by
  unfold cX11_findBest_139 at h
  rcases of_ite h with ⟨-, h⟩ | ⟨-, h⟩
  · obtain rfl := Option.some.inj h
    exact Fr.rf
  · obtain ⟨r2, q1, h⟩ := of_bind h
    have f2 : Fr [(94, 94, some 29), (101, 101, none), (102, 102, none), (108, 108, none), (109, 109, none), (110, 110, none)] s.2.2.2.2.2.1 r2 := Fr.tr Fr.rf ((w_fX11_exchange q1).wd rfl)
    obtain ⟨r4, q3, h⟩ := of_bind h
    have f4 : Fr [(94, 94, some 29), (101, 101, none), (102, 102, none), (108, 108, none), (109, 109, none), (110, 110, none)] s.2.2.2.2.2.1 r4.2.1 := Fr.tr f2 ((w_fX11_worthOf q3).wd rfl)
    obtain ⟨r6, q5, h⟩ := of_bind h
    have f6 : Fr [(94, 94, some 29), (101, 101, none), (102, 102, none), (108, 108, none), (109, 109, none), (110, 110, none)] s.2.2.2.2.2.1 r6 := Fr.tr f4 ((w_fX11_exchange q5).wd rfl)
    rcases of_ite h with ⟨-, h⟩ | ⟨-, h⟩
    · obtain rfl := Option.some.inj h
      exact f6
    · obtain rfl := Option.some.inj h
      exact f6
theorem w_cX11_findBest_124 (s : (Int32 × Int32 × Int32 × Int64 × Int32 × (Nat → Nat → Int32) × (Nat → Nat → Int64))) (z : ((Int32 × Int32 × Int32 × Int64 × Int32 × (Nat → Nat → Int32) × (Nat → Nat → Int64)) ⊕ (Int32 × Int32 × Int32 × Int64 × (Nat → Nat → Int32) × (Nat → Nat → Int64)))) (h : cX11_findBest_124 s = some z) : Fr [(94, 94, some 29), (101, 101, none), (102, 102, none), (108, 108, none), (109, 109, none), (110, 110, none)] s.2.2.2.2.2.1 ((Sum.elim (fun (x : Int32 × Int32 × Int32 × Int64 × Int32 × (Nat → Nat → Int32) × (Nat → Nat → Int64)) => x.2.2.2.2.2.1) (fun (x : Int32 × Int32 × Int32 × Int64 × (Nat → Nat → Int32) × (Nat → Nat → Int64)) => x.2.2.2.2.1)) z) := by
  unfold cX11_findBest_124 at h
  rcases of_ite h with ⟨-, h⟩ | ⟨-, h⟩
  · obtain rfl := Option.some.inj h
    exact Fr.rf
  · obtain ⟨e2, q1, h⟩ := of_bind h
    have f2 : Fr [(94, 94, some 29), (101, 101, none), (102, 102, none), (108, 108, none), (109, 109, none), (110, 110, none)] s.2.2.2.2.2.1 e2.2.2.2.2.1 := Fr.tr Fr.rf ((Fr.lp (ms := (fun (x : Int32 × Int32 × Int32 × Int64 × Int32 × (Nat → Nat → Int32) × (Nat → Nat → Int64)) => x.2.2.2.2.2.1)) (mr := (fun (x : Int32 × Int32 × Int32 × Int64 × (Nat → Nat → Int32) × (Nat → Nat → Int64)) => x.2.2.2.2.1)) (w_cX11_findBest_139 _) q1).wd rfl)
    obtain rfl := Option.some.inj h
    exact f2
theorem w_cX11_findBest_105 (s : (Int32 × (Nat → Nat → Int32) × (Nat → Nat → Int64))) (z : ((Int32 × (Nat → Nat → Int32) × (Nat → Nat → Int64)) ⊕ ((Nat → Nat → Int32) × (Nat → Nat → Int64)))) (h : cX11_findBest_105 s = some z) : Fr [(94, 94, some 29), (101, 101, none), (102, 102, none), (108, 108, none), (109, 109, none), (110, 110, none), (112, 112, none)] s.2.1 ((Sum.elim (fun (x : Int32 × (Nat → Nat → Int32) × (Nat → Nat → Int64)) => x.2.1) (fun (x : (Nat → Nat → Int32) × (Nat → Nat → Int64)) => x.1)) z) := by
  unfold cX11_findBest_105 at h
  rcases of_ite h with ⟨-, h⟩ | ⟨-, h⟩
  · obtain rfl := Option.some.inj h
    exact Fr.rf
  · obtain ⟨e2, q1, h⟩ := of_bind h
    have f2 : Fr [(94, 94, some 29), (101, 101, none), (102, 102, none), (108, 108, none), (109, 109, none), (110, 110, none), (112, 112, none)] s.2.1 e2.2.2.2.2.1 := Fr.tr Fr.rf ((Fr.lp (ms := (fun (x : Int32 × Int32 × Int32 × Int64 × Int32 × (Nat → Nat → Int32) × (Nat → Nat → Int64)) => x.2.2.2.2.2.1)) (mr := (fun (x : Int32 × Int32 × Int32 × Int64 × (Nat → Nat → Int32) × (Nat → Nat → Int64)) => x.2.2.2.2.1)) (w_cX11_findBest_124 ) q1).wd rfl)
    rcases of_ite h with ⟨-, h⟩ | ⟨-, h⟩
    · obtain rfl := Option.some.inj h
      exact f2
    · obtain ⟨r5, q3, h⟩ := of_bind h
      have f4 : Fr [(94, 94, some 29), (101, 101, none), (102, 102, none), (108, 108, none), (109, 109, none), (110, 110, none), (112, 112, none)] s.2.1 r5 := Fr.tr f2 ((w_fX11_exchange q3).wd rfl)
      obtain ⟨r7, q5, h⟩ := of_bind h
      have f6 : Fr [(94, 94, some 29), (101, 101, none), (102, 102, none), (108, 108, none), (109, 109, none), (110, 110, none), (112, 112, none)] s.2.1 r7.1 := Fr.tr f4 ((w_fX11_keepRow q5).wd rfl)
      obtain rfl := Option.some.inj h
      exact f6
theorem w_jX11_findBest_88_45 {A : Nat → Nat → Int32} {L : Nat → Nat → Int64} {l1 : Int32} {l3 : Int32} {l4 : Int64} {z : ((Int32 × Int32 × (Nat → Nat → Int32) × (Nat → Nat → Int64)) ⊕ ((Nat → Nat → Int32) × (Nat → Nat → Int64)))} (h : jX11_findBest_88_45 A L l1 l3 l4 = some z) : Fr [(112, 112, none)] A ((Sum.elim (fun (x : Int32 × Int32 × (Nat → Nat → Int32) × (Nat → Nat → Int64)) => x.2.2.1) (fun (x : (Nat → Nat → Int32) × (Nat → Nat → Int64)) => x.1)) z) := by
  unfold jX11_findBest_88_45 at h
  obtain ⟨r1, q1, h⟩ := of_bind h
  have f2 : Fr [(112, 112, none)] A r1.1 := Fr.tr Fr.rf ((w_fX11_keepRow q1).wd rfl)
  obtain rfl := Option.some.inj h
  exact f2
theorem w_cX11_findBest_45 (l1 : Int32) (s : (Int32 × Int32 × (Nat → Nat → Int32) × (Nat → Nat → Int64))) (z : ((Int32 × Int32 × (Nat → Nat → Int32) × (Nat → Nat → Int64)) ⊕ ((Nat → Nat → Int32) × (Nat → Nat → Int64)))) (h : cX11_findBest_45 l1 s = some z) : Fr [(94, 94, some 29), (101, 101, none), (102, 102, none), (108, 108, none), (109, 109, none), (110, 110, none), (112, 112, none)] s.2.2.1 ((Sum.elim (fun (x : Int32 × Int32 × (Nat → Nat → Int32) × (Nat → Nat → Int64)) => x.2.2.1) (fun (x : (Nat → Nat → Int32) × (Nat → Nat → Int64)) => x.1)) z) := by
  unfold cX11_findBest_45 at h
  rcases of_ite h with ⟨-, h⟩ | ⟨-, h⟩
  · obtain rfl := Option.some.inj h
    exact Fr.rf
  · obtain ⟨r2, q1, h⟩ := of_bind h
    have f2 : Fr [(94, 94, some 29), (101, 101, none), (102, 102, none), (108, 108, none), (109, 109, none), (110, 110, none), (112, 112, none)] s.2.2.1 r2.2 := Fr.tr Fr.rf ((w_fX11_rowBy q1).wd rfl)
    rcases of_ite h with ⟨-, h⟩ | ⟨-, h⟩
    · obtain rfl := Option.some.inj h
      exact f2
    · obtain ⟨r6, q3, h⟩ := of_bind h
      have f4 : Fr [(94, 94, some 29), (101, 101, none), (102, 102, none), (108, 108, none), (109, 109, none), (110, 110, none), (112, 112, none)] s.2.2.1 r6.2.1 := Fr.tr f2 ((w_fX11_worthOf q3).wd rfl)
      rcases of_ite h with ⟨-, h⟩ | ⟨-, h⟩
      · exact Fr.tr f4 ((w_jX11_findBest_88_45 h).wd rfl)
      · rcases of_ite h with ⟨-, h⟩ | ⟨-, h⟩
        · exact Fr.tr f4 ((w_jX11_findBest_88_45 h).wd rfl)
        · obtain rfl := Option.some.inj h
          exact f4
theorem w_fX11_findBest {A : Nat → Nat → Int32} {L : Nat → Nat → Int64} {z : ((Nat → Nat → Int32) × (Nat → Nat → Int64))} (h : fX11_findBest A L = some z) : Fr [(94, 94, some 25), (94, 94, some 29), (101, 101, none), (102, 102, none), (108, 108, none), (109, 109, none), (110, 110, none), (112, 112, none)] A z.1 := by
  unfold fX11_findBest at h
  obtain ⟨r1, q1, h⟩ := of_bind h
  have f2 : Fr [(94, 94, some 25), (94, 94, some 29), (101, 101, none), (102, 102, none), (108, 108, none), (109, 109, none), (110, 110, none), (112, 112, none)] A r1.2.1 := Fr.tr Fr.rf ((w_fX11_worthOfAll q1).wd rfl)
  obtain ⟨r3, q3, h⟩ := of_bind h
  have f4 : Fr [(94, 94, some 25), (94, 94, some 29), (101, 101, none), (102, 102, none), (108, 108, none), (109, 109, none), (110, 110, none), (112, 112, none)] A r3.1 := Fr.tr f2 ((w_fX11_keepRow q3).wd rfl)
  rcases of_ite h with ⟨-, h⟩ | ⟨-, h⟩
  · obtain ⟨e6, q5, h⟩ := of_bind h
    have f6 : Fr [(94, 94, some 25), (94, 94, some 29), (101, 101, none), (102, 102, none), (108, 108, none), (109, 109, none), (110, 110, none), (112, 112, none)] A e6.1 := Fr.tr f4 ((Fr.lp (ms := (fun (x : Int32 × (Nat → Nat → Int32) × (Nat → Nat → Int64)) => x.2.1)) (mr := (fun (x : (Nat → Nat → Int32) × (Nat → Nat → Int64)) => x.1)) (w_cX11_findBest_105 ) q5).wd rfl)
    obtain rfl := Option.some.inj h
    exact f6
  · obtain ⟨e8, q7, h⟩ := of_bind h
    obtain ⟨e10, q8, h⟩ := of_bind h
    have f9 : Fr [(94, 94, some 25), (94, 94, some 29), (101, 101, none), (102, 102, none), (108, 108, none), (109, 109, none), (110, 110, none), (112, 112, none)] A e10.1 := Fr.tr f4 ((Fr.lp (ms := (fun (x : Int32 × Int32 × (Nat → Nat → Int32) × (Nat → Nat → Int64)) => x.2.2.1)) (mr := (fun (x : (Nat → Nat → Int32) × (Nat → Nat → Int64)) => x.1)) (w_cX11_findBest_45 _) q8).wd rfl)
    obtain rfl := Option.some.inj h
    exact f9
theorem w_fX11_best {A : Nat → Nat → Int32} {L : Nat → Nat → Int64} {l1 : Int32} {z : (Int64 × (Nat → Nat → Int32) × (Nat → Nat → Int64))} (h : fX11_best A L l1 = some z) : Fr [(94, 94, some 25), (94, 94, some 29), (101, 101, none), (102, 102, none), (108, 108, none), (109, 109, none), (110, 110, none), (112, 112, none)] A z.2.1 := by
  unfold fX11_best at h
  rcases of_ite h with ⟨-, h⟩ | ⟨-, h⟩
  · obtain rfl := Option.some.inj h
    exact Fr.rf
  · obtain ⟨r3, q1, h⟩ := of_bind h
    have f2 : Fr [(94, 94, some 25), (94, 94, some 29), (101, 101, none), (102, 102, none), (108, 108, none), (109, 109, none), (110, 110, none), (112, 112, none)] A r3.2.1 := Fr.tr Fr.rf ((w_fX11_worthOfAll q1).wd rfl)
    obtain ⟨r5, q3, h⟩ := of_bind h
    have f4 : Fr [(94, 94, some 25), (94, 94, some 29), (101, 101, none), (102, 102, none), (108, 108, none), (109, 109, none), (110, 110, none), (112, 112, none)] A r5.1 := Fr.tr f2 ((w_fX11_findBest q3).wd rfl)
    rcases of_ite h with ⟨-, h⟩ | ⟨-, h⟩
    · obtain ⟨e8, q5, h⟩ := of_bind h
      obtain rfl := Option.some.inj h
      exact f4
    · rcases of_ite h with ⟨-, h⟩ | ⟨-, h⟩
      · obtain rfl := Option.some.inj h
        exact f4
      · obtain rfl := Option.some.inj h
        exact f4
theorem w_cX11_side_16 (l1 : Int32) (s : (Int32 × Int64 × Int32 × (Nat → Nat → Int32) × (Nat → Nat → Int64))) (z : ((Int32 × Int64 × Int32 × (Nat → Nat → Int32) × (Nat → Nat → Int64)) ⊕ (Int32 × (Nat → Nat → Int32) × (Nat → Nat → Int64)))) (h : cX11_side_16 l1 s = some z) : Fr [(94, 94, some 25), (94, 94, some 29), (95, 95, some 0), (101, 101, none), (102, 102, none), (108, 108, none), (109, 109, none), (110, 110, none)] s.2.2.2.1 ((Sum.elim (fun (x : Int32 × Int64 × Int32 × (Nat → Nat → Int32) × (Nat → Nat → Int64)) => x.2.2.2.1) (fun (x : Int32 × (Nat → Nat → Int32) × (Nat → Nat → Int64)) => x.2.1)) z) := by
  unfold cX11_side_16 at h
  rcases of_ite h with ⟨-, h⟩ | ⟨-, h⟩
  · obtain rfl := Option.some.inj h
    exact Fr.rf
  · obtain ⟨m2, q1, h⟩ := of_bind h
    have f2 : Fr [(94, 94, some 25), (94, 94, some 29), (95, 95, some 0), (101, 101, none), (102, 102, none), (108, 108, none), (109, 109, none), (110, 110, none)] s.2.2.2.1 m2 := Fr.eq q1 (Fr.up Fr.rf (FrC.up FrC.bs rfl))
    obtain ⟨r4, q3, h⟩ := of_bind h
    have f4 : Fr [(94, 94, some 25), (94, 94, some 29), (95, 95, some 0), (101, 101, none), (102, 102, none), (108, 108, none), (109, 109, none), (110, 110, none)] s.2.2.2.1 r4.2.1 := Fr.tr f2 ((w_fX11_worthOfAll q3).wd rfl)
    rcases of_ite h with ⟨-, h⟩ | ⟨-, h⟩
    · obtain rfl := Option.some.inj h
      exact f4
    · obtain rfl := Option.some.inj h
      exact f4
theorem w_fX11_side {A : Nat → Nat → Int32} {L : Nat → Nat → Int64} {z : (Int32 × (Nat → Nat → Int32) × (Nat → Nat → Int64))} (h : fX11_side A L = some z) : Fr [(94, 94, some 25), (94, 94, some 29), (95, 95, some 0), (101, 101, none), (102, 102, none), (108, 108, none), (109, 109, none), (110, 110, none)] A z.2.1 := by
  unfold fX11_side at h
  obtain ⟨e1, q1, h⟩ := of_bind h
  have f2 : Fr [(94, 94, some 25), (94, 94, some 29), (95, 95, some 0), (101, 101, none), (102, 102, none), (108, 108, none), (109, 109, none), (110, 110, none)] A e1.2.1 := Fr.tr Fr.rf ((Fr.lp (ms := (fun (x : Int32 × Int64 × Int32 × (Nat → Nat → Int32) × (Nat → Nat → Int64)) => x.2.2.2.1)) (mr := (fun (x : Int32 × (Nat → Nat → Int32) × (Nat → Nat → Int64)) => x.2.1)) (w_cX11_side_16 _) q1).wd rfl)
  obtain ⟨m3, q3, h⟩ := of_bind h
  have f4 : Fr [(94, 94, some 25), (94, 94, some 29), (95, 95, some 0), (101, 101, none), (102, 102, none), (108, 108, none), (109, 109, none), (110, 110, none)] A m3 := Fr.eq q3 (Fr.up f2 (FrC.up FrC.bs rfl))
  obtain rfl := Option.some.inj h
  exact f4
