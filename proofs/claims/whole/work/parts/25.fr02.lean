/-! WHAT EACH FUNCTION LEAVES AS IT WAS, printed by gen25.py -/
theorem w_cX11_leave_27 (L : Nat → Nat → Int64) (l1 : Int64) (l3 : Int32) (l4 : Int32) (s : (Int32 × (Nat → Nat → Int32))) (z : ((Int32 × (Nat → Nat → Int32)) ⊕ (Nat → Nat → Int32))) (h : cX11_leave_27 L l1 l3 l4 s = some z) : Fr [(94, 94, some 25), (108, 108, none)] s.2 ((Sum.elim (fun (x : Int32 × (Nat → Nat → Int32)) => x.2) (fun (x : Nat → Nat → Int32) => x)) z) := by
  unfold cX11_leave_27 at h
  rcases of_ite h with ⟨-, h⟩ | ⟨-, h⟩
  · obtain rfl := Option.some.inj h
    exact Fr.rf
  · rcases of_ite h with ⟨-, h⟩ | ⟨-, h⟩
    · obtain rfl := Option.some.inj h
      exact Fr.rf
    · obtain ⟨-, h⟩ := of_guard h
      obtain ⟨m4, q1, h⟩ := of_bind h
      have f2 : Fr [(94, 94, some 25), (108, 108, none)] s.2 m4 := Fr.eq q1 (Fr.up Fr.rf (FrC.up FrC.bs rfl))
      obtain rfl := Option.some.inj h
      exact (Fr.up f2 (FrC.up FrC.bs rfl))
theorem w_jX11_leave_103_10 {A : Nat → Nat → Int32} {L : Nat → Nat → Int64} {l4 : Int32} {l5 : Int64} {z : ((Int64 × Int32 × Int32 × (Nat → Nat → Int32) × (Nat → Nat → Int64)) ⊕ (Int32 × (Nat → Nat → Int32) × (Nat → Nat → Int64)))} (h : jX11_leave_103_10 A L l4 l5 = some z) : Fr [] A ((Sum.elim (fun (x : Int64 × Int32 × Int32 × (Nat → Nat → Int32) × (Nat → Nat → Int64)) => x.2.2.2.1) (fun (x : Int32 × (Nat → Nat → Int32) × (Nat → Nat → Int64)) => x.2.1)) z) := by
  unfold jX11_leave_103_10 at h
  obtain rfl := Option.some.inj h
  exact Fr.rf
theorem w_cX11_leave_10 (s : (Int64 × Int32 × Int32 × (Nat → Nat → Int32) × (Nat → Nat → Int64))) (z : ((Int64 × Int32 × Int32 × (Nat → Nat → Int32) × (Nat → Nat → Int64)) ⊕ (Int32 × (Nat → Nat → Int32) × (Nat → Nat → Int64)))) (h : cX11_leave_10 s = some z) : Fr [(94, 94, some 25), (94, 94, some 29), (101, 101, none), (102, 102, none), (108, 108, none), (109, 109, none), (110, 110, none)] s.2.2.2.1 ((Sum.elim (fun (x : Int64 × Int32 × Int32 × (Nat → Nat → Int32) × (Nat → Nat → Int64)) => x.2.2.2.1) (fun (x : Int32 × (Nat → Nat → Int32) × (Nat → Nat → Int64)) => x.2.1)) z) := by
  unfold cX11_leave_10 at h
  rcases of_ite h with ⟨-, h⟩ | ⟨-, h⟩
  · obtain rfl := Option.some.inj h
    exact Fr.rf
  · obtain ⟨e2, q1, h⟩ := of_bind h
    have f2 : Fr [(94, 94, some 25), (94, 94, some 29), (101, 101, none), (102, 102, none), (108, 108, none), (109, 109, none), (110, 110, none)] s.2.2.2.1 e2 := Fr.tr (Fr.up Fr.rf (FrC.up FrC.bs rfl)) ((Fr.lp (ms := (fun (x : Int32 × (Nat → Nat → Int32)) => x.2)) (mr := (fun (x : Nat → Nat → Int32) => x)) (w_cX11_leave_27 _ _ _ _) q1).wd rfl)
    obtain ⟨r4, q3, h⟩ := of_bind h
    have f4 : Fr [(94, 94, some 25), (94, 94, some 29), (101, 101, none), (102, 102, none), (108, 108, none), (109, 109, none), (110, 110, none)] s.2.2.2.1 r4.2.1 := Fr.tr f2 ((w_fX11_worthOf q3).wd rfl)
    rcases of_ite h with ⟨-, h⟩ | ⟨-, h⟩
    · rcases of_ite h with ⟨-, h⟩ | ⟨-, h⟩
      · exact Fr.tr f4 ((w_jX11_leave_103_10 h).wd rfl)
      · obtain rfl := Option.some.inj h
        exact f4
    · rcases of_ite h with ⟨-, h⟩ | ⟨-, h⟩
      · exact Fr.tr f4 ((w_jX11_leave_103_10 h).wd rfl)
      · obtain rfl := Option.some.inj h
        exact f4
theorem w_fX11_leave {A : Nat → Nat → Int32} {L : Nat → Nat → Int64} {z : (Int32 × (Nat → Nat → Int32) × (Nat → Nat → Int64))} (h : fX11_leave A L = some z) : Fr [(94, 94, some 25), (94, 94, some 29), (101, 101, none), (102, 102, none), (108, 108, none), (109, 109, none), (110, 110, none)] A z.2.1 := by
  unfold fX11_leave at h
  obtain ⟨r1, q1, h⟩ := of_bind h
  have f2 : Fr [(94, 94, some 25), (94, 94, some 29), (101, 101, none), (102, 102, none), (108, 108, none), (109, 109, none), (110, 110, none)] A r1.2.1 := Fr.tr Fr.rf ((w_fX11_worthOfAll q1).wd rfl)
  obtain ⟨e3, q3, h⟩ := of_bind h
  have f4 : Fr [(94, 94, some 25), (94, 94, some 29), (101, 101, none), (102, 102, none), (108, 108, none), (109, 109, none), (110, 110, none)] A e3.2.1 := Fr.tr f2 ((Fr.lp (ms := (fun (x : Int64 × Int32 × Int32 × (Nat → Nat → Int32) × (Nat → Nat → Int64)) => x.2.2.2.1)) (mr := (fun (x : Int32 × (Nat → Nat → Int32) × (Nat → Nat → Int64)) => x.2.1)) (w_cX11_leave_10 ) q3).wd rfl)
  obtain rfl := Option.some.inj h
  exact f4
theorem w_fX11_word {A : Nat → Nat → Int32} {l1 : Int32} {l2 : Int32} {z : (Int32 × (Nat → Nat → Int32))} (h : fX11_word A l1 l2 = some z) : Fr [(94, 94, some 33), (113, 113, none), (114, 114, none), (115, 115, none)] A z.2 := by
  unfold fX11_word at h
  rcases of_ite h with ⟨-, h⟩ | ⟨-, h⟩
  · obtain rfl := Option.some.inj h
    exact Fr.rf
  · rcases of_ite h with ⟨-, h⟩ | ⟨-, h⟩
    · obtain rfl := Option.some.inj h
      exact Fr.rf
    · rcases of_ite h with ⟨-, h⟩ | ⟨-, h⟩
      · obtain rfl := Option.some.inj h
        exact Fr.rf
      · obtain ⟨-, h⟩ := of_guard h
        obtain ⟨m7, q1, h⟩ := of_bind h
        have f2 : Fr [(94, 94, some 33), (113, 113, none), (114, 114, none), (115, 115, none)] A m7 := Fr.eq q1 (Fr.up Fr.rf (FrC.up FrC.bs rfl))
        obtain ⟨-, h⟩ := of_guard h
        obtain ⟨m10, q3, h⟩ := of_bind h
        have f4 : Fr [(94, 94, some 33), (113, 113, none), (114, 114, none), (115, 115, none)] A m10 := Fr.eq q3 (Fr.up f2 (FrC.up FrC.bs rfl))
        obtain ⟨-, h⟩ := of_guard h
        obtain ⟨m13, q5, h⟩ := of_bind h
        have f6 : Fr [(94, 94, some 33), (113, 113, none), (114, 114, none), (115, 115, none)] A m13 := Fr.eq q5 (Fr.up f4 (FrC.up FrC.bs rfl))
        obtain rfl := Option.some.inj h
        exact (Fr.up f6 (FrC.up FrC.bs rfl))
theorem w_fX11_mistake {A : Nat → Nat → Int32} {l1 : Int32} {l2 : Int32} {l3 : Int32} {z : (Int32 × (Nat → Nat → Int32))} (h : fX11_mistake A l1 l2 l3 = some z) : Fr [(115, 115, none)] A z.2 := by
  unfold fX11_mistake at h
  rcases of_ite h with ⟨-, h⟩ | ⟨-, h⟩
  · obtain rfl := Option.some.inj h
    exact Fr.rf
  · rcases of_ite h with ⟨-, h⟩ | ⟨-, h⟩
    · obtain rfl := Option.some.inj h
      exact Fr.rf
    · rcases of_ite h with ⟨-, h⟩ | ⟨-, h⟩
      · obtain rfl := Option.some.inj h
        exact Fr.rf
      · obtain ⟨-, h⟩ := of_guard h
        obtain ⟨-, h⟩ := of_guard h
        obtain ⟨m9, q1, h⟩ := of_bind h
        have f2 : Fr [(115, 115, none)] A m9 := Fr.eq q1 (Fr.up Fr.rf (FrC.up FrC.bs rfl))
        obtain rfl := Option.some.inj h
        exact f2
theorem w_fX11_print {A : Nat → Nat → Int32} {l1 : Int32} {l2 : Int32} {l3 : Int32} {l4 : Int32} {z : (Int32 × (Nat → Nat → Int32))} (h : fX11_print A l1 l2 l3 l4 = some z) : Fr [(94, 94, some 37), (116, 116, none), (117, 117, none), (118, 118, none), (119, 119, none)] A z.2 := by
  unfold fX11_print at h
  rcases of_ite h with ⟨-, h⟩ | ⟨-, h⟩
  · obtain rfl := Option.some.inj h
    exact Fr.rf
  · rcases of_ite h with ⟨-, h⟩ | ⟨-, h⟩
    · obtain rfl := Option.some.inj h
      exact Fr.rf
    · rcases of_ite h with ⟨-, h⟩ | ⟨-, h⟩
      · obtain rfl := Option.some.inj h
        exact Fr.rf
      · rcases of_ite h with ⟨-, h⟩ | ⟨-, h⟩
        · obtain rfl := Option.some.inj h
          exact Fr.rf
        · rcases of_ite h with ⟨-, h⟩ | ⟨-, h⟩
          · obtain rfl := Option.some.inj h
            exact Fr.rf
          · obtain ⟨-, h⟩ := of_guard h
            obtain ⟨m11, q1, h⟩ := of_bind h
            have f2 : Fr [(94, 94, some 37), (116, 116, none), (117, 117, none), (118, 118, none), (119, 119, none)] A m11 := Fr.eq q1 (Fr.up Fr.rf (FrC.up FrC.bs rfl))
            obtain ⟨-, h⟩ := of_guard h
            obtain ⟨m14, q3, h⟩ := of_bind h
            have f4 : Fr [(94, 94, some 37), (116, 116, none), (117, 117, none), (118, 118, none), (119, 119, none)] A m14 := Fr.eq q3 (Fr.up f2 (FrC.up FrC.bs rfl))
            obtain ⟨-, h⟩ := of_guard h
            obtain ⟨m17, q5, h⟩ := of_bind h
            have f6 : Fr [(94, 94, some 37), (116, 116, none), (117, 117, none), (118, 118, none), (119, 119, none)] A m17 := Fr.eq q5 (Fr.up f4 (FrC.up FrC.bs rfl))
            obtain ⟨-, h⟩ := of_guard h
            obtain ⟨m20, q7, h⟩ := of_bind h
            have f8 : Fr [(94, 94, some 37), (116, 116, none), (117, 117, none), (118, 118, none), (119, 119, none)] A m20 := Fr.eq q7 (Fr.up f6 (FrC.up FrC.bs rfl))
            obtain rfl := Option.some.inj h
            exact (Fr.up f8 (FrC.up FrC.bs rfl))
theorem w_jX11_meet_54 {A : Nat → Nat → Int32} {l1 : Int32} {l2 : Int32} {l3 : Int32} {z : (Int32 × (Nat → Nat → Int32))} (h : jX11_meet_54 A l1 l2 l3 = some z) : Fr [(94, 94, some 42), (120, 120, none), (121, 121, none), (122, 122, none)] A z.2 := by
  unfold jX11_meet_54 at h
  rcases of_ite h with ⟨-, h⟩ | ⟨-, h⟩
  · obtain rfl := Option.some.inj h
    exact Fr.rf
  · obtain ⟨-, h⟩ := of_guard h
    obtain ⟨m3, q1, h⟩ := of_bind h
    have f2 : Fr [(94, 94, some 42), (120, 120, none), (121, 121, none), (122, 122, none)] A m3 := Fr.eq q1 (Fr.up Fr.rf (FrC.up FrC.bs rfl))
    obtain ⟨-, h⟩ := of_guard h
    obtain ⟨m6, q3, h⟩ := of_bind h
    have f4 : Fr [(94, 94, some 42), (120, 120, none), (121, 121, none), (122, 122, none)] A m6 := Fr.eq q3 (Fr.up f2 (FrC.up FrC.bs rfl))
    obtain ⟨-, h⟩ := of_guard h
    obtain ⟨m9, q5, h⟩ := of_bind h
    have f6 : Fr [(94, 94, some 42), (120, 120, none), (121, 121, none), (122, 122, none)] A m9 := Fr.eq q5 (Fr.up f4 (FrC.up FrC.bs rfl))
    obtain rfl := Option.some.inj h
    exact (Fr.up f6 (FrC.up FrC.bs rfl))
theorem w_fX11_meet {A : Nat → Nat → Int32} {l1 : Int32} {l2 : Int32} {l3 : Int32} {z : (Int32 × (Nat → Nat → Int32))} (h : fX11_meet A l1 l2 l3 = some z) : Fr [(94, 94, some 42), (120, 120, none), (121, 121, none), (122, 122, none)] A z.2 := by
  unfold fX11_meet at h
  rcases of_ite h with ⟨-, h⟩ | ⟨-, h⟩
  · obtain rfl := Option.some.inj h
    exact Fr.rf
  · rcases of_ite h with ⟨-, h⟩ | ⟨-, h⟩
    · obtain rfl := Option.some.inj h
      exact Fr.rf
    · rcases of_ite h with ⟨-, h⟩ | ⟨-, h⟩
      · obtain rfl := Option.some.inj h
        exact Fr.rf
      · rcases of_ite h with ⟨-, h⟩ | ⟨-, h⟩
        · obtain rfl := Option.some.inj h
          exact Fr.rf
        · rcases of_ite h with ⟨-, h⟩ | ⟨-, h⟩
          · exact Fr.tr Fr.rf ((w_jX11_meet_54 h).wd rfl)
          · obtain ⟨-, h⟩ := of_guard h
            rcases of_ite h with ⟨-, h⟩ | ⟨-, h⟩
            · exact Fr.tr Fr.rf ((w_jX11_meet_54 h).wd rfl)
            · obtain rfl := Option.some.inj h
              exact Fr.rf
theorem w_cX11_spread_3 (l1 : Int32) (l2 : Int32) (l3 : Int32) (s : (Int32 × (Nat → Nat → Int32))) (z : ((Int32 × (Nat → Nat → Int32)) ⊕ (Nat → Nat → Int32))) (h : cX11_spread_3 l1 l2 l3 s = some z) : Fr [(123, 123, none)] s.2 ((Sum.elim (fun (x : Int32 × (Nat → Nat → Int32)) => x.2) (fun (x : Nat → Nat → Int32) => x)) z) := by
  unfold cX11_spread_3 at h
  rcases of_ite h with ⟨-, h⟩ | ⟨-, h⟩
  · obtain rfl := Option.some.inj h
    exact Fr.rf
  · rcases of_ite h with ⟨-, h⟩ | ⟨-, h⟩
    · obtain ⟨-, h⟩ := of_guard h
      obtain ⟨m7, q1, h⟩ := of_bind h
      have f2 : Fr [(123, 123, none)] s.2 m7 := Fr.eq q1 (Fr.up Fr.rf (FrC.up FrC.bs rfl))
      obtain rfl := Option.some.inj h
      exact f2
    · obtain ⟨-, h⟩ := of_guard h
      obtain ⟨m4, q3, h⟩ := of_bind h
      have f4 : Fr [(123, 123, none)] s.2 m4 := Fr.eq q3 (Fr.up Fr.rf (FrC.up FrC.bs rfl))
      obtain rfl := Option.some.inj h
      exact f4
theorem w_jX11_spread_138_36 {A : Nat → Nat → Int32} {l2 : Int32} {l3 : Int32} {l4 : Int32} {l5 : Int32} {l6 : Int32} {z : ((Int32 × (Nat → Nat → Int32)) ⊕ (Nat → Nat → Int32))} (h : jX11_spread_138_36 A l2 l3 l4 l5 l6 = some z) : Fr [(123, 123, none)] A ((Sum.elim (fun (x : Int32 × (Nat → Nat → Int32)) => x.2) (fun (x : Nat → Nat → Int32) => x)) z) := by
  unfold jX11_spread_138_36 at h
  rcases of_ite h with ⟨-, h⟩ | ⟨-, h⟩
  · obtain rfl := Option.some.inj h
    exact Fr.rf
  · rcases of_ite h with ⟨-, h⟩ | ⟨-, h⟩
    · obtain ⟨-, h⟩ := of_guard h
      obtain ⟨-, h⟩ := of_guard h
      obtain ⟨-, h⟩ := of_guard h
      obtain ⟨m6, q1, h⟩ := of_bind h
      have f2 : Fr [(123, 123, none)] A m6 := Fr.eq q1 (Fr.up Fr.rf (FrC.up FrC.bs rfl))
      obtain rfl := Option.some.inj h
      exact f2
    · obtain rfl := Option.some.inj h
      exact Fr.rf
theorem w_jX11_spread_107_36 {A : Nat → Nat → Int32} {l2 : Int32} {l3 : Int32} {l4 : Int32} {l5 : Int32} {s0 : Int32} {z : ((Int32 × (Nat → Nat → Int32)) ⊕ (Nat → Nat → Int32))} (h : jX11_spread_107_36 A l2 l3 l4 l5 s0 = some z) : Fr [(123, 123, none)] A ((Sum.elim (fun (x : Int32 × (Nat → Nat → Int32)) => x.2) (fun (x : Nat → Nat → Int32) => x)) z) := by
  unfold jX11_spread_107_36 at h
  rcases of_ite h with ⟨-, h⟩ | ⟨-, h⟩
  · exact Fr.tr Fr.rf ((w_jX11_spread_138_36 h).wd rfl)
  · rcases of_ite h with ⟨-, h⟩ | ⟨-, h⟩
    · obtain ⟨-, h⟩ := of_guard h
      obtain ⟨-, h⟩ := of_guard h
      obtain ⟨-, h⟩ := of_guard h
      obtain ⟨m6, q1, h⟩ := of_bind h
      have f2 : Fr [(123, 123, none)] A m6 := Fr.eq q1 (Fr.up Fr.rf (FrC.up FrC.bs rfl))
      exact Fr.tr f2 ((w_jX11_spread_138_36 h).wd rfl)
    · exact Fr.tr Fr.rf ((w_jX11_spread_138_36 h).wd rfl)
theorem w_jX11_spread_85_36 {A : Nat → Nat → Int32} {l2 : Int32} {l3 : Int32} {l4 : Int32} {s0 : Int32} {z : ((Int32 × (Nat → Nat → Int32)) ⊕ (Nat → Nat → Int32))} (h : jX11_spread_85_36 A l2 l3 l4 s0 = some z) : Fr [(123, 123, none)] A ((Sum.elim (fun (x : Int32 × (Nat → Nat → Int32)) => x.2) (fun (x : Nat → Nat → Int32) => x)) z) := by
  unfold jX11_spread_85_36 at h
  obtain ⟨-, h⟩ := of_guard h
  obtain ⟨-, h⟩ := of_guard h
  rcases of_ite h with ⟨-, h⟩ | ⟨-, h⟩
  · exact Fr.tr Fr.rf ((w_jX11_spread_107_36 h).wd rfl)
  · exact Fr.tr Fr.rf ((w_jX11_spread_107_36 h).wd rfl)
theorem w_cX11_spread_36 (l2 : Int32) (l3 : Int32) (s : (Int32 × (Nat → Nat → Int32))) (z : ((Int32 × (Nat → Nat → Int32)) ⊕ (Nat → Nat → Int32))) (h : cX11_spread_36 l2 l3 s = some z) : Fr [(123, 123, none)] s.2 ((Sum.elim (fun (x : Int32 × (Nat → Nat → Int32)) => x.2) (fun (x : Nat → Nat → Int32) => x)) z) := by
  unfold cX11_spread_36 at h
  rcases of_ite h with ⟨-, h⟩ | ⟨-, h⟩
  · obtain rfl := Option.some.inj h
    exact Fr.rf
  · rcases of_ite h with ⟨-, h⟩ | ⟨-, h⟩
    · obtain rfl := Option.some.inj h
      exact Fr.rf
    · obtain ⟨-, h⟩ := of_guard h
      rcases of_ite h with ⟨-, h⟩ | ⟨-, h⟩
      · obtain ⟨-, h⟩ := of_guard h
        obtain ⟨-, h⟩ := of_guard h
        rcases of_ite h with ⟨-, h⟩ | ⟨-, h⟩
        · exact Fr.tr Fr.rf ((w_jX11_spread_85_36 h).wd rfl)
        · exact Fr.tr Fr.rf ((w_jX11_spread_85_36 h).wd rfl)
      · obtain rfl := Option.some.inj h
        exact Fr.rf
theorem w_fX11_spread {A : Nat → Nat → Int32} {l1 : Int32} {l2 : Int32} {l3 : Int32} {z : (Nat → Nat → Int32)} (h : fX11_spread A l1 l2 l3 = some z) : Fr [(123, 123, none)] A z := by
  unfold fX11_spread at h
  obtain ⟨e1, q1, h⟩ := of_bind h
  have f2 : Fr [(123, 123, none)] A e1 := Fr.tr Fr.rf ((Fr.lp (ms := (fun (x : Int32 × (Nat → Nat → Int32)) => x.2)) (mr := (fun (x : Nat → Nat → Int32) => x)) (w_cX11_spread_3 _ _ _) q1).wd rfl)
  obtain ⟨e3, q3, h⟩ := of_bind h
  have f4 : Fr [(123, 123, none)] A e3 := Fr.tr f2 ((Fr.lp (ms := (fun (x : Int32 × (Nat → Nat → Int32)) => x.2)) (mr := (fun (x : Nat → Nat → Int32) => x)) (w_cX11_spread_36 _ _) q3).wd rfl)
  obtain rfl := Option.some.inj h
  exact f4
theorem w_fX11_news {A : Nat → Nat → Int32} {l1 : Int32} {l2 : Int32} {l3 : Int32} {z : (Int32 × (Nat → Nat → Int32))} (h : fX11_news A l1 l2 l3 = some z) : Fr [(123, 123, none)] A z.2 := by
  unfold fX11_news at h
  rcases of_ite h with ⟨-, h⟩ | ⟨-, h⟩
  · obtain rfl := Option.some.inj h
    exact Fr.rf
  · rcases of_ite h with ⟨-, h⟩ | ⟨-, h⟩
    · obtain rfl := Option.some.inj h
      exact Fr.rf
    · rcases of_ite h with ⟨-, h⟩ | ⟨-, h⟩
      · obtain rfl := Option.some.inj h
        exact Fr.rf
      · obtain ⟨r7, q1, h⟩ := of_bind h
        have f2 : Fr [(123, 123, none)] A r7 := Fr.tr Fr.rf ((w_fX11_spread q1).wd rfl)
        obtain ⟨-, h⟩ := of_guard h
        obtain rfl := Option.some.inj h
        exact f2
theorem w_fX11_peace {A : Nat → Nat → Int32} {l1 : Int32} {l2 : Int32} {l3 : Int32} {z : (Int32 × (Nat → Nat → Int32))} (h : fX11_peace A l1 l2 l3 = some z) : Fr [(123, 123, none)] A z.2 := by
  unfold fX11_peace at h
  rcases of_ite h with ⟨-, h⟩ | ⟨-, h⟩
  · obtain rfl := Option.some.inj h
    exact Fr.rf
  · rcases of_ite h with ⟨-, h⟩ | ⟨-, h⟩
    · obtain rfl := Option.some.inj h
      exact Fr.rf
    · rcases of_ite h with ⟨-, h⟩ | ⟨-, h⟩
      · obtain rfl := Option.some.inj h
        exact Fr.rf
      · obtain ⟨r7, q1, h⟩ := of_bind h
        have f2 : Fr [(123, 123, none)] A r7 := Fr.tr Fr.rf ((w_fX11_spread q1).wd rfl)
        obtain ⟨e9, q3, h⟩ := of_bind h
        obtain rfl := Option.some.inj h
        exact f2
theorem w_cX11_key_52 (l1 : Int32) (l2 : Int32) (l3 : Int32) (l4 : Int32) (s : (Int32 × (Nat → Nat → Int32))) (z : ((Int32 × (Nat → Nat → Int32)) ⊕ ((Nat → Nat → Int32) ⊕ (Int32 × (Nat → Nat → Int32))))) (h : cX11_key_52 l1 l2 l3 l4 s = some z) : Fr [(123, 123, none)] s.2 ((Sum.elim (fun (x : Int32 × (Nat → Nat → Int32)) => x.2) (Sum.elim (fun (x : Nat → Nat → Int32) => x) (fun (x : Int32 × (Nat → Nat → Int32)) => x.2))) z) := by
  unfold cX11_key_52 at h
  rcases of_ite h with ⟨-, h⟩ | ⟨-, h⟩
  · obtain rfl := Option.some.inj h
    exact Fr.rf
  · obtain ⟨r2, q1, h⟩ := of_bind h
    have f2 : Fr [(123, 123, none)] s.2 r2 := Fr.tr Fr.rf ((w_fX11_spread q1).wd rfl)
    obtain ⟨-, h⟩ := of_guard h
    rcases of_ite h with ⟨-, h⟩ | ⟨-, h⟩
    · obtain rfl := Option.some.inj h
      exact f2
    · obtain ⟨-, h⟩ := of_guard h
      rcases of_ite h with ⟨-, h⟩ | ⟨-, h⟩
      · obtain rfl := Option.some.inj h
        exact f2
      · obtain rfl := Option.some.inj h
        exact f2
theorem w_fX11_key {A : Nat → Nat → Int32} {l1 : Int32} {l2 : Int32} {l3 : Int32} {z : (Int32 × (Nat → Nat → Int32))} (h : fX11_key A l1 l2 l3 = some z) : Fr [(123, 123, none)] A z.2 := by
  unfold fX11_key at h
  rcases of_ite h with ⟨-, h⟩ | ⟨-, h⟩
  · obtain rfl := Option.some.inj h
    exact Fr.rf
  · rcases of_ite h with ⟨-, h⟩ | ⟨-, h⟩
    · obtain rfl := Option.some.inj h
      exact Fr.rf
    · rcases of_ite h with ⟨-, h⟩ | ⟨-, h⟩
      · obtain rfl := Option.some.inj h
        exact Fr.rf
      · obtain ⟨r7, q1, h⟩ := of_bind h
        have f2 : Fr [(123, 123, none)] A r7 := Fr.tr Fr.rf ((w_fX11_spread q1).wd rfl)
        obtain ⟨-, h⟩ := of_guard h
        rcases of_ite h with ⟨-, h⟩ | ⟨-, h⟩
        · rcases of_elim h with ⟨e11, q3, h⟩ | ⟨s0, q3, h⟩
          · have f4 : Fr [(123, 123, none)] A e11 := Fr.tr f2 ((Fr.lp (ms := (fun (x : Int32 × (Nat → Nat → Int32)) => x.2)) (mr := (Sum.elim (fun (x : Nat → Nat → Int32) => x) (fun (x : Int32 × (Nat → Nat → Int32)) => x.2))) (w_cX11_key_52 _ _ _ _) q3).wd rfl)
            obtain rfl := Option.some.inj h
            exact f4
          · have f5 : Fr [(123, 123, none)] A s0.2 := Fr.tr f2 ((Fr.lp (ms := (fun (x : Int32 × (Nat → Nat → Int32)) => x.2)) (mr := (Sum.elim (fun (x : Nat → Nat → Int32) => x) (fun (x : Int32 × (Nat → Nat → Int32)) => x.2))) (w_cX11_key_52 _ _ _ _) q3).wd rfl)
            obtain rfl := Option.some.inj h
            exact f5
        · obtain rfl := Option.some.inj h
          exact f2
theorem w_fX11_drawn {A : Nat → Nat → Int32} {L : Nat → Nat → Int64} {l1 : Int32} {l2 : Int32} {z : (Int32 × (Nat → Nat → Int32) × (Nat → Nat → Int64))} (h : fX11_drawn A L l1 l2 = some z) : Fr [(94, 94, some 25), (94, 94, some 29), (101, 101, none), (102, 102, none), (108, 108, none), (109, 109, none), (110, 110, none)] A z.2.1 := by
  unfold fX11_drawn at h
  rcases of_ite h with ⟨-, h⟩ | ⟨-, h⟩
  · obtain rfl := Option.some.inj h
    exact Fr.rf
  · rcases of_ite h with ⟨-, h⟩ | ⟨-, h⟩
    · obtain rfl := Option.some.inj h
      exact Fr.rf
    · obtain ⟨r5, q1, h⟩ := of_bind h
      have f2 : Fr [(94, 94, some 25), (94, 94, some 29), (101, 101, none), (102, 102, none), (108, 108, none), (109, 109, none), (110, 110, none)] A r5.2.1 := Fr.tr Fr.rf ((w_fX11_worthOfAll q1).wd rfl)
      obtain ⟨e7, q3, h⟩ := of_bind h
      rcases of_ite h with ⟨-, h⟩ | ⟨-, h⟩
      · obtain ⟨e10, q4, h⟩ := of_bind h
        obtain rfl := Option.some.inj h
        exact f2
      · rcases of_ite h with ⟨-, h⟩ | ⟨-, h⟩
        · obtain rfl := Option.some.inj h
          exact f2
        · obtain rfl := Option.some.inj h
          exact f2
theorem w_cX11_image_23 (s : (Int32 × (Nat → Nat → Int32))) (z : ((Int32 × (Nat → Nat → Int32)) ⊕ (Nat → Nat → Int32))) (h : cX11_image_23 s = some z) : Fr [(124, 124, none), (125, 125, none)] s.2 ((Sum.elim (fun (x : Int32 × (Nat → Nat → Int32)) => x.2) (fun (x : Nat → Nat → Int32) => x)) z) := by
  unfold cX11_image_23 at h
  rcases of_ite h with ⟨-, h⟩ | ⟨-, h⟩
  · obtain rfl := Option.some.inj h
    exact Fr.rf
  · obtain ⟨-, h⟩ := of_guard h
    obtain ⟨-, h⟩ := of_guard h
    obtain ⟨m4, q1, h⟩ := of_bind h
    have f2 : Fr [(124, 124, none), (125, 125, none)] s.2 m4 := Fr.eq q1 (Fr.up Fr.rf (FrC.up FrC.bs rfl))
    obtain ⟨-, h⟩ := of_guard h
    obtain ⟨-, h⟩ := of_guard h
    obtain ⟨m8, q3, h⟩ := of_bind h
    have f4 : Fr [(124, 124, none), (125, 125, none)] s.2 m8 := Fr.eq q3 (Fr.up f2 (FrC.up FrC.bs rfl))
    obtain rfl := Option.some.inj h
    exact f4
theorem w_cX11_image_61 (s : (Int32 × (Nat → Nat → Int32))) (z : ((Int32 × (Nat → Nat → Int32)) ⊕ (Nat → Nat → Int32))) (h : cX11_image_61 s = some z) : Fr [(126, 126, none)] s.2 ((Sum.elim (fun (x : Int32 × (Nat → Nat → Int32)) => x.2) (fun (x : Nat → Nat → Int32) => x)) z) := by
  unfold cX11_image_61 at h
  rcases of_ite h with ⟨-, h⟩ | ⟨-, h⟩
  · obtain rfl := Option.some.inj h
    exact Fr.rf
  · obtain ⟨-, h⟩ := of_guard h
    obtain ⟨-, h⟩ := of_guard h
    obtain ⟨m4, q1, h⟩ := of_bind h
    have f2 : Fr [(126, 126, none)] s.2 m4 := Fr.eq q1 (Fr.up Fr.rf (FrC.up FrC.bs rfl))
    obtain rfl := Option.some.inj h
    exact f2
theorem w_fX11_image {A : Nat → Nat → Int32} {z : (Int32 × (Nat → Nat → Int32))} (h : fX11_image A = some z) : Fr [(94, 94, some 47), (94, 94, some 48), (94, 94, some 49), (124, 124, none), (125, 125, none), (126, 126, none)] A z.2 := by
  unfold fX11_image at h
  obtain ⟨m1, q1, h⟩ := of_bind h
  have f2 : Fr [(94, 94, some 47), (94, 94, some 48), (94, 94, some 49), (124, 124, none), (125, 125, none), (126, 126, none)] A m1 := Fr.eq q1 (Fr.up (Fr.up Fr.rf (FrC.up FrC.bs rfl)) (FrC.up (FrC.up (FrC.sm (FrC.up FrC.bs rfl) FrC.bs) rfl) rfl))
  obtain ⟨e3, q3, h⟩ := of_bind h
  have f4 : Fr [(94, 94, some 47), (94, 94, some 48), (94, 94, some 49), (124, 124, none), (125, 125, none), (126, 126, none)] A e3 := Fr.tr (Fr.up f2 (FrC.up FrC.bs rfl)) ((Fr.lp (ms := (fun (x : Int32 × (Nat → Nat → Int32)) => x.2)) (mr := (fun (x : Nat → Nat → Int32) => x)) (w_cX11_image_23 ) q3).wd rfl)
  obtain ⟨e5, q5, h⟩ := of_bind h
  have f6 : Fr [(94, 94, some 47), (94, 94, some 48), (94, 94, some 49), (124, 124, none), (125, 125, none), (126, 126, none)] A e5 := Fr.tr f4 ((Fr.lp (ms := (fun (x : Int32 × (Nat → Nat → Int32)) => x.2)) (mr := (fun (x : Nat → Nat → Int32) => x)) (w_cX11_image_61 ) q5).wd rfl)
  obtain rfl := Option.some.inj h
  exact f6
theorem w_cX11_back_20 (s : (Int32 × (Nat → Nat → Int32))) (z : ((Int32 × (Nat → Nat → Int32)) ⊕ (Nat → Nat → Int32))) (h : cX11_back_20 s = some z) : Fr [(95, 95, none), (96, 96, none)] s.2 ((Sum.elim (fun (x : Int32 × (Nat → Nat → Int32)) => x.2) (fun (x : Nat → Nat → Int32) => x)) z) := by
  unfold cX11_back_20 at h
  rcases of_ite h with ⟨-, h⟩ | ⟨-, h⟩
  · obtain rfl := Option.some.inj h
    exact Fr.rf
  · obtain ⟨-, h⟩ := of_guard h
    obtain ⟨-, h⟩ := of_guard h
    obtain ⟨m4, q1, h⟩ := of_bind h
    have f2 : Fr [(95, 95, none), (96, 96, none)] s.2 m4 := Fr.eq q1 (Fr.up Fr.rf (FrC.up FrC.bs rfl))
    obtain ⟨-, h⟩ := of_guard h
    obtain ⟨-, h⟩ := of_guard h
    obtain ⟨m8, q3, h⟩ := of_bind h
    have f4 : Fr [(95, 95, none), (96, 96, none)] s.2 m8 := Fr.eq q3 (Fr.up f2 (FrC.up FrC.bs rfl))
    obtain rfl := Option.some.inj h
    exact f4
theorem w_cX11_back_68 (l1 : Int32) (s : (Int32 × (Nat → Nat → Int32))) (z : ((Int32 × (Nat → Nat → Int32)) ⊕ (Nat → Nat → Int32))) (h : cX11_back_68 l1 s = some z) : Fr [(115, 115, none)] s.2 ((Sum.elim (fun (x : Int32 × (Nat → Nat → Int32)) => x.2) (fun (x : Nat → Nat → Int32) => x)) z) := by
  unfold cX11_back_68 at h
  rcases of_ite h with ⟨-, h⟩ | ⟨-, h⟩
  · obtain rfl := Option.some.inj h
    exact Fr.rf
  · obtain ⟨-, h⟩ := of_guard h
    obtain ⟨-, h⟩ := of_guard h
    obtain ⟨m4, q1, h⟩ := of_bind h
    have f2 : Fr [(115, 115, none)] s.2 m4 := Fr.eq q1 (Fr.up Fr.rf (FrC.up FrC.bs rfl))
    obtain rfl := Option.some.inj h
    exact f2
theorem w_cX11_back_58 (s : (Int32 × (Nat → Nat → Int32))) (z : ((Int32 × (Nat → Nat → Int32)) ⊕ (Nat → Nat → Int32))) (h : cX11_back_58 s = some z) : Fr [(115, 115, none)] s.2 ((Sum.elim (fun (x : Int32 × (Nat → Nat → Int32)) => x.2) (fun (x : Nat → Nat → Int32) => x)) z) := by
  unfold cX11_back_58 at h
  rcases of_ite h with ⟨-, h⟩ | ⟨-, h⟩
  · obtain rfl := Option.some.inj h
    exact Fr.rf
  · obtain ⟨e2, q1, h⟩ := of_bind h
    have f2 : Fr [(115, 115, none)] s.2 e2 := Fr.tr Fr.rf ((Fr.lp (ms := (fun (x : Int32 × (Nat → Nat → Int32)) => x.2)) (mr := (fun (x : Nat → Nat → Int32) => x)) (w_cX11_back_68 _) q1).wd rfl)
    obtain rfl := Option.some.inj h
    exact f2
theorem w_fX11_back {A : Nat → Nat → Int32} {z : (Int32 × (Nat → Nat → Int32))} (h : fX11_back A = some z) : Fr [(94, 94, some 6), (95, 95, none), (96, 96, none), (115, 115, none)] A z.2 := by
  unfold fX11_back at h
  rcases of_ite h with ⟨-, h⟩ | ⟨-, h⟩
  · obtain rfl := Option.some.inj h
    exact Fr.rf
  · obtain ⟨e2, q1, h⟩ := of_bind h
    have f2 : Fr [(94, 94, some 6), (95, 95, none), (96, 96, none), (115, 115, none)] A e2 := Fr.tr (Fr.up Fr.rf (FrC.up FrC.bs rfl)) ((Fr.lp (ms := (fun (x : Int32 × (Nat → Nat → Int32)) => x.2)) (mr := (fun (x : Nat → Nat → Int32) => x)) (w_cX11_back_20 ) q1).wd rfl)
    obtain ⟨e4, q3, h⟩ := of_bind h
    have f4 : Fr [(94, 94, some 6), (95, 95, none), (96, 96, none), (115, 115, none)] A e4 := Fr.tr f2 ((Fr.lp (ms := (fun (x : Int32 × (Nat → Nat → Int32)) => x.2)) (mr := (fun (x : Nat → Nat → Int32) => x)) (w_cX11_back_58 ) q3).wd rfl)
    obtain rfl := Option.some.inj h
    exact f4
theorem w_cX11_sheet_66 (l1 : Int32) (l3 : Int32) (s : (Int32 × (Nat → Nat → Int32))) (z : ((Int32 × (Nat → Nat → Int32)) ⊕ (Nat → Nat → Int32))) (h : cX11_sheet_66 l1 l3 s = some z) : Fr [(129, 129, none)] s.2 ((Sum.elim (fun (x : Int32 × (Nat → Nat → Int32)) => x.2) (fun (x : Nat → Nat → Int32) => x)) z) := by
  unfold cX11_sheet_66 at h
  rcases of_ite h with ⟨-, h⟩ | ⟨-, h⟩
  · obtain rfl := Option.some.inj h
    exact Fr.rf
  · obtain ⟨-, h⟩ := of_guard h
    obtain ⟨m3, q1, h⟩ := of_bind h
    have f2 : Fr [(129, 129, none)] s.2 m3 := Fr.eq q1 (Fr.up Fr.rf (FrC.up FrC.bs rfl))
    obtain rfl := Option.some.inj h
    exact f2
theorem w_fX11_sheet {A : Nat → Nat → Int32} {l1 : Int32} {l2 : Int32} {l3 : Int32} {z : (Int32 × (Nat → Nat → Int32))} (h : fX11_sheet A l1 l2 l3 = some z) : Fr [(127, 127, none), (128, 128, none), (129, 129, none)] A z.2 := by
  unfold fX11_sheet at h
  rcases of_ite h with ⟨-, h⟩ | ⟨-, h⟩
  · obtain rfl := Option.some.inj h
    exact Fr.rf
  · rcases of_ite h with ⟨-, h⟩ | ⟨-, h⟩
    · obtain rfl := Option.some.inj h
      exact Fr.rf
    · rcases of_ite h with ⟨-, h⟩ | ⟨-, h⟩
      · obtain ⟨-, h⟩ := of_guard h
        obtain ⟨m17, q1, h⟩ := of_bind h
        have f2 : Fr [(127, 127, none), (128, 128, none), (129, 129, none)] A m17 := Fr.eq q1 (Fr.up Fr.rf (FrC.up FrC.bs rfl))
        obtain rfl := Option.some.inj h
        exact f2
      · rcases of_ite h with ⟨-, h⟩ | ⟨-, h⟩
        · rcases of_ite h with ⟨-, h⟩ | ⟨-, h⟩
          · obtain ⟨-, h⟩ := of_guard h
            obtain ⟨m9, q3, h⟩ := of_bind h
            have f4 : Fr [(127, 127, none), (128, 128, none), (129, 129, none)] A m9 := Fr.eq q3 (Fr.up Fr.rf (FrC.up FrC.bs rfl))
            obtain ⟨-, h⟩ := of_guard h
            obtain ⟨m12, q5, h⟩ := of_bind h
            have f6 : Fr [(127, 127, none), (128, 128, none), (129, 129, none)] A m12 := Fr.eq q5 (Fr.up f4 (FrC.up FrC.bs rfl))
            obtain ⟨e14, q7, h⟩ := of_bind h
            have f8 : Fr [(127, 127, none), (128, 128, none), (129, 129, none)] A e14 := Fr.tr f6 ((Fr.lp (ms := (fun (x : Int32 × (Nat → Nat → Int32)) => x.2)) (mr := (fun (x : Nat → Nat → Int32) => x)) (w_cX11_sheet_66 _ _) q7).wd rfl)
            obtain rfl := Option.some.inj h
            exact f8
          · obtain rfl := Option.some.inj h
            exact Fr.rf
        · obtain rfl := Option.some.inj h
          exact Fr.rf
theorem w_fX11_cell {A : Nat → Nat → Int32} {l1 : Int32} {l2 : Int32} {l3 : Int32} {z : (Int32 × (Nat → Nat → Int32))} (h : fX11_cell A l1 l2 l3 = some z) : Fr [(129, 129, none)] A z.2 := by
  unfold fX11_cell at h
  rcases of_ite h with ⟨-, h⟩ | ⟨-, h⟩
  · obtain rfl := Option.some.inj h
    exact Fr.rf
  · obtain ⟨-, h⟩ := of_guard h
    rcases of_ite h with ⟨-, h⟩ | ⟨-, h⟩
    · obtain ⟨-, h⟩ := of_guard h
      rcases of_ite h with ⟨-, h⟩ | ⟨-, h⟩
      · obtain rfl := Option.some.inj h
        exact Fr.rf
      · obtain ⟨-, h⟩ := of_guard h
        rcases of_ite h with ⟨-, h⟩ | ⟨-, h⟩
        · obtain ⟨-, h⟩ := of_guard h
          obtain ⟨m19, q1, h⟩ := of_bind h
          have f2 : Fr [(129, 129, none)] A m19 := Fr.eq q1 (Fr.up Fr.rf (FrC.up FrC.bs rfl))
          obtain rfl := Option.some.inj h
          exact f2
        · obtain ⟨-, h⟩ := of_guard h
          rcases of_ite h with ⟨-, h⟩ | ⟨-, h⟩
          · obtain ⟨-, h⟩ := of_guard h
            obtain ⟨m16, q3, h⟩ := of_bind h
            have f4 : Fr [(129, 129, none)] A m16 := Fr.eq q3 (Fr.up Fr.rf (FrC.up FrC.bs rfl))
            obtain rfl := Option.some.inj h
            exact f4
          · obtain ⟨-, h⟩ := of_guard h
            obtain ⟨m13, q5, h⟩ := of_bind h
            have f6 : Fr [(129, 129, none)] A m13 := Fr.eq q5 (Fr.up Fr.rf (FrC.up FrC.bs rfl))
            obtain rfl := Option.some.inj h
            exact f6
    · obtain rfl := Option.some.inj h
      exact Fr.rf
theorem w_cX11_copy_111 (l1 : Int32) (l2 : Int32) (l3 : Int32) (l4 : Int32) (l5 : Int32) (s : (Int32 × (Nat → Nat → Int32))) (z : ((Int32 × (Nat → Nat → Int32)) ⊕ (Nat → Nat → Int32))) (h : cX11_copy_111 l1 l2 l3 l4 l5 s = some z) : Fr [(130, 130, none)] s.2 ((Sum.elim (fun (x : Int32 × (Nat → Nat → Int32)) => x.2) (fun (x : Nat → Nat → Int32) => x)) z) := by
  unfold cX11_copy_111 at h
  rcases of_ite h with ⟨-, h⟩ | ⟨-, h⟩
  · obtain rfl := Option.some.inj h
    exact Fr.rf
  · obtain ⟨-, h⟩ := of_guard h
    obtain ⟨-, h⟩ := of_guard h
    obtain ⟨m4, q1, h⟩ := of_bind h
    have f2 : Fr [(130, 130, none)] s.2 m4 := Fr.eq q1 (Fr.up Fr.rf (FrC.up FrC.bs rfl))
    obtain rfl := Option.some.inj h
    exact f2
theorem w_cX11_copy_148 (l3 : Int32) (l4 : Int32) (l5 : Int32) (s : (Int32 × (Nat → Nat → Int32))) (z : ((Int32 × (Nat → Nat → Int32)) ⊕ (Nat → Nat → Int32))) (h : cX11_copy_148 l3 l4 l5 s = some z) : Fr [(129, 129, none)] s.2 ((Sum.elim (fun (x : Int32 × (Nat → Nat → Int32)) => x.2) (fun (x : Nat → Nat → Int32) => x)) z) := by
  unfold cX11_copy_148 at h
  rcases of_ite h with ⟨-, h⟩ | ⟨-, h⟩
  · obtain rfl := Option.some.inj h
    exact Fr.rf
  · obtain ⟨-, h⟩ := of_guard h
    obtain ⟨-, h⟩ := of_guard h
    obtain ⟨m4, q1, h⟩ := of_bind h
    have f2 : Fr [(129, 129, none)] s.2 m4 := Fr.eq q1 (Fr.up Fr.rf (FrC.up FrC.bs rfl))
    obtain rfl := Option.some.inj h
    exact f2
theorem w_fX11_copy {A : Nat → Nat → Int32} {l1 : Int32} {l2 : Int32} {l3 : Int32} {l4 : Int32} {l5 : Int32} {z : (Int32 × (Nat → Nat → Int32))} (h : fX11_copy A l1 l2 l3 l4 l5 = some z) : Fr [(129, 129, none), (130, 130, none)] A z.2 := by
  unfold fX11_copy at h
  rcases of_ite h with ⟨-, h⟩ | ⟨-, h⟩
  · obtain rfl := Option.some.inj h
    exact Fr.rf
  · rcases of_ite h with ⟨-, h⟩ | ⟨-, h⟩
    · obtain rfl := Option.some.inj h
      exact Fr.rf
    · obtain ⟨-, h⟩ := of_guard h
      rcases of_ite h with ⟨-, h⟩ | ⟨-, h⟩
      · obtain rfl := Option.some.inj h
        exact Fr.rf
      · obtain ⟨-, h⟩ := of_guard h
        rcases of_ite h with ⟨-, h⟩ | ⟨-, h⟩
        · obtain ⟨-, h⟩ := of_guard h
          obtain ⟨-, h⟩ := of_guard h
          rcases of_ite h with ⟨-, h⟩ | ⟨-, h⟩
          · rcases of_ite h with ⟨-, h⟩ | ⟨-, h⟩
            · obtain rfl := Option.some.inj h
              exact Fr.rf
            · rcases of_ite h with ⟨-, h⟩ | ⟨-, h⟩
              · obtain rfl := Option.some.inj h
                exact Fr.rf
              · rcases of_ite h with ⟨-, h⟩ | ⟨-, h⟩
                · obtain rfl := Option.some.inj h
                  exact Fr.rf
                · obtain ⟨-, h⟩ := of_guard h
                  rcases of_ite h with ⟨-, h⟩ | ⟨-, h⟩
                  · obtain rfl := Option.some.inj h
                    exact Fr.rf
                  · obtain ⟨-, h⟩ := of_guard h
                    rcases of_ite h with ⟨-, h⟩ | ⟨-, h⟩
                    · obtain ⟨e19, q1, h⟩ := of_bind h
                      have f2 : Fr [(129, 129, none), (130, 130, none)] A e19 := Fr.tr Fr.rf ((Fr.lp (ms := (fun (x : Int32 × (Nat → Nat → Int32)) => x.2)) (mr := (fun (x : Nat → Nat → Int32) => x)) (w_cX11_copy_111 _ _ _ _ _) q1).wd rfl)
                      obtain ⟨e21, q3, h⟩ := of_bind h
                      have f4 : Fr [(129, 129, none), (130, 130, none)] A e21 := Fr.tr f2 ((Fr.lp (ms := (fun (x : Int32 × (Nat → Nat → Int32)) => x.2)) (mr := (fun (x : Nat → Nat → Int32) => x)) (w_cX11_copy_148 _ _ _) q3).wd rfl)
                      obtain rfl := Option.some.inj h
                      exact f4
                    · obtain rfl := Option.some.inj h
                      exact Fr.rf
          · obtain rfl := Option.some.inj h
            exact Fr.rf
        · obtain rfl := Option.some.inj h
          exact Fr.rf
theorem w_cX11_sayingsBy_61 (l1 : Int32) (l3 : Int32) (l4 : Int32) (s : (Int32 × Int32 × (Nat → Nat → Int32))) (z : ((Int32 × Int32 × (Nat → Nat → Int32)) ⊕ ((Int32 × (Nat → Nat → Int32)) ⊕ (Int32 × (Nat → Nat → Int32))))) (h : cX11_sayingsBy_61 l1 l3 l4 s = some z) : Fr [(94, 94, some 21), (105, 105, none), (106, 106, none), (107, 107, none)] s.2.2 ((Sum.elim (fun (x : Int32 × Int32 × (Nat → Nat → Int32)) => x.2.2) (Sum.elim (fun (x : Int32 × (Nat → Nat → Int32)) => x.2) (fun (x : Int32 × (Nat → Nat → Int32)) => x.2))) z) := by
  unfold cX11_sayingsBy_61 at h
  rcases of_ite h with ⟨-, h⟩ | ⟨-, h⟩
  · obtain rfl := Option.some.inj h
    exact Fr.rf
  · rcases of_ite h with ⟨-, h⟩ | ⟨-, h⟩
    · obtain rfl := Option.some.inj h
      exact Fr.rf
    · obtain ⟨-, h⟩ := of_guard h
      rcases of_ite h with ⟨-, h⟩ | ⟨-, h⟩
      · obtain ⟨-, h⟩ := of_guard h
        obtain ⟨-, h⟩ := of_guard h
        obtain ⟨-, h⟩ := of_guard h
        obtain ⟨r8, q1, h⟩ := of_bind h
        have f2 : Fr [(94, 94, some 21), (105, 105, none), (106, 106, none), (107, 107, none)] s.2.2 r8.2 := Fr.tr Fr.rf ((w_fX11_say q1).wd rfl)
        rcases of_ite h with ⟨-, h⟩ | ⟨-, h⟩
        · obtain rfl := Option.some.inj h
          exact f2
        · obtain rfl := Option.some.inj h
          exact f2
      · obtain rfl := Option.some.inj h
        exact Fr.rf
theorem w_fX11_sayingsBy {A : Nat → Nat → Int32} {l1 : Int32} {l2 : Int32} {l3 : Int32} {l4 : Int32} {z : (Int32 × (Nat → Nat → Int32))} (h : fX11_sayingsBy A l1 l2 l3 l4 = some z) : Fr [(94, 94, some 21), (105, 105, none), (106, 106, none), (107, 107, none)] A z.2 := by
  unfold fX11_sayingsBy at h
  rcases of_ite h with ⟨-, h⟩ | ⟨-, h⟩
  · obtain rfl := Option.some.inj h
    exact Fr.rf
  · rcases of_ite h with ⟨-, h⟩ | ⟨-, h⟩
    · obtain rfl := Option.some.inj h
      exact Fr.rf
    · rcases of_ite h with ⟨-, h⟩ | ⟨-, h⟩
      · obtain rfl := Option.some.inj h
        exact Fr.rf
      · obtain ⟨-, h⟩ := of_guard h
        rcases of_ite h with ⟨-, h⟩ | ⟨-, h⟩
        · obtain ⟨-, h⟩ := of_guard h
          rcases of_ite h with ⟨-, h⟩ | ⟨-, h⟩
          · rcases of_elim h with ⟨e11, q1, h⟩ | ⟨s0, q1, h⟩
            · have f2 : Fr [(94, 94, some 21), (105, 105, none), (106, 106, none), (107, 107, none)] A e11.2 := Fr.tr Fr.rf ((Fr.lp (ms := (fun (x : Int32 × Int32 × (Nat → Nat → Int32)) => x.2.2)) (mr := (Sum.elim (fun (x : Int32 × (Nat → Nat → Int32)) => x.2) (fun (x : Int32 × (Nat → Nat → Int32)) => x.2))) (w_cX11_sayingsBy_61 _ _ _) q1).wd rfl)
              obtain rfl := Option.some.inj h
              exact f2
            · have f3 : Fr [(94, 94, some 21), (105, 105, none), (106, 106, none), (107, 107, none)] A s0.2 := Fr.tr Fr.rf ((Fr.lp (ms := (fun (x : Int32 × Int32 × (Nat → Nat → Int32)) => x.2.2)) (mr := (Sum.elim (fun (x : Int32 × (Nat → Nat → Int32)) => x.2) (fun (x : Int32 × (Nat → Nat → Int32)) => x.2))) (w_cX11_sayingsBy_61 _ _ _) q1).wd rfl)
              obtain rfl := Option.some.inj h
              exact f3
          · obtain rfl := Option.some.inj h
            exact Fr.rf
        · obtain rfl := Option.some.inj h
          exact Fr.rf
