/-! WHAT EACH FUNCTION LEAVES AS IT WAS, printed by gen25.py -/
theorem w_fX10_set {A : Nat → Nat → Int32} {l1 : Int32} {l2 : Int32} {z : (Int32 × (Nat → Nat → Int32))} (h : fX10_set A l1 l2 = some z) : Fr [(18, 18, none)] A z.2 := by
  unfold fX10_set at h
  rcases of_ite h with ⟨-, h⟩ | ⟨-, h⟩
  · obtain rfl := Option.some.inj h
    exact Fr.rf
  · obtain ⟨-, h⟩ := of_guard h
    obtain ⟨-, h⟩ := of_guard h
    rcases of_ite h with ⟨-, h⟩ | ⟨-, h⟩
    · obtain rfl := Option.some.inj h
      exact Fr.rf
    · obtain ⟨-, h⟩ := of_guard h
      obtain ⟨-, h⟩ := of_guard h
      obtain ⟨m9, q1, h⟩ := of_bind h
      have f2 : Fr [(18, 18, none)] A m9 := Fr.eq q1 (Fr.up Fr.rf (FrC.up FrC.bs rfl))
      obtain rfl := Option.some.inj h
      exact f2
theorem w_fX10_want {A : Nat → Nat → Int32} {l1 : Int32} {l2 : Int32} {z : (Int32 × (Nat → Nat → Int32))} (h : fX10_want A l1 l2 = some z) : Fr [(19, 19, none)] A z.2 := by
  unfold fX10_want at h
  rcases of_ite h with ⟨-, h⟩ | ⟨-, h⟩
  · obtain rfl := Option.some.inj h
    exact Fr.rf
  · rcases of_ite h with ⟨-, h⟩ | ⟨-, h⟩
    · obtain rfl := Option.some.inj h
      exact Fr.rf
    · obtain ⟨-, h⟩ := of_guard h
      obtain ⟨-, h⟩ := of_guard h
      obtain ⟨m7, q1, h⟩ := of_bind h
      have f2 : Fr [(19, 19, none)] A m7 := Fr.eq q1 (Fr.up Fr.rf (FrC.up FrC.bs rfl))
      obtain rfl := Option.some.inj h
      exact f2
theorem w_fX8_put {A : Nat → Nat → Int32} {l1 : Int32} {z : (Nat → Nat → Int32)} (h : fX8_put A l1 = some z) : Fr [(22, 22, some 1), (23, 23, none)] A z := by
  unfold fX8_put at h
  rcases of_ite h with ⟨-, h⟩ | ⟨-, h⟩
  · obtain rfl := Option.some.inj h
    exact Fr.rf
  · obtain ⟨-, h⟩ := of_guard h
    obtain ⟨m3, q1, h⟩ := of_bind h
    have f2 : Fr [(22, 22, some 1), (23, 23, none)] A m3 := Fr.eq q1 (Fr.up Fr.rf (FrC.up FrC.bs rfl))
    obtain rfl := Option.some.inj h
    exact (Fr.up f2 (FrC.up FrC.bs rfl))
theorem w_cX10_feed_49 (l1 : Int64) (s : (Int32 × (Nat → Nat → Int32))) (z : ((Int32 × (Nat → Nat → Int32)) ⊕ (Nat → Nat → Int32))) (h : cX10_feed_49 l1 s = some z) : Fr [(22, 22, some 1), (23, 23, none)] s.2 ((Sum.elim (fun (x : Int32 × (Nat → Nat → Int32)) => x.2) (fun (x : Nat → Nat → Int32) => x)) z) := by
  unfold cX10_feed_49 at h
  rcases of_ite h with ⟨-, h⟩ | ⟨-, h⟩
  · obtain rfl := Option.some.inj h
    exact Fr.rf
  · obtain ⟨r2, q1, h⟩ := of_bind h
    have f2 : Fr [(22, 22, some 1), (23, 23, none)] s.2 r2 := Fr.tr Fr.rf ((w_fX8_put q1).wd rfl)
    obtain rfl := Option.some.inj h
    exact f2
theorem w_fX10_feed {A : Nat → Nat → Int32} {l1 : Int64} {l3 : Int32} {z : (Int32 × (Nat → Nat → Int32))} (h : fX10_feed A l1 l3 = some z) : Fr [(22, 22, some 1), (23, 23, none)] A z.2 := by
  unfold fX10_feed at h
  rcases of_ite h with ⟨-, h⟩ | ⟨-, h⟩
  · obtain rfl := Option.some.inj h
    exact Fr.rf
  · rcases of_ite h with ⟨-, h⟩ | ⟨-, h⟩
    · obtain ⟨e4, q1, h⟩ := of_bind h
      have f2 : Fr [(22, 22, some 1), (23, 23, none)] A e4 := Fr.tr Fr.rf ((Fr.lp (ms := (fun (x : Int32 × (Nat → Nat → Int32)) => x.2)) (mr := (fun (x : Nat → Nat → Int32) => x)) (w_cX10_feed_49 _) q1).wd rfl)
      obtain rfl := Option.some.inj h
      exact f2
    · obtain rfl := Option.some.inj h
      exact Fr.rf
theorem w_cX8_tokenAt_69 (l1 : Int32) (s : (Nat → Nat → Int32)) (z : ((Nat → Nat → Int32) ⊕ (Nat → Nat → Int32))) (h : cX8_tokenAt_69 l1 s = some z) : Fr [(22, 22, some 5)] s ((Sum.elim (fun (x : Nat → Nat → Int32) => x) (fun (x : Nat → Nat → Int32) => x)) z) := by
  unfold cX8_tokenAt_69 at h
  rcases of_ite h with ⟨-, h⟩ | ⟨-, h⟩
  · obtain rfl := Option.some.inj h
    exact Fr.rf
  · obtain ⟨-, h⟩ := of_guard h
    rcases of_ite h with ⟨-, h⟩ | ⟨-, h⟩
    · obtain rfl := Option.some.inj h
      exact Fr.rf
    · obtain rfl := Option.some.inj h
      exact (Fr.up Fr.rf (FrC.up FrC.bs rfl))
theorem w_cX8_tokenAt_12 (l1 : Int32) (s : (Nat → Nat → Int32)) (z : ((Nat → Nat → Int32) ⊕ (Nat → Nat → Int32))) (h : cX8_tokenAt_12 l1 s = some z) : Fr [(22, 22, some 5)] s ((Sum.elim (fun (x : Nat → Nat → Int32) => x) (fun (x : Nat → Nat → Int32) => x)) z) := by
  unfold cX8_tokenAt_12 at h
  rcases of_ite h with ⟨-, h⟩ | ⟨-, h⟩
  · obtain rfl := Option.some.inj h
    exact Fr.rf
  · obtain ⟨-, h⟩ := of_guard h
    rcases of_ite h with ⟨-, h⟩ | ⟨-, h⟩
    · obtain rfl := Option.some.inj h
      exact Fr.rf
    · obtain rfl := Option.some.inj h
      exact (Fr.up Fr.rf (FrC.up FrC.bs rfl))
theorem w_fX8_tokenAt {A : Nat → Nat → Int32} {l1 : Int32} {z : (Int32 × (Nat → Nat → Int32))} (h : fX8_tokenAt A l1 = some z) : Fr [(22, 22, some 5)] A z.2 := by
  unfold fX8_tokenAt at h
  obtain ⟨-, h⟩ := of_guard h
  rcases of_ite h with ⟨-, h⟩ | ⟨-, h⟩
  · obtain ⟨-, h⟩ := of_guard h
    rcases of_ite h with ⟨-, h⟩ | ⟨-, h⟩
    · obtain ⟨-, h⟩ := of_guard h
      obtain ⟨r8, q1, h⟩ := of_bind h
      rcases of_ite h with ⟨-, h⟩ | ⟨-, h⟩
      · obtain rfl := Option.some.inj h
        exact (Fr.up Fr.rf (FrC.up FrC.bs rfl))
      · obtain ⟨-, h⟩ := of_guard h
        obtain rfl := Option.some.inj h
        exact (Fr.up Fr.rf (FrC.up FrC.bs rfl))
    · obtain ⟨e12, q2, h⟩ := of_bind h
      have f3 : Fr [(22, 22, some 5)] A e12 := Fr.tr Fr.rf ((Fr.lp (ms := (fun (x : Nat → Nat → Int32) => x)) (mr := (fun (x : Nat → Nat → Int32) => x)) (w_cX8_tokenAt_69 _) q2).wd rfl)
      obtain ⟨r14, q4, h⟩ := of_bind h
      obtain rfl := Option.some.inj h
      exact f3
  · obtain ⟨e16, q5, h⟩ := of_bind h
    have f6 : Fr [(22, 22, some 5)] A e16 := Fr.tr Fr.rf ((Fr.lp (ms := (fun (x : Nat → Nat → Int32) => x)) (mr := (fun (x : Nat → Nat → Int32) => x)) (w_cX8_tokenAt_12 _) q5).wd rfl)
    obtain ⟨r18, q7, h⟩ := of_bind h
    obtain rfl := Option.some.inj h
    exact f6
theorem w_jX8_cutUp_65_26 {A : Nat → Nat → Int32} {z : ((Nat → Nat → Int32) ⊕ (Nat → Nat → Int32))} (h : jX8_cutUp_65_26 A = some z) : Fr [(22, 22, some 5)] A ((Sum.elim (fun (x : Nat → Nat → Int32) => x) (fun (x : Nat → Nat → Int32) => x)) z) := by
  unfold jX8_cutUp_65_26 at h
  obtain rfl := Option.some.inj h
  exact (Fr.up Fr.rf (FrC.up FrC.bs rfl))
theorem w_cX8_cutUp_26 (s : (Nat → Nat → Int32)) (z : ((Nat → Nat → Int32) ⊕ (Nat → Nat → Int32))) (h : cX8_cutUp_26 s = some z) : Fr [(22, 22, some 5)] s ((Sum.elim (fun (x : Nat → Nat → Int32) => x) (fun (x : Nat → Nat → Int32) => x)) z) := by
  unfold cX8_cutUp_26 at h
  rcases of_ite h with ⟨-, h⟩ | ⟨-, h⟩
  · obtain rfl := Option.some.inj h
    exact Fr.rf
  · obtain ⟨-, h⟩ := of_guard h
    rcases of_ite h with ⟨-, h⟩ | ⟨-, h⟩
    · exact Fr.tr Fr.rf ((w_jX8_cutUp_65_26 h).wd rfl)
    · obtain ⟨-, h⟩ := of_guard h
      rcases of_ite h with ⟨-, h⟩ | ⟨-, h⟩
      · exact Fr.tr Fr.rf ((w_jX8_cutUp_65_26 h).wd rfl)
      · obtain rfl := Option.some.inj h
        exact Fr.rf
theorem w_jX8_cutUp_114_12 {A : Nat → Nat → Int32} {s0 : Int32} {z : ((Int32 × (Nat → Nat → Int32)) ⊕ (Nat → Nat → Int32))} (h : jX8_cutUp_114_12 A s0 = some z) : Fr [(22, 22, some 4), (24, 24, none)] A ((Sum.elim (fun (x : Int32 × (Nat → Nat → Int32)) => x.2) (fun (x : Nat → Nat → Int32) => x)) z) := by
  unfold jX8_cutUp_114_12 at h
  obtain ⟨-, h⟩ := of_guard h
  obtain ⟨m2, q1, h⟩ := of_bind h
  have f2 : Fr [(22, 22, some 4), (24, 24, none)] A m2 := Fr.eq q1 (Fr.up Fr.rf (FrC.up FrC.bs rfl))
  rcases of_ite h with ⟨-, h⟩ | ⟨-, h⟩
  · obtain rfl := Option.some.inj h
    exact (Fr.up f2 (FrC.up FrC.bs rfl))
  · rcases of_ite h with ⟨-, h⟩ | ⟨-, h⟩
    · obtain rfl := Option.some.inj h
      exact (Fr.up f2 (FrC.up FrC.bs rfl))
    · obtain rfl := Option.some.inj h
      exact (Fr.up f2 (FrC.up FrC.bs rfl))
theorem w_jX8_cutUp_78_12 {A : Nat → Nat → Int32} {z : ((Int32 × (Nat → Nat → Int32)) ⊕ (Nat → Nat → Int32))} (h : jX8_cutUp_78_12 A = some z) : Fr [(22, 22, some 4), (22, 22, some 5), (24, 24, none), (25, 25, none)] A ((Sum.elim (fun (x : Int32 × (Nat → Nat → Int32)) => x.2) (fun (x : Nat → Nat → Int32) => x)) z) := by
  unfold jX8_cutUp_78_12 at h
  obtain ⟨-, h⟩ := of_guard h
  obtain ⟨m2, q1, h⟩ := of_bind h
  have f2 : Fr [(22, 22, some 4), (22, 22, some 5), (24, 24, none), (25, 25, none)] A m2 := Fr.eq q1 (Fr.up Fr.rf (FrC.up FrC.bs rfl))
  rcases of_ite h with ⟨-, h⟩ | ⟨-, h⟩
  · exact Fr.tr f2 ((w_jX8_cutUp_114_12 h).wd rfl)
  · obtain ⟨r5, q3, h⟩ := of_bind h
    have f4 : Fr [(22, 22, some 4), (22, 22, some 5), (24, 24, none), (25, 25, none)] A r5.2 := Fr.tr f2 ((w_fX8_tokenAt q3).wd rfl)
    exact Fr.tr f4 ((w_jX8_cutUp_114_12 h).wd rfl)
theorem w_cX8_cutUp_12 (s : (Int32 × (Nat → Nat → Int32))) (z : ((Int32 × (Nat → Nat → Int32)) ⊕ (Nat → Nat → Int32))) (h : cX8_cutUp_12 s = some z) : Fr [(22, 22, some 4), (22, 22, some 5), (24, 24, none), (25, 25, none)] s.2 ((Sum.elim (fun (x : Int32 × (Nat → Nat → Int32)) => x.2) (fun (x : Nat → Nat → Int32) => x)) z) := by
  unfold cX8_cutUp_12 at h
  rcases of_ite h with ⟨-, h⟩ | ⟨-, h⟩
  · obtain rfl := Option.some.inj h
    exact Fr.rf
  · rcases of_ite h with ⟨-, h⟩ | ⟨-, h⟩
    · obtain rfl := Option.some.inj h
      exact Fr.rf
    · obtain ⟨e3, q1, h⟩ := of_bind h
      have f2 : Fr [(22, 22, some 4), (22, 22, some 5), (24, 24, none), (25, 25, none)] s.2 e3 := Fr.tr Fr.rf ((Fr.lp (ms := (fun (x : Nat → Nat → Int32) => x)) (mr := (fun (x : Nat → Nat → Int32) => x)) (w_cX8_cutUp_26 ) q1).wd rfl)
      exact Fr.tr f2 ((w_jX8_cutUp_78_12 h).wd rfl)
theorem w_fX8_cutUp {A : Nat → Nat → Int32} {z : (Nat → Nat → Int32)} (h : fX8_cutUp A = some z) : Fr [(22, 22, some 4), (22, 22, some 5), (24, 24, none), (25, 25, none)] A z := by
  unfold fX8_cutUp at h
  obtain ⟨m1, q1, h⟩ := of_bind h
  have f2 : Fr [(22, 22, some 4), (22, 22, some 5), (24, 24, none), (25, 25, none)] A m1 := Fr.eq q1 (Fr.up (Fr.up Fr.rf (FrC.up FrC.bs rfl)) (FrC.up (FrC.up (FrC.sm (FrC.up FrC.bs rfl) FrC.bs) rfl) rfl))
  obtain ⟨e3, q3, h⟩ := of_bind h
  have f4 : Fr [(22, 22, some 4), (22, 22, some 5), (24, 24, none), (25, 25, none)] A e3 := Fr.tr f2 ((Fr.lp (ms := (fun (x : Int32 × (Nat → Nat → Int32)) => x.2)) (mr := (fun (x : Nat → Nat → Int32) => x)) (w_cX8_cutUp_12 ) q3).wd rfl)
  obtain rfl := Option.some.inj h
  exact f4
theorem w_fX5_fail {A : Nat → Nat → Int32} {z : (Nat → Nat → Int32)} (h : fX5_fail A = some z) : Fr [(21, 21, none)] A z := by
  unfold fX5_fail at h
  rcases of_ite h with ⟨-, h⟩ | ⟨-, h⟩
  · obtain rfl := Option.some.inj h
    exact Fr.rf
  · obtain ⟨-, h⟩ := of_guard h
    obtain rfl := Option.some.inj h
    exact (Fr.up Fr.rf (FrC.up FrC.bs rfl))
theorem w_fX5_next {A : Nat → Nat → Int32} {z : (Nat → Nat → Int32)} (h : fX5_next A = some z) : Fr [(21, 21, none)] A z := by
  unfold fX5_next at h
  rcases of_ite h with ⟨-, h⟩ | ⟨-, h⟩
  · obtain rfl := Option.some.inj h
    exact Fr.rf
  · obtain rfl := Option.some.inj h
    exact (Fr.up Fr.rf (FrC.up FrC.bs rfl))
theorem w_fX5_expect {A : Nat → Nat → Int32} {l1 : Int32} {z : (Nat → Nat → Int32)} (h : fX5_expect A l1 = some z) : Fr [(21, 21, none)] A z := by
  unfold fX5_expect at h
  rcases of_ite h with ⟨-, h⟩ | ⟨-, h⟩
  · obtain ⟨r2, q1, h⟩ := of_bind h
    have f2 : Fr [(21, 21, none)] A r2 := Fr.tr Fr.rf ((w_fX5_fail q1).wd rfl)
    obtain rfl := Option.some.inj h
    exact f2
  · obtain ⟨r4, q3, h⟩ := of_bind h
    rcases of_ite h with ⟨-, h⟩ | ⟨-, h⟩
    · obtain ⟨r9, q4, h⟩ := of_bind h
      have f5 : Fr [(21, 21, none)] A r9 := Fr.tr Fr.rf ((w_fX5_next q4).wd rfl)
      obtain rfl := Option.some.inj h
      exact f5
    · obtain ⟨r7, q6, h⟩ := of_bind h
      have f7 : Fr [(21, 21, none)] A r7 := Fr.tr Fr.rf ((w_fX5_fail q6).wd rfl)
      obtain rfl := Option.some.inj h
      exact f7
theorem w_fX5_write {A : Nat → Nat → Int32} {l1 : Int32} {z : (Nat → Nat → Int32)} (h : fX5_write A l1 = some z) : Fr [(21, 21, none), (26, 26, none)] A z := by
  unfold fX5_write at h
  rcases of_ite h with ⟨-, h⟩ | ⟨-, h⟩
  · obtain rfl := Option.some.inj h
    exact Fr.rf
  · rcases of_ite h with ⟨-, h⟩ | ⟨-, h⟩
    · obtain rfl := Option.some.inj h
      exact Fr.rf
    · obtain ⟨-, h⟩ := of_guard h
      obtain ⟨m4, q1, h⟩ := of_bind h
      have f2 : Fr [(21, 21, none), (26, 26, none)] A m4 := Fr.eq q1 (Fr.up Fr.rf (FrC.up FrC.bs rfl))
      obtain rfl := Option.some.inj h
      exact (Fr.up f2 (FrC.up FrC.bs rfl))
theorem w_cX5_readChain_10 {rc : (Nat → Nat → Int32) → Int32 → Int32 → Option (Nat → Nat → Int32)} (hrc : ∀ A l1 l2 z, rc A l1 l2 = some z → Fr [(21, 21, none), (26, 26, none)] A z) (l1 : Int32) (l2 : Int32) (s : (Int32 × (Nat → Nat → Int32))) (z : ((Int32 × (Nat → Nat → Int32)) ⊕ (Nat → Nat → Int32))) (h : cX5_readChain_10 rc l1 l2 s = some z) : Fr [(21, 21, none), (26, 26, none)] s.2 ((Sum.elim (fun (x : Int32 × (Nat → Nat → Int32)) => x.2) (fun (x : Nat → Nat → Int32) => x)) z) := by
  unfold cX5_readChain_10 at h
  rcases of_ite h with ⟨-, h⟩ | ⟨-, h⟩
  · obtain rfl := Option.some.inj h
    exact Fr.rf
  · rcases of_ite h with ⟨-, h⟩ | ⟨-, h⟩
    · obtain rfl := Option.some.inj h
      exact Fr.rf
    · obtain ⟨r3, q1, h⟩ := of_bind h
      rcases of_ite h with ⟨-, h⟩ | ⟨-, h⟩
      · obtain rfl := Option.some.inj h
        exact Fr.rf
      · obtain ⟨r6, q2, h⟩ := of_bind h
        obtain ⟨r8, q3, h⟩ := of_bind h
        have f4 : Fr [(21, 21, none), (26, 26, none)] s.2 r8 := Fr.tr Fr.rf ((w_fX5_next q3).wd rfl)
        obtain ⟨r10, q5, h⟩ := of_bind h
        have f6 : Fr [(21, 21, none), (26, 26, none)] s.2 r10 := Fr.tr f4 ((hrc _ _ _ _ q5).wd rfl)
        obtain ⟨r12, q7, h⟩ := of_bind h
        have f8 : Fr [(21, 21, none), (26, 26, none)] s.2 r12 := Fr.tr f6 ((w_fX5_write q7).wd rfl)
        obtain rfl := Option.some.inj h
        exact f8
theorem w_fX5_readChain {rc : (Nat → Nat → Int32) → Int32 → Int32 → Option (Nat → Nat → Int32)} (hrc : ∀ A l1 l2 z, rc A l1 l2 = some z → Fr [(21, 21, none), (26, 26, none)] A z) {A : Nat → Nat → Int32} {l1 : Int32} {l2 : Int32} {z : (Nat → Nat → Int32)} (h : fX5_readChain rc A l1 l2 = some z) : Fr [(21, 21, none), (26, 26, none)] A z := by
  unfold fX5_readChain at h
  obtain ⟨r1, q1, h⟩ := of_bind h
  have f2 : Fr [(21, 21, none), (26, 26, none)] A r1 := Fr.tr Fr.rf ((hrc _ _ _ _ q1).wd rfl)
  obtain ⟨e3, q3, h⟩ := of_bind h
  have f4 : Fr [(21, 21, none), (26, 26, none)] A e3 := Fr.tr f2 ((Fr.lp (ms := (fun (x : Int32 × (Nat → Nat → Int32)) => x.2)) (mr := (fun (x : Nat → Nat → Int32) => x)) (w_cX5_readChain_10 hrc _ _) q3).wd rfl)
  obtain rfl := Option.some.inj h
  exact f4
theorem w_fX5_readOpened {rc : (Nat → Nat → Int32) → Int32 → Int32 → Option (Nat → Nat → Int32)} (hrc : ∀ A l1 l2 z, rc A l1 l2 = some z → Fr [(21, 21, none), (26, 26, none)] A z) {A : Nat → Nat → Int32} {l1 : Int32} {l2 : Int32} {z : (Nat → Nat → Int32)} (h : fX5_readOpened rc A l1 l2 = some z) : Fr [(21, 21, none), (26, 26, none)] A z := by
  unfold fX5_readOpened at h
  rcases of_ite h with ⟨-, h⟩ | ⟨-, h⟩
  · obtain ⟨r2, q1, h⟩ := of_bind h
    have f2 : Fr [(21, 21, none), (26, 26, none)] A r2 := Fr.tr Fr.rf ((w_fX5_next q1).wd rfl)
    obtain ⟨r4, q3, h⟩ := of_bind h
    have f4 : Fr [(21, 21, none), (26, 26, none)] A r4 := Fr.tr f2 ((hrc _ _ _ _ q3).wd rfl)
    obtain rfl := Option.some.inj h
    exact f4
  · obtain ⟨r6, q5, h⟩ := of_bind h
    have f6 : Fr [(21, 21, none), (26, 26, none)] A r6 := Fr.tr Fr.rf ((w_fX5_fail q5).wd rfl)
    obtain rfl := Option.some.inj h
    exact f6
theorem w_jX5_readOne_58 {rc : (Nat → Nat → Int32) → Int32 → Int32 → Option (Nat → Nat → Int32)} (hrc : ∀ A l1 l2 z, rc A l1 l2 = some z → Fr [(21, 21, none), (26, 26, none)] A z) {A : Nat → Nat → Int32} {l1 : Int32} {l2 : Int32} {z : (Nat → Nat → Int32)} (h : jX5_readOne_58 rc A l1 l2 = some z) : Fr [(21, 21, none), (26, 26, none)] A z := by
  unfold jX5_readOne_58 at h
  rcases of_ite h with ⟨-, h⟩ | ⟨-, h⟩
  · obtain ⟨r9, q1, h⟩ := of_bind h
    have f2 : Fr [(21, 21, none), (26, 26, none)] A r9 := Fr.tr Fr.rf ((w_fX5_readOpened hrc q1).wd rfl)
    obtain ⟨r11, q3, h⟩ := of_bind h
    have f4 : Fr [(21, 21, none), (26, 26, none)] A r11 := Fr.tr f2 ((w_fX5_write q3).wd rfl)
    obtain rfl := Option.some.inj h
    exact f4
  · rcases of_ite h with ⟨-, h⟩ | ⟨-, h⟩
    · obtain ⟨r5, q5, h⟩ := of_bind h
      have f6 : Fr [(21, 21, none), (26, 26, none)] A r5 := Fr.tr Fr.rf ((w_fX5_readOpened hrc q5).wd rfl)
      obtain ⟨r7, q7, h⟩ := of_bind h
      have f8 : Fr [(21, 21, none), (26, 26, none)] A r7 := Fr.tr f6 ((w_fX5_expect q7).wd rfl)
      obtain rfl := Option.some.inj h
      exact f8
    · obtain ⟨r3, q9, h⟩ := of_bind h
      have f10 : Fr [(21, 21, none), (26, 26, none)] A r3 := Fr.tr Fr.rf ((w_fX5_fail q9).wd rfl)
      obtain rfl := Option.some.inj h
      exact f10
theorem w_fX5_readOne {rc : (Nat → Nat → Int32) → Int32 → Int32 → Option (Nat → Nat → Int32)} (hrc : ∀ A l1 l2 z, rc A l1 l2 = some z → Fr [(21, 21, none), (26, 26, none)] A z) {A : Nat → Nat → Int32} {l1 : Int32} {z : (Nat → Nat → Int32)} (h : fX5_readOne rc A l1 = some z) : Fr [(21, 21, none), (26, 26, none)] A z := by
  unfold fX5_readOne at h
  obtain ⟨r1, q1, h⟩ := of_bind h
  rcases of_ite h with ⟨-, h⟩ | ⟨-, h⟩
  · rcases of_ite h with ⟨-, h⟩ | ⟨-, h⟩
    · exact Fr.tr Fr.rf ((w_jX5_readOne_58 hrc h).wd rfl)
    · rcases of_ite h with ⟨-, h⟩ | ⟨-, h⟩
      · exact Fr.tr Fr.rf ((w_jX5_readOne_58 hrc h).wd rfl)
      · obtain ⟨r6, q2, h⟩ := of_bind h
        have f3 : Fr [(21, 21, none), (26, 26, none)] A r6 := Fr.tr Fr.rf ((w_fX5_write q2).wd rfl)
        obtain ⟨r8, q4, h⟩ := of_bind h
        have f5 : Fr [(21, 21, none), (26, 26, none)] A r8 := Fr.tr f3 ((w_fX5_next q4).wd rfl)
        obtain rfl := Option.some.inj h
        exact f5
  · obtain ⟨r10, q6, h⟩ := of_bind h
    have f7 : Fr [(21, 21, none), (26, 26, none)] A r10 := Fr.tr Fr.rf ((w_fX5_write q6).wd rfl)
    obtain ⟨r12, q8, h⟩ := of_bind h
    have f9 : Fr [(21, 21, none), (26, 26, none)] A r12 := Fr.tr f7 ((w_fX5_next q8).wd rfl)
    obtain rfl := Option.some.inj h
    exact f9
theorem w_jX5_readComparison_58 {rc : (Nat → Nat → Int32) → Int32 → Int32 → Option (Nat → Nat → Int32)} (hrc : ∀ A l1 l2 z, rc A l1 l2 = some z → Fr [(21, 21, none), (26, 26, none)] A z) {A : Nat → Nat → Int32} {l1 : Int32} {s0 : Int32} {z : (Nat → Nat → Int32)} (h : jX5_readComparison_58 rc A l1 s0 = some z) : Fr [(21, 21, none), (26, 26, none)] A z := by
  unfold jX5_readComparison_58 at h
  rcases of_ite h with ⟨-, h⟩ | ⟨-, h⟩
  · obtain rfl := Option.some.inj h
    exact Fr.rf
  · obtain ⟨r2, q1, h⟩ := of_bind h
    have f2 : Fr [(21, 21, none), (26, 26, none)] A r2 := Fr.tr Fr.rf ((w_fX5_next q1).wd rfl)
    obtain ⟨r4, q3, h⟩ := of_bind h
    have f4 : Fr [(21, 21, none), (26, 26, none)] A r4 := Fr.tr f2 ((hrc _ _ _ _ q3).wd rfl)
    obtain ⟨r6, q5, h⟩ := of_bind h
    have f6 : Fr [(21, 21, none), (26, 26, none)] A r6 := Fr.tr f4 ((w_fX5_write q5).wd rfl)
    obtain rfl := Option.some.inj h
    exact f6
theorem w_fX5_readComparison {rc : (Nat → Nat → Int32) → Int32 → Int32 → Option (Nat → Nat → Int32)} (hrc : ∀ A l1 l2 z, rc A l1 l2 = some z → Fr [(21, 21, none), (26, 26, none)] A z) {A : Nat → Nat → Int32} {l1 : Int32} {z : (Nat → Nat → Int32)} (h : fX5_readComparison rc A l1 = some z) : Fr [(21, 21, none), (26, 26, none)] A z := by
  unfold fX5_readComparison at h
  obtain ⟨r1, q1, h⟩ := of_bind h
  rcases of_ite h with ⟨-, h⟩ | ⟨-, h⟩
  · obtain ⟨r12, q2, h⟩ := of_bind h
    have f3 : Fr [(21, 21, none), (26, 26, none)] A r12 := Fr.tr Fr.rf ((w_fX5_readOpened hrc q2).wd rfl)
    obtain ⟨r14, q4, h⟩ := of_bind h
    have f5 : Fr [(21, 21, none), (26, 26, none)] A r14 := Fr.tr f3 ((w_fX5_write q4).wd rfl)
    obtain rfl := Option.some.inj h
    exact f5
  · obtain ⟨r4, q6, h⟩ := of_bind h
    have f7 : Fr [(21, 21, none), (26, 26, none)] A r4 := Fr.tr Fr.rf ((hrc _ _ _ _ q6).wd rfl)
    obtain ⟨r6, q8, h⟩ := of_bind h
    rcases of_ite h with ⟨-, h⟩ | ⟨-, h⟩
    · exact Fr.tr f7 ((w_jX5_readComparison_58 hrc h).wd rfl)
    · obtain ⟨r9, q9, h⟩ := of_bind h
      rcases of_ite h with ⟨-, h⟩ | ⟨-, h⟩
      · exact Fr.tr f7 ((w_jX5_readComparison_58 hrc h).wd rfl)
      · exact Fr.tr f7 ((w_jX5_readComparison_58 hrc h).wd rfl)
theorem w_gX5_readLevel {rc : (Nat → Nat → Int32) → Int32 → Int32 → Option (Nat → Nat → Int32)} (hrc : ∀ A l1 l2 z, rc A l1 l2 = some z → Fr [(21, 21, none), (26, 26, none)] A z) {A : Nat → Nat → Int32} {l1 : Int32} {l2 : Int32} {z : (Nat → Nat → Int32)} (h : gX5_readLevel rc A l1 l2 = some z) : Fr [(21, 21, none), (26, 26, none)] A z := by
  unfold gX5_readLevel at h
  rcases of_ite h with ⟨-, h⟩ | ⟨-, h⟩
  · rcases of_ite h with ⟨-, h⟩ | ⟨-, h⟩
    · obtain ⟨r8, q1, h⟩ := of_bind h
      have f2 : Fr [(21, 21, none), (26, 26, none)] A r8 := Fr.tr Fr.rf ((w_fX5_readComparison hrc q1).wd rfl)
      obtain rfl := Option.some.inj h
      exact f2
    · rcases of_ite h with ⟨-, h⟩ | ⟨-, h⟩
      · obtain ⟨r6, q3, h⟩ := of_bind h
        have f4 : Fr [(21, 21, none), (26, 26, none)] A r6 := Fr.tr Fr.rf ((w_fX5_readOne hrc q3).wd rfl)
        obtain rfl := Option.some.inj h
        exact f4
      · obtain ⟨r4, q5, h⟩ := of_bind h
        have f6 : Fr [(21, 21, none), (26, 26, none)] A r4 := Fr.tr Fr.rf ((w_fX5_readChain hrc q5).wd rfl)
        obtain rfl := Option.some.inj h
        exact f6
  · obtain rfl := Option.some.inj h
    exact Fr.rf
theorem w_fX5_readLevel : ∀ {k : Nat} {A : Nat → Nat → Int32} {l1 l2 : Int32} {z : Nat → Nat → Int32}, fX5_readLevel k A l1 l2 = some z → Fr [(21, 21, none), (26, 26, none)] A z
  | 0, _, _, _, _, h => by cases h
  | k + 1, A, l1, l2, z, h => (w_gX5_readLevel (rc := fX5_readLevel k) (fun A l1 l2 z q => w_fX5_readLevel q) h).wd rfl
theorem w_cX5_readTape_24 (s : (Int32 × (Nat → Nat → Int32))) (z : ((Int32 × (Nat → Nat → Int32)) ⊕ (Nat → Nat → Int32))) (h : cX5_readTape_24 s = some z) : Fr [(21, 21, none), (26, 26, none), (27, 27, none)] s.2 ((Sum.elim (fun (x : Int32 × (Nat → Nat → Int32)) => x.2) (fun (x : Nat → Nat → Int32) => x)) z) := by
  unfold cX5_readTape_24 at h
  rcases of_ite h with ⟨-, h⟩ | ⟨-, h⟩
  · obtain rfl := Option.some.inj h
    exact Fr.rf
  · obtain ⟨-, h⟩ := of_guard h
    obtain ⟨m3, q1, h⟩ := of_bind h
    have f2 : Fr [(21, 21, none), (26, 26, none), (27, 27, none)] s.2 m3 := Fr.eq q1 (Fr.up Fr.rf (FrC.up FrC.bs rfl))
    obtain ⟨r5, q3, h⟩ := of_bind h
    have f4 : Fr [(21, 21, none), (26, 26, none), (27, 27, none)] s.2 r5 := Fr.tr f2 ((w_fX5_expect q3).wd rfl)
    obtain ⟨r7, q5, h⟩ := of_bind h
    have f6 : Fr [(21, 21, none), (26, 26, none), (27, 27, none)] s.2 r7 := Fr.tr f4 ((w_fX5_readLevel q5).wd rfl)
    obtain ⟨r9, q7, h⟩ := of_bind h
    have f8 : Fr [(21, 21, none), (26, 26, none), (27, 27, none)] s.2 r9 := Fr.tr f6 ((w_fX5_expect q7).wd rfl)
    obtain rfl := Option.some.inj h
    exact f8
theorem w_fX5_readTape {A : Nat → Nat → Int32} {z : (Int32 × (Nat → Nat → Int32))} (h : fX5_readTape A = some z) : Fr [(21, 21, none), (22, 22, some 1), (22, 22, some 4), (22, 22, some 5), (24, 24, none), (25, 25, none), (26, 26, none), (27, 27, none)] A z.2 := by
  unfold fX5_readTape at h
  obtain ⟨r1, q1, h⟩ := of_bind h
  have f2 : Fr [(21, 21, none), (22, 22, some 1), (22, 22, some 4), (22, 22, some 5), (24, 24, none), (25, 25, none), (26, 26, none), (27, 27, none)] A r1 := Fr.tr Fr.rf ((w_fX8_cutUp q1).wd rfl)
  obtain ⟨m3, q3, h⟩ := of_bind h
  have f4 : Fr [(21, 21, none), (22, 22, some 1), (22, 22, some 4), (22, 22, some 5), (24, 24, none), (25, 25, none), (26, 26, none), (27, 27, none)] A m3 := Fr.eq q3 (Fr.up (Fr.up f2 (FrC.up FrC.bs rfl)) (FrC.up (FrC.up (FrC.sm (FrC.up FrC.bs rfl) FrC.bs) rfl) rfl))
  obtain ⟨e5, q5, h⟩ := of_bind h
  have f6 : Fr [(21, 21, none), (22, 22, some 1), (22, 22, some 4), (22, 22, some 5), (24, 24, none), (25, 25, none), (26, 26, none), (27, 27, none)] A e5 := Fr.tr (Fr.up f4 (FrC.up FrC.bs rfl)) ((Fr.lp (ms := (fun (x : Int32 × (Nat → Nat → Int32)) => x.2)) (mr := (fun (x : Nat → Nat → Int32) => x)) (w_cX5_readTape_24 ) q5).wd rfl)
  obtain ⟨m7, q7, h⟩ := of_bind h
  have f8 : Fr [(21, 21, none), (22, 22, some 1), (22, 22, some 4), (22, 22, some 5), (24, 24, none), (25, 25, none), (26, 26, none), (27, 27, none)] A m7 := Fr.eq q7 (Fr.up f6 (FrC.up FrC.bs rfl))
  obtain ⟨r9, q9, h⟩ := of_bind h
  have f10 : Fr [(21, 21, none), (22, 22, some 1), (22, 22, some 4), (22, 22, some 5), (24, 24, none), (25, 25, none), (26, 26, none), (27, 27, none)] A r9 := Fr.tr f8 ((w_fX5_expect q9).wd rfl)
  obtain rfl := Option.some.inj h
  exact (Fr.up f10 (FrC.up FrC.bs rfl))
theorem w_fX10_force {A : Nat → Nat → Int32} {l1 : Int32} {z : (Int32 × (Nat → Nat → Int32))} (h : fX10_force A l1 = some z) : Fr [(17, 17, some 2)] A z.2 := by
  unfold fX10_force at h
  rcases of_ite h with ⟨-, h⟩ | ⟨-, h⟩
  · obtain rfl := Option.some.inj h
    exact Fr.rf
  · obtain rfl := Option.some.inj h
    exact (Fr.up Fr.rf (FrC.up FrC.bs rfl))
theorem w_cJ7_fill_53178_5 (cl0 : Nat) (nl0 : Nat) (l1 : Int32) (l3 : Int32) (s : (Int32 × (Nat → Nat → Int32))) (z : ((Int32 × (Nat → Nat → Int32)) ⊕ (Nat → Nat → Int32))) (h : cJ7_fill_53178_5 cl0 nl0 l1 l3 s = some z) : Fr [(cl0, cl0, none)] s.2 ((Sum.elim (fun (x : Int32 × (Nat → Nat → Int32)) => x.2) (fun (x : Nat → Nat → Int32) => x)) z) := by
  unfold cJ7_fill_53178_5 at h
  rcases of_ite h with ⟨-, h⟩ | ⟨-, h⟩
  · obtain rfl := Option.some.inj h
    exact Fr.rf
  · obtain ⟨-, h⟩ := of_guard h
    obtain ⟨m3, e1, h⟩ := of_bind h
    have f2 : Fr [(cl0, cl0, none)] s.2 m3 := Fr.eq e1 (Fr.up Fr.rf (FrC.al fun j => inW_one cl0 j))
    obtain rfl := Option.some.inj h
    exact f2
theorem w_fJ7_fill_53178 {A : Nat → Nat → Int32} {cl0 : Nat} {nl0 : Nat} {l1 : Int32} {z : (Nat → Nat → Int32)} (h : fJ7_fill_53178 A cl0 nl0 l1 = some z) : Fr [(cl0, cl0, none)] A z := by
  unfold fJ7_fill_53178 at h
  obtain ⟨e1, e, h⟩ := of_bind h
  have f2 : Fr [(cl0, cl0, none)] A e1 := Fr.lp (ms := (fun (x : Int32 × (Nat → Nat → Int32)) => x.2)) (mr := (fun (x : Nat → Nat → Int32) => x)) (w_cJ7_fill_53178_5 _ _ _ _) e
  obtain rfl := Option.some.inj h
  exact f2
theorem w_fX6_sailBy {A : Nat → Nat → Int32} {l1 : Int32} {z : (Nat → Nat → Int32)} (h : fX6_sailBy A l1 = some z) : Fr [(16, 16, some 14), (53, 53, none)] A z := by
  unfold fX6_sailBy at h
  obtain ⟨r1, q1, h⟩ := of_bind h
  have f2 : Fr [(16, 16, some 14), (53, 53, none)] A r1 := Fr.tr (Fr.up Fr.rf (FrC.up FrC.bs rfl)) ((w_fJ7_fill_53178 q1).wd rfl)
  obtain rfl := Option.some.inj h
  exact f2
theorem w_fX2_turnTop {A : Nat → Nat → Int32} {l1 : Int32} {l2 : Int32} {z : (Nat → Nat → Int32)} (h : fX2_turnTop A l1 l2 = some z) : Fr [(43, 43, none)] A z := by
  unfold fX2_turnTop at h
  rcases of_ite h with ⟨-, h⟩ | ⟨-, h⟩
  · obtain rfl := Option.some.inj h
    exact Fr.rf
  · obtain ⟨-, h⟩ := of_guard h
    rcases of_ite h with ⟨-, h⟩ | ⟨-, h⟩
    · obtain ⟨-, h⟩ := of_guard h
      obtain ⟨m12, q1, h⟩ := of_bind h
      have f2 : Fr [(43, 43, none)] A m12 := Fr.eq q1 (Fr.up Fr.rf (FrC.up FrC.bs rfl))
      obtain rfl := Option.some.inj h
      exact f2
    · rcases of_ite h with ⟨-, h⟩ | ⟨-, h⟩
      · obtain ⟨-, h⟩ := of_guard h
        obtain ⟨m9, q3, h⟩ := of_bind h
        have f4 : Fr [(43, 43, none)] A m9 := Fr.eq q3 (Fr.up Fr.rf (FrC.up FrC.bs rfl))
        obtain rfl := Option.some.inj h
        exact f4
      · obtain ⟨-, h⟩ := of_guard h
        obtain ⟨m6, q5, h⟩ := of_bind h
        have f6 : Fr [(43, 43, none)] A m6 := Fr.eq q5 (Fr.up Fr.rf (FrC.up FrC.bs rfl))
        obtain rfl := Option.some.inj h
        exact f6
theorem w_jX2_says_104_20 {A : Nat → Nat → Int32} {l1 : Int32} {l2 : Int32} {cl3 : Nat} {l4 : Int32} {l5 : Int32} {l6 : Int32} {z : ((Int32 × Int32 × (Nat → Nat → Int32)) ⊕ (Nat → Nat → Int32))} (h : jX2_says_104_20 A l1 l2 cl3 l4 l5 l6 = some z) : Fr [(43, 43, none)] A ((Sum.elim (fun (x : Int32 × Int32 × (Nat → Nat → Int32)) => x.2.2) (fun (x : Nat → Nat → Int32) => x)) z) := by
  unfold jX2_says_104_20 at h
  obtain ⟨r1, q1, h⟩ := of_bind h
  have f2 : Fr [(43, 43, none)] A r1 := Fr.tr Fr.rf ((w_fX2_turnTop q1).wd rfl)
  obtain rfl := Option.some.inj h
  exact f2
theorem w_jX2_says_90_20 {A : Nat → Nat → Int32} {l1 : Int32} {l2 : Int32} {cl3 : Nat} {l4 : Int32} {l5 : Int32} {l6 : Int32} {z : ((Int32 × Int32 × (Nat → Nat → Int32)) ⊕ (Nat → Nat → Int32))} (h : jX2_says_90_20 A l1 l2 cl3 l4 l5 l6 = some z) : Fr [(43, 43, none)] A ((Sum.elim (fun (x : Int32 × Int32 × (Nat → Nat → Int32)) => x.2.2) (fun (x : Nat → Nat → Int32) => x)) z) := by
  unfold jX2_says_90_20 at h
  rcases of_ite h with ⟨-, h⟩ | ⟨-, h⟩
  · exact Fr.tr Fr.rf ((w_jX2_says_104_20 h).wd rfl)
  · rcases of_ite h with ⟨-, h⟩ | ⟨-, h⟩
    · exact Fr.tr Fr.rf ((w_jX2_says_104_20 h).wd rfl)
    · rcases of_ite h with ⟨-, h⟩ | ⟨-, h⟩
      · obtain rfl := Option.some.inj h
        exact Fr.rf
      · obtain ⟨-, h⟩ := of_guard h
        obtain ⟨-, h⟩ := of_guard h
        obtain ⟨-, h⟩ := of_guard h
        obtain ⟨m7, q1, h⟩ := of_bind h
        have f2 : Fr [(43, 43, none)] A m7 := Fr.eq q1 (Fr.up Fr.rf (FrC.up FrC.bs rfl))
        obtain rfl := Option.some.inj h
        exact f2
theorem w_jX2_says_83_20 {A : Nat → Nat → Int32} {l1 : Int32} {l2 : Int32} {cl3 : Nat} {l4 : Int32} {l5 : Int32} {s1 : Int32} {s2 : Int32} {z : ((Int32 × Int32 × (Nat → Nat → Int32)) ⊕ (Nat → Nat → Int32))} (h : jX2_says_83_20 A l1 l2 cl3 l4 l5 s1 s2 = some z) : Fr [(43, 43, none)] A ((Sum.elim (fun (x : Int32 × Int32 × (Nat → Nat → Int32)) => x.2.2) (fun (x : Nat → Nat → Int32) => x)) z) := by
  unfold jX2_says_83_20 at h
  obtain ⟨-, h⟩ := of_guard h
  obtain ⟨m2, q1, h⟩ := of_bind h
  have f2 : Fr [(43, 43, none)] A m2 := Fr.eq q1 (Fr.up Fr.rf (FrC.up FrC.bs rfl))
  obtain rfl := Option.some.inj h
  exact f2
theorem w_cX2_says_20 (l1 : Int32) (l2 : Int32) (cl3 : Nat) (s : (Int32 × Int32 × (Nat → Nat → Int32))) (z : ((Int32 × Int32 × (Nat → Nat → Int32)) ⊕ (Nat → Nat → Int32))) (h : cX2_says_20 l1 l2 cl3 s = some z) : Fr [(43, 43, none)] s.2.2 ((Sum.elim (fun (x : Int32 × Int32 × (Nat → Nat → Int32)) => x.2.2) (fun (x : Nat → Nat → Int32) => x)) z) := by
  unfold cX2_says_20 at h
  obtain ⟨-, h⟩ := of_guard h
  obtain ⟨-, h⟩ := of_guard h
  rcases of_ite h with ⟨-, h⟩ | ⟨-, h⟩
  · obtain rfl := Option.some.inj h
    exact Fr.rf
  · obtain ⟨-, h⟩ := of_guard h
    rcases of_ite h with ⟨-, h⟩ | ⟨-, h⟩
    · exact Fr.tr Fr.rf ((w_jX2_says_90_20 h).wd rfl)
    · rcases of_ite h with ⟨-, h⟩ | ⟨-, h⟩
      · exact Fr.tr Fr.rf ((w_jX2_says_90_20 h).wd rfl)
      · rcases of_ite h with ⟨-, h⟩ | ⟨-, h⟩
        · obtain ⟨-, h⟩ := of_guard h
          exact Fr.tr Fr.rf ((w_jX2_says_83_20 h).wd rfl)
        · exact Fr.tr Fr.rf ((w_jX2_says_83_20 h).wd rfl)
theorem w_fX2_says {A : Nat → Nat → Int32} {l1 : Int32} {l2 : Int32} {z : (Int32 × (Nat → Nat → Int32))} (h : fX2_says A l1 l2 = some z) : Fr [(43, 43, none)] A z.2 := by
  unfold fX2_says at h
  obtain ⟨-, h⟩ := of_guard h
  obtain ⟨-, h⟩ := of_guard h
  obtain ⟨-, h⟩ := of_guard h
  obtain ⟨e6, q1, h⟩ := of_bind h
  have f2 : Fr [(43, 43, none)] A e6 := Fr.tr Fr.rf ((Fr.lp (ms := (fun (x : Int32 × Int32 × (Nat → Nat → Int32)) => x.2.2)) (mr := (fun (x : Nat → Nat → Int32) => x)) (w_cX2_says_20 _ _ _) q1).wd rfl)
  obtain ⟨-, h⟩ := of_guard h
  obtain ⟨-, h⟩ := of_guard h
  obtain rfl := Option.some.inj h
  exact f2
theorem w_fX6_lawSays {A : Nat → Nat → Int32} {l1 : Int32} {l2 : Int32} {l3 : Int32} {z : (Int32 × (Nat → Nat → Int32))} (h : fX6_lawSays A l1 l2 l3 = some z) : Fr [(28, 28, none), (43, 43, none)] A z.2 := by
  unfold fX6_lawSays at h
  obtain ⟨m1, q1, h⟩ := of_bind h
  have f2 : Fr [(28, 28, none), (43, 43, none)] A m1 := Fr.eq q1 (Fr.up Fr.rf (FrC.up FrC.bs rfl))
  obtain ⟨m3, q3, h⟩ := of_bind h
  have f4 : Fr [(28, 28, none), (43, 43, none)] A m3 := Fr.eq q3 (Fr.up f2 (FrC.up FrC.bs rfl))
  obtain ⟨m5, q5, h⟩ := of_bind h
  have f6 : Fr [(28, 28, none), (43, 43, none)] A m5 := Fr.eq q5 (Fr.up f4 (FrC.up FrC.bs rfl))
  obtain ⟨m7, q7, h⟩ := of_bind h
  have f8 : Fr [(28, 28, none), (43, 43, none)] A m7 := Fr.eq q7 (Fr.up f6 (FrC.up FrC.bs rfl))
  obtain ⟨m9, q9, h⟩ := of_bind h
  have f10 : Fr [(28, 28, none), (43, 43, none)] A m9 := Fr.eq q9 (Fr.up f8 (FrC.up FrC.bs rfl))
  obtain ⟨m11, q11, h⟩ := of_bind h
  have f12 : Fr [(28, 28, none), (43, 43, none)] A m11 := Fr.eq q11 (Fr.up f10 (FrC.up FrC.bs rfl))
  obtain ⟨r13, q13, h⟩ := of_bind h
  have f14 : Fr [(28, 28, none), (43, 43, none)] A r13.2 := Fr.tr f12 ((w_fX2_says q13).wd rfl)
  obtain rfl := Option.some.inj h
  exact f14
theorem w_fX10_asks {A : Nat → Nat → Int32} {l1 : Int32} {l2 : Int32} {l3 : Int32} {z : (Int32 × (Nat → Nat → Int32))} (h : fX10_asks A l1 l2 l3 = some z) : Fr [(16, 16, some 14), (28, 28, none), (43, 43, none), (53, 53, none)] A z.2 := by
  unfold fX10_asks at h
  rcases of_ite h with ⟨-, h⟩ | ⟨-, h⟩
  · obtain rfl := Option.some.inj h
    exact Fr.rf
  · rcases of_ite h with ⟨-, h⟩ | ⟨-, h⟩
    · obtain rfl := Option.some.inj h
      exact Fr.rf
    · rcases of_ite h with ⟨-, h⟩ | ⟨-, h⟩
      · obtain rfl := Option.some.inj h
        exact Fr.rf
      · obtain ⟨r7, q1, h⟩ := of_bind h
        have f2 : Fr [(16, 16, some 14), (28, 28, none), (43, 43, none), (53, 53, none)] A r7 := Fr.tr Fr.rf ((w_fX6_sailBy q1).wd rfl)
        obtain ⟨r9, q3, h⟩ := of_bind h
        have f4 : Fr [(16, 16, some 14), (28, 28, none), (43, 43, none), (53, 53, none)] A r9.2 := Fr.tr f2 ((w_fX6_lawSays q3).wd rfl)
        obtain rfl := Option.some.inj h
        exact f4
theorem w_fX6_add {A : Nat → Nat → Int32} {l1 : Int32} {l2 : Int32} {l3 : Int32} {z : (Int32 × (Nat → Nat → Int32))} (h : fX6_add A l1 l2 l3 = some z) : Fr [(16, 16, some 5), (44, 44, none), (45, 45, none), (46, 46, none)] A z.2 := by
  unfold fX6_add at h
  obtain ⟨-, h⟩ := of_guard h
  obtain ⟨m2, q1, h⟩ := of_bind h
  have f2 : Fr [(16, 16, some 5), (44, 44, none), (45, 45, none), (46, 46, none)] A m2 := Fr.eq q1 (Fr.up Fr.rf (FrC.up FrC.bs rfl))
  obtain ⟨-, h⟩ := of_guard h
  obtain ⟨m5, q3, h⟩ := of_bind h
  have f4 : Fr [(16, 16, some 5), (44, 44, none), (45, 45, none), (46, 46, none)] A m5 := Fr.eq q3 (Fr.up f2 (FrC.up FrC.bs rfl))
  obtain ⟨-, h⟩ := of_guard h
  obtain ⟨m8, q5, h⟩ := of_bind h
  have f6 : Fr [(16, 16, some 5), (44, 44, none), (45, 45, none), (46, 46, none)] A m8 := Fr.eq q5 (Fr.up f4 (FrC.up FrC.bs rfl))
  obtain rfl := Option.some.inj h
  exact (Fr.up f6 (FrC.up FrC.bs rfl))
theorem w_fX10_say {A : Nat → Nat → Int32} {l1 : Int32} {l2 : Int32} {l3 : Int32} {z : (Int32 × (Nat → Nat → Int32))} (h : fX10_say A l1 l2 l3 = some z) : Fr [(16, 16, some 5), (44, 44, none), (45, 45, none), (46, 46, none)] A z.2 := by
  unfold fX10_say at h
  rcases of_ite h with ⟨-, h⟩ | ⟨-, h⟩
  · obtain rfl := Option.some.inj h
    exact Fr.rf
  · rcases of_ite h with ⟨-, h⟩ | ⟨-, h⟩
    · obtain rfl := Option.some.inj h
      exact Fr.rf
    · rcases of_ite h with ⟨-, h⟩ | ⟨-, h⟩
      · obtain rfl := Option.some.inj h
        exact Fr.rf
      · rcases of_ite h with ⟨-, h⟩ | ⟨-, h⟩
        · obtain ⟨r8, q1, h⟩ := of_bind h
          have f2 : Fr [(16, 16, some 5), (44, 44, none), (45, 45, none), (46, 46, none)] A r8.2 := Fr.tr Fr.rf ((w_fX6_add q1).wd rfl)
          obtain rfl := Option.some.inj h
          exact f2
        · obtain rfl := Option.some.inj h
          exact Fr.rf
theorem w_jX6_learn_59 {A : Nat → Nat → Int32} {l1 : Int32} {l2 : Int32} {l3 : Int32} {s1 : Int32} {s4 : Int32} {z : (Int32 × (Nat → Nat → Int32))} (h : jX6_learn_59 A l1 l2 l3 s1 s4 = some z) : Fr [(28, 28, none), (43, 43, none), (52, 52, none)] A z.2 := by
  unfold jX6_learn_59 at h
  obtain ⟨-, h⟩ := of_guard h
  obtain ⟨r2, q1, h⟩ := of_bind h
  have f2 : Fr [(28, 28, none), (43, 43, none), (52, 52, none)] A r2.2 := Fr.tr Fr.rf ((w_fX6_lawSays q1).wd rfl)
  obtain ⟨r4, q3, h⟩ := of_bind h
  obtain ⟨-, h⟩ := of_guard h
  obtain ⟨m7, q4, h⟩ := of_bind h
  have f5 : Fr [(28, 28, none), (43, 43, none), (52, 52, none)] A m7 := Fr.eq q4 (Fr.up f2 (FrC.up FrC.bs rfl))
  obtain rfl := Option.some.inj h
  exact f5
theorem w_fX6_learn {A : Nat → Nat → Int32} {l1 : Int32} {l2 : Int32} {z : (Int32 × (Nat → Nat → Int32))} (h : fX6_learn A l1 l2 = some z) : Fr [(28, 28, none), (43, 43, none), (52, 52, none), (53, 53, none)] A z.2 := by
  unfold fX6_learn at h
  obtain ⟨-, h⟩ := of_guard h
  rcases of_ite h with ⟨-, h⟩ | ⟨-, h⟩
  · obtain ⟨-, h⟩ := of_guard h
    obtain ⟨r4, q1, h⟩ := of_bind h
    have f2 : Fr [(28, 28, none), (43, 43, none), (52, 52, none), (53, 53, none)] A r4.2 := Fr.tr Fr.rf ((w_fX6_lawSays q1).wd rfl)
    obtain ⟨r6, q3, h⟩ := of_bind h
    obtain ⟨-, h⟩ := of_guard h
    obtain ⟨m9, q4, h⟩ := of_bind h
    have f5 : Fr [(28, 28, none), (43, 43, none), (52, 52, none), (53, 53, none)] A m9 := Fr.eq q4 (Fr.up f2 (FrC.up FrC.bs rfl))
    obtain ⟨r11, q6, h⟩ := of_bind h
    rcases of_ite h with ⟨-, h⟩ | ⟨-, h⟩
    · exact Fr.tr f5 ((w_jX6_learn_59 h).wd rfl)
    · exact Fr.tr f5 ((w_jX6_learn_59 h).wd rfl)
  · obtain rfl := Option.some.inj h
    exact Fr.rf
theorem w_fX10_told {A : Nat → Nat → Int32} {l1 : Int32} {l2 : Int32} {l3 : Int32} {z : (Int32 × (Nat → Nat → Int32))} (h : fX10_told A l1 l2 l3 = some z) : Fr [(16, 16, some 14), (28, 28, none), (43, 43, none), (52, 52, none), (53, 53, none)] A z.2 := by
  unfold fX10_told at h
  rcases of_ite h with ⟨-, h⟩ | ⟨-, h⟩
  · obtain rfl := Option.some.inj h
    exact Fr.rf
  · rcases of_ite h with ⟨-, h⟩ | ⟨-, h⟩
    · obtain rfl := Option.some.inj h
      exact Fr.rf
    · obtain ⟨r5, q1, h⟩ := of_bind h
      have f2 : Fr [(16, 16, some 14), (28, 28, none), (43, 43, none), (52, 52, none), (53, 53, none)] A r5 := Fr.tr Fr.rf ((w_fX6_sailBy q1).wd rfl)
      rcases of_ite h with ⟨-, h⟩ | ⟨-, h⟩
      · obtain ⟨-, h⟩ := of_guard h
        obtain rfl := Option.some.inj h
        exact f2
      · rcases of_ite h with ⟨-, h⟩ | ⟨-, h⟩
        · obtain ⟨-, h⟩ := of_guard h
          obtain rfl := Option.some.inj h
          exact f2
        · rcases of_ite h with ⟨-, h⟩ | ⟨-, h⟩
          · obtain ⟨-, h⟩ := of_guard h
            obtain rfl := Option.some.inj h
            exact f2
          · rcases of_ite h with ⟨-, h⟩ | ⟨-, h⟩
            · obtain ⟨r16, q3, h⟩ := of_bind h
              have f4 : Fr [(16, 16, some 14), (28, 28, none), (43, 43, none), (52, 52, none), (53, 53, none)] A r16.2 := Fr.tr f2 ((w_fX6_learn q3).wd rfl)
              obtain ⟨-, h⟩ := of_guard h
              obtain rfl := Option.some.inj h
              exact f4
            · rcases of_ite h with ⟨-, h⟩ | ⟨-, h⟩
              · obtain ⟨r19, q5, h⟩ := of_bind h
                have f6 : Fr [(16, 16, some 14), (28, 28, none), (43, 43, none), (52, 52, none), (53, 53, none)] A r19.2 := Fr.tr f2 ((w_fX6_learn q5).wd rfl)
                obtain ⟨-, h⟩ := of_guard h
                obtain rfl := Option.some.inj h
                exact f6
              · rcases of_ite h with ⟨-, h⟩ | ⟨-, h⟩
                · obtain ⟨r22, q7, h⟩ := of_bind h
                  rcases of_ite h with ⟨-, h⟩ | ⟨-, h⟩
                  · obtain rfl := Option.some.inj h
                    exact f2
                  · obtain rfl := Option.some.inj h
                    exact f2
                · obtain rfl := Option.some.inj h
                  exact f2
theorem w_cX6_orderWithout_4 (l1 : Int32) (s : (Int32 × Int32 × (Nat → Nat → Int32))) (z : ((Int32 × Int32 × (Nat → Nat → Int32)) ⊕ (Int32 × (Nat → Nat → Int32)))) (h : cX6_orderWithout_4 l1 s = some z) : Fr [(50, 50, none)] s.2.2 ((Sum.elim (fun (x : Int32 × Int32 × (Nat → Nat → Int32)) => x.2.2) (fun (x : Int32 × (Nat → Nat → Int32)) => x.2)) z) := by
  unfold cX6_orderWithout_4 at h
  rcases of_ite h with ⟨-, h⟩ | ⟨-, h⟩
  · obtain rfl := Option.some.inj h
    exact Fr.rf
  · rcases of_ite h with ⟨-, h⟩ | ⟨-, h⟩
    · obtain rfl := Option.some.inj h
      exact Fr.rf
    · obtain ⟨-, h⟩ := of_guard h
      obtain ⟨m4, q1, h⟩ := of_bind h
      have f2 : Fr [(50, 50, none)] s.2.2 m4 := Fr.eq q1 (Fr.up Fr.rf (FrC.up FrC.bs rfl))
      obtain rfl := Option.some.inj h
      exact f2
theorem w_fX6_orderWithout {A : Nat → Nat → Int32} {l1 : Int32} {z : (Int32 × (Nat → Nat → Int32))} (h : fX6_orderWithout A l1 = some z) : Fr [(50, 50, none)] A z.2 := by
  unfold fX6_orderWithout at h
  obtain ⟨e1, q1, h⟩ := of_bind h
  have f2 : Fr [(50, 50, none)] A e1.2 := Fr.tr Fr.rf ((Fr.lp (ms := (fun (x : Int32 × Int32 × (Nat → Nat → Int32)) => x.2.2)) (mr := (fun (x : Int32 × (Nat → Nat → Int32)) => x.2)) (w_cX6_orderWithout_4 _) q1).wd rfl)
  obtain rfl := Option.some.inj h
  exact f2
theorem w_cX6_walk_43 (l1 : Int32) (l2 : Int32) (s : (Int32 × Int32 × (Nat → Nat → Int32))) (z : ((Int32 × Int32 × (Nat → Nat → Int32)) ⊕ (Nat → Nat → Int32))) (h : cX6_walk_43 l1 l2 s = some z) : Fr [(16, 16, some 9), (28, 28, none), (43, 43, none), (47, 47, none), (48, 48, none), (49, 49, none), (52, 52, none), (53, 53, none)] s.2.2 ((Sum.elim (fun (x : Int32 × Int32 × (Nat → Nat → Int32)) => x.2.2) (fun (x : Nat → Nat → Int32) => x)) z) := by
  unfold cX6_walk_43 at h
  rcases of_ite h with ⟨-, h⟩ | ⟨-, h⟩
  · obtain rfl := Option.some.inj h
    exact Fr.rf
  · rcases of_ite h with ⟨-, h⟩ | ⟨-, h⟩
    · obtain rfl := Option.some.inj h
      exact Fr.rf
    · obtain ⟨-, h⟩ := of_guard h
      obtain ⟨-, h⟩ := of_guard h
      obtain ⟨m5, q1, h⟩ := of_bind h
      have f2 : Fr [(16, 16, some 9), (28, 28, none), (43, 43, none), (47, 47, none), (48, 48, none), (49, 49, none), (52, 52, none), (53, 53, none)] s.2.2 m5 := Fr.eq q1 (Fr.up Fr.rf (FrC.up FrC.bs rfl))
      obtain ⟨r7, q3, h⟩ := of_bind h
      have f4 : Fr [(16, 16, some 9), (28, 28, none), (43, 43, none), (47, 47, none), (48, 48, none), (49, 49, none), (52, 52, none), (53, 53, none)] s.2.2 r7.2 := Fr.tr f2 ((w_fX6_learn q3).wd rfl)
      obtain ⟨-, h⟩ := of_guard h
      rcases of_ite h with ⟨-, h⟩ | ⟨-, h⟩
      · obtain rfl := Option.some.inj h
        exact f4
      · obtain ⟨-, h⟩ := of_guard h
        obtain ⟨-, h⟩ := of_guard h
        obtain ⟨m13, q5, h⟩ := of_bind h
        have f6 : Fr [(16, 16, some 9), (28, 28, none), (43, 43, none), (47, 47, none), (48, 48, none), (49, 49, none), (52, 52, none), (53, 53, none)] s.2.2 m13 := Fr.eq q5 (Fr.up f4 (FrC.up FrC.bs rfl))
        obtain ⟨-, h⟩ := of_guard h
        obtain ⟨-, h⟩ := of_guard h
        obtain ⟨-, h⟩ := of_guard h
        obtain ⟨-, h⟩ := of_guard h
        obtain ⟨-, h⟩ := of_guard h
        obtain ⟨m20, q7, h⟩ := of_bind h
        have f8 : Fr [(16, 16, some 9), (28, 28, none), (43, 43, none), (47, 47, none), (48, 48, none), (49, 49, none), (52, 52, none), (53, 53, none)] s.2.2 m20 := Fr.eq q7 (Fr.up f6 (FrC.up FrC.bs rfl))
        obtain rfl := Option.some.inj h
        exact (Fr.up f8 (FrC.up FrC.bs rfl))
theorem w_fX6_walk {A : Nat → Nat → Int32} {l1 : Int32} {z : (Int64 × (Nat → Nat → Int32))} (h : fX6_walk A l1 = some z) : Fr [(16, 16, some 9), (28, 28, none), (43, 43, none), (47, 47, none), (48, 48, none), (49, 49, none), (52, 52, none), (53, 53, none)] A z.2 := by
  unfold fX6_walk at h
  obtain ⟨r1, q1, h⟩ := of_bind h
  have f2 : Fr [(16, 16, some 9), (28, 28, none), (43, 43, none), (47, 47, none), (48, 48, none), (49, 49, none), (52, 52, none), (53, 53, none)] A r1 := Fr.tr Fr.rf ((w_fJ7_fill_53178 q1).wd rfl)
  obtain ⟨r3, q3, h⟩ := of_bind h
  have f4 : Fr [(16, 16, some 9), (28, 28, none), (43, 43, none), (47, 47, none), (48, 48, none), (49, 49, none), (52, 52, none), (53, 53, none)] A r3 := Fr.tr f2 ((w_fJ7_fill_53178 q3).wd rfl)
  obtain ⟨r5, q5, h⟩ := of_bind h
  have f6 : Fr [(16, 16, some 9), (28, 28, none), (43, 43, none), (47, 47, none), (48, 48, none), (49, 49, none), (52, 52, none), (53, 53, none)] A r5 := Fr.tr f4 ((w_fJ7_fill_53178 q5).wd rfl)
  obtain ⟨e7, q7, h⟩ := of_bind h
  have f8 : Fr [(16, 16, some 9), (28, 28, none), (43, 43, none), (47, 47, none), (48, 48, none), (49, 49, none), (52, 52, none), (53, 53, none)] A e7 := Fr.tr (Fr.up f6 (FrC.up FrC.bs rfl)) ((Fr.lp (ms := (fun (x : Int32 × Int32 × (Nat → Nat → Int32)) => x.2.2)) (mr := (fun (x : Nat → Nat → Int32) => x)) (w_cX6_walk_43 _ _) q7).wd rfl)
  obtain ⟨r9, q9, h⟩ := of_bind h
  obtain rfl := Option.some.inj h
  exact f8
theorem w_fX6_worthAsTheyCame {A : Nat → Nat → Int32} {l1 : Int32} {z : (Int64 × (Nat → Nat → Int32))} (h : fX6_worthAsTheyCame A l1 = some z) : Fr [(16, 16, some 9), (16, 16, some 14), (28, 28, none), (43, 43, none), (47, 47, none), (48, 48, none), (49, 49, none), (50, 50, none), (52, 52, none), (53, 53, none)] A z.2 := by
  unfold fX6_worthAsTheyCame at h
  obtain ⟨r1, q1, h⟩ := of_bind h
  have f2 : Fr [(16, 16, some 9), (16, 16, some 14), (28, 28, none), (43, 43, none), (47, 47, none), (48, 48, none), (49, 49, none), (50, 50, none), (52, 52, none), (53, 53, none)] A r1 := Fr.tr Fr.rf ((w_fX6_sailBy q1).wd rfl)
  obtain ⟨r3, q3, h⟩ := of_bind h
  have f4 : Fr [(16, 16, some 9), (16, 16, some 14), (28, 28, none), (43, 43, none), (47, 47, none), (48, 48, none), (49, 49, none), (50, 50, none), (52, 52, none), (53, 53, none)] A r3.2 := Fr.tr f2 ((w_fX6_orderWithout q3).wd rfl)
  obtain ⟨r5, q5, h⟩ := of_bind h
  have f6 : Fr [(16, 16, some 9), (16, 16, some 14), (28, 28, none), (43, 43, none), (47, 47, none), (48, 48, none), (49, 49, none), (50, 50, none), (52, 52, none), (53, 53, none)] A r5.2 := Fr.tr f4 ((w_fX6_walk q5).wd rfl)
  obtain rfl := Option.some.inj h
  exact f6
theorem w_fX10_run {A : Nat → Nat → Int32} {l1 : Int32} {z : (Int64 × (Nat → Nat → Int32))} (h : fX10_run A l1 = some z) : Fr [(16, 16, some 9), (16, 16, some 14), (28, 28, none), (43, 43, none), (47, 47, none), (48, 48, none), (49, 49, none), (50, 50, none), (52, 52, none), (53, 53, none)] A z.2 := by
  unfold fX10_run at h
  rcases of_ite h with ⟨-, h⟩ | ⟨-, h⟩
  · obtain rfl := Option.some.inj h
    exact Fr.rf
  · obtain ⟨r3, q1, h⟩ := of_bind h
    have f2 : Fr [(16, 16, some 9), (16, 16, some 14), (28, 28, none), (43, 43, none), (47, 47, none), (48, 48, none), (49, 49, none), (50, 50, none), (52, 52, none), (53, 53, none)] A r3.2 := Fr.tr Fr.rf ((w_fX6_worthAsTheyCame q1).wd rfl)
    rcases of_ite h with ⟨-, h⟩ | ⟨-, h⟩
    · obtain rfl := Option.some.inj h
      exact f2
    · rcases of_ite h with ⟨-, h⟩ | ⟨-, h⟩
      · obtain rfl := Option.some.inj h
        exact f2
      · obtain ⟨-, h⟩ := of_guard h
        obtain rfl := Option.some.inj h
        exact f2
theorem w_fX10_minute {A : Nat → Nat → Int32} {l1 : Int32} {l2 : Int32} {z : (Int32 × (Nat → Nat → Int32))} (h : fX10_minute A l1 l2 = some z) : Fr [(16, 16, some 9), (16, 16, some 14), (28, 28, none), (43, 43, none), (47, 47, none), (48, 48, none), (49, 49, none), (50, 50, none), (52, 52, none), (53, 53, none)] A z.2 := by
  unfold fX10_minute at h
  rcases of_ite h with ⟨-, h⟩ | ⟨-, h⟩
  · obtain rfl := Option.some.inj h
    exact Fr.rf
  · rcases of_ite h with ⟨-, h⟩ | ⟨-, h⟩
    · obtain rfl := Option.some.inj h
      exact Fr.rf
    · obtain ⟨r5, q1, h⟩ := of_bind h
      have f2 : Fr [(16, 16, some 9), (16, 16, some 14), (28, 28, none), (43, 43, none), (47, 47, none), (48, 48, none), (49, 49, none), (50, 50, none), (52, 52, none), (53, 53, none)] A r5.2 := Fr.tr Fr.rf ((w_fX6_worthAsTheyCame q1).wd rfl)
      rcases of_ite h with ⟨-, h⟩ | ⟨-, h⟩
      · obtain ⟨-, h⟩ := of_guard h
        obtain rfl := Option.some.inj h
        exact f2
      · obtain ⟨-, h⟩ := of_guard h
        obtain rfl := Option.some.inj h
        exact f2
theorem w_cX6_worthByNumbers_17 (cl1 : Nat) (nl1 : Nat) (l2 : Int32) (s : (Int32 × Int32 × (Nat → Nat → Int32))) (z : ((Int32 × Int32 × (Nat → Nat → Int32)) ⊕ ((Nat → Nat → Int32) ⊕ (Int64 × (Nat → Nat → Int32))))) (h : cX6_worthByNumbers_17 cl1 nl1 l2 s = some z) : Fr [(50, 50, none)] s.2.2 ((Sum.elim (fun (x : Int32 × Int32 × (Nat → Nat → Int32)) => x.2.2) (Sum.elim (fun (x : Nat → Nat → Int32) => x) (fun (x : Int64 × (Nat → Nat → Int32)) => x.2))) z) := by
  unfold cX6_worthByNumbers_17 at h
  rcases of_ite h with ⟨-, h⟩ | ⟨-, h⟩
  · obtain rfl := Option.some.inj h
    exact Fr.rf
  · obtain ⟨-, h⟩ := of_guard h
    rcases of_ite h with ⟨-, h⟩ | ⟨-, h⟩
    · obtain rfl := Option.some.inj h
      exact Fr.rf
    · rcases of_ite h with ⟨-, h⟩ | ⟨-, h⟩
      · obtain ⟨-, h⟩ := of_guard h
        obtain ⟨m7, q1, h⟩ := of_bind h
        have f2 : Fr [(50, 50, none)] s.2.2 m7 := Fr.eq q1 (Fr.up Fr.rf (FrC.up FrC.bs rfl))
        obtain rfl := Option.some.inj h
        exact f2
      · obtain rfl := Option.some.inj h
        exact Fr.rf
theorem w_fX6_worthByNumbers {A : Nat → Nat → Int32} {cl1 : Nat} {nl1 : Nat} {l2 : Int32} {z : (Int64 × (Nat → Nat → Int32))} (h : fX6_worthByNumbers A cl1 nl1 l2 = some z) : Fr [(16, 16, some 9), (16, 16, some 14), (28, 28, none), (43, 43, none), (47, 47, none), (48, 48, none), (49, 49, none), (50, 50, none), (52, 52, none), (53, 53, none)] A z.2 := by
  unfold fX6_worthByNumbers at h
  rcases of_ite h with ⟨-, h⟩ | ⟨-, h⟩
  · rcases of_elim h with ⟨e2, q1, h⟩ | ⟨s0, q1, h⟩
    · have f2 : Fr [(16, 16, some 9), (16, 16, some 14), (28, 28, none), (43, 43, none), (47, 47, none), (48, 48, none), (49, 49, none), (50, 50, none), (52, 52, none), (53, 53, none)] A e2 := Fr.tr Fr.rf ((Fr.lp (ms := (fun (x : Int32 × Int32 × (Nat → Nat → Int32)) => x.2.2)) (mr := (Sum.elim (fun (x : Nat → Nat → Int32) => x) (fun (x : Int64 × (Nat → Nat → Int32)) => x.2))) (w_cX6_worthByNumbers_17 _ _ _) q1).wd rfl)
      obtain ⟨r4, q3, h⟩ := of_bind h
      have f4 : Fr [(16, 16, some 9), (16, 16, some 14), (28, 28, none), (43, 43, none), (47, 47, none), (48, 48, none), (49, 49, none), (50, 50, none), (52, 52, none), (53, 53, none)] A r4 := Fr.tr f2 ((w_fX6_sailBy q3).wd rfl)
      obtain ⟨r6, q5, h⟩ := of_bind h
      have f6 : Fr [(16, 16, some 9), (16, 16, some 14), (28, 28, none), (43, 43, none), (47, 47, none), (48, 48, none), (49, 49, none), (50, 50, none), (52, 52, none), (53, 53, none)] A r6.2 := Fr.tr f4 ((w_fX6_walk q5).wd rfl)
      obtain rfl := Option.some.inj h
      exact f6
    · have f7 : Fr [(16, 16, some 9), (16, 16, some 14), (28, 28, none), (43, 43, none), (47, 47, none), (48, 48, none), (49, 49, none), (50, 50, none), (52, 52, none), (53, 53, none)] A s0.2 := Fr.tr Fr.rf ((Fr.lp (ms := (fun (x : Int32 × Int32 × (Nat → Nat → Int32)) => x.2.2)) (mr := (Sum.elim (fun (x : Nat → Nat → Int32) => x) (fun (x : Int64 × (Nat → Nat → Int32)) => x.2))) (w_cX6_worthByNumbers_17 _ _ _) q1).wd rfl)
      obtain rfl := Option.some.inj h
      exact f7
  · obtain rfl := Option.some.inj h
    exact Fr.rf
theorem w_fX10_judge {A : Nat → Nat → Int32} {l1 : Int32} {z : (Int64 × (Nat → Nat → Int32))} (h : fX10_judge A l1 = some z) : Fr [(16, 16, some 9), (16, 16, some 14), (28, 28, none), (43, 43, none), (47, 47, none), (48, 48, none), (49, 49, none), (50, 50, none), (52, 52, none), (53, 53, none)] A z.2 := by
  unfold fX10_judge at h
  rcases of_ite h with ⟨-, h⟩ | ⟨-, h⟩
  · obtain rfl := Option.some.inj h
    exact Fr.rf
  · obtain ⟨-, h⟩ := of_guard h
    rcases of_ite h with ⟨-, h⟩ | ⟨-, h⟩
    · obtain rfl := Option.some.inj h
      exact Fr.rf
    · obtain ⟨-, h⟩ := of_guard h
      obtain ⟨-, h⟩ := of_guard h
      obtain ⟨r8, q1, h⟩ := of_bind h
      have f2 : Fr [(16, 16, some 9), (16, 16, some 14), (28, 28, none), (43, 43, none), (47, 47, none), (48, 48, none), (49, 49, none), (50, 50, none), (52, 52, none), (53, 53, none)] A r8.2 := Fr.tr Fr.rf ((w_fX6_worthByNumbers q1).wd rfl)
      obtain rfl := Option.some.inj h
      exact f2
theorem w_fX6_exchange {A : Nat → Nat → Int32} {l1 : Int32} {l2 : Int32} {z : (Nat → Nat → Int32)} (h : fX6_exchange A l1 l2 = some z) : Fr [(50, 50, none)] A z := by
  unfold fX6_exchange at h
  obtain ⟨-, h⟩ := of_guard h
  obtain ⟨-, h⟩ := of_guard h
  obtain ⟨-, h⟩ := of_guard h
  obtain ⟨m4, q1, h⟩ := of_bind h
  have f2 : Fr [(50, 50, none)] A m4 := Fr.eq q1 (Fr.up Fr.rf (FrC.up FrC.bs rfl))
  obtain ⟨-, h⟩ := of_guard h
  obtain ⟨m7, q3, h⟩ := of_bind h
  have f4 : Fr [(50, 50, none)] A m7 := Fr.eq q3 (Fr.up f2 (FrC.up FrC.bs rfl))
  obtain rfl := Option.some.inj h
  exact f4
theorem w_cX6_bestExchange_26 (l7 : Int32) (s : (Int64 × Int32 × Int32 × Int32 × (Nat → Nat → Int32))) (z : ((Int64 × Int32 × Int32 × Int32 × (Nat → Nat → Int32)) ⊕ (Int64 × Int32 × Int32 × (Nat → Nat → Int32)))) (h : cX6_bestExchange_26 l7 s = some z) : Fr [(16, 16, some 9), (28, 28, none), (43, 43, none), (47, 47, none), (48, 48, none), (49, 49, none), (50, 50, none), (52, 52, none), (53, 53, none)] s.2.2.2.2 ((Sum.elim (fun (x : Int64 × Int32 × Int32 × Int32 × (Nat → Nat → Int32)) => x.2.2.2.2) (fun (x : Int64 × Int32 × Int32 × (Nat → Nat → Int32)) => x.2.2.2)) z) := by
  unfold cX6_bestExchange_26 at h
  rcases of_ite h with ⟨-, h⟩ | ⟨-, h⟩
  · obtain rfl := Option.some.inj h
    exact Fr.rf
  · obtain ⟨r2, q1, h⟩ := of_bind h
    have f2 : Fr [(16, 16, some 9), (28, 28, none), (43, 43, none), (47, 47, none), (48, 48, none), (49, 49, none), (50, 50, none), (52, 52, none), (53, 53, none)] s.2.2.2.2 r2 := Fr.tr Fr.rf ((w_fX6_exchange q1).wd rfl)
    obtain ⟨r4, q3, h⟩ := of_bind h
    have f4 : Fr [(16, 16, some 9), (28, 28, none), (43, 43, none), (47, 47, none), (48, 48, none), (49, 49, none), (50, 50, none), (52, 52, none), (53, 53, none)] s.2.2.2.2 r4.2 := Fr.tr f2 ((w_fX6_walk q3).wd rfl)
    obtain ⟨r6, q5, h⟩ := of_bind h
    have f6 : Fr [(16, 16, some 9), (28, 28, none), (43, 43, none), (47, 47, none), (48, 48, none), (49, 49, none), (50, 50, none), (52, 52, none), (53, 53, none)] s.2.2.2.2 r6 := Fr.tr f4 ((w_fX6_exchange q5).wd rfl)
    rcases of_ite h with ⟨-, h⟩ | ⟨-, h⟩
    · obtain rfl := Option.some.inj h
      exact f6
    · obtain rfl := Option.some.inj h
      exact f6
theorem w_cX6_bestExchange_11 (s : (Int64 × Int32 × Int32 × Int32 × (Nat → Nat → Int32))) (z : ((Int64 × Int32 × Int32 × Int32 × (Nat → Nat → Int32)) ⊕ (Int64 × Int32 × Int32 × (Nat → Nat → Int32)))) (h : cX6_bestExchange_11 s = some z) : Fr [(16, 16, some 9), (28, 28, none), (43, 43, none), (47, 47, none), (48, 48, none), (49, 49, none), (50, 50, none), (52, 52, none), (53, 53, none)] s.2.2.2.2 ((Sum.elim (fun (x : Int64 × Int32 × Int32 × Int32 × (Nat → Nat → Int32)) => x.2.2.2.2) (fun (x : Int64 × Int32 × Int32 × (Nat → Nat → Int32)) => x.2.2.2)) z) := by
  unfold cX6_bestExchange_11 at h
  rcases of_ite h with ⟨-, h⟩ | ⟨-, h⟩
  · obtain rfl := Option.some.inj h
    exact Fr.rf
  · obtain ⟨e2, q1, h⟩ := of_bind h
    have f2 : Fr [(16, 16, some 9), (28, 28, none), (43, 43, none), (47, 47, none), (48, 48, none), (49, 49, none), (50, 50, none), (52, 52, none), (53, 53, none)] s.2.2.2.2 e2.2.2.2 := Fr.tr Fr.rf ((Fr.lp (ms := (fun (x : Int64 × Int32 × Int32 × Int32 × (Nat → Nat → Int32)) => x.2.2.2.2)) (mr := (fun (x : Int64 × Int32 × Int32 × (Nat → Nat → Int32)) => x.2.2.2)) (w_cX6_bestExchange_26 _) q1).wd rfl)
    obtain rfl := Option.some.inj h
    exact f2
theorem w_fX6_bestExchange {A : Nat → Nat → Int32} {l1 : Int64} {z : (Int64 × (Nat → Nat → Int32))} (h : fX6_bestExchange A l1 = some z) : Fr [(16, 16, some 9), (28, 28, none), (43, 43, none), (47, 47, none), (48, 48, none), (49, 49, none), (50, 50, none), (52, 52, none), (53, 53, none)] A z.2 := by
  unfold fX6_bestExchange at h
  obtain ⟨e1, q1, h⟩ := of_bind h
  have f2 : Fr [(16, 16, some 9), (28, 28, none), (43, 43, none), (47, 47, none), (48, 48, none), (49, 49, none), (50, 50, none), (52, 52, none), (53, 53, none)] A e1.2.2.2 := Fr.tr Fr.rf ((Fr.lp (ms := (fun (x : Int64 × Int32 × Int32 × Int32 × (Nat → Nat → Int32)) => x.2.2.2.2)) (mr := (fun (x : Int64 × Int32 × Int32 × (Nat → Nat → Int32)) => x.2.2.2)) (w_cX6_bestExchange_11 ) q1).wd rfl)
  obtain ⟨r3, q3, h⟩ := of_bind h
  have f4 : Fr [(16, 16, some 9), (28, 28, none), (43, 43, none), (47, 47, none), (48, 48, none), (49, 49, none), (50, 50, none), (52, 52, none), (53, 53, none)] A r3 := Fr.tr f2 ((w_fX6_exchange q3).wd rfl)
  obtain rfl := Option.some.inj h
  exact f4
theorem w_cX6_exchangeWhileBetter_14 (s : (Int64 × Int32 × Int32 × (Nat → Nat → Int32))) (z : ((Int64 × Int32 × Int32 × (Nat → Nat → Int32)) ⊕ (Int64 × (Nat → Nat → Int32)))) (h : cX6_exchangeWhileBetter_14 s = some z) : Fr [(16, 16, some 9), (28, 28, none), (43, 43, none), (47, 47, none), (48, 48, none), (49, 49, none), (50, 50, none), (52, 52, none), (53, 53, none)] s.2.2.2 ((Sum.elim (fun (x : Int64 × Int32 × Int32 × (Nat → Nat → Int32)) => x.2.2.2) (fun (x : Int64 × (Nat → Nat → Int32)) => x.2)) z) := by
  unfold cX6_exchangeWhileBetter_14 at h
  rcases of_ite h with ⟨-, h⟩ | ⟨-, h⟩
  · obtain rfl := Option.some.inj h
    exact Fr.rf
  · rcases of_ite h with ⟨-, h⟩ | ⟨-, h⟩
    · obtain rfl := Option.some.inj h
      exact Fr.rf
    · obtain ⟨r3, q1, h⟩ := of_bind h
      have f2 : Fr [(16, 16, some 9), (28, 28, none), (43, 43, none), (47, 47, none), (48, 48, none), (49, 49, none), (50, 50, none), (52, 52, none), (53, 53, none)] s.2.2.2 r3.2 := Fr.tr Fr.rf ((w_fX6_bestExchange q1).wd rfl)
      rcases of_ite h with ⟨-, h⟩ | ⟨-, h⟩
      · obtain rfl := Option.some.inj h
        exact f2
      · obtain rfl := Option.some.inj h
        exact f2
theorem w_fX6_exchangeWhileBetter {A : Nat → Nat → Int32} {z : (Int64 × (Nat → Nat → Int32))} (h : fX6_exchangeWhileBetter A = some z) : Fr [(16, 16, some 9), (28, 28, none), (43, 43, none), (47, 47, none), (48, 48, none), (49, 49, none), (50, 50, none), (52, 52, none), (53, 53, none)] A z.2 := by
  unfold fX6_exchangeWhileBetter at h
  obtain ⟨r1, q1, h⟩ := of_bind h
  have f2 : Fr [(16, 16, some 9), (28, 28, none), (43, 43, none), (47, 47, none), (48, 48, none), (49, 49, none), (50, 50, none), (52, 52, none), (53, 53, none)] A r1.2 := Fr.tr Fr.rf ((w_fX6_walk q1).wd rfl)
  obtain ⟨e3, q3, h⟩ := of_bind h
  have f4 : Fr [(16, 16, some 9), (28, 28, none), (43, 43, none), (47, 47, none), (48, 48, none), (49, 49, none), (50, 50, none), (52, 52, none), (53, 53, none)] A e3.2 := Fr.tr f2 ((Fr.lp (ms := (fun (x : Int64 × Int32 × Int32 × (Nat → Nat → Int32)) => x.2.2.2)) (mr := (fun (x : Int64 × (Nat → Nat → Int32)) => x.2)) (w_cX6_exchangeWhileBetter_14 ) q3).wd rfl)
  obtain rfl := Option.some.inj h
  exact f4
theorem w_cX6_nextOrder_91 (s : (Int32 × Int32 × (Nat → Nat → Int32))) (z : ((Int32 × Int32 × (Nat → Nat → Int32)) ⊕ (Nat → Nat → Int32))) (h : cX6_nextOrder_91 s = some z) : Fr [(50, 50, none)] s.2.2 ((Sum.elim (fun (x : Int32 × Int32 × (Nat → Nat → Int32)) => x.2.2) (fun (x : Nat → Nat → Int32) => x)) z) := by
  unfold cX6_nextOrder_91 at h
  rcases of_ite h with ⟨-, h⟩ | ⟨-, h⟩
  · obtain rfl := Option.some.inj h
    exact Fr.rf
  · obtain ⟨r2, q1, h⟩ := of_bind h
    have f2 : Fr [(50, 50, none)] s.2.2 r2 := Fr.tr Fr.rf ((w_fX6_exchange q1).wd rfl)
    obtain rfl := Option.some.inj h
    exact f2
theorem w_jX6_nextOrder_73 {A : Nat → Nat → Int32} {l1 : Int32} {l2 : Int32} {z : (Int32 × (Nat → Nat → Int32))} (h : jX6_nextOrder_73 A l1 l2 = some z) : Fr [(50, 50, none)] A z.2 := by
  unfold jX6_nextOrder_73 at h
  obtain ⟨r1, q1, h⟩ := of_bind h
  have f2 : Fr [(50, 50, none)] A r1 := Fr.tr Fr.rf ((w_fX6_exchange q1).wd rfl)
  obtain ⟨e3, q3, h⟩ := of_bind h
  have f4 : Fr [(50, 50, none)] A e3 := Fr.tr f2 ((Fr.lp (ms := (fun (x : Int32 × Int32 × (Nat → Nat → Int32)) => x.2.2)) (mr := (fun (x : Nat → Nat → Int32) => x)) (w_cX6_nextOrder_91 ) q3).wd rfl)
  obtain rfl := Option.some.inj h
  exact f4
theorem w_jX6_nextOrder_34 {A : Nat → Nat → Int32} {l1 : Int32} {z : (Int32 × (Nat → Nat → Int32))} (h : jX6_nextOrder_34 A l1 = some z) : Fr [(50, 50, none)] A z.2 := by
  unfold jX6_nextOrder_34 at h
  rcases of_ite h with ⟨-, h⟩ | ⟨-, h⟩
  · obtain ⟨e2, q1, h⟩ := of_bind h
    exact Fr.tr Fr.rf ((w_jX6_nextOrder_73 h).wd rfl)
  · obtain rfl := Option.some.inj h
    exact Fr.rf
theorem w_fX6_nextOrder {A : Nat → Nat → Int32} {z : (Int32 × (Nat → Nat → Int32))} (h : fX6_nextOrder A = some z) : Fr [(50, 50, none)] A z.2 := by
  unfold fX6_nextOrder at h
  obtain ⟨e1, q1, h⟩ := of_bind h
  exact Fr.tr Fr.rf ((w_jX6_nextOrder_34 h).wd rfl)
theorem w_jX6_tryAllOrders_57_9 {A : Nat → Nat → Int32} {l1 : Int64} {l4 : Int32} {z : ((Int64 × Int32 × Int32 × (Nat → Nat → Int32)) ⊕ (Int64 × (Nat → Nat → Int32)))} (h : jX6_tryAllOrders_57_9 A l1 l4 = some z) : Fr [(50, 50, none)] A ((Sum.elim (fun (x : Int64 × Int32 × Int32 × (Nat → Nat → Int32)) => x.2.2.2) (fun (x : Int64 × (Nat → Nat → Int32)) => x.2)) z) := by
  unfold jX6_tryAllOrders_57_9 at h
  obtain ⟨r1, q1, h⟩ := of_bind h
  have f2 : Fr [(50, 50, none)] A r1.2 := Fr.tr Fr.rf ((w_fX6_nextOrder q1).wd rfl)
  obtain rfl := Option.some.inj h
  exact f2
theorem w_cX6_tryAllOrders_9 (s : (Int64 × Int32 × Int32 × (Nat → Nat → Int32))) (z : ((Int64 × Int32 × Int32 × (Nat → Nat → Int32)) ⊕ (Int64 × (Nat → Nat → Int32)))) (h : cX6_tryAllOrders_9 s = some z) : Fr [(16, 16, some 9), (28, 28, none), (43, 43, none), (47, 47, none), (48, 48, none), (49, 49, none), (50, 50, none), (51, 51, none), (52, 52, none), (53, 53, none)] s.2.2.2 ((Sum.elim (fun (x : Int64 × Int32 × Int32 × (Nat → Nat → Int32)) => x.2.2.2) (fun (x : Int64 × (Nat → Nat → Int32)) => x.2)) z) := by
  unfold cX6_tryAllOrders_9 at h
  rcases of_ite h with ⟨-, h⟩ | ⟨-, h⟩
  · obtain rfl := Option.some.inj h
    exact Fr.rf
  · rcases of_ite h with ⟨-, h⟩ | ⟨-, h⟩
    · obtain rfl := Option.some.inj h
      exact Fr.rf
    · obtain ⟨r3, q1, h⟩ := of_bind h
      have f2 : Fr [(16, 16, some 9), (28, 28, none), (43, 43, none), (47, 47, none), (48, 48, none), (49, 49, none), (50, 50, none), (51, 51, none), (52, 52, none), (53, 53, none)] s.2.2.2 r3.2 := Fr.tr Fr.rf ((w_fX6_walk q1).wd rfl)
      rcases of_ite h with ⟨-, h⟩ | ⟨-, h⟩
      · exact Fr.tr f2 ((w_jX6_tryAllOrders_57_9 h).wd rfl)
      · obtain ⟨-, h⟩ := of_guard h
        obtain ⟨m7, q3, h⟩ := of_bind h
        have f4 : Fr [(16, 16, some 9), (28, 28, none), (43, 43, none), (47, 47, none), (48, 48, none), (49, 49, none), (50, 50, none), (51, 51, none), (52, 52, none), (53, 53, none)] s.2.2.2 m7 := Fr.eq q3 (Fr.up f2 (FrC.al fun _ => rfl))
        exact Fr.tr f4 ((w_jX6_tryAllOrders_57_9 h).wd rfl)
theorem w_jX6_tryAllOrders_68 {A : Nat → Nat → Int32} {l1 : Int64} {z : (Int64 × (Nat → Nat → Int32))} (h : jX6_tryAllOrders_68 A l1 = some z) : Fr [(50, 50, none)] A z.2 := by
  unfold jX6_tryAllOrders_68 at h
  obtain ⟨-, h⟩ := of_guard h
  obtain ⟨m2, q1, h⟩ := of_bind h
  have f2 : Fr [(50, 50, none)] A m2 := Fr.eq q1 (Fr.up Fr.rf (FrC.al fun _ => rfl))
  obtain rfl := Option.some.inj h
  exact f2
theorem w_fX6_tryAllOrders {A : Nat → Nat → Int32} {z : (Int64 × (Nat → Nat → Int32))} (h : fX6_tryAllOrders A = some z) : Fr [(16, 16, some 9), (28, 28, none), (43, 43, none), (47, 47, none), (48, 48, none), (49, 49, none), (50, 50, none), (51, 51, none), (52, 52, none), (53, 53, none)] A z.2 := by
  unfold fX6_tryAllOrders at h
  obtain ⟨e1, q1, h⟩ := of_bind h
  have f2 : Fr [(16, 16, some 9), (28, 28, none), (43, 43, none), (47, 47, none), (48, 48, none), (49, 49, none), (50, 50, none), (51, 51, none), (52, 52, none), (53, 53, none)] A e1.2 := Fr.tr Fr.rf ((Fr.lp (ms := (fun (x : Int64 × Int32 × Int32 × (Nat → Nat → Int32)) => x.2.2.2)) (mr := (fun (x : Int64 × (Nat → Nat → Int32)) => x.2)) (w_cX6_tryAllOrders_9 ) q1).wd rfl)
  exact Fr.tr f2 ((w_jX6_tryAllOrders_68 h).wd rfl)
theorem w_jX10_best_59 {A : Nat → Nat → Int32} {l1 : Int32} {l2 : Int64} {s0 : Int64} {z : (Int64 × (Nat → Nat → Int32))} (h : jX10_best_59 A l1 l2 s0 = some z) : Fr [] A z.2 := by
  unfold jX10_best_59 at h
  rcases of_ite h with ⟨-, h⟩ | ⟨-, h⟩
  · obtain ⟨r3, q1, h⟩ := of_bind h
    obtain rfl := Option.some.inj h
    exact Fr.rf
  · rcases of_ite h with ⟨-, h⟩ | ⟨-, h⟩
    · obtain rfl := Option.some.inj h
      exact Fr.rf
    · obtain rfl := Option.some.inj h
      exact Fr.rf
theorem w_fX10_best {A : Nat → Nat → Int32} {l1 : Int32} {z : (Int64 × (Nat → Nat → Int32))} (h : fX10_best A l1 = some z) : Fr [(16, 16, some 9), (16, 16, some 14), (28, 28, none), (43, 43, none), (47, 47, none), (48, 48, none), (49, 49, none), (50, 50, none), (51, 51, none), (52, 52, none), (53, 53, none)] A z.2 := by
  unfold fX10_best at h
  rcases of_ite h with ⟨-, h⟩ | ⟨-, h⟩
  · obtain rfl := Option.some.inj h
    exact Fr.rf
  · obtain ⟨r3, q1, h⟩ := of_bind h
    have f2 : Fr [(16, 16, some 9), (16, 16, some 14), (28, 28, none), (43, 43, none), (47, 47, none), (48, 48, none), (49, 49, none), (50, 50, none), (51, 51, none), (52, 52, none), (53, 53, none)] A r3.2 := Fr.tr Fr.rf ((w_fX6_worthAsTheyCame q1).wd rfl)
    rcases of_ite h with ⟨-, h⟩ | ⟨-, h⟩
    · obtain ⟨r6, q3, h⟩ := of_bind h
      have f4 : Fr [(16, 16, some 9), (16, 16, some 14), (28, 28, none), (43, 43, none), (47, 47, none), (48, 48, none), (49, 49, none), (50, 50, none), (51, 51, none), (52, 52, none), (53, 53, none)] A r6.2 := Fr.tr f2 ((w_fX6_exchangeWhileBetter q3).wd rfl)
      exact Fr.tr f4 ((w_jX10_best_59 h).wd rfl)
    · obtain ⟨r8, q5, h⟩ := of_bind h
      have f6 : Fr [(16, 16, some 9), (16, 16, some 14), (28, 28, none), (43, 43, none), (47, 47, none), (48, 48, none), (49, 49, none), (50, 50, none), (51, 51, none), (52, 52, none), (53, 53, none)] A r8.2 := Fr.tr f2 ((w_fX6_tryAllOrders q5).wd rfl)
      exact Fr.tr f6 ((w_jX10_best_59 h).wd rfl)
theorem w_cX10_side_13 (s : (Int32 × Int64 × Int32 × (Nat → Nat → Int32))) (z : ((Int32 × Int64 × Int32 × (Nat → Nat → Int32)) ⊕ (Int32 × (Nat → Nat → Int32)))) (h : cX10_side_13 s = some z) : Fr [(16, 16, some 9), (16, 16, some 14), (28, 28, none), (43, 43, none), (47, 47, none), (48, 48, none), (49, 49, none), (50, 50, none), (52, 52, none), (53, 53, none)] s.2.2.2 ((Sum.elim (fun (x : Int32 × Int64 × Int32 × (Nat → Nat → Int32)) => x.2.2.2) (fun (x : Int32 × (Nat → Nat → Int32)) => x.2)) z) := by
  unfold cX10_side_13 at h
  rcases of_ite h with ⟨-, h⟩ | ⟨-, h⟩
  · obtain rfl := Option.some.inj h
    exact Fr.rf
  · obtain ⟨r2, q1, h⟩ := of_bind h
    have f2 : Fr [(16, 16, some 9), (16, 16, some 14), (28, 28, none), (43, 43, none), (47, 47, none), (48, 48, none), (49, 49, none), (50, 50, none), (52, 52, none), (53, 53, none)] s.2.2.2 r2.2 := Fr.tr Fr.rf ((w_fX6_worthAsTheyCame q1).wd rfl)
    rcases of_ite h with ⟨-, h⟩ | ⟨-, h⟩
    · obtain rfl := Option.some.inj h
      exact f2
    · obtain rfl := Option.some.inj h
      exact f2
theorem w_fX10_side {A : Nat → Nat → Int32} {z : (Int32 × (Nat → Nat → Int32))} (h : fX10_side A = some z) : Fr [(16, 16, some 9), (16, 16, some 14), (28, 28, none), (43, 43, none), (47, 47, none), (48, 48, none), (49, 49, none), (50, 50, none), (52, 52, none), (53, 53, none)] A z.2 := by
  unfold fX10_side at h
  obtain ⟨e1, q1, h⟩ := of_bind h
  have f2 : Fr [(16, 16, some 9), (16, 16, some 14), (28, 28, none), (43, 43, none), (47, 47, none), (48, 48, none), (49, 49, none), (50, 50, none), (52, 52, none), (53, 53, none)] A e1.2 := Fr.tr Fr.rf ((Fr.lp (ms := (fun (x : Int32 × Int64 × Int32 × (Nat → Nat → Int32)) => x.2.2.2)) (mr := (fun (x : Int32 × (Nat → Nat → Int32)) => x.2)) (w_cX10_side_13 ) q1).wd rfl)
  obtain rfl := Option.some.inj h
  exact f2
theorem w_fX6_worthWithout {A : Nat → Nat → Int32} {l1 : Int32} {z : (Int64 × (Nat → Nat → Int32))} (h : fX6_worthWithout A l1 = some z) : Fr [(16, 16, some 9), (28, 28, none), (43, 43, none), (47, 47, none), (48, 48, none), (49, 49, none), (50, 50, none), (52, 52, none), (53, 53, none)] A z.2 := by
  unfold fX6_worthWithout at h
  obtain ⟨r1, q1, h⟩ := of_bind h
  have f2 : Fr [(16, 16, some 9), (28, 28, none), (43, 43, none), (47, 47, none), (48, 48, none), (49, 49, none), (50, 50, none), (52, 52, none), (53, 53, none)] A r1.2 := Fr.tr Fr.rf ((w_fX6_orderWithout q1).wd rfl)
  obtain ⟨r3, q3, h⟩ := of_bind h
  have f4 : Fr [(16, 16, some 9), (28, 28, none), (43, 43, none), (47, 47, none), (48, 48, none), (49, 49, none), (50, 50, none), (52, 52, none), (53, 53, none)] A r3.2 := Fr.tr f2 ((w_fX6_walk q3).wd rfl)
  obtain rfl := Option.some.inj h
  exact f4
theorem w_cX10_leave_28 (l1 : Int64) (s : (Int32 × Int64 × Int32 × (Nat → Nat → Int32))) (z : ((Int32 × Int64 × Int32 × (Nat → Nat → Int32)) ⊕ (Int32 × Int64 × (Nat → Nat → Int32)))) (h : cX10_leave_28 l1 s = some z) : Fr [(16, 16, some 9), (28, 28, none), (43, 43, none), (47, 47, none), (48, 48, none), (49, 49, none), (50, 50, none), (52, 52, none), (53, 53, none)] s.2.2.2 ((Sum.elim (fun (x : Int32 × Int64 × Int32 × (Nat → Nat → Int32)) => x.2.2.2) (fun (x : Int32 × Int64 × (Nat → Nat → Int32)) => x.2.2)) z) := by
  unfold cX10_leave_28 at h
  rcases of_ite h with ⟨-, h⟩ | ⟨-, h⟩
  · obtain rfl := Option.some.inj h
    exact Fr.rf
  · obtain ⟨r2, q1, h⟩ := of_bind h
    have f2 : Fr [(16, 16, some 9), (28, 28, none), (43, 43, none), (47, 47, none), (48, 48, none), (49, 49, none), (50, 50, none), (52, 52, none), (53, 53, none)] s.2.2.2 r2.2 := Fr.tr Fr.rf ((w_fX6_worthWithout q1).wd rfl)
    rcases of_ite h with ⟨-, h⟩ | ⟨-, h⟩
    · obtain rfl := Option.some.inj h
      exact f2
    · obtain rfl := Option.some.inj h
      exact f2
theorem w_fX10_leave {A : Nat → Nat → Int32} {z : (Int32 × (Nat → Nat → Int32))} (h : fX10_leave A = some z) : Fr [(16, 16, some 9), (16, 16, some 14), (28, 28, none), (43, 43, none), (47, 47, none), (48, 48, none), (49, 49, none), (50, 50, none), (52, 52, none), (53, 53, none)] A z.2 := by
  unfold fX10_leave at h
  obtain ⟨r1, q1, h⟩ := of_bind h
  have f2 : Fr [(16, 16, some 9), (16, 16, some 14), (28, 28, none), (43, 43, none), (47, 47, none), (48, 48, none), (49, 49, none), (50, 50, none), (52, 52, none), (53, 53, none)] A r1.2 := Fr.tr Fr.rf ((w_fX6_worthAsTheyCame q1).wd rfl)
  obtain ⟨e3, q3, h⟩ := of_bind h
  have f4 : Fr [(16, 16, some 9), (16, 16, some 14), (28, 28, none), (43, 43, none), (47, 47, none), (48, 48, none), (49, 49, none), (50, 50, none), (52, 52, none), (53, 53, none)] A e3.2.2 := Fr.tr f2 ((Fr.lp (ms := (fun (x : Int32 × Int64 × Int32 × (Nat → Nat → Int32)) => x.2.2.2)) (mr := (fun (x : Int32 × Int64 × (Nat → Nat → Int32)) => x.2.2)) (w_cX10_leave_28 _) q3).wd rfl)
  rcases of_ite h with ⟨-, h⟩ | ⟨-, h⟩
  · obtain rfl := Option.some.inj h
    exact f4
  · obtain rfl := Option.some.inj h
    exact f4
theorem w_fX9_add {A : Nat → Nat → Int32} {l1 : Int32} {l2 : Int32} {z : (Int32 × (Nat → Nat → Int32))} (h : fX9_add A l1 l2 = some z) : Fr [(54, 54, some 3), (55, 55, none), (63, 63, none)] A z.2 := by
  unfold fX9_add at h
  obtain ⟨-, h⟩ := of_guard h
  obtain ⟨m2, q1, h⟩ := of_bind h
  have f2 : Fr [(54, 54, some 3), (55, 55, none), (63, 63, none)] A m2 := Fr.eq q1 (Fr.up Fr.rf (FrC.up FrC.bs rfl))
  obtain ⟨-, h⟩ := of_guard h
  obtain ⟨m5, q3, h⟩ := of_bind h
  have f4 : Fr [(54, 54, some 3), (55, 55, none), (63, 63, none)] A m5 := Fr.eq q3 (Fr.up f2 (FrC.up FrC.bs rfl))
  obtain rfl := Option.some.inj h
  exact (Fr.up f4 (FrC.up FrC.bs rfl))
theorem w_fX10_word {A : Nat → Nat → Int32} {l1 : Int32} {l2 : Int32} {z : (Int32 × (Nat → Nat → Int32))} (h : fX10_word A l1 l2 = some z) : Fr [(54, 54, some 3), (55, 55, none), (63, 63, none)] A z.2 := by
  unfold fX10_word at h
  rcases of_ite h with ⟨-, h⟩ | ⟨-, h⟩
  · obtain rfl := Option.some.inj h
    exact Fr.rf
  · rcases of_ite h with ⟨-, h⟩ | ⟨-, h⟩
    · obtain rfl := Option.some.inj h
      exact Fr.rf
    · rcases of_ite h with ⟨-, h⟩ | ⟨-, h⟩
      · obtain ⟨r6, q1, h⟩ := of_bind h
        have f2 : Fr [(54, 54, some 3), (55, 55, none), (63, 63, none)] A r6.2 := Fr.tr Fr.rf ((w_fX9_add q1).wd rfl)
        obtain rfl := Option.some.inj h
        exact f2
      · obtain rfl := Option.some.inj h
        exact Fr.rf
theorem w_fX0_add {A : Nat → Nat → Int32} {l1 : Int32} {l2 : Int32} {l3 : Int32} {l4 : Int32} {z : (Int32 × (Nat → Nat → Int32))} (h : fX0_add A l1 l2 l3 l4 = some z) : Fr [(64, 64, some 4), (65, 65, none), (66, 66, none), (67, 67, none), (68, 68, none)] A z.2 := by
  unfold fX0_add at h
  obtain ⟨-, h⟩ := of_guard h
  obtain ⟨m2, q1, h⟩ := of_bind h
  have f2 : Fr [(64, 64, some 4), (65, 65, none), (66, 66, none), (67, 67, none), (68, 68, none)] A m2 := Fr.eq q1 (Fr.up Fr.rf (FrC.up FrC.bs rfl))
  obtain ⟨-, h⟩ := of_guard h
  obtain ⟨m5, q3, h⟩ := of_bind h
  have f4 : Fr [(64, 64, some 4), (65, 65, none), (66, 66, none), (67, 67, none), (68, 68, none)] A m5 := Fr.eq q3 (Fr.up f2 (FrC.up FrC.bs rfl))
  obtain ⟨-, h⟩ := of_guard h
  obtain ⟨m8, q5, h⟩ := of_bind h
  have f6 : Fr [(64, 64, some 4), (65, 65, none), (66, 66, none), (67, 67, none), (68, 68, none)] A m8 := Fr.eq q5 (Fr.up f4 (FrC.up FrC.bs rfl))
  obtain ⟨-, h⟩ := of_guard h
  obtain ⟨m11, q7, h⟩ := of_bind h
  have f8 : Fr [(64, 64, some 4), (65, 65, none), (66, 66, none), (67, 67, none), (68, 68, none)] A m11 := Fr.eq q7 (Fr.up f6 (FrC.up FrC.bs rfl))
  obtain rfl := Option.some.inj h
  exact (Fr.up f8 (FrC.up FrC.bs rfl))
theorem w_fX10_print {A : Nat → Nat → Int32} {l1 : Int32} {l2 : Int32} {l3 : Int32} {l4 : Int32} {z : (Int32 × (Nat → Nat → Int32))} (h : fX10_print A l1 l2 l3 l4 = some z) : Fr [(64, 64, some 4), (65, 65, none), (66, 66, none), (67, 67, none), (68, 68, none)] A z.2 := by
  unfold fX10_print at h
  rcases of_ite h with ⟨-, h⟩ | ⟨-, h⟩
  · obtain rfl := Option.some.inj h
    exact Fr.rf
  · rcases of_ite h with ⟨-, h⟩ | ⟨-, h⟩
    · obtain rfl := Option.some.inj h
      exact Fr.rf
    · rcases of_ite h with ⟨-, h⟩ | ⟨-, h⟩
      · obtain rfl := Option.some.inj h
        exact Fr.rf
      · rcases of_ite h with ⟨-, h⟩ | ⟨-, h⟩
        · obtain rfl := Option.some.inj h
          exact Fr.rf
        · rcases of_ite h with ⟨-, h⟩ | ⟨-, h⟩
          · obtain ⟨r10, q1, h⟩ := of_bind h
            have f2 : Fr [(64, 64, some 4), (65, 65, none), (66, 66, none), (67, 67, none), (68, 68, none)] A r10.2 := Fr.tr Fr.rf ((w_fX0_add q1).wd rfl)
            obtain rfl := Option.some.inj h
            exact f2
          · obtain rfl := Option.some.inj h
            exact Fr.rf
theorem w_cX0_findClashes_19 (l1 : Int32) (l2 : Int32) (s : (Int32 × (Nat → Nat → Int32))) (z : ((Int32 × (Nat → Nat → Int32)) ⊕ (Nat → Nat → Int32))) (h : cX0_findClashes_19 l1 l2 s = some z) : Fr [(69, 69, none)] s.2 ((Sum.elim (fun (x : Int32 × (Nat → Nat → Int32)) => x.2) (fun (x : Nat → Nat → Int32) => x)) z) := by
  unfold cX0_findClashes_19 at h
  rcases of_ite h with ⟨-, h⟩ | ⟨-, h⟩
  · obtain rfl := Option.some.inj h
    exact Fr.rf
  · obtain ⟨r2, q1, h⟩ := of_bind h
    obtain ⟨r4, q2, h⟩ := of_bind h
    rcases of_ite h with ⟨-, h⟩ | ⟨-, h⟩
    · obtain rfl := Option.some.inj h
      exact Fr.rf
    · obtain ⟨-, h⟩ := of_guard h
      obtain ⟨-, h⟩ := of_guard h
      obtain ⟨m9, q3, h⟩ := of_bind h
      have f4 : Fr [(69, 69, none)] s.2 m9 := Fr.eq q3 (Fr.up Fr.rf (FrC.up FrC.bs rfl))
      obtain rfl := Option.some.inj h
      exact f4
theorem w_cX0_findClashes_2 (l1 : Int32) (s : (Int32 × (Nat → Nat → Int32))) (z : ((Int32 × (Nat → Nat → Int32)) ⊕ (Nat → Nat → Int32))) (h : cX0_findClashes_2 l1 s = some z) : Fr [(69, 69, none)] s.2 ((Sum.elim (fun (x : Int32 × (Nat → Nat → Int32)) => x.2) (fun (x : Nat → Nat → Int32) => x)) z) := by
  unfold cX0_findClashes_2 at h
  rcases of_ite h with ⟨-, h⟩ | ⟨-, h⟩
  · obtain rfl := Option.some.inj h
    exact Fr.rf
  · obtain ⟨-, h⟩ := of_guard h
    obtain ⟨m3, q1, h⟩ := of_bind h
    have f2 : Fr [(69, 69, none)] s.2 m3 := Fr.eq q1 (Fr.up Fr.rf (FrC.up FrC.bs rfl))
    obtain ⟨e5, q3, h⟩ := of_bind h
    have f4 : Fr [(69, 69, none)] s.2 e5 := Fr.tr f2 ((Fr.lp (ms := (fun (x : Int32 × (Nat → Nat → Int32)) => x.2)) (mr := (fun (x : Nat → Nat → Int32) => x)) (w_cX0_findClashes_19 _ _) q3).wd rfl)
    obtain rfl := Option.some.inj h
    exact f4
theorem w_fX0_findClashes {A : Nat → Nat → Int32} {l1 : Int32} {z : (Nat → Nat → Int32)} (h : fX0_findClashes A l1 = some z) : Fr [(69, 69, none)] A z := by
  unfold fX0_findClashes at h
  obtain ⟨e1, q1, h⟩ := of_bind h
  have f2 : Fr [(69, 69, none)] A e1 := Fr.tr Fr.rf ((Fr.lp (ms := (fun (x : Int32 × (Nat → Nat → Int32)) => x.2)) (mr := (fun (x : Nat → Nat → Int32) => x)) (w_cX0_findClashes_2 _) q1).wd rfl)
  obtain rfl := Option.some.inj h
  exact f2
theorem w_fX0_falseOf {A : Nat → Nat → Int32} {l1 : Int32} {l2 : Int32} {z : (Int32 × (Nat → Nat → Int32))} (h : fX0_falseOf A l1 l2 = some z) : Fr [(69, 69, none)] A z.2 := by
  unfold fX0_falseOf at h
  obtain ⟨r1, q1, h⟩ := of_bind h
  have f2 : Fr [(69, 69, none)] A r1 := Fr.tr Fr.rf ((w_fX0_findClashes q1).wd rfl)
  obtain ⟨r3, q3, h⟩ := of_bind h
  obtain ⟨e5, q4, h⟩ := of_bind h
  obtain rfl := Option.some.inj h
  exact f2
theorem w_fX10_falseOnes {A : Nat → Nat → Int32} {l1 : Int32} {l2 : Int32} {z : (Int32 × (Nat → Nat → Int32))} (h : fX10_falseOnes A l1 l2 = some z) : Fr [(69, 69, none)] A z.2 := by
  unfold fX10_falseOnes at h
  rcases of_ite h with ⟨-, h⟩ | ⟨-, h⟩
  · obtain rfl := Option.some.inj h
    exact Fr.rf
  · rcases of_ite h with ⟨-, h⟩ | ⟨-, h⟩
    · obtain rfl := Option.some.inj h
      exact Fr.rf
    · obtain ⟨r5, q1, h⟩ := of_bind h
      have f2 : Fr [(69, 69, none)] A r5.2 := Fr.tr Fr.rf ((w_fX0_falseOf q1).wd rfl)
      obtain rfl := Option.some.inj h
      exact f2
theorem w_fX0_trueOf {A : Nat → Nat → Int32} {l1 : Int32} {l2 : Int32} {z : (Int32 × (Nat → Nat → Int32))} (h : fX0_trueOf A l1 l2 = some z) : Fr [(69, 69, none)] A z.2 := by
  unfold fX0_trueOf at h
  obtain ⟨r1, q1, h⟩ := of_bind h
  obtain ⟨r3, q2, h⟩ := of_bind h
  have f3 : Fr [(69, 69, none)] A r3.2 := Fr.tr Fr.rf ((w_fX0_falseOf q2).wd rfl)
  obtain rfl := Option.some.inj h
  exact f3
theorem w_fX0_cellsOf {A : Nat → Nat → Int32} {l1 : Int32} {l2 : Int32} {l3 : Int32} {z : (Int64 × (Nat → Nat → Int32))} (h : fX0_cellsOf A l1 l2 l3 = some z) : Fr [(69, 69, none)] A z.2 := by
  unfold fX0_cellsOf at h
  obtain ⟨r1, q1, h⟩ := of_bind h
  have f2 : Fr [(69, 69, none)] A r1.2 := Fr.tr Fr.rf ((w_fX0_trueOf q1).wd rfl)
  obtain ⟨e3, q3, h⟩ := of_bind h
  obtain rfl := Option.some.inj h
  exact f2
theorem w_fX10_there {A : Nat → Nat → Int32} {l1 : Int32} {l2 : Int32} {l3 : Int32} {z : (Int64 × (Nat → Nat → Int32))} (h : fX10_there A l1 l2 l3 = some z) : Fr [(69, 69, none)] A z.2 := by
  unfold fX10_there at h
  rcases of_ite h with ⟨-, h⟩ | ⟨-, h⟩
  · obtain rfl := Option.some.inj h
    exact Fr.rf
  · rcases of_ite h with ⟨-, h⟩ | ⟨-, h⟩
    · obtain rfl := Option.some.inj h
      exact Fr.rf
    · rcases of_ite h with ⟨-, h⟩ | ⟨-, h⟩
      · obtain rfl := Option.some.inj h
        exact Fr.rf
      · obtain ⟨r7, q1, h⟩ := of_bind h
        have f2 : Fr [(69, 69, none)] A r7.2 := Fr.tr Fr.rf ((w_fX0_cellsOf q1).wd rfl)
        obtain rfl := Option.some.inj h
        exact f2
theorem w_fX0_latestTrue {A : Nat → Nat → Int32} {l1 : Int32} {l2 : Int32} {z : (Int32 × (Nat → Nat → Int32))} (h : fX0_latestTrue A l1 l2 = some z) : Fr [(69, 69, none)] A z.2 := by
  unfold fX0_latestTrue at h
  obtain ⟨r1, q1, h⟩ := of_bind h
  have f2 : Fr [(69, 69, none)] A r1.2 := Fr.tr Fr.rf ((w_fX0_trueOf q1).wd rfl)
  obtain ⟨e3, q3, h⟩ := of_bind h
  obtain rfl := Option.some.inj h
  exact f2
theorem w_fX10_last {A : Nat → Nat → Int32} {l1 : Int32} {l2 : Int32} {l3 : Int32} {z : (Int32 × (Nat → Nat → Int32))} (h : fX10_last A l1 l2 l3 = some z) : Fr [(69, 69, none)] A z.2 := by
  unfold fX10_last at h
  rcases of_ite h with ⟨-, h⟩ | ⟨-, h⟩
  · obtain rfl := Option.some.inj h
    exact Fr.rf
  · rcases of_ite h with ⟨-, h⟩ | ⟨-, h⟩
    · obtain rfl := Option.some.inj h
      exact Fr.rf
    · rcases of_ite h with ⟨-, h⟩ | ⟨-, h⟩
      · obtain rfl := Option.some.inj h
        exact Fr.rf
      · obtain ⟨r7, q1, h⟩ := of_bind h
        have f2 : Fr [(69, 69, none)] A r7.2 := Fr.tr Fr.rf ((w_fX0_latestTrue q1).wd rfl)
        rcases of_ite h with ⟨-, h⟩ | ⟨-, h⟩
        · rcases of_ite h with ⟨-, h⟩ | ⟨-, h⟩
          · obtain ⟨-, h⟩ := of_guard h
            obtain rfl := Option.some.inj h
            exact f2
          · obtain ⟨-, h⟩ := of_guard h
            obtain rfl := Option.some.inj h
            exact f2
        · obtain rfl := Option.some.inj h
          exact f2
theorem w_fX10_cellOdds {A : Nat → Nat → Int32} {l1 : Int32} {l2 : Int32} {l3 : Int32} {l4 : Int64} {l6 : Int32} {z : (Int64 × (Nat → Nat → Int32))} (h : fX10_cellOdds A l1 l2 l3 l4 l6 = some z) : Fr [(69, 69, none)] A z.2 := by
  unfold fX10_cellOdds at h
  rcases of_ite h with ⟨-, h⟩ | ⟨-, h⟩
  · obtain rfl := Option.some.inj h
    exact Fr.rf
  · rcases of_ite h with ⟨-, h⟩ | ⟨-, h⟩
    · obtain rfl := Option.some.inj h
      exact Fr.rf
    · rcases of_ite h with ⟨-, h⟩ | ⟨-, h⟩
      · obtain rfl := Option.some.inj h
        exact Fr.rf
      · rcases of_ite h with ⟨-, h⟩ | ⟨-, h⟩
        · obtain rfl := Option.some.inj h
          exact Fr.rf
        · rcases of_ite h with ⟨-, h⟩ | ⟨-, h⟩
          · obtain rfl := Option.some.inj h
            exact Fr.rf
          · rcases of_ite h with ⟨-, h⟩ | ⟨-, h⟩
            · obtain rfl := Option.some.inj h
              exact Fr.rf
            · obtain ⟨r12, q1, h⟩ := of_bind h
              have f2 : Fr [(69, 69, none)] A r12.2 := Fr.tr Fr.rf ((w_fX0_cellsOf q1).wd rfl)
              obtain ⟨r14, q3, h⟩ := of_bind h
              obtain rfl := Option.some.inj h
              exact f2
theorem w_fX3_add {A : Nat → Nat → Int32} {l1 : Int32} {l2 : Int32} {l3 : Int32} {z : (Int32 × (Nat → Nat → Int32))} (h : fX3_add A l1 l2 l3 = some z) : Fr [(70, 70, some 3), (71, 71, none), (72, 72, none), (73, 73, none)] A z.2 := by
  unfold fX3_add at h
  obtain ⟨-, h⟩ := of_guard h
  obtain ⟨m2, q1, h⟩ := of_bind h
  have f2 : Fr [(70, 70, some 3), (71, 71, none), (72, 72, none), (73, 73, none)] A m2 := Fr.eq q1 (Fr.up Fr.rf (FrC.up FrC.bs rfl))
  obtain ⟨-, h⟩ := of_guard h
  obtain ⟨m5, q3, h⟩ := of_bind h
  have f4 : Fr [(70, 70, some 3), (71, 71, none), (72, 72, none), (73, 73, none)] A m5 := Fr.eq q3 (Fr.up f2 (FrC.up FrC.bs rfl))
  obtain ⟨-, h⟩ := of_guard h
  obtain ⟨m8, q5, h⟩ := of_bind h
  have f6 : Fr [(70, 70, some 3), (71, 71, none), (72, 72, none), (73, 73, none)] A m8 := Fr.eq q5 (Fr.up f4 (FrC.up FrC.bs rfl))
  obtain rfl := Option.some.inj h
  exact (Fr.up f6 (FrC.up FrC.bs rfl))
theorem w_fX10_meet {A : Nat → Nat → Int32} {l1 : Int32} {l2 : Int32} {l3 : Int32} {z : (Int32 × (Nat → Nat → Int32))} (h : fX10_meet A l1 l2 l3 = some z) : Fr [(70, 70, some 3), (71, 71, none), (72, 72, none), (73, 73, none)] A z.2 := by
  unfold fX10_meet at h
  rcases of_ite h with ⟨-, h⟩ | ⟨-, h⟩
  · obtain rfl := Option.some.inj h
    exact Fr.rf
  · rcases of_ite h with ⟨-, h⟩ | ⟨-, h⟩
    · obtain rfl := Option.some.inj h
      exact Fr.rf
    · rcases of_ite h with ⟨-, h⟩ | ⟨-, h⟩
      · obtain rfl := Option.some.inj h
        exact Fr.rf
      · rcases of_ite h with ⟨-, h⟩ | ⟨-, h⟩
        · obtain rfl := Option.some.inj h
          exact Fr.rf
        · obtain ⟨r8, q1, h⟩ := of_bind h
          rcases of_ite h with ⟨-, h⟩ | ⟨-, h⟩
          · rcases of_ite h with ⟨-, h⟩ | ⟨-, h⟩
            · obtain ⟨r12, q2, h⟩ := of_bind h
              have f3 : Fr [(70, 70, some 3), (71, 71, none), (72, 72, none), (73, 73, none)] A r12.2 := Fr.tr Fr.rf ((w_fX3_add q2).wd rfl)
              obtain rfl := Option.some.inj h
              exact f3
            · obtain rfl := Option.some.inj h
              exact Fr.rf
          · obtain rfl := Option.some.inj h
            exact Fr.rf
theorem w_jX3_spread_101_18 {A : Nat → Nat → Int32} {l2 : Int32} {l3 : Int32} {l4 : Int32} {l5 : Int32} {l6 : Int32} {z : ((Int32 × (Nat → Nat → Int32)) ⊕ (Nat → Nat → Int32))} (h : jX3_spread_101_18 A l2 l3 l4 l5 l6 = some z) : Fr [(74, 74, none)] A ((Sum.elim (fun (x : Int32 × (Nat → Nat → Int32)) => x.2) (fun (x : Nat → Nat → Int32) => x)) z) := by
  unfold jX3_spread_101_18 at h
  obtain ⟨-, h⟩ := of_guard h
  rcases of_ite h with ⟨-, h⟩ | ⟨-, h⟩
  · obtain ⟨-, h⟩ := of_guard h
    rcases of_ite h with ⟨-, h⟩ | ⟨-, h⟩
    · obtain rfl := Option.some.inj h
      exact Fr.rf
    · obtain ⟨-, h⟩ := of_guard h
      obtain ⟨-, h⟩ := of_guard h
      obtain ⟨m7, q1, h⟩ := of_bind h
      have f2 : Fr [(74, 74, none)] A m7 := Fr.eq q1 (Fr.up Fr.rf (FrC.up FrC.bs rfl))
      obtain rfl := Option.some.inj h
      exact f2
  · obtain rfl := Option.some.inj h
    exact Fr.rf
theorem w_cX3_spread_18 (l2 : Int32) (l3 : Int32) (s : (Int32 × (Nat → Nat → Int32))) (z : ((Int32 × (Nat → Nat → Int32)) ⊕ (Nat → Nat → Int32))) (h : cX3_spread_18 l2 l3 s = some z) : Fr [(74, 74, none)] s.2 ((Sum.elim (fun (x : Int32 × (Nat → Nat → Int32)) => x.2) (fun (x : Nat → Nat → Int32) => x)) z) := by
  unfold cX3_spread_18 at h
  rcases of_ite h with ⟨-, h⟩ | ⟨-, h⟩
  · obtain rfl := Option.some.inj h
    exact Fr.rf
  · rcases of_ite h with ⟨-, h⟩ | ⟨-, h⟩
    · obtain rfl := Option.some.inj h
      exact Fr.rf
    · obtain ⟨-, h⟩ := of_guard h
      rcases of_ite h with ⟨-, h⟩ | ⟨-, h⟩
      · obtain rfl := Option.some.inj h
        exact Fr.rf
      · obtain ⟨-, h⟩ := of_guard h
        obtain ⟨-, h⟩ := of_guard h
        obtain ⟨-, h⟩ := of_guard h
        rcases of_ite h with ⟨-, h⟩ | ⟨-, h⟩
        · obtain ⟨-, h⟩ := of_guard h
          rcases of_ite h with ⟨-, h⟩ | ⟨-, h⟩
          · exact Fr.tr Fr.rf ((w_jX3_spread_101_18 h).wd rfl)
          · obtain ⟨-, h⟩ := of_guard h
            obtain ⟨-, h⟩ := of_guard h
            obtain ⟨m13, q1, h⟩ := of_bind h
            have f2 : Fr [(74, 74, none)] s.2 m13 := Fr.eq q1 (Fr.up Fr.rf (FrC.up FrC.bs rfl))
            obtain rfl := Option.some.inj h
            exact f2
        · exact Fr.tr Fr.rf ((w_jX3_spread_101_18 h).wd rfl)
theorem w_fX3_spread {A : Nat → Nat → Int32} {l1 : Int32} {l2 : Int32} {l3 : Int32} {z : (Nat → Nat → Int32)} (h : fX3_spread A l1 l2 l3 = some z) : Fr [(74, 74, none)] A z := by
  unfold fX3_spread at h
  obtain ⟨r1, q1, h⟩ := of_bind h
  have f2 : Fr [(74, 74, none)] A r1 := Fr.tr Fr.rf ((w_fJ7_fill_53178 q1).wd rfl)
  obtain ⟨-, h⟩ := of_guard h
  obtain ⟨m4, q3, h⟩ := of_bind h
  have f4 : Fr [(74, 74, none)] A m4 := Fr.eq q3 (Fr.up f2 (FrC.up FrC.bs rfl))
  obtain ⟨e6, q5, h⟩ := of_bind h
  have f6 : Fr [(74, 74, none)] A e6 := Fr.tr f4 ((Fr.lp (ms := (fun (x : Int32 × (Nat → Nat → Int32)) => x.2)) (mr := (fun (x : Nat → Nat → Int32) => x)) (w_cX3_spread_18 _ _) q5).wd rfl)
  obtain rfl := Option.some.inj h
  exact f6
theorem w_fX3_knowsFrom {A : Nat → Nat → Int32} {l1 : Int32} {l2 : Int32} {l3 : Int32} {l4 : Int32} {z : (Int32 × (Nat → Nat → Int32))} (h : fX3_knowsFrom A l1 l2 l3 l4 = some z) : Fr [(74, 74, none)] A z.2 := by
  unfold fX3_knowsFrom at h
  obtain ⟨r1, q1, h⟩ := of_bind h
  have f2 : Fr [(74, 74, none)] A r1 := Fr.tr Fr.rf ((w_fX3_spread q1).wd rfl)
  obtain ⟨-, h⟩ := of_guard h
  obtain rfl := Option.some.inj h
  exact f2
theorem w_fX10_news {A : Nat → Nat → Int32} {l1 : Int32} {l2 : Int32} {l3 : Int32} {z : (Int32 × (Nat → Nat → Int32))} (h : fX10_news A l1 l2 l3 = some z) : Fr [(74, 74, none)] A z.2 := by
  unfold fX10_news at h
  rcases of_ite h with ⟨-, h⟩ | ⟨-, h⟩
  · obtain rfl := Option.some.inj h
    exact Fr.rf
  · rcases of_ite h with ⟨-, h⟩ | ⟨-, h⟩
    · obtain rfl := Option.some.inj h
      exact Fr.rf
    · rcases of_ite h with ⟨-, h⟩ | ⟨-, h⟩
      · obtain rfl := Option.some.inj h
        exact Fr.rf
      · obtain ⟨r7, q1, h⟩ := of_bind h
        have f2 : Fr [(74, 74, none)] A r7.2 := Fr.tr Fr.rf ((w_fX3_knowsFrom q1).wd rfl)
        obtain rfl := Option.some.inj h
        exact f2
theorem w_fX3_howManyKnow {A : Nat → Nat → Int32} {l1 : Int32} {l2 : Int32} {l3 : Int32} {z : (Int32 × (Nat → Nat → Int32))} (h : fX3_howManyKnow A l1 l2 l3 = some z) : Fr [(74, 74, none)] A z.2 := by
  unfold fX3_howManyKnow at h
  obtain ⟨r1, q1, h⟩ := of_bind h
  have f2 : Fr [(74, 74, none)] A r1 := Fr.tr Fr.rf ((w_fX3_spread q1).wd rfl)
  obtain ⟨e3, q3, h⟩ := of_bind h
  obtain rfl := Option.some.inj h
  exact f2
theorem w_fX10_peace {A : Nat → Nat → Int32} {l1 : Int32} {l2 : Int32} {l3 : Int32} {z : (Int32 × (Nat → Nat → Int32))} (h : fX10_peace A l1 l2 l3 = some z) : Fr [(74, 74, none)] A z.2 := by
  unfold fX10_peace at h
  rcases of_ite h with ⟨-, h⟩ | ⟨-, h⟩
  · obtain rfl := Option.some.inj h
    exact Fr.rf
  · rcases of_ite h with ⟨-, h⟩ | ⟨-, h⟩
    · obtain rfl := Option.some.inj h
      exact Fr.rf
    · rcases of_ite h with ⟨-, h⟩ | ⟨-, h⟩
      · obtain rfl := Option.some.inj h
        exact Fr.rf
      · obtain ⟨r7, q1, h⟩ := of_bind h
        have f2 : Fr [(74, 74, none)] A r7.2 := Fr.tr Fr.rf ((w_fX3_howManyKnow q1).wd rfl)
        obtain rfl := Option.some.inj h
        exact f2
theorem w_cX3_firstNeeded_21 (l1 : Int32) (l2 : Int32) (l3 : Int32) (l4 : Int32) (s : (Int32 × (Nat → Nat → Int32))) (z : ((Int32 × (Nat → Nat → Int32)) ⊕ ((Nat → Nat → Int32) ⊕ (Int32 × (Nat → Nat → Int32))))) (h : cX3_firstNeeded_21 l1 l2 l3 l4 s = some z) : Fr [(74, 74, none)] s.2 ((Sum.elim (fun (x : Int32 × (Nat → Nat → Int32)) => x.2) (Sum.elim (fun (x : Nat → Nat → Int32) => x) (fun (x : Int32 × (Nat → Nat → Int32)) => x.2))) z) := by
  unfold cX3_firstNeeded_21 at h
  rcases of_ite h with ⟨-, h⟩ | ⟨-, h⟩
  · obtain rfl := Option.some.inj h
    exact Fr.rf
  · obtain ⟨r2, q1, h⟩ := of_bind h
    have f2 : Fr [(74, 74, none)] s.2 r2.2 := Fr.tr Fr.rf ((w_fX3_knowsFrom q1).wd rfl)
    rcases of_ite h with ⟨-, h⟩ | ⟨-, h⟩
    · obtain rfl := Option.some.inj h
      exact f2
    · rcases of_ite h with ⟨-, h⟩ | ⟨-, h⟩
      · obtain rfl := Option.some.inj h
        exact f2
      · obtain rfl := Option.some.inj h
        exact f2
theorem w_fX3_firstNeeded {A : Nat → Nat → Int32} {l1 : Int32} {l2 : Int32} {l3 : Int32} {z : (Int32 × (Nat → Nat → Int32))} (h : fX3_firstNeeded A l1 l2 l3 = some z) : Fr [(74, 74, none)] A z.2 := by
  unfold fX3_firstNeeded at h
  obtain ⟨r1, q1, h⟩ := of_bind h
  have f2 : Fr [(74, 74, none)] A r1.2 := Fr.tr Fr.rf ((w_fX3_knowsFrom q1).wd rfl)
  rcases of_ite h with ⟨-, h⟩ | ⟨-, h⟩
  · obtain rfl := Option.some.inj h
    exact f2
  · rcases of_elim h with ⟨e4, q3, h⟩ | ⟨s0, q3, h⟩
    · have f4 : Fr [(74, 74, none)] A e4 := Fr.tr f2 ((Fr.lp (ms := (fun (x : Int32 × (Nat → Nat → Int32)) => x.2)) (mr := (Sum.elim (fun (x : Nat → Nat → Int32) => x) (fun (x : Int32 × (Nat → Nat → Int32)) => x.2))) (w_cX3_firstNeeded_21 _ _ _ _) q3).wd rfl)
      obtain rfl := Option.some.inj h
      exact f4
    · have f5 : Fr [(74, 74, none)] A s0.2 := Fr.tr f2 ((Fr.lp (ms := (fun (x : Int32 × (Nat → Nat → Int32)) => x.2)) (mr := (Sum.elim (fun (x : Nat → Nat → Int32) => x) (fun (x : Int32 × (Nat → Nat → Int32)) => x.2))) (w_cX3_firstNeeded_21 _ _ _ _) q3).wd rfl)
      obtain rfl := Option.some.inj h
      exact f5
theorem w_fX10_key {A : Nat → Nat → Int32} {l1 : Int32} {l2 : Int32} {l3 : Int32} {z : (Int32 × (Nat → Nat → Int32))} (h : fX10_key A l1 l2 l3 = some z) : Fr [(74, 74, none)] A z.2 := by
  unfold fX10_key at h
  rcases of_ite h with ⟨-, h⟩ | ⟨-, h⟩
  · obtain rfl := Option.some.inj h
    exact Fr.rf
  · rcases of_ite h with ⟨-, h⟩ | ⟨-, h⟩
    · obtain rfl := Option.some.inj h
      exact Fr.rf
    · rcases of_ite h with ⟨-, h⟩ | ⟨-, h⟩
      · obtain rfl := Option.some.inj h
        exact Fr.rf
      · obtain ⟨r7, q1, h⟩ := of_bind h
        have f2 : Fr [(74, 74, none)] A r7.2 := Fr.tr Fr.rf ((w_fX3_firstNeeded q1).wd rfl)
        obtain rfl := Option.some.inj h
        exact f2
