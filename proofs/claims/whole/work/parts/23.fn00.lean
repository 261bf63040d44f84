/-! METHODS AS FUNCTIONS, printed by dec.py -/
set_option maxRecDepth 20000 in
theorem tfX10_within (d n : Nat) (A : Nat → Nat → Int32) (L : Nat → Nat → Int64) (l0 : Int32) (l1 : Int32) (l2 : Int32) {Q : Option Value → jM → Prop} {z : Int32} (h : fX10_within l0 l1 l2 = z) (k3 : (narrow .boolean (.int z) = .int z) → Q (some (.int z)) (Sh0 n, A, L)) : pX10_within (jEv jtab (d + 0), jWP (jEv jtab (d + 0)) Q ((Sh0 n).length, jsl (Sh0 n)) pX10_within, Q, ((Sh0 n).length, jsl (Sh0 n))) 0 [some (.int l0), some (.int l1), some (.int l2)] [] (Sh0 n, A, L) := by
  unfold fX10_within at h
  refine y_mask <| x_iload rfl <| x_iload rfl <| y_cmp_lt (fun h1 => ?_) (fun h1 => ?_)
  · replace h := of_pos h h1
    refine jWP.intro (pr := pX10_within) (pc := 14) ?_
    refine y_mask <| x_push <| y_mask <| y_goto ?_
    refine jWP.intro (pr := pX10_within) (pc := 15) ?_
    refine y_mri (bs := []) (ls := []) ?_
    subst h
    exact k3 (jnar_boolean (.inl rfl))
  · replace h := of_neg h h1
    refine jWP.intro (pr := pX10_within) (pc := 5) ?_
    refine y_mask <| x_iload rfl <| x_iload rfl <| y_cmp_gt (fun h2 => ?_) (fun h2 => ?_)
    · replace h := of_pos h h2
      refine jWP.intro (pr := pX10_within) (pc := 14) ?_
      refine y_mask <| x_push <| y_mask <| y_goto ?_
      refine jWP.intro (pr := pX10_within) (pc := 15) ?_
      refine y_mri (bs := []) (ls := []) ?_
      subst h
      exact k3 (jnar_boolean (.inl rfl))
    · replace h := of_neg h h2
      refine jWP.intro (pr := pX10_within) (pc := 10) ?_
      refine y_mask <| x_push <| y_mask <| y_goto ?_
      refine jWP.intro (pr := pX10_within) (pc := 15) ?_
      refine y_mri (bs := []) (ls := []) ?_
      subst h
      exact k3 (jnar_boolean (.inr rfl))
theorem kX10_within (d n : Nat) (A : Nat → Nat → Int32) (L : Nat → Nat → Int64) (l0 : Int32) (l1 : Int32) (l2 : Int32) : jEv jtab (d + 1) 152 [.int l0, .int l1, .int l2] (Sh0 n, A, L) 0 0 (fun r M2 => r = some (.int (fX10_within l0 l1 l2)) ∧ M2 = (Sh0 n, A, L)) :=
  jEv.mk (mt := mX10_within) rfl (Nat.le_of_ble_eq_true rfl) (jWP.intro (pr := pX10_within) (pc := 0) (tfX10_within d n A L l0 l1 l2 rfl (fun hz => ⟨hz, jCn.mk ⟨rfl, rfl⟩⟩)))
set_option maxRecDepth 20000 in
theorem tfX10_set (d n : Nat) (A : Nat → Nat → Int32) (L : Nat → Nat → Int64) (l1 : Int32) (l2 : Int32) {Q : Option Value → jM → Prop} {z : (Int32 × (Nat → Nat → Int32))} (h : fX10_set A l1 l2 = some z) (k3 : Q (some (.int z.1)) (Sh0 n, z.2, L)) : pX10_set (jEv jtab (d + 1), jWP (jEv jtab (d + 1)) Q ((Sh0 n).length, jsl (Sh0 n)) pX10_set, Q, ((Sh0 n).length, jsl (Sh0 n))) 0 [some (.ref 15), some (.int l1), some (.int l2), none] [] (Sh0 n, A, L) := by
  unfold fX10_set at h
  refine y_mask <| x_iload rfl <| x_push <| x_push <| y_invS3 (Nat.le_of_ble_eq_true rfl) <| jEv.exZ (q := 152) rfl (kX10_within _ _ _ _ _ _ _) <| fun hz1 => y_if_ne (fun h2 => ?_) (fun h2 => ?_)
  · replace h := of_neg h h2
    refine jWP.intro (pr := pX10_set) (pc := 11) ?_
    obtain ⟨g3, h⟩ := of_guard h
    obtain ⟨g4, h⟩ := of_guard h
    refine y_mask <| x_iload rfl <| x_push <| x_iload rfl <| x_iald rfl g3 <| x_push <| x_iload rfl <| x_iald rfl g4 <| y_invS3 (Nat.le_of_ble_eq_true rfl) <| jEv.exZ (q := 152) rfl (kX10_within _ _ _ _ _ _ _) <| fun hz5 => y_if_ne (fun h6 => ?_) (fun h6 => ?_)
    · replace h := of_neg h h6
      refine jWP.intro (pr := pX10_set) (pc := 31) ?_
      obtain ⟨g7, h⟩ := of_guard h
      obtain ⟨g8, h⟩ := of_guard h
      obtain ⟨m9, hm10, h⟩ := of_bind h
      refine y_mask <| x_aload rfl <| x_getR (Nat.le_of_ble_eq_true rfl) rfl rfl <| x_getR (Nat.le_of_ble_eq_true rfl) rfl rfl <| x_getR (Nat.le_of_ble_eq_true rfl) rfl rfl <| x_iload rfl <| x_iald rfl g7 <| x_istore rfl <| x_aload rfl <| x_getR (Nat.le_of_ble_eq_true rfl) rfl rfl <| x_getR (Nat.le_of_ble_eq_true rfl) rfl rfl <| x_getR (Nat.le_of_ble_eq_true rfl) rfl rfl <| x_iload rfl <| x_iload rfl <| x_iast (Nat.le_of_ble_eq_true rfl) rfl g8 <| y_let (Option.some.inj hm10) <| x_iload rfl <| y_ireturn (ls := [some (.ref 15), some (.int l1), some (.int l2), some (.int (A 18 (jx l1)))]) ?_
      obtain rfl := Option.some.inj h
      exact k3
    · replace h := of_pos h h6
      refine jWP.intro (pr := pX10_set) (pc := 28) ?_
      refine y_mpri (bs := []) (ls := []) ?_
      obtain rfl := Option.some.inj h
      exact k3
  · replace h := of_pos h h2
    refine jWP.intro (pr := pX10_set) (pc := 9) ?_
    refine y_mpri (bs := []) (ls := []) ?_
    obtain rfl := Option.some.inj h
    exact k3
theorem kX10_set (d n : Nat) (A : Nat → Nat → Int32) (L : Nat → Nat → Int64) (l1 : Int32) (l2 : Int32) {z : (Int32 × (Nat → Nat → Int32))} (h : fX10_set A l1 l2 = some z) : jEv jtab (d + 2) 108 [.ref 15, .int l1, .int l2] (Sh0 n, A, L) 0 0 (fun r M2 => r = some (.int z.1) ∧ M2 = (Sh0 n, z.2, L)) :=
  jEv.mk (mt := mX10_set) rfl (Nat.le_of_ble_eq_true rfl) (jWP.intro (pr := pX10_set) (pc := 0) (tfX10_set d n A L l1 l2 h ⟨trivial, jCn.mk ⟨rfl, rfl⟩⟩))
set_option maxRecDepth 20000 in
theorem tfX10_want (d n : Nat) (A : Nat → Nat → Int32) (L : Nat → Nat → Int64) (l1 : Int32) (l2 : Int32) {Q : Option Value → jM → Prop} {z : (Int32 × (Nat → Nat → Int32))} (h : fX10_want A l1 l2 = some z) (k3 : Q (some (.int z.1)) (Sh0 n, z.2, L)) : pX10_want (jEv jtab (d + 1), jWP (jEv jtab (d + 1)) Q ((Sh0 n).length, jsl (Sh0 n)) pX10_want, Q, ((Sh0 n).length, jsl (Sh0 n))) 0 [some (.ref 15), some (.int l1), some (.int l2), none] [] (Sh0 n, A, L) := by
  unfold fX10_want at h
  refine y_mask <| x_iload rfl <| x_push <| x_push <| y_invS3 (Nat.le_of_ble_eq_true rfl) <| jEv.exZ (q := 152) rfl (kX10_within _ _ _ _ _ _ _) <| fun hz1 => y_if_ne (fun h2 => ?_) (fun h2 => ?_)
  · replace h := of_neg h h2
    refine jWP.intro (pr := pX10_want) (pc := 11) ?_
    refine y_mask <| x_iload rfl <| x_push <| x_push <| y_invS3 (Nat.le_of_ble_eq_true rfl) <| jEv.exZ (q := 152) rfl (kX10_within _ _ _ _ _ _ _) <| fun hz3 => y_if_ne (fun h4 => ?_) (fun h4 => ?_)
    · replace h := of_neg h h4
      refine jWP.intro (pr := pX10_want) (pc := 24) ?_
      obtain ⟨g5, h⟩ := of_guard h
      obtain ⟨g6, h⟩ := of_guard h
      obtain ⟨m7, hm8, h⟩ := of_bind h
      refine y_mask <| x_aload rfl <| x_getR (Nat.le_of_ble_eq_true rfl) rfl rfl <| x_getR (Nat.le_of_ble_eq_true rfl) rfl rfl <| x_getR (Nat.le_of_ble_eq_true rfl) rfl rfl <| x_iload rfl <| x_iald rfl g5 <| x_istore rfl <| x_aload rfl <| x_getR (Nat.le_of_ble_eq_true rfl) rfl rfl <| x_getR (Nat.le_of_ble_eq_true rfl) rfl rfl <| x_getR (Nat.le_of_ble_eq_true rfl) rfl rfl <| x_iload rfl <| x_iload rfl <| x_iast (Nat.le_of_ble_eq_true rfl) rfl g6 <| y_let (Option.some.inj hm8) <| x_iload rfl <| y_ireturn (ls := [some (.ref 15), some (.int l1), some (.int l2), some (.int (A 19 (jx l1)))]) ?_
      obtain rfl := Option.some.inj h
      exact k3
    · replace h := of_pos h h4
      refine jWP.intro (pr := pX10_want) (pc := 21) ?_
      refine y_mpri (bs := []) (ls := []) ?_
      obtain rfl := Option.some.inj h
      exact k3
  · replace h := of_pos h h2
    refine jWP.intro (pr := pX10_want) (pc := 9) ?_
    refine y_mpri (bs := []) (ls := []) ?_
    obtain rfl := Option.some.inj h
    exact k3
theorem kX10_want (d n : Nat) (A : Nat → Nat → Int32) (L : Nat → Nat → Int64) (l1 : Int32) (l2 : Int32) {z : (Int32 × (Nat → Nat → Int32))} (h : fX10_want A l1 l2 = some z) : jEv jtab (d + 2) 109 [.ref 15, .int l1, .int l2] (Sh0 n, A, L) 0 0 (fun r M2 => r = some (.int z.1) ∧ M2 = (Sh0 n, z.2, L)) :=
  jEv.mk (mt := mX10_want) rfl (Nat.le_of_ble_eq_true rfl) (jWP.intro (pr := pX10_want) (pc := 0) (tfX10_want d n A L l1 l2 h ⟨trivial, jCn.mk ⟨rfl, rfl⟩⟩))
set_option maxRecDepth 20000 in
theorem tfX10_count (d n : Nat) (A : Nat → Nat → Int32) (L : Nat → Nat → Int64) (l1 : Int32) {Q : Option Value → jM → Prop} {z : Int32} (h : fX10_count A l1 = some z) (k3 : Q (some (.int z)) (Sh0 n, A, L)) : pX10_count (jEv jtab (d + 1), jWP (jEv jtab (d + 1)) Q ((Sh0 n).length, jsl (Sh0 n)) pX10_count, Q, ((Sh0 n).length, jsl (Sh0 n))) 0 [some (.ref 15), some (.int l1)] [] (Sh0 n, A, L) := by
  unfold fX10_count at h
  refine y_mask <| x_iload rfl <| x_push <| x_push <| y_invS3 (Nat.le_of_ble_eq_true rfl) <| jEv.exZ (q := 152) rfl (kX10_within _ _ _ _ _ _ _) <| fun hz1 => y_if_eq (fun h2 => ?_) (fun h2 => ?_)
  · replace h := of_pos h h2
    refine jWP.intro (pr := pX10_count) (pc := 22) ?_
    refine y_mask <| x_iload rfl <| y_sw (y_case (fun h3 => ?_) (fun h3 => y_case (fun h4 => ?_) (fun h4 => y_case (fun h5 => ?_) (fun h5 => y_case (fun h6 => ?_) (fun h6 => y_case (fun h7 => ?_) (fun h7 => y_case (fun h8 => ?_) (fun h8 => y_case (fun h9 => ?_) (fun h9 => y_dflt ?_))))))))
    · replace h := of_pos h h3
      refine jWP.intro (pr := pX10_count) (pc := 64) ?_
      refine y_mask <| x_aload rfl <| x_getR (Nat.le_of_ble_eq_true rfl) rfl rfl <| x_getI (Nat.le_of_ble_eq_true rfl) rfl rfl <| y_ireturn (ls := [some (.ref 15), none]) ?_
      obtain rfl := Option.some.inj h
      exact k3
    · replace h := of_neg h h3
      replace h := of_pos h h4
      refine jWP.intro (pr := pX10_count) (pc := 72) ?_
      refine y_mask <| x_aload rfl <| x_getR (Nat.le_of_ble_eq_true rfl) rfl rfl <| x_getI (Nat.le_of_ble_eq_true rfl) rfl rfl <| y_ireturn (ls := [some (.ref 15), none]) ?_
      obtain rfl := Option.some.inj h
      exact k3
    · replace h := of_neg h h3
      replace h := of_neg h h4
      replace h := of_pos h h5
      refine jWP.intro (pr := pX10_count) (pc := 80) ?_
      refine y_mask <| x_aload rfl <| x_getR (Nat.le_of_ble_eq_true rfl) rfl rfl <| x_getI (Nat.le_of_ble_eq_true rfl) rfl rfl <| y_ireturn (ls := [some (.ref 15), none]) ?_
      obtain rfl := Option.some.inj h
      exact k3
    · replace h := of_neg h h3
      replace h := of_neg h h4
      replace h := of_neg h h5
      replace h := of_pos h h6
      refine jWP.intro (pr := pX10_count) (pc := 88) ?_
      refine y_mask <| x_aload rfl <| x_getR (Nat.le_of_ble_eq_true rfl) rfl rfl <| x_getI (Nat.le_of_ble_eq_true rfl) rfl rfl <| y_ireturn (ls := [some (.ref 15), none]) ?_
      obtain rfl := Option.some.inj h
      exact k3
    · replace h := of_neg h h3
      replace h := of_neg h h4
      replace h := of_neg h h5
      replace h := of_neg h h6
      replace h := of_pos h h7
      refine jWP.intro (pr := pX10_count) (pc := 96) ?_
      refine y_mask <| x_aload rfl <| x_getR (Nat.le_of_ble_eq_true rfl) rfl rfl <| x_getR (Nat.le_of_ble_eq_true rfl) rfl rfl <| x_getI (Nat.le_of_ble_eq_true rfl) rfl rfl <| y_ireturn (ls := [some (.ref 15), none]) ?_
      obtain rfl := Option.some.inj h
      exact k3
    · replace h := of_neg h h3
      replace h := of_neg h h4
      replace h := of_neg h h5
      replace h := of_neg h h6
      replace h := of_neg h h7
      replace h := of_pos h h8
      refine jWP.intro (pr := pX10_count) (pc := 107) ?_
      refine y_mask <| x_aload rfl <| x_getR (Nat.le_of_ble_eq_true rfl) rfl rfl <| x_getR (Nat.le_of_ble_eq_true rfl) rfl rfl <| x_getI (Nat.le_of_ble_eq_true rfl) rfl rfl <| y_ireturn (ls := [some (.ref 15), none]) ?_
      obtain rfl := Option.some.inj h
      exact k3
    · replace h := of_neg h h3
      replace h := of_neg h h4
      replace h := of_neg h h5
      replace h := of_neg h h6
      replace h := of_neg h h7
      replace h := of_neg h h8
      replace h := of_pos h h9
      refine jWP.intro (pr := pX10_count) (pc := 118) ?_
      refine y_mask <| x_aload rfl <| x_getR (Nat.le_of_ble_eq_true rfl) rfl rfl <| x_getR (Nat.le_of_ble_eq_true rfl) rfl rfl <| x_getR (Nat.le_of_ble_eq_true rfl) rfl rfl <| x_getR (Nat.le_of_ble_eq_true rfl) rfl rfl <| x_getI (Nat.le_of_ble_eq_true rfl) rfl rfl <| y_ireturn (ls := [some (.ref 15), none]) ?_
      obtain rfl := Option.some.inj h
      exact k3
    · replace h := of_neg h h3
      replace h := of_neg h h4
      replace h := of_neg h h5
      replace h := of_neg h h6
      replace h := of_neg h h7
      replace h := of_neg h h8
      replace h := of_neg h h9
      skip
      refine jWP.intro (pr := pX10_count) (pc := 135) ?_
      refine y_mpri (bs := []) (ls := []) ?_
      obtain rfl := Option.some.inj h
      exact k3
  · replace h := of_neg h h2
    refine jWP.intro (pr := pX10_count) (pc := 9) ?_
    obtain ⟨g10, h⟩ := of_guard h
    refine y_mask <| x_aload rfl <| x_getR (Nat.le_of_ble_eq_true rfl) rfl rfl <| x_getR (Nat.le_of_ble_eq_true rfl) rfl rfl <| x_getR (Nat.le_of_ble_eq_true rfl) rfl rfl <| x_iload rfl <| x_iald rfl g10 <| y_ireturn (ls := [some (.ref 15), some (.int l1)]) ?_
    obtain rfl := Option.some.inj h
    exact k3
theorem kX10_count (d n : Nat) (A : Nat → Nat → Int32) (L : Nat → Nat → Int64) (l1 : Int32) {z : Int32} (h : fX10_count A l1 = some z) : jEv jtab (d + 2) 110 [.ref 15, .int l1] (Sh0 n, A, L) 0 0 (fun r M2 => r = some (.int z) ∧ M2 = (Sh0 n, A, L)) :=
  jEv.mk (mt := mX10_count) rfl (Nat.le_of_ble_eq_true rfl) (jWP.intro (pr := pX10_count) (pc := 0) (tfX10_count d n A L l1 h ⟨trivial, jCn.mk ⟨rfl, rfl⟩⟩))
set_option maxRecDepth 20000 in
theorem tfX4_minutes (d n : Nat) (A : Nat → Nat → Int32) (L : Nat → Nat → Int64) {Q : Option Value → jM → Prop} {z : Int32} (h : fX4_minutes A = z) (k3 : Q (some (.int z)) (Sh0 n, A, L)) : pX4_minutes (jEv jtab (d + 0), jWP (jEv jtab (d + 0)) Q ((Sh0 n).length, jsl (Sh0 n)) pX4_minutes, Q, ((Sh0 n).length, jsl (Sh0 n))) 0 [some (.ref 17)] [] (Sh0 n, A, L) := by
  unfold fX4_minutes at h
  refine y_mask <| x_aload rfl <| x_getR (Nat.le_of_ble_eq_true rfl) rfl rfl <| x_push <| x_iald rfl (by unfold vp_in; decide) <| y_ireturn (ls := [some (.ref 17)]) ?_
  subst h
  exact k3
theorem kX4_minutes (d n : Nat) (A : Nat → Nat → Int32) (L : Nat → Nat → Int64) : jEv jtab (d + 1) 36 [.ref 17] (Sh0 n, A, L) 0 0 (fun r M2 => r = some (.int (fX4_minutes A)) ∧ M2 = (Sh0 n, A, L)) :=
  jEv.mk (mt := mX4_minutes) rfl (Nat.le_of_ble_eq_true rfl) (jWP.intro (pr := pX4_minutes) (pc := 0) (tfX4_minutes d n A L rfl ⟨trivial, jCn.mk ⟨rfl, rfl⟩⟩))
set_option maxRecDepth 20000 in
theorem tfX4_hasMinute (d n : Nat) (A : Nat → Nat → Int32) (L : Nat → Nat → Int64) (l1 : Int32) {Q : Option Value → jM → Prop} {z : Int32} (h : fX4_hasMinute A l1 = z) (k3 : (narrow .boolean (.int z) = .int z) → Q (some (.int z)) (Sh0 n, A, L)) : pX4_hasMinute (jEv jtab (d + 1), jWP (jEv jtab (d + 1)) Q ((Sh0 n).length, jsl (Sh0 n)) pX4_hasMinute, Q, ((Sh0 n).length, jsl (Sh0 n))) 0 [some (.ref 17), some (.int l1)] [] (Sh0 n, A, L) := by
  unfold fX4_hasMinute at h
  refine y_mask <| x_iload rfl <| x_push <| x_aload rfl <| y_invV0 (Nat.le_of_ble_eq_true rfl) rfl (Nat.le_of_ble_eq_true rfl) <| jEv.exI (kX4_minutes _ _ _ _) <| x_push <| x_isub <| y_invS3 (Nat.le_of_ble_eq_true rfl) <| jEv.exZ (q := 152) rfl (kX10_within _ _ _ _ _ _ _) <| fun hz1 => y_ireturn (ls := [some (.ref 17), some (.int l1)]) ?_
  subst h
  exact k3 hz1
theorem kX4_hasMinute (d n : Nat) (A : Nat → Nat → Int32) (L : Nat → Nat → Int64) (l1 : Int32) : jEv jtab (d + 2) 37 [.ref 17, .int l1] (Sh0 n, A, L) 0 0 (fun r M2 => r = some (.int (fX4_hasMinute A l1)) ∧ M2 = (Sh0 n, A, L)) :=
  jEv.mk (mt := mX4_hasMinute) rfl (Nat.le_of_ble_eq_true rfl) (jWP.intro (pr := pX4_hasMinute) (pc := 0) (tfX4_hasMinute d n A L l1 rfl (fun hz => ⟨hz, jCn.mk ⟨rfl, rfl⟩⟩)))
set_option maxRecDepth 20000 in
theorem tfX4_near (d n : Nat) (A : Nat → Nat → Int32) (L : Nat → Nat → Int64) {Q : Option Value → jM → Prop} {z : Int32} (h : fX4_near A = z) (k3 : Q (some (.int z)) (Sh0 n, A, L)) : pX4_near (jEv jtab (d + 0), jWP (jEv jtab (d + 0)) Q ((Sh0 n).length, jsl (Sh0 n)) pX4_near, Q, ((Sh0 n).length, jsl (Sh0 n))) 0 [some (.ref 17)] [] (Sh0 n, A, L) := by
  unfold fX4_near at h
  refine y_mask <| x_aload rfl <| x_getR (Nat.le_of_ble_eq_true rfl) rfl rfl <| x_push <| x_iald rfl (by unfold vp_in; decide) <| y_ireturn (ls := [some (.ref 17)]) ?_
  subst h
  exact k3
theorem kX4_near (d n : Nat) (A : Nat → Nat → Int32) (L : Nat → Nat → Int64) : jEv jtab (d + 1) 33 [.ref 17] (Sh0 n, A, L) 0 0 (fun r M2 => r = some (.int (fX4_near A)) ∧ M2 = (Sh0 n, A, L)) :=
  jEv.mk (mt := mX4_near) rfl (Nat.le_of_ble_eq_true rfl) (jWP.intro (pr := pX4_near) (pc := 0) (tfX4_near d n A L rfl ⟨trivial, jCn.mk ⟨rfl, rfl⟩⟩))
set_option maxRecDepth 20000 in
theorem tfX4_far (d n : Nat) (A : Nat → Nat → Int32) (L : Nat → Nat → Int64) (l1 : Int32) (l2 : Int32) {Q : Option Value → jM → Prop} {z : Int32} (h : fX4_far A l1 l2 = z) (k3 : Q (some (.int z)) (Sh0 n, A, L)) : pX4_far (jEv jtab (d + 1), jWP (jEv jtab (d + 1)) Q ((Sh0 n).length, jsl (Sh0 n)) pX4_far, Q, ((Sh0 n).length, jsl (Sh0 n))) 0 [some (.ref 17), some (.int l1), some (.int l2)] [] (Sh0 n, A, L) := by
  unfold fX4_far at h
  refine y_mask <| x_iload rfl <| x_aload rfl <| x_getR (Nat.le_of_ble_eq_true rfl) rfl rfl <| x_push <| x_iald rfl (by unfold vp_in; decide) <| x_push <| x_iload rfl <| x_imul <| x_aload rfl <| y_invV0 (Nat.le_of_ble_eq_true rfl) rfl (Nat.le_of_ble_eq_true rfl) <| jEv.exI (kX4_minutes _ _ _ _) <| x_push <| x_isub <| x_isub <| y_mabs (Nat.le_of_ble_eq_true rfl) <| x_imul <| x_push <| x_idiv (by decide) <| x_iadd <| y_ireturn (ls := [some (.ref 17), some (.int l1), some (.int l2)]) ?_
  subst h
  exact k3
theorem kX4_far (d n : Nat) (A : Nat → Nat → Int32) (L : Nat → Nat → Int64) (l1 : Int32) (l2 : Int32) : jEv jtab (d + 2) 39 [.ref 17, .int l1, .int l2] (Sh0 n, A, L) 0 0 (fun r M2 => r = some (.int (fX4_far A l1 l2)) ∧ M2 = (Sh0 n, A, L)) :=
  jEv.mk (mt := mX4_far) rfl (Nat.le_of_ble_eq_true rfl) (jWP.intro (pr := pX4_far) (pc := 0) (tfX4_far d n A L l1 l2 rfl ⟨trivial, jCn.mk ⟨rfl, rfl⟩⟩))
set_option maxRecDepth 20000 in
theorem tfX10_pass (d n : Nat) (A : Nat → Nat → Int32) (L : Nat → Nat → Int64) (l1 : Int32) {Q : Option Value → jM → Prop} {z : Int32} (h : fX10_pass A l1 = z) (k3 : Q (some (.int z)) (Sh0 n, A, L)) : pX10_pass (jEv jtab (d + 2), jWP (jEv jtab (d + 2)) Q ((Sh0 n).length, jsl (Sh0 n)) pX10_pass, Q, ((Sh0 n).length, jsl (Sh0 n))) 0 [some (.ref 15), some (.int l1)] [] (Sh0 n, A, L) := by
  unfold fX10_pass at h
  refine y_mask <| x_aload rfl <| x_getR (Nat.le_of_ble_eq_true rfl) rfl rfl <| x_getR (Nat.le_of_ble_eq_true rfl) rfl rfl <| x_iload rfl <| y_invV1 (Nat.le_of_ble_eq_true rfl) rfl (Nat.le_of_ble_eq_true rfl) <| jEv.exZ (q := 37) rfl (kX4_hasMinute _ _ _ _ _) <| fun hz1 => y_if_eq (fun h2 => ?_) (fun h2 => ?_)
  · replace h := of_pos h h2
    refine jWP.intro (pr := pX10_pass) (pc := 38) ?_
    refine y_mask <| x_push <| y_mask <| y_goto ?_
    refine jWP.intro (pr := pX10_pass) (pc := 40) ?_
    refine y_mri (bs := []) (ls := []) ?_
    subst h
    exact k3
  · replace h := of_neg h h2
    refine jWP.intro (pr := pX10_pass) (pc := 14) ?_
    refine y_mask <| x_aload rfl <| x_getR (Nat.le_of_ble_eq_true rfl) rfl rfl <| x_getR (Nat.le_of_ble_eq_true rfl) rfl rfl <| x_aload rfl <| x_getR (Nat.le_of_ble_eq_true rfl) rfl rfl <| x_getR (Nat.le_of_ble_eq_true rfl) rfl rfl <| y_invV0 (Nat.le_of_ble_eq_true rfl) rfl (Nat.le_of_ble_eq_true rfl) <| jEv.exI (kX4_near _ _ _ _) <| x_iload rfl <| y_invV2 (Nat.le_of_ble_eq_true rfl) rfl (Nat.le_of_ble_eq_true rfl) <| jEv.exI (kX4_far _ _ _ _ _ _) <| y_mask <| y_goto ?_
    refine jWP.intro (pr := pX10_pass) (pc := 40) ?_
    refine y_mri (bs := []) (ls := []) ?_
    subst h
    exact k3
theorem kX10_pass (d n : Nat) (A : Nat → Nat → Int32) (L : Nat → Nat → Int64) (l1 : Int32) : jEv jtab (d + 3) 111 [.ref 15, .int l1] (Sh0 n, A, L) 0 0 (fun r M2 => r = some (.int (fX10_pass A l1)) ∧ M2 = (Sh0 n, A, L)) :=
  jEv.mk (mt := mX10_pass) rfl (Nat.le_of_ble_eq_true rfl) (jWP.intro (pr := pX10_pass) (pc := 0) (tfX10_pass d n A L l1 rfl ⟨trivial, jCn.mk ⟨rfl, rfl⟩⟩))
set_option maxRecDepth 20000 in
theorem tfX8_put (d n : Nat) (A : Nat → Nat → Int32) (L : Nat → Nat → Int64) (l1 : Int32) {Q : Option Value → jM → Prop} {z : (Nat → Nat → Int32)} (h : fX8_put A l1 = some z) (k3 : Q (none) (Sh0 n, z, L)) : pX8_put (jEv jtab (d + 0), jWP (jEv jtab (d + 0)) Q ((Sh0 n).length, jsl (Sh0 n)) pX8_put, Q, ((Sh0 n).length, jsl (Sh0 n))) 0 [some (.ref 22), some (.int l1)] [] (Sh0 n, A, L) := by
  unfold fX8_put at h
  refine y_mask <| x_aload rfl <| x_getI (Nat.le_of_ble_eq_true rfl) rfl rfl <| x_push <| y_cmp_ge (fun h1 => ?_) (fun h1 => ?_)
  · replace h := of_pos h h1
    refine jWP.intro (pr := pX8_put) (pc := 30) ?_
    refine y_mrv (bs := []) (ls := []) ?_
    obtain rfl := Option.some.inj h
    exact k3
  · replace h := of_neg h h1
    refine jWP.intro (pr := pX8_put) (pc := 10) ?_
    obtain ⟨g2, h⟩ := of_guard h
    obtain ⟨m3, hm4, h⟩ := of_bind h
    refine y_mask <| x_aload rfl <| x_getR (Nat.le_of_ble_eq_true rfl) rfl rfl <| x_aload rfl <| x_getI (Nat.le_of_ble_eq_true rfl) rfl rfl <| x_iload rfl <| x_iast (Nat.le_of_ble_eq_true rfl) rfl g2 <| y_let (Option.some.inj hm4) <| x_aload rfl <| x_dup rfl <| x_getI (Nat.le_of_ble_eq_true rfl) rfl rfl <| x_push <| x_iadd <| x_putI (Nat.le_of_ble_eq_true rfl) rfl rfl <| y_mask <| y_goto ?_
    refine jWP.intro (pr := pX8_put) (pc := 30) ?_
    refine y_mrv (bs := []) (ls := []) ?_
    obtain rfl := Option.some.inj h
    exact k3
theorem kX8_put (d n : Nat) (A : Nat → Nat → Int32) (L : Nat → Nat → Int64) (l1 : Int32) {z : (Nat → Nat → Int32)} (h : fX8_put A l1 = some z) : jEv jtab (d + 1) 85 [.ref 22, .int l1] (Sh0 n, A, L) 0 0 (fun r M2 => r = none ∧ M2 = (Sh0 n, z, L)) :=
  jEv.mk (mt := mX8_put) rfl (Nat.le_of_ble_eq_true rfl) (jWP.intro (pr := pX8_put) (pc := 0) (tfX8_put d n A L l1 h ⟨trivial, jCn.mk ⟨rfl, rfl⟩⟩))
set_option maxRecDepth 20000 in
theorem tcX10_feed_49 (d n : Nat) (A : Nat → Nat → Int32) (L : Nat → Nat → Int64) (l1 : Int64) (s : (Int32 × (Nat → Nat → Int32))) {Q : Option Value → jM → Prop} {z : ((Int32 × (Nat → Nat → Int32)) ⊕ (Nat → Nat → Int32))} (h : cX10_feed_49 l1 s = some z) (k1 : ∀ s0, z = .inl s0 → pX10_feed (jEv jtab (d + 1), jWP (jEv jtab (d + 1)) Q ((Sh0 n).length, jsl (Sh0 n)) pX10_feed, Q, ((Sh0 n).length, jsl (Sh0 n))) 49 [none, some (.long l1), none, none, some (.ref 22), some (.int s0.1)] [] (Sh0 n, s0.2, L)) (k2 : ∀ s0, z = .inr s0 → pX10_feed (jEv jtab (d + 1), jWP (jEv jtab (d + 1)) Q ((Sh0 n).length, jsl (Sh0 n)) pX10_feed, Q, ((Sh0 n).length, jsl (Sh0 n))) 77 [none, none, none, none, some (.ref 22), none] [] (Sh0 n, s0, L)) : pX10_feed (jEv jtab (d + 1), jWP (jEv jtab (d + 1)) Q ((Sh0 n).length, jsl (Sh0 n)) pX10_feed, Q, ((Sh0 n).length, jsl (Sh0 n))) 49 [none, some (.long l1), none, none, some (.ref 22), some (.int s.1)] [] (Sh0 n, s.2, L) := by
  unfold cX10_feed_49 at h
  refine y_mask <| x_iload rfl <| y_if_lt (fun h1 => ?_) (fun h1 => ?_)
  · replace h := of_pos h h1
    refine jWP.intro (pr := pX10_feed) (pc := 77) ?_
    have hk := k2 _ (Option.some.inj h).symm
    exact hk
  · replace h := of_neg h h1
    refine jWP.intro (pr := pX10_feed) (pc := 54) ?_
    obtain ⟨r2, hc3, h⟩ := of_bind h
    refine y_mask <| x_aload rfl <| x_lload rfl <| x_push <| x_iload rfl <| x_imul <| x_lushr <| x_l2i <| x_push <| x_iand <| y_invV1 (Nat.le_of_ble_eq_true rfl) rfl (Nat.le_of_ble_eq_true rfl) <| jEv.exV (kX8_put _ _ _ _ _ hc3) <| x_iinc rfl rfl <| y_mask <| y_goto ?_
    refine jWP.intro (pr := pX10_feed) (pc := 49) ?_
    have hk := k1 _ (Option.some.inj h).symm
    exact hk
set_option maxRecDepth 20000 in
theorem tfX10_feed (d n : Nat) (A : Nat → Nat → Int32) (L : Nat → Nat → Int64) (l1 : Int64) (l3 : Int32) {Q : Option Value → jM → Prop} {z : (Int32 × (Nat → Nat → Int32))} (h : fX10_feed A l1 l3 = some z) (k3 : Q (some (.int z.1)) (Sh0 n, z.2, L)) : pX10_feed (jEv jtab (d + 1), jWP (jEv jtab (d + 1)) Q ((Sh0 n).length, jsl (Sh0 n)) pX10_feed, Q, ((Sh0 n).length, jsl (Sh0 n))) 0 [some (.ref 15), some (.long l1), none, some (.int l3), none, none] [] (Sh0 n, A, L) := by
  unfold fX10_feed at h
  refine y_mask <| x_iload rfl <| x_push <| x_push <| y_invS3 (Nat.le_of_ble_eq_true rfl) <| jEv.exZ (q := 152) rfl (kX10_within _ _ _ _ _ _ _) <| fun hz1 => y_if_ne (fun h2 => ?_) (fun h2 => ?_)
  · replace h := of_neg h h2
    refine jWP.intro (pr := pX10_feed) (pc := 13) ?_
    refine y_mask <| x_aload rfl <| x_getR (Nat.le_of_ble_eq_true rfl) rfl rfl <| x_getR (Nat.le_of_ble_eq_true rfl) rfl rfl <| x_getR (Nat.le_of_ble_eq_true rfl) rfl rfl <| x_getR (Nat.le_of_ble_eq_true rfl) rfl rfl <| x_astore rfl <| x_aload rfl <| x_getI (Nat.le_of_ble_eq_true rfl) rfl rfl <| x_iload rfl <| x_iadd <| x_push <| y_cmp_le (fun h3 => ?_) (fun h3 => ?_)
    · replace h := of_pos h h3
      refine jWP.intro (pr := pX10_feed) (pc := 44) ?_
      refine y_mask <| x_iload rfl <| x_push <| x_isub <| x_istore rfl <| y_mask <| y_goto ?_
      obtain ⟨e4, hw5, h⟩ := of_bind h
      refine jWP.intro (pr := pX10_feed) (pc := 49) ?_
      refine jwh_use (G := (fun s0 => pX10_feed (jEv jtab (d + 1), jWP (jEv jtab (d + 1)) Q ((Sh0 n).length, jsl (Sh0 n)) pX10_feed, Q, ((Sh0 n).length, jsl (Sh0 n))) 49 [none, some (.long l1), none, none, some (.ref 22), some (.int s0.1)] [] (Sh0 n, s0.2, L))) (Gx := (fun s0 => pX10_feed (jEv jtab (d + 1), jWP (jEv jtab (d + 1)) Q ((Sh0 n).length, jsl (Sh0 n)) pX10_feed, Q, ((Sh0 n).length, jsl (Sh0 n))) 77 [none, none, none, none, some (.ref 22), none] [] (Sh0 n, s0, L))) (fun s1 z1 hz kk1 kk2 => tcX10_feed_49 d n A L l1 s1 hz kk1 kk2) hw5 ?_
      refine y_mask <| x_aload rfl <| x_getI (Nat.le_of_ble_eq_true rfl) rfl rfl <| y_ireturn (ls := [none, none, none, none, some (.ref 22), none]) ?_
      obtain rfl := Option.some.inj h
      exact k3
    · replace h := of_neg h h3
      refine jWP.intro (pr := pX10_feed) (pc := 41) ?_
      refine y_mpri (bs := []) (ls := []) ?_
      obtain rfl := Option.some.inj h
      exact k3
  · replace h := of_pos h h2
    refine jWP.intro (pr := pX10_feed) (pc := 10) ?_
    refine y_mpri (bs := []) (ls := []) ?_
    obtain rfl := Option.some.inj h
    exact k3
theorem kX10_feed (d n : Nat) (A : Nat → Nat → Int32) (L : Nat → Nat → Int64) (l1 : Int64) (l3 : Int32) {z : (Int32 × (Nat → Nat → Int32))} (h : fX10_feed A l1 l3 = some z) : jEv jtab (d + 2) 112 [.ref 15, .long l1, .int l3] (Sh0 n, A, L) 0 0 (fun r M2 => r = some (.int z.1) ∧ M2 = (Sh0 n, z.2, L)) :=
  jEv.mk (mt := mX10_feed) rfl (Nat.le_of_ble_eq_true rfl) (jWP.intro (pr := pX10_feed) (pc := 0) (tfX10_feed d n A L l1 l3 h ⟨trivial, jCn.mk ⟨rfl, rfl⟩⟩))
set_option maxRecDepth 20000 in
theorem tfX8_isLetter (d n : Nat) (A : Nat → Nat → Int32) (L : Nat → Nat → Int64) (l0 : Int32) {Q : Option Value → jM → Prop} {z : Int32} (h : fX8_isLetter l0 = z) (k3 : (narrow .boolean (.int z) = .int z) → Q (some (.int z)) (Sh0 n, A, L)) : pX8_isLetter (jEv jtab (d + 1), jWP (jEv jtab (d + 1)) Q ((Sh0 n).length, jsl (Sh0 n)) pX8_isLetter, Q, ((Sh0 n).length, jsl (Sh0 n))) 0 [some (.int l0)] [] (Sh0 n, A, L) := by
  unfold fX8_isLetter at h
  refine y_mask <| x_iload rfl <| x_push <| x_push <| y_invS3 (Nat.le_of_ble_eq_true rfl) <| jEv.exZ (q := 152) rfl (kX10_within _ _ _ _ _ _ _) <| fun hz1 => y_ireturn (ls := [some (.int l0)]) ?_
  subst h
  exact k3 hz1
theorem kX8_isLetter (d n : Nat) (A : Nat → Nat → Int32) (L : Nat → Nat → Int64) (l0 : Int32) : jEv jtab (d + 2) 92 [.int l0] (Sh0 n, A, L) 0 0 (fun r M2 => r = some (.int (fX8_isLetter l0)) ∧ M2 = (Sh0 n, A, L)) :=
  jEv.mk (mt := mX8_isLetter) rfl (Nat.le_of_ble_eq_true rfl) (jWP.intro (pr := pX8_isLetter) (pc := 0) (tfX8_isLetter d n A L l0 rfl (fun hz => ⟨hz, jCn.mk ⟨rfl, rfl⟩⟩)))
set_option maxRecDepth 20000 in
theorem tfX8_isDigit (d n : Nat) (A : Nat → Nat → Int32) (L : Nat → Nat → Int64) (l0 : Int32) {Q : Option Value → jM → Prop} {z : Int32} (h : fX8_isDigit l0 = z) (k3 : (narrow .boolean (.int z) = .int z) → Q (some (.int z)) (Sh0 n, A, L)) : pX8_isDigit (jEv jtab (d + 1), jWP (jEv jtab (d + 1)) Q ((Sh0 n).length, jsl (Sh0 n)) pX8_isDigit, Q, ((Sh0 n).length, jsl (Sh0 n))) 0 [some (.int l0)] [] (Sh0 n, A, L) := by
  unfold fX8_isDigit at h
  refine y_mask <| x_iload rfl <| x_push <| x_push <| y_invS3 (Nat.le_of_ble_eq_true rfl) <| jEv.exZ (q := 152) rfl (kX10_within _ _ _ _ _ _ _) <| fun hz1 => y_ireturn (ls := [some (.int l0)]) ?_
  subst h
  exact k3 hz1
theorem kX8_isDigit (d n : Nat) (A : Nat → Nat → Int32) (L : Nat → Nat → Int64) (l0 : Int32) : jEv jtab (d + 2) 93 [.int l0] (Sh0 n, A, L) 0 0 (fun r M2 => r = some (.int (fX8_isDigit l0)) ∧ M2 = (Sh0 n, A, L)) :=
  jEv.mk (mt := mX8_isDigit) rfl (Nat.le_of_ble_eq_true rfl) (jWP.intro (pr := pX8_isDigit) (pc := 0) (tfX8_isDigit d n A L l0 rfl (fun hz => ⟨hz, jCn.mk ⟨rfl, rfl⟩⟩)))
set_option maxRecDepth 20000 in
theorem tfJ0_isLatin1_aae02 (d n : Nat) (A : Nat → Nat → Int32) (L : Nat → Nat → Int64) {Q : Option Value → jM → Prop} {z : Int32} (h : fJ0_isLatin1_aae02 A = z) (k3 : (narrow .boolean (.int z) = .int z) → Q (some (.int z)) (Sh0 n, A, L)) : pJ0_isLatin1_aae02 (jEv jtab (d + 0), jWP (jEv jtab (d + 0)) Q ((Sh0 n).length, jsl (Sh0 n)) pJ0_isLatin1_aae02, Q, ((Sh0 n).length, jsl (Sh0 n))) 0 [some (.ref 10)] [] (Sh0 n, A, L) := by
  unfold fJ0_isLatin1_aae02 at h
  refine y_mask <| x_push <| y_if_eq (fun h1 => ?_) (fun h1 => ?_)
  · replace h := of_pos h h1
    refine jWP.intro (pr := pJ0_isLatin1_aae02) (pc := 17) ?_
    refine y_mask <| x_push <| y_mask <| y_goto ?_
    refine jWP.intro (pr := pJ0_isLatin1_aae02) (pc := 18) ?_
    refine y_mri (bs := []) (ls := []) ?_
    subst h
    exact k3 (jnar_boolean (.inl rfl))
  · replace h := of_neg h h1
    refine jWP.intro (pr := pJ0_isLatin1_aae02) (pc := 6) ?_
    refine y_mask <| x_aload rfl <| x_getS1 (Nat.le_of_ble_eq_true rfl) rfl <| y_if_ne (fun h2 => ?_) (fun h2 => ?_)
    · replace h := of_neg h h2
      refine jWP.intro (pr := pJ0_isLatin1_aae02) (pc := 17) ?_
      refine y_mask <| x_push <| y_mask <| y_goto ?_
      refine jWP.intro (pr := pJ0_isLatin1_aae02) (pc := 18) ?_
      refine y_mri (bs := []) (ls := []) ?_
      subst h
      exact k3 (jnar_boolean (.inl rfl))
    · replace h := of_pos h h2
      refine jWP.intro (pr := pJ0_isLatin1_aae02) (pc := 13) ?_
      refine y_mask <| x_push <| y_mask <| y_goto ?_
      refine jWP.intro (pr := pJ0_isLatin1_aae02) (pc := 18) ?_
      refine y_mri (bs := []) (ls := []) ?_
      subst h
      exact k3 (jnar_boolean (.inr rfl))
theorem kJ0_isLatin1_aae02 (d n : Nat) (A : Nat → Nat → Int32) (L : Nat → Nat → Int64) : jEv jtab (d + 1) 266 [.ref 10] (Sh0 n, A, L) 0 0 (fun r M2 => r = some (.int (fJ0_isLatin1_aae02 A)) ∧ M2 = (Sh0 n, A, L)) :=
  jEv.mk (mt := mJ0_isLatin1_aae02) rfl (Nat.le_of_ble_eq_true rfl) (jWP.intro (pr := pJ0_isLatin1_aae02) (pc := 0) (tfJ0_isLatin1_aae02 d n A L rfl (fun hz => ⟨hz, jCn.mk ⟨rfl, rfl⟩⟩)))
set_option maxRecDepth 20000 in
theorem tfJ0_coder_7d493 (d n : Nat) (A : Nat → Nat → Int32) (L : Nat → Nat → Int64) {Q : Option Value → jM → Prop} {z : Int32} (h : fJ0_coder_7d493 A = some z) (k3 : (narrow .byte (.int z) = .int z) → Q (some (.int z)) (Sh0 n, A, L)) : pJ0_coder_7d493 (jEv jtab (d + 0), jWP (jEv jtab (d + 0)) Q ((Sh0 n).length, jsl (Sh0 n)) pJ0_coder_7d493, Q, ((Sh0 n).length, jsl (Sh0 n))) 0 [some (.ref 10)] [] (Sh0 n, A, L) := by
  unfold fJ0_coder_7d493 at h
  refine y_mask <| x_push <| y_if_eq (fun h1 => ?_) (fun h1 => ?_)
  · replace h := of_pos h h1
    refine jWP.intro (pr := pJ0_coder_7d493) (pc := 13) ?_
    refine y_mask <| x_push <| y_mask <| y_goto ?_
    refine jWP.intro (pr := pJ0_coder_7d493) (pc := 14) ?_
    refine y_mri (bs := []) (ls := []) ?_
    obtain rfl := Option.some.inj h
    exact k3 rfl
  · replace h := of_neg h h1
    refine jWP.intro (pr := pJ0_coder_7d493) (pc := 6) ?_
    refine y_mask <| x_aload rfl <| x_getS1 (Nat.le_of_ble_eq_true rfl) rfl <| y_mask <| y_goto ?_
    refine jWP.intro (pr := pJ0_coder_7d493) (pc := 14) ?_
    obtain ⟨g2, h⟩ := of_guard h
    refine y_mri (bs := []) (ls := []) ?_
    obtain rfl := Option.some.inj h
    exact k3 (jnar_byte g2)
theorem kJ0_coder_7d493 (d n : Nat) (A : Nat → Nat → Int32) (L : Nat → Nat → Int64) {z : Int32} (h : fJ0_coder_7d493 A = some z) : jEv jtab (d + 1) 265 [.ref 10] (Sh0 n, A, L) 0 0 (fun r M2 => r = some (.int z) ∧ M2 = (Sh0 n, A, L)) :=
  jEv.mk (mt := mJ0_coder_7d493) rfl (Nat.le_of_ble_eq_true rfl) (jWP.intro (pr := pJ0_coder_7d493) (pc := 0) (tfJ0_coder_7d493 d n A L h (fun hz => ⟨hz, jCn.mk ⟨rfl, rfl⟩⟩)))
set_option maxRecDepth 20000 in
theorem tfJ0_length_8abf5 (d n : Nat) (A : Nat → Nat → Int32) (L : Nat → Nat → Int64) {Q : Option Value → jM → Prop} {z : Int32} (h : fJ0_length_8abf5 A = some z) (k3 : Q (some (.int z)) (Sh0 n, A, L)) : pJ0_length_8abf5 (jEv jtab (d + 1), jWP (jEv jtab (d + 1)) Q ((Sh0 n).length, jsl (Sh0 n)) pJ0_length_8abf5, Q, ((Sh0 n).length, jsl (Sh0 n))) 0 [some (.ref 10)] [] (Sh0 n, A, L) := by
  unfold fJ0_length_8abf5 at h
  obtain ⟨r1, hc2, h⟩ := of_bind h
  refine y_mask <| x_aload rfl <| x_getS0 (Nat.le_of_ble_eq_true rfl) rfl <| x_alen rfl (by simp) <| x_aload rfl <| y_invT0 (Nat.le_of_ble_eq_true rfl) rfl (Nat.le_of_ble_eq_true rfl) <| jEv.exZ (q := 265) rfl (kJ0_coder_7d493 _ _ _ _ hc2) <| fun hz3 => x_ishr <| y_ireturn (ls := [some (.ref 10)]) ?_
  obtain rfl := Option.some.inj h
  exact k3
theorem kJ0_length_8abf5 (d n : Nat) (A : Nat → Nat → Int32) (L : Nat → Nat → Int64) {z : Int32} (h : fJ0_length_8abf5 A = some z) : jEv jtab (d + 2) 261 [.ref 10] (Sh0 n, A, L) 0 0 (fun r M2 => r = some (.int z) ∧ M2 = (Sh0 n, A, L)) :=
  jEv.mk (mt := mJ0_length_8abf5) rfl (Nat.le_of_ble_eq_true rfl) (jWP.intro (pr := pJ0_length_8abf5) (pc := 0) (tfJ0_length_8abf5 d n A L h ⟨trivial, jCn.mk ⟨rfl, rfl⟩⟩))
set_option maxRecDepth 20000 in
theorem tfJ1_canEncode_9a6ad (d n : Nat) (A : Nat → Nat → Int32) (L : Nat → Nat → Int64) (l0 : Int32) {Q : Option Value → jM → Prop} {z : Int32} (h : fJ1_canEncode_9a6ad l0 = z) (k3 : (narrow .boolean (.int z) = .int z) → Q (some (.int z)) (Sh0 n, A, L)) : pJ1_canEncode_9a6ad (jEv jtab (d + 0), jWP (jEv jtab (d + 0)) Q ((Sh0 n).length, jsl (Sh0 n)) pJ1_canEncode_9a6ad, Q, ((Sh0 n).length, jsl (Sh0 n))) 0 [some (.int l0)] [] (Sh0 n, A, L) := by
  unfold fJ1_canEncode_9a6ad at h
  refine y_mask <| x_iload rfl <| y_if_lt (fun h1 => ?_) (fun h1 => ?_)
  · replace h := of_pos h h1
    refine jWP.intro (pr := pJ1_canEncode_9a6ad) (pc := 15) ?_
    refine y_mask <| x_push <| y_mask <| y_goto ?_
    refine jWP.intro (pr := pJ1_canEncode_9a6ad) (pc := 16) ?_
    refine y_mri (bs := []) (ls := []) ?_
    subst h
    exact k3 (jnar_boolean (.inl rfl))
  · replace h := of_neg h h1
    refine jWP.intro (pr := pJ1_canEncode_9a6ad) (pc := 4) ?_
    refine y_mask <| x_iload rfl <| x_push <| y_cmp_gt (fun h2 => ?_) (fun h2 => ?_)
    · replace h := of_pos h h2
      refine jWP.intro (pr := pJ1_canEncode_9a6ad) (pc := 15) ?_
      refine y_mask <| x_push <| y_mask <| y_goto ?_
      refine jWP.intro (pr := pJ1_canEncode_9a6ad) (pc := 16) ?_
      refine y_mri (bs := []) (ls := []) ?_
      subst h
      exact k3 (jnar_boolean (.inl rfl))
    · replace h := of_neg h h2
      refine jWP.intro (pr := pJ1_canEncode_9a6ad) (pc := 11) ?_
      refine y_mask <| x_push <| y_mask <| y_goto ?_
      refine jWP.intro (pr := pJ1_canEncode_9a6ad) (pc := 16) ?_
      refine y_mri (bs := []) (ls := []) ?_
      subst h
      exact k3 (jnar_boolean (.inr rfl))
theorem kJ1_canEncode_9a6ad (d n : Nat) (A : Nat → Nat → Int32) (L : Nat → Nat → Int64) (l0 : Int32) : jEv jtab (d + 1) 269 [.int l0] (Sh0 n, A, L) 0 0 (fun r M2 => r = some (.int (fJ1_canEncode_9a6ad l0)) ∧ M2 = (Sh0 n, A, L)) :=
  jEv.mk (mt := mJ1_canEncode_9a6ad) rfl (Nat.le_of_ble_eq_true rfl) (jWP.intro (pr := pJ1_canEncode_9a6ad) (pc := 0) (tfJ1_canEncode_9a6ad d n A L l0 rfl (fun hz => ⟨hz, jCn.mk ⟨rfl, rfl⟩⟩)))
set_option maxRecDepth 20000 in
theorem tcJ1_indexOfChar_4cfef_7 (d n : Nat) (A : Nat → Nat → Int32) (L : Nat → Nat → Int64) (l3 : Int32) (l4 : Int32) (s : Int32) {Q : Option Value → jM → Prop} {z : (Int32 ⊕ (Unit ⊕ Int32))} (h : cJ1_indexOfChar_4cfef_7 A l3 l4 s = some z) (k1 : ∀ s0, z = .inl s0 → pJ1_indexOfChar_4cfef (jEv jtab (d + 0), jWP (jEv jtab (d + 0)) Q ((Sh0 n).length, jsl (Sh0 n)) pJ1_indexOfChar_4cfef, Q, ((Sh0 n).length, jsl (Sh0 n))) 7 [some (.ref 13), none, none, some (.int l3), some (.int l4), some (.int s0)] [] (Sh0 n, A, L)) (k2 : ∀ s0, z = .inr (.inl s0) → pJ1_indexOfChar_4cfef (jEv jtab (d + 0), jWP (jEv jtab (d + 0)) Q ((Sh0 n).length, jsl (Sh0 n)) pJ1_indexOfChar_4cfef, Q, ((Sh0 n).length, jsl (Sh0 n))) 31 [none, none, none, none, none, none] [] (Sh0 n, A, L)) (k3 : ∀ s0, z = .inr (.inr s0) → Q (some (.int s0)) (Sh0 n, A, L)) : pJ1_indexOfChar_4cfef (jEv jtab (d + 0), jWP (jEv jtab (d + 0)) Q ((Sh0 n).length, jsl (Sh0 n)) pJ1_indexOfChar_4cfef, Q, ((Sh0 n).length, jsl (Sh0 n))) 7 [some (.ref 13), none, none, some (.int l3), some (.int l4), some (.int s)] [] (Sh0 n, A, L) := by
  unfold cJ1_indexOfChar_4cfef_7 at h
  refine y_mask <| x_iload rfl <| x_iload rfl <| y_cmp_ge (fun h1 => ?_) (fun h1 => ?_)
  · replace h := of_pos h h1
    refine jWP.intro (pr := pJ1_indexOfChar_4cfef) (pc := 31) ?_
    have hk := k2 _ (Option.some.inj h).symm
    exact hk
  · replace h := of_neg h h1
    refine jWP.intro (pr := pJ1_indexOfChar_4cfef) (pc := 13) ?_
    obtain ⟨g2, h⟩ := of_guard h
    refine y_mask <| x_aload rfl <| x_iload rfl <| x_bald rfl g2 <| x_iload rfl <| y_cmp_ne (fun h3 => ?_) (fun h3 => ?_)
    · replace h := of_neg h h3
      refine jWP.intro (pr := pJ1_indexOfChar_4cfef) (pc := 25) ?_
      refine y_mask <| x_iinc rfl rfl <| y_mask <| y_goto ?_
      refine jWP.intro (pr := pJ1_indexOfChar_4cfef) (pc := 7) ?_
      have hk := k1 _ (Option.some.inj h).symm
      exact hk
    · replace h := of_pos h h3
      refine jWP.intro (pr := pJ1_indexOfChar_4cfef) (pc := 22) ?_
      refine y_mask <| x_iload rfl <| y_ireturn (ls := [none, none, none, none, none, some (.int s)]) ?_
      have hk := k3 _ (Option.some.inj h).symm
      exact hk
set_option maxRecDepth 20000 in
theorem tfJ1_indexOfChar_4cfef (d n : Nat) (A : Nat → Nat → Int32) (L : Nat → Nat → Int64) (l1 : Int32) (l2 : Int32) (l3 : Int32) {Q : Option Value → jM → Prop} {z : Int32} (h : fJ1_indexOfChar_4cfef A l1 l2 l3 = some z) (k3 : Q (some (.int z)) (Sh0 n, A, L)) : pJ1_indexOfChar_4cfef (jEv jtab (d + 0), jWP (jEv jtab (d + 0)) Q ((Sh0 n).length, jsl (Sh0 n)) pJ1_indexOfChar_4cfef, Q, ((Sh0 n).length, jsl (Sh0 n))) 0 [some (.ref 13), some (.int l1), some (.int l2), some (.int l3), none, none] [] (Sh0 n, A, L) := by
  unfold fJ1_indexOfChar_4cfef at h
  refine y_mask <| x_iload rfl <| x_i2b <| x_istore rfl <| x_iload rfl <| x_istore rfl <| y_mask <| y_goto ?_
  obtain ⟨e1y, hw2, h⟩ := of_bind h
  refine jWP.intro (pr := pJ1_indexOfChar_4cfef) (pc := 7) ?_
  refine jwh_use2 (G := (fun s0 => pJ1_indexOfChar_4cfef (jEv jtab (d + 0), jWP (jEv jtab (d + 0)) Q ((Sh0 n).length, jsl (Sh0 n)) pJ1_indexOfChar_4cfef, Q, ((Sh0 n).length, jsl (Sh0 n))) 7 [some (.ref 13), none, none, some (.int l3), some (.int l1.toInt8.toInt32), some (.int s0)] [] (Sh0 n, A, L))) (Gx := (fun s0 => pJ1_indexOfChar_4cfef (jEv jtab (d + 0), jWP (jEv jtab (d + 0)) Q ((Sh0 n).length, jsl (Sh0 n)) pJ1_indexOfChar_4cfef, Q, ((Sh0 n).length, jsl (Sh0 n))) 31 [none, none, none, none, none, none] [] (Sh0 n, A, L))) (Gr := (fun s0 => Q (some (.int s0)) (Sh0 n, A, L))) (fun s1 z1 hz kk1 kk2 kk3 => tcJ1_indexOfChar_4cfef_7 d n A L l3 l1.toInt8.toInt32 s1 hz kk1 kk2 kk3) hw2 ?_ ?_
  · intro e1 hy
    subst hy
    replace h : (some (-1 : Int32)) = some z := h
    refine y_mpri (bs := []) (ls := []) ?_
    obtain rfl := Option.some.inj h
    exact k3
  · intro s0 hy
    subst hy
    replace h : some s0 = some z := h
    obtain rfl := Option.some.inj h
    exact k3
theorem kJ1_indexOfChar_4cfef (d n : Nat) (A : Nat → Nat → Int32) (L : Nat → Nat → Int64) (l1 : Int32) (l2 : Int32) (l3 : Int32) {z : Int32} (h : fJ1_indexOfChar_4cfef A l1 l2 l3 = some z) : jEv jtab (d + 1) 271 [.ref 13, .int l1, .int l2, .int l3] (Sh0 n, A, L) 0 0 (fun r M2 => r = some (.int z) ∧ M2 = (Sh0 n, A, L)) :=
  jEv.mk (mt := mJ1_indexOfChar_4cfef) rfl (Nat.le_of_ble_eq_true rfl) (jWP.intro (pr := pJ1_indexOfChar_4cfef) (pc := 0) (tfJ1_indexOfChar_4cfef d n A L l1 l2 l3 h ⟨trivial, jCn.mk ⟨rfl, rfl⟩⟩))
set_option maxRecDepth 20000 in
theorem tfJ1_indexOf_4cfef (d n : Nat) (A : Nat → Nat → Int32) (L : Nat → Nat → Int64) (l1 : Int32) (l2 : Int32) (l3 : Int32) {Q : Option Value → jM → Prop} {z : Int32} (h : fJ1_indexOf_4cfef A l1 l2 l3 = some z) (k3 : Q (some (.int z)) (Sh0 n, A, L)) : pJ1_indexOf_4cfef (jEv jtab (d + 1), jWP (jEv jtab (d + 1)) Q ((Sh0 n).length, jsl (Sh0 n)) pJ1_indexOf_4cfef, Q, ((Sh0 n).length, jsl (Sh0 n))) 0 [some (.ref 13), some (.int l1), some (.int l2), some (.int l3)] [] (Sh0 n, A, L) := by
  unfold fJ1_indexOf_4cfef at h
  refine y_mask <| x_iload rfl <| y_invS1 (Nat.le_of_ble_eq_true rfl) <| jEv.exZ (q := 269) rfl (kJ1_canEncode_9a6ad _ _ _ _ _) <| fun hz1 => y_if_ne (fun h2 => ?_) (fun h2 => ?_)
  · replace h := of_neg h h2
    refine jWP.intro (pr := pJ1_indexOf_4cfef) (pc := 9) ?_
    refine y_mask <| x_iload rfl <| x_push <| y_mmax (Nat.le_of_ble_eq_true rfl) <| x_istore rfl <| x_iload rfl <| x_aload rfl <| x_alen rfl (by simp) <| y_mmin (Nat.le_of_ble_eq_true rfl) <| x_istore rfl <| x_iload rfl <| x_iload rfl <| y_cmp_lt (fun h3 => ?_) (fun h3 => ?_)
    · replace h := of_pos h h3
      refine jWP.intro (pr := pJ1_indexOf_4cfef) (pc := 29) ?_
      obtain ⟨r4, hc5, h⟩ := of_bind h
      refine y_mask <| x_aload rfl <| x_iload rfl <| x_iload rfl <| x_iload rfl <| y_invS4 (Nat.le_of_ble_eq_true rfl) <| jEv.exI (kJ1_indexOfChar_4cfef _ _ _ _ _ _ _ hc5) <| y_ireturn (ls := [some (.ref 13), some (.int l1), some (.int (jmax l2 (0 : Int32))), some (.int (jmin l3 (Int32.ofNat 8)))]) ?_
      obtain rfl := Option.some.inj h
      exact k3
    · replace h := of_neg h h3
      refine jWP.intro (pr := pJ1_indexOf_4cfef) (pc := 27) ?_
      refine y_mpri (bs := []) (ls := []) ?_
      obtain rfl := Option.some.inj h
      exact k3
  · replace h := of_pos h h2
    refine jWP.intro (pr := pJ1_indexOf_4cfef) (pc := 7) ?_
    refine y_mpri (bs := []) (ls := []) ?_
    obtain rfl := Option.some.inj h
    exact k3
theorem kJ1_indexOf_4cfef (d n : Nat) (A : Nat → Nat → Int32) (L : Nat → Nat → Int64) (l1 : Int32) (l2 : Int32) (l3 : Int32) {z : Int32} (h : fJ1_indexOf_4cfef A l1 l2 l3 = some z) : jEv jtab (d + 2) 270 [.ref 13, .int l1, .int l2, .int l3] (Sh0 n, A, L) 0 0 (fun r M2 => r = some (.int z) ∧ M2 = (Sh0 n, A, L)) :=
  jEv.mk (mt := mJ1_indexOf_4cfef) rfl (Nat.le_of_ble_eq_true rfl) (jWP.intro (pr := pJ1_indexOf_4cfef) (pc := 0) (tfJ1_indexOf_4cfef d n A L l1 l2 l3 h ⟨trivial, jCn.mk ⟨rfl, rfl⟩⟩))
set_option maxRecDepth 20000 in
theorem tfJ0_indexOf_7cf53 (d n : Nat) (A : Nat → Nat → Int32) (L : Nat → Nat → Int64) (l1 : Int32) (l2 : Int32) {Q : Option Value → jM → Prop} {z : Int32} (h : fJ0_indexOf_7cf53 A l1 l2 = some z) (k3 : Q (some (.int z)) (Sh0 n, A, L)) : pJ0_indexOf_7cf53 (jEv jtab (d + 2), jWP (jEv jtab (d + 2)) Q ((Sh0 n).length, jsl (Sh0 n)) pJ0_indexOf_7cf53, Q, ((Sh0 n).length, jsl (Sh0 n))) 0 [some (.ref 10), some (.int l1), some (.int l2)] [] (Sh0 n, A, L) := by
  unfold fJ0_indexOf_7cf53 at h
  refine y_mask <| x_aload rfl <| y_invT0 (Nat.le_of_ble_eq_true rfl) rfl (Nat.le_of_ble_eq_true rfl) <| jEv.exZ (q := 266) rfl (kJ0_isLatin1_aae02 _ _ _ _) <| fun hz1 => y_if_eq (fun h2 => ?_) (fun h2 => ?_)
  · replace h := of_pos h h2
    refine jWP.intro (pr := pJ0_indexOf_7cf53) (pc := 23) ?_
    exact absurd h (by simp)
  · replace h := of_neg h h2
    refine jWP.intro (pr := pJ0_indexOf_7cf53) (pc := 7) ?_
    obtain ⟨r3, hc4, h⟩ := of_bind h
    obtain ⟨r5, hc6, h⟩ := of_bind h
    refine y_mask <| x_aload rfl <| x_getS0 (Nat.le_of_ble_eq_true rfl) rfl <| x_iload rfl <| x_iload rfl <| x_aload rfl <| y_invT0 (Nat.le_of_ble_eq_true rfl) rfl (Nat.le_of_ble_eq_true rfl) <| jEv.exI (kJ0_length_8abf5 _ _ _ _ hc4) <| y_invS4 (Nat.le_of_ble_eq_true rfl) <| jEv.exI (kJ1_indexOf_4cfef _ _ _ _ _ _ _ hc6) <| y_mask <| y_goto ?_
    refine jWP.intro (pr := pJ0_indexOf_7cf53) (pc := 36) ?_
    refine y_mri (bs := []) (ls := []) ?_
    obtain rfl := Option.some.inj h
    exact k3
theorem kJ0_indexOf_7cf53 (d n : Nat) (A : Nat → Nat → Int32) (L : Nat → Nat → Int64) (l1 : Int32) (l2 : Int32) {z : Int32} (h : fJ0_indexOf_7cf53 A l1 l2 = some z) : jEv jtab (d + 3) 264 [.ref 10, .int l1, .int l2] (Sh0 n, A, L) 0 0 (fun r M2 => r = some (.int z) ∧ M2 = (Sh0 n, A, L)) :=
  jEv.mk (mt := mJ0_indexOf_7cf53) rfl (Nat.le_of_ble_eq_true rfl) (jWP.intro (pr := pJ0_indexOf_7cf53) (pc := 0) (tfJ0_indexOf_7cf53 d n A L l1 l2 h ⟨trivial, jCn.mk ⟨rfl, rfl⟩⟩))
set_option maxRecDepth 20000 in
theorem tfJ0_indexOf_0f7a4 (d n : Nat) (A : Nat → Nat → Int32) (L : Nat → Nat → Int64) (l1 : Int32) {Q : Option Value → jM → Prop} {z : Int32} (h : fJ0_indexOf_0f7a4 A l1 = some z) (k3 : Q (some (.int z)) (Sh0 n, A, L)) : pJ0_indexOf_0f7a4 (jEv jtab (d + 3), jWP (jEv jtab (d + 3)) Q ((Sh0 n).length, jsl (Sh0 n)) pJ0_indexOf_0f7a4, Q, ((Sh0 n).length, jsl (Sh0 n))) 0 [some (.ref 10), some (.int l1)] [] (Sh0 n, A, L) := by
  unfold fJ0_indexOf_0f7a4 at h
  obtain ⟨r1, hc2, h⟩ := of_bind h
  refine y_mask <| x_aload rfl <| x_iload rfl <| x_push <| y_invT2 (Nat.le_of_ble_eq_true rfl) rfl (Nat.le_of_ble_eq_true rfl) <| jEv.exI (kJ0_indexOf_7cf53 _ _ _ _ _ _ hc2) <| y_ireturn (ls := [some (.ref 10), some (.int l1)]) ?_
  obtain rfl := Option.some.inj h
  exact k3
theorem kJ0_indexOf_0f7a4 (d n : Nat) (A : Nat → Nat → Int32) (L : Nat → Nat → Int64) (l1 : Int32) {z : Int32} (h : fJ0_indexOf_0f7a4 A l1 = some z) : jEv jtab (d + 4) 263 [.ref 10, .int l1] (Sh0 n, A, L) 0 0 (fun r M2 => r = some (.int z) ∧ M2 = (Sh0 n, A, L)) :=
  jEv.mk (mt := mJ0_indexOf_0f7a4) rfl (Nat.le_of_ble_eq_true rfl) (jWP.intro (pr := pJ0_indexOf_0f7a4) (pc := 0) (tfJ0_indexOf_0f7a4 d n A L l1 h ⟨trivial, jCn.mk ⟨rfl, rfl⟩⟩))
set_option maxRecDepth 20000 in
theorem tcX8_numberFrom_16 (d n : Nat) (A : Nat → Nat → Int32) (L : Nat → Nat → Int64) (s : (Int32 × Int32)) {Q : Option Value → jM → Prop} {z : ((Int32 × Int32) ⊕ Int32)} (h : cX8_numberFrom_16 A s = some z) (k1 : ∀ s0, z = .inl s0 → pX8_numberFrom (jEv jtab (d + 0), jWP (jEv jtab (d + 0)) Q ((Sh0 n).length, jsl (Sh0 n)) pX8_numberFrom, Q, ((Sh0 n).length, jsl (Sh0 n))) 16 [some (.ref 22), none, some (.int s0.1), some (.int s0.2)] [] (Sh0 n, A, L)) (k2 : ∀ s0, z = .inr s0 → pX8_numberFrom (jEv jtab (d + 0), jWP (jEv jtab (d + 0)) Q ((Sh0 n).length, jsl (Sh0 n)) pX8_numberFrom, Q, ((Sh0 n).length, jsl (Sh0 n))) 45 [none, none, some (.int s0), none] [] (Sh0 n, A, L)) : pX8_numberFrom (jEv jtab (d + 0), jWP (jEv jtab (d + 0)) Q ((Sh0 n).length, jsl (Sh0 n)) pX8_numberFrom, Q, ((Sh0 n).length, jsl (Sh0 n))) 16 [some (.ref 22), none, some (.int s.1), some (.int s.2)] [] (Sh0 n, A, L) := by
  unfold cX8_numberFrom_16 at h
  refine y_mask <| x_iload rfl <| x_aload rfl <| x_getI (Nat.le_of_ble_eq_true rfl) rfl rfl <| y_cmp_ge (fun h1 => ?_) (fun h1 => ?_)
  · replace h := of_pos h h1
    refine jWP.intro (pr := pX8_numberFrom) (pc := 45) ?_
    have hk := k2 _ (Option.some.inj h).symm
    exact hk
  · replace h := of_neg h h1
    refine jWP.intro (pr := pX8_numberFrom) (pc := 24) ?_
    obtain ⟨g2, h⟩ := of_guard h
    refine y_mask <| x_push <| x_iload rfl <| x_imul <| x_aload rfl <| x_getR (Nat.le_of_ble_eq_true rfl) rfl rfl <| x_iload rfl <| x_iald rfl g2 <| x_iadd <| x_push <| x_isub <| x_istore rfl <| x_iinc rfl rfl <| y_mask <| y_goto ?_
    refine jWP.intro (pr := pX8_numberFrom) (pc := 16) ?_
    have hk := k1 _ (Option.some.inj h).symm
    exact hk
set_option maxRecDepth 20000 in
theorem tfX8_numberFrom (d n : Nat) (A : Nat → Nat → Int32) (L : Nat → Nat → Int64) (l1 : Int32) {Q : Option Value → jM → Prop} {z : Int32} (h : fX8_numberFrom A l1 = some z) (k3 : Q (some (.int z)) (Sh0 n, A, L)) : pX8_numberFrom (jEv jtab (d + 0), jWP (jEv jtab (d + 0)) Q ((Sh0 n).length, jsl (Sh0 n)) pX8_numberFrom, Q, ((Sh0 n).length, jsl (Sh0 n))) 0 [some (.ref 22), some (.int l1), none, none] [] (Sh0 n, A, L) := by
  unfold fX8_numberFrom at h
  refine y_mask <| x_aload rfl <| x_getI (Nat.le_of_ble_eq_true rfl) rfl rfl <| x_iload rfl <| x_isub <| x_push <| y_cmp_le (fun h1 => ?_) (fun h1 => ?_)
  · replace h := of_pos h h1
    refine jWP.intro (pr := pX8_numberFrom) (pc := 12) ?_
    refine y_mask <| x_push <| x_istore rfl <| x_iload rfl <| x_istore rfl <| y_mask <| y_goto ?_
    obtain ⟨e2, hw3, h⟩ := of_bind h
    refine jWP.intro (pr := pX8_numberFrom) (pc := 16) ?_
    refine jwh_use (G := (fun s0 => pX8_numberFrom (jEv jtab (d + 0), jWP (jEv jtab (d + 0)) Q ((Sh0 n).length, jsl (Sh0 n)) pX8_numberFrom, Q, ((Sh0 n).length, jsl (Sh0 n))) 16 [some (.ref 22), none, some (.int s0.1), some (.int s0.2)] [] (Sh0 n, A, L))) (Gx := (fun s0 => pX8_numberFrom (jEv jtab (d + 0), jWP (jEv jtab (d + 0)) Q ((Sh0 n).length, jsl (Sh0 n)) pX8_numberFrom, Q, ((Sh0 n).length, jsl (Sh0 n))) 45 [none, none, some (.int s0), none] [] (Sh0 n, A, L))) (fun s1 z1 hz kk1 kk2 => tcX8_numberFrom_16 d n A L s1 hz kk1 kk2) hw3 ?_
    refine y_mask <| x_push <| x_iload rfl <| x_iadd <| y_ireturn (ls := [none, none, some (.int e2), none]) ?_
    obtain rfl := Option.some.inj h
    exact k3
  · replace h := of_neg h h1
    refine jWP.intro (pr := pX8_numberFrom) (pc := 10) ?_
    refine y_mpri (bs := []) (ls := []) ?_
    obtain rfl := Option.some.inj h
    exact k3
theorem kX8_numberFrom (d n : Nat) (A : Nat → Nat → Int32) (L : Nat → Nat → Int64) (l1 : Int32) {z : Int32} (h : fX8_numberFrom A l1 = some z) : jEv jtab (d + 1) 89 [.ref 22, .int l1] (Sh0 n, A, L) 0 0 (fun r M2 => r = some (.int z) ∧ M2 = (Sh0 n, A, L)) :=
  jEv.mk (mt := mX8_numberFrom) rfl (Nat.le_of_ble_eq_true rfl) (jWP.intro (pr := pX8_numberFrom) (pc := 0) (tfX8_numberFrom d n A L l1 h ⟨trivial, jCn.mk ⟨rfl, rfl⟩⟩))
set_option maxRecDepth 20000 in
theorem tfJ0_coder_7d493_v2 (d n : Nat) (A : Nat → Nat → Int32) (L : Nat → Nat → Int64) {Q : Option Value → jM → Prop} {z : Int32} (h : fJ0_coder_7d493_v2 A = some z) (k3 : (narrow .byte (.int z) = .int z) → Q (some (.int z)) (Sh0 n, A, L)) : pJ0_coder_7d493 (jEv jtab (d + 0), jWP (jEv jtab (d + 0)) Q ((Sh0 n).length, jsl (Sh0 n)) pJ0_coder_7d493, Q, ((Sh0 n).length, jsl (Sh0 n))) 0 [some (.ref 8)] [] (Sh0 n, A, L) := by
  unfold fJ0_coder_7d493_v2 at h
  refine y_mask <| x_push <| y_if_eq (fun h1 => ?_) (fun h1 => ?_)
  · replace h := of_pos h h1
    refine jWP.intro (pr := pJ0_coder_7d493) (pc := 13) ?_
    refine y_mask <| x_push <| y_mask <| y_goto ?_
    refine jWP.intro (pr := pJ0_coder_7d493) (pc := 14) ?_
    refine y_mri (bs := []) (ls := []) ?_
    obtain rfl := Option.some.inj h
    exact k3 rfl
  · replace h := of_neg h h1
    refine jWP.intro (pr := pJ0_coder_7d493) (pc := 6) ?_
    refine y_mask <| x_aload rfl <| x_getS1 (Nat.le_of_ble_eq_true rfl) rfl <| y_mask <| y_goto ?_
    refine jWP.intro (pr := pJ0_coder_7d493) (pc := 14) ?_
    obtain ⟨g2, h⟩ := of_guard h
    refine y_mri (bs := []) (ls := []) ?_
    obtain rfl := Option.some.inj h
    exact k3 (jnar_byte g2)
theorem kJ0_coder_7d493_v2 (d n : Nat) (A : Nat → Nat → Int32) (L : Nat → Nat → Int64) {z : Int32} (h : fJ0_coder_7d493_v2 A = some z) : jEv jtab (d + 1) 265 [.ref 8] (Sh0 n, A, L) 0 0 (fun r M2 => r = some (.int z) ∧ M2 = (Sh0 n, A, L)) :=
  jEv.mk (mt := mJ0_coder_7d493) rfl (Nat.le_of_ble_eq_true rfl) (jWP.intro (pr := pJ0_coder_7d493) (pc := 0) (tfJ0_coder_7d493_v2 d n A L h (fun hz => ⟨hz, jCn.mk ⟨rfl, rfl⟩⟩)))
set_option maxRecDepth 20000 in
theorem tfJ0_length_8abf5_v2 (d n : Nat) (A : Nat → Nat → Int32) (L : Nat → Nat → Int64) {Q : Option Value → jM → Prop} {z : Int32} (h : fJ0_length_8abf5_v2 A = some z) (k3 : Q (some (.int z)) (Sh0 n, A, L)) : pJ0_length_8abf5 (jEv jtab (d + 1), jWP (jEv jtab (d + 1)) Q ((Sh0 n).length, jsl (Sh0 n)) pJ0_length_8abf5, Q, ((Sh0 n).length, jsl (Sh0 n))) 0 [some (.ref 8)] [] (Sh0 n, A, L) := by
  unfold fJ0_length_8abf5_v2 at h
  obtain ⟨r1, hc2, h⟩ := of_bind h
  refine y_mask <| x_aload rfl <| x_getS0 (Nat.le_of_ble_eq_true rfl) rfl <| x_alen rfl (by simp) <| x_aload rfl <| y_invT0 (Nat.le_of_ble_eq_true rfl) rfl (Nat.le_of_ble_eq_true rfl) <| jEv.exZ (q := 265) rfl (kJ0_coder_7d493_v2 _ _ _ _ hc2) <| fun hz3 => x_ishr <| y_ireturn (ls := [some (.ref 8)]) ?_
  obtain rfl := Option.some.inj h
  exact k3
theorem kJ0_length_8abf5_v2 (d n : Nat) (A : Nat → Nat → Int32) (L : Nat → Nat → Int64) {z : Int32} (h : fJ0_length_8abf5_v2 A = some z) : jEv jtab (d + 2) 261 [.ref 8] (Sh0 n, A, L) 0 0 (fun r M2 => r = some (.int z) ∧ M2 = (Sh0 n, A, L)) :=
  jEv.mk (mt := mJ0_length_8abf5) rfl (Nat.le_of_ble_eq_true rfl) (jWP.intro (pr := pJ0_length_8abf5) (pc := 0) (tfJ0_length_8abf5_v2 d n A L h ⟨trivial, jCn.mk ⟨rfl, rfl⟩⟩))
set_option maxRecDepth 20000 in
theorem tfJ0_isLatin1_aae02_v2 (d n : Nat) (A : Nat → Nat → Int32) (L : Nat → Nat → Int64) {Q : Option Value → jM → Prop} {z : Int32} (h : fJ0_isLatin1_aae02_v2 A = z) (k3 : (narrow .boolean (.int z) = .int z) → Q (some (.int z)) (Sh0 n, A, L)) : pJ0_isLatin1_aae02 (jEv jtab (d + 0), jWP (jEv jtab (d + 0)) Q ((Sh0 n).length, jsl (Sh0 n)) pJ0_isLatin1_aae02, Q, ((Sh0 n).length, jsl (Sh0 n))) 0 [some (.ref 8)] [] (Sh0 n, A, L) := by
  unfold fJ0_isLatin1_aae02_v2 at h
  refine y_mask <| x_push <| y_if_eq (fun h1 => ?_) (fun h1 => ?_)
  · replace h := of_pos h h1
    refine jWP.intro (pr := pJ0_isLatin1_aae02) (pc := 17) ?_
    refine y_mask <| x_push <| y_mask <| y_goto ?_
    refine jWP.intro (pr := pJ0_isLatin1_aae02) (pc := 18) ?_
    refine y_mri (bs := []) (ls := []) ?_
    subst h
    exact k3 (jnar_boolean (.inl rfl))
  · replace h := of_neg h h1
    refine jWP.intro (pr := pJ0_isLatin1_aae02) (pc := 6) ?_
    refine y_mask <| x_aload rfl <| x_getS1 (Nat.le_of_ble_eq_true rfl) rfl <| y_if_ne (fun h2 => ?_) (fun h2 => ?_)
    · replace h := of_neg h h2
      refine jWP.intro (pr := pJ0_isLatin1_aae02) (pc := 17) ?_
      refine y_mask <| x_push <| y_mask <| y_goto ?_
      refine jWP.intro (pr := pJ0_isLatin1_aae02) (pc := 18) ?_
      refine y_mri (bs := []) (ls := []) ?_
      subst h
      exact k3 (jnar_boolean (.inl rfl))
    · replace h := of_pos h h2
      refine jWP.intro (pr := pJ0_isLatin1_aae02) (pc := 13) ?_
      refine y_mask <| x_push <| y_mask <| y_goto ?_
      refine jWP.intro (pr := pJ0_isLatin1_aae02) (pc := 18) ?_
      refine y_mri (bs := []) (ls := []) ?_
      subst h
      exact k3 (jnar_boolean (.inr rfl))
theorem kJ0_isLatin1_aae02_v2 (d n : Nat) (A : Nat → Nat → Int32) (L : Nat → Nat → Int64) : jEv jtab (d + 1) 266 [.ref 8] (Sh0 n, A, L) 0 0 (fun r M2 => r = some (.int (fJ0_isLatin1_aae02_v2 A)) ∧ M2 = (Sh0 n, A, L)) :=
  jEv.mk (mt := mJ0_isLatin1_aae02) rfl (Nat.le_of_ble_eq_true rfl) (jWP.intro (pr := pJ0_isLatin1_aae02) (pc := 0) (tfJ0_isLatin1_aae02_v2 d n A L rfl (fun hz => ⟨hz, jCn.mk ⟨rfl, rfl⟩⟩)))
set_option maxRecDepth 20000 in
theorem tfJ3_checkIndex_8e157 (d n : Nat) (A : Nat → Nat → Int32) (L : Nat → Nat → Int64) (l0 : Int32) (l1 : Int32) {Q : Option Value → jM → Prop} {z : Int32} (h : fJ3_checkIndex_8e157 l0 l1 = some z) (k3 : Q (some (.int z)) (Sh0 n, A, L)) : pJ3_checkIndex_8e157 (jEv jtab (d + 0), jWP (jEv jtab (d + 0)) Q ((Sh0 n).length, jsl (Sh0 n)) pJ3_checkIndex_8e157, Q, ((Sh0 n).length, jsl (Sh0 n))) 0 [some (.int l0), some (.int l1), some (.null)] [] (Sh0 n, A, L) := by
  unfold fJ3_checkIndex_8e157 at h
  refine y_mask <| x_iload rfl <| y_if_lt (fun h1 => ?_) (fun h1 => ?_)
  · replace h := of_pos h h1
    refine jWP.intro (pr := pJ3_checkIndex_8e157) (pc := 9) ?_
    exact absurd h (by simp)
  · replace h := of_neg h h1
    refine jWP.intro (pr := pJ3_checkIndex_8e157) (pc := 4) ?_
    refine y_mask <| x_iload rfl <| x_iload rfl <| y_cmp_lt (fun h2 => ?_) (fun h2 => ?_)
    · replace h := of_pos h h2
      refine jWP.intro (pr := pJ3_checkIndex_8e157) (pc := 16) ?_
      refine y_mask <| x_iload rfl <| y_ireturn (ls := [some (.int l0), none, none]) ?_
      obtain rfl := Option.some.inj h
      exact k3
    · replace h := of_neg h h2
      refine jWP.intro (pr := pJ3_checkIndex_8e157) (pc := 9) ?_
      exact absurd h (by simp)
theorem kJ3_checkIndex_8e157 (d n : Nat) (A : Nat → Nat → Int32) (L : Nat → Nat → Int64) (l0 : Int32) (l1 : Int32) {z : Int32} (h : fJ3_checkIndex_8e157 l0 l1 = some z) : jEv jtab (d + 1) 272 [.int l0, .int l1, .null] (Sh0 n, A, L) 0 0 (fun r M2 => r = some (.int z) ∧ M2 = (Sh0 n, A, L)) :=
  jEv.mk (mt := mJ3_checkIndex_8e157) rfl (Nat.le_of_ble_eq_true rfl) (jWP.intro (pr := pJ3_checkIndex_8e157) (pc := 0) (tfJ3_checkIndex_8e157 d n A L l0 l1 h ⟨trivial, jCn.mk ⟨rfl, rfl⟩⟩))
set_option maxRecDepth 20000 in
theorem tfJ3_checkIndex_8e157_v2 (d n : Nat) (A : Nat → Nat → Int32) (L : Nat → Nat → Int64) (l0 : Int32) (l1 : Int32) {Q : Option Value → jM → Prop} {z : Int32} (h : fJ3_checkIndex_8e157_v2 l0 l1 = some z) (k3 : Q (some (.int z)) (Sh0 n, A, L)) : pJ3_checkIndex_8e157 (jEv jtab (d + 0), jWP (jEv jtab (d + 0)) Q ((Sh0 n).length, jsl (Sh0 n)) pJ3_checkIndex_8e157, Q, ((Sh0 n).length, jsl (Sh0 n))) 0 [some (.int l0), some (.int l1), some (.ref 14)] [] (Sh0 n, A, L) := by
  unfold fJ3_checkIndex_8e157_v2 at h
  refine y_mask <| x_iload rfl <| y_if_lt (fun h1 => ?_) (fun h1 => ?_)
  · replace h := of_pos h h1
    refine jWP.intro (pr := pJ3_checkIndex_8e157) (pc := 9) ?_
    exact absurd h (by simp)
  · replace h := of_neg h h1
    refine jWP.intro (pr := pJ3_checkIndex_8e157) (pc := 4) ?_
    refine y_mask <| x_iload rfl <| x_iload rfl <| y_cmp_lt (fun h2 => ?_) (fun h2 => ?_)
    · replace h := of_pos h h2
      refine jWP.intro (pr := pJ3_checkIndex_8e157) (pc := 16) ?_
      refine y_mask <| x_iload rfl <| y_ireturn (ls := [some (.int l0), none, none]) ?_
      obtain rfl := Option.some.inj h
      exact k3
    · replace h := of_neg h h2
      refine jWP.intro (pr := pJ3_checkIndex_8e157) (pc := 9) ?_
      exact absurd h (by simp)
theorem kJ3_checkIndex_8e157_v2 (d n : Nat) (A : Nat → Nat → Int32) (L : Nat → Nat → Int64) (l0 : Int32) (l1 : Int32) {z : Int32} (h : fJ3_checkIndex_8e157_v2 l0 l1 = some z) : jEv jtab (d + 1) 272 [.int l0, .int l1, .ref 14] (Sh0 n, A, L) 0 0 (fun r M2 => r = some (.int z) ∧ M2 = (Sh0 n, A, L)) :=
  jEv.mk (mt := mJ3_checkIndex_8e157) rfl (Nat.le_of_ble_eq_true rfl) (jWP.intro (pr := pJ3_checkIndex_8e157) (pc := 0) (tfJ3_checkIndex_8e157_v2 d n A L l0 l1 h ⟨trivial, jCn.mk ⟨rfl, rfl⟩⟩))
set_option maxRecDepth 20000 in
theorem tfJ0_checkIndex_df160 (d n : Nat) (A : Nat → Nat → Int32) (L : Nat → Nat → Int64) (l0 : Int32) (l1 : Int32) {Q : Option Value → jM → Prop} {z : Unit} (h : fJ0_checkIndex_df160 l0 l1 = some z) (k3 : Q (none) (Sh0 n, A, L)) : pJ0_checkIndex_df160 (jEv jtab (d + 1), jWP (jEv jtab (d + 1)) Q ((Sh0 n).length, jsl (Sh0 n)) pJ0_checkIndex_df160, Q, ((Sh0 n).length, jsl (Sh0 n))) 0 [some (.int l0), some (.int l1)] [] (Sh0 n, A, L) := by
  unfold fJ0_checkIndex_df160 at h
  refine y_mask <| x_iload rfl <| x_iload rfl <| x_fmt ?_ ?_
  · obtain ⟨r1, hc2, h⟩ := of_bind h
    refine y_invS3 (Nat.le_of_ble_eq_true rfl) <| jEv.exI (kJ3_checkIndex_8e157 _ _ _ _ _ _ hc2) <| x_pop rfl <| y_return (ls := [some (.int l0), some (.int l1)]) ?_
    obtain rfl := Option.some.inj h
    exact k3
  · obtain ⟨r1, hc2, h⟩ := of_bind h
    refine y_invS3 (Nat.le_of_ble_eq_true rfl) <| jEv.exI (kJ3_checkIndex_8e157_v2 _ _ _ _ _ _ hc2) <| x_pop rfl <| y_return (ls := [some (.int l0), some (.int l1)]) ?_
    obtain rfl := Option.some.inj h
    exact k3
theorem kJ0_checkIndex_df160 (d n : Nat) (A : Nat → Nat → Int32) (L : Nat → Nat → Int64) (l0 : Int32) (l1 : Int32) {z : Unit} (h : fJ0_checkIndex_df160 l0 l1 = some z) : jEv jtab (d + 2) 267 [.int l0, .int l1] (Sh0 n, A, L) 0 0 (fun r M2 => r = none ∧ M2 = (Sh0 n, A, L)) :=
  jEv.mk (mt := mJ0_checkIndex_df160) rfl (Nat.le_of_ble_eq_true rfl) (jWP.intro (pr := pJ0_checkIndex_df160) (pc := 0) (tfJ0_checkIndex_df160 d n A L l0 l1 h ⟨trivial, jCn.mk ⟨rfl, rfl⟩⟩))
set_option maxRecDepth 20000 in
theorem tfJ1_charAt_3b067 (d n : Nat) (A : Nat → Nat → Int32) (L : Nat → Nat → Int64) (l1 : Int32) {Q : Option Value → jM → Prop} {z : Int32} (h : fJ1_charAt_3b067 A l1 = some z) (k3 : (narrow .char (.int z) = .int z) → Q (some (.int z)) (Sh0 n, A, L)) : pJ1_charAt_3b067 (jEv jtab (d + 2), jWP (jEv jtab (d + 2)) Q ((Sh0 n).length, jsl (Sh0 n)) pJ1_charAt_3b067, Q, ((Sh0 n).length, jsl (Sh0 n))) 0 [some (.ref 11), some (.int l1)] [] (Sh0 n, A, L) := by
  unfold fJ1_charAt_3b067 at h
  obtain ⟨r1, hc2, h⟩ := of_bind h
  obtain ⟨g3, h⟩ := of_guard h
  refine y_mask <| x_iload rfl <| x_aload rfl <| x_alen rfl (by simp) <| y_invS2 (Nat.le_of_ble_eq_true rfl) <| jEv.exV (kJ0_checkIndex_df160 _ _ _ _ _ _ hc2) <| x_aload rfl <| x_iload rfl <| x_bald rfl g3 <| x_push <| x_iand <| x_i2c <| y_ireturn (ls := [some (.ref 11), some (.int l1)]) ?_
  obtain rfl := Option.some.inj h
  exact k3 (jchr_ok _)
theorem kJ1_charAt_3b067 (d n : Nat) (A : Nat → Nat → Int32) (L : Nat → Nat → Int64) (l1 : Int32) {z : Int32} (h : fJ1_charAt_3b067 A l1 = some z) : jEv jtab (d + 3) 268 [.ref 11, .int l1] (Sh0 n, A, L) 0 0 (fun r M2 => r = some (.int z) ∧ M2 = (Sh0 n, A, L)) :=
  jEv.mk (mt := mJ1_charAt_3b067) rfl (Nat.le_of_ble_eq_true rfl) (jWP.intro (pr := pJ1_charAt_3b067) (pc := 0) (tfJ1_charAt_3b067 d n A L l1 h (fun hz => ⟨hz, jCn.mk ⟨rfl, rfl⟩⟩)))
set_option maxRecDepth 20000 in
theorem tfJ0_charAt_5068e (d n : Nat) (A : Nat → Nat → Int32) (L : Nat → Nat → Int64) (l1 : Int32) {Q : Option Value → jM → Prop} {z : Int32} (h : fJ0_charAt_5068e A l1 = some z) (k3 : (narrow .char (.int z) = .int z) → Q (some (.int z)) (Sh0 n, A, L)) : pJ0_charAt_5068e (jEv jtab (d + 3), jWP (jEv jtab (d + 3)) Q ((Sh0 n).length, jsl (Sh0 n)) pJ0_charAt_5068e, Q, ((Sh0 n).length, jsl (Sh0 n))) 0 [some (.ref 8), some (.int l1)] [] (Sh0 n, A, L) := by
  unfold fJ0_charAt_5068e at h
  refine y_mask <| x_aload rfl <| y_invT0 (Nat.le_of_ble_eq_true rfl) rfl (Nat.le_of_ble_eq_true rfl) <| jEv.exZ (q := 266) rfl (kJ0_isLatin1_aae02_v2 _ _ _ _) <| fun hz1 => y_if_eq (fun h2 => ?_) (fun h2 => ?_)
  · replace h := of_pos h h2
    refine jWP.intro (pr := pJ0_charAt_5068e) (pc := 16) ?_
    exact absurd h (by simp)
  · replace h := of_neg h h2
    refine jWP.intro (pr := pJ0_charAt_5068e) (pc := 7) ?_
    obtain ⟨r3, hc4, h⟩ := of_bind h
    refine y_mask <| x_aload rfl <| x_getS0 (Nat.le_of_ble_eq_true rfl) rfl <| x_iload rfl <| y_invS2 (Nat.le_of_ble_eq_true rfl) <| jEv.exZ (q := 268) rfl (kJ1_charAt_3b067 _ _ _ _ _ hc4) <| fun hz5 => y_ireturn (ls := [some (.ref 8), some (.int l1)]) ?_
    obtain rfl := Option.some.inj h
    exact k3 hz5
theorem kJ0_charAt_5068e (d n : Nat) (A : Nat → Nat → Int32) (L : Nat → Nat → Int64) (l1 : Int32) {z : Int32} (h : fJ0_charAt_5068e A l1 = some z) : jEv jtab (d + 4) 262 [.ref 8, .int l1] (Sh0 n, A, L) 0 0 (fun r M2 => r = some (.int z) ∧ M2 = (Sh0 n, A, L)) :=
  jEv.mk (mt := mJ0_charAt_5068e) rfl (Nat.le_of_ble_eq_true rfl) (jWP.intro (pr := pJ0_charAt_5068e) (pc := 0) (tfJ0_charAt_5068e d n A L l1 h (fun hz => ⟨hz, jCn.mk ⟨rfl, rfl⟩⟩)))
set_option maxRecDepth 20000 in
theorem tcX8_isSpelt_3 (d n : Nat) (A : Nat → Nat → Int32) (L : Nat → Nat → Int64) (l2 : Int32) (l3 : Int32) (s : Int32) {Q : Option Value → jM → Prop} {z : (Int32 ⊕ (Unit ⊕ Int32))} (h : cX8_isSpelt_3 A l2 l3 s = some z) (k1 : ∀ s0, z = .inl s0 → pX8_isSpelt (jEv jtab (d + 4), jWP (jEv jtab (d + 4)) Q ((Sh0 n).length, jsl (Sh0 n)) pX8_isSpelt, Q, ((Sh0 n).length, jsl (Sh0 n))) 3 [some (.ref 22), some (.ref 8), some (.int l2), some (.int l3), some (.int s0)] [] (Sh0 n, A, L)) (k2 : ∀ s0, z = .inr (.inl s0) → pX8_isSpelt (jEv jtab (d + 4), jWP (jEv jtab (d + 4)) Q ((Sh0 n).length, jsl (Sh0 n)) pX8_isSpelt, Q, ((Sh0 n).length, jsl (Sh0 n))) 40 [none, none, none, none, none] [] (Sh0 n, A, L)) (k3 : ∀ s0, z = .inr (.inr s0) → (narrow .boolean (.int s0) = .int s0) → Q (some (.int s0)) (Sh0 n, A, L)) : pX8_isSpelt (jEv jtab (d + 4), jWP (jEv jtab (d + 4)) Q ((Sh0 n).length, jsl (Sh0 n)) pX8_isSpelt, Q, ((Sh0 n).length, jsl (Sh0 n))) 3 [some (.ref 22), some (.ref 8), some (.int l2), some (.int l3), some (.int s)] [] (Sh0 n, A, L) := by
  unfold cX8_isSpelt_3 at h
  refine y_mask <| x_iload rfl <| x_aload rfl <| x_getI (Nat.le_of_ble_eq_true rfl) rfl rfl <| y_cmp_ge (fun h1 => ?_) (fun h1 => ?_)
  · replace h := of_pos h h1
    refine jWP.intro (pr := pX8_isSpelt) (pc := 40) ?_
    have hk := k2 _ (Option.some.inj h).symm
    exact hk
  · replace h := of_neg h h1
    refine jWP.intro (pr := pX8_isSpelt) (pc := 12) ?_
    obtain ⟨g2, h⟩ := of_guard h
    obtain ⟨r3, hc4, h⟩ := of_bind h
    refine y_mask <| x_aload rfl <| x_getR (Nat.le_of_ble_eq_true rfl) rfl rfl <| x_iload rfl <| x_iald rfl g2 <| x_aload rfl <| x_iload rfl <| x_iload rfl <| x_iadd <| x_iload rfl <| x_isub <| y_invT1 (Nat.le_of_ble_eq_true rfl) rfl (Nat.le_of_ble_eq_true rfl) <| jEv.exZ (q := 262) rfl (kJ0_charAt_5068e _ _ _ _ _ hc4) <| fun hz5 => y_cmp_eq (fun h6 => ?_) (fun h6 => ?_)
    · replace h := of_pos h h6
      refine jWP.intro (pr := pX8_isSpelt) (pc := 34) ?_
      refine y_mask <| x_iinc rfl rfl <| y_mask <| y_goto ?_
      refine jWP.intro (pr := pX8_isSpelt) (pc := 3) ?_
      have hk := k1 _ (Option.some.inj h).symm
      exact hk
    · replace h := of_neg h h6
      refine jWP.intro (pr := pX8_isSpelt) (pc := 32) ?_
      refine y_mpri (bs := []) (ls := []) ?_
      have hk := k3 _ (Option.some.inj h).symm
      exact hk (jnar_boolean (.inl rfl))
set_option maxRecDepth 20000 in
theorem tfX8_isSpelt (d n : Nat) (A : Nat → Nat → Int32) (L : Nat → Nat → Int64) (l2 : Int32) (l3 : Int32) {Q : Option Value → jM → Prop} {z : Int32} (h : fX8_isSpelt A l2 l3 = some z) (k3 : (narrow .boolean (.int z) = .int z) → Q (some (.int z)) (Sh0 n, A, L)) : pX8_isSpelt (jEv jtab (d + 4), jWP (jEv jtab (d + 4)) Q ((Sh0 n).length, jsl (Sh0 n)) pX8_isSpelt, Q, ((Sh0 n).length, jsl (Sh0 n))) 0 [some (.ref 22), some (.ref 8), some (.int l2), some (.int l3), none] [] (Sh0 n, A, L) := by
  unfold fX8_isSpelt at h
  refine y_mask <| x_iload rfl <| x_istore rfl <| y_mask <| y_goto ?_
  obtain ⟨e1y, hw2, h⟩ := of_bind h
  refine jWP.intro (pr := pX8_isSpelt) (pc := 3) ?_
  refine jwh_use2 (G := (fun s0 => pX8_isSpelt (jEv jtab (d + 4), jWP (jEv jtab (d + 4)) Q ((Sh0 n).length, jsl (Sh0 n)) pX8_isSpelt, Q, ((Sh0 n).length, jsl (Sh0 n))) 3 [some (.ref 22), some (.ref 8), some (.int l2), some (.int l3), some (.int s0)] [] (Sh0 n, A, L))) (Gx := (fun s0 => pX8_isSpelt (jEv jtab (d + 4), jWP (jEv jtab (d + 4)) Q ((Sh0 n).length, jsl (Sh0 n)) pX8_isSpelt, Q, ((Sh0 n).length, jsl (Sh0 n))) 40 [none, none, none, none, none] [] (Sh0 n, A, L))) (Gr := (fun s0 => (narrow .boolean (.int s0) = .int s0) → Q (some (.int s0)) (Sh0 n, A, L))) (fun s1 z1 hz kk1 kk2 kk3 => tcX8_isSpelt_3 d n A L l2 l3 s1 hz kk1 kk2 kk3) hw2 ?_ ?_
  · intro e1 hy
    subst hy
    replace h : (some (1 : Int32)) = some z := h
    refine y_mpri (bs := []) (ls := []) ?_
    obtain rfl := Option.some.inj h
    exact k3 (jnar_boolean (.inr rfl))
  · intro s0 hy
    subst hy
    replace h : some s0 = some z := h
    obtain rfl := Option.some.inj h
    exact k3
theorem kX8_isSpelt (d n : Nat) (A : Nat → Nat → Int32) (L : Nat → Nat → Int64) (l2 : Int32) (l3 : Int32) {z : Int32} (h : fX8_isSpelt A l2 l3 = some z) : jEv jtab (d + 5) 91 [.ref 22, .ref 8, .int l2, .int l3] (Sh0 n, A, L) 0 0 (fun r M2 => r = some (.int z) ∧ M2 = (Sh0 n, A, L)) :=
  jEv.mk (mt := mX8_isSpelt) rfl (Nat.le_of_ble_eq_true rfl) (jWP.intro (pr := pX8_isSpelt) (pc := 0) (tfX8_isSpelt d n A L l2 l3 h (fun hz => ⟨hz, jCn.mk ⟨rfl, rfl⟩⟩)))
set_option maxRecDepth 20000 in
theorem tjX8_numberIn_55_8 (d n : Nat) (A : Nat → Nat → Int32) (L : Nat → Nat → Int64) (l2 : Int32) (l3 : Int32) (l5 : Int32) {Q : Option Value → jM → Prop} {z : ((Int32 × Int32 × Int32) ⊕ (Unit ⊕ Int32))} (h : jX8_numberIn_55_8 A l2 l3 l5 = some z) (k1 : ∀ s0, z = .inl s0 → pX8_numberIn (jEv jtab (d + 5), jWP (jEv jtab (d + 5)) Q ((Sh0 n).length, jsl (Sh0 n)) pX8_numberIn, Q, ((Sh0 n).length, jsl (Sh0 n))) 8 [some (.ref 22), some (.ref 8), some (.int l2), some (.int s0.1), some (.int s0.2.1), some (.int s0.2.2)] [] (Sh0 n, A, L)) (k2 : ∀ s0, z = .inr (.inl s0) → pX8_numberIn (jEv jtab (d + 5), jWP (jEv jtab (d + 5)) Q ((Sh0 n).length, jsl (Sh0 n)) pX8_numberIn, Q, ((Sh0 n).length, jsl (Sh0 n))) 70 [none, none, none, none, none, none] [] (Sh0 n, A, L)) (k3 : ∀ s0, z = .inr (.inr s0) → Q (some (.int s0)) (Sh0 n, A, L)) : pX8_numberIn (jEv jtab (d + 5), jWP (jEv jtab (d + 5)) Q ((Sh0 n).length, jsl (Sh0 n)) pX8_numberIn, Q, ((Sh0 n).length, jsl (Sh0 n))) 55 [some (.ref 22), some (.ref 8), some (.int l2), some (.int l3), none, some (.int l5)] [] (Sh0 n, A, L) := by
  unfold jX8_numberIn_55_8 at h
  refine y_mask <| x_iinc rfl rfl <| x_iload rfl <| x_push <| x_iadd <| x_istore rfl <| y_mask <| y_goto ?_
  refine jWP.intro (pr := pX8_numberIn) (pc := 64) ?_
  refine y_mask <| x_iinc rfl rfl <| y_mask <| y_goto ?_
  refine jWP.intro (pr := pX8_numberIn) (pc := 8) ?_
  have hk := k1 _ (Option.some.inj h).symm
  exact hk
set_option maxRecDepth 20000 in
theorem tcX8_numberIn_8 (d n : Nat) (A : Nat → Nat → Int32) (L : Nat → Nat → Int64) (l2 : Int32) (s : (Int32 × Int32 × Int32)) {Q : Option Value → jM → Prop} {z : ((Int32 × Int32 × Int32) ⊕ (Unit ⊕ Int32))} (h : cX8_numberIn_8 A l2 s = some z) (k1 : ∀ s0, z = .inl s0 → pX8_numberIn (jEv jtab (d + 5), jWP (jEv jtab (d + 5)) Q ((Sh0 n).length, jsl (Sh0 n)) pX8_numberIn, Q, ((Sh0 n).length, jsl (Sh0 n))) 8 [some (.ref 22), some (.ref 8), some (.int l2), some (.int s0.1), some (.int s0.2.1), some (.int s0.2.2)] [] (Sh0 n, A, L)) (k2 : ∀ s0, z = .inr (.inl s0) → pX8_numberIn (jEv jtab (d + 5), jWP (jEv jtab (d + 5)) Q ((Sh0 n).length, jsl (Sh0 n)) pX8_numberIn, Q, ((Sh0 n).length, jsl (Sh0 n))) 70 [none, none, none, none, none, none] [] (Sh0 n, A, L)) (k3 : ∀ s0, z = .inr (.inr s0) → Q (some (.int s0)) (Sh0 n, A, L)) : pX8_numberIn (jEv jtab (d + 5), jWP (jEv jtab (d + 5)) Q ((Sh0 n).length, jsl (Sh0 n)) pX8_numberIn, Q, ((Sh0 n).length, jsl (Sh0 n))) 8 [some (.ref 22), some (.ref 8), some (.int l2), some (.int s.1), some (.int s.2.1), some (.int s.2.2)] [] (Sh0 n, A, L) := by
  unfold cX8_numberIn_8 at h
  obtain ⟨r1, hc2, h⟩ := of_bind h
  refine y_mask <| x_iload rfl <| x_aload rfl <| y_invT0 (Nat.le_of_ble_eq_true rfl) rfl (Nat.le_of_ble_eq_true rfl) <| jEv.exI (kJ0_length_8abf5_v2 _ _ _ _ hc2) <| y_cmp_ge (fun h3 => ?_) (fun h3 => ?_)
  · replace h := of_pos h h3
    refine jWP.intro (pr := pX8_numberIn) (pc := 70) ?_
    have hk := k2 _ (Option.some.inj h).symm
    exact hk
  · replace h := of_neg h h3
    refine jWP.intro (pr := pX8_numberIn) (pc := 17) ?_
    obtain ⟨r4, hc5, h⟩ := of_bind h
    refine y_mask <| x_aload rfl <| x_iload rfl <| y_invT1 (Nat.le_of_ble_eq_true rfl) rfl (Nat.le_of_ble_eq_true rfl) <| jEv.exZ (q := 262) rfl (kJ0_charAt_5068e _ _ _ _ _ hc5) <| fun hz6 => x_push <| y_cmp_ne (fun h7 => ?_) (fun h7 => ?_)
    · replace h := of_neg h h7
      refine jWP.intro (pr := pX8_numberIn) (pc := 64) ?_
      refine y_mask <| x_iinc rfl rfl <| y_mask <| y_goto ?_
      refine jWP.intro (pr := pX8_numberIn) (pc := 8) ?_
      have hk := k1 _ (Option.some.inj h).symm
      exact hk
    · replace h := of_pos h h7
      refine jWP.intro (pr := pX8_numberIn) (pc := 28) ?_
      refine y_mask <| x_iload rfl <| x_iload rfl <| x_isub <| x_aload rfl <| x_getI (Nat.le_of_ble_eq_true rfl) rfl rfl <| x_iload rfl <| x_isub <| y_cmp_ne (fun h8 => ?_) (fun h8 => ?_)
      · replace h := of_neg h h8
        refine jWP.intro (pr := pX8_numberIn) (pc := 55) ?_
        exact tjX8_numberIn_55_8 d n A L l2 s.1 s.2.2 h k1 k2 k3
      · replace h := of_pos h h8
        refine jWP.intro (pr := pX8_numberIn) (pc := 42) ?_
        obtain ⟨r9, hc10, h⟩ := of_bind h
        refine y_mask <| x_aload rfl <| x_aload rfl <| x_iload rfl <| x_iload rfl <| y_invV3 (Nat.le_of_ble_eq_true rfl) rfl (Nat.le_of_ble_eq_true rfl) <| jEv.exZ (q := 91) rfl (kX8_isSpelt _ _ _ _ _ _ hc10) <| fun hz11 => y_if_eq (fun h12 => ?_) (fun h12 => ?_)
        · replace h := of_pos h h12
          refine jWP.intro (pr := pX8_numberIn) (pc := 55) ?_
          exact tjX8_numberIn_55_8 d n A L l2 s.1 s.2.2 h k1 k2 k3
        · replace h := of_neg h h12
          refine jWP.intro (pr := pX8_numberIn) (pc := 53) ?_
          refine y_mask <| x_iload rfl <| y_ireturn (ls := [none, none, none, some (.int s.1), none, none]) ?_
          have hk := k3 _ (Option.some.inj h).symm
          exact hk
set_option maxRecDepth 20000 in
theorem tfX8_numberIn (d n : Nat) (A : Nat → Nat → Int32) (L : Nat → Nat → Int64) (l2 : Int32) {Q : Option Value → jM → Prop} {z : Int32} (h : fX8_numberIn A l2 = some z) (k3 : Q (some (.int z)) (Sh0 n, A, L)) : pX8_numberIn (jEv jtab (d + 5), jWP (jEv jtab (d + 5)) Q ((Sh0 n).length, jsl (Sh0 n)) pX8_numberIn, Q, ((Sh0 n).length, jsl (Sh0 n))) 0 [some (.ref 22), some (.ref 8), some (.int l2), none, none, none] [] (Sh0 n, A, L) := by
  unfold fX8_numberIn at h
  refine y_mask <| x_push <| x_istore rfl <| x_push <| x_istore rfl <| x_push <| x_istore rfl <| y_mask <| y_goto ?_
  obtain ⟨e1y, hw2, h⟩ := of_bind h
  refine jWP.intro (pr := pX8_numberIn) (pc := 8) ?_
  refine jwh_use2 (G := (fun s0 => pX8_numberIn (jEv jtab (d + 5), jWP (jEv jtab (d + 5)) Q ((Sh0 n).length, jsl (Sh0 n)) pX8_numberIn, Q, ((Sh0 n).length, jsl (Sh0 n))) 8 [some (.ref 22), some (.ref 8), some (.int l2), some (.int s0.1), some (.int s0.2.1), some (.int s0.2.2)] [] (Sh0 n, A, L))) (Gx := (fun s0 => pX8_numberIn (jEv jtab (d + 5), jWP (jEv jtab (d + 5)) Q ((Sh0 n).length, jsl (Sh0 n)) pX8_numberIn, Q, ((Sh0 n).length, jsl (Sh0 n))) 70 [none, none, none, none, none, none] [] (Sh0 n, A, L))) (Gr := (fun s0 => Q (some (.int s0)) (Sh0 n, A, L))) (fun s1 z1 hz kk1 kk2 kk3 => tcX8_numberIn_8 d n A L l2 s1 hz kk1 kk2 kk3) hw2 ?_ ?_
  · intro e1 hy
    subst hy
    replace h : (some (-1 : Int32)) = some z := h
    refine y_mpri (bs := []) (ls := []) ?_
    obtain rfl := Option.some.inj h
    exact k3
  · intro s0 hy
    subst hy
    replace h : some s0 = some z := h
    obtain rfl := Option.some.inj h
    exact k3
theorem kX8_numberIn (d n : Nat) (A : Nat → Nat → Int32) (L : Nat → Nat → Int64) (l2 : Int32) {z : Int32} (h : fX8_numberIn A l2 = some z) : jEv jtab (d + 6) 90 [.ref 22, .ref 8, .int l2] (Sh0 n, A, L) 0 0 (fun r M2 => r = some (.int z) ∧ M2 = (Sh0 n, A, L)) :=
  jEv.mk (mt := mX8_numberIn) rfl (Nat.le_of_ble_eq_true rfl) (jWP.intro (pr := pX8_numberIn) (pc := 0) (tfX8_numberIn d n A L l2 h ⟨trivial, jCn.mk ⟨rfl, rfl⟩⟩))
set_option maxRecDepth 20000 in
theorem tfJ0_coder_7d493_v3 (d n : Nat) (A : Nat → Nat → Int32) (L : Nat → Nat → Int64) {Q : Option Value → jM → Prop} {z : Int32} (h : fJ0_coder_7d493_v3 A = some z) (k3 : (narrow .byte (.int z) = .int z) → Q (some (.int z)) (Sh0 n, A, L)) : pJ0_coder_7d493 (jEv jtab (d + 0), jWP (jEv jtab (d + 0)) Q ((Sh0 n).length, jsl (Sh0 n)) pJ0_coder_7d493, Q, ((Sh0 n).length, jsl (Sh0 n))) 0 [some (.ref 9)] [] (Sh0 n, A, L) := by
  unfold fJ0_coder_7d493_v3 at h
  refine y_mask <| x_push <| y_if_eq (fun h1 => ?_) (fun h1 => ?_)
  · replace h := of_pos h h1
    refine jWP.intro (pr := pJ0_coder_7d493) (pc := 13) ?_
    refine y_mask <| x_push <| y_mask <| y_goto ?_
    refine jWP.intro (pr := pJ0_coder_7d493) (pc := 14) ?_
    refine y_mri (bs := []) (ls := []) ?_
    obtain rfl := Option.some.inj h
    exact k3 rfl
  · replace h := of_neg h h1
    refine jWP.intro (pr := pJ0_coder_7d493) (pc := 6) ?_
    refine y_mask <| x_aload rfl <| x_getS1 (Nat.le_of_ble_eq_true rfl) rfl <| y_mask <| y_goto ?_
    refine jWP.intro (pr := pJ0_coder_7d493) (pc := 14) ?_
    obtain ⟨g2, h⟩ := of_guard h
    refine y_mri (bs := []) (ls := []) ?_
    obtain rfl := Option.some.inj h
    exact k3 (jnar_byte g2)
theorem kJ0_coder_7d493_v3 (d n : Nat) (A : Nat → Nat → Int32) (L : Nat → Nat → Int64) {z : Int32} (h : fJ0_coder_7d493_v3 A = some z) : jEv jtab (d + 1) 265 [.ref 9] (Sh0 n, A, L) 0 0 (fun r M2 => r = some (.int z) ∧ M2 = (Sh0 n, A, L)) :=
  jEv.mk (mt := mJ0_coder_7d493) rfl (Nat.le_of_ble_eq_true rfl) (jWP.intro (pr := pJ0_coder_7d493) (pc := 0) (tfJ0_coder_7d493_v3 d n A L h (fun hz => ⟨hz, jCn.mk ⟨rfl, rfl⟩⟩)))
set_option maxRecDepth 20000 in
theorem tfJ0_length_8abf5_v3 (d n : Nat) (A : Nat → Nat → Int32) (L : Nat → Nat → Int64) {Q : Option Value → jM → Prop} {z : Int32} (h : fJ0_length_8abf5_v3 A = some z) (k3 : Q (some (.int z)) (Sh0 n, A, L)) : pJ0_length_8abf5 (jEv jtab (d + 1), jWP (jEv jtab (d + 1)) Q ((Sh0 n).length, jsl (Sh0 n)) pJ0_length_8abf5, Q, ((Sh0 n).length, jsl (Sh0 n))) 0 [some (.ref 9)] [] (Sh0 n, A, L) := by
  unfold fJ0_length_8abf5_v3 at h
  obtain ⟨r1, hc2, h⟩ := of_bind h
  refine y_mask <| x_aload rfl <| x_getS0 (Nat.le_of_ble_eq_true rfl) rfl <| x_alen rfl (by simp) <| x_aload rfl <| y_invT0 (Nat.le_of_ble_eq_true rfl) rfl (Nat.le_of_ble_eq_true rfl) <| jEv.exZ (q := 265) rfl (kJ0_coder_7d493_v3 _ _ _ _ hc2) <| fun hz3 => x_ishr <| y_ireturn (ls := [some (.ref 9)]) ?_
  obtain rfl := Option.some.inj h
  exact k3
theorem kJ0_length_8abf5_v3 (d n : Nat) (A : Nat → Nat → Int32) (L : Nat → Nat → Int64) {z : Int32} (h : fJ0_length_8abf5_v3 A = some z) : jEv jtab (d + 2) 261 [.ref 9] (Sh0 n, A, L) 0 0 (fun r M2 => r = some (.int z) ∧ M2 = (Sh0 n, A, L)) :=
  jEv.mk (mt := mJ0_length_8abf5) rfl (Nat.le_of_ble_eq_true rfl) (jWP.intro (pr := pJ0_length_8abf5) (pc := 0) (tfJ0_length_8abf5_v3 d n A L h ⟨trivial, jCn.mk ⟨rfl, rfl⟩⟩))
set_option maxRecDepth 20000 in
theorem tfJ0_isLatin1_aae02_v3 (d n : Nat) (A : Nat → Nat → Int32) (L : Nat → Nat → Int64) {Q : Option Value → jM → Prop} {z : Int32} (h : fJ0_isLatin1_aae02_v3 A = z) (k3 : (narrow .boolean (.int z) = .int z) → Q (some (.int z)) (Sh0 n, A, L)) : pJ0_isLatin1_aae02 (jEv jtab (d + 0), jWP (jEv jtab (d + 0)) Q ((Sh0 n).length, jsl (Sh0 n)) pJ0_isLatin1_aae02, Q, ((Sh0 n).length, jsl (Sh0 n))) 0 [some (.ref 9)] [] (Sh0 n, A, L) := by
  unfold fJ0_isLatin1_aae02_v3 at h
  refine y_mask <| x_push <| y_if_eq (fun h1 => ?_) (fun h1 => ?_)
  · replace h := of_pos h h1
    refine jWP.intro (pr := pJ0_isLatin1_aae02) (pc := 17) ?_
    refine y_mask <| x_push <| y_mask <| y_goto ?_
    refine jWP.intro (pr := pJ0_isLatin1_aae02) (pc := 18) ?_
    refine y_mri (bs := []) (ls := []) ?_
    subst h
    exact k3 (jnar_boolean (.inl rfl))
  · replace h := of_neg h h1
    refine jWP.intro (pr := pJ0_isLatin1_aae02) (pc := 6) ?_
    refine y_mask <| x_aload rfl <| x_getS1 (Nat.le_of_ble_eq_true rfl) rfl <| y_if_ne (fun h2 => ?_) (fun h2 => ?_)
    · replace h := of_neg h h2
      refine jWP.intro (pr := pJ0_isLatin1_aae02) (pc := 17) ?_
      refine y_mask <| x_push <| y_mask <| y_goto ?_
      refine jWP.intro (pr := pJ0_isLatin1_aae02) (pc := 18) ?_
      refine y_mri (bs := []) (ls := []) ?_
      subst h
      exact k3 (jnar_boolean (.inl rfl))
    · replace h := of_pos h h2
      refine jWP.intro (pr := pJ0_isLatin1_aae02) (pc := 13) ?_
      refine y_mask <| x_push <| y_mask <| y_goto ?_
      refine jWP.intro (pr := pJ0_isLatin1_aae02) (pc := 18) ?_
      refine y_mri (bs := []) (ls := []) ?_
      subst h
      exact k3 (jnar_boolean (.inr rfl))
theorem kJ0_isLatin1_aae02_v3 (d n : Nat) (A : Nat → Nat → Int32) (L : Nat → Nat → Int64) : jEv jtab (d + 1) 266 [.ref 9] (Sh0 n, A, L) 0 0 (fun r M2 => r = some (.int (fJ0_isLatin1_aae02_v3 A)) ∧ M2 = (Sh0 n, A, L)) :=
  jEv.mk (mt := mJ0_isLatin1_aae02) rfl (Nat.le_of_ble_eq_true rfl) (jWP.intro (pr := pJ0_isLatin1_aae02) (pc := 0) (tfJ0_isLatin1_aae02_v3 d n A L rfl (fun hz => ⟨hz, jCn.mk ⟨rfl, rfl⟩⟩)))
set_option maxRecDepth 20000 in
theorem tfJ1_charAt_3b067_v2 (d n : Nat) (A : Nat → Nat → Int32) (L : Nat → Nat → Int64) (l1 : Int32) {Q : Option Value → jM → Prop} {z : Int32} (h : fJ1_charAt_3b067_v2 A l1 = some z) (k3 : (narrow .char (.int z) = .int z) → Q (some (.int z)) (Sh0 n, A, L)) : pJ1_charAt_3b067 (jEv jtab (d + 2), jWP (jEv jtab (d + 2)) Q ((Sh0 n).length, jsl (Sh0 n)) pJ1_charAt_3b067, Q, ((Sh0 n).length, jsl (Sh0 n))) 0 [some (.ref 12), some (.int l1)] [] (Sh0 n, A, L) := by
  unfold fJ1_charAt_3b067_v2 at h
  obtain ⟨r1, hc2, h⟩ := of_bind h
  obtain ⟨g3, h⟩ := of_guard h
  refine y_mask <| x_iload rfl <| x_aload rfl <| x_alen rfl (by simp) <| y_invS2 (Nat.le_of_ble_eq_true rfl) <| jEv.exV (kJ0_checkIndex_df160 _ _ _ _ _ _ hc2) <| x_aload rfl <| x_iload rfl <| x_bald rfl g3 <| x_push <| x_iand <| x_i2c <| y_ireturn (ls := [some (.ref 12), some (.int l1)]) ?_
  obtain rfl := Option.some.inj h
  exact k3 (jchr_ok _)
theorem kJ1_charAt_3b067_v2 (d n : Nat) (A : Nat → Nat → Int32) (L : Nat → Nat → Int64) (l1 : Int32) {z : Int32} (h : fJ1_charAt_3b067_v2 A l1 = some z) : jEv jtab (d + 3) 268 [.ref 12, .int l1] (Sh0 n, A, L) 0 0 (fun r M2 => r = some (.int z) ∧ M2 = (Sh0 n, A, L)) :=
  jEv.mk (mt := mJ1_charAt_3b067) rfl (Nat.le_of_ble_eq_true rfl) (jWP.intro (pr := pJ1_charAt_3b067) (pc := 0) (tfJ1_charAt_3b067_v2 d n A L l1 h (fun hz => ⟨hz, jCn.mk ⟨rfl, rfl⟩⟩)))
set_option maxRecDepth 20000 in
theorem tfJ0_charAt_5068e_v2 (d n : Nat) (A : Nat → Nat → Int32) (L : Nat → Nat → Int64) (l1 : Int32) {Q : Option Value → jM → Prop} {z : Int32} (h : fJ0_charAt_5068e_v2 A l1 = some z) (k3 : (narrow .char (.int z) = .int z) → Q (some (.int z)) (Sh0 n, A, L)) : pJ0_charAt_5068e (jEv jtab (d + 3), jWP (jEv jtab (d + 3)) Q ((Sh0 n).length, jsl (Sh0 n)) pJ0_charAt_5068e, Q, ((Sh0 n).length, jsl (Sh0 n))) 0 [some (.ref 9), some (.int l1)] [] (Sh0 n, A, L) := by
  unfold fJ0_charAt_5068e_v2 at h
  refine y_mask <| x_aload rfl <| y_invT0 (Nat.le_of_ble_eq_true rfl) rfl (Nat.le_of_ble_eq_true rfl) <| jEv.exZ (q := 266) rfl (kJ0_isLatin1_aae02_v3 _ _ _ _) <| fun hz1 => y_if_eq (fun h2 => ?_) (fun h2 => ?_)
  · replace h := of_pos h h2
    refine jWP.intro (pr := pJ0_charAt_5068e) (pc := 16) ?_
    exact absurd h (by simp)
  · replace h := of_neg h h2
    refine jWP.intro (pr := pJ0_charAt_5068e) (pc := 7) ?_
    obtain ⟨r3, hc4, h⟩ := of_bind h
    refine y_mask <| x_aload rfl <| x_getS0 (Nat.le_of_ble_eq_true rfl) rfl <| x_iload rfl <| y_invS2 (Nat.le_of_ble_eq_true rfl) <| jEv.exZ (q := 268) rfl (kJ1_charAt_3b067_v2 _ _ _ _ _ hc4) <| fun hz5 => y_ireturn (ls := [some (.ref 9), some (.int l1)]) ?_
    obtain rfl := Option.some.inj h
    exact k3 hz5
theorem kJ0_charAt_5068e_v2 (d n : Nat) (A : Nat → Nat → Int32) (L : Nat → Nat → Int64) (l1 : Int32) {z : Int32} (h : fJ0_charAt_5068e_v2 A l1 = some z) : jEv jtab (d + 4) 262 [.ref 9, .int l1] (Sh0 n, A, L) 0 0 (fun r M2 => r = some (.int z) ∧ M2 = (Sh0 n, A, L)) :=
  jEv.mk (mt := mJ0_charAt_5068e) rfl (Nat.le_of_ble_eq_true rfl) (jWP.intro (pr := pJ0_charAt_5068e) (pc := 0) (tfJ0_charAt_5068e_v2 d n A L l1 h (fun hz => ⟨hz, jCn.mk ⟨rfl, rfl⟩⟩)))
set_option maxRecDepth 20000 in
theorem tcX8_isSpelt_v2_3 (d n : Nat) (A : Nat → Nat → Int32) (L : Nat → Nat → Int64) (l2 : Int32) (l3 : Int32) (s : Int32) {Q : Option Value → jM → Prop} {z : (Int32 ⊕ (Unit ⊕ Int32))} (h : cX8_isSpelt_v2_3 A l2 l3 s = some z) (k1 : ∀ s0, z = .inl s0 → pX8_isSpelt (jEv jtab (d + 4), jWP (jEv jtab (d + 4)) Q ((Sh0 n).length, jsl (Sh0 n)) pX8_isSpelt, Q, ((Sh0 n).length, jsl (Sh0 n))) 3 [some (.ref 22), some (.ref 9), some (.int l2), some (.int l3), some (.int s0)] [] (Sh0 n, A, L)) (k2 : ∀ s0, z = .inr (.inl s0) → pX8_isSpelt (jEv jtab (d + 4), jWP (jEv jtab (d + 4)) Q ((Sh0 n).length, jsl (Sh0 n)) pX8_isSpelt, Q, ((Sh0 n).length, jsl (Sh0 n))) 40 [none, none, none, none, none] [] (Sh0 n, A, L)) (k3 : ∀ s0, z = .inr (.inr s0) → (narrow .boolean (.int s0) = .int s0) → Q (some (.int s0)) (Sh0 n, A, L)) : pX8_isSpelt (jEv jtab (d + 4), jWP (jEv jtab (d + 4)) Q ((Sh0 n).length, jsl (Sh0 n)) pX8_isSpelt, Q, ((Sh0 n).length, jsl (Sh0 n))) 3 [some (.ref 22), some (.ref 9), some (.int l2), some (.int l3), some (.int s)] [] (Sh0 n, A, L) := by
  unfold cX8_isSpelt_v2_3 at h
  refine y_mask <| x_iload rfl <| x_aload rfl <| x_getI (Nat.le_of_ble_eq_true rfl) rfl rfl <| y_cmp_ge (fun h1 => ?_) (fun h1 => ?_)
  · replace h := of_pos h h1
    refine jWP.intro (pr := pX8_isSpelt) (pc := 40) ?_
    have hk := k2 _ (Option.some.inj h).symm
    exact hk
  · replace h := of_neg h h1
    refine jWP.intro (pr := pX8_isSpelt) (pc := 12) ?_
    obtain ⟨g2, h⟩ := of_guard h
    obtain ⟨r3, hc4, h⟩ := of_bind h
    refine y_mask <| x_aload rfl <| x_getR (Nat.le_of_ble_eq_true rfl) rfl rfl <| x_iload rfl <| x_iald rfl g2 <| x_aload rfl <| x_iload rfl <| x_iload rfl <| x_iadd <| x_iload rfl <| x_isub <| y_invT1 (Nat.le_of_ble_eq_true rfl) rfl (Nat.le_of_ble_eq_true rfl) <| jEv.exZ (q := 262) rfl (kJ0_charAt_5068e_v2 _ _ _ _ _ hc4) <| fun hz5 => y_cmp_eq (fun h6 => ?_) (fun h6 => ?_)
    · replace h := of_pos h h6
      refine jWP.intro (pr := pX8_isSpelt) (pc := 34) ?_
      refine y_mask <| x_iinc rfl rfl <| y_mask <| y_goto ?_
      refine jWP.intro (pr := pX8_isSpelt) (pc := 3) ?_
      have hk := k1 _ (Option.some.inj h).symm
      exact hk
    · replace h := of_neg h h6
      refine jWP.intro (pr := pX8_isSpelt) (pc := 32) ?_
      refine y_mpri (bs := []) (ls := []) ?_
      have hk := k3 _ (Option.some.inj h).symm
      exact hk (jnar_boolean (.inl rfl))
set_option maxRecDepth 20000 in
theorem tfX8_isSpelt_v2 (d n : Nat) (A : Nat → Nat → Int32) (L : Nat → Nat → Int64) (l2 : Int32) (l3 : Int32) {Q : Option Value → jM → Prop} {z : Int32} (h : fX8_isSpelt_v2 A l2 l3 = some z) (k3 : (narrow .boolean (.int z) = .int z) → Q (some (.int z)) (Sh0 n, A, L)) : pX8_isSpelt (jEv jtab (d + 4), jWP (jEv jtab (d + 4)) Q ((Sh0 n).length, jsl (Sh0 n)) pX8_isSpelt, Q, ((Sh0 n).length, jsl (Sh0 n))) 0 [some (.ref 22), some (.ref 9), some (.int l2), some (.int l3), none] [] (Sh0 n, A, L) := by
  unfold fX8_isSpelt_v2 at h
  refine y_mask <| x_iload rfl <| x_istore rfl <| y_mask <| y_goto ?_
  obtain ⟨e1y, hw2, h⟩ := of_bind h
  refine jWP.intro (pr := pX8_isSpelt) (pc := 3) ?_
  refine jwh_use2 (G := (fun s0 => pX8_isSpelt (jEv jtab (d + 4), jWP (jEv jtab (d + 4)) Q ((Sh0 n).length, jsl (Sh0 n)) pX8_isSpelt, Q, ((Sh0 n).length, jsl (Sh0 n))) 3 [some (.ref 22), some (.ref 9), some (.int l2), some (.int l3), some (.int s0)] [] (Sh0 n, A, L))) (Gx := (fun s0 => pX8_isSpelt (jEv jtab (d + 4), jWP (jEv jtab (d + 4)) Q ((Sh0 n).length, jsl (Sh0 n)) pX8_isSpelt, Q, ((Sh0 n).length, jsl (Sh0 n))) 40 [none, none, none, none, none] [] (Sh0 n, A, L))) (Gr := (fun s0 => (narrow .boolean (.int s0) = .int s0) → Q (some (.int s0)) (Sh0 n, A, L))) (fun s1 z1 hz kk1 kk2 kk3 => tcX8_isSpelt_v2_3 d n A L l2 l3 s1 hz kk1 kk2 kk3) hw2 ?_ ?_
  · intro e1 hy
    subst hy
    replace h : (some (1 : Int32)) = some z := h
    refine y_mpri (bs := []) (ls := []) ?_
    obtain rfl := Option.some.inj h
    exact k3 (jnar_boolean (.inr rfl))
  · intro s0 hy
    subst hy
    replace h : some s0 = some z := h
    obtain rfl := Option.some.inj h
    exact k3
theorem kX8_isSpelt_v2 (d n : Nat) (A : Nat → Nat → Int32) (L : Nat → Nat → Int64) (l2 : Int32) (l3 : Int32) {z : Int32} (h : fX8_isSpelt_v2 A l2 l3 = some z) : jEv jtab (d + 5) 91 [.ref 22, .ref 9, .int l2, .int l3] (Sh0 n, A, L) 0 0 (fun r M2 => r = some (.int z) ∧ M2 = (Sh0 n, A, L)) :=
  jEv.mk (mt := mX8_isSpelt) rfl (Nat.le_of_ble_eq_true rfl) (jWP.intro (pr := pX8_isSpelt) (pc := 0) (tfX8_isSpelt_v2 d n A L l2 l3 h (fun hz => ⟨hz, jCn.mk ⟨rfl, rfl⟩⟩)))
set_option maxRecDepth 20000 in
theorem tjX8_numberIn_v2_55_8 (d n : Nat) (A : Nat → Nat → Int32) (L : Nat → Nat → Int64) (l2 : Int32) (l3 : Int32) (l5 : Int32) {Q : Option Value → jM → Prop} {z : ((Int32 × Int32 × Int32) ⊕ (Unit ⊕ Int32))} (h : jX8_numberIn_v2_55_8 A l2 l3 l5 = some z) (k1 : ∀ s0, z = .inl s0 → pX8_numberIn (jEv jtab (d + 5), jWP (jEv jtab (d + 5)) Q ((Sh0 n).length, jsl (Sh0 n)) pX8_numberIn, Q, ((Sh0 n).length, jsl (Sh0 n))) 8 [some (.ref 22), some (.ref 9), some (.int l2), some (.int s0.1), some (.int s0.2.1), some (.int s0.2.2)] [] (Sh0 n, A, L)) (k2 : ∀ s0, z = .inr (.inl s0) → pX8_numberIn (jEv jtab (d + 5), jWP (jEv jtab (d + 5)) Q ((Sh0 n).length, jsl (Sh0 n)) pX8_numberIn, Q, ((Sh0 n).length, jsl (Sh0 n))) 70 [none, none, none, none, none, none] [] (Sh0 n, A, L)) (k3 : ∀ s0, z = .inr (.inr s0) → Q (some (.int s0)) (Sh0 n, A, L)) : pX8_numberIn (jEv jtab (d + 5), jWP (jEv jtab (d + 5)) Q ((Sh0 n).length, jsl (Sh0 n)) pX8_numberIn, Q, ((Sh0 n).length, jsl (Sh0 n))) 55 [some (.ref 22), some (.ref 9), some (.int l2), some (.int l3), none, some (.int l5)] [] (Sh0 n, A, L) := by
  unfold jX8_numberIn_v2_55_8 at h
  refine y_mask <| x_iinc rfl rfl <| x_iload rfl <| x_push <| x_iadd <| x_istore rfl <| y_mask <| y_goto ?_
  refine jWP.intro (pr := pX8_numberIn) (pc := 64) ?_
  refine y_mask <| x_iinc rfl rfl <| y_mask <| y_goto ?_
  refine jWP.intro (pr := pX8_numberIn) (pc := 8) ?_
  have hk := k1 _ (Option.some.inj h).symm
  exact hk
set_option maxRecDepth 20000 in
theorem tcX8_numberIn_v2_8 (d n : Nat) (A : Nat → Nat → Int32) (L : Nat → Nat → Int64) (l2 : Int32) (s : (Int32 × Int32 × Int32)) {Q : Option Value → jM → Prop} {z : ((Int32 × Int32 × Int32) ⊕ (Unit ⊕ Int32))} (h : cX8_numberIn_v2_8 A l2 s = some z) (k1 : ∀ s0, z = .inl s0 → pX8_numberIn (jEv jtab (d + 5), jWP (jEv jtab (d + 5)) Q ((Sh0 n).length, jsl (Sh0 n)) pX8_numberIn, Q, ((Sh0 n).length, jsl (Sh0 n))) 8 [some (.ref 22), some (.ref 9), some (.int l2), some (.int s0.1), some (.int s0.2.1), some (.int s0.2.2)] [] (Sh0 n, A, L)) (k2 : ∀ s0, z = .inr (.inl s0) → pX8_numberIn (jEv jtab (d + 5), jWP (jEv jtab (d + 5)) Q ((Sh0 n).length, jsl (Sh0 n)) pX8_numberIn, Q, ((Sh0 n).length, jsl (Sh0 n))) 70 [none, none, none, none, none, none] [] (Sh0 n, A, L)) (k3 : ∀ s0, z = .inr (.inr s0) → Q (some (.int s0)) (Sh0 n, A, L)) : pX8_numberIn (jEv jtab (d + 5), jWP (jEv jtab (d + 5)) Q ((Sh0 n).length, jsl (Sh0 n)) pX8_numberIn, Q, ((Sh0 n).length, jsl (Sh0 n))) 8 [some (.ref 22), some (.ref 9), some (.int l2), some (.int s.1), some (.int s.2.1), some (.int s.2.2)] [] (Sh0 n, A, L) := by
  unfold cX8_numberIn_v2_8 at h
  obtain ⟨r1, hc2, h⟩ := of_bind h
  refine y_mask <| x_iload rfl <| x_aload rfl <| y_invT0 (Nat.le_of_ble_eq_true rfl) rfl (Nat.le_of_ble_eq_true rfl) <| jEv.exI (kJ0_length_8abf5_v3 _ _ _ _ hc2) <| y_cmp_ge (fun h3 => ?_) (fun h3 => ?_)
  · replace h := of_pos h h3
    refine jWP.intro (pr := pX8_numberIn) (pc := 70) ?_
    have hk := k2 _ (Option.some.inj h).symm
    exact hk
  · replace h := of_neg h h3
    refine jWP.intro (pr := pX8_numberIn) (pc := 17) ?_
    obtain ⟨r4, hc5, h⟩ := of_bind h
    refine y_mask <| x_aload rfl <| x_iload rfl <| y_invT1 (Nat.le_of_ble_eq_true rfl) rfl (Nat.le_of_ble_eq_true rfl) <| jEv.exZ (q := 262) rfl (kJ0_charAt_5068e_v2 _ _ _ _ _ hc5) <| fun hz6 => x_push <| y_cmp_ne (fun h7 => ?_) (fun h7 => ?_)
    · replace h := of_neg h h7
      refine jWP.intro (pr := pX8_numberIn) (pc := 64) ?_
      refine y_mask <| x_iinc rfl rfl <| y_mask <| y_goto ?_
      refine jWP.intro (pr := pX8_numberIn) (pc := 8) ?_
      have hk := k1 _ (Option.some.inj h).symm
      exact hk
    · replace h := of_pos h h7
      refine jWP.intro (pr := pX8_numberIn) (pc := 28) ?_
      refine y_mask <| x_iload rfl <| x_iload rfl <| x_isub <| x_aload rfl <| x_getI (Nat.le_of_ble_eq_true rfl) rfl rfl <| x_iload rfl <| x_isub <| y_cmp_ne (fun h8 => ?_) (fun h8 => ?_)
      · replace h := of_neg h h8
        refine jWP.intro (pr := pX8_numberIn) (pc := 55) ?_
        exact tjX8_numberIn_v2_55_8 d n A L l2 s.1 s.2.2 h k1 k2 k3
      · replace h := of_pos h h8
        refine jWP.intro (pr := pX8_numberIn) (pc := 42) ?_
        obtain ⟨r9, hc10, h⟩ := of_bind h
        refine y_mask <| x_aload rfl <| x_aload rfl <| x_iload rfl <| x_iload rfl <| y_invV3 (Nat.le_of_ble_eq_true rfl) rfl (Nat.le_of_ble_eq_true rfl) <| jEv.exZ (q := 91) rfl (kX8_isSpelt_v2 _ _ _ _ _ _ hc10) <| fun hz11 => y_if_eq (fun h12 => ?_) (fun h12 => ?_)
        · replace h := of_pos h h12
          refine jWP.intro (pr := pX8_numberIn) (pc := 55) ?_
          exact tjX8_numberIn_v2_55_8 d n A L l2 s.1 s.2.2 h k1 k2 k3
        · replace h := of_neg h h12
          refine jWP.intro (pr := pX8_numberIn) (pc := 53) ?_
          refine y_mask <| x_iload rfl <| y_ireturn (ls := [none, none, none, some (.int s.1), none, none]) ?_
          have hk := k3 _ (Option.some.inj h).symm
          exact hk
set_option maxRecDepth 20000 in
theorem tfX8_numberIn_v2 (d n : Nat) (A : Nat → Nat → Int32) (L : Nat → Nat → Int64) (l2 : Int32) {Q : Option Value → jM → Prop} {z : Int32} (h : fX8_numberIn_v2 A l2 = some z) (k3 : Q (some (.int z)) (Sh0 n, A, L)) : pX8_numberIn (jEv jtab (d + 5), jWP (jEv jtab (d + 5)) Q ((Sh0 n).length, jsl (Sh0 n)) pX8_numberIn, Q, ((Sh0 n).length, jsl (Sh0 n))) 0 [some (.ref 22), some (.ref 9), some (.int l2), none, none, none] [] (Sh0 n, A, L) := by
  unfold fX8_numberIn_v2 at h
  refine y_mask <| x_push <| x_istore rfl <| x_push <| x_istore rfl <| x_push <| x_istore rfl <| y_mask <| y_goto ?_
  obtain ⟨e1y, hw2, h⟩ := of_bind h
  refine jWP.intro (pr := pX8_numberIn) (pc := 8) ?_
  refine jwh_use2 (G := (fun s0 => pX8_numberIn (jEv jtab (d + 5), jWP (jEv jtab (d + 5)) Q ((Sh0 n).length, jsl (Sh0 n)) pX8_numberIn, Q, ((Sh0 n).length, jsl (Sh0 n))) 8 [some (.ref 22), some (.ref 9), some (.int l2), some (.int s0.1), some (.int s0.2.1), some (.int s0.2.2)] [] (Sh0 n, A, L))) (Gx := (fun s0 => pX8_numberIn (jEv jtab (d + 5), jWP (jEv jtab (d + 5)) Q ((Sh0 n).length, jsl (Sh0 n)) pX8_numberIn, Q, ((Sh0 n).length, jsl (Sh0 n))) 70 [none, none, none, none, none, none] [] (Sh0 n, A, L))) (Gr := (fun s0 => Q (some (.int s0)) (Sh0 n, A, L))) (fun s1 z1 hz kk1 kk2 kk3 => tcX8_numberIn_v2_8 d n A L l2 s1 hz kk1 kk2 kk3) hw2 ?_ ?_
  · intro e1 hy
    subst hy
    replace h : (some (-1 : Int32)) = some z := h
    refine y_mpri (bs := []) (ls := []) ?_
    obtain rfl := Option.some.inj h
    exact k3
  · intro s0 hy
    subst hy
    replace h : some s0 = some z := h
    obtain rfl := Option.some.inj h
    exact k3
theorem kX8_numberIn_v2 (d n : Nat) (A : Nat → Nat → Int32) (L : Nat → Nat → Int64) (l2 : Int32) {z : Int32} (h : fX8_numberIn_v2 A l2 = some z) : jEv jtab (d + 6) 90 [.ref 22, .ref 9, .int l2] (Sh0 n, A, L) 0 0 (fun r M2 => r = some (.int z) ∧ M2 = (Sh0 n, A, L)) :=
  jEv.mk (mt := mX8_numberIn) rfl (Nat.le_of_ble_eq_true rfl) (jWP.intro (pr := pX8_numberIn) (pc := 0) (tfX8_numberIn_v2 d n A L l2 h ⟨trivial, jCn.mk ⟨rfl, rfl⟩⟩))
set_option maxRecDepth 20000 in
theorem tfX8_wordFrom (d n : Nat) (A : Nat → Nat → Int32) (L : Nat → Nat → Int64) (l1 : Int32) {Q : Option Value → jM → Prop} {z : Int32} (h : fX8_wordFrom A l1 = some z) (k3 : Q (some (.int z)) (Sh0 n, A, L)) : pX8_wordFrom (jEv jtab (d + 6), jWP (jEv jtab (d + 6)) Q ((Sh0 n).length, jsl (Sh0 n)) pX8_wordFrom, Q, ((Sh0 n).length, jsl (Sh0 n))) 0 [some (.ref 22), some (.int l1), none, none] [] (Sh0 n, A, L) := by
  unfold fX8_wordFrom at h
  obtain ⟨r1, hc2, h⟩ := of_bind h
  refine y_mask <| x_aload rfl <| x_push <| x_iload rfl <| y_invV2 (Nat.le_of_ble_eq_true rfl) rfl (Nat.le_of_ble_eq_true rfl) <| jEv.exI (kX8_numberIn _ _ _ _ _ hc2) <| x_istore rfl <| x_iload rfl <| y_if_lt (fun h3 => ?_) (fun h3 => ?_)
  · replace h := of_pos h h3
    refine jWP.intro (pr := pX8_wordFrom) (pc := 18) ?_
    obtain ⟨r4, hc5, h⟩ := of_bind h
    refine y_mask <| x_aload rfl <| x_push <| x_iload rfl <| y_invV2 (Nat.le_of_ble_eq_true rfl) rfl (Nat.le_of_ble_eq_true rfl) <| jEv.exI (kX8_numberIn_v2 _ _ _ _ _ hc5) <| x_istore rfl <| x_iload rfl <| y_if_lt (fun h6 => ?_) (fun h6 => ?_)
    · replace h := of_pos h h6
      refine jWP.intro (pr := pX8_wordFrom) (pc := 38) ?_
      refine y_mask <| x_push <| y_mask <| y_goto ?_
      refine jWP.intro (pr := pX8_wordFrom) (pc := 39) ?_
      refine y_mri (bs := []) (ls := []) ?_
      obtain rfl := Option.some.inj h
      exact k3
    · replace h := of_neg h h6
      refine jWP.intro (pr := pX8_wordFrom) (pc := 30) ?_
      refine y_mask <| x_push <| x_iload rfl <| x_iadd <| y_mask <| y_goto ?_
      refine jWP.intro (pr := pX8_wordFrom) (pc := 39) ?_
      refine y_mri (bs := []) (ls := []) ?_
      obtain rfl := Option.some.inj h
      exact k3
  · replace h := of_neg h h3
    refine jWP.intro (pr := pX8_wordFrom) (pc := 12) ?_
    refine y_mask <| x_push <| x_iload rfl <| x_iadd <| y_ireturn (ls := [none, none, some (.int r1), none]) ?_
    obtain rfl := Option.some.inj h
    exact k3
theorem kX8_wordFrom (d n : Nat) (A : Nat → Nat → Int32) (L : Nat → Nat → Int64) (l1 : Int32) {z : Int32} (h : fX8_wordFrom A l1 = some z) : jEv jtab (d + 7) 88 [.ref 22, .int l1] (Sh0 n, A, L) 0 0 (fun r M2 => r = some (.int z) ∧ M2 = (Sh0 n, A, L)) :=
  jEv.mk (mt := mX8_wordFrom) rfl (Nat.le_of_ble_eq_true rfl) (jWP.intro (pr := pX8_wordFrom) (pc := 0) (tfX8_wordFrom d n A L l1 h ⟨trivial, jCn.mk ⟨rfl, rfl⟩⟩))
