/-! METHODS AS FUNCTIONS, printed by dec.py -/
set_option maxRecDepth 20000 in
theorem tfX11_count (d n : Nat) (A : Nat → Nat → Int32) (L : Nat → Nat → Int64) (l1 : Int32) {Q : Option Value → jM → Prop} {z : Int32} (h : fX11_count A l1 = some z) (k3 : Q (some (.int z)) (Sh0 n, A, L)) : pX11_count (jEv jtab (d + 1), jWP (jEv jtab (d + 1)) Q ((Sh0 n).length, jsl (Sh0 n)) pX11_count, Q, ((Sh0 n).length, jsl (Sh0 n))) 0 [some (.ref 94), some (.int l1)] [] (Sh0 n, A, L) := by
  unfold fX11_count at h
  refine y_mask <| x_iload rfl <| x_push <| x_push <| y_invS3 (Nat.le_of_ble_eq_true rfl) <| jEv.exZ (q := 159) rfl (kX11_in _ _ _ _ _ _ _) <| fun hz1 => y_if_eq (fun h2 => ?_) (fun h2 => ?_)
  · replace h := of_pos h h2
    refine jWP.intro (pr := pX11_count) (pc := 16) ?_
    refine y_mask <| x_iload rfl <| y_sw (y_case (fun h3 => ?_) (fun h3 => y_case (fun h4 => ?_) (fun h4 => y_case (fun h5 => ?_) (fun h5 => y_case (fun h6 => ?_) (fun h6 => y_case (fun h7 => ?_) (fun h7 => y_case (fun h8 => ?_) (fun h8 => y_case (fun h9 => ?_) (fun h9 => y_dflt ?_))))))))
    · replace h := of_pos h h3
      refine jWP.intro (pr := pX11_count) (pc := 60) ?_
      refine y_mask <| x_aload rfl <| x_getI (Nat.le_of_ble_eq_true rfl) rfl rfl <| y_ireturn (ls := [some (.ref 94), none]) ?_
      obtain rfl := Option.some.inj h
      exact k3
    · replace h := of_neg h h3
      replace h := of_pos h h4
      refine jWP.intro (pr := pX11_count) (pc := 65) ?_
      refine y_mask <| x_aload rfl <| x_getI (Nat.le_of_ble_eq_true rfl) rfl rfl <| y_ireturn (ls := [some (.ref 94), none]) ?_
      obtain rfl := Option.some.inj h
      exact k3
    · replace h := of_neg h h3
      replace h := of_neg h h4
      replace h := of_pos h h5
      refine jWP.intro (pr := pX11_count) (pc := 70) ?_
      refine y_mask <| x_aload rfl <| x_getI (Nat.le_of_ble_eq_true rfl) rfl rfl <| y_ireturn (ls := [some (.ref 94), none]) ?_
      obtain rfl := Option.some.inj h
      exact k3
    · replace h := of_neg h h3
      replace h := of_neg h h4
      replace h := of_neg h h5
      replace h := of_pos h h6
      refine jWP.intro (pr := pX11_count) (pc := 75) ?_
      refine y_mask <| x_aload rfl <| x_getI (Nat.le_of_ble_eq_true rfl) rfl rfl <| y_ireturn (ls := [some (.ref 94), none]) ?_
      obtain rfl := Option.some.inj h
      exact k3
    · replace h := of_neg h h3
      replace h := of_neg h h4
      replace h := of_neg h h5
      replace h := of_neg h h6
      replace h := of_pos h h7
      refine jWP.intro (pr := pX11_count) (pc := 80) ?_
      refine y_mask <| x_aload rfl <| x_getI (Nat.le_of_ble_eq_true rfl) rfl rfl <| y_ireturn (ls := [some (.ref 94), none]) ?_
      obtain rfl := Option.some.inj h
      exact k3
    · replace h := of_neg h h3
      replace h := of_neg h h4
      replace h := of_neg h h5
      replace h := of_neg h h6
      replace h := of_neg h h7
      replace h := of_pos h h8
      refine jWP.intro (pr := pX11_count) (pc := 85) ?_
      refine y_mask <| x_aload rfl <| x_getI (Nat.le_of_ble_eq_true rfl) rfl rfl <| y_ireturn (ls := [some (.ref 94), none]) ?_
      obtain rfl := Option.some.inj h
      exact k3
    · replace h := of_neg h h3
      replace h := of_neg h h4
      replace h := of_neg h h5
      replace h := of_neg h h6
      replace h := of_neg h h7
      replace h := of_neg h h8
      replace h := of_pos h h9
      refine jWP.intro (pr := pX11_count) (pc := 90) ?_
      refine y_mask <| x_aload rfl <| x_getI (Nat.le_of_ble_eq_true rfl) rfl rfl <| y_ireturn (ls := [some (.ref 94), none]) ?_
      obtain rfl := Option.some.inj h
      exact k3
    · replace h := of_neg h h3
      replace h := of_neg h h4
      replace h := of_neg h h5
      replace h := of_neg h h6
      replace h := of_neg h h7
      replace h := of_neg h h8
      replace h := of_neg h h9
      skip
      refine jWP.intro (pr := pX11_count) (pc := 95) ?_
      refine y_mpri (bs := []) (ls := []) ?_
      obtain rfl := Option.some.inj h
      exact k3
  · replace h := of_neg h h2
    refine jWP.intro (pr := pX11_count) (pc := 9) ?_
    obtain ⟨g10, h⟩ := of_guard h
    refine y_mask <| x_aload rfl <| x_getR (Nat.le_of_ble_eq_true rfl) rfl rfl <| x_iload rfl <| x_iald rfl g10 <| y_ireturn (ls := [some (.ref 94), some (.int l1)]) ?_
    obtain rfl := Option.some.inj h
    exact k3
theorem kX11_count (d n : Nat) (A : Nat → Nat → Int32) (L : Nat → Nat → Int64) (l1 : Int32) {z : Int32} (h : fX11_count A l1 = some z) : jEv jtab (d + 2) 166 [.ref 94, .int l1] (Sh0 n, A, L) 0 0 (fun r M2 => r = some (.int z) ∧ M2 = (Sh0 n, A, L)) :=
  jEv.mk (mt := mX11_count) rfl (Nat.le_of_ble_eq_true rfl) (jWP.intro (pr := pX11_count) (pc := 0) (tfX11_count d n A L l1 h ⟨trivial, jCn.mk ⟨rfl, rfl⟩⟩))
set_option maxRecDepth 20000 in
theorem tfX11_isMinute (d n : Nat) (A : Nat → Nat → Int32) (L : Nat → Nat → Int64) (l1 : Int32) {Q : Option Value → jM → Prop} {z : Int32} (h : fX11_isMinute A l1 = z) (k3 : (narrow .boolean (.int z) = .int z) → Q (some (.int z)) (Sh0 n, A, L)) : pX11_isMinute (jEv jtab (d + 1), jWP (jEv jtab (d + 1)) Q ((Sh0 n).length, jsl (Sh0 n)) pX11_isMinute, Q, ((Sh0 n).length, jsl (Sh0 n))) 0 [some (.ref 94), some (.int l1)] [] (Sh0 n, A, L) := by
  unfold fX11_isMinute at h
  refine y_mask <| x_iload rfl <| x_push <| x_aload rfl <| x_getR (Nat.le_of_ble_eq_true rfl) rfl rfl <| x_push <| x_iald rfl (by unfold vp_in; decide) <| x_push <| x_isub <| y_invS3 (Nat.le_of_ble_eq_true rfl) <| jEv.exZ (q := 159) rfl (kX11_in _ _ _ _ _ _ _) <| fun hz1 => y_ireturn (ls := [some (.ref 94), some (.int l1)]) ?_
  subst h
  exact k3 hz1
theorem kX11_isMinute (d n : Nat) (A : Nat → Nat → Int32) (L : Nat → Nat → Int64) (l1 : Int32) : jEv jtab (d + 2) 167 [.ref 94, .int l1] (Sh0 n, A, L) 0 0 (fun r M2 => r = some (.int (fX11_isMinute A l1)) ∧ M2 = (Sh0 n, A, L)) :=
  jEv.mk (mt := mX11_isMinute) rfl (Nat.le_of_ble_eq_true rfl) (jWP.intro (pr := pX11_isMinute) (pc := 0) (tfX11_isMinute d n A L l1 rfl (fun hz => ⟨hz, jCn.mk ⟨rfl, rfl⟩⟩)))
set_option maxRecDepth 20000 in
theorem tfX11_sizeOf (d n : Nat) (A : Nat → Nat → Int32) (L : Nat → Nat → Int64) (l0 : Int32) {Q : Option Value → jM → Prop} {z : Int32} (h : fX11_sizeOf l0 = z) (k3 : Q (some (.int z)) (Sh0 n, A, L)) : pX11_sizeOf (jEv jtab (d + 0), jWP (jEv jtab (d + 0)) Q ((Sh0 n).length, jsl (Sh0 n)) pX11_sizeOf, Q, ((Sh0 n).length, jsl (Sh0 n))) 0 [some (.int l0)] [] (Sh0 n, A, L) := by
  unfold fX11_sizeOf at h
  refine y_mask <| x_iload rfl <| y_if_ge (fun h1 => ?_) (fun h1 => ?_)
  · replace h := of_pos h h1
    refine jWP.intro (pr := pX11_sizeOf) (pc := 9) ?_
    refine y_mask <| x_iload rfl <| y_mask <| y_goto ?_
    refine jWP.intro (pr := pX11_sizeOf) (pc := 10) ?_
    refine y_mri (bs := []) (ls := []) ?_
    subst h
    exact k3
  · replace h := of_neg h h1
    refine jWP.intro (pr := pX11_sizeOf) (pc := 4) ?_
    refine y_mask <| x_iload rfl <| x_ineg <| y_mask <| y_goto ?_
    refine jWP.intro (pr := pX11_sizeOf) (pc := 10) ?_
    refine y_mri (bs := []) (ls := []) ?_
    subst h
    exact k3
theorem kX11_sizeOf (d n : Nat) (A : Nat → Nat → Int32) (L : Nat → Nat → Int64) (l0 : Int32) : jEv jtab (d + 1) 161 [.int l0] (Sh0 n, A, L) 0 0 (fun r M2 => r = some (.int (fX11_sizeOf l0)) ∧ M2 = (Sh0 n, A, L)) :=
  jEv.mk (mt := mX11_sizeOf) rfl (Nat.le_of_ble_eq_true rfl) (jWP.intro (pr := pX11_sizeOf) (pc := 0) (tfX11_sizeOf d n A L l0 rfl ⟨trivial, jCn.mk ⟨rfl, rfl⟩⟩))
set_option maxRecDepth 20000 in
theorem tfX11_farIn (d n : Nat) (A : Nat → Nat → Int32) (L : Nat → Nat → Int64) (l1 : Int32) {Q : Option Value → jM → Prop} {z : Int32} (h : fX11_farIn A l1 = z) (k3 : Q (some (.int z)) (Sh0 n, A, L)) : pX11_farIn (jEv jtab (d + 1), jWP (jEv jtab (d + 1)) Q ((Sh0 n).length, jsl (Sh0 n)) pX11_farIn, Q, ((Sh0 n).length, jsl (Sh0 n))) 0 [some (.ref 94), some (.int l1)] [] (Sh0 n, A, L) := by
  unfold fX11_farIn at h
  refine y_mask <| x_aload rfl <| x_getR (Nat.le_of_ble_eq_true rfl) rfl rfl <| x_push <| x_iald rfl (by unfold vp_in; decide) <| x_aload rfl <| x_getR (Nat.le_of_ble_eq_true rfl) rfl rfl <| x_push <| x_iald rfl (by unfold vp_in; decide) <| x_push <| x_iload rfl <| x_imul <| x_aload rfl <| x_getR (Nat.le_of_ble_eq_true rfl) rfl rfl <| x_push <| x_iald rfl (by unfold vp_in; decide) <| x_push <| x_isub <| x_isub <| y_invS1 (Nat.le_of_ble_eq_true rfl) <| jEv.exI (kX11_sizeOf _ _ _ _ _) <| x_imul <| x_push <| x_idiv (by decide) <| x_iadd <| y_ireturn (ls := [some (.ref 94), some (.int l1)]) ?_
  subst h
  exact k3
theorem kX11_farIn (d n : Nat) (A : Nat → Nat → Int32) (L : Nat → Nat → Int64) (l1 : Int32) : jEv jtab (d + 2) 168 [.ref 94, .int l1] (Sh0 n, A, L) 0 0 (fun r M2 => r = some (.int (fX11_farIn A l1)) ∧ M2 = (Sh0 n, A, L)) :=
  jEv.mk (mt := mX11_farIn) rfl (Nat.le_of_ble_eq_true rfl) (jWP.intro (pr := pX11_farIn) (pc := 0) (tfX11_farIn d n A L l1 rfl ⟨trivial, jCn.mk ⟨rfl, rfl⟩⟩))
set_option maxRecDepth 20000 in
theorem tfX11_pass (d n : Nat) (A : Nat → Nat → Int32) (L : Nat → Nat → Int64) (l1 : Int32) {Q : Option Value → jM → Prop} {z : Int32} (h : fX11_pass A l1 = z) (k3 : Q (some (.int z)) (Sh0 n, A, L)) : pX11_pass (jEv jtab (d + 2), jWP (jEv jtab (d + 2)) Q ((Sh0 n).length, jsl (Sh0 n)) pX11_pass, Q, ((Sh0 n).length, jsl (Sh0 n))) 0 [some (.ref 94), some (.int l1)] [] (Sh0 n, A, L) := by
  unfold fX11_pass at h
  refine y_mask <| x_aload rfl <| x_iload rfl <| y_invV1 (Nat.le_of_ble_eq_true rfl) rfl (Nat.le_of_ble_eq_true rfl) <| jEv.exZ (q := 167) rfl (kX11_isMinute _ _ _ _ _) <| fun hz1 => y_if_eq (fun h2 => ?_) (fun h2 => ?_)
  · replace h := of_pos h h2
    refine jWP.intro (pr := pX11_pass) (pc := 16) ?_
    refine y_mask <| x_push <| y_mask <| y_goto ?_
    refine jWP.intro (pr := pX11_pass) (pc := 18) ?_
    refine y_mri (bs := []) (ls := []) ?_
    subst h
    exact k3
  · replace h := of_neg h h2
    refine jWP.intro (pr := pX11_pass) (pc := 8) ?_
    refine y_mask <| x_aload rfl <| x_iload rfl <| y_invV1 (Nat.le_of_ble_eq_true rfl) rfl (Nat.le_of_ble_eq_true rfl) <| jEv.exI (kX11_farIn _ _ _ _ _) <| y_mask <| y_goto ?_
    refine jWP.intro (pr := pX11_pass) (pc := 18) ?_
    refine y_mri (bs := []) (ls := []) ?_
    subst h
    exact k3
theorem kX11_pass (d n : Nat) (A : Nat → Nat → Int32) (L : Nat → Nat → Int64) (l1 : Int32) : jEv jtab (d + 3) 169 [.ref 94, .int l1] (Sh0 n, A, L) 0 0 (fun r M2 => r = some (.int (fX11_pass A l1)) ∧ M2 = (Sh0 n, A, L)) :=
  jEv.mk (mt := mX11_pass) rfl (Nat.le_of_ble_eq_true rfl) (jWP.intro (pr := pX11_pass) (pc := 0) (tfX11_pass d n A L l1 rfl ⟨trivial, jCn.mk ⟨rfl, rfl⟩⟩))
set_option maxRecDepth 20000 in
theorem tcX11_feed_33 (d n : Nat) (A : Nat → Nat → Int32) (L : Nat → Nat → Int64) (l1 : Int64) (s : (Int32 × (Nat → Nat → Int32))) {Q : Option Value → jM → Prop} {z : ((Int32 × (Nat → Nat → Int32)) ⊕ (Nat → Nat → Int32))} (h : cX11_feed_33 l1 s = some z) (k1 : ∀ s0, z = .inl s0 → pX11_feed (jEv jtab (d + 1), jWP (jEv jtab (d + 1)) Q ((Sh0 n).length, jsl (Sh0 n)) pX11_feed, Q, ((Sh0 n).length, jsl (Sh0 n))) 33 [some (.ref 94), some (.long l1), none, none, some (.int s0.1)] [] (Sh0 n, s0.2, L)) (k2 : ∀ s0, z = .inr s0 → pX11_feed (jEv jtab (d + 1), jWP (jEv jtab (d + 1)) Q ((Sh0 n).length, jsl (Sh0 n)) pX11_feed, Q, ((Sh0 n).length, jsl (Sh0 n))) 72 [some (.ref 94), none, none, none, none] [] (Sh0 n, s0, L)) : pX11_feed (jEv jtab (d + 1), jWP (jEv jtab (d + 1)) Q ((Sh0 n).length, jsl (Sh0 n)) pX11_feed, Q, ((Sh0 n).length, jsl (Sh0 n))) 33 [some (.ref 94), some (.long l1), none, none, some (.int s.1)] [] (Sh0 n, s.2, L) := by
  unfold cX11_feed_33 at h
  refine y_mask <| x_iload rfl <| y_if_lt (fun h1 => ?_) (fun h1 => ?_)
  · replace h := of_pos h h1
    refine jWP.intro (pr := pX11_feed) (pc := 72) ?_
    have hk := k2 _ (Option.some.inj h).symm
    exact hk
  · replace h := of_neg h h1
    refine jWP.intro (pr := pX11_feed) (pc := 38) ?_
    obtain ⟨g2, h⟩ := of_guard h
    obtain ⟨m3, hm4, h⟩ := of_bind h
    refine y_mask <| x_aload rfl <| x_getR (Nat.le_of_ble_eq_true rfl) rfl rfl <| x_aload rfl <| x_getI (Nat.le_of_ble_eq_true rfl) rfl rfl <| x_lload rfl <| x_push <| x_iload rfl <| x_imul <| x_lshr <| x_l2i <| x_i2b <| x_bast (Nat.le_of_ble_eq_true rfl) rfl g2 <| y_let (Option.some.inj hm4) <| x_aload rfl <| x_dup rfl <| x_getI (Nat.le_of_ble_eq_true rfl) rfl rfl <| x_push <| x_iadd <| x_putI (Nat.le_of_ble_eq_true rfl) rfl rfl <| x_iinc rfl rfl <| y_mask <| y_goto ?_
    refine jWP.intro (pr := pX11_feed) (pc := 33) ?_
    have hk := k1 _ (Option.some.inj h).symm
    exact hk
set_option maxRecDepth 20000 in
theorem tfX11_feed (d n : Nat) (A : Nat → Nat → Int32) (L : Nat → Nat → Int64) (l1 : Int64) (l3 : Int32) {Q : Option Value → jM → Prop} {z : (Int32 × (Nat → Nat → Int32))} (h : fX11_feed A l1 l3 = some z) (k3 : Q (some (.int z.1)) (Sh0 n, z.2, L)) : pX11_feed (jEv jtab (d + 1), jWP (jEv jtab (d + 1)) Q ((Sh0 n).length, jsl (Sh0 n)) pX11_feed, Q, ((Sh0 n).length, jsl (Sh0 n))) 0 [some (.ref 94), some (.long l1), none, some (.int l3), none] [] (Sh0 n, A, L) := by
  unfold fX11_feed at h
  refine y_mask <| x_iload rfl <| x_push <| x_push <| y_invS3 (Nat.le_of_ble_eq_true rfl) <| jEv.exZ (q := 159) rfl (kX11_in _ _ _ _ _ _ _) <| fun hz1 => y_if_ne (fun h2 => ?_) (fun h2 => ?_)
  · replace h := of_neg h h2
    refine jWP.intro (pr := pX11_feed) (pc := 13) ?_
    refine y_mask <| x_aload rfl <| x_getI (Nat.le_of_ble_eq_true rfl) rfl rfl <| x_iload rfl <| x_iadd <| x_push <| y_cmp_le (fun h3 => ?_) (fun h3 => ?_)
    · replace h := of_pos h h3
      refine jWP.intro (pr := pX11_feed) (pc := 28) ?_
      refine y_mask <| x_iload rfl <| x_push <| x_isub <| x_istore rfl <| y_mask <| y_goto ?_
      obtain ⟨e4, hw5, h⟩ := of_bind h
      refine jWP.intro (pr := pX11_feed) (pc := 33) ?_
      refine jwh_use (G := (fun s0 => pX11_feed (jEv jtab (d + 1), jWP (jEv jtab (d + 1)) Q ((Sh0 n).length, jsl (Sh0 n)) pX11_feed, Q, ((Sh0 n).length, jsl (Sh0 n))) 33 [some (.ref 94), some (.long l1), none, none, some (.int s0.1)] [] (Sh0 n, s0.2, L))) (Gx := (fun s0 => pX11_feed (jEv jtab (d + 1), jWP (jEv jtab (d + 1)) Q ((Sh0 n).length, jsl (Sh0 n)) pX11_feed, Q, ((Sh0 n).length, jsl (Sh0 n))) 72 [some (.ref 94), none, none, none, none] [] (Sh0 n, s0, L))) (fun s1 z1 hz kk1 kk2 => tcX11_feed_33 d n A L l1 s1 hz kk1 kk2) hw5 ?_
      refine y_mask <| x_aload rfl <| x_getI (Nat.le_of_ble_eq_true rfl) rfl rfl <| y_ireturn (ls := [some (.ref 94), none, none, none, none]) ?_
      obtain rfl := Option.some.inj h
      exact k3
    · replace h := of_neg h h3
      refine jWP.intro (pr := pX11_feed) (pc := 25) ?_
      refine y_mpri (bs := []) (ls := []) ?_
      obtain rfl := Option.some.inj h
      exact k3
  · replace h := of_pos h h2
    refine jWP.intro (pr := pX11_feed) (pc := 10) ?_
    refine y_mpri (bs := []) (ls := []) ?_
    obtain rfl := Option.some.inj h
    exact k3
theorem kX11_feed (d n : Nat) (A : Nat → Nat → Int32) (L : Nat → Nat → Int64) (l1 : Int64) (l3 : Int32) {z : (Int32 × (Nat → Nat → Int32))} (h : fX11_feed A l1 l3 = some z) : jEv jtab (d + 2) 170 [.ref 94, .long l1, .int l3] (Sh0 n, A, L) 0 0 (fun r M2 => r = some (.int z.1) ∧ M2 = (Sh0 n, z.2, L)) :=
  jEv.mk (mt := mX11_feed) rfl (Nat.le_of_ble_eq_true rfl) (jWP.intro (pr := pX11_feed) (pc := 0) (tfX11_feed d n A L l1 l3 h ⟨trivial, jCn.mk ⟨rfl, rfl⟩⟩))
set_option maxRecDepth 20000 in
theorem tfX11_isLetter (d n : Nat) (A : Nat → Nat → Int32) (L : Nat → Nat → Int64) (l0 : Int32) {Q : Option Value → jM → Prop} {z : Int32} (h : fX11_isLetter l0 = z) (k3 : (narrow .boolean (.int z) = .int z) → Q (some (.int z)) (Sh0 n, A, L)) : pX11_isLetter (jEv jtab (d + 1), jWP (jEv jtab (d + 1)) Q ((Sh0 n).length, jsl (Sh0 n)) pX11_isLetter, Q, ((Sh0 n).length, jsl (Sh0 n))) 0 [some (.int l0)] [] (Sh0 n, A, L) := by
  unfold fX11_isLetter at h
  refine y_mask <| x_iload rfl <| x_push <| x_push <| y_invS3 (Nat.le_of_ble_eq_true rfl) <| jEv.exZ (q := 159) rfl (kX11_in _ _ _ _ _ _ _) <| fun hz1 => y_ireturn (ls := [some (.int l0)]) ?_
  subst h
  exact k3 hz1
theorem kX11_isLetter (d n : Nat) (A : Nat → Nat → Int32) (L : Nat → Nat → Int64) (l0 : Int32) : jEv jtab (d + 2) 171 [.int l0] (Sh0 n, A, L) 0 0 (fun r M2 => r = some (.int (fX11_isLetter l0)) ∧ M2 = (Sh0 n, A, L)) :=
  jEv.mk (mt := mX11_isLetter) rfl (Nat.le_of_ble_eq_true rfl) (jWP.intro (pr := pX11_isLetter) (pc := 0) (tfX11_isLetter d n A L l0 rfl (fun hz => ⟨hz, jCn.mk ⟨rfl, rfl⟩⟩)))
set_option maxRecDepth 20000 in
theorem tfX11_isDigit (d n : Nat) (A : Nat → Nat → Int32) (L : Nat → Nat → Int64) (l0 : Int32) {Q : Option Value → jM → Prop} {z : Int32} (h : fX11_isDigit l0 = z) (k3 : (narrow .boolean (.int z) = .int z) → Q (some (.int z)) (Sh0 n, A, L)) : pX11_isDigit (jEv jtab (d + 1), jWP (jEv jtab (d + 1)) Q ((Sh0 n).length, jsl (Sh0 n)) pX11_isDigit, Q, ((Sh0 n).length, jsl (Sh0 n))) 0 [some (.int l0)] [] (Sh0 n, A, L) := by
  unfold fX11_isDigit at h
  refine y_mask <| x_iload rfl <| x_push <| x_push <| y_invS3 (Nat.le_of_ble_eq_true rfl) <| jEv.exZ (q := 159) rfl (kX11_in _ _ _ _ _ _ _) <| fun hz1 => y_ireturn (ls := [some (.int l0)]) ?_
  subst h
  exact k3 hz1
theorem kX11_isDigit (d n : Nat) (A : Nat → Nat → Int32) (L : Nat → Nat → Int64) (l0 : Int32) : jEv jtab (d + 2) 172 [.int l0] (Sh0 n, A, L) 0 0 (fun r M2 => r = some (.int (fX11_isDigit l0)) ∧ M2 = (Sh0 n, A, L)) :=
  jEv.mk (mt := mX11_isDigit) rfl (Nat.le_of_ble_eq_true rfl) (jWP.intro (pr := pX11_isDigit) (pc := 0) (tfX11_isDigit d n A L l0 rfl (fun hz => ⟨hz, jCn.mk ⟨rfl, rfl⟩⟩)))
set_option maxRecDepth 20000 in
theorem tjX11_wordNow_52_18 (d n : Nat) (A : Nat → Nat → Int32) (L : Nat → Nat → Int64) (l1 : Int32) (l2 : Int32) (l3 : Int32) {Q : Option Value → jM → Prop} {z : ((Int32 × Int32 × Int32) ⊕ (Int32 × Int32 × Int32))} (h : jX11_wordNow_52_18 A l1 l2 l3 = some z) (k1 : ∀ s0, z = .inl s0 → pX11_wordNow (jEv jtab (d + 0), jWP (jEv jtab (d + 0)) Q ((Sh0 n).length, jsl (Sh0 n)) pX11_wordNow, Q, ((Sh0 n).length, jsl (Sh0 n))) 18 [some (.ref 94), some (.int s0.1), some (.int l2), some (.int s0.2.1), some (.int s0.2.2)] [] (Sh0 n, A, L)) (k2 : ∀ s0, z = .inr s0 → pX11_wordNow (jEv jtab (d + 0), jWP (jEv jtab (d + 0)) Q ((Sh0 n).length, jsl (Sh0 n)) pX11_wordNow, Q, ((Sh0 n).length, jsl (Sh0 n))) 64 [some (.ref 94), some (.int s0.1), some (.int l2), some (.int s0.2.1), some (.int s0.2.2)] [] (Sh0 n, A, L)) : pX11_wordNow (jEv jtab (d + 0), jWP (jEv jtab (d + 0)) Q ((Sh0 n).length, jsl (Sh0 n)) pX11_wordNow, Q, ((Sh0 n).length, jsl (Sh0 n))) 52 [some (.ref 94), some (.int l1), some (.int l2), some (.int l3), none] [] (Sh0 n, A, L) := by
  unfold jX11_wordNow_52_18 at h
  refine y_mask <| x_push <| x_istore rfl <| y_mask <| y_goto ?_
  refine jWP.intro (pr := pX11_wordNow) (pc := 55) ?_
  refine y_mask <| x_iinc rfl rfl <| x_iinc rfl rfl <| y_mask <| y_goto ?_
  refine jWP.intro (pr := pX11_wordNow) (pc := 18) ?_
  have hk := k1 _ (Option.some.inj h).symm
  exact hk
set_option maxRecDepth 20000 in
theorem tcX11_wordNow_18 (d n : Nat) (A : Nat → Nat → Int32) (L : Nat → Nat → Int64) (l2 : Int32) (s : (Int32 × Int32 × Int32)) {Q : Option Value → jM → Prop} {z : ((Int32 × Int32 × Int32) ⊕ (Int32 × Int32 × Int32))} (h : cX11_wordNow_18 A l2 s = some z) (k1 : ∀ s0, z = .inl s0 → pX11_wordNow (jEv jtab (d + 0), jWP (jEv jtab (d + 0)) Q ((Sh0 n).length, jsl (Sh0 n)) pX11_wordNow, Q, ((Sh0 n).length, jsl (Sh0 n))) 18 [some (.ref 94), some (.int s0.1), some (.int l2), some (.int s0.2.1), some (.int s0.2.2)] [] (Sh0 n, A, L)) (k2 : ∀ s0, z = .inr s0 → pX11_wordNow (jEv jtab (d + 0), jWP (jEv jtab (d + 0)) Q ((Sh0 n).length, jsl (Sh0 n)) pX11_wordNow, Q, ((Sh0 n).length, jsl (Sh0 n))) 64 [some (.ref 94), some (.int s0.1), some (.int l2), some (.int s0.2.1), some (.int s0.2.2)] [] (Sh0 n, A, L)) : pX11_wordNow (jEv jtab (d + 0), jWP (jEv jtab (d + 0)) Q ((Sh0 n).length, jsl (Sh0 n)) pX11_wordNow, Q, ((Sh0 n).length, jsl (Sh0 n))) 18 [some (.ref 94), some (.int s.1), some (.int l2), some (.int s.2.1), some (.int s.2.2)] [] (Sh0 n, A, L) := by
  unfold cX11_wordNow_18 at h
  obtain ⟨g1, h⟩ := of_guard h
  refine y_mask <| x_aload rfl <| x_getR (Nat.le_of_ble_eq_true rfl) rfl rfl <| x_iload rfl <| x_iald rfl g1 <| x_push <| y_cmp_eq (fun h2 => ?_) (fun h2 => ?_)
  · replace h := of_pos h h2
    refine jWP.intro (pr := pX11_wordNow) (pc := 64) ?_
    have hk := k2 _ (Option.some.inj h).symm
    exact hk
  · replace h := of_neg h h2
    refine jWP.intro (pr := pX11_wordNow) (pc := 29) ?_
    refine y_mask <| x_iload rfl <| x_aload rfl <| x_getI (Nat.le_of_ble_eq_true rfl) rfl rfl <| y_cmp_ge (fun h3 => ?_) (fun h3 => ?_)
    · replace h := of_pos h h3
      refine jWP.intro (pr := pX11_wordNow) (pc := 52) ?_
      exact tjX11_wordNow_52_18 d n A L s.1 l2 s.2.1 h k1 k2
    · replace h := of_neg h h3
      refine jWP.intro (pr := pX11_wordNow) (pc := 37) ?_
      obtain ⟨g4, h⟩ := of_guard h
      obtain ⟨g5, h⟩ := of_guard h
      refine y_mask <| x_aload rfl <| x_getR (Nat.le_of_ble_eq_true rfl) rfl rfl <| x_iload rfl <| x_bald rfl g4 <| x_aload rfl <| x_getR (Nat.le_of_ble_eq_true rfl) rfl rfl <| x_iload rfl <| x_iald rfl g5 <| y_cmp_eq (fun h6 => ?_) (fun h6 => ?_)
      · replace h := of_pos h h6
        refine jWP.intro (pr := pX11_wordNow) (pc := 55) ?_
        refine y_mask <| x_iinc rfl rfl <| x_iinc rfl rfl <| y_mask <| y_goto ?_
        refine jWP.intro (pr := pX11_wordNow) (pc := 18) ?_
        have hk := k1 _ (Option.some.inj h).symm
        exact hk
      · replace h := of_neg h h6
        refine jWP.intro (pr := pX11_wordNow) (pc := 52) ?_
        exact tjX11_wordNow_52_18 d n A L s.1 l2 s.2.1 h k1 k2
set_option maxRecDepth 20000 in
theorem tcX11_wordNow_4 (d n : Nat) (A : Nat → Nat → Int32) (L : Nat → Nat → Int64) (s : (Int32 × Int32)) {Q : Option Value → jM → Prop} {z : ((Int32 × Int32) ⊕ (Unit ⊕ Int32))} (h : cX11_wordNow_4 A s = some z) (k1 : ∀ s0, z = .inl s0 → pX11_wordNow (jEv jtab (d + 0), jWP (jEv jtab (d + 0)) Q ((Sh0 n).length, jsl (Sh0 n)) pX11_wordNow, Q, ((Sh0 n).length, jsl (Sh0 n))) 4 [some (.ref 94), some (.int s0.1), some (.int s0.2), none, none] [] (Sh0 n, A, L)) (k2 : ∀ s0, z = .inr (.inl s0) → pX11_wordNow (jEv jtab (d + 0), jWP (jEv jtab (d + 0)) Q ((Sh0 n).length, jsl (Sh0 n)) pX11_wordNow, Q, ((Sh0 n).length, jsl (Sh0 n))) 93 [none, none, none, none, none] [] (Sh0 n, A, L)) (k3 : ∀ s0, z = .inr (.inr s0) → Q (some (.int s0)) (Sh0 n, A, L)) : pX11_wordNow (jEv jtab (d + 0), jWP (jEv jtab (d + 0)) Q ((Sh0 n).length, jsl (Sh0 n)) pX11_wordNow, Q, ((Sh0 n).length, jsl (Sh0 n))) 4 [some (.ref 94), some (.int s.1), some (.int s.2), none, none] [] (Sh0 n, A, L) := by
  unfold cX11_wordNow_4 at h
  refine y_mask <| x_iload rfl <| x_push <| y_cmp_ge (fun h1 => ?_) (fun h1 => ?_)
  · replace h := of_pos h h1
    refine jWP.intro (pr := pX11_wordNow) (pc := 93) ?_
    have hk := k2 _ (Option.some.inj h).symm
    exact hk
  · replace h := of_neg h h1
    refine jWP.intro (pr := pX11_wordNow) (pc := 10) ?_
    refine y_mask <| x_aload rfl <| x_getI (Nat.le_of_ble_eq_true rfl) rfl rfl <| x_istore rfl <| x_push <| x_istore rfl <| y_mask <| y_goto ?_
    obtain ⟨e2, hw3, h⟩ := of_bind h
    refine jWP.intro (pr := pX11_wordNow) (pc := 18) ?_
    refine jwh_use (G := (fun s0 => pX11_wordNow (jEv jtab (d + 0), jWP (jEv jtab (d + 0)) Q ((Sh0 n).length, jsl (Sh0 n)) pX11_wordNow, Q, ((Sh0 n).length, jsl (Sh0 n))) 18 [some (.ref 94), some (.int s0.1), some (.int s.2), some (.int s0.2.1), some (.int s0.2.2)] [] (Sh0 n, A, L))) (Gx := (fun s0 => pX11_wordNow (jEv jtab (d + 0), jWP (jEv jtab (d + 0)) Q ((Sh0 n).length, jsl (Sh0 n)) pX11_wordNow, Q, ((Sh0 n).length, jsl (Sh0 n))) 64 [some (.ref 94), some (.int s0.1), some (.int s.2), some (.int s0.2.1), some (.int s0.2.2)] [] (Sh0 n, A, L))) (fun s1 z1 hz kk1 kk2 => tcX11_wordNow_18 d n A L s.2 s1 hz kk1 kk2) hw3 ?_
    refine y_mask <| x_iinc rfl rfl <| x_iload rfl <| y_if_eq (fun h4 => ?_) (fun h4 => ?_)
    · replace h := of_pos h h4
      refine jWP.intro (pr := pX11_wordNow) (pc := 87) ?_
      refine y_mask <| x_iinc rfl rfl <| y_mask <| y_goto ?_
      refine jWP.intro (pr := pX11_wordNow) (pc := 4) ?_
      have hk := k1 _ (Option.some.inj h).symm
      exact hk
    · replace h := of_neg h h4
      refine jWP.intro (pr := pX11_wordNow) (pc := 72) ?_
      refine y_mask <| x_iload rfl <| x_aload rfl <| x_getI (Nat.le_of_ble_eq_true rfl) rfl rfl <| y_cmp_ne (fun h5 => ?_) (fun h5 => ?_)
      · replace h := of_neg h h5
        refine jWP.intro (pr := pX11_wordNow) (pc := 87) ?_
        refine y_mask <| x_iinc rfl rfl <| y_mask <| y_goto ?_
        refine jWP.intro (pr := pX11_wordNow) (pc := 4) ?_
        have hk := k1 _ (Option.some.inj h).symm
        exact hk
      · replace h := of_pos h h5
        refine jWP.intro (pr := pX11_wordNow) (pc := 80) ?_
        obtain ⟨g6, h⟩ := of_guard h
        refine y_mask <| x_aload rfl <| x_getR (Nat.le_of_ble_eq_true rfl) rfl rfl <| x_iload rfl <| x_iald rfl g6 <| y_ireturn (ls := [some (.ref 94), none, some (.int s.2), none, none]) ?_
        have hk := k3 _ (Option.some.inj h).symm
        exact hk
set_option maxRecDepth 20000 in
theorem tfX11_wordNow (d n : Nat) (A : Nat → Nat → Int32) (L : Nat → Nat → Int64) {Q : Option Value → jM → Prop} {z : Int32} (h : fX11_wordNow A = some z) (k3 : Q (some (.int z)) (Sh0 n, A, L)) : pX11_wordNow (jEv jtab (d + 0), jWP (jEv jtab (d + 0)) Q ((Sh0 n).length, jsl (Sh0 n)) pX11_wordNow, Q, ((Sh0 n).length, jsl (Sh0 n))) 0 [some (.ref 94), none, none, none, none] [] (Sh0 n, A, L) := by
  unfold fX11_wordNow at h
  refine y_mask <| x_push <| x_istore rfl <| x_push <| x_istore rfl <| y_mask <| y_goto ?_
  obtain ⟨e1y, hw2, h⟩ := of_bind h
  refine jWP.intro (pr := pX11_wordNow) (pc := 4) ?_
  refine jwh_use2 (G := (fun s0 => pX11_wordNow (jEv jtab (d + 0), jWP (jEv jtab (d + 0)) Q ((Sh0 n).length, jsl (Sh0 n)) pX11_wordNow, Q, ((Sh0 n).length, jsl (Sh0 n))) 4 [some (.ref 94), some (.int s0.1), some (.int s0.2), none, none] [] (Sh0 n, A, L))) (Gx := (fun s0 => pX11_wordNow (jEv jtab (d + 0), jWP (jEv jtab (d + 0)) Q ((Sh0 n).length, jsl (Sh0 n)) pX11_wordNow, Q, ((Sh0 n).length, jsl (Sh0 n))) 93 [none, none, none, none, none] [] (Sh0 n, A, L))) (Gr := (fun s0 => Q (some (.int s0)) (Sh0 n, A, L))) (fun s1 z1 hz kk1 kk2 kk3 => tcX11_wordNow_4 d n A L s1 hz kk1 kk2 kk3) hw2 ?_ ?_
  · intro e1 hy
    subst hy
    replace h : (some (-1 : Int32)) = some z := h
    refine y_mpri (bs := []) (ls := []) ?_
    obtain rfl := Option.some.inj h
    exact k3
  · intro s0 hy
    subst hy
    replace h : some s0 = some z := h
    obtain rfl := Option.some.inj h
    exact k3
theorem kX11_wordNow (d n : Nat) (A : Nat → Nat → Int32) (L : Nat → Nat → Int64) {z : Int32} (h : fX11_wordNow A = some z) : jEv jtab (d + 1) 173 [.ref 94] (Sh0 n, A, L) 0 0 (fun r M2 => r = some (.int z) ∧ M2 = (Sh0 n, A, L)) :=
  jEv.mk (mt := mX11_wordNow) rfl (Nat.le_of_ble_eq_true rfl) (jWP.intro (pr := pX11_wordNow) (pc := 0) (tfX11_wordNow d n A L h ⟨trivial, jCn.mk ⟨rfl, rfl⟩⟩))
set_option maxRecDepth 20000 in
theorem tjX11_next_47_8 (d n : Nat) (A : Nat → Nat → Int32) (L : Nat → Nat → Int64) {Q : Option Value → jM → Prop} {z : ((Nat → Nat → Int32) ⊕ (Nat → Nat → Int32))} (h : jX11_next_47_8 A = some z) (k1 : ∀ s0, z = .inl s0 → pX11_next (jEv jtab (d + 2), jWP (jEv jtab (d + 2)) Q ((Sh0 n).length, jsl (Sh0 n)) pX11_next, Q, ((Sh0 n).length, jsl (Sh0 n))) 8 [some (.ref 94), none] [] (Sh0 n, s0, L)) (k2 : ∀ s0, z = .inr s0 → pX11_next (jEv jtab (d + 2), jWP (jEv jtab (d + 2)) Q ((Sh0 n).length, jsl (Sh0 n)) pX11_next, Q, ((Sh0 n).length, jsl (Sh0 n))) 60 [some (.ref 94), none] [] (Sh0 n, s0, L)) : pX11_next (jEv jtab (d + 2), jWP (jEv jtab (d + 2)) Q ((Sh0 n).length, jsl (Sh0 n)) pX11_next, Q, ((Sh0 n).length, jsl (Sh0 n))) 47 [some (.ref 94), none] [] (Sh0 n, A, L) := by
  unfold jX11_next_47_8 at h
  refine y_mask <| x_aload rfl <| x_dup rfl <| x_getI (Nat.le_of_ble_eq_true rfl) rfl rfl <| x_push <| x_iadd <| x_putI (Nat.le_of_ble_eq_true rfl) rfl rfl <| y_mask <| y_goto ?_
  refine jWP.intro (pr := pX11_next) (pc := 8) ?_
  have hk := k1 _ (Option.some.inj h).symm
  exact hk
set_option maxRecDepth 20000 in
theorem tcX11_next_8 (d n : Nat) (A : Nat → Nat → Int32) (L : Nat → Nat → Int64) (s : (Nat → Nat → Int32)) {Q : Option Value → jM → Prop} {z : ((Nat → Nat → Int32) ⊕ (Nat → Nat → Int32))} (h : cX11_next_8 s = some z) (k1 : ∀ s0, z = .inl s0 → pX11_next (jEv jtab (d + 2), jWP (jEv jtab (d + 2)) Q ((Sh0 n).length, jsl (Sh0 n)) pX11_next, Q, ((Sh0 n).length, jsl (Sh0 n))) 8 [some (.ref 94), none] [] (Sh0 n, s0, L)) (k2 : ∀ s0, z = .inr s0 → pX11_next (jEv jtab (d + 2), jWP (jEv jtab (d + 2)) Q ((Sh0 n).length, jsl (Sh0 n)) pX11_next, Q, ((Sh0 n).length, jsl (Sh0 n))) 60 [some (.ref 94), none] [] (Sh0 n, s0, L)) : pX11_next (jEv jtab (d + 2), jWP (jEv jtab (d + 2)) Q ((Sh0 n).length, jsl (Sh0 n)) pX11_next, Q, ((Sh0 n).length, jsl (Sh0 n))) 8 [some (.ref 94), none] [] (Sh0 n, s, L) := by
  unfold cX11_next_8 at h
  refine y_mask <| x_aload rfl <| x_getI (Nat.le_of_ble_eq_true rfl) rfl rfl <| x_aload rfl <| x_getI (Nat.le_of_ble_eq_true rfl) rfl rfl <| y_cmp_ge (fun h1 => ?_) (fun h1 => ?_)
  · replace h := of_pos h h1
    refine jWP.intro (pr := pX11_next) (pc := 60) ?_
    have hk := k2 _ (Option.some.inj h).symm
    exact hk
  · replace h := of_neg h h1
    refine jWP.intro (pr := pX11_next) (pc := 19) ?_
    obtain ⟨g2, h⟩ := of_guard h
    refine y_mask <| x_aload rfl <| x_getR (Nat.le_of_ble_eq_true rfl) rfl rfl <| x_aload rfl <| x_getI (Nat.le_of_ble_eq_true rfl) rfl rfl <| x_bald rfl g2 <| x_push <| y_cmp_eq (fun h3 => ?_) (fun h3 => ?_)
    · replace h := of_pos h h3
      refine jWP.intro (pr := pX11_next) (pc := 47) ?_
      exact tjX11_next_47_8 d n s L h k1 k2
    · replace h := of_neg h h3
      refine jWP.intro (pr := pX11_next) (pc := 33) ?_
      obtain ⟨g4, h⟩ := of_guard h
      refine y_mask <| x_aload rfl <| x_getR (Nat.le_of_ble_eq_true rfl) rfl rfl <| x_aload rfl <| x_getI (Nat.le_of_ble_eq_true rfl) rfl rfl <| x_bald rfl g4 <| x_push <| y_cmp_ne (fun h5 => ?_) (fun h5 => ?_)
      · replace h := of_neg h h5
        refine jWP.intro (pr := pX11_next) (pc := 60) ?_
        have hk := k2 _ (Option.some.inj h).symm
        exact hk
      · replace h := of_pos h h5
        refine jWP.intro (pr := pX11_next) (pc := 47) ?_
        exact tjX11_next_47_8 d n s L h k1 k2
set_option maxRecDepth 20000 in
theorem tjX11_next_251_188 (d n : Nat) (A : Nat → Nat → Int32) (L : Nat → Nat → Int64) {Q : Option Value → jM → Prop} {z : ((Nat → Nat → Int32) ⊕ (Nat → Nat → Int32))} (h : jX11_next_251_188 A = some z) (k1 : ∀ s0, z = .inl s0 → pX11_next (jEv jtab (d + 2), jWP (jEv jtab (d + 2)) Q ((Sh0 n).length, jsl (Sh0 n)) pX11_next, Q, ((Sh0 n).length, jsl (Sh0 n))) 188 [some (.ref 94), none] [] (Sh0 n, s0, L)) (k2 : ∀ s0, z = .inr s0 → pX11_next (jEv jtab (d + 2), jWP (jEv jtab (d + 2)) Q ((Sh0 n).length, jsl (Sh0 n)) pX11_next, Q, ((Sh0 n).length, jsl (Sh0 n))) 264 [some (.ref 94), none] [] (Sh0 n, s0, L)) : pX11_next (jEv jtab (d + 2), jWP (jEv jtab (d + 2)) Q ((Sh0 n).length, jsl (Sh0 n)) pX11_next, Q, ((Sh0 n).length, jsl (Sh0 n))) 251 [some (.ref 94), none] [] (Sh0 n, A, L) := by
  unfold jX11_next_251_188 at h
  refine y_mask <| x_aload rfl <| x_dup rfl <| x_getI (Nat.le_of_ble_eq_true rfl) rfl rfl <| x_push <| x_iadd <| x_putI (Nat.le_of_ble_eq_true rfl) rfl rfl <| y_mask <| y_goto ?_
  refine jWP.intro (pr := pX11_next) (pc := 188) ?_
  have hk := k1 _ (Option.some.inj h).symm
  exact hk
set_option maxRecDepth 20000 in
theorem tcX11_next_188 (d n : Nat) (A : Nat → Nat → Int32) (L : Nat → Nat → Int64) (s : (Nat → Nat → Int32)) {Q : Option Value → jM → Prop} {z : ((Nat → Nat → Int32) ⊕ (Nat → Nat → Int32))} (h : cX11_next_188 s = some z) (k1 : ∀ s0, z = .inl s0 → pX11_next (jEv jtab (d + 2), jWP (jEv jtab (d + 2)) Q ((Sh0 n).length, jsl (Sh0 n)) pX11_next, Q, ((Sh0 n).length, jsl (Sh0 n))) 188 [some (.ref 94), none] [] (Sh0 n, s0, L)) (k2 : ∀ s0, z = .inr s0 → pX11_next (jEv jtab (d + 2), jWP (jEv jtab (d + 2)) Q ((Sh0 n).length, jsl (Sh0 n)) pX11_next, Q, ((Sh0 n).length, jsl (Sh0 n))) 264 [some (.ref 94), none] [] (Sh0 n, s0, L)) : pX11_next (jEv jtab (d + 2), jWP (jEv jtab (d + 2)) Q ((Sh0 n).length, jsl (Sh0 n)) pX11_next, Q, ((Sh0 n).length, jsl (Sh0 n))) 188 [some (.ref 94), none] [] (Sh0 n, s, L) := by
  unfold cX11_next_188 at h
  refine y_mask <| x_aload rfl <| x_getI (Nat.le_of_ble_eq_true rfl) rfl rfl <| x_aload rfl <| x_getI (Nat.le_of_ble_eq_true rfl) rfl rfl <| y_cmp_ge (fun h1 => ?_) (fun h1 => ?_)
  · replace h := of_pos h h1
    refine jWP.intro (pr := pX11_next) (pc := 264) ?_
    have hk := k2 _ (Option.some.inj h).symm
    exact hk
  · replace h := of_neg h h1
    refine jWP.intro (pr := pX11_next) (pc := 199) ?_
    obtain ⟨g2, h⟩ := of_guard h
    refine y_mask <| x_aload rfl <| x_getR (Nat.le_of_ble_eq_true rfl) rfl rfl <| x_aload rfl <| x_getI (Nat.le_of_ble_eq_true rfl) rfl rfl <| x_bald rfl g2 <| y_invS1 (Nat.le_of_ble_eq_true rfl) <| jEv.exZ (q := 172) rfl (kX11_isDigit _ _ _ _ _) <| fun hz3 => y_if_eq (fun h4 => ?_) (fun h4 => ?_)
    · replace h := of_pos h h4
      refine jWP.intro (pr := pX11_next) (pc := 264) ?_
      have hk := k2 _ (Option.some.inj h).symm
      exact hk
    · replace h := of_neg h h4
      refine jWP.intro (pr := pX11_next) (pc := 214) ?_
      refine y_mask <| x_aload rfl <| x_getI (Nat.le_of_ble_eq_true rfl) rfl rfl <| x_aload rfl <| x_getI (Nat.le_of_ble_eq_true rfl) rfl rfl <| x_isub <| x_push <| y_cmp_ge (fun h5 => ?_) (fun h5 => ?_)
      · replace h := of_pos h h5
        refine jWP.intro (pr := pX11_next) (pc := 251) ?_
        exact tjX11_next_251_188 d n s L h k1 k2
      · replace h := of_neg h h5
        refine jWP.intro (pr := pX11_next) (pc := 227) ?_
        obtain ⟨g6, h⟩ := of_guard h
        refine y_mask <| x_aload rfl <| x_push <| x_aload rfl <| x_getI (Nat.le_of_ble_eq_true rfl) rfl rfl <| x_imul <| x_aload rfl <| x_getR (Nat.le_of_ble_eq_true rfl) rfl rfl <| x_aload rfl <| x_getI (Nat.le_of_ble_eq_true rfl) rfl rfl <| x_bald rfl g6 <| x_iadd <| x_push <| x_isub <| x_putI (Nat.le_of_ble_eq_true rfl) rfl rfl <| y_mask <| y_goto ?_
        refine jWP.intro (pr := pX11_next) (pc := 251) ?_
        exact tjX11_next_251_188 d n (va_up s 94 (upd (s 94) 16 ((((10 : Int32) * (s 94 16)) + (s 97 (jx (s 94 14)))) - (48 : Int32)))) L h k1 k2
set_option maxRecDepth 20000 in
theorem tjX11_next_264 (d n : Nat) (A : Nat → Nat → Int32) (L : Nat → Nat → Int64) {Q : Option Value → jM → Prop} {z : (Nat → Nat → Int32)} (h : jX11_next_264 A = some z) (k3 : Q (none) (Sh0 n, z, L)) : pX11_next (jEv jtab (d + 2), jWP (jEv jtab (d + 2)) Q ((Sh0 n).length, jsl (Sh0 n)) pX11_next, Q, ((Sh0 n).length, jsl (Sh0 n))) 264 [some (.ref 94), none] [] (Sh0 n, A, L) := by
  unfold jX11_next_264 at h
  refine y_mask <| x_aload rfl <| x_aload rfl <| x_getI (Nat.le_of_ble_eq_true rfl) rfl rfl <| x_aload rfl <| x_getI (Nat.le_of_ble_eq_true rfl) rfl rfl <| x_isub <| x_push <| y_cmp_le (fun h1 => ?_) (fun h1 => ?_)
  · replace h := of_pos h h1
    refine jWP.intro (pr := pX11_next) (pc := 282) ?_
    refine y_mask <| x_push <| y_mask <| y_goto ?_
    refine jWP.intro (pr := pX11_next) (pc := 283) ?_
    refine y_mask <| x_putI (Nat.le_of_ble_eq_true rfl) rfl rfl <| y_mask <| y_goto ?_
    refine jWP.intro (pr := pX11_next) (pc := 361) ?_
    refine y_mrv (bs := []) (ls := []) ?_
    obtain rfl := Option.some.inj h
    exact k3
  · replace h := of_neg h h1
    refine jWP.intro (pr := pX11_next) (pc := 278) ?_
    refine y_mask <| x_push <| y_mask <| y_goto ?_
    refine jWP.intro (pr := pX11_next) (pc := 283) ?_
    refine y_mask <| x_putI (Nat.le_of_ble_eq_true rfl) rfl rfl <| y_mask <| y_goto ?_
    refine jWP.intro (pr := pX11_next) (pc := 361) ?_
    refine y_mrv (bs := []) (ls := []) ?_
    obtain rfl := Option.some.inj h
    exact k3
set_option maxRecDepth 20000 in
theorem tcX11_next_110 (d n : Nat) (A : Nat → Nat → Int32) (L : Nat → Nat → Int64) (s : (Nat → Nat → Int32)) {Q : Option Value → jM → Prop} {z : ((Nat → Nat → Int32) ⊕ (Nat → Nat → Int32))} (h : cX11_next_110 s = some z) (k1 : ∀ s0, z = .inl s0 → pX11_next (jEv jtab (d + 2), jWP (jEv jtab (d + 2)) Q ((Sh0 n).length, jsl (Sh0 n)) pX11_next, Q, ((Sh0 n).length, jsl (Sh0 n))) 110 [some (.ref 94), none] [] (Sh0 n, s0, L)) (k2 : ∀ s0, z = .inr s0 → pX11_next (jEv jtab (d + 2), jWP (jEv jtab (d + 2)) Q ((Sh0 n).length, jsl (Sh0 n)) pX11_next, Q, ((Sh0 n).length, jsl (Sh0 n))) 149 [some (.ref 94), none] [] (Sh0 n, s0, L)) : pX11_next (jEv jtab (d + 2), jWP (jEv jtab (d + 2)) Q ((Sh0 n).length, jsl (Sh0 n)) pX11_next, Q, ((Sh0 n).length, jsl (Sh0 n))) 110 [some (.ref 94), none] [] (Sh0 n, s, L) := by
  unfold cX11_next_110 at h
  refine y_mask <| x_aload rfl <| x_getI (Nat.le_of_ble_eq_true rfl) rfl rfl <| x_aload rfl <| x_getI (Nat.le_of_ble_eq_true rfl) rfl rfl <| y_cmp_ge (fun h1 => ?_) (fun h1 => ?_)
  · replace h := of_pos h h1
    refine jWP.intro (pr := pX11_next) (pc := 149) ?_
    have hk := k2 _ (Option.some.inj h).symm
    exact hk
  · replace h := of_neg h h1
    refine jWP.intro (pr := pX11_next) (pc := 121) ?_
    obtain ⟨g2, h⟩ := of_guard h
    refine y_mask <| x_aload rfl <| x_getR (Nat.le_of_ble_eq_true rfl) rfl rfl <| x_aload rfl <| x_getI (Nat.le_of_ble_eq_true rfl) rfl rfl <| x_bald rfl g2 <| y_invS1 (Nat.le_of_ble_eq_true rfl) <| jEv.exZ (q := 171) rfl (kX11_isLetter _ _ _ _ _) <| fun hz3 => y_if_eq (fun h4 => ?_) (fun h4 => ?_)
    · replace h := of_pos h h4
      refine jWP.intro (pr := pX11_next) (pc := 149) ?_
      have hk := k2 _ (Option.some.inj h).symm
      exact hk
    · replace h := of_neg h h4
      refine jWP.intro (pr := pX11_next) (pc := 136) ?_
      refine y_mask <| x_aload rfl <| x_dup rfl <| x_getI (Nat.le_of_ble_eq_true rfl) rfl rfl <| x_push <| x_iadd <| x_putI (Nat.le_of_ble_eq_true rfl) rfl rfl <| y_mask <| y_goto ?_
      refine jWP.intro (pr := pX11_next) (pc := 110) ?_
      have hk := k1 _ (Option.some.inj h).symm
      exact hk
set_option maxRecDepth 20000 in
theorem tjX11_next_149 (d n : Nat) (A : Nat → Nat → Int32) (L : Nat → Nat → Int64) {Q : Option Value → jM → Prop} {z : (Nat → Nat → Int32)} (h : jX11_next_149 A = some z) (k3 : Q (none) (Sh0 n, z, L)) : pX11_next (jEv jtab (d + 2), jWP (jEv jtab (d + 2)) Q ((Sh0 n).length, jsl (Sh0 n)) pX11_next, Q, ((Sh0 n).length, jsl (Sh0 n))) 149 [some (.ref 94), none] [] (Sh0 n, A, L) := by
  unfold jX11_next_149 at h
  obtain ⟨r1, hc2, h⟩ := of_bind h
  refine y_mask <| x_aload rfl <| x_aload rfl <| y_invV0 (Nat.le_of_ble_eq_true rfl) rfl (Nat.le_of_ble_eq_true rfl) <| jEv.exI (kX11_wordNow _ _ _ _ hc2) <| x_putI (Nat.le_of_ble_eq_true rfl) rfl rfl <| x_aload rfl <| x_aload rfl <| x_getI (Nat.le_of_ble_eq_true rfl) rfl rfl <| y_if_ge (fun h3 => ?_) (fun h3 => ?_)
  · replace h := of_pos h h3
    refine jWP.intro (pr := pX11_next) (pc := 169) ?_
    refine y_mask <| x_push <| y_mask <| y_goto ?_
    refine jWP.intro (pr := pX11_next) (pc := 170) ?_
    obtain ⟨m4, hm5, h⟩ := of_bind h
    refine y_mask <| x_putI (Nat.le_of_ble_eq_true rfl) rfl rfl <| y_let (Option.some.inj hm5) <| y_mask <| y_goto ?_
    refine jWP.intro (pr := pX11_next) (pc := 361) ?_
    refine y_mrv (bs := []) (ls := []) ?_
    obtain rfl := Option.some.inj h
    exact k3
  · replace h := of_neg h h3
    refine jWP.intro (pr := pX11_next) (pc := 165) ?_
    refine y_mask <| x_push <| y_mask <| y_goto ?_
    refine jWP.intro (pr := pX11_next) (pc := 170) ?_
    obtain ⟨m6, hm7, h⟩ := of_bind h
    refine y_mask <| x_putI (Nat.le_of_ble_eq_true rfl) rfl rfl <| y_let (Option.some.inj hm7) <| y_mask <| y_goto ?_
    refine jWP.intro (pr := pX11_next) (pc := 361) ?_
    refine y_mrv (bs := []) (ls := []) ?_
    obtain rfl := Option.some.inj h
    exact k3
set_option maxRecDepth 20000 in
theorem tjX11_next_60 (d n : Nat) (A : Nat → Nat → Int32) (L : Nat → Nat → Int64) {Q : Option Value → jM → Prop} {z : (Nat → Nat → Int32)} (h : jX11_next_60 A = some z) (k3 : Q (none) (Sh0 n, z, L)) : pX11_next (jEv jtab (d + 2), jWP (jEv jtab (d + 2)) Q ((Sh0 n).length, jsl (Sh0 n)) pX11_next, Q, ((Sh0 n).length, jsl (Sh0 n))) 60 [some (.ref 94), none] [] (Sh0 n, A, L) := by
  unfold jX11_next_60 at h
  refine y_mask <| x_aload rfl <| x_aload rfl <| x_getI (Nat.le_of_ble_eq_true rfl) rfl rfl <| x_putI (Nat.le_of_ble_eq_true rfl) rfl rfl <| x_aload rfl <| x_getI (Nat.le_of_ble_eq_true rfl) rfl rfl <| x_aload rfl <| x_getI (Nat.le_of_ble_eq_true rfl) rfl rfl <| y_cmp_lt (fun h1 => ?_) (fun h1 => ?_)
  · replace h := of_pos h h1
    refine jWP.intro (pr := pX11_next) (pc := 93) ?_
    obtain ⟨g2, h⟩ := of_guard h
    refine y_mask <| x_aload rfl <| x_getR (Nat.le_of_ble_eq_true rfl) rfl rfl <| x_aload rfl <| x_getI (Nat.le_of_ble_eq_true rfl) rfl rfl <| x_bald rfl g2 <| x_istore rfl <| x_iload rfl <| y_invS1 (Nat.le_of_ble_eq_true rfl) <| jEv.exZ (q := 171) rfl (kX11_isLetter _ _ _ _ _) <| fun hz3 => y_if_eq (fun h4 => ?_) (fun h4 => ?_)
    · replace h := of_pos h h4
      refine jWP.intro (pr := pX11_next) (pc := 176) ?_
      refine y_mask <| x_iload rfl <| y_invS1 (Nat.le_of_ble_eq_true rfl) <| jEv.exZ (q := 172) rfl (kX11_isDigit _ _ _ _ _) <| fun hz5 => y_if_eq (fun h6 => ?_) (fun h6 => ?_)
      · replace h := of_pos h h6
        refine jWP.intro (pr := pX11_next) (pc := 289) ?_
        obtain ⟨m7, hm8, h⟩ := of_bind h
        refine y_mask <| x_aload rfl <| x_dup rfl <| x_getI (Nat.le_of_ble_eq_true rfl) rfl rfl <| x_push <| x_iadd <| x_putI (Nat.le_of_ble_eq_true rfl) rfl rfl <| y_let (Option.some.inj hm8) <| x_aload rfl <| x_iload rfl <| x_putI (Nat.le_of_ble_eq_true rfl) rfl rfl <| x_aload rfl <| x_iload rfl <| x_push <| y_cmp_eq (fun h9 => ?_) (fun h9 => ?_)
        · replace h := of_pos h h9
          refine jWP.intro (pr := pX11_next) (pc := 353) ?_
          refine y_mask <| x_push <| y_mask <| y_goto ?_
          refine jWP.intro (pr := pX11_next) (pc := 358) ?_
          obtain ⟨m10, hm11, h⟩ := of_bind h
          refine y_mask <| x_putI (Nat.le_of_ble_eq_true rfl) rfl rfl <| y_let (Option.some.inj hm11) <| y_mask <| y_goto ?_
          refine jWP.intro (pr := pX11_next) (pc := 361) ?_
          refine y_mrv (bs := []) (ls := []) ?_
          obtain rfl := Option.some.inj h
          exact k3
        · replace h := of_neg h h9
          refine jWP.intro (pr := pX11_next) (pc := 311) ?_
          refine y_mask <| x_iload rfl <| x_push <| y_cmp_eq (fun h12 => ?_) (fun h12 => ?_)
          · replace h := of_pos h h12
            refine jWP.intro (pr := pX11_next) (pc := 353) ?_
            refine y_mask <| x_push <| y_mask <| y_goto ?_
            refine jWP.intro (pr := pX11_next) (pc := 358) ?_
            obtain ⟨m13, hm14, h⟩ := of_bind h
            refine y_mask <| x_putI (Nat.le_of_ble_eq_true rfl) rfl rfl <| y_let (Option.some.inj hm14) <| y_mask <| y_goto ?_
            refine jWP.intro (pr := pX11_next) (pc := 361) ?_
            refine y_mrv (bs := []) (ls := []) ?_
            obtain rfl := Option.some.inj h
            exact k3
          · replace h := of_neg h h12
            refine jWP.intro (pr := pX11_next) (pc := 317) ?_
            refine y_mask <| x_iload rfl <| x_push <| y_cmp_eq (fun h15 => ?_) (fun h15 => ?_)
            · replace h := of_pos h h15
              refine jWP.intro (pr := pX11_next) (pc := 353) ?_
              refine y_mask <| x_push <| y_mask <| y_goto ?_
              refine jWP.intro (pr := pX11_next) (pc := 358) ?_
              obtain ⟨m16, hm17, h⟩ := of_bind h
              refine y_mask <| x_putI (Nat.le_of_ble_eq_true rfl) rfl rfl <| y_let (Option.some.inj hm17) <| y_mask <| y_goto ?_
              refine jWP.intro (pr := pX11_next) (pc := 361) ?_
              refine y_mrv (bs := []) (ls := []) ?_
              obtain rfl := Option.some.inj h
              exact k3
            · replace h := of_neg h h15
              refine jWP.intro (pr := pX11_next) (pc := 323) ?_
              refine y_mask <| x_iload rfl <| x_push <| y_cmp_eq (fun h18 => ?_) (fun h18 => ?_)
              · replace h := of_pos h h18
                refine jWP.intro (pr := pX11_next) (pc := 353) ?_
                refine y_mask <| x_push <| y_mask <| y_goto ?_
                refine jWP.intro (pr := pX11_next) (pc := 358) ?_
                obtain ⟨m19, hm20, h⟩ := of_bind h
                refine y_mask <| x_putI (Nat.le_of_ble_eq_true rfl) rfl rfl <| y_let (Option.some.inj hm20) <| y_mask <| y_goto ?_
                refine jWP.intro (pr := pX11_next) (pc := 361) ?_
                refine y_mrv (bs := []) (ls := []) ?_
                obtain rfl := Option.some.inj h
                exact k3
              · replace h := of_neg h h18
                refine jWP.intro (pr := pX11_next) (pc := 329) ?_
                refine y_mask <| x_iload rfl <| x_push <| y_cmp_eq (fun h21 => ?_) (fun h21 => ?_)
                · replace h := of_pos h h21
                  refine jWP.intro (pr := pX11_next) (pc := 353) ?_
                  refine y_mask <| x_push <| y_mask <| y_goto ?_
                  refine jWP.intro (pr := pX11_next) (pc := 358) ?_
                  obtain ⟨m22, hm23, h⟩ := of_bind h
                  refine y_mask <| x_putI (Nat.le_of_ble_eq_true rfl) rfl rfl <| y_let (Option.some.inj hm23) <| y_mask <| y_goto ?_
                  refine jWP.intro (pr := pX11_next) (pc := 361) ?_
                  refine y_mrv (bs := []) (ls := []) ?_
                  obtain rfl := Option.some.inj h
                  exact k3
                · replace h := of_neg h h21
                  refine jWP.intro (pr := pX11_next) (pc := 335) ?_
                  refine y_mask <| x_iload rfl <| x_push <| y_cmp_eq (fun h24 => ?_) (fun h24 => ?_)
                  · replace h := of_pos h h24
                    refine jWP.intro (pr := pX11_next) (pc := 353) ?_
                    refine y_mask <| x_push <| y_mask <| y_goto ?_
                    refine jWP.intro (pr := pX11_next) (pc := 358) ?_
                    obtain ⟨m25, hm26, h⟩ := of_bind h
                    refine y_mask <| x_putI (Nat.le_of_ble_eq_true rfl) rfl rfl <| y_let (Option.some.inj hm26) <| y_mask <| y_goto ?_
                    refine jWP.intro (pr := pX11_next) (pc := 361) ?_
                    refine y_mrv (bs := []) (ls := []) ?_
                    obtain rfl := Option.some.inj h
                    exact k3
                  · replace h := of_neg h h24
                    refine jWP.intro (pr := pX11_next) (pc := 341) ?_
                    refine y_mask <| x_iload rfl <| x_push <| y_cmp_eq (fun h27 => ?_) (fun h27 => ?_)
                    · replace h := of_pos h h27
                      refine jWP.intro (pr := pX11_next) (pc := 353) ?_
                      refine y_mask <| x_push <| y_mask <| y_goto ?_
                      refine jWP.intro (pr := pX11_next) (pc := 358) ?_
                      obtain ⟨m28, hm29, h⟩ := of_bind h
                      refine y_mask <| x_putI (Nat.le_of_ble_eq_true rfl) rfl rfl <| y_let (Option.some.inj hm29) <| y_mask <| y_goto ?_
                      refine jWP.intro (pr := pX11_next) (pc := 361) ?_
                      refine y_mrv (bs := []) (ls := []) ?_
                      obtain rfl := Option.some.inj h
                      exact k3
                    · replace h := of_neg h h27
                      refine jWP.intro (pr := pX11_next) (pc := 347) ?_
                      refine y_mask <| x_iload rfl <| x_push <| y_cmp_ne (fun h30 => ?_) (fun h30 => ?_)
                      · replace h := of_neg h h30
                        refine jWP.intro (pr := pX11_next) (pc := 357) ?_
                        refine y_mask <| x_push <| y_mask <| y_goto ?_
                        refine jWP.intro (pr := pX11_next) (pc := 358) ?_
                        obtain ⟨m31, hm32, h⟩ := of_bind h
                        refine y_mask <| x_putI (Nat.le_of_ble_eq_true rfl) rfl rfl <| y_let (Option.some.inj hm32) <| y_mask <| y_goto ?_
                        refine jWP.intro (pr := pX11_next) (pc := 361) ?_
                        refine y_mrv (bs := []) (ls := []) ?_
                        obtain rfl := Option.some.inj h
                        exact k3
                      · replace h := of_pos h h30
                        refine jWP.intro (pr := pX11_next) (pc := 353) ?_
                        refine y_mask <| x_push <| y_mask <| y_goto ?_
                        refine jWP.intro (pr := pX11_next) (pc := 358) ?_
                        obtain ⟨m33, hm34, h⟩ := of_bind h
                        refine y_mask <| x_putI (Nat.le_of_ble_eq_true rfl) rfl rfl <| y_let (Option.some.inj hm34) <| y_mask <| y_goto ?_
                        refine jWP.intro (pr := pX11_next) (pc := 361) ?_
                        refine y_mrv (bs := []) (ls := []) ?_
                        obtain rfl := Option.some.inj h
                        exact k3
      · replace h := of_neg h h6
        refine jWP.intro (pr := pX11_next) (pc := 183) ?_
        obtain ⟨m35, hm36, h⟩ := of_bind h
        refine y_mask <| x_aload rfl <| x_push <| x_putI (Nat.le_of_ble_eq_true rfl) rfl rfl <| y_let (Option.some.inj hm36) <| y_mask <| y_goto ?_
        obtain ⟨e37, hw38, h⟩ := of_bind h
        refine jWP.intro (pr := pX11_next) (pc := 188) ?_
        refine jwh_use (G := (fun s0 => pX11_next (jEv jtab (d + 2), jWP (jEv jtab (d + 2)) Q ((Sh0 n).length, jsl (Sh0 n)) pX11_next, Q, ((Sh0 n).length, jsl (Sh0 n))) 188 [some (.ref 94), none] [] (Sh0 n, s0, L))) (Gx := (fun s0 => pX11_next (jEv jtab (d + 2), jWP (jEv jtab (d + 2)) Q ((Sh0 n).length, jsl (Sh0 n)) pX11_next, Q, ((Sh0 n).length, jsl (Sh0 n))) 264 [some (.ref 94), none] [] (Sh0 n, s0, L))) (fun s1 z1 hz kk1 kk2 => tcX11_next_188 d n m35 L s1 hz kk1 kk2) hw38 ?_
        exact tjX11_next_264 d n e37 L h k3
    · replace h := of_neg h h4
      obtain ⟨e39, hw40, h⟩ := of_bind h
      refine jWP.intro (pr := pX11_next) (pc := 110) ?_
      refine jwh_use (G := (fun s0 => pX11_next (jEv jtab (d + 2), jWP (jEv jtab (d + 2)) Q ((Sh0 n).length, jsl (Sh0 n)) pX11_next, Q, ((Sh0 n).length, jsl (Sh0 n))) 110 [some (.ref 94), none] [] (Sh0 n, s0, L))) (Gx := (fun s0 => pX11_next (jEv jtab (d + 2), jWP (jEv jtab (d + 2)) Q ((Sh0 n).length, jsl (Sh0 n)) pX11_next, Q, ((Sh0 n).length, jsl (Sh0 n))) 149 [some (.ref 94), none] [] (Sh0 n, s0, L))) (fun s1 z1 hz kk1 kk2 => tcX11_next_110 d n (va_up A 94 (upd (A 94) 14 (A 94 13))) L s1 hz kk1 kk2) hw40 ?_
      exact tjX11_next_149 d n e39 L h k3
  · replace h := of_neg h h1
    refine jWP.intro (pr := pX11_next) (pc := 79) ?_
    obtain ⟨m41, hm42, h⟩ := of_bind h
    refine y_mask <| x_aload rfl <| x_aload rfl <| x_getI (Nat.le_of_ble_eq_true rfl) rfl rfl <| x_putI (Nat.le_of_ble_eq_true rfl) rfl rfl <| y_let (Option.some.inj hm42) <| x_aload rfl <| x_push <| x_putI (Nat.le_of_ble_eq_true rfl) rfl rfl <| y_return (ls := [some (.ref 94), none]) ?_
    obtain rfl := Option.some.inj h
    exact k3
set_option maxRecDepth 20000 in
theorem tfX11_next (d n : Nat) (A : Nat → Nat → Int32) (L : Nat → Nat → Int64) {Q : Option Value → jM → Prop} {z : (Nat → Nat → Int32)} (h : fX11_next A = some z) (k3 : Q (none) (Sh0 n, z, L)) : pX11_next (jEv jtab (d + 2), jWP (jEv jtab (d + 2)) Q ((Sh0 n).length, jsl (Sh0 n)) pX11_next, Q, ((Sh0 n).length, jsl (Sh0 n))) 0 [some (.ref 94), none] [] (Sh0 n, A, L) := by
  unfold fX11_next at h
  refine y_mask <| x_aload rfl <| x_aload rfl <| x_getI (Nat.le_of_ble_eq_true rfl) rfl rfl <| x_putI (Nat.le_of_ble_eq_true rfl) rfl rfl <| y_mask <| y_goto ?_
  obtain ⟨e1, hw2, h⟩ := of_bind h
  refine jWP.intro (pr := pX11_next) (pc := 8) ?_
  refine jwh_use (G := (fun s0 => pX11_next (jEv jtab (d + 2), jWP (jEv jtab (d + 2)) Q ((Sh0 n).length, jsl (Sh0 n)) pX11_next, Q, ((Sh0 n).length, jsl (Sh0 n))) 8 [some (.ref 94), none] [] (Sh0 n, s0, L))) (Gx := (fun s0 => pX11_next (jEv jtab (d + 2), jWP (jEv jtab (d + 2)) Q ((Sh0 n).length, jsl (Sh0 n)) pX11_next, Q, ((Sh0 n).length, jsl (Sh0 n))) 60 [some (.ref 94), none] [] (Sh0 n, s0, L))) (fun s1 z1 hz kk1 kk2 => tcX11_next_8 d n (va_up A 94 (upd (A 94) 13 (A 94 14))) L s1 hz kk1 kk2) hw2 ?_
  exact tjX11_next_60 d n e1 L h k3
theorem kX11_next (d n : Nat) (A : Nat → Nat → Int32) (L : Nat → Nat → Int64) {z : (Nat → Nat → Int32)} (h : fX11_next A = some z) : jEv jtab (d + 3) 174 [.ref 94] (Sh0 n, A, L) 0 0 (fun r M2 => r = none ∧ M2 = (Sh0 n, z, L)) :=
  jEv.mk (mt := mX11_next) rfl (Nat.le_of_ble_eq_true rfl) (jWP.intro (pr := pX11_next) (pc := 0) (tfX11_next d n A L h ⟨trivial, jCn.mk ⟨rfl, rfl⟩⟩))
set_option maxRecDepth 20000 in
theorem tfX11_isKey (d n : Nat) (A : Nat → Nat → Int32) (L : Nat → Nat → Int64) (l1 : Int32) {Q : Option Value → jM → Prop} {z : Int32} (h : fX11_isKey A l1 = z) (k3 : (narrow .boolean (.int z) = .int z) → Q (some (.int z)) (Sh0 n, A, L)) : pX11_isKey (jEv jtab (d + 0), jWP (jEv jtab (d + 0)) Q ((Sh0 n).length, jsl (Sh0 n)) pX11_isKey, Q, ((Sh0 n).length, jsl (Sh0 n))) 0 [some (.ref 94), some (.int l1)] [] (Sh0 n, A, L) := by
  unfold fX11_isKey at h
  refine y_mask <| x_aload rfl <| x_getI (Nat.le_of_ble_eq_true rfl) rfl rfl <| y_if_ge (fun h1 => ?_) (fun h1 => ?_)
  · replace h := of_pos h h1
    refine jWP.intro (pr := pX11_isKey) (pc := 27) ?_
    refine y_mask <| x_push <| y_mask <| y_goto ?_
    refine jWP.intro (pr := pX11_isKey) (pc := 28) ?_
    refine y_mri (bs := []) (ls := []) ?_
    subst h
    exact k3 (jnar_boolean (.inl rfl))
  · replace h := of_neg h h1
    refine jWP.intro (pr := pX11_isKey) (pc := 7) ?_
    refine y_mask <| x_aload rfl <| x_getI (Nat.le_of_ble_eq_true rfl) rfl rfl <| x_push <| y_cmp_ne (fun h2 => ?_) (fun h2 => ?_)
    · replace h := of_neg h h2
      refine jWP.intro (pr := pX11_isKey) (pc := 27) ?_
      refine y_mask <| x_push <| y_mask <| y_goto ?_
      refine jWP.intro (pr := pX11_isKey) (pc := 28) ?_
      refine y_mri (bs := []) (ls := []) ?_
      subst h
      exact k3 (jnar_boolean (.inl rfl))
    · replace h := of_pos h h2
      refine jWP.intro (pr := pX11_isKey) (pc := 15) ?_
      refine y_mask <| x_aload rfl <| x_getI (Nat.le_of_ble_eq_true rfl) rfl rfl <| x_iload rfl <| y_cmp_ne (fun h3 => ?_) (fun h3 => ?_)
      · replace h := of_neg h h3
        refine jWP.intro (pr := pX11_isKey) (pc := 27) ?_
        refine y_mask <| x_push <| y_mask <| y_goto ?_
        refine jWP.intro (pr := pX11_isKey) (pc := 28) ?_
        refine y_mri (bs := []) (ls := []) ?_
        subst h
        exact k3 (jnar_boolean (.inl rfl))
      · replace h := of_pos h h3
        refine jWP.intro (pr := pX11_isKey) (pc := 23) ?_
        refine y_mask <| x_push <| y_mask <| y_goto ?_
        refine jWP.intro (pr := pX11_isKey) (pc := 28) ?_
        refine y_mri (bs := []) (ls := []) ?_
        subst h
        exact k3 (jnar_boolean (.inr rfl))
theorem kX11_isKey (d n : Nat) (A : Nat → Nat → Int32) (L : Nat → Nat → Int64) (l1 : Int32) : jEv jtab (d + 1) 177 [.ref 94, .int l1] (Sh0 n, A, L) 0 0 (fun r M2 => r = some (.int (fX11_isKey A l1)) ∧ M2 = (Sh0 n, A, L)) :=
  jEv.mk (mt := mX11_isKey) rfl (Nat.le_of_ble_eq_true rfl) (jWP.intro (pr := pX11_isKey) (pc := 0) (tfX11_isKey d n A L l1 rfl (fun hz => ⟨hz, jCn.mk ⟨rfl, rfl⟩⟩)))
set_option maxRecDepth 20000 in
theorem tfX11_addStep (d n : Nat) (A : Nat → Nat → Int32) (L : Nat → Nat → Int64) (l1 : Int32) (l2 : Int32) {Q : Option Value → jM → Prop} {z : (Nat → Nat → Int32)} (h : fX11_addStep A l1 l2 = some z) (k3 : Q (none) (Sh0 n, z, L)) : pX11_addStep (jEv jtab (d + 0), jWP (jEv jtab (d + 0)) Q ((Sh0 n).length, jsl (Sh0 n)) pX11_addStep, Q, ((Sh0 n).length, jsl (Sh0 n))) 0 [some (.ref 94), some (.int l1), some (.int l2)] [] (Sh0 n, A, L) := by
  unfold fX11_addStep at h
  obtain ⟨g1, h⟩ := of_guard h
  obtain ⟨m2, hm3, h⟩ := of_bind h
  obtain ⟨g4, h⟩ := of_guard h
  obtain ⟨m5, hm6, h⟩ := of_bind h
  show bX11_addStep_0 _ _ _ _
  unfold bX11_addStep_0
  refine y_mask ?_
  refine x_aload rfl ?_
  refine x_getR (Nat.le_of_ble_eq_true rfl) rfl rfl ?_
  refine x_push ?_
  refine x_aload rfl ?_
  refine x_getI (Nat.le_of_ble_eq_true rfl) rfl rfl ?_
  refine x_iadd ?_
  refine x_iload rfl ?_
  refine x_iast (Nat.le_of_ble_eq_true rfl) rfl g1 ?_
  refine y_let (Option.some.inj hm3) ?_
  refine x_aload rfl ?_
  refine x_getR (Nat.le_of_ble_eq_true rfl) rfl rfl ?_
  refine x_push ?_
  refine x_aload rfl ?_
  refine x_getI (Nat.le_of_ble_eq_true rfl) rfl rfl ?_
  refine x_iadd ?_
  refine x_iload rfl ?_
  refine x_iast (Nat.le_of_ble_eq_true rfl) rfl g4 ?_
  refine y_let (Option.some.inj hm6) ?_
  refine x_aload rfl ?_
  refine x_dup rfl ?_
  refine x_getI (Nat.le_of_ble_eq_true rfl) rfl rfl ?_
  refine x_push ?_
  refine x_iadd ?_
  refine x_putI (Nat.le_of_ble_eq_true rfl) rfl rfl ?_
  refine y_return (ls := [some (.ref 94), some (.int l1), some (.int l2)]) ?_
  obtain rfl := Option.some.inj h
  exact k3
theorem kX11_addStep (d n : Nat) (A : Nat → Nat → Int32) (L : Nat → Nat → Int64) (l1 : Int32) (l2 : Int32) {z : (Nat → Nat → Int32)} (h : fX11_addStep A l1 l2 = some z) : jEv jtab (d + 1) 178 [.ref 94, .int l1, .int l2] (Sh0 n, A, L) 0 0 (fun r M2 => r = none ∧ M2 = (Sh0 n, z, L)) :=
  jEv.mk (mt := mX11_addStep) rfl (Nat.le_of_ble_eq_true rfl) (jWP.intro (pr := pX11_addStep) (pc := 0) (tfX11_addStep d n A L l1 l2 h ⟨trivial, jCn.mk ⟨rfl, rfl⟩⟩))
set_option maxRecDepth 20000 in
theorem tcX11_all_4 (rc : Nat → (Nat → Nat → Int32) → Option (Nat → Nat → Int32)) (D : Nat) (hrc0 : ∀ (d n : Nat) (A : Nat → Nat → Int32) (L : Nat → Nat → Int64) (z : Nat → Nat → Int32), rc 0 A = some z → jEv jtab (D + d) 180 [.ref 94] (Sh0 n, A, L) 0 0 (fun r M2 => r = none ∧ M2 = (Sh0 n, z, L))) (hrc1 : ∀ (d n : Nat) (A : Nat → Nat → Int32) (L : Nat → Nat → Int64) (z : Nat → Nat → Int32), rc 1 A = some z → jEv jtab (D + d) 182 [.ref 94] (Sh0 n, A, L) 0 0 (fun r M2 => r = none ∧ M2 = (Sh0 n, z, L))) (hrc2 : ∀ (d n : Nat) (A : Nat → Nat → Int32) (L : Nat → Nat → Int64) (z : Nat → Nat → Int32), rc 2 A = some z → jEv jtab (D + d) 185 [.ref 94] (Sh0 n, A, L) 0 0 (fun r M2 => r = none ∧ M2 = (Sh0 n, z, L))) (d n : Nat) (A : Nat → Nat → Int32) (L : Nat → Nat → Int64) (s : (Nat → Nat → Int32)) {Q : Option Value → jM → Prop} {z : ((Nat → Nat → Int32) ⊕ (Nat → Nat → Int32))} (h : cX11_all_4 rc s = some z) (k1 : ∀ s0, z = .inl s0 → pX11_all (jEv jtab (D + d + 3), jWP (jEv jtab (D + d + 3)) Q ((Sh0 n).length, jsl (Sh0 n)) pX11_all, Q, ((Sh0 n).length, jsl (Sh0 n))) 4 [some (.ref 94)] [] (Sh0 n, s0, L)) (k2 : ∀ s0, z = .inr s0 → pX11_all (jEv jtab (D + d + 3), jWP (jEv jtab (D + d + 3)) Q ((Sh0 n).length, jsl (Sh0 n)) pX11_all, Q, ((Sh0 n).length, jsl (Sh0 n))) 31 [none] [] (Sh0 n, s0, L)) : pX11_all (jEv jtab (D + d + 3), jWP (jEv jtab (D + d + 3)) Q ((Sh0 n).length, jsl (Sh0 n)) pX11_all, Q, ((Sh0 n).length, jsl (Sh0 n))) 4 [some (.ref 94)] [] (Sh0 n, s, L) := by
  unfold cX11_all_4 at h
  refine y_mask <| x_aload rfl <| x_push <| y_invV1 (Nat.le_of_ble_eq_true rfl) rfl (Nat.le_of_ble_eq_true rfl) <| jEv.exZ (q := 177) rfl (kX11_isKey _ _ _ _ _) <| fun hz1 => y_if_eq (fun h2 => ?_) (fun h2 => ?_)
  · replace h := of_pos h h2
    refine jWP.intro (pr := pX11_all) (pc := 31) ?_
    have hk := k2 _ (Option.some.inj h).symm
    exact hk
  · replace h := of_neg h h2
    refine jWP.intro (pr := pX11_all) (pc := 13) ?_
    obtain ⟨r3, hc4, h⟩ := of_bind h
    obtain ⟨r5, hc6, h⟩ := of_bind h
    obtain ⟨r7, hc8, h⟩ := of_bind h
    refine y_mask <| x_aload rfl <| y_invV0 (Nat.le_of_ble_eq_true rfl) rfl (Nat.le_of_ble_eq_true rfl) <| jEv.exV (kX11_next _ _ _ _ hc4) <| x_aload rfl <| y_invV0 (Nat.le_of_ble_eq_true rfl) rfl (Nat.le_of_ble_eq_true rfl) <| jEv.exV (hrc1 (d + (3)) n r3 L _ hc6) <| x_aload rfl <| x_push <| x_push <| y_invV2 (Nat.le_of_ble_eq_true rfl) rfl (Nat.le_of_ble_eq_true rfl) <| jEv.exV (kX11_addStep _ _ _ _ _ _ hc8) <| y_mask <| y_goto ?_
    refine jWP.intro (pr := pX11_all) (pc := 4) ?_
    have hk := k1 _ (Option.some.inj h).symm
    exact hk
set_option maxRecDepth 20000 in
theorem tfX11_all (rc : Nat → (Nat → Nat → Int32) → Option (Nat → Nat → Int32)) (D : Nat) (hrc0 : ∀ (d n : Nat) (A : Nat → Nat → Int32) (L : Nat → Nat → Int64) (z : Nat → Nat → Int32), rc 0 A = some z → jEv jtab (D + d) 180 [.ref 94] (Sh0 n, A, L) 0 0 (fun r M2 => r = none ∧ M2 = (Sh0 n, z, L))) (hrc1 : ∀ (d n : Nat) (A : Nat → Nat → Int32) (L : Nat → Nat → Int64) (z : Nat → Nat → Int32), rc 1 A = some z → jEv jtab (D + d) 182 [.ref 94] (Sh0 n, A, L) 0 0 (fun r M2 => r = none ∧ M2 = (Sh0 n, z, L))) (hrc2 : ∀ (d n : Nat) (A : Nat → Nat → Int32) (L : Nat → Nat → Int64) (z : Nat → Nat → Int32), rc 2 A = some z → jEv jtab (D + d) 185 [.ref 94] (Sh0 n, A, L) 0 0 (fun r M2 => r = none ∧ M2 = (Sh0 n, z, L))) (d n : Nat) (A : Nat → Nat → Int32) (L : Nat → Nat → Int64) {Q : Option Value → jM → Prop} {z : (Nat → Nat → Int32)} (h : fX11_all rc A = some z) (k3 : Q (none) (Sh0 n, z, L)) : pX11_all (jEv jtab (D + d + 3), jWP (jEv jtab (D + d + 3)) Q ((Sh0 n).length, jsl (Sh0 n)) pX11_all, Q, ((Sh0 n).length, jsl (Sh0 n))) 0 [some (.ref 94)] [] (Sh0 n, A, L) := by
  unfold fX11_all at h
  obtain ⟨r1, hc2, h⟩ := of_bind h
  refine y_mask <| x_aload rfl <| y_invV0 (Nat.le_of_ble_eq_true rfl) rfl (Nat.le_of_ble_eq_true rfl) <| jEv.exV (hrc1 (d + (3)) n A L _ hc2) <| y_mask <| y_goto ?_
  obtain ⟨e3, hw4, h⟩ := of_bind h
  refine jWP.intro (pr := pX11_all) (pc := 4) ?_
  refine jwh_use (G := (fun s0 => pX11_all (jEv jtab (D + d + 3), jWP (jEv jtab (D + d + 3)) Q ((Sh0 n).length, jsl (Sh0 n)) pX11_all, Q, ((Sh0 n).length, jsl (Sh0 n))) 4 [some (.ref 94)] [] (Sh0 n, s0, L))) (Gx := (fun s0 => pX11_all (jEv jtab (D + d + 3), jWP (jEv jtab (D + d + 3)) Q ((Sh0 n).length, jsl (Sh0 n)) pX11_all, Q, ((Sh0 n).length, jsl (Sh0 n))) 31 [none] [] (Sh0 n, s0, L))) (fun s1 z1 hz kk1 kk2 => tcX11_all_4 rc D hrc0 hrc1 hrc2 d n r1 L s1 hz kk1 kk2) hw4 ?_
  refine y_mrv (bs := []) (ls := []) ?_
  obtain rfl := Option.some.inj h
  exact k3
theorem kX11_all (rc : Nat → (Nat → Nat → Int32) → Option (Nat → Nat → Int32)) (D : Nat) (hrc0 : ∀ (d n : Nat) (A : Nat → Nat → Int32) (L : Nat → Nat → Int64) (z : Nat → Nat → Int32), rc 0 A = some z → jEv jtab (D + d) 180 [.ref 94] (Sh0 n, A, L) 0 0 (fun r M2 => r = none ∧ M2 = (Sh0 n, z, L))) (hrc1 : ∀ (d n : Nat) (A : Nat → Nat → Int32) (L : Nat → Nat → Int64) (z : Nat → Nat → Int32), rc 1 A = some z → jEv jtab (D + d) 182 [.ref 94] (Sh0 n, A, L) 0 0 (fun r M2 => r = none ∧ M2 = (Sh0 n, z, L))) (hrc2 : ∀ (d n : Nat) (A : Nat → Nat → Int32) (L : Nat → Nat → Int64) (z : Nat → Nat → Int32), rc 2 A = some z → jEv jtab (D + d) 185 [.ref 94] (Sh0 n, A, L) 0 0 (fun r M2 => r = none ∧ M2 = (Sh0 n, z, L))) (d n : Nat) (A : Nat → Nat → Int32) (L : Nat → Nat → Int64) {z : (Nat → Nat → Int32)} (h : fX11_all rc A = some z) : jEv jtab (D + d + 4) 181 [.ref 94] (Sh0 n, A, L) 0 0 (fun r M2 => r = none ∧ M2 = (Sh0 n, z, L)) :=
  jEv.mk (mt := mX11_all) rfl (Nat.le_of_ble_eq_true rfl) (jWP.intro (pr := pX11_all) (pc := 0) (tfX11_all rc D hrc0 hrc1 hrc2 d n A L h ⟨trivial, jCn.mk ⟨rfl, rfl⟩⟩))
set_option maxRecDepth 20000 in
theorem tcX11_either_4 (rc : Nat → (Nat → Nat → Int32) → Option (Nat → Nat → Int32)) (D : Nat) (hrc0 : ∀ (d n : Nat) (A : Nat → Nat → Int32) (L : Nat → Nat → Int64) (z : Nat → Nat → Int32), rc 0 A = some z → jEv jtab (D + d) 180 [.ref 94] (Sh0 n, A, L) 0 0 (fun r M2 => r = none ∧ M2 = (Sh0 n, z, L))) (hrc1 : ∀ (d n : Nat) (A : Nat → Nat → Int32) (L : Nat → Nat → Int64) (z : Nat → Nat → Int32), rc 1 A = some z → jEv jtab (D + d) 182 [.ref 94] (Sh0 n, A, L) 0 0 (fun r M2 => r = none ∧ M2 = (Sh0 n, z, L))) (hrc2 : ∀ (d n : Nat) (A : Nat → Nat → Int32) (L : Nat → Nat → Int64) (z : Nat → Nat → Int32), rc 2 A = some z → jEv jtab (D + d) 185 [.ref 94] (Sh0 n, A, L) 0 0 (fun r M2 => r = none ∧ M2 = (Sh0 n, z, L))) (d n : Nat) (A : Nat → Nat → Int32) (L : Nat → Nat → Int64) (s : (Nat → Nat → Int32)) {Q : Option Value → jM → Prop} {z : ((Nat → Nat → Int32) ⊕ (Nat → Nat → Int32))} (h : cX11_either_4 rc s = some z) (k1 : ∀ s0, z = .inl s0 → pX11_either (jEv jtab (D + d + 4), jWP (jEv jtab (D + d + 4)) Q ((Sh0 n).length, jsl (Sh0 n)) pX11_either, Q, ((Sh0 n).length, jsl (Sh0 n))) 4 [some (.ref 94)] [] (Sh0 n, s0, L)) (k2 : ∀ s0, z = .inr s0 → pX11_either (jEv jtab (D + d + 4), jWP (jEv jtab (D + d + 4)) Q ((Sh0 n).length, jsl (Sh0 n)) pX11_either, Q, ((Sh0 n).length, jsl (Sh0 n))) 30 [none] [] (Sh0 n, s0, L)) : pX11_either (jEv jtab (D + d + 4), jWP (jEv jtab (D + d + 4)) Q ((Sh0 n).length, jsl (Sh0 n)) pX11_either, Q, ((Sh0 n).length, jsl (Sh0 n))) 4 [some (.ref 94)] [] (Sh0 n, s, L) := by
  unfold cX11_either_4 at h
  refine y_mask <| x_aload rfl <| x_push <| y_invV1 (Nat.le_of_ble_eq_true rfl) rfl (Nat.le_of_ble_eq_true rfl) <| jEv.exZ (q := 177) rfl (kX11_isKey _ _ _ _ _) <| fun hz1 => y_if_eq (fun h2 => ?_) (fun h2 => ?_)
  · replace h := of_pos h h2
    refine jWP.intro (pr := pX11_either) (pc := 30) ?_
    have hk := k2 _ (Option.some.inj h).symm
    exact hk
  · replace h := of_neg h h2
    refine jWP.intro (pr := pX11_either) (pc := 13) ?_
    obtain ⟨r3, hc4, h⟩ := of_bind h
    obtain ⟨r5, hc6, h⟩ := of_bind h
    obtain ⟨r7, hc8, h⟩ := of_bind h
    refine y_mask <| x_aload rfl <| y_invV0 (Nat.le_of_ble_eq_true rfl) rfl (Nat.le_of_ble_eq_true rfl) <| jEv.exV (kX11_next _ _ _ _ hc4) <| x_aload rfl <| y_invV0 (Nat.le_of_ble_eq_true rfl) rfl (Nat.le_of_ble_eq_true rfl) <| jEv.exV (kX11_all rc D hrc0 hrc1 hrc2 _ _ _ _ hc6) <| x_aload rfl <| x_push <| x_push <| y_invV2 (Nat.le_of_ble_eq_true rfl) rfl (Nat.le_of_ble_eq_true rfl) <| jEv.exV (kX11_addStep _ _ _ _ _ _ hc8) <| y_mask <| y_goto ?_
    refine jWP.intro (pr := pX11_either) (pc := 4) ?_
    have hk := k1 _ (Option.some.inj h).symm
    exact hk
set_option maxRecDepth 20000 in
theorem tgX11_either (rc : Nat → (Nat → Nat → Int32) → Option (Nat → Nat → Int32)) (D : Nat) (hrc0 : ∀ (d n : Nat) (A : Nat → Nat → Int32) (L : Nat → Nat → Int64) (z : Nat → Nat → Int32), rc 0 A = some z → jEv jtab (D + d) 180 [.ref 94] (Sh0 n, A, L) 0 0 (fun r M2 => r = none ∧ M2 = (Sh0 n, z, L))) (hrc1 : ∀ (d n : Nat) (A : Nat → Nat → Int32) (L : Nat → Nat → Int64) (z : Nat → Nat → Int32), rc 1 A = some z → jEv jtab (D + d) 182 [.ref 94] (Sh0 n, A, L) 0 0 (fun r M2 => r = none ∧ M2 = (Sh0 n, z, L))) (hrc2 : ∀ (d n : Nat) (A : Nat → Nat → Int32) (L : Nat → Nat → Int64) (z : Nat → Nat → Int32), rc 2 A = some z → jEv jtab (D + d) 185 [.ref 94] (Sh0 n, A, L) 0 0 (fun r M2 => r = none ∧ M2 = (Sh0 n, z, L))) (d n : Nat) (A : Nat → Nat → Int32) (L : Nat → Nat → Int64) {Q : Option Value → jM → Prop} {z : (Nat → Nat → Int32)} (h : gX11_either rc A = some z) (k3 : Q (none) (Sh0 n, z, L)) : pX11_either (jEv jtab (D + d + 4), jWP (jEv jtab (D + d + 4)) Q ((Sh0 n).length, jsl (Sh0 n)) pX11_either, Q, ((Sh0 n).length, jsl (Sh0 n))) 0 [some (.ref 94)] [] (Sh0 n, A, L) := by
  unfold gX11_either at h
  obtain ⟨r1, hc2, h⟩ := of_bind h
  refine y_mask <| x_aload rfl <| y_invV0 (Nat.le_of_ble_eq_true rfl) rfl (Nat.le_of_ble_eq_true rfl) <| jEv.exV (kX11_all rc D hrc0 hrc1 hrc2 _ _ _ _ hc2) <| y_mask <| y_goto ?_
  obtain ⟨e3, hw4, h⟩ := of_bind h
  refine jWP.intro (pr := pX11_either) (pc := 4) ?_
  refine jwh_use (G := (fun s0 => pX11_either (jEv jtab (D + d + 4), jWP (jEv jtab (D + d + 4)) Q ((Sh0 n).length, jsl (Sh0 n)) pX11_either, Q, ((Sh0 n).length, jsl (Sh0 n))) 4 [some (.ref 94)] [] (Sh0 n, s0, L))) (Gx := (fun s0 => pX11_either (jEv jtab (D + d + 4), jWP (jEv jtab (D + d + 4)) Q ((Sh0 n).length, jsl (Sh0 n)) pX11_either, Q, ((Sh0 n).length, jsl (Sh0 n))) 30 [none] [] (Sh0 n, s0, L))) (fun s1 z1 hz kk1 kk2 => tcX11_either_4 rc D hrc0 hrc1 hrc2 d n r1 L s1 hz kk1 kk2) hw4 ?_
  refine y_mrv (bs := []) (ls := []) ?_
  obtain rfl := Option.some.inj h
  exact k3
theorem qX11_either (rc : Nat → (Nat → Nat → Int32) → Option (Nat → Nat → Int32)) (D : Nat) (hrc0 : ∀ (d n : Nat) (A : Nat → Nat → Int32) (L : Nat → Nat → Int64) (z : Nat → Nat → Int32), rc 0 A = some z → jEv jtab (D + d) 180 [.ref 94] (Sh0 n, A, L) 0 0 (fun r M2 => r = none ∧ M2 = (Sh0 n, z, L))) (hrc1 : ∀ (d n : Nat) (A : Nat → Nat → Int32) (L : Nat → Nat → Int64) (z : Nat → Nat → Int32), rc 1 A = some z → jEv jtab (D + d) 182 [.ref 94] (Sh0 n, A, L) 0 0 (fun r M2 => r = none ∧ M2 = (Sh0 n, z, L))) (hrc2 : ∀ (d n : Nat) (A : Nat → Nat → Int32) (L : Nat → Nat → Int64) (z : Nat → Nat → Int32), rc 2 A = some z → jEv jtab (D + d) 185 [.ref 94] (Sh0 n, A, L) 0 0 (fun r M2 => r = none ∧ M2 = (Sh0 n, z, L))) (d n : Nat) (A : Nat → Nat → Int32) (L : Nat → Nat → Int64) {z : (Nat → Nat → Int32)} (h : gX11_either rc A = some z) : jEv jtab (D + d + 5) 180 [.ref 94] (Sh0 n, A, L) 0 0 (fun r M2 => r = none ∧ M2 = (Sh0 n, z, L)) :=
  jEv.mk (mt := mX11_either) rfl (Nat.le_of_ble_eq_true rfl) (jWP.intro (pr := pX11_either) (pc := 0) (tgX11_either rc D hrc0 hrc1 hrc2 d n A L h ⟨trivial, jCn.mk ⟨rfl, rfl⟩⟩))
set_option maxRecDepth 20000 in
theorem tfX11_isSign (d n : Nat) (A : Nat → Nat → Int32) (L : Nat → Nat → Int64) (l1 : Int32) {Q : Option Value → jM → Prop} {z : Int32} (h : fX11_isSign A l1 = z) (k3 : (narrow .boolean (.int z) = .int z) → Q (some (.int z)) (Sh0 n, A, L)) : pX11_isSign (jEv jtab (d + 0), jWP (jEv jtab (d + 0)) Q ((Sh0 n).length, jsl (Sh0 n)) pX11_isSign, Q, ((Sh0 n).length, jsl (Sh0 n))) 0 [some (.ref 94), some (.int l1)] [] (Sh0 n, A, L) := by
  unfold fX11_isSign at h
  refine y_mask <| x_aload rfl <| x_getI (Nat.le_of_ble_eq_true rfl) rfl rfl <| y_if_ge (fun h1 => ?_) (fun h1 => ?_)
  · replace h := of_pos h h1
    refine jWP.intro (pr := pX11_isSign) (pc := 27) ?_
    refine y_mask <| x_push <| y_mask <| y_goto ?_
    refine jWP.intro (pr := pX11_isSign) (pc := 28) ?_
    refine y_mri (bs := []) (ls := []) ?_
    subst h
    exact k3 (jnar_boolean (.inl rfl))
  · replace h := of_neg h h1
    refine jWP.intro (pr := pX11_isSign) (pc := 7) ?_
    refine y_mask <| x_aload rfl <| x_getI (Nat.le_of_ble_eq_true rfl) rfl rfl <| x_push <| y_cmp_ne (fun h2 => ?_) (fun h2 => ?_)
    · replace h := of_neg h h2
      refine jWP.intro (pr := pX11_isSign) (pc := 27) ?_
      refine y_mask <| x_push <| y_mask <| y_goto ?_
      refine jWP.intro (pr := pX11_isSign) (pc := 28) ?_
      refine y_mri (bs := []) (ls := []) ?_
      subst h
      exact k3 (jnar_boolean (.inl rfl))
    · replace h := of_pos h h2
      refine jWP.intro (pr := pX11_isSign) (pc := 15) ?_
      refine y_mask <| x_aload rfl <| x_getI (Nat.le_of_ble_eq_true rfl) rfl rfl <| x_iload rfl <| y_cmp_ne (fun h3 => ?_) (fun h3 => ?_)
      · replace h := of_neg h h3
        refine jWP.intro (pr := pX11_isSign) (pc := 27) ?_
        refine y_mask <| x_push <| y_mask <| y_goto ?_
        refine jWP.intro (pr := pX11_isSign) (pc := 28) ?_
        refine y_mri (bs := []) (ls := []) ?_
        subst h
        exact k3 (jnar_boolean (.inl rfl))
      · replace h := of_pos h h3
        refine jWP.intro (pr := pX11_isSign) (pc := 23) ?_
        refine y_mask <| x_push <| y_mask <| y_goto ?_
        refine jWP.intro (pr := pX11_isSign) (pc := 28) ?_
        refine y_mri (bs := []) (ls := []) ?_
        subst h
        exact k3 (jnar_boolean (.inr rfl))
theorem kX11_isSign (d n : Nat) (A : Nat → Nat → Int32) (L : Nat → Nat → Int64) (l1 : Int32) : jEv jtab (d + 1) 176 [.ref 94, .int l1] (Sh0 n, A, L) 0 0 (fun r M2 => r = some (.int (fX11_isSign A l1)) ∧ M2 = (Sh0 n, A, L)) :=
  jEv.mk (mt := mX11_isSign) rfl (Nat.le_of_ble_eq_true rfl) (jWP.intro (pr := pX11_isSign) (pc := 0) (tfX11_isSign d n A L l1 rfl (fun hz => ⟨hz, jCn.mk ⟨rfl, rfl⟩⟩)))
set_option maxRecDepth 20000 in
theorem tcX11_term_4 (rc : Nat → (Nat → Nat → Int32) → Option (Nat → Nat → Int32)) (D : Nat) (hrc0 : ∀ (d n : Nat) (A : Nat → Nat → Int32) (L : Nat → Nat → Int64) (z : Nat → Nat → Int32), rc 0 A = some z → jEv jtab (D + d) 180 [.ref 94] (Sh0 n, A, L) 0 0 (fun r M2 => r = none ∧ M2 = (Sh0 n, z, L))) (hrc1 : ∀ (d n : Nat) (A : Nat → Nat → Int32) (L : Nat → Nat → Int64) (z : Nat → Nat → Int32), rc 1 A = some z → jEv jtab (D + d) 182 [.ref 94] (Sh0 n, A, L) 0 0 (fun r M2 => r = none ∧ M2 = (Sh0 n, z, L))) (hrc2 : ∀ (d n : Nat) (A : Nat → Nat → Int32) (L : Nat → Nat → Int64) (z : Nat → Nat → Int32), rc 2 A = some z → jEv jtab (D + d) 185 [.ref 94] (Sh0 n, A, L) 0 0 (fun r M2 => r = none ∧ M2 = (Sh0 n, z, L))) (d n : Nat) (A : Nat → Nat → Int32) (L : Nat → Nat → Int64) (s : (Nat → Nat → Int32)) {Q : Option Value → jM → Prop} {z : ((Nat → Nat → Int32) ⊕ (Nat → Nat → Int32))} (h : cX11_term_4 rc s = some z) (k1 : ∀ s0, z = .inl s0 → pX11_term (jEv jtab (D + d + 3), jWP (jEv jtab (D + d + 3)) Q ((Sh0 n).length, jsl (Sh0 n)) pX11_term, Q, ((Sh0 n).length, jsl (Sh0 n))) 4 [some (.ref 94)] [] (Sh0 n, s0, L)) (k2 : ∀ s0, z = .inr s0 → pX11_term (jEv jtab (D + d + 3), jWP (jEv jtab (D + d + 3)) Q ((Sh0 n).length, jsl (Sh0 n)) pX11_term, Q, ((Sh0 n).length, jsl (Sh0 n))) 31 [none] [] (Sh0 n, s0, L)) : pX11_term (jEv jtab (D + d + 3), jWP (jEv jtab (D + d + 3)) Q ((Sh0 n).length, jsl (Sh0 n)) pX11_term, Q, ((Sh0 n).length, jsl (Sh0 n))) 4 [some (.ref 94)] [] (Sh0 n, s, L) := by
  unfold cX11_term_4 at h
  refine y_mask <| x_aload rfl <| x_push <| y_invV1 (Nat.le_of_ble_eq_true rfl) rfl (Nat.le_of_ble_eq_true rfl) <| jEv.exZ (q := 176) rfl (kX11_isSign _ _ _ _ _) <| fun hz1 => y_if_eq (fun h2 => ?_) (fun h2 => ?_)
  · replace h := of_pos h h2
    refine jWP.intro (pr := pX11_term) (pc := 31) ?_
    have hk := k2 _ (Option.some.inj h).symm
    exact hk
  · replace h := of_neg h h2
    refine jWP.intro (pr := pX11_term) (pc := 13) ?_
    obtain ⟨r3, hc4, h⟩ := of_bind h
    obtain ⟨r5, hc6, h⟩ := of_bind h
    obtain ⟨r7, hc8, h⟩ := of_bind h
    refine y_mask <| x_aload rfl <| y_invV0 (Nat.le_of_ble_eq_true rfl) rfl (Nat.le_of_ble_eq_true rfl) <| jEv.exV (kX11_next _ _ _ _ hc4) <| x_aload rfl <| y_invV0 (Nat.le_of_ble_eq_true rfl) rfl (Nat.le_of_ble_eq_true rfl) <| jEv.exV (hrc2 (d + (3)) n r3 L _ hc6) <| x_aload rfl <| x_push <| x_push <| y_invV2 (Nat.le_of_ble_eq_true rfl) rfl (Nat.le_of_ble_eq_true rfl) <| jEv.exV (kX11_addStep _ _ _ _ _ _ hc8) <| y_mask <| y_goto ?_
    refine jWP.intro (pr := pX11_term) (pc := 4) ?_
    have hk := k1 _ (Option.some.inj h).symm
    exact hk
set_option maxRecDepth 20000 in
theorem tfX11_term (rc : Nat → (Nat → Nat → Int32) → Option (Nat → Nat → Int32)) (D : Nat) (hrc0 : ∀ (d n : Nat) (A : Nat → Nat → Int32) (L : Nat → Nat → Int64) (z : Nat → Nat → Int32), rc 0 A = some z → jEv jtab (D + d) 180 [.ref 94] (Sh0 n, A, L) 0 0 (fun r M2 => r = none ∧ M2 = (Sh0 n, z, L))) (hrc1 : ∀ (d n : Nat) (A : Nat → Nat → Int32) (L : Nat → Nat → Int64) (z : Nat → Nat → Int32), rc 1 A = some z → jEv jtab (D + d) 182 [.ref 94] (Sh0 n, A, L) 0 0 (fun r M2 => r = none ∧ M2 = (Sh0 n, z, L))) (hrc2 : ∀ (d n : Nat) (A : Nat → Nat → Int32) (L : Nat → Nat → Int64) (z : Nat → Nat → Int32), rc 2 A = some z → jEv jtab (D + d) 185 [.ref 94] (Sh0 n, A, L) 0 0 (fun r M2 => r = none ∧ M2 = (Sh0 n, z, L))) (d n : Nat) (A : Nat → Nat → Int32) (L : Nat → Nat → Int64) {Q : Option Value → jM → Prop} {z : (Nat → Nat → Int32)} (h : fX11_term rc A = some z) (k3 : Q (none) (Sh0 n, z, L)) : pX11_term (jEv jtab (D + d + 3), jWP (jEv jtab (D + d + 3)) Q ((Sh0 n).length, jsl (Sh0 n)) pX11_term, Q, ((Sh0 n).length, jsl (Sh0 n))) 0 [some (.ref 94)] [] (Sh0 n, A, L) := by
  unfold fX11_term at h
  obtain ⟨r1, hc2, h⟩ := of_bind h
  refine y_mask <| x_aload rfl <| y_invV0 (Nat.le_of_ble_eq_true rfl) rfl (Nat.le_of_ble_eq_true rfl) <| jEv.exV (hrc2 (d + (3)) n A L _ hc2) <| y_mask <| y_goto ?_
  obtain ⟨e3, hw4, h⟩ := of_bind h
  refine jWP.intro (pr := pX11_term) (pc := 4) ?_
  refine jwh_use (G := (fun s0 => pX11_term (jEv jtab (D + d + 3), jWP (jEv jtab (D + d + 3)) Q ((Sh0 n).length, jsl (Sh0 n)) pX11_term, Q, ((Sh0 n).length, jsl (Sh0 n))) 4 [some (.ref 94)] [] (Sh0 n, s0, L))) (Gx := (fun s0 => pX11_term (jEv jtab (D + d + 3), jWP (jEv jtab (D + d + 3)) Q ((Sh0 n).length, jsl (Sh0 n)) pX11_term, Q, ((Sh0 n).length, jsl (Sh0 n))) 31 [none] [] (Sh0 n, s0, L))) (fun s1 z1 hz kk1 kk2 => tcX11_term_4 rc D hrc0 hrc1 hrc2 d n r1 L s1 hz kk1 kk2) hw4 ?_
  refine y_mrv (bs := []) (ls := []) ?_
  obtain rfl := Option.some.inj h
  exact k3
theorem kX11_term (rc : Nat → (Nat → Nat → Int32) → Option (Nat → Nat → Int32)) (D : Nat) (hrc0 : ∀ (d n : Nat) (A : Nat → Nat → Int32) (L : Nat → Nat → Int64) (z : Nat → Nat → Int32), rc 0 A = some z → jEv jtab (D + d) 180 [.ref 94] (Sh0 n, A, L) 0 0 (fun r M2 => r = none ∧ M2 = (Sh0 n, z, L))) (hrc1 : ∀ (d n : Nat) (A : Nat → Nat → Int32) (L : Nat → Nat → Int64) (z : Nat → Nat → Int32), rc 1 A = some z → jEv jtab (D + d) 182 [.ref 94] (Sh0 n, A, L) 0 0 (fun r M2 => r = none ∧ M2 = (Sh0 n, z, L))) (hrc2 : ∀ (d n : Nat) (A : Nat → Nat → Int32) (L : Nat → Nat → Int64) (z : Nat → Nat → Int32), rc 2 A = some z → jEv jtab (D + d) 185 [.ref 94] (Sh0 n, A, L) 0 0 (fun r M2 => r = none ∧ M2 = (Sh0 n, z, L))) (d n : Nat) (A : Nat → Nat → Int32) (L : Nat → Nat → Int64) {z : (Nat → Nat → Int32)} (h : fX11_term rc A = some z) : jEv jtab (D + d + 4) 184 [.ref 94] (Sh0 n, A, L) 0 0 (fun r M2 => r = none ∧ M2 = (Sh0 n, z, L)) :=
  jEv.mk (mt := mX11_term) rfl (Nat.le_of_ble_eq_true rfl) (jWP.intro (pr := pX11_term) (pc := 0) (tfX11_term rc D hrc0 hrc1 hrc2 d n A L h ⟨trivial, jCn.mk ⟨rfl, rfl⟩⟩))
set_option maxRecDepth 20000 in
theorem tjX11_sum_22_4 (rc : Nat → (Nat → Nat → Int32) → Option (Nat → Nat → Int32)) (D : Nat) (hrc0 : ∀ (d n : Nat) (A : Nat → Nat → Int32) (L : Nat → Nat → Int64) (z : Nat → Nat → Int32), rc 0 A = some z → jEv jtab (D + d) 180 [.ref 94] (Sh0 n, A, L) 0 0 (fun r M2 => r = none ∧ M2 = (Sh0 n, z, L))) (hrc1 : ∀ (d n : Nat) (A : Nat → Nat → Int32) (L : Nat → Nat → Int64) (z : Nat → Nat → Int32), rc 1 A = some z → jEv jtab (D + d) 182 [.ref 94] (Sh0 n, A, L) 0 0 (fun r M2 => r = none ∧ M2 = (Sh0 n, z, L))) (hrc2 : ∀ (d n : Nat) (A : Nat → Nat → Int32) (L : Nat → Nat → Int64) (z : Nat → Nat → Int32), rc 2 A = some z → jEv jtab (D + d) 185 [.ref 94] (Sh0 n, A, L) 0 0 (fun r M2 => r = none ∧ M2 = (Sh0 n, z, L))) (d n : Nat) (A : Nat → Nat → Int32) (L : Nat → Nat → Int64) {Q : Option Value → jM → Prop} {z : ((Nat → Nat → Int32) ⊕ (Nat → Nat → Int32))} (h : jX11_sum_22_4 rc A = some z) (k1 : ∀ s0, z = .inl s0 → pX11_sum (jEv jtab (D + d + 4), jWP (jEv jtab (D + d + 4)) Q ((Sh0 n).length, jsl (Sh0 n)) pX11_sum, Q, ((Sh0 n).length, jsl (Sh0 n))) 4 [some (.ref 94), none] [] (Sh0 n, s0, L)) (k2 : ∀ s0, z = .inr s0 → pX11_sum (jEv jtab (D + d + 4), jWP (jEv jtab (D + d + 4)) Q ((Sh0 n).length, jsl (Sh0 n)) pX11_sum, Q, ((Sh0 n).length, jsl (Sh0 n))) 44 [none, none] [] (Sh0 n, s0, L)) : pX11_sum (jEv jtab (D + d + 4), jWP (jEv jtab (D + d + 4)) Q ((Sh0 n).length, jsl (Sh0 n)) pX11_sum, Q, ((Sh0 n).length, jsl (Sh0 n))) 22 [some (.ref 94), none] [] (Sh0 n, A, L) := by
  unfold jX11_sum_22_4 at h
  obtain ⟨r1, hc2, h⟩ := of_bind h
  obtain ⟨r3, hc4, h⟩ := of_bind h
  obtain ⟨r5, hc6, h⟩ := of_bind h
  refine y_mask <| x_aload rfl <| x_getI (Nat.le_of_ble_eq_true rfl) rfl rfl <| x_istore rfl <| x_aload rfl <| y_invV0 (Nat.le_of_ble_eq_true rfl) rfl (Nat.le_of_ble_eq_true rfl) <| jEv.exV (kX11_next _ _ _ _ hc2) <| x_aload rfl <| y_invV0 (Nat.le_of_ble_eq_true rfl) rfl (Nat.le_of_ble_eq_true rfl) <| jEv.exV (kX11_term rc D hrc0 hrc1 hrc2 _ _ _ _ hc4) <| x_aload rfl <| x_iload rfl <| x_push <| y_invV2 (Nat.le_of_ble_eq_true rfl) rfl (Nat.le_of_ble_eq_true rfl) <| jEv.exV (kX11_addStep _ _ _ _ _ _ hc6) <| y_mask <| y_goto ?_
  refine jWP.intro (pr := pX11_sum) (pc := 4) ?_
  have hk := k1 _ (Option.some.inj h).symm
  exact hk
set_option maxRecDepth 20000 in
theorem tcX11_sum_4 (rc : Nat → (Nat → Nat → Int32) → Option (Nat → Nat → Int32)) (D : Nat) (hrc0 : ∀ (d n : Nat) (A : Nat → Nat → Int32) (L : Nat → Nat → Int64) (z : Nat → Nat → Int32), rc 0 A = some z → jEv jtab (D + d) 180 [.ref 94] (Sh0 n, A, L) 0 0 (fun r M2 => r = none ∧ M2 = (Sh0 n, z, L))) (hrc1 : ∀ (d n : Nat) (A : Nat → Nat → Int32) (L : Nat → Nat → Int64) (z : Nat → Nat → Int32), rc 1 A = some z → jEv jtab (D + d) 182 [.ref 94] (Sh0 n, A, L) 0 0 (fun r M2 => r = none ∧ M2 = (Sh0 n, z, L))) (hrc2 : ∀ (d n : Nat) (A : Nat → Nat → Int32) (L : Nat → Nat → Int64) (z : Nat → Nat → Int32), rc 2 A = some z → jEv jtab (D + d) 185 [.ref 94] (Sh0 n, A, L) 0 0 (fun r M2 => r = none ∧ M2 = (Sh0 n, z, L))) (d n : Nat) (A : Nat → Nat → Int32) (L : Nat → Nat → Int64) (s : (Nat → Nat → Int32)) {Q : Option Value → jM → Prop} {z : ((Nat → Nat → Int32) ⊕ (Nat → Nat → Int32))} (h : cX11_sum_4 rc s = some z) (k1 : ∀ s0, z = .inl s0 → pX11_sum (jEv jtab (D + d + 4), jWP (jEv jtab (D + d + 4)) Q ((Sh0 n).length, jsl (Sh0 n)) pX11_sum, Q, ((Sh0 n).length, jsl (Sh0 n))) 4 [some (.ref 94), none] [] (Sh0 n, s0, L)) (k2 : ∀ s0, z = .inr s0 → pX11_sum (jEv jtab (D + d + 4), jWP (jEv jtab (D + d + 4)) Q ((Sh0 n).length, jsl (Sh0 n)) pX11_sum, Q, ((Sh0 n).length, jsl (Sh0 n))) 44 [none, none] [] (Sh0 n, s0, L)) : pX11_sum (jEv jtab (D + d + 4), jWP (jEv jtab (D + d + 4)) Q ((Sh0 n).length, jsl (Sh0 n)) pX11_sum, Q, ((Sh0 n).length, jsl (Sh0 n))) 4 [some (.ref 94), none] [] (Sh0 n, s, L) := by
  unfold cX11_sum_4 at h
  refine y_mask <| x_aload rfl <| x_push <| y_invV1 (Nat.le_of_ble_eq_true rfl) rfl (Nat.le_of_ble_eq_true rfl) <| jEv.exZ (q := 176) rfl (kX11_isSign _ _ _ _ _) <| fun hz1 => y_if_ne (fun h2 => ?_) (fun h2 => ?_)
  · replace h := of_neg h h2
    refine jWP.intro (pr := pX11_sum) (pc := 22) ?_
    exact tjX11_sum_22_4 rc D hrc0 hrc1 hrc2 d n s L h k1 k2
  · replace h := of_pos h h2
    refine jWP.intro (pr := pX11_sum) (pc := 13) ?_
    refine y_mask <| x_aload rfl <| x_push <| y_invV1 (Nat.le_of_ble_eq_true rfl) rfl (Nat.le_of_ble_eq_true rfl) <| jEv.exZ (q := 176) rfl (kX11_isSign _ _ _ _ _) <| fun hz3 => y_if_eq (fun h4 => ?_) (fun h4 => ?_)
    · replace h := of_pos h h4
      refine jWP.intro (pr := pX11_sum) (pc := 44) ?_
      have hk := k2 _ (Option.some.inj h).symm
      exact hk
    · replace h := of_neg h h4
      refine jWP.intro (pr := pX11_sum) (pc := 22) ?_
      exact tjX11_sum_22_4 rc D hrc0 hrc1 hrc2 d n s L h k1 k2
set_option maxRecDepth 20000 in
theorem tfX11_sum (rc : Nat → (Nat → Nat → Int32) → Option (Nat → Nat → Int32)) (D : Nat) (hrc0 : ∀ (d n : Nat) (A : Nat → Nat → Int32) (L : Nat → Nat → Int64) (z : Nat → Nat → Int32), rc 0 A = some z → jEv jtab (D + d) 180 [.ref 94] (Sh0 n, A, L) 0 0 (fun r M2 => r = none ∧ M2 = (Sh0 n, z, L))) (hrc1 : ∀ (d n : Nat) (A : Nat → Nat → Int32) (L : Nat → Nat → Int64) (z : Nat → Nat → Int32), rc 1 A = some z → jEv jtab (D + d) 182 [.ref 94] (Sh0 n, A, L) 0 0 (fun r M2 => r = none ∧ M2 = (Sh0 n, z, L))) (hrc2 : ∀ (d n : Nat) (A : Nat → Nat → Int32) (L : Nat → Nat → Int64) (z : Nat → Nat → Int32), rc 2 A = some z → jEv jtab (D + d) 185 [.ref 94] (Sh0 n, A, L) 0 0 (fun r M2 => r = none ∧ M2 = (Sh0 n, z, L))) (d n : Nat) (A : Nat → Nat → Int32) (L : Nat → Nat → Int64) {Q : Option Value → jM → Prop} {z : (Nat → Nat → Int32)} (h : fX11_sum rc A = some z) (k3 : Q (none) (Sh0 n, z, L)) : pX11_sum (jEv jtab (D + d + 4), jWP (jEv jtab (D + d + 4)) Q ((Sh0 n).length, jsl (Sh0 n)) pX11_sum, Q, ((Sh0 n).length, jsl (Sh0 n))) 0 [some (.ref 94), none] [] (Sh0 n, A, L) := by
  unfold fX11_sum at h
  obtain ⟨r1, hc2, h⟩ := of_bind h
  refine y_mask <| x_aload rfl <| y_invV0 (Nat.le_of_ble_eq_true rfl) rfl (Nat.le_of_ble_eq_true rfl) <| jEv.exV (kX11_term rc D hrc0 hrc1 hrc2 _ _ _ _ hc2) <| y_mask <| y_goto ?_
  obtain ⟨e3, hw4, h⟩ := of_bind h
  refine jWP.intro (pr := pX11_sum) (pc := 4) ?_
  refine jwh_use (G := (fun s0 => pX11_sum (jEv jtab (D + d + 4), jWP (jEv jtab (D + d + 4)) Q ((Sh0 n).length, jsl (Sh0 n)) pX11_sum, Q, ((Sh0 n).length, jsl (Sh0 n))) 4 [some (.ref 94), none] [] (Sh0 n, s0, L))) (Gx := (fun s0 => pX11_sum (jEv jtab (D + d + 4), jWP (jEv jtab (D + d + 4)) Q ((Sh0 n).length, jsl (Sh0 n)) pX11_sum, Q, ((Sh0 n).length, jsl (Sh0 n))) 44 [none, none] [] (Sh0 n, s0, L))) (fun s1 z1 hz kk1 kk2 => tcX11_sum_4 rc D hrc0 hrc1 hrc2 d n r1 L s1 hz kk1 kk2) hw4 ?_
  refine y_mrv (bs := []) (ls := []) ?_
  obtain rfl := Option.some.inj h
  exact k3
theorem kX11_sum (rc : Nat → (Nat → Nat → Int32) → Option (Nat → Nat → Int32)) (D : Nat) (hrc0 : ∀ (d n : Nat) (A : Nat → Nat → Int32) (L : Nat → Nat → Int64) (z : Nat → Nat → Int32), rc 0 A = some z → jEv jtab (D + d) 180 [.ref 94] (Sh0 n, A, L) 0 0 (fun r M2 => r = none ∧ M2 = (Sh0 n, z, L))) (hrc1 : ∀ (d n : Nat) (A : Nat → Nat → Int32) (L : Nat → Nat → Int64) (z : Nat → Nat → Int32), rc 1 A = some z → jEv jtab (D + d) 182 [.ref 94] (Sh0 n, A, L) 0 0 (fun r M2 => r = none ∧ M2 = (Sh0 n, z, L))) (hrc2 : ∀ (d n : Nat) (A : Nat → Nat → Int32) (L : Nat → Nat → Int64) (z : Nat → Nat → Int32), rc 2 A = some z → jEv jtab (D + d) 185 [.ref 94] (Sh0 n, A, L) 0 0 (fun r M2 => r = none ∧ M2 = (Sh0 n, z, L))) (d n : Nat) (A : Nat → Nat → Int32) (L : Nat → Nat → Int64) {z : (Nat → Nat → Int32)} (h : fX11_sum rc A = some z) : jEv jtab (D + d + 5) 183 [.ref 94] (Sh0 n, A, L) 0 0 (fun r M2 => r = none ∧ M2 = (Sh0 n, z, L)) :=
  jEv.mk (mt := mX11_sum) rfl (Nat.le_of_ble_eq_true rfl) (jWP.intro (pr := pX11_sum) (pc := 0) (tfX11_sum rc D hrc0 hrc1 hrc2 d n A L h ⟨trivial, jCn.mk ⟨rfl, rfl⟩⟩))
set_option maxRecDepth 20000 in
theorem tfX11_faulty (d n : Nat) (A : Nat → Nat → Int32) (L : Nat → Nat → Int64) {Q : Option Value → jM → Prop} {z : (Nat → Nat → Int32)} (h : fX11_faulty A = some z) (k3 : Q (none) (Sh0 n, z, L)) : pX11_faulty (jEv jtab (d + 0), jWP (jEv jtab (d + 0)) Q ((Sh0 n).length, jsl (Sh0 n)) pX11_faulty, Q, ((Sh0 n).length, jsl (Sh0 n))) 0 [some (.ref 94)] [] (Sh0 n, A, L) := by
  unfold fX11_faulty at h
  refine y_mask <| x_aload rfl <| x_getI (Nat.le_of_ble_eq_true rfl) rfl rfl <| y_if_ge (fun h1 => ?_) (fun h1 => ?_)
  · replace h := of_pos h h1
    refine jWP.intro (pr := pX11_faulty) (pc := 15) ?_
    refine y_mrv (bs := []) (ls := []) ?_
    obtain rfl := Option.some.inj h
    exact k3
  · replace h := of_neg h h1
    refine jWP.intro (pr := pX11_faulty) (pc := 7) ?_
    refine y_mask <| x_aload rfl <| x_aload rfl <| x_getI (Nat.le_of_ble_eq_true rfl) rfl rfl <| x_putI (Nat.le_of_ble_eq_true rfl) rfl rfl <| y_mask <| y_goto ?_
    refine jWP.intro (pr := pX11_faulty) (pc := 15) ?_
    refine y_mrv (bs := []) (ls := []) ?_
    obtain rfl := Option.some.inj h
    exact k3
theorem kX11_faulty (d n : Nat) (A : Nat → Nat → Int32) (L : Nat → Nat → Int64) {z : (Nat → Nat → Int32)} (h : fX11_faulty A = some z) : jEv jtab (d + 1) 175 [.ref 94] (Sh0 n, A, L) 0 0 (fun r M2 => r = none ∧ M2 = (Sh0 n, z, L)) :=
  jEv.mk (mt := mX11_faulty) rfl (Nat.le_of_ble_eq_true rfl) (jWP.intro (pr := pX11_faulty) (pc := 0) (tfX11_faulty d n A L h ⟨trivial, jCn.mk ⟨rfl, rfl⟩⟩))
set_option maxRecDepth 20000 in
theorem tfX11_opens (d n : Nat) (A : Nat → Nat → Int32) (L : Nat → Nat → Int64) {Q : Option Value → jM → Prop} {z : (Int32 × (Nat → Nat → Int32))} (h : fX11_opens A = some z) (k3 : (narrow .boolean (.int z.1) = .int z.1) → Q (some (.int z.1)) (Sh0 n, z.2, L)) : pX11_opens (jEv jtab (d + 3), jWP (jEv jtab (d + 3)) Q ((Sh0 n).length, jsl (Sh0 n)) pX11_opens, Q, ((Sh0 n).length, jsl (Sh0 n))) 0 [some (.ref 94)] [] (Sh0 n, A, L) := by
  unfold fX11_opens at h
  refine y_mask <| x_aload rfl <| x_getI (Nat.le_of_ble_eq_true rfl) rfl rfl <| x_push <| y_cmp_ne (fun h1 => ?_) (fun h1 => ?_)
  · replace h := of_neg h h1
    refine jWP.intro (pr := pX11_opens) (pc := 14) ?_
    obtain ⟨r2, hc3, h⟩ := of_bind h
    refine y_mask <| x_aload rfl <| x_dup rfl <| x_getI (Nat.le_of_ble_eq_true rfl) rfl rfl <| x_push <| x_iadd <| x_putI (Nat.le_of_ble_eq_true rfl) rfl rfl <| x_aload rfl <| y_invV0 (Nat.le_of_ble_eq_true rfl) rfl (Nat.le_of_ble_eq_true rfl) <| jEv.exV (kX11_next _ _ _ _ hc3) <| x_push <| y_ireturn (ls := [some (.ref 94)]) ?_
    obtain rfl := Option.some.inj h
    exact k3 (jnar_boolean (.inr rfl))
  · replace h := of_pos h h1
    refine jWP.intro (pr := pX11_opens) (pc := 8) ?_
    obtain ⟨r4, hc5, h⟩ := of_bind h
    refine y_mask <| x_aload rfl <| y_invV0 (Nat.le_of_ble_eq_true rfl) rfl (Nat.le_of_ble_eq_true rfl) <| jEv.exV (kX11_faulty _ _ _ _ hc5) <| x_push <| y_ireturn (ls := [some (.ref 94)]) ?_
    obtain rfl := Option.some.inj h
    exact k3 (jnar_boolean (.inl rfl))
theorem kX11_opens (d n : Nat) (A : Nat → Nat → Int32) (L : Nat → Nat → Int64) {z : (Int32 × (Nat → Nat → Int32))} (h : fX11_opens A = some z) : jEv jtab (d + 4) 179 [.ref 94] (Sh0 n, A, L) 0 0 (fun r M2 => r = some (.int z.1) ∧ M2 = (Sh0 n, z.2, L)) :=
  jEv.mk (mt := mX11_opens) rfl (Nat.le_of_ble_eq_true rfl) (jWP.intro (pr := pX11_opens) (pc := 0) (tfX11_opens d n A L h (fun hz => ⟨hz, jCn.mk ⟨rfl, rfl⟩⟩)))
set_option maxRecDepth 20000 in
theorem tjX11_denied_61 (rc : Nat → (Nat → Nat → Int32) → Option (Nat → Nat → Int32)) (D : Nat) (hrc0 : ∀ (d n : Nat) (A : Nat → Nat → Int32) (L : Nat → Nat → Int64) (z : Nat → Nat → Int32), rc 0 A = some z → jEv jtab (D + d) 180 [.ref 94] (Sh0 n, A, L) 0 0 (fun r M2 => r = none ∧ M2 = (Sh0 n, z, L))) (hrc1 : ∀ (d n : Nat) (A : Nat → Nat → Int32) (L : Nat → Nat → Int64) (z : Nat → Nat → Int32), rc 1 A = some z → jEv jtab (D + d) 182 [.ref 94] (Sh0 n, A, L) 0 0 (fun r M2 => r = none ∧ M2 = (Sh0 n, z, L))) (hrc2 : ∀ (d n : Nat) (A : Nat → Nat → Int32) (L : Nat → Nat → Int64) (z : Nat → Nat → Int32), rc 2 A = some z → jEv jtab (D + d) 185 [.ref 94] (Sh0 n, A, L) 0 0 (fun r M2 => r = none ∧ M2 = (Sh0 n, z, L))) (d n : Nat) (A : Nat → Nat → Int32) (L : Nat → Nat → Int64) {Q : Option Value → jM → Prop} {z : (Nat → Nat → Int32)} (h : jX11_denied_61 rc A = some z) (k3 : Q (none) (Sh0 n, z, L)) : pX11_denied (jEv jtab (D + d + 5), jWP (jEv jtab (D + d + 5)) Q ((Sh0 n).length, jsl (Sh0 n)) pX11_denied, Q, ((Sh0 n).length, jsl (Sh0 n))) 61 [some (.ref 94), none] [] (Sh0 n, A, L) := by
  unfold jX11_denied_61 at h
  obtain ⟨r1, hc2, h⟩ := of_bind h
  obtain ⟨r3, hc4, h⟩ := of_bind h
  obtain ⟨r5, hc6, h⟩ := of_bind h
  refine y_mask <| x_aload rfl <| x_getI (Nat.le_of_ble_eq_true rfl) rfl rfl <| x_istore rfl <| x_aload rfl <| y_invV0 (Nat.le_of_ble_eq_true rfl) rfl (Nat.le_of_ble_eq_true rfl) <| jEv.exV (kX11_next _ _ _ _ hc2) <| x_aload rfl <| y_invV0 (Nat.le_of_ble_eq_true rfl) rfl (Nat.le_of_ble_eq_true rfl) <| jEv.exV (kX11_sum rc D hrc0 hrc1 hrc2 _ _ _ _ hc4) <| x_aload rfl <| x_iload rfl <| x_push <| y_invV2 (Nat.le_of_ble_eq_true rfl) rfl (Nat.le_of_ble_eq_true rfl) <| jEv.exV (kX11_addStep _ _ _ _ _ _ hc6) <| y_return (ls := [some (.ref 94), some (.int (A 94 16))]) ?_
  obtain rfl := Option.some.inj h
  exact k3
set_option maxRecDepth 20000 in
theorem tgX11_denied (rc : Nat → (Nat → Nat → Int32) → Option (Nat → Nat → Int32)) (D : Nat) (hrc0 : ∀ (d n : Nat) (A : Nat → Nat → Int32) (L : Nat → Nat → Int64) (z : Nat → Nat → Int32), rc 0 A = some z → jEv jtab (D + d) 180 [.ref 94] (Sh0 n, A, L) 0 0 (fun r M2 => r = none ∧ M2 = (Sh0 n, z, L))) (hrc1 : ∀ (d n : Nat) (A : Nat → Nat → Int32) (L : Nat → Nat → Int64) (z : Nat → Nat → Int32), rc 1 A = some z → jEv jtab (D + d) 182 [.ref 94] (Sh0 n, A, L) 0 0 (fun r M2 => r = none ∧ M2 = (Sh0 n, z, L))) (hrc2 : ∀ (d n : Nat) (A : Nat → Nat → Int32) (L : Nat → Nat → Int64) (z : Nat → Nat → Int32), rc 2 A = some z → jEv jtab (D + d) 185 [.ref 94] (Sh0 n, A, L) 0 0 (fun r M2 => r = none ∧ M2 = (Sh0 n, z, L))) (d n : Nat) (A : Nat → Nat → Int32) (L : Nat → Nat → Int64) {Q : Option Value → jM → Prop} {z : (Nat → Nat → Int32)} (h : gX11_denied rc A = some z) (k3 : Q (none) (Sh0 n, z, L)) : pX11_denied (jEv jtab (D + d + 5), jWP (jEv jtab (D + d + 5)) Q ((Sh0 n).length, jsl (Sh0 n)) pX11_denied, Q, ((Sh0 n).length, jsl (Sh0 n))) 0 [some (.ref 94), none] [] (Sh0 n, A, L) := by
  unfold gX11_denied at h
  refine y_mask <| x_aload rfl <| x_push <| y_invV1 (Nat.le_of_ble_eq_true rfl) rfl (Nat.le_of_ble_eq_true rfl) <| jEv.exZ (q := 177) rfl (kX11_isKey _ _ _ _ _) <| fun hz1 => y_if_eq (fun h2 => ?_) (fun h2 => ?_)
  · replace h := of_pos h h2
    refine jWP.intro (pr := pX11_denied) (pc := 38) ?_
    obtain ⟨r3, hc4, h⟩ := of_bind h
    refine y_mask <| x_aload rfl <| y_invV0 (Nat.le_of_ble_eq_true rfl) rfl (Nat.le_of_ble_eq_true rfl) <| jEv.exV (kX11_sum rc D hrc0 hrc1 hrc2 _ _ _ _ hc4) <| x_aload rfl <| x_push <| y_invV1 (Nat.le_of_ble_eq_true rfl) rfl (Nat.le_of_ble_eq_true rfl) <| jEv.exZ (q := 176) rfl (kX11_isSign _ _ _ _ _) <| fun hz5 => y_if_ne (fun h6 => ?_) (fun h6 => ?_)
    · replace h := of_neg h h6
      refine jWP.intro (pr := pX11_denied) (pc := 61) ?_
      exact tjX11_denied_61 rc D hrc0 hrc1 hrc2 d n r3 L h k3
    · replace h := of_pos h h6
      refine jWP.intro (pr := pX11_denied) (pc := 51) ?_
      refine y_mask <| x_aload rfl <| x_push <| y_invV1 (Nat.le_of_ble_eq_true rfl) rfl (Nat.le_of_ble_eq_true rfl) <| jEv.exZ (q := 176) rfl (kX11_isSign _ _ _ _ _) <| fun hz7 => y_if_ne (fun h8 => ?_) (fun h8 => ?_)
      · replace h := of_neg h h8
        refine jWP.intro (pr := pX11_denied) (pc := 61) ?_
        exact tjX11_denied_61 rc D hrc0 hrc1 hrc2 d n r3 L h k3
      · replace h := of_pos h h8
        refine jWP.intro (pr := pX11_denied) (pc := 60) ?_
        refine y_mrv (bs := []) (ls := []) ?_
        obtain rfl := Option.some.inj h
        exact k3
  · replace h := of_neg h h2
    refine jWP.intro (pr := pX11_denied) (pc := 9) ?_
    obtain ⟨r9, hc10, h⟩ := of_bind h
    refine y_mask <| x_aload rfl <| y_invV0 (Nat.le_of_ble_eq_true rfl) rfl (Nat.le_of_ble_eq_true rfl) <| jEv.exZ (q := 179) rfl (kX11_opens _ _ _ _ hc10) <| fun hz11 => y_if_ne (fun h12 => ?_) (fun h12 => ?_)
    · replace h := of_neg h h12
      refine jWP.intro (pr := pX11_denied) (pc := 17) ?_
      obtain ⟨r13, hc14, h⟩ := of_bind h
      obtain ⟨r15, hc16, h⟩ := of_bind h
      refine y_mask <| x_aload rfl <| y_invV0 (Nat.le_of_ble_eq_true rfl) rfl (Nat.le_of_ble_eq_true rfl) <| jEv.exV (hrc1 (d + (5)) n r9.2 L _ hc14) <| x_aload rfl <| x_dup rfl <| x_getI (Nat.le_of_ble_eq_true rfl) rfl rfl <| x_push <| x_isub <| x_putI (Nat.le_of_ble_eq_true rfl) rfl rfl <| x_aload rfl <| x_push <| x_push <| y_invV2 (Nat.le_of_ble_eq_true rfl) rfl (Nat.le_of_ble_eq_true rfl) <| jEv.exV (kX11_addStep _ _ _ _ _ _ hc16) <| y_return (ls := [some (.ref 94), none]) ?_
      obtain rfl := Option.some.inj h
      exact k3
    · replace h := of_pos h h12
      refine jWP.intro (pr := pX11_denied) (pc := 16) ?_
      refine y_mrv (bs := []) (ls := []) ?_
      obtain rfl := Option.some.inj h
      exact k3
theorem qX11_denied (rc : Nat → (Nat → Nat → Int32) → Option (Nat → Nat → Int32)) (D : Nat) (hrc0 : ∀ (d n : Nat) (A : Nat → Nat → Int32) (L : Nat → Nat → Int64) (z : Nat → Nat → Int32), rc 0 A = some z → jEv jtab (D + d) 180 [.ref 94] (Sh0 n, A, L) 0 0 (fun r M2 => r = none ∧ M2 = (Sh0 n, z, L))) (hrc1 : ∀ (d n : Nat) (A : Nat → Nat → Int32) (L : Nat → Nat → Int64) (z : Nat → Nat → Int32), rc 1 A = some z → jEv jtab (D + d) 182 [.ref 94] (Sh0 n, A, L) 0 0 (fun r M2 => r = none ∧ M2 = (Sh0 n, z, L))) (hrc2 : ∀ (d n : Nat) (A : Nat → Nat → Int32) (L : Nat → Nat → Int64) (z : Nat → Nat → Int32), rc 2 A = some z → jEv jtab (D + d) 185 [.ref 94] (Sh0 n, A, L) 0 0 (fun r M2 => r = none ∧ M2 = (Sh0 n, z, L))) (d n : Nat) (A : Nat → Nat → Int32) (L : Nat → Nat → Int64) {z : (Nat → Nat → Int32)} (h : gX11_denied rc A = some z) : jEv jtab (D + d + 6) 182 [.ref 94] (Sh0 n, A, L) 0 0 (fun r M2 => r = none ∧ M2 = (Sh0 n, z, L)) :=
  jEv.mk (mt := mX11_denied) rfl (Nat.le_of_ble_eq_true rfl) (jWP.intro (pr := pX11_denied) (pc := 0) (tgX11_denied rc D hrc0 hrc1 hrc2 d n A L h ⟨trivial, jCn.mk ⟨rfl, rfl⟩⟩))
