/-! METHODS AS FUNCTIONS, printed by dec.py -/
noncomputable def fX11_count (A : Nat → Nat → Int32) (l1 : Int32) : Option Int32 :=
  (if (fX11_in l1 (0 : Int32) (5 : Int32)) = 0 then (if l1 = (6 : Int32) then some (A 94 21) else (if l1 = (7 : Int32) then some (A 94 33) else (if l1 = (8 : Int32) then some (A 94 37) else (if l1 = (9 : Int32) then some (A 94 42) else (if l1 = (10 : Int32) then some (A 94 5) else (if l1 = (11 : Int32) then some (A 94 6) else (if l1 = (12 : Int32) then some (A 94 4) else some (-2 : Int32)))))))) else jgd (vp_in l1 6) <| some (A 95 (jx l1)))
set_option maxRecDepth 20000 in
theorem tfX11_count (d n : Nat) (A : Nat → Nat → Int32) (L : Nat → Nat → Int64) (l1 : Int32) {Q : Option Value → jM → Prop} {z : Int32} (h : fX11_count A l1 = some z) (k3 : Q (some (.int z)) (Sh0 n, A, L)) : pX11_count (jEv jtab (d + 1), jWP (jEv jtab (d + 1)) Q ((Sh0 n).length, jsl (Sh0 n)) pX11_count, Q, ((Sh0 n).length, jsl (Sh0 n))) 0 [some (.ref 94), some (.int l1)] [] (Sh0 n, A, L) := by
  unfold fX11_count at h
  refine y_mask <| x_iload rfl <| x_push <| x_push <| y_invS3 (Nat.le_of_ble_eq_true rfl) <| jEv.exZ (q := 159) rfl (kX11_in _ _ _ _ _ _ _) <| fun hz1 => y_if_eq (fun h2 => ?_) (fun h2 => ?_)
  · replace h := of_pos h h2
    refine jWP.intro (pr := pX11_count) (pc := 16) ?_
    refine y_mask <| x_iload rfl <| y_sw (y_case (fun h3 => ?_) (fun h3 => y_case (fun h4 => ?_) (fun h4 => y_case (fun h5 => ?_) (fun h5 => y_case (fun h6 => ?_) (fun h6 => y_case (fun h7 => ?_) (fun h7 => y_case (fun h8 => ?_) (fun h8 => y_case (fun h9 => ?_) (fun h9 => y_dflt ?_))))))))
    · replace h := of_pos h h3
      refine jWP.intro (pr := pX11_count) (pc := 60) ?_
      refine y_mask <| x_aload rfl <| x_getI (Nat.le_of_ble_eq_true rfl) rfl rfl <| y_ireturn (ls := [some (.ref 94), none]) ?_
      obtain rfl := Option.some.inj h
      exact k3
    · replace h := of_neg h h3
      replace h := of_pos h h4
      refine jWP.intro (pr := pX11_count) (pc := 65) ?_
      refine y_mask <| x_aload rfl <| x_getI (Nat.le_of_ble_eq_true rfl) rfl rfl <| y_ireturn (ls := [some (.ref 94), none]) ?_
      obtain rfl := Option.some.inj h
      exact k3
    · replace h := of_neg h h3
      replace h := of_neg h h4
      replace h := of_pos h h5
      refine jWP.intro (pr := pX11_count) (pc := 70) ?_
      refine y_mask <| x_aload rfl <| x_getI (Nat.le_of_ble_eq_true rfl) rfl rfl <| y_ireturn (ls := [some (.ref 94), none]) ?_
      obtain rfl := Option.some.inj h
      exact k3
    · replace h := of_neg h h3
      replace h := of_neg h h4
      replace h := of_neg h h5
      replace h := of_pos h h6
      refine jWP.intro (pr := pX11_count) (pc := 75) ?_
      refine y_mask <| x_aload rfl <| x_getI (Nat.le_of_ble_eq_true rfl) rfl rfl <| y_ireturn (ls := [some (.ref 94), none]) ?_
      obtain rfl := Option.some.inj h
      exact k3
    · replace h := of_neg h h3
      replace h := of_neg h h4
      replace h := of_neg h h5
      replace h := of_neg h h6
      replace h := of_pos h h7
      refine jWP.intro (pr := pX11_count) (pc := 80) ?_
      refine y_mask <| x_aload rfl <| x_getI (Nat.le_of_ble_eq_true rfl) rfl rfl <| y_ireturn (ls := [some (.ref 94), none]) ?_
      obtain rfl := Option.some.inj h
      exact k3
    · replace h := of_neg h h3
      replace h := of_neg h h4
      replace h := of_neg h h5
      replace h := of_neg h h6
      replace h := of_neg h h7
      replace h := of_pos h h8
      refine jWP.intro (pr := pX11_count) (pc := 85) ?_
      refine y_mask <| x_aload rfl <| x_getI (Nat.le_of_ble_eq_true rfl) rfl rfl <| y_ireturn (ls := [some (.ref 94), none]) ?_
      obtain rfl := Option.some.inj h
      exact k3
    · replace h := of_neg h h3
      replace h := of_neg h h4
      replace h := of_neg h h5
      replace h := of_neg h h6
      replace h := of_neg h h7
      replace h := of_neg h h8
      replace h := of_pos h h9
      refine jWP.intro (pr := pX11_count) (pc := 90) ?_
      refine y_mask <| x_aload rfl <| x_getI (Nat.le_of_ble_eq_true rfl) rfl rfl <| y_ireturn (ls := [some (.ref 94), none]) ?_
      obtain rfl := Option.some.inj h
      exact k3
    · replace h := of_neg h h3
      replace h := of_neg h h4
      replace h := of_neg h h5
      replace h := of_neg h h6
      replace h := of_neg h h7
      replace h := of_neg h h8
      replace h := of_neg h h9
      skip
      refine jWP.intro (pr := pX11_count) (pc := 95) ?_
      refine y_mpri (bs := []) (ls := []) ?_
      obtain rfl := Option.some.inj h
      exact k3
  · replace h := of_neg h h2
    refine jWP.intro (pr := pX11_count) (pc := 9) ?_
    obtain ⟨g10, h⟩ := of_guard h
    refine y_mask <| x_aload rfl <| x_getR (Nat.le_of_ble_eq_true rfl) rfl rfl <| x_iload rfl <| x_iald rfl g10 <| y_ireturn (ls := [some (.ref 94), some (.int l1)]) ?_
    obtain rfl := Option.some.inj h
    exact k3
theorem kX11_count (d n : Nat) (A : Nat → Nat → Int32) (L : Nat → Nat → Int64) (l1 : Int32) {z : Int32} (h : fX11_count A l1 = some z) : jEv jtab (d + 2) 166 [.ref 94, .int l1] (Sh0 n, A, L) 0 0 (fun r M2 => r = some (.int z) ∧ M2 = (Sh0 n, A, L)) :=
  jEv.mk (mt := mX11_count) rfl (Nat.le_of_ble_eq_true rfl) (jWP.intro (pr := pX11_count) (pc := 0) (tfX11_count d n A L l1 h ⟨trivial, jCn.mk ⟨rfl, rfl⟩⟩))
noncomputable def fX11_isMinute (A : Nat → Nat → Int32) (l1 : Int32) : Int32 :=
  (fX11_in l1 (0 : Int32) ((A 95 5) - (1 : Int32)))
set_option maxRecDepth 20000 in
theorem tfX11_isMinute (d n : Nat) (A : Nat → Nat → Int32) (L : Nat → Nat → Int64) (l1 : Int32) {Q : Option Value → jM → Prop} {z : Int32} (h : fX11_isMinute A l1 = z) (k3 : (narrow .boolean (.int z) = .int z) → Q (some (.int z)) (Sh0 n, A, L)) : pX11_isMinute (jEv jtab (d + 1), jWP (jEv jtab (d + 1)) Q ((Sh0 n).length, jsl (Sh0 n)) pX11_isMinute, Q, ((Sh0 n).length, jsl (Sh0 n))) 0 [some (.ref 94), some (.int l1)] [] (Sh0 n, A, L) := by
  unfold fX11_isMinute at h
  refine y_mask <| x_iload rfl <| x_push <| x_aload rfl <| x_getR (Nat.le_of_ble_eq_true rfl) rfl rfl <| x_push <| x_iald rfl (by unfold vp_in; decide) <| x_push <| x_isub <| y_invS3 (Nat.le_of_ble_eq_true rfl) <| jEv.exZ (q := 159) rfl (kX11_in _ _ _ _ _ _ _) <| fun hz1 => y_ireturn (ls := [some (.ref 94), some (.int l1)]) ?_
  subst h
  exact k3 hz1
theorem kX11_isMinute (d n : Nat) (A : Nat → Nat → Int32) (L : Nat → Nat → Int64) (l1 : Int32) : jEv jtab (d + 2) 167 [.ref 94, .int l1] (Sh0 n, A, L) 0 0 (fun r M2 => r = some (.int (fX11_isMinute A l1)) ∧ M2 = (Sh0 n, A, L)) :=
  jEv.mk (mt := mX11_isMinute) rfl (Nat.le_of_ble_eq_true rfl) (jWP.intro (pr := pX11_isMinute) (pc := 0) (tfX11_isMinute d n A L l1 rfl (fun hz => ⟨hz, jCn.mk ⟨rfl, rfl⟩⟩)))
noncomputable def fX11_sizeOf (l0 : Int32) : Int32 :=
  (if 0 ≤ l0 then l0 else -l0)
set_option maxRecDepth 20000 in
theorem tfX11_sizeOf (d n : Nat) (A : Nat → Nat → Int32) (L : Nat → Nat → Int64) (l0 : Int32) {Q : Option Value → jM → Prop} {z : Int32} (h : fX11_sizeOf l0 = z) (k3 : Q (some (.int z)) (Sh0 n, A, L)) : pX11_sizeOf (jEv jtab (d + 0), jWP (jEv jtab (d + 0)) Q ((Sh0 n).length, jsl (Sh0 n)) pX11_sizeOf, Q, ((Sh0 n).length, jsl (Sh0 n))) 0 [some (.int l0)] [] (Sh0 n, A, L) := by
  unfold fX11_sizeOf at h
  refine y_mask <| x_iload rfl <| y_if_ge (fun h1 => ?_) (fun h1 => ?_)
  · replace h := of_pos h h1
    refine jWP.intro (pr := pX11_sizeOf) (pc := 9) ?_
    refine y_mask <| x_iload rfl <| y_mask <| y_goto ?_
    refine jWP.intro (pr := pX11_sizeOf) (pc := 10) ?_
    refine y_mri (bs := []) (ls := []) ?_
    subst h
    exact k3
  · replace h := of_neg h h1
    refine jWP.intro (pr := pX11_sizeOf) (pc := 4) ?_
    refine y_mask <| x_iload rfl <| x_ineg <| y_mask <| y_goto ?_
    refine jWP.intro (pr := pX11_sizeOf) (pc := 10) ?_
    refine y_mri (bs := []) (ls := []) ?_
    subst h
    exact k3
theorem kX11_sizeOf (d n : Nat) (A : Nat → Nat → Int32) (L : Nat → Nat → Int64) (l0 : Int32) : jEv jtab (d + 1) 161 [.int l0] (Sh0 n, A, L) 0 0 (fun r M2 => r = some (.int (fX11_sizeOf l0)) ∧ M2 = (Sh0 n, A, L)) :=
  jEv.mk (mt := mX11_sizeOf) rfl (Nat.le_of_ble_eq_true rfl) (jWP.intro (pr := pX11_sizeOf) (pc := 0) (tfX11_sizeOf d n A L l0 rfl ⟨trivial, jCn.mk ⟨rfl, rfl⟩⟩))
noncomputable def fX11_farIn (A : Nat → Nat → Int32) (l1 : Int32) : Int32 :=
  (A 95 0) + (((A 95 1) * (fX11_sizeOf (((2 : Int32) * l1) - ((A 95 5) - (1 : Int32))))) / (2 : Int32))
set_option maxRecDepth 20000 in
theorem tfX11_farIn (d n : Nat) (A : Nat → Nat → Int32) (L : Nat → Nat → Int64) (l1 : Int32) {Q : Option Value → jM → Prop} {z : Int32} (h : fX11_farIn A l1 = z) (k3 : Q (some (.int z)) (Sh0 n, A, L)) : pX11_farIn (jEv jtab (d + 1), jWP (jEv jtab (d + 1)) Q ((Sh0 n).length, jsl (Sh0 n)) pX11_farIn, Q, ((Sh0 n).length, jsl (Sh0 n))) 0 [some (.ref 94), some (.int l1)] [] (Sh0 n, A, L) := by
  unfold fX11_farIn at h
  refine y_mask <| x_aload rfl <| x_getR (Nat.le_of_ble_eq_true rfl) rfl rfl <| x_push <| x_iald rfl (by unfold vp_in; decide) <| x_aload rfl <| x_getR (Nat.le_of_ble_eq_true rfl) rfl rfl <| x_push <| x_iald rfl (by unfold vp_in; decide) <| x_push <| x_iload rfl <| x_imul <| x_aload rfl <| x_getR (Nat.le_of_ble_eq_true rfl) rfl rfl <| x_push <| x_iald rfl (by unfold vp_in; decide) <| x_push <| x_isub <| x_isub <| y_invS1 (Nat.le_of_ble_eq_true rfl) <| jEv.exI (kX11_sizeOf _ _ _ _ _) <| x_imul <| x_push <| x_idiv (by decide) <| x_iadd <| y_ireturn (ls := [some (.ref 94), some (.int l1)]) ?_
  subst h
  exact k3
theorem kX11_farIn (d n : Nat) (A : Nat → Nat → Int32) (L : Nat → Nat → Int64) (l1 : Int32) : jEv jtab (d + 2) 168 [.ref 94, .int l1] (Sh0 n, A, L) 0 0 (fun r M2 => r = some (.int (fX11_farIn A l1)) ∧ M2 = (Sh0 n, A, L)) :=
  jEv.mk (mt := mX11_farIn) rfl (Nat.le_of_ble_eq_true rfl) (jWP.intro (pr := pX11_farIn) (pc := 0) (tfX11_farIn d n A L l1 rfl ⟨trivial, jCn.mk ⟨rfl, rfl⟩⟩))
noncomputable def fX11_pass (A : Nat → Nat → Int32) (l1 : Int32) : Int32 :=
  (if (fX11_isMinute A l1) = 0 then (-2 : Int32) else (fX11_farIn A l1))
set_option maxRecDepth 20000 in
theorem tfX11_pass (d n : Nat) (A : Nat → Nat → Int32) (L : Nat → Nat → Int64) (l1 : Int32) {Q : Option Value → jM → Prop} {z : Int32} (h : fX11_pass A l1 = z) (k3 : Q (some (.int z)) (Sh0 n, A, L)) : pX11_pass (jEv jtab (d + 2), jWP (jEv jtab (d + 2)) Q ((Sh0 n).length, jsl (Sh0 n)) pX11_pass, Q, ((Sh0 n).length, jsl (Sh0 n))) 0 [some (.ref 94), some (.int l1)] [] (Sh0 n, A, L) := by
  unfold fX11_pass at h
  refine y_mask <| x_aload rfl <| x_iload rfl <| y_invV1 (Nat.le_of_ble_eq_true rfl) rfl (Nat.le_of_ble_eq_true rfl) <| jEv.exZ (q := 167) rfl (kX11_isMinute _ _ _ _ _) <| fun hz1 => y_if_eq (fun h2 => ?_) (fun h2 => ?_)
  · replace h := of_pos h h2
    refine jWP.intro (pr := pX11_pass) (pc := 16) ?_
    refine y_mask <| x_push <| y_mask <| y_goto ?_
    refine jWP.intro (pr := pX11_pass) (pc := 18) ?_
    refine y_mri (bs := []) (ls := []) ?_
    subst h
    exact k3
  · replace h := of_neg h h2
    refine jWP.intro (pr := pX11_pass) (pc := 8) ?_
    refine y_mask <| x_aload rfl <| x_iload rfl <| y_invV1 (Nat.le_of_ble_eq_true rfl) rfl (Nat.le_of_ble_eq_true rfl) <| jEv.exI (kX11_farIn _ _ _ _ _) <| y_mask <| y_goto ?_
    refine jWP.intro (pr := pX11_pass) (pc := 18) ?_
    refine y_mri (bs := []) (ls := []) ?_
    subst h
    exact k3
theorem kX11_pass (d n : Nat) (A : Nat → Nat → Int32) (L : Nat → Nat → Int64) (l1 : Int32) : jEv jtab (d + 3) 169 [.ref 94, .int l1] (Sh0 n, A, L) 0 0 (fun r M2 => r = some (.int (fX11_pass A l1)) ∧ M2 = (Sh0 n, A, L)) :=
  jEv.mk (mt := mX11_pass) rfl (Nat.le_of_ble_eq_true rfl) (jWP.intro (pr := pX11_pass) (pc := 0) (tfX11_pass d n A L l1 rfl ⟨trivial, jCn.mk ⟨rfl, rfl⟩⟩))
noncomputable def cX11_feed_33 (l1 : Int64) (s : (Int32 × (Nat → Nat → Int32))) : Option ((Int32 × (Nat → Nat → Int32)) ⊕ (Nat → Nat → Int32)) :=
  (if s.1 < 0 then some (.inr s.2) else jgd (vp_in (s.2 94 4) 160) <| Option.bind (some (va_up s.2 97 (upd (s.2 97) (jx (s.2 94 4)) ((((jlshr l1 ((8 : Int32) * s.1)).toInt32).toInt8.toInt32).toInt8.toInt32)))) fun m3 => some (.inl (s.1 + (-1 : Int32), (va_up m3 94 (upd (m3 94) 4 ((m3 94 4) + (1 : Int32)))))))
set_option maxRecDepth 20000 in
theorem tcX11_feed_33 (d n : Nat) (A : Nat → Nat → Int32) (L : Nat → Nat → Int64) (l1 : Int64) (s : (Int32 × (Nat → Nat → Int32))) {Q : Option Value → jM → Prop} {z : ((Int32 × (Nat → Nat → Int32)) ⊕ (Nat → Nat → Int32))} (h : cX11_feed_33 l1 s = some z) (k1 : ∀ s0, z = .inl s0 → pX11_feed (jEv jtab (d + 1), jWP (jEv jtab (d + 1)) Q ((Sh0 n).length, jsl (Sh0 n)) pX11_feed, Q, ((Sh0 n).length, jsl (Sh0 n))) 33 [some (.ref 94), some (.long l1), none, none, some (.int s0.1)] [] (Sh0 n, s0.2, L)) (k2 : ∀ s0, z = .inr s0 → pX11_feed (jEv jtab (d + 1), jWP (jEv jtab (d + 1)) Q ((Sh0 n).length, jsl (Sh0 n)) pX11_feed, Q, ((Sh0 n).length, jsl (Sh0 n))) 72 [some (.ref 94), none, none, none, none] [] (Sh0 n, s0, L)) : pX11_feed (jEv jtab (d + 1), jWP (jEv jtab (d + 1)) Q ((Sh0 n).length, jsl (Sh0 n)) pX11_feed, Q, ((Sh0 n).length, jsl (Sh0 n))) 33 [some (.ref 94), some (.long l1), none, none, some (.int s.1)] [] (Sh0 n, s.2, L) := by
  unfold cX11_feed_33 at h
  refine y_mask <| x_iload rfl <| y_if_lt (fun h1 => ?_) (fun h1 => ?_)
  · replace h := of_pos h h1
    refine jWP.intro (pr := pX11_feed) (pc := 72) ?_
    have hk := k2 _ (Option.some.inj h).symm
    exact hk
  · replace h := of_neg h h1
    refine jWP.intro (pr := pX11_feed) (pc := 38) ?_
    obtain ⟨g2, h⟩ := of_guard h
    obtain ⟨m3, hm4, h⟩ := of_bind h
    refine y_mask <| x_aload rfl <| x_getR (Nat.le_of_ble_eq_true rfl) rfl rfl <| x_aload rfl <| x_getI (Nat.le_of_ble_eq_true rfl) rfl rfl <| x_lload rfl <| x_push <| x_iload rfl <| x_imul <| x_lshr <| x_l2i <| x_i2b <| x_bast (Nat.le_of_ble_eq_true rfl) rfl g2 <| y_let (Option.some.inj hm4) <| x_aload rfl <| x_dup rfl <| x_getI (Nat.le_of_ble_eq_true rfl) rfl rfl <| x_push <| x_iadd <| x_putI (Nat.le_of_ble_eq_true rfl) rfl rfl <| x_iinc rfl rfl <| y_mask <| y_goto ?_
    refine jWP.intro (pr := pX11_feed) (pc := 33) ?_
    have hk := k1 _ (Option.some.inj h).symm
    exact hk
noncomputable def fX11_feed (A : Nat → Nat → Int32) (l1 : Int64) (l3 : Int32) : Option (Int32 × (Nat → Nat → Int32)) :=
  (if (fX11_in l3 (1 : Int32) (8 : Int32)) = 0 then some ((-2 : Int32), A) else (if ((A 94 4) + l3) ≤ (160 : Int32) then Option.bind (jwh (cX11_feed_33 l1) (l3 - (1 : Int32), A)) fun e4 => some ((e4 94 4), e4) else some ((-4 : Int32), A)))
set_option maxRecDepth 20000 in
theorem tfX11_feed (d n : Nat) (A : Nat → Nat → Int32) (L : Nat → Nat → Int64) (l1 : Int64) (l3 : Int32) {Q : Option Value → jM → Prop} {z : (Int32 × (Nat → Nat → Int32))} (h : fX11_feed A l1 l3 = some z) (k3 : Q (some (.int z.1)) (Sh0 n, z.2, L)) : pX11_feed (jEv jtab (d + 1), jWP (jEv jtab (d + 1)) Q ((Sh0 n).length, jsl (Sh0 n)) pX11_feed, Q, ((Sh0 n).length, jsl (Sh0 n))) 0 [some (.ref 94), some (.long l1), none, some (.int l3), none] [] (Sh0 n, A, L) := by
  unfold fX11_feed at h
  refine y_mask <| x_iload rfl <| x_push <| x_push <| y_invS3 (Nat.le_of_ble_eq_true rfl) <| jEv.exZ (q := 159) rfl (kX11_in _ _ _ _ _ _ _) <| fun hz1 => y_if_ne (fun h2 => ?_) (fun h2 => ?_)
  · replace h := of_neg h h2
    refine jWP.intro (pr := pX11_feed) (pc := 13) ?_
    refine y_mask <| x_aload rfl <| x_getI (Nat.le_of_ble_eq_true rfl) rfl rfl <| x_iload rfl <| x_iadd <| x_push <| y_cmp_le (fun h3 => ?_) (fun h3 => ?_)
    · replace h := of_pos h h3
      refine jWP.intro (pr := pX11_feed) (pc := 28) ?_
      refine y_mask <| x_iload rfl <| x_push <| x_isub <| x_istore rfl <| y_mask <| y_goto ?_
      obtain ⟨e4, hw5, h⟩ := of_bind h
      refine jWP.intro (pr := pX11_feed) (pc := 33) ?_
      refine jwh_use (G := (fun s0 => pX11_feed (jEv jtab (d + 1), jWP (jEv jtab (d + 1)) Q ((Sh0 n).length, jsl (Sh0 n)) pX11_feed, Q, ((Sh0 n).length, jsl (Sh0 n))) 33 [some (.ref 94), some (.long l1), none, none, some (.int s0.1)] [] (Sh0 n, s0.2, L))) (Gx := (fun s0 => pX11_feed (jEv jtab (d + 1), jWP (jEv jtab (d + 1)) Q ((Sh0 n).length, jsl (Sh0 n)) pX11_feed, Q, ((Sh0 n).length, jsl (Sh0 n))) 72 [some (.ref 94), none, none, none, none] [] (Sh0 n, s0, L))) (fun s1 z1 hz kk1 kk2 => tcX11_feed_33 d n A L l1 s1 hz kk1 kk2) hw5 ?_
      refine y_mask <| x_aload rfl <| x_getI (Nat.le_of_ble_eq_true rfl) rfl rfl <| y_ireturn (ls := [some (.ref 94), none, none, none, none]) ?_
      obtain rfl := Option.some.inj h
      exact k3
    · replace h := of_neg h h3
      refine jWP.intro (pr := pX11_feed) (pc := 25) ?_
      refine y_mpri (bs := []) (ls := []) ?_
      obtain rfl := Option.some.inj h
      exact k3
  · replace h := of_pos h h2
    refine jWP.intro (pr := pX11_feed) (pc := 10) ?_
    refine y_mpri (bs := []) (ls := []) ?_
    obtain rfl := Option.some.inj h
    exact k3
theorem kX11_feed (d n : Nat) (A : Nat → Nat → Int32) (L : Nat → Nat → Int64) (l1 : Int64) (l3 : Int32) {z : (Int32 × (Nat → Nat → Int32))} (h : fX11_feed A l1 l3 = some z) : jEv jtab (d + 2) 170 [.ref 94, .long l1, .int l3] (Sh0 n, A, L) 0 0 (fun r M2 => r = some (.int z.1) ∧ M2 = (Sh0 n, z.2, L)) :=
  jEv.mk (mt := mX11_feed) rfl (Nat.le_of_ble_eq_true rfl) (jWP.intro (pr := pX11_feed) (pc := 0) (tfX11_feed d n A L l1 l3 h ⟨trivial, jCn.mk ⟨rfl, rfl⟩⟩))
noncomputable def fX11_isLetter (l0 : Int32) : Int32 :=
  (fX11_in l0 (97 : Int32) (122 : Int32))
set_option maxRecDepth 20000 in
theorem tfX11_isLetter (d n : Nat) (A : Nat → Nat → Int32) (L : Nat → Nat → Int64) (l0 : Int32) {Q : Option Value → jM → Prop} {z : Int32} (h : fX11_isLetter l0 = z) (k3 : (narrow .boolean (.int z) = .int z) → Q (some (.int z)) (Sh0 n, A, L)) : pX11_isLetter (jEv jtab (d + 1), jWP (jEv jtab (d + 1)) Q ((Sh0 n).length, jsl (Sh0 n)) pX11_isLetter, Q, ((Sh0 n).length, jsl (Sh0 n))) 0 [some (.int l0)] [] (Sh0 n, A, L) := by
  unfold fX11_isLetter at h
  refine y_mask <| x_iload rfl <| x_push <| x_push <| y_invS3 (Nat.le_of_ble_eq_true rfl) <| jEv.exZ (q := 159) rfl (kX11_in _ _ _ _ _ _ _) <| fun hz1 => y_ireturn (ls := [some (.int l0)]) ?_
  subst h
  exact k3 hz1
theorem kX11_isLetter (d n : Nat) (A : Nat → Nat → Int32) (L : Nat → Nat → Int64) (l0 : Int32) : jEv jtab (d + 2) 171 [.int l0] (Sh0 n, A, L) 0 0 (fun r M2 => r = some (.int (fX11_isLetter l0)) ∧ M2 = (Sh0 n, A, L)) :=
  jEv.mk (mt := mX11_isLetter) rfl (Nat.le_of_ble_eq_true rfl) (jWP.intro (pr := pX11_isLetter) (pc := 0) (tfX11_isLetter d n A L l0 rfl (fun hz => ⟨hz, jCn.mk ⟨rfl, rfl⟩⟩)))
noncomputable def fX11_isDigit (l0 : Int32) : Int32 :=
  (fX11_in l0 (48 : Int32) (57 : Int32))
set_option maxRecDepth 20000 in
theorem tfX11_isDigit (d n : Nat) (A : Nat → Nat → Int32) (L : Nat → Nat → Int64) (l0 : Int32) {Q : Option Value → jM → Prop} {z : Int32} (h : fX11_isDigit l0 = z) (k3 : (narrow .boolean (.int z) = .int z) → Q (some (.int z)) (Sh0 n, A, L)) : pX11_isDigit (jEv jtab (d + 1), jWP (jEv jtab (d + 1)) Q ((Sh0 n).length, jsl (Sh0 n)) pX11_isDigit, Q, ((Sh0 n).length, jsl (Sh0 n))) 0 [some (.int l0)] [] (Sh0 n, A, L) := by
  unfold fX11_isDigit at h
  refine y_mask <| x_iload rfl <| x_push <| x_push <| y_invS3 (Nat.le_of_ble_eq_true rfl) <| jEv.exZ (q := 159) rfl (kX11_in _ _ _ _ _ _ _) <| fun hz1 => y_ireturn (ls := [some (.int l0)]) ?_
  subst h
  exact k3 hz1
theorem kX11_isDigit (d n : Nat) (A : Nat → Nat → Int32) (L : Nat → Nat → Int64) (l0 : Int32) : jEv jtab (d + 2) 172 [.int l0] (Sh0 n, A, L) 0 0 (fun r M2 => r = some (.int (fX11_isDigit l0)) ∧ M2 = (Sh0 n, A, L)) :=
  jEv.mk (mt := mX11_isDigit) rfl (Nat.le_of_ble_eq_true rfl) (jWP.intro (pr := pX11_isDigit) (pc := 0) (tfX11_isDigit d n A L l0 rfl (fun hz => ⟨hz, jCn.mk ⟨rfl, rfl⟩⟩)))
noncomputable def jX11_wordNow_52_18 (A : Nat → Nat → Int32) (l1 : Int32) (l2 : Int32) (l3 : Int32) : Option ((Int32 × Int32 × Int32) ⊕ (Int32 × Int32 × Int32)) :=
  some (.inl (l1 + (1 : Int32), l3 + (1 : Int32), (0 : Int32)))
set_option maxRecDepth 20000 in
theorem tjX11_wordNow_52_18 (d n : Nat) (A : Nat → Nat → Int32) (L : Nat → Nat → Int64) (l1 : Int32) (l2 : Int32) (l3 : Int32) {Q : Option Value → jM → Prop} {z : ((Int32 × Int32 × Int32) ⊕ (Int32 × Int32 × Int32))} (h : jX11_wordNow_52_18 A l1 l2 l3 = some z) (k1 : ∀ s0, z = .inl s0 → pX11_wordNow (jEv jtab (d + 0), jWP (jEv jtab (d + 0)) Q ((Sh0 n).length, jsl (Sh0 n)) pX11_wordNow, Q, ((Sh0 n).length, jsl (Sh0 n))) 18 [some (.ref 94), some (.int s0.1), some (.int l2), some (.int s0.2.1), some (.int s0.2.2)] [] (Sh0 n, A, L)) (k2 : ∀ s0, z = .inr s0 → pX11_wordNow (jEv jtab (d + 0), jWP (jEv jtab (d + 0)) Q ((Sh0 n).length, jsl (Sh0 n)) pX11_wordNow, Q, ((Sh0 n).length, jsl (Sh0 n))) 64 [some (.ref 94), some (.int s0.1), some (.int l2), some (.int s0.2.1), some (.int s0.2.2)] [] (Sh0 n, A, L)) : pX11_wordNow (jEv jtab (d + 0), jWP (jEv jtab (d + 0)) Q ((Sh0 n).length, jsl (Sh0 n)) pX11_wordNow, Q, ((Sh0 n).length, jsl (Sh0 n))) 52 [some (.ref 94), some (.int l1), some (.int l2), some (.int l3), none] [] (Sh0 n, A, L) := by
  unfold jX11_wordNow_52_18 at h
  refine y_mask <| x_push <| x_istore rfl <| y_mask <| y_goto ?_
  refine jWP.intro (pr := pX11_wordNow) (pc := 55) ?_
  refine y_mask <| x_iinc rfl rfl <| x_iinc rfl rfl <| y_mask <| y_goto ?_
  refine jWP.intro (pr := pX11_wordNow) (pc := 18) ?_
  have hk := k1 _ (Option.some.inj h).symm
  exact hk
noncomputable def cX11_wordNow_18 (A : Nat → Nat → Int32) (l2 : Int32) (s : (Int32 × Int32 × Int32)) : Option ((Int32 × Int32 × Int32) ⊕ (Int32 × Int32 × Int32)) :=
  jgd (vp_in s.1 59) <| (if (A 103 (jx s.1)) = (32 : Int32) then some (.inr (s.1, s.2.1, s.2.2)) else (if (A 94 14) ≤ s.2.1 then jX11_wordNow_52_18 A s.1 l2 s.2.1 else jgd (vp_in s.2.1 160) <| jgd (vp_in s.1 59) <| (if (A 97 (jx s.2.1)) = (A 103 (jx s.1)) then some (.inl (s.1 + (1 : Int32), s.2.1 + (1 : Int32), s.2.2)) else jX11_wordNow_52_18 A s.1 l2 s.2.1)))
set_option maxRecDepth 20000 in
theorem tcX11_wordNow_18 (d n : Nat) (A : Nat → Nat → Int32) (L : Nat → Nat → Int64) (l2 : Int32) (s : (Int32 × Int32 × Int32)) {Q : Option Value → jM → Prop} {z : ((Int32 × Int32 × Int32) ⊕ (Int32 × Int32 × Int32))} (h : cX11_wordNow_18 A l2 s = some z) (k1 : ∀ s0, z = .inl s0 → pX11_wordNow (jEv jtab (d + 0), jWP (jEv jtab (d + 0)) Q ((Sh0 n).length, jsl (Sh0 n)) pX11_wordNow, Q, ((Sh0 n).length, jsl (Sh0 n))) 18 [some (.ref 94), some (.int s0.1), some (.int l2), some (.int s0.2.1), some (.int s0.2.2)] [] (Sh0 n, A, L)) (k2 : ∀ s0, z = .inr s0 → pX11_wordNow (jEv jtab (d + 0), jWP (jEv jtab (d + 0)) Q ((Sh0 n).length, jsl (Sh0 n)) pX11_wordNow, Q, ((Sh0 n).length, jsl (Sh0 n))) 64 [some (.ref 94), some (.int s0.1), some (.int l2), some (.int s0.2.1), some (.int s0.2.2)] [] (Sh0 n, A, L)) : pX11_wordNow (jEv jtab (d + 0), jWP (jEv jtab (d + 0)) Q ((Sh0 n).length, jsl (Sh0 n)) pX11_wordNow, Q, ((Sh0 n).length, jsl (Sh0 n))) 18 [some (.ref 94), some (.int s.1), some (.int l2), some (.int s.2.1), some (.int s.2.2)] [] (Sh0 n, A, L) := by
  unfold cX11_wordNow_18 at h
  obtain ⟨g1, h⟩ := of_guard h
  refine y_mask <| x_aload rfl <| x_getR (Nat.le_of_ble_eq_true rfl) rfl rfl <| x_iload rfl <| x_iald rfl g1 <| x_push <| y_cmp_eq (fun h2 => ?_) (fun h2 => ?_)
  · replace h := of_pos h h2
    refine jWP.intro (pr := pX11_wordNow) (pc := 64) ?_
    have hk := k2 _ (Option.some.inj h).symm
    exact hk
  · replace h := of_neg h h2
    refine jWP.intro (pr := pX11_wordNow) (pc := 29) ?_
    refine y_mask <| x_iload rfl <| x_aload rfl <| x_getI (Nat.le_of_ble_eq_true rfl) rfl rfl <| y_cmp_ge (fun h3 => ?_) (fun h3 => ?_)
    · replace h := of_pos h h3
      refine jWP.intro (pr := pX11_wordNow) (pc := 52) ?_
      exact tjX11_wordNow_52_18 d n A L s.1 l2 s.2.1 h k1 k2
    · replace h := of_neg h h3
      refine jWP.intro (pr := pX11_wordNow) (pc := 37) ?_
      obtain ⟨g4, h⟩ := of_guard h
      obtain ⟨g5, h⟩ := of_guard h
      refine y_mask <| x_aload rfl <| x_getR (Nat.le_of_ble_eq_true rfl) rfl rfl <| x_iload rfl <| x_bald rfl g4 <| x_aload rfl <| x_getR (Nat.le_of_ble_eq_true rfl) rfl rfl <| x_iload rfl <| x_iald rfl g5 <| y_cmp_eq (fun h6 => ?_) (fun h6 => ?_)
      · replace h := of_pos h h6
        refine jWP.intro (pr := pX11_wordNow) (pc := 55) ?_
        refine y_mask <| x_iinc rfl rfl <| x_iinc rfl rfl <| y_mask <| y_goto ?_
        refine jWP.intro (pr := pX11_wordNow) (pc := 18) ?_
        have hk := k1 _ (Option.some.inj h).symm
        exact hk
      · replace h := of_neg h h6
        refine jWP.intro (pr := pX11_wordNow) (pc := 52) ?_
        exact tjX11_wordNow_52_18 d n A L s.1 l2 s.2.1 h k1 k2
noncomputable def cX11_wordNow_4 (A : Nat → Nat → Int32) (s : (Int32 × Int32)) : Option ((Int32 × Int32) ⊕ (Unit ⊕ Int32)) :=
  (if (12 : Int32) ≤ s.2 then some (.inr (.inl ())) else Option.bind (jwh (cX11_wordNow_18 A s.2) (s.1, (A 94 13), (1 : Int32))) fun e2 => (if e2.2.2 = 0 then some (.inl (e2.1 + (1 : Int32), s.2 + (1 : Int32))) else (if e2.2.1 = (A 94 14) then jgd (vp_in s.2 12) <| some (.inr (.inr (A 104 (jx s.2)))) else some (.inl (e2.1 + (1 : Int32), s.2 + (1 : Int32))))))
set_option maxRecDepth 20000 in
theorem tcX11_wordNow_4 (d n : Nat) (A : Nat → Nat → Int32) (L : Nat → Nat → Int64) (s : (Int32 × Int32)) {Q : Option Value → jM → Prop} {z : ((Int32 × Int32) ⊕ (Unit ⊕ Int32))} (h : cX11_wordNow_4 A s = some z) (k1 : ∀ s0, z = .inl s0 → pX11_wordNow (jEv jtab (d + 0), jWP (jEv jtab (d + 0)) Q ((Sh0 n).length, jsl (Sh0 n)) pX11_wordNow, Q, ((Sh0 n).length, jsl (Sh0 n))) 4 [some (.ref 94), some (.int s0.1), some (.int s0.2), none, none] [] (Sh0 n, A, L)) (k2 : ∀ s0, z = .inr (.inl s0) → pX11_wordNow (jEv jtab (d + 0), jWP (jEv jtab (d + 0)) Q ((Sh0 n).length, jsl (Sh0 n)) pX11_wordNow, Q, ((Sh0 n).length, jsl (Sh0 n))) 93 [none, none, none, none, none] [] (Sh0 n, A, L)) (k3 : ∀ s0, z = .inr (.inr s0) → Q (some (.int s0)) (Sh0 n, A, L)) : pX11_wordNow (jEv jtab (d + 0), jWP (jEv jtab (d + 0)) Q ((Sh0 n).length, jsl (Sh0 n)) pX11_wordNow, Q, ((Sh0 n).length, jsl (Sh0 n))) 4 [some (.ref 94), some (.int s.1), some (.int s.2), none, none] [] (Sh0 n, A, L) := by
  unfold cX11_wordNow_4 at h
  refine y_mask <| x_iload rfl <| x_push <| y_cmp_ge (fun h1 => ?_) (fun h1 => ?_)
  · replace h := of_pos h h1
    refine jWP.intro (pr := pX11_wordNow) (pc := 93) ?_
    have hk := k2 _ (Option.some.inj h).symm
    exact hk
  · replace h := of_neg h h1
    refine jWP.intro (pr := pX11_wordNow) (pc := 10) ?_
    refine y_mask <| x_aload rfl <| x_getI (Nat.le_of_ble_eq_true rfl) rfl rfl <| x_istore rfl <| x_push <| x_istore rfl <| y_mask <| y_goto ?_
    obtain ⟨e2, hw3, h⟩ := of_bind h
    refine jWP.intro (pr := pX11_wordNow) (pc := 18) ?_
    refine jwh_use (G := (fun s0 => pX11_wordNow (jEv jtab (d + 0), jWP (jEv jtab (d + 0)) Q ((Sh0 n).length, jsl (Sh0 n)) pX11_wordNow, Q, ((Sh0 n).length, jsl (Sh0 n))) 18 [some (.ref 94), some (.int s0.1), some (.int s.2), some (.int s0.2.1), some (.int s0.2.2)] [] (Sh0 n, A, L))) (Gx := (fun s0 => pX11_wordNow (jEv jtab (d + 0), jWP (jEv jtab (d + 0)) Q ((Sh0 n).length, jsl (Sh0 n)) pX11_wordNow, Q, ((Sh0 n).length, jsl (Sh0 n))) 64 [some (.ref 94), some (.int s0.1), some (.int s.2), some (.int s0.2.1), some (.int s0.2.2)] [] (Sh0 n, A, L))) (fun s1 z1 hz kk1 kk2 => tcX11_wordNow_18 d n A L s.2 s1 hz kk1 kk2) hw3 ?_
    refine y_mask <| x_iinc rfl rfl <| x_iload rfl <| y_if_eq (fun h4 => ?_) (fun h4 => ?_)
    · replace h := of_pos h h4
      refine jWP.intro (pr := pX11_wordNow) (pc := 87) ?_
      refine y_mask <| x_iinc rfl rfl <| y_mask <| y_goto ?_
      refine jWP.intro (pr := pX11_wordNow) (pc := 4) ?_
      have hk := k1 _ (Option.some.inj h).symm
      exact hk
    · replace h := of_neg h h4
      refine jWP.intro (pr := pX11_wordNow) (pc := 72) ?_
      refine y_mask <| x_iload rfl <| x_aload rfl <| x_getI (Nat.le_of_ble_eq_true rfl) rfl rfl <| y_cmp_ne (fun h5 => ?_) (fun h5 => ?_)
      · replace h := of_neg h h5
        refine jWP.intro (pr := pX11_wordNow) (pc := 87) ?_
        refine y_mask <| x_iinc rfl rfl <| y_mask <| y_goto ?_
        refine jWP.intro (pr := pX11_wordNow) (pc := 4) ?_
        have hk := k1 _ (Option.some.inj h).symm
        exact hk
      · replace h := of_pos h h5
        refine jWP.intro (pr := pX11_wordNow) (pc := 80) ?_
        obtain ⟨g6, h⟩ := of_guard h
        refine y_mask <| x_aload rfl <| x_getR (Nat.le_of_ble_eq_true rfl) rfl rfl <| x_iload rfl <| x_iald rfl g6 <| y_ireturn (ls := [some (.ref 94), none, some (.int s.2), none, none]) ?_
        have hk := k3 _ (Option.some.inj h).symm
        exact hk
noncomputable def fX11_wordNow (A : Nat → Nat → Int32) : Option Int32 :=
  Option.bind (jwh (cX11_wordNow_4 A) ((0 : Int32), (0 : Int32))) (Sum.elim (fun e1 => some (-1 : Int32)) (fun s0 => some s0))
set_option maxRecDepth 20000 in
theorem tfX11_wordNow (d n : Nat) (A : Nat → Nat → Int32) (L : Nat → Nat → Int64) {Q : Option Value → jM → Prop} {z : Int32} (h : fX11_wordNow A = some z) (k3 : Q (some (.int z)) (Sh0 n, A, L)) : pX11_wordNow (jEv jtab (d + 0), jWP (jEv jtab (d + 0)) Q ((Sh0 n).length, jsl (Sh0 n)) pX11_wordNow, Q, ((Sh0 n).length, jsl (Sh0 n))) 0 [some (.ref 94), none, none, none, none] [] (Sh0 n, A, L) := by
  unfold fX11_wordNow at h
  refine y_mask <| x_push <| x_istore rfl <| x_push <| x_istore rfl <| y_mask <| y_goto ?_
  obtain ⟨e1y, hw2, h⟩ := of_bind h
  refine jWP.intro (pr := pX11_wordNow) (pc := 4) ?_
  refine jwh_use2 (G := (fun s0 => pX11_wordNow (jEv jtab (d + 0), jWP (jEv jtab (d + 0)) Q ((Sh0 n).length, jsl (Sh0 n)) pX11_wordNow, Q, ((Sh0 n).length, jsl (Sh0 n))) 4 [some (.ref 94), some (.int s0.1), some (.int s0.2), none, none] [] (Sh0 n, A, L))) (Gx := (fun s0 => pX11_wordNow (jEv jtab (d + 0), jWP (jEv jtab (d + 0)) Q ((Sh0 n).length, jsl (Sh0 n)) pX11_wordNow, Q, ((Sh0 n).length, jsl (Sh0 n))) 93 [none, none, none, none, none] [] (Sh0 n, A, L))) (Gr := (fun s0 => Q (some (.int s0)) (Sh0 n, A, L))) (fun s1 z1 hz kk1 kk2 kk3 => tcX11_wordNow_4 d n A L s1 hz kk1 kk2 kk3) hw2 ?_ ?_
  · intro e1 hy
    subst hy
    replace h : (some (-1 : Int32)) = some z := h
    refine y_mpri (bs := []) (ls := []) ?_
    obtain rfl := Option.some.inj h
    exact k3
  · intro s0 hy
    subst hy
    replace h : some s0 = some z := h
    obtain rfl := Option.some.inj h
    exact k3
theorem kX11_wordNow (d n : Nat) (A : Nat → Nat → Int32) (L : Nat → Nat → Int64) {z : Int32} (h : fX11_wordNow A = some z) : jEv jtab (d + 1) 173 [.ref 94] (Sh0 n, A, L) 0 0 (fun r M2 => r = some (.int z) ∧ M2 = (Sh0 n, A, L)) :=
  jEv.mk (mt := mX11_wordNow) rfl (Nat.le_of_ble_eq_true rfl) (jWP.intro (pr := pX11_wordNow) (pc := 0) (tfX11_wordNow d n A L h ⟨trivial, jCn.mk ⟨rfl, rfl⟩⟩))
noncomputable def jX11_next_47_8 (A : Nat → Nat → Int32) : Option ((Nat → Nat → Int32) ⊕ (Nat → Nat → Int32)) :=
  some (.inl (va_up A 94 (upd (A 94) 13 ((A 94 13) + (1 : Int32)))))
set_option maxRecDepth 20000 in
theorem tjX11_next_47_8 (d n : Nat) (A : Nat → Nat → Int32) (L : Nat → Nat → Int64) {Q : Option Value → jM → Prop} {z : ((Nat → Nat → Int32) ⊕ (Nat → Nat → Int32))} (h : jX11_next_47_8 A = some z) (k1 : ∀ s0, z = .inl s0 → pX11_next (jEv jtab (d + 2), jWP (jEv jtab (d + 2)) Q ((Sh0 n).length, jsl (Sh0 n)) pX11_next, Q, ((Sh0 n).length, jsl (Sh0 n))) 8 [some (.ref 94), none] [] (Sh0 n, s0, L)) (k2 : ∀ s0, z = .inr s0 → pX11_next (jEv jtab (d + 2), jWP (jEv jtab (d + 2)) Q ((Sh0 n).length, jsl (Sh0 n)) pX11_next, Q, ((Sh0 n).length, jsl (Sh0 n))) 60 [some (.ref 94), none] [] (Sh0 n, s0, L)) : pX11_next (jEv jtab (d + 2), jWP (jEv jtab (d + 2)) Q ((Sh0 n).length, jsl (Sh0 n)) pX11_next, Q, ((Sh0 n).length, jsl (Sh0 n))) 47 [some (.ref 94), none] [] (Sh0 n, A, L) := by
  unfold jX11_next_47_8 at h
  refine y_mask <| x_aload rfl <| x_dup rfl <| x_getI (Nat.le_of_ble_eq_true rfl) rfl rfl <| x_push <| x_iadd <| x_putI (Nat.le_of_ble_eq_true rfl) rfl rfl <| y_mask <| y_goto ?_
  refine jWP.intro (pr := pX11_next) (pc := 8) ?_
  have hk := k1 _ (Option.some.inj h).symm
  exact hk
noncomputable def cX11_next_8 (s : (Nat → Nat → Int32)) : Option ((Nat → Nat → Int32) ⊕ (Nat → Nat → Int32)) :=
  (if (s 94 4) ≤ (s 94 13) then some (.inr s) else jgd (vp_in (s 94 13) 160) <| (if (s 97 (jx (s 94 13))) = (32 : Int32) then jX11_next_47_8 s else jgd (vp_in (s 94 13) 160) <| (if (s 97 (jx (s 94 13))) = (10 : Int32) then jX11_next_47_8 s else some (.inr s))))
set_option maxRecDepth 20000 in
theorem tcX11_next_8 (d n : Nat) (A : Nat → Nat → Int32) (L : Nat → Nat → Int64) (s : (Nat → Nat → Int32)) {Q : Option Value → jM → Prop} {z : ((Nat → Nat → Int32) ⊕ (Nat → Nat → Int32))} (h : cX11_next_8 s = some z) (k1 : ∀ s0, z = .inl s0 → pX11_next (jEv jtab (d + 2), jWP (jEv jtab (d + 2)) Q ((Sh0 n).length, jsl (Sh0 n)) pX11_next, Q, ((Sh0 n).length, jsl (Sh0 n))) 8 [some (.ref 94), none] [] (Sh0 n, s0, L)) (k2 : ∀ s0, z = .inr s0 → pX11_next (jEv jtab (d + 2), jWP (jEv jtab (d + 2)) Q ((Sh0 n).length, jsl (Sh0 n)) pX11_next, Q, ((Sh0 n).length, jsl (Sh0 n))) 60 [some (.ref 94), none] [] (Sh0 n, s0, L)) : pX11_next (jEv jtab (d + 2), jWP (jEv jtab (d + 2)) Q ((Sh0 n).length, jsl (Sh0 n)) pX11_next, Q, ((Sh0 n).length, jsl (Sh0 n))) 8 [some (.ref 94), none] [] (Sh0 n, s, L) := by
  unfold cX11_next_8 at h
  refine y_mask <| x_aload rfl <| x_getI (Nat.le_of_ble_eq_true rfl) rfl rfl <| x_aload rfl <| x_getI (Nat.le_of_ble_eq_true rfl) rfl rfl <| y_cmp_ge (fun h1 => ?_) (fun h1 => ?_)
  · replace h := of_pos h h1
    refine jWP.intro (pr := pX11_next) (pc := 60) ?_
    have hk := k2 _ (Option.some.inj h).symm
    exact hk
  · replace h := of_neg h h1
    refine jWP.intro (pr := pX11_next) (pc := 19) ?_
    obtain ⟨g2, h⟩ := of_guard h
    refine y_mask <| x_aload rfl <| x_getR (Nat.le_of_ble_eq_true rfl) rfl rfl <| x_aload rfl <| x_getI (Nat.le_of_ble_eq_true rfl) rfl rfl <| x_bald rfl g2 <| x_push <| y_cmp_eq (fun h3 => ?_) (fun h3 => ?_)
    · replace h := of_pos h h3
      refine jWP.intro (pr := pX11_next) (pc := 47) ?_
      exact tjX11_next_47_8 d n s L h k1 k2
    · replace h := of_neg h h3
      refine jWP.intro (pr := pX11_next) (pc := 33) ?_
      obtain ⟨g4, h⟩ := of_guard h
      refine y_mask <| x_aload rfl <| x_getR (Nat.le_of_ble_eq_true rfl) rfl rfl <| x_aload rfl <| x_getI (Nat.le_of_ble_eq_true rfl) rfl rfl <| x_bald rfl g4 <| x_push <| y_cmp_ne (fun h5 => ?_) (fun h5 => ?_)
      · replace h := of_neg h h5
        refine jWP.intro (pr := pX11_next) (pc := 60) ?_
        have hk := k2 _ (Option.some.inj h).symm
        exact hk
      · replace h := of_pos h h5
        refine jWP.intro (pr := pX11_next) (pc := 47) ?_
        exact tjX11_next_47_8 d n s L h k1 k2
noncomputable def jX11_next_251_188 (A : Nat → Nat → Int32) : Option ((Nat → Nat → Int32) ⊕ (Nat → Nat → Int32)) :=
  some (.inl (va_up A 94 (upd (A 94) 14 ((A 94 14) + (1 : Int32)))))
set_option maxRecDepth 20000 in
theorem tjX11_next_251_188 (d n : Nat) (A : Nat → Nat → Int32) (L : Nat → Nat → Int64) {Q : Option Value → jM → Prop} {z : ((Nat → Nat → Int32) ⊕ (Nat → Nat → Int32))} (h : jX11_next_251_188 A = some z) (k1 : ∀ s0, z = .inl s0 → pX11_next (jEv jtab (d + 2), jWP (jEv jtab (d + 2)) Q ((Sh0 n).length, jsl (Sh0 n)) pX11_next, Q, ((Sh0 n).length, jsl (Sh0 n))) 188 [some (.ref 94), none] [] (Sh0 n, s0, L)) (k2 : ∀ s0, z = .inr s0 → pX11_next (jEv jtab (d + 2), jWP (jEv jtab (d + 2)) Q ((Sh0 n).length, jsl (Sh0 n)) pX11_next, Q, ((Sh0 n).length, jsl (Sh0 n))) 264 [some (.ref 94), none] [] (Sh0 n, s0, L)) : pX11_next (jEv jtab (d + 2), jWP (jEv jtab (d + 2)) Q ((Sh0 n).length, jsl (Sh0 n)) pX11_next, Q, ((Sh0 n).length, jsl (Sh0 n))) 251 [some (.ref 94), none] [] (Sh0 n, A, L) := by
  unfold jX11_next_251_188 at h
  refine y_mask <| x_aload rfl <| x_dup rfl <| x_getI (Nat.le_of_ble_eq_true rfl) rfl rfl <| x_push <| x_iadd <| x_putI (Nat.le_of_ble_eq_true rfl) rfl rfl <| y_mask <| y_goto ?_
  refine jWP.intro (pr := pX11_next) (pc := 188) ?_
  have hk := k1 _ (Option.some.inj h).symm
  exact hk
noncomputable def cX11_next_188 (s : (Nat → Nat → Int32)) : Option ((Nat → Nat → Int32) ⊕ (Nat → Nat → Int32)) :=
  (if (s 94 4) ≤ (s 94 14) then some (.inr s) else jgd (vp_in (s 94 14) 160) <| (if (fX11_isDigit (s 97 (jx (s 94 14)))) = 0 then some (.inr s) else (if (4 : Int32) ≤ ((s 94 14) - (s 94 13)) then jX11_next_251_188 s else jgd (vp_in (s 94 14) 160) <| jX11_next_251_188 (va_up s 94 (upd (s 94) 16 ((((10 : Int32) * (s 94 16)) + (s 97 (jx (s 94 14)))) - (48 : Int32)))))))
set_option maxRecDepth 20000 in
theorem tcX11_next_188 (d n : Nat) (A : Nat → Nat → Int32) (L : Nat → Nat → Int64) (s : (Nat → Nat → Int32)) {Q : Option Value → jM → Prop} {z : ((Nat → Nat → Int32) ⊕ (Nat → Nat → Int32))} (h : cX11_next_188 s = some z) (k1 : ∀ s0, z = .inl s0 → pX11_next (jEv jtab (d + 2), jWP (jEv jtab (d + 2)) Q ((Sh0 n).length, jsl (Sh0 n)) pX11_next, Q, ((Sh0 n).length, jsl (Sh0 n))) 188 [some (.ref 94), none] [] (Sh0 n, s0, L)) (k2 : ∀ s0, z = .inr s0 → pX11_next (jEv jtab (d + 2), jWP (jEv jtab (d + 2)) Q ((Sh0 n).length, jsl (Sh0 n)) pX11_next, Q, ((Sh0 n).length, jsl (Sh0 n))) 264 [some (.ref 94), none] [] (Sh0 n, s0, L)) : pX11_next (jEv jtab (d + 2), jWP (jEv jtab (d + 2)) Q ((Sh0 n).length, jsl (Sh0 n)) pX11_next, Q, ((Sh0 n).length, jsl (Sh0 n))) 188 [some (.ref 94), none] [] (Sh0 n, s, L) := by
  unfold cX11_next_188 at h
  refine y_mask <| x_aload rfl <| x_getI (Nat.le_of_ble_eq_true rfl) rfl rfl <| x_aload rfl <| x_getI (Nat.le_of_ble_eq_true rfl) rfl rfl <| y_cmp_ge (fun h1 => ?_) (fun h1 => ?_)
  · replace h := of_pos h h1
    refine jWP.intro (pr := pX11_next) (pc := 264) ?_
    have hk := k2 _ (Option.some.inj h).symm
    exact hk
  · replace h := of_neg h h1
    refine jWP.intro (pr := pX11_next) (pc := 199) ?_
    obtain ⟨g2, h⟩ := of_guard h
    refine y_mask <| x_aload rfl <| x_getR (Nat.le_of_ble_eq_true rfl) rfl rfl <| x_aload rfl <| x_getI (Nat.le_of_ble_eq_true rfl) rfl rfl <| x_bald rfl g2 <| y_invS1 (Nat.le_of_ble_eq_true rfl) <| jEv.exZ (q := 172) rfl (kX11_isDigit _ _ _ _ _) <| fun hz3 => y_if_eq (fun h4 => ?_) (fun h4 => ?_)
    · replace h := of_pos h h4
      refine jWP.intro (pr := pX11_next) (pc := 264) ?_
      have hk := k2 _ (Option.some.inj h).symm
      exact hk
    · replace h := of_neg h h4
      refine jWP.intro (pr := pX11_next) (pc := 214) ?_
      refine y_mask <| x_aload rfl <| x_getI (Nat.le_of_ble_eq_true rfl) rfl rfl <| x_aload rfl <| x_getI (Nat.le_of_ble_eq_true rfl) rfl rfl <| x_isub <| x_push <| y_cmp_ge (fun h5 => ?_) (fun h5 => ?_)
      · replace h := of_pos h h5
        refine jWP.intro (pr := pX11_next) (pc := 251) ?_
        exact tjX11_next_251_188 d n s L h k1 k2
      · replace h := of_neg h h5
        refine jWP.intro (pr := pX11_next) (pc := 227) ?_
        obtain ⟨g6, h⟩ := of_guard h
        refine y_mask <| x_aload rfl <| x_push <| x_aload rfl <| x_getI (Nat.le_of_ble_eq_true rfl) rfl rfl <| x_imul <| x_aload rfl <| x_getR (Nat.le_of_ble_eq_true rfl) rfl rfl <| x_aload rfl <| x_getI (Nat.le_of_ble_eq_true rfl) rfl rfl <| x_bald rfl g6 <| x_iadd <| x_push <| x_isub <| x_putI (Nat.le_of_ble_eq_true rfl) rfl rfl <| y_mask <| y_goto ?_
        refine jWP.intro (pr := pX11_next) (pc := 251) ?_
        exact tjX11_next_251_188 d n (va_up s 94 (upd (s 94) 16 ((((10 : Int32) * (s 94 16)) + (s 97 (jx (s 94 14)))) - (48 : Int32)))) L h k1 k2
noncomputable def jX11_next_264 (A : Nat → Nat → Int32) : Option (Nat → Nat → Int32) :=
  (if ((A 94 14) - (A 94 13)) ≤ (4 : Int32) then some (va_up A 94 (upd (A 94) 15 (2 : Int32))) else some (va_up A 94 (upd (A 94) 15 (5 : Int32))))
set_option maxRecDepth 20000 in
theorem tjX11_next_264 (d n : Nat) (A : Nat → Nat → Int32) (L : Nat → Nat → Int64) {Q : Option Value → jM → Prop} {z : (Nat → Nat → Int32)} (h : jX11_next_264 A = some z) (k3 : Q (none) (Sh0 n, z, L)) : pX11_next (jEv jtab (d + 2), jWP (jEv jtab (d + 2)) Q ((Sh0 n).length, jsl (Sh0 n)) pX11_next, Q, ((Sh0 n).length, jsl (Sh0 n))) 264 [some (.ref 94), none] [] (Sh0 n, A, L) := by
  unfold jX11_next_264 at h
  refine y_mask <| x_aload rfl <| x_aload rfl <| x_getI (Nat.le_of_ble_eq_true rfl) rfl rfl <| x_aload rfl <| x_getI (Nat.le_of_ble_eq_true rfl) rfl rfl <| x_isub <| x_push <| y_cmp_le (fun h1 => ?_) (fun h1 => ?_)
  · replace h := of_pos h h1
    refine jWP.intro (pr := pX11_next) (pc := 282) ?_
    refine y_mask <| x_push <| y_mask <| y_goto ?_
    refine jWP.intro (pr := pX11_next) (pc := 283) ?_
    refine y_mask <| x_putI (Nat.le_of_ble_eq_true rfl) rfl rfl <| y_mask <| y_goto ?_
    refine jWP.intro (pr := pX11_next) (pc := 361) ?_
    refine y_mrv (bs := []) (ls := []) ?_
    obtain rfl := Option.some.inj h
    exact k3
  · replace h := of_neg h h1
    refine jWP.intro (pr := pX11_next) (pc := 278) ?_
    refine y_mask <| x_push <| y_mask <| y_goto ?_
    refine jWP.intro (pr := pX11_next) (pc := 283) ?_
    refine y_mask <| x_putI (Nat.le_of_ble_eq_true rfl) rfl rfl <| y_mask <| y_goto ?_
    refine jWP.intro (pr := pX11_next) (pc := 361) ?_
    refine y_mrv (bs := []) (ls := []) ?_
    obtain rfl := Option.some.inj h
    exact k3
noncomputable def cX11_next_110 (s : (Nat → Nat → Int32)) : Option ((Nat → Nat → Int32) ⊕ (Nat → Nat → Int32)) :=
  (if (s 94 4) ≤ (s 94 14) then some (.inr s) else jgd (vp_in (s 94 14) 160) <| (if (fX11_isLetter (s 97 (jx (s 94 14)))) = 0 then some (.inr s) else some (.inl (va_up s 94 (upd (s 94) 14 ((s 94 14) + (1 : Int32)))))))
set_option maxRecDepth 20000 in
theorem tcX11_next_110 (d n : Nat) (A : Nat → Nat → Int32) (L : Nat → Nat → Int64) (s : (Nat → Nat → Int32)) {Q : Option Value → jM → Prop} {z : ((Nat → Nat → Int32) ⊕ (Nat → Nat → Int32))} (h : cX11_next_110 s = some z) (k1 : ∀ s0, z = .inl s0 → pX11_next (jEv jtab (d + 2), jWP (jEv jtab (d + 2)) Q ((Sh0 n).length, jsl (Sh0 n)) pX11_next, Q, ((Sh0 n).length, jsl (Sh0 n))) 110 [some (.ref 94), none] [] (Sh0 n, s0, L)) (k2 : ∀ s0, z = .inr s0 → pX11_next (jEv jtab (d + 2), jWP (jEv jtab (d + 2)) Q ((Sh0 n).length, jsl (Sh0 n)) pX11_next, Q, ((Sh0 n).length, jsl (Sh0 n))) 149 [some (.ref 94), none] [] (Sh0 n, s0, L)) : pX11_next (jEv jtab (d + 2), jWP (jEv jtab (d + 2)) Q ((Sh0 n).length, jsl (Sh0 n)) pX11_next, Q, ((Sh0 n).length, jsl (Sh0 n))) 110 [some (.ref 94), none] [] (Sh0 n, s, L) := by
  unfold cX11_next_110 at h
  refine y_mask <| x_aload rfl <| x_getI (Nat.le_of_ble_eq_true rfl) rfl rfl <| x_aload rfl <| x_getI (Nat.le_of_ble_eq_true rfl) rfl rfl <| y_cmp_ge (fun h1 => ?_) (fun h1 => ?_)
  · replace h := of_pos h h1
    refine jWP.intro (pr := pX11_next) (pc := 149) ?_
    have hk := k2 _ (Option.some.inj h).symm
    exact hk
  · replace h := of_neg h h1
    refine jWP.intro (pr := pX11_next) (pc := 121) ?_
    obtain ⟨g2, h⟩ := of_guard h
    refine y_mask <| x_aload rfl <| x_getR (Nat.le_of_ble_eq_true rfl) rfl rfl <| x_aload rfl <| x_getI (Nat.le_of_ble_eq_true rfl) rfl rfl <| x_bald rfl g2 <| y_invS1 (Nat.le_of_ble_eq_true rfl) <| jEv.exZ (q := 171) rfl (kX11_isLetter _ _ _ _ _) <| fun hz3 => y_if_eq (fun h4 => ?_) (fun h4 => ?_)
    · replace h := of_pos h h4
      refine jWP.intro (pr := pX11_next) (pc := 149) ?_
      have hk := k2 _ (Option.some.inj h).symm
      exact hk
    · replace h := of_neg h h4
      refine jWP.intro (pr := pX11_next) (pc := 136) ?_
      refine y_mask <| x_aload rfl <| x_dup rfl <| x_getI (Nat.le_of_ble_eq_true rfl) rfl rfl <| x_push <| x_iadd <| x_putI (Nat.le_of_ble_eq_true rfl) rfl rfl <| y_mask <| y_goto ?_
      refine jWP.intro (pr := pX11_next) (pc := 110) ?_
      have hk := k1 _ (Option.some.inj h).symm
      exact hk
noncomputable def jX11_next_149 (A : Nat → Nat → Int32) : Option (Nat → Nat → Int32) :=
  Option.bind (fX11_wordNow A) fun r1 => (if 0 ≤ r1 then Option.bind (some (va_up (va_up A 94 (upd (A 94) 16 r1)) 94 (upd (upd (A 94) 16 r1) 15 (1 : Int32)))) fun m4 => some m4 else Option.bind (some (va_up (va_up A 94 (upd (A 94) 16 r1)) 94 (upd (upd (A 94) 16 r1) 15 (5 : Int32)))) fun m6 => some m6)
set_option maxRecDepth 20000 in
theorem tjX11_next_149 (d n : Nat) (A : Nat → Nat → Int32) (L : Nat → Nat → Int64) {Q : Option Value → jM → Prop} {z : (Nat → Nat → Int32)} (h : jX11_next_149 A = some z) (k3 : Q (none) (Sh0 n, z, L)) : pX11_next (jEv jtab (d + 2), jWP (jEv jtab (d + 2)) Q ((Sh0 n).length, jsl (Sh0 n)) pX11_next, Q, ((Sh0 n).length, jsl (Sh0 n))) 149 [some (.ref 94), none] [] (Sh0 n, A, L) := by
  unfold jX11_next_149 at h
  obtain ⟨r1, hc2, h⟩ := of_bind h
  refine y_mask <| x_aload rfl <| x_aload rfl <| y_invV0 (Nat.le_of_ble_eq_true rfl) rfl (Nat.le_of_ble_eq_true rfl) <| jEv.exI (kX11_wordNow _ _ _ _ hc2) <| x_putI (Nat.le_of_ble_eq_true rfl) rfl rfl <| x_aload rfl <| x_aload rfl <| x_getI (Nat.le_of_ble_eq_true rfl) rfl rfl <| y_if_ge (fun h3 => ?_) (fun h3 => ?_)
  · replace h := of_pos h h3
    refine jWP.intro (pr := pX11_next) (pc := 169) ?_
    refine y_mask <| x_push <| y_mask <| y_goto ?_
    refine jWP.intro (pr := pX11_next) (pc := 170) ?_
    obtain ⟨m4, hm5, h⟩ := of_bind h
    refine y_mask <| x_putI (Nat.le_of_ble_eq_true rfl) rfl rfl <| y_let (Option.some.inj hm5) <| y_mask <| y_goto ?_
    refine jWP.intro (pr := pX11_next) (pc := 361) ?_
    refine y_mrv (bs := []) (ls := []) ?_
    obtain rfl := Option.some.inj h
    exact k3
  · replace h := of_neg h h3
    refine jWP.intro (pr := pX11_next) (pc := 165) ?_
    refine y_mask <| x_push <| y_mask <| y_goto ?_
    refine jWP.intro (pr := pX11_next) (pc := 170) ?_
    obtain ⟨m6, hm7, h⟩ := of_bind h
    refine y_mask <| x_putI (Nat.le_of_ble_eq_true rfl) rfl rfl <| y_let (Option.some.inj hm7) <| y_mask <| y_goto ?_
    refine jWP.intro (pr := pX11_next) (pc := 361) ?_
    refine y_mrv (bs := []) (ls := []) ?_
    obtain rfl := Option.some.inj h
    exact k3
noncomputable def jX11_next_60 (A : Nat → Nat → Int32) : Option (Nat → Nat → Int32) :=
  (if (A 94 13) < (A 94 4) then jgd (vp_in (A 94 13) 160) <| (if (fX11_isLetter (A 97 (jx (A 94 13)))) = 0 then (if (fX11_isDigit (A 97 (jx (A 94 13)))) = 0 then Option.bind (some (va_up (va_up A 94 (upd (A 94) 14 (A 94 13))) 94 (upd (upd (A 94) 14 (A 94 13)) 14 ((A 94 13) + (1 : Int32))))) fun m7 => (if (A 97 (jx (A 94 13))) = (40 : Int32) then Option.bind (some (va_up (va_up m7 94 (upd (m7 94) 16 (A 97 (jx (A 94 13))))) 94 (upd (upd (m7 94) 16 (A 97 (jx (A 94 13)))) 15 (3 : Int32)))) fun m10 => some m10 else (if (A 97 (jx (A 94 13))) = (41 : Int32) then Option.bind (some (va_up (va_up m7 94 (upd (m7 94) 16 (A 97 (jx (A 94 13))))) 94 (upd (upd (m7 94) 16 (A 97 (jx (A 94 13)))) 15 (3 : Int32)))) fun m13 => some m13 else (if (A 97 (jx (A 94 13))) = (59 : Int32) then Option.bind (some (va_up (va_up m7 94 (upd (m7 94) 16 (A 97 (jx (A 94 13))))) 94 (upd (upd (m7 94) 16 (A 97 (jx (A 94 13)))) 15 (3 : Int32)))) fun m16 => some m16 else (if (A 97 (jx (A 94 13))) = (43 : Int32) then Option.bind (some (va_up (va_up m7 94 (upd (m7 94) 16 (A 97 (jx (A 94 13))))) 94 (upd (upd (m7 94) 16 (A 97 (jx (A 94 13)))) 15 (3 : Int32)))) fun m19 => some m19 else (if (A 97 (jx (A 94 13))) = (45 : Int32) then Option.bind (some (va_up (va_up m7 94 (upd (m7 94) 16 (A 97 (jx (A 94 13))))) 94 (upd (upd (m7 94) 16 (A 97 (jx (A 94 13)))) 15 (3 : Int32)))) fun m22 => some m22 else (if (A 97 (jx (A 94 13))) = (42 : Int32) then Option.bind (some (va_up (va_up m7 94 (upd (m7 94) 16 (A 97 (jx (A 94 13))))) 94 (upd (upd (m7 94) 16 (A 97 (jx (A 94 13)))) 15 (3 : Int32)))) fun m25 => some m25 else (if (A 97 (jx (A 94 13))) = (60 : Int32) then Option.bind (some (va_up (va_up m7 94 (upd (m7 94) 16 (A 97 (jx (A 94 13))))) 94 (upd (upd (m7 94) 16 (A 97 (jx (A 94 13)))) 15 (3 : Int32)))) fun m28 => some m28 else (if (A 97 (jx (A 94 13))) = (61 : Int32) then Option.bind (some (va_up (va_up m7 94 (upd (m7 94) 16 (A 97 (jx (A 94 13))))) 94 (upd (upd (m7 94) 16 (A 97 (jx (A 94 13)))) 15 (3 : Int32)))) fun m33 => some m33 else Option.bind (some (va_up (va_up m7 94 (upd (m7 94) 16 (A 97 (jx (A 94 13))))) 94 (upd (upd (m7 94) 16 (A 97 (jx (A 94 13)))) 15 (5 : Int32)))) fun m31 => some m31)))))))) else Option.bind (some (va_up (va_up A 94 (upd (A 94) 14 (A 94 13))) 94 (upd (upd (A 94) 14 (A 94 13)) 16 (0 : Int32)))) fun m35 => Option.bind (jwh (cX11_next_188) m35) fun e37 => jX11_next_264 e37) else Option.bind (jwh (cX11_next_110) (va_up A 94 (upd (A 94) 14 (A 94 13)))) fun e39 => jX11_next_149 e39) else Option.bind (some (va_up (va_up A 94 (upd (A 94) 14 (A 94 13))) 94 (upd (upd (A 94) 14 (A 94 13)) 13 (A 94 4)))) fun m41 => some (va_up m41 94 (upd (m41 94) 15 (4 : Int32))))
set_option maxRecDepth 20000 in
theorem tjX11_next_60 (d n : Nat) (A : Nat → Nat → Int32) (L : Nat → Nat → Int64) {Q : Option Value → jM → Prop} {z : (Nat → Nat → Int32)} (h : jX11_next_60 A = some z) (k3 : Q (none) (Sh0 n, z, L)) : pX11_next (jEv jtab (d + 2), jWP (jEv jtab (d + 2)) Q ((Sh0 n).length, jsl (Sh0 n)) pX11_next, Q, ((Sh0 n).length, jsl (Sh0 n))) 60 [some (.ref 94), none] [] (Sh0 n, A, L) := by
  unfold jX11_next_60 at h
  refine y_mask <| x_aload rfl <| x_aload rfl <| x_getI (Nat.le_of_ble_eq_true rfl) rfl rfl <| x_putI (Nat.le_of_ble_eq_true rfl) rfl rfl <| x_aload rfl <| x_getI (Nat.le_of_ble_eq_true rfl) rfl rfl <| x_aload rfl <| x_getI (Nat.le_of_ble_eq_true rfl) rfl rfl <| y_cmp_lt (fun h1 => ?_) (fun h1 => ?_)
  · replace h := of_pos h h1
    refine jWP.intro (pr := pX11_next) (pc := 93) ?_
    obtain ⟨g2, h⟩ := of_guard h
    refine y_mask <| x_aload rfl <| x_getR (Nat.le_of_ble_eq_true rfl) rfl rfl <| x_aload rfl <| x_getI (Nat.le_of_ble_eq_true rfl) rfl rfl <| x_bald rfl g2 <| x_istore rfl <| x_iload rfl <| y_invS1 (Nat.le_of_ble_eq_true rfl) <| jEv.exZ (q := 171) rfl (kX11_isLetter _ _ _ _ _) <| fun hz3 => y_if_eq (fun h4 => ?_) (fun h4 => ?_)
    · replace h := of_pos h h4
      refine jWP.intro (pr := pX11_next) (pc := 176) ?_
      refine y_mask <| x_iload rfl <| y_invS1 (Nat.le_of_ble_eq_true rfl) <| jEv.exZ (q := 172) rfl (kX11_isDigit _ _ _ _ _) <| fun hz5 => y_if_eq (fun h6 => ?_) (fun h6 => ?_)
      · replace h := of_pos h h6
        refine jWP.intro (pr := pX11_next) (pc := 289) ?_
        obtain ⟨m7, hm8, h⟩ := of_bind h
        refine y_mask <| x_aload rfl <| x_dup rfl <| x_getI (Nat.le_of_ble_eq_true rfl) rfl rfl <| x_push <| x_iadd <| x_putI (Nat.le_of_ble_eq_true rfl) rfl rfl <| y_let (Option.some.inj hm8) <| x_aload rfl <| x_iload rfl <| x_putI (Nat.le_of_ble_eq_true rfl) rfl rfl <| x_aload rfl <| x_iload rfl <| x_push <| y_cmp_eq (fun h9 => ?_) (fun h9 => ?_)
        · replace h := of_pos h h9
          refine jWP.intro (pr := pX11_next) (pc := 353) ?_
          refine y_mask <| x_push <| y_mask <| y_goto ?_
          refine jWP.intro (pr := pX11_next) (pc := 358) ?_
          obtain ⟨m10, hm11, h⟩ := of_bind h
          refine y_mask <| x_putI (Nat.le_of_ble_eq_true rfl) rfl rfl <| y_let (Option.some.inj hm11) <| y_mask <| y_goto ?_
          refine jWP.intro (pr := pX11_next) (pc := 361) ?_
          refine y_mrv (bs := []) (ls := []) ?_
          obtain rfl := Option.some.inj h
          exact k3
        · replace h := of_neg h h9
          refine jWP.intro (pr := pX11_next) (pc := 311) ?_
          refine y_mask <| x_iload rfl <| x_push <| y_cmp_eq (fun h12 => ?_) (fun h12 => ?_)
          · replace h := of_pos h h12
            refine jWP.intro (pr := pX11_next) (pc := 353) ?_
            refine y_mask <| x_push <| y_mask <| y_goto ?_
            refine jWP.intro (pr := pX11_next) (pc := 358) ?_
            obtain ⟨m13, hm14, h⟩ := of_bind h
            refine y_mask <| x_putI (Nat.le_of_ble_eq_true rfl) rfl rfl <| y_let (Option.some.inj hm14) <| y_mask <| y_goto ?_
            refine jWP.intro (pr := pX11_next) (pc := 361) ?_
            refine y_mrv (bs := []) (ls := []) ?_
            obtain rfl := Option.some.inj h
            exact k3
          · replace h := of_neg h h12
            refine jWP.intro (pr := pX11_next) (pc := 317) ?_
            refine y_mask <| x_iload rfl <| x_push <| y_cmp_eq (fun h15 => ?_) (fun h15 => ?_)
            · replace h := of_pos h h15
              refine jWP.intro (pr := pX11_next) (pc := 353) ?_
              refine y_mask <| x_push <| y_mask <| y_goto ?_
              refine jWP.intro (pr := pX11_next) (pc := 358) ?_
              obtain ⟨m16, hm17, h⟩ := of_bind h
              refine y_mask <| x_putI (Nat.le_of_ble_eq_true rfl) rfl rfl <| y_let (Option.some.inj hm17) <| y_mask <| y_goto ?_
              refine jWP.intro (pr := pX11_next) (pc := 361) ?_
              refine y_mrv (bs := []) (ls := []) ?_
              obtain rfl := Option.some.inj h
              exact k3
            · replace h := of_neg h h15
              refine jWP.intro (pr := pX11_next) (pc := 323) ?_
              refine y_mask <| x_iload rfl <| x_push <| y_cmp_eq (fun h18 => ?_) (fun h18 => ?_)
              · replace h := of_pos h h18
                refine jWP.intro (pr := pX11_next) (pc := 353) ?_
                refine y_mask <| x_push <| y_mask <| y_goto ?_
                refine jWP.intro (pr := pX11_next) (pc := 358) ?_
                obtain ⟨m19, hm20, h⟩ := of_bind h
                refine y_mask <| x_putI (Nat.le_of_ble_eq_true rfl) rfl rfl <| y_let (Option.some.inj hm20) <| y_mask <| y_goto ?_
                refine jWP.intro (pr := pX11_next) (pc := 361) ?_
                refine y_mrv (bs := []) (ls := []) ?_
                obtain rfl := Option.some.inj h
                exact k3
              · replace h := of_neg h h18
                refine jWP.intro (pr := pX11_next) (pc := 329) ?_
                refine y_mask <| x_iload rfl <| x_push <| y_cmp_eq (fun h21 => ?_) (fun h21 => ?_)
                · replace h := of_pos h h21
                  refine jWP.intro (pr := pX11_next) (pc := 353) ?_
                  refine y_mask <| x_push <| y_mask <| y_goto ?_
                  refine jWP.intro (pr := pX11_next) (pc := 358) ?_
                  obtain ⟨m22, hm23, h⟩ := of_bind h
                  refine y_mask <| x_putI (Nat.le_of_ble_eq_true rfl) rfl rfl <| y_let (Option.some.inj hm23) <| y_mask <| y_goto ?_
                  refine jWP.intro (pr := pX11_next) (pc := 361) ?_
                  refine y_mrv (bs := []) (ls := []) ?_
                  obtain rfl := Option.some.inj h
                  exact k3
                · replace h := of_neg h h21
                  refine jWP.intro (pr := pX11_next) (pc := 335) ?_
                  refine y_mask <| x_iload rfl <| x_push <| y_cmp_eq (fun h24 => ?_) (fun h24 => ?_)
                  · replace h := of_pos h h24
                    refine jWP.intro (pr := pX11_next) (pc := 353) ?_
                    refine y_mask <| x_push <| y_mask <| y_goto ?_
                    refine jWP.intro (pr := pX11_next) (pc := 358) ?_
                    obtain ⟨m25, hm26, h⟩ := of_bind h
                    refine y_mask <| x_putI (Nat.le_of_ble_eq_true rfl) rfl rfl <| y_let (Option.some.inj hm26) <| y_mask <| y_goto ?_
                    refine jWP.intro (pr := pX11_next) (pc := 361) ?_
                    refine y_mrv (bs := []) (ls := []) ?_
                    obtain rfl := Option.some.inj h
                    exact k3
                  · replace h := of_neg h h24
                    refine jWP.intro (pr := pX11_next) (pc := 341) ?_
                    refine y_mask <| x_iload rfl <| x_push <| y_cmp_eq (fun h27 => ?_) (fun h27 => ?_)
                    · replace h := of_pos h h27
                      refine jWP.intro (pr := pX11_next) (pc := 353) ?_
                      refine y_mask <| x_push <| y_mask <| y_goto ?_
                      refine jWP.intro (pr := pX11_next) (pc := 358) ?_
                      obtain ⟨m28, hm29, h⟩ := of_bind h
                      refine y_mask <| x_putI (Nat.le_of_ble_eq_true rfl) rfl rfl <| y_let (Option.some.inj hm29) <| y_mask <| y_goto ?_
                      refine jWP.intro (pr := pX11_next) (pc := 361) ?_
                      refine y_mrv (bs := []) (ls := []) ?_
                      obtain rfl := Option.some.inj h
                      exact k3
                    · replace h := of_neg h h27
                      refine jWP.intro (pr := pX11_next) (pc := 347) ?_
                      refine y_mask <| x_iload rfl <| x_push <| y_cmp_ne (fun h30 => ?_) (fun h30 => ?_)
                      · replace h := of_neg h h30
                        refine jWP.intro (pr := pX11_next) (pc := 357) ?_
                        refine y_mask <| x_push <| y_mask <| y_goto ?_
                        refine jWP.intro (pr := pX11_next) (pc := 358) ?_
                        obtain ⟨m31, hm32, h⟩ := of_bind h
                        refine y_mask <| x_putI (Nat.le_of_ble_eq_true rfl) rfl rfl <| y_let (Option.some.inj hm32) <| y_mask <| y_goto ?_
                        refine jWP.intro (pr := pX11_next) (pc := 361) ?_
                        refine y_mrv (bs := []) (ls := []) ?_
                        obtain rfl := Option.some.inj h
                        exact k3
                      · replace h := of_pos h h30
                        refine jWP.intro (pr := pX11_next) (pc := 353) ?_
                        refine y_mask <| x_push <| y_mask <| y_goto ?_
                        refine jWP.intro (pr := pX11_next) (pc := 358) ?_
                        obtain ⟨m33, hm34, h⟩ := of_bind h
                        refine y_mask <| x_putI (Nat.le_of_ble_eq_true rfl) rfl rfl <| y_let (Option.some.inj hm34) <| y_mask <| y_goto ?_
                        refine jWP.intro (pr := pX11_next) (pc := 361) ?_
                        refine y_mrv (bs := []) (ls := []) ?_
                        obtain rfl := Option.some.inj h
                        exact k3
      · replace h := of_neg h h6
        refine jWP.intro (pr := pX11_next) (pc := 183) ?_
        obtain ⟨m35, hm36, h⟩ := of_bind h
        refine y_mask <| x_aload rfl <| x_push <| x_putI (Nat.le_of_ble_eq_true rfl) rfl rfl <| y_let (Option.some.inj hm36) <| y_mask <| y_goto ?_
        obtain ⟨e37, hw38, h⟩ := of_bind h
        refine jWP.intro (pr := pX11_next) (pc := 188) ?_
        refine jwh_use (G := (fun s0 => pX11_next (jEv jtab (d + 2), jWP (jEv jtab (d + 2)) Q ((Sh0 n).length, jsl (Sh0 n)) pX11_next, Q, ((Sh0 n).length, jsl (Sh0 n))) 188 [some (.ref 94), none] [] (Sh0 n, s0, L))) (Gx := (fun s0 => pX11_next (jEv jtab (d + 2), jWP (jEv jtab (d + 2)) Q ((Sh0 n).length, jsl (Sh0 n)) pX11_next, Q, ((Sh0 n).length, jsl (Sh0 n))) 264 [some (.ref 94), none] [] (Sh0 n, s0, L))) (fun s1 z1 hz kk1 kk2 => tcX11_next_188 d n m35 L s1 hz kk1 kk2) hw38 ?_
        exact tjX11_next_264 d n e37 L h k3
    · replace h := of_neg h h4
      obtain ⟨e39, hw40, h⟩ := of_bind h
      refine jWP.intro (pr := pX11_next) (pc := 110) ?_
      refine jwh_use (G := (fun s0 => pX11_next (jEv jtab (d + 2), jWP (jEv jtab (d + 2)) Q ((Sh0 n).length, jsl (Sh0 n)) pX11_next, Q, ((Sh0 n).length, jsl (Sh0 n))) 110 [some (.ref 94), none] [] (Sh0 n, s0, L))) (Gx := (fun s0 => pX11_next (jEv jtab (d + 2), jWP (jEv jtab (d + 2)) Q ((Sh0 n).length, jsl (Sh0 n)) pX11_next, Q, ((Sh0 n).length, jsl (Sh0 n))) 149 [some (.ref 94), none] [] (Sh0 n, s0, L))) (fun s1 z1 hz kk1 kk2 => tcX11_next_110 d n (va_up A 94 (upd (A 94) 14 (A 94 13))) L s1 hz kk1 kk2) hw40 ?_
      exact tjX11_next_149 d n e39 L h k3
  · replace h := of_neg h h1
    refine jWP.intro (pr := pX11_next) (pc := 79) ?_
    obtain ⟨m41, hm42, h⟩ := of_bind h
    refine y_mask <| x_aload rfl <| x_aload rfl <| x_getI (Nat.le_of_ble_eq_true rfl) rfl rfl <| x_putI (Nat.le_of_ble_eq_true rfl) rfl rfl <| y_let (Option.some.inj hm42) <| x_aload rfl <| x_push <| x_putI (Nat.le_of_ble_eq_true rfl) rfl rfl <| y_return (ls := [some (.ref 94), none]) ?_
    obtain rfl := Option.some.inj h
    exact k3
noncomputable def fX11_next (A : Nat → Nat → Int32) : Option (Nat → Nat → Int32) :=
  Option.bind (jwh (cX11_next_8) (va_up A 94 (upd (A 94) 13 (A 94 14)))) fun e1 => jX11_next_60 e1
set_option maxRecDepth 20000 in
theorem tfX11_next (d n : Nat) (A : Nat → Nat → Int32) (L : Nat → Nat → Int64) {Q : Option Value → jM → Prop} {z : (Nat → Nat → Int32)} (h : fX11_next A = some z) (k3 : Q (none) (Sh0 n, z, L)) : pX11_next (jEv jtab (d + 2), jWP (jEv jtab (d + 2)) Q ((Sh0 n).length, jsl (Sh0 n)) pX11_next, Q, ((Sh0 n).length, jsl (Sh0 n))) 0 [some (.ref 94), none] [] (Sh0 n, A, L) := by
  unfold fX11_next at h
  refine y_mask <| x_aload rfl <| x_aload rfl <| x_getI (Nat.le_of_ble_eq_true rfl) rfl rfl <| x_putI (Nat.le_of_ble_eq_true rfl) rfl rfl <| y_mask <| y_goto ?_
  obtain ⟨e1, hw2, h⟩ := of_bind h
  refine jWP.intro (pr := pX11_next) (pc := 8) ?_
  refine jwh_use (G := (fun s0 => pX11_next (jEv jtab (d + 2), jWP (jEv jtab (d + 2)) Q ((Sh0 n).length, jsl (Sh0 n)) pX11_next, Q, ((Sh0 n).length, jsl (Sh0 n))) 8 [some (.ref 94), none] [] (Sh0 n, s0, L))) (Gx := (fun s0 => pX11_next (jEv jtab (d + 2), jWP (jEv jtab (d + 2)) Q ((Sh0 n).length, jsl (Sh0 n)) pX11_next, Q, ((Sh0 n).length, jsl (Sh0 n))) 60 [some (.ref 94), none] [] (Sh0 n, s0, L))) (fun s1 z1 hz kk1 kk2 => tcX11_next_8 d n (va_up A 94 (upd (A 94) 13 (A 94 14))) L s1 hz kk1 kk2) hw2 ?_
  exact tjX11_next_60 d n e1 L h k3
theorem kX11_next (d n : Nat) (A : Nat → Nat → Int32) (L : Nat → Nat → Int64) {z : (Nat → Nat → Int32)} (h : fX11_next A = some z) : jEv jtab (d + 3) 174 [.ref 94] (Sh0 n, A, L) 0 0 (fun r M2 => r = none ∧ M2 = (Sh0 n, z, L)) :=
  jEv.mk (mt := mX11_next) rfl (Nat.le_of_ble_eq_true rfl) (jWP.intro (pr := pX11_next) (pc := 0) (tfX11_next d n A L h ⟨trivial, jCn.mk ⟨rfl, rfl⟩⟩))
noncomputable def fX11_isKey (A : Nat → Nat → Int32) (l1 : Int32) : Int32 :=
  (if 0 ≤ (A 94 11) then (0 : Int32) else (if (A 94 15) = (1 : Int32) then (if (A 94 16) = l1 then (1 : Int32) else (0 : Int32)) else (0 : Int32)))
set_option maxRecDepth 20000 in
theorem tfX11_isKey (d n : Nat) (A : Nat → Nat → Int32) (L : Nat → Nat → Int64) (l1 : Int32) {Q : Option Value → jM → Prop} {z : Int32} (h : fX11_isKey A l1 = z) (k3 : (narrow .boolean (.int z) = .int z) → Q (some (.int z)) (Sh0 n, A, L)) : pX11_isKey (jEv jtab (d + 0), jWP (jEv jtab (d + 0)) Q ((Sh0 n).length, jsl (Sh0 n)) pX11_isKey, Q, ((Sh0 n).length, jsl (Sh0 n))) 0 [some (.ref 94), some (.int l1)] [] (Sh0 n, A, L) := by
  unfold fX11_isKey at h
  refine y_mask <| x_aload rfl <| x_getI (Nat.le_of_ble_eq_true rfl) rfl rfl <| y_if_ge (fun h1 => ?_) (fun h1 => ?_)
  · replace h := of_pos h h1
    refine jWP.intro (pr := pX11_isKey) (pc := 27) ?_
    refine y_mask <| x_push <| y_mask <| y_goto ?_
    refine jWP.intro (pr := pX11_isKey) (pc := 28) ?_
    refine y_mri (bs := []) (ls := []) ?_
    subst h
    exact k3 (jnar_boolean (.inl rfl))
  · replace h := of_neg h h1
    refine jWP.intro (pr := pX11_isKey) (pc := 7) ?_
    refine y_mask <| x_aload rfl <| x_getI (Nat.le_of_ble_eq_true rfl) rfl rfl <| x_push <| y_cmp_ne (fun h2 => ?_) (fun h2 => ?_)
    · replace h := of_neg h h2
      refine jWP.intro (pr := pX11_isKey) (pc := 27) ?_
      refine y_mask <| x_push <| y_mask <| y_goto ?_
      refine jWP.intro (pr := pX11_isKey) (pc := 28) ?_
      refine y_mri (bs := []) (ls := []) ?_
      subst h
      exact k3 (jnar_boolean (.inl rfl))
    · replace h := of_pos h h2
      refine jWP.intro (pr := pX11_isKey) (pc := 15) ?_
      refine y_mask <| x_aload rfl <| x_getI (Nat.le_of_ble_eq_true rfl) rfl rfl <| x_iload rfl <| y_cmp_ne (fun h3 => ?_) (fun h3 => ?_)
      · replace h := of_neg h h3
        refine jWP.intro (pr := pX11_isKey) (pc := 27) ?_
        refine y_mask <| x_push <| y_mask <| y_goto ?_
        refine jWP.intro (pr := pX11_isKey) (pc := 28) ?_
        refine y_mri (bs := []) (ls := []) ?_
        subst h
        exact k3 (jnar_boolean (.inl rfl))
      · replace h := of_pos h h3
        refine jWP.intro (pr := pX11_isKey) (pc := 23) ?_
        refine y_mask <| x_push <| y_mask <| y_goto ?_
        refine jWP.intro (pr := pX11_isKey) (pc := 28) ?_
        refine y_mri (bs := []) (ls := []) ?_
        subst h
        exact k3 (jnar_boolean (.inr rfl))
theorem kX11_isKey (d n : Nat) (A : Nat → Nat → Int32) (L : Nat → Nat → Int64) (l1 : Int32) : jEv jtab (d + 1) 177 [.ref 94, .int l1] (Sh0 n, A, L) 0 0 (fun r M2 => r = some (.int (fX11_isKey A l1)) ∧ M2 = (Sh0 n, A, L)) :=
  jEv.mk (mt := mX11_isKey) rfl (Nat.le_of_ble_eq_true rfl) (jWP.intro (pr := pX11_isKey) (pc := 0) (tfX11_isKey d n A L l1 rfl (fun hz => ⟨hz, jCn.mk ⟨rfl, rfl⟩⟩)))
noncomputable def fX11_addStep (A : Nat → Nat → Int32) (l1 : Int32) (l2 : Int32) : Option (Nat → Nat → Int32) :=
  jgd (vp_in ((1020 : Int32) + (A 94 10)) 1190) <| Option.bind (some (va_up A 98 (upd (A 98) (jx ((1020 : Int32) + (A 94 10))) l1))) fun m2 => jgd (vp_in ((1020 : Int32) + (m2 94 10)) 1190) <| Option.bind (some (va_up m2 99 (upd (m2 99) (jx ((1020 : Int32) + (m2 94 10))) l2))) fun m5 => some (va_up m5 94 (upd (m5 94) 10 ((m5 94 10) + (1 : Int32))))
set_option maxRecDepth 20000 in
theorem tfX11_addStep (d n : Nat) (A : Nat → Nat → Int32) (L : Nat → Nat → Int64) (l1 : Int32) (l2 : Int32) {Q : Option Value → jM → Prop} {z : (Nat → Nat → Int32)} (h : fX11_addStep A l1 l2 = some z) (k3 : Q (none) (Sh0 n, z, L)) : pX11_addStep (jEv jtab (d + 0), jWP (jEv jtab (d + 0)) Q ((Sh0 n).length, jsl (Sh0 n)) pX11_addStep, Q, ((Sh0 n).length, jsl (Sh0 n))) 0 [some (.ref 94), some (.int l1), some (.int l2)] [] (Sh0 n, A, L) := by
  unfold fX11_addStep at h
  obtain ⟨g1, h⟩ := of_guard h
  obtain ⟨m2, hm3, h⟩ := of_bind h
  obtain ⟨g4, h⟩ := of_guard h
  obtain ⟨m5, hm6, h⟩ := of_bind h
  refine y_mask <| x_aload rfl <| x_getR (Nat.le_of_ble_eq_true rfl) rfl rfl <| x_push <| x_aload rfl <| x_getI (Nat.le_of_ble_eq_true rfl) rfl rfl <| x_iadd <| x_iload rfl <| x_iast (Nat.le_of_ble_eq_true rfl) rfl g1 <| y_let (Option.some.inj hm3) <| x_aload rfl <| x_getR (Nat.le_of_ble_eq_true rfl) rfl rfl <| x_push <| x_aload rfl <| x_getI (Nat.le_of_ble_eq_true rfl) rfl rfl <| x_iadd <| x_iload rfl <| x_iast (Nat.le_of_ble_eq_true rfl) rfl g4 <| y_let (Option.some.inj hm6) <| x_aload rfl <| x_dup rfl <| x_getI (Nat.le_of_ble_eq_true rfl) rfl rfl <| x_push <| x_iadd <| x_putI (Nat.le_of_ble_eq_true rfl) rfl rfl <| y_return (ls := [some (.ref 94), some (.int l1), some (.int l2)]) ?_
  obtain rfl := Option.some.inj h
  exact k3
theorem kX11_addStep (d n : Nat) (A : Nat → Nat → Int32) (L : Nat → Nat → Int64) (l1 : Int32) (l2 : Int32) {z : (Nat → Nat → Int32)} (h : fX11_addStep A l1 l2 = some z) : jEv jtab (d + 1) 178 [.ref 94, .int l1, .int l2] (Sh0 n, A, L) 0 0 (fun r M2 => r = none ∧ M2 = (Sh0 n, z, L)) :=
  jEv.mk (mt := mX11_addStep) rfl (Nat.le_of_ble_eq_true rfl) (jWP.intro (pr := pX11_addStep) (pc := 0) (tfX11_addStep d n A L l1 l2 h ⟨trivial, jCn.mk ⟨rfl, rfl⟩⟩))
noncomputable def cX11_all_4 (rc : Nat → (Nat → Nat → Int32) → Option (Nat → Nat → Int32)) (s : (Nat → Nat → Int32)) : Option ((Nat → Nat → Int32) ⊕ (Nat → Nat → Int32)) :=
  (if (fX11_isKey s (14 : Int32)) = 0 then some (.inr s) else Option.bind (fX11_next s) fun r3 => Option.bind (rc 1 r3) fun r5 => Option.bind (fX11_addStep r5 (6 : Int32) (0 : Int32)) fun r7 => some (.inl r7))
set_option maxRecDepth 20000 in
theorem tcX11_all_4 (rc : Nat → (Nat → Nat → Int32) → Option (Nat → Nat → Int32)) (D : Nat) (hrc0 : ∀ (d n : Nat) (A : Nat → Nat → Int32) (L : Nat → Nat → Int64) (z : Nat → Nat → Int32), rc 0 A = some z → jEv jtab (D + d) 180 [.ref 94] (Sh0 n, A, L) 0 0 (fun r M2 => r = none ∧ M2 = (Sh0 n, z, L))) (hrc1 : ∀ (d n : Nat) (A : Nat → Nat → Int32) (L : Nat → Nat → Int64) (z : Nat → Nat → Int32), rc 1 A = some z → jEv jtab (D + d) 182 [.ref 94] (Sh0 n, A, L) 0 0 (fun r M2 => r = none ∧ M2 = (Sh0 n, z, L))) (hrc2 : ∀ (d n : Nat) (A : Nat → Nat → Int32) (L : Nat → Nat → Int64) (z : Nat → Nat → Int32), rc 2 A = some z → jEv jtab (D + d) 185 [.ref 94] (Sh0 n, A, L) 0 0 (fun r M2 => r = none ∧ M2 = (Sh0 n, z, L))) (d n : Nat) (A : Nat → Nat → Int32) (L : Nat → Nat → Int64) (s : (Nat → Nat → Int32)) {Q : Option Value → jM → Prop} {z : ((Nat → Nat → Int32) ⊕ (Nat → Nat → Int32))} (h : cX11_all_4 rc s = some z) (k1 : ∀ s0, z = .inl s0 → pX11_all (jEv jtab (D + d + 3), jWP (jEv jtab (D + d + 3)) Q ((Sh0 n).length, jsl (Sh0 n)) pX11_all, Q, ((Sh0 n).length, jsl (Sh0 n))) 4 [some (.ref 94)] [] (Sh0 n, s0, L)) (k2 : ∀ s0, z = .inr s0 → pX11_all (jEv jtab (D + d + 3), jWP (jEv jtab (D + d + 3)) Q ((Sh0 n).length, jsl (Sh0 n)) pX11_all, Q, ((Sh0 n).length, jsl (Sh0 n))) 31 [none] [] (Sh0 n, s0, L)) : pX11_all (jEv jtab (D + d + 3), jWP (jEv jtab (D + d + 3)) Q ((Sh0 n).length, jsl (Sh0 n)) pX11_all, Q, ((Sh0 n).length, jsl (Sh0 n))) 4 [some (.ref 94)] [] (Sh0 n, s, L) := by
  unfold cX11_all_4 at h
  refine y_mask <| x_aload rfl <| x_push <| y_invV1 (Nat.le_of_ble_eq_true rfl) rfl (Nat.le_of_ble_eq_true rfl) <| jEv.exZ (q := 177) rfl (kX11_isKey _ _ _ _ _) <| fun hz1 => y_if_eq (fun h2 => ?_) (fun h2 => ?_)
  · replace h := of_pos h h2
    refine jWP.intro (pr := pX11_all) (pc := 31) ?_
    have hk := k2 _ (Option.some.inj h).symm
    exact hk
  · replace h := of_neg h h2
    refine jWP.intro (pr := pX11_all) (pc := 13) ?_
    obtain ⟨r3, hc4, h⟩ := of_bind h
    obtain ⟨r5, hc6, h⟩ := of_bind h
    obtain ⟨r7, hc8, h⟩ := of_bind h
    refine y_mask <| x_aload rfl <| y_invV0 (Nat.le_of_ble_eq_true rfl) rfl (Nat.le_of_ble_eq_true rfl) <| jEv.exV (kX11_next _ _ _ _ hc4) <| x_aload rfl <| y_invV0 (Nat.le_of_ble_eq_true rfl) rfl (Nat.le_of_ble_eq_true rfl) <| jEv.exV (hrc1 (d + (3)) n r3 L _ hc6) <| x_aload rfl <| x_push <| x_push <| y_invV2 (Nat.le_of_ble_eq_true rfl) rfl (Nat.le_of_ble_eq_true rfl) <| jEv.exV (kX11_addStep _ _ _ _ _ _ hc8) <| y_mask <| y_goto ?_
    refine jWP.intro (pr := pX11_all) (pc := 4) ?_
    have hk := k1 _ (Option.some.inj h).symm
    exact hk
noncomputable def fX11_all (rc : Nat → (Nat → Nat → Int32) → Option (Nat → Nat → Int32)) (A : Nat → Nat → Int32) : Option (Nat → Nat → Int32) :=
  Option.bind (rc 1 A) fun r1 => Option.bind (jwh (cX11_all_4 rc) r1) fun e3 => some e3
set_option maxRecDepth 20000 in
theorem tfX11_all (rc : Nat → (Nat → Nat → Int32) → Option (Nat → Nat → Int32)) (D : Nat) (hrc0 : ∀ (d n : Nat) (A : Nat → Nat → Int32) (L : Nat → Nat → Int64) (z : Nat → Nat → Int32), rc 0 A = some z → jEv jtab (D + d) 180 [.ref 94] (Sh0 n, A, L) 0 0 (fun r M2 => r = none ∧ M2 = (Sh0 n, z, L))) (hrc1 : ∀ (d n : Nat) (A : Nat → Nat → Int32) (L : Nat → Nat → Int64) (z : Nat → Nat → Int32), rc 1 A = some z → jEv jtab (D + d) 182 [.ref 94] (Sh0 n, A, L) 0 0 (fun r M2 => r = none ∧ M2 = (Sh0 n, z, L))) (hrc2 : ∀ (d n : Nat) (A : Nat → Nat → Int32) (L : Nat → Nat → Int64) (z : Nat → Nat → Int32), rc 2 A = some z → jEv jtab (D + d) 185 [.ref 94] (Sh0 n, A, L) 0 0 (fun r M2 => r = none ∧ M2 = (Sh0 n, z, L))) (d n : Nat) (A : Nat → Nat → Int32) (L : Nat → Nat → Int64) {Q : Option Value → jM → Prop} {z : (Nat → Nat → Int32)} (h : fX11_all rc A = some z) (k3 : Q (none) (Sh0 n, z, L)) : pX11_all (jEv jtab (D + d + 3), jWP (jEv jtab (D + d + 3)) Q ((Sh0 n).length, jsl (Sh0 n)) pX11_all, Q, ((Sh0 n).length, jsl (Sh0 n))) 0 [some (.ref 94)] [] (Sh0 n, A, L) := by
  unfold fX11_all at h
  obtain ⟨r1, hc2, h⟩ := of_bind h
  refine y_mask <| x_aload rfl <| y_invV0 (Nat.le_of_ble_eq_true rfl) rfl (Nat.le_of_ble_eq_true rfl) <| jEv.exV (hrc1 (d + (3)) n A L _ hc2) <| y_mask <| y_goto ?_
  obtain ⟨e3, hw4, h⟩ := of_bind h
  refine jWP.intro (pr := pX11_all) (pc := 4) ?_
  refine jwh_use (G := (fun s0 => pX11_all (jEv jtab (D + d + 3), jWP (jEv jtab (D + d + 3)) Q ((Sh0 n).length, jsl (Sh0 n)) pX11_all, Q, ((Sh0 n).length, jsl (Sh0 n))) 4 [some (.ref 94)] [] (Sh0 n, s0, L))) (Gx := (fun s0 => pX11_all (jEv jtab (D + d + 3), jWP (jEv jtab (D + d + 3)) Q ((Sh0 n).length, jsl (Sh0 n)) pX11_all, Q, ((Sh0 n).length, jsl (Sh0 n))) 31 [none] [] (Sh0 n, s0, L))) (fun s1 z1 hz kk1 kk2 => tcX11_all_4 rc D hrc0 hrc1 hrc2 d n r1 L s1 hz kk1 kk2) hw4 ?_
  refine y_mrv (bs := []) (ls := []) ?_
  obtain rfl := Option.some.inj h
  exact k3
theorem kX11_all (rc : Nat → (Nat → Nat → Int32) → Option (Nat → Nat → Int32)) (D : Nat) (hrc0 : ∀ (d n : Nat) (A : Nat → Nat → Int32) (L : Nat → Nat → Int64) (z : Nat → Nat → Int32), rc 0 A = some z → jEv jtab (D + d) 180 [.ref 94] (Sh0 n, A, L) 0 0 (fun r M2 => r = none ∧ M2 = (Sh0 n, z, L))) (hrc1 : ∀ (d n : Nat) (A : Nat → Nat → Int32) (L : Nat → Nat → Int64) (z : Nat → Nat → Int32), rc 1 A = some z → jEv jtab (D + d) 182 [.ref 94] (Sh0 n, A, L) 0 0 (fun r M2 => r = none ∧ M2 = (Sh0 n, z, L))) (hrc2 : ∀ (d n : Nat) (A : Nat → Nat → Int32) (L : Nat → Nat → Int64) (z : Nat → Nat → Int32), rc 2 A = some z → jEv jtab (D + d) 185 [.ref 94] (Sh0 n, A, L) 0 0 (fun r M2 => r = none ∧ M2 = (Sh0 n, z, L))) (d n : Nat) (A : Nat → Nat → Int32) (L : Nat → Nat → Int64) {z : (Nat → Nat → Int32)} (h : fX11_all rc A = some z) : jEv jtab (D + d + 4) 181 [.ref 94] (Sh0 n, A, L) 0 0 (fun r M2 => r = none ∧ M2 = (Sh0 n, z, L)) :=
  jEv.mk (mt := mX11_all) rfl (Nat.le_of_ble_eq_true rfl) (jWP.intro (pr := pX11_all) (pc := 0) (tfX11_all rc D hrc0 hrc1 hrc2 d n A L h ⟨trivial, jCn.mk ⟨rfl, rfl⟩⟩))
noncomputable def cX11_either_4 (rc : Nat → (Nat → Nat → Int32) → Option (Nat → Nat → Int32)) (s : (Nat → Nat → Int32)) : Option ((Nat → Nat → Int32) ⊕ (Nat → Nat → Int32)) :=
  (if (fX11_isKey s (13 : Int32)) = 0 then some (.inr s) else Option.bind (fX11_next s) fun r3 => Option.bind (fX11_all rc r3) fun r5 => Option.bind (fX11_addStep r5 (5 : Int32) (0 : Int32)) fun r7 => some (.inl r7))
set_option maxRecDepth 20000 in
theorem tcX11_either_4 (rc : Nat → (Nat → Nat → Int32) → Option (Nat → Nat → Int32)) (D : Nat) (hrc0 : ∀ (d n : Nat) (A : Nat → Nat → Int32) (L : Nat → Nat → Int64) (z : Nat → Nat → Int32), rc 0 A = some z → jEv jtab (D + d) 180 [.ref 94] (Sh0 n, A, L) 0 0 (fun r M2 => r = none ∧ M2 = (Sh0 n, z, L))) (hrc1 : ∀ (d n : Nat) (A : Nat → Nat → Int32) (L : Nat → Nat → Int64) (z : Nat → Nat → Int32), rc 1 A = some z → jEv jtab (D + d) 182 [.ref 94] (Sh0 n, A, L) 0 0 (fun r M2 => r = none ∧ M2 = (Sh0 n, z, L))) (hrc2 : ∀ (d n : Nat) (A : Nat → Nat → Int32) (L : Nat → Nat → Int64) (z : Nat → Nat → Int32), rc 2 A = some z → jEv jtab (D + d) 185 [.ref 94] (Sh0 n, A, L) 0 0 (fun r M2 => r = none ∧ M2 = (Sh0 n, z, L))) (d n : Nat) (A : Nat → Nat → Int32) (L : Nat → Nat → Int64) (s : (Nat → Nat → Int32)) {Q : Option Value → jM → Prop} {z : ((Nat → Nat → Int32) ⊕ (Nat → Nat → Int32))} (h : cX11_either_4 rc s = some z) (k1 : ∀ s0, z = .inl s0 → pX11_either (jEv jtab (D + d + 4), jWP (jEv jtab (D + d + 4)) Q ((Sh0 n).length, jsl (Sh0 n)) pX11_either, Q, ((Sh0 n).length, jsl (Sh0 n))) 4 [some (.ref 94)] [] (Sh0 n, s0, L)) (k2 : ∀ s0, z = .inr s0 → pX11_either (jEv jtab (D + d + 4), jWP (jEv jtab (D + d + 4)) Q ((Sh0 n).length, jsl (Sh0 n)) pX11_either, Q, ((Sh0 n).length, jsl (Sh0 n))) 30 [none] [] (Sh0 n, s0, L)) : pX11_either (jEv jtab (D + d + 4), jWP (jEv jtab (D + d + 4)) Q ((Sh0 n).length, jsl (Sh0 n)) pX11_either, Q, ((Sh0 n).length, jsl (Sh0 n))) 4 [some (.ref 94)] [] (Sh0 n, s, L) := by
  unfold cX11_either_4 at h
  refine y_mask <| x_aload rfl <| x_push <| y_invV1 (Nat.le_of_ble_eq_true rfl) rfl (Nat.le_of_ble_eq_true rfl) <| jEv.exZ (q := 177) rfl (kX11_isKey _ _ _ _ _) <| fun hz1 => y_if_eq (fun h2 => ?_) (fun h2 => ?_)
  · replace h := of_pos h h2
    refine jWP.intro (pr := pX11_either) (pc := 30) ?_
    have hk := k2 _ (Option.some.inj h).symm
    exact hk
  · replace h := of_neg h h2
    refine jWP.intro (pr := pX11_either) (pc := 13) ?_
    obtain ⟨r3, hc4, h⟩ := of_bind h
    obtain ⟨r5, hc6, h⟩ := of_bind h
    obtain ⟨r7, hc8, h⟩ := of_bind h
    refine y_mask <| x_aload rfl <| y_invV0 (Nat.le_of_ble_eq_true rfl) rfl (Nat.le_of_ble_eq_true rfl) <| jEv.exV (kX11_next _ _ _ _ hc4) <| x_aload rfl <| y_invV0 (Nat.le_of_ble_eq_true rfl) rfl (Nat.le_of_ble_eq_true rfl) <| jEv.exV (kX11_all rc D hrc0 hrc1 hrc2 _ _ _ _ hc6) <| x_aload rfl <| x_push <| x_push <| y_invV2 (Nat.le_of_ble_eq_true rfl) rfl (Nat.le_of_ble_eq_true rfl) <| jEv.exV (kX11_addStep _ _ _ _ _ _ hc8) <| y_mask <| y_goto ?_
    refine jWP.intro (pr := pX11_either) (pc := 4) ?_
    have hk := k1 _ (Option.some.inj h).symm
    exact hk
noncomputable def gX11_either (rc : Nat → (Nat → Nat → Int32) → Option (Nat → Nat → Int32)) (A : Nat → Nat → Int32) : Option (Nat → Nat → Int32) :=
  Option.bind (fX11_all rc A) fun r1 => Option.bind (jwh (cX11_either_4 rc) r1) fun e3 => some e3
set_option maxRecDepth 20000 in
theorem tgX11_either (rc : Nat → (Nat → Nat → Int32) → Option (Nat → Nat → Int32)) (D : Nat) (hrc0 : ∀ (d n : Nat) (A : Nat → Nat → Int32) (L : Nat → Nat → Int64) (z : Nat → Nat → Int32), rc 0 A = some z → jEv jtab (D + d) 180 [.ref 94] (Sh0 n, A, L) 0 0 (fun r M2 => r = none ∧ M2 = (Sh0 n, z, L))) (hrc1 : ∀ (d n : Nat) (A : Nat → Nat → Int32) (L : Nat → Nat → Int64) (z : Nat → Nat → Int32), rc 1 A = some z → jEv jtab (D + d) 182 [.ref 94] (Sh0 n, A, L) 0 0 (fun r M2 => r = none ∧ M2 = (Sh0 n, z, L))) (hrc2 : ∀ (d n : Nat) (A : Nat → Nat → Int32) (L : Nat → Nat → Int64) (z : Nat → Nat → Int32), rc 2 A = some z → jEv jtab (D + d) 185 [.ref 94] (Sh0 n, A, L) 0 0 (fun r M2 => r = none ∧ M2 = (Sh0 n, z, L))) (d n : Nat) (A : Nat → Nat → Int32) (L : Nat → Nat → Int64) {Q : Option Value → jM → Prop} {z : (Nat → Nat → Int32)} (h : gX11_either rc A = some z) (k3 : Q (none) (Sh0 n, z, L)) : pX11_either (jEv jtab (D + d + 4), jWP (jEv jtab (D + d + 4)) Q ((Sh0 n).length, jsl (Sh0 n)) pX11_either, Q, ((Sh0 n).length, jsl (Sh0 n))) 0 [some (.ref 94)] [] (Sh0 n, A, L) := by
  unfold gX11_either at h
  obtain ⟨r1, hc2, h⟩ := of_bind h
  refine y_mask <| x_aload rfl <| y_invV0 (Nat.le_of_ble_eq_true rfl) rfl (Nat.le_of_ble_eq_true rfl) <| jEv.exV (kX11_all rc D hrc0 hrc1 hrc2 _ _ _ _ hc2) <| y_mask <| y_goto ?_
  obtain ⟨e3, hw4, h⟩ := of_bind h
  refine jWP.intro (pr := pX11_either) (pc := 4) ?_
  refine jwh_use (G := (fun s0 => pX11_either (jEv jtab (D + d + 4), jWP (jEv jtab (D + d + 4)) Q ((Sh0 n).length, jsl (Sh0 n)) pX11_either, Q, ((Sh0 n).length, jsl (Sh0 n))) 4 [some (.ref 94)] [] (Sh0 n, s0, L))) (Gx := (fun s0 => pX11_either (jEv jtab (D + d + 4), jWP (jEv jtab (D + d + 4)) Q ((Sh0 n).length, jsl (Sh0 n)) pX11_either, Q, ((Sh0 n).length, jsl (Sh0 n))) 30 [none] [] (Sh0 n, s0, L))) (fun s1 z1 hz kk1 kk2 => tcX11_either_4 rc D hrc0 hrc1 hrc2 d n r1 L s1 hz kk1 kk2) hw4 ?_
  refine y_mrv (bs := []) (ls := []) ?_
  obtain rfl := Option.some.inj h
  exact k3
theorem qX11_either (rc : Nat → (Nat → Nat → Int32) → Option (Nat → Nat → Int32)) (D : Nat) (hrc0 : ∀ (d n : Nat) (A : Nat → Nat → Int32) (L : Nat → Nat → Int64) (z : Nat → Nat → Int32), rc 0 A = some z → jEv jtab (D + d) 180 [.ref 94] (Sh0 n, A, L) 0 0 (fun r M2 => r = none ∧ M2 = (Sh0 n, z, L))) (hrc1 : ∀ (d n : Nat) (A : Nat → Nat → Int32) (L : Nat → Nat → Int64) (z : Nat → Nat → Int32), rc 1 A = some z → jEv jtab (D + d) 182 [.ref 94] (Sh0 n, A, L) 0 0 (fun r M2 => r = none ∧ M2 = (Sh0 n, z, L))) (hrc2 : ∀ (d n : Nat) (A : Nat → Nat → Int32) (L : Nat → Nat → Int64) (z : Nat → Nat → Int32), rc 2 A = some z → jEv jtab (D + d) 185 [.ref 94] (Sh0 n, A, L) 0 0 (fun r M2 => r = none ∧ M2 = (Sh0 n, z, L))) (d n : Nat) (A : Nat → Nat → Int32) (L : Nat → Nat → Int64) {z : (Nat → Nat → Int32)} (h : gX11_either rc A = some z) : jEv jtab (D + d + 5) 180 [.ref 94] (Sh0 n, A, L) 0 0 (fun r M2 => r = none ∧ M2 = (Sh0 n, z, L)) :=
  jEv.mk (mt := mX11_either) rfl (Nat.le_of_ble_eq_true rfl) (jWP.intro (pr := pX11_either) (pc := 0) (tgX11_either rc D hrc0 hrc1 hrc2 d n A L h ⟨trivial, jCn.mk ⟨rfl, rfl⟩⟩))
noncomputable def fX11_isSign (A : Nat → Nat → Int32) (l1 : Int32) : Int32 :=
  (if 0 ≤ (A 94 11) then (0 : Int32) else (if (A 94 15) = (3 : Int32) then (if (A 94 16) = l1 then (1 : Int32) else (0 : Int32)) else (0 : Int32)))
set_option maxRecDepth 20000 in
theorem tfX11_isSign (d n : Nat) (A : Nat → Nat → Int32) (L : Nat → Nat → Int64) (l1 : Int32) {Q : Option Value → jM → Prop} {z : Int32} (h : fX11_isSign A l1 = z) (k3 : (narrow .boolean (.int z) = .int z) → Q (some (.int z)) (Sh0 n, A, L)) : pX11_isSign (jEv jtab (d + 0), jWP (jEv jtab (d + 0)) Q ((Sh0 n).length, jsl (Sh0 n)) pX11_isSign, Q, ((Sh0 n).length, jsl (Sh0 n))) 0 [some (.ref 94), some (.int l1)] [] (Sh0 n, A, L) := by
  unfold fX11_isSign at h
  refine y_mask <| x_aload rfl <| x_getI (Nat.le_of_ble_eq_true rfl) rfl rfl <| y_if_ge (fun h1 => ?_) (fun h1 => ?_)
  · replace h := of_pos h h1
    refine jWP.intro (pr := pX11_isSign) (pc := 27) ?_
    refine y_mask <| x_push <| y_mask <| y_goto ?_
    refine jWP.intro (pr := pX11_isSign) (pc := 28) ?_
    refine y_mri (bs := []) (ls := []) ?_
    subst h
    exact k3 (jnar_boolean (.inl rfl))
  · replace h := of_neg h h1
    refine jWP.intro (pr := pX11_isSign) (pc := 7) ?_
    refine y_mask <| x_aload rfl <| x_getI (Nat.le_of_ble_eq_true rfl) rfl rfl <| x_push <| y_cmp_ne (fun h2 => ?_) (fun h2 => ?_)
    · replace h := of_neg h h2
      refine jWP.intro (pr := pX11_isSign) (pc := 27) ?_
      refine y_mask <| x_push <| y_mask <| y_goto ?_
      refine jWP.intro (pr := pX11_isSign) (pc := 28) ?_
      refine y_mri (bs := []) (ls := []) ?_
      subst h
      exact k3 (jnar_boolean (.inl rfl))
    · replace h := of_pos h h2
      refine jWP.intro (pr := pX11_isSign) (pc := 15) ?_
      refine y_mask <| x_aload rfl <| x_getI (Nat.le_of_ble_eq_true rfl) rfl rfl <| x_iload rfl <| y_cmp_ne (fun h3 => ?_) (fun h3 => ?_)
      · replace h := of_neg h h3
        refine jWP.intro (pr := pX11_isSign) (pc := 27) ?_
        refine y_mask <| x_push <| y_mask <| y_goto ?_
        refine jWP.intro (pr := pX11_isSign) (pc := 28) ?_
        refine y_mri (bs := []) (ls := []) ?_
        subst h
        exact k3 (jnar_boolean (.inl rfl))
      · replace h := of_pos h h3
        refine jWP.intro (pr := pX11_isSign) (pc := 23) ?_
        refine y_mask <| x_push <| y_mask <| y_goto ?_
        refine jWP.intro (pr := pX11_isSign) (pc := 28) ?_
        refine y_mri (bs := []) (ls := []) ?_
        subst h
        exact k3 (jnar_boolean (.inr rfl))
theorem kX11_isSign (d n : Nat) (A : Nat → Nat → Int32) (L : Nat → Nat → Int64) (l1 : Int32) : jEv jtab (d + 1) 176 [.ref 94, .int l1] (Sh0 n, A, L) 0 0 (fun r M2 => r = some (.int (fX11_isSign A l1)) ∧ M2 = (Sh0 n, A, L)) :=
  jEv.mk (mt := mX11_isSign) rfl (Nat.le_of_ble_eq_true rfl) (jWP.intro (pr := pX11_isSign) (pc := 0) (tfX11_isSign d n A L l1 rfl (fun hz => ⟨hz, jCn.mk ⟨rfl, rfl⟩⟩)))
noncomputable def cX11_term_4 (rc : Nat → (Nat → Nat → Int32) → Option (Nat → Nat → Int32)) (s : (Nat → Nat → Int32)) : Option ((Nat → Nat → Int32) ⊕ (Nat → Nat → Int32)) :=
  (if (fX11_isSign s (42 : Int32)) = 0 then some (.inr s) else Option.bind (fX11_next s) fun r3 => Option.bind (rc 2 r3) fun r5 => Option.bind (fX11_addStep r5 (42 : Int32) (0 : Int32)) fun r7 => some (.inl r7))
set_option maxRecDepth 20000 in
theorem tcX11_term_4 (rc : Nat → (Nat → Nat → Int32) → Option (Nat → Nat → Int32)) (D : Nat) (hrc0 : ∀ (d n : Nat) (A : Nat → Nat → Int32) (L : Nat → Nat → Int64) (z : Nat → Nat → Int32), rc 0 A = some z → jEv jtab (D + d) 180 [.ref 94] (Sh0 n, A, L) 0 0 (fun r M2 => r = none ∧ M2 = (Sh0 n, z, L))) (hrc1 : ∀ (d n : Nat) (A : Nat → Nat → Int32) (L : Nat → Nat → Int64) (z : Nat → Nat → Int32), rc 1 A = some z → jEv jtab (D + d) 182 [.ref 94] (Sh0 n, A, L) 0 0 (fun r M2 => r = none ∧ M2 = (Sh0 n, z, L))) (hrc2 : ∀ (d n : Nat) (A : Nat → Nat → Int32) (L : Nat → Nat → Int64) (z : Nat → Nat → Int32), rc 2 A = some z → jEv jtab (D + d) 185 [.ref 94] (Sh0 n, A, L) 0 0 (fun r M2 => r = none ∧ M2 = (Sh0 n, z, L))) (d n : Nat) (A : Nat → Nat → Int32) (L : Nat → Nat → Int64) (s : (Nat → Nat → Int32)) {Q : Option Value → jM → Prop} {z : ((Nat → Nat → Int32) ⊕ (Nat → Nat → Int32))} (h : cX11_term_4 rc s = some z) (k1 : ∀ s0, z = .inl s0 → pX11_term (jEv jtab (D + d + 3), jWP (jEv jtab (D + d + 3)) Q ((Sh0 n).length, jsl (Sh0 n)) pX11_term, Q, ((Sh0 n).length, jsl (Sh0 n))) 4 [some (.ref 94)] [] (Sh0 n, s0, L)) (k2 : ∀ s0, z = .inr s0 → pX11_term (jEv jtab (D + d + 3), jWP (jEv jtab (D + d + 3)) Q ((Sh0 n).length, jsl (Sh0 n)) pX11_term, Q, ((Sh0 n).length, jsl (Sh0 n))) 31 [none] [] (Sh0 n, s0, L)) : pX11_term (jEv jtab (D + d + 3), jWP (jEv jtab (D + d + 3)) Q ((Sh0 n).length, jsl (Sh0 n)) pX11_term, Q, ((Sh0 n).length, jsl (Sh0 n))) 4 [some (.ref 94)] [] (Sh0 n, s, L) := by
  unfold cX11_term_4 at h
  refine y_mask <| x_aload rfl <| x_push <| y_invV1 (Nat.le_of_ble_eq_true rfl) rfl (Nat.le_of_ble_eq_true rfl) <| jEv.exZ (q := 176) rfl (kX11_isSign _ _ _ _ _) <| fun hz1 => y_if_eq (fun h2 => ?_) (fun h2 => ?_)
  · replace h := of_pos h h2
    refine jWP.intro (pr := pX11_term) (pc := 31) ?_
    have hk := k2 _ (Option.some.inj h).symm
    exact hk
  · replace h := of_neg h h2
    refine jWP.intro (pr := pX11_term) (pc := 13) ?_
    obtain ⟨r3, hc4, h⟩ := of_bind h
    obtain ⟨r5, hc6, h⟩ := of_bind h
    obtain ⟨r7, hc8, h⟩ := of_bind h
    refine y_mask <| x_aload rfl <| y_invV0 (Nat.le_of_ble_eq_true rfl) rfl (Nat.le_of_ble_eq_true rfl) <| jEv.exV (kX11_next _ _ _ _ hc4) <| x_aload rfl <| y_invV0 (Nat.le_of_ble_eq_true rfl) rfl (Nat.le_of_ble_eq_true rfl) <| jEv.exV (hrc2 (d + (3)) n r3 L _ hc6) <| x_aload rfl <| x_push <| x_push <| y_invV2 (Nat.le_of_ble_eq_true rfl) rfl (Nat.le_of_ble_eq_true rfl) <| jEv.exV (kX11_addStep _ _ _ _ _ _ hc8) <| y_mask <| y_goto ?_
    refine jWP.intro (pr := pX11_term) (pc := 4) ?_
    have hk := k1 _ (Option.some.inj h).symm
    exact hk
noncomputable def fX11_term (rc : Nat → (Nat → Nat → Int32) → Option (Nat → Nat → Int32)) (A : Nat → Nat → Int32) : Option (Nat → Nat → Int32) :=
  Option.bind (rc 2 A) fun r1 => Option.bind (jwh (cX11_term_4 rc) r1) fun e3 => some e3
set_option maxRecDepth 20000 in
theorem tfX11_term (rc : Nat → (Nat → Nat → Int32) → Option (Nat → Nat → Int32)) (D : Nat) (hrc0 : ∀ (d n : Nat) (A : Nat → Nat → Int32) (L : Nat → Nat → Int64) (z : Nat → Nat → Int32), rc 0 A = some z → jEv jtab (D + d) 180 [.ref 94] (Sh0 n, A, L) 0 0 (fun r M2 => r = none ∧ M2 = (Sh0 n, z, L))) (hrc1 : ∀ (d n : Nat) (A : Nat → Nat → Int32) (L : Nat → Nat → Int64) (z : Nat → Nat → Int32), rc 1 A = some z → jEv jtab (D + d) 182 [.ref 94] (Sh0 n, A, L) 0 0 (fun r M2 => r = none ∧ M2 = (Sh0 n, z, L))) (hrc2 : ∀ (d n : Nat) (A : Nat → Nat → Int32) (L : Nat → Nat → Int64) (z : Nat → Nat → Int32), rc 2 A = some z → jEv jtab (D + d) 185 [.ref 94] (Sh0 n, A, L) 0 0 (fun r M2 => r = none ∧ M2 = (Sh0 n, z, L))) (d n : Nat) (A : Nat → Nat → Int32) (L : Nat → Nat → Int64) {Q : Option Value → jM → Prop} {z : (Nat → Nat → Int32)} (h : fX11_term rc A = some z) (k3 : Q (none) (Sh0 n, z, L)) : pX11_term (jEv jtab (D + d + 3), jWP (jEv jtab (D + d + 3)) Q ((Sh0 n).length, jsl (Sh0 n)) pX11_term, Q, ((Sh0 n).length, jsl (Sh0 n))) 0 [some (.ref 94)] [] (Sh0 n, A, L) := by
  unfold fX11_term at h
  obtain ⟨r1, hc2, h⟩ := of_bind h
  refine y_mask <| x_aload rfl <| y_invV0 (Nat.le_of_ble_eq_true rfl) rfl (Nat.le_of_ble_eq_true rfl) <| jEv.exV (hrc2 (d + (3)) n A L _ hc2) <| y_mask <| y_goto ?_
  obtain ⟨e3, hw4, h⟩ := of_bind h
  refine jWP.intro (pr := pX11_term) (pc := 4) ?_
  refine jwh_use (G := (fun s0 => pX11_term (jEv jtab (D + d + 3), jWP (jEv jtab (D + d + 3)) Q ((Sh0 n).length, jsl (Sh0 n)) pX11_term, Q, ((Sh0 n).length, jsl (Sh0 n))) 4 [some (.ref 94)] [] (Sh0 n, s0, L))) (Gx := (fun s0 => pX11_term (jEv jtab (D + d + 3), jWP (jEv jtab (D + d + 3)) Q ((Sh0 n).length, jsl (Sh0 n)) pX11_term, Q, ((Sh0 n).length, jsl (Sh0 n))) 31 [none] [] (Sh0 n, s0, L))) (fun s1 z1 hz kk1 kk2 => tcX11_term_4 rc D hrc0 hrc1 hrc2 d n r1 L s1 hz kk1 kk2) hw4 ?_
  refine y_mrv (bs := []) (ls := []) ?_
  obtain rfl := Option.some.inj h
  exact k3
theorem kX11_term (rc : Nat → (Nat → Nat → Int32) → Option (Nat → Nat → Int32)) (D : Nat) (hrc0 : ∀ (d n : Nat) (A : Nat → Nat → Int32) (L : Nat → Nat → Int64) (z : Nat → Nat → Int32), rc 0 A = some z → jEv jtab (D + d) 180 [.ref 94] (Sh0 n, A, L) 0 0 (fun r M2 => r = none ∧ M2 = (Sh0 n, z, L))) (hrc1 : ∀ (d n : Nat) (A : Nat → Nat → Int32) (L : Nat → Nat → Int64) (z : Nat → Nat → Int32), rc 1 A = some z → jEv jtab (D + d) 182 [.ref 94] (Sh0 n, A, L) 0 0 (fun r M2 => r = none ∧ M2 = (Sh0 n, z, L))) (hrc2 : ∀ (d n : Nat) (A : Nat → Nat → Int32) (L : Nat → Nat → Int64) (z : Nat → Nat → Int32), rc 2 A = some z → jEv jtab (D + d) 185 [.ref 94] (Sh0 n, A, L) 0 0 (fun r M2 => r = none ∧ M2 = (Sh0 n, z, L))) (d n : Nat) (A : Nat → Nat → Int32) (L : Nat → Nat → Int64) {z : (Nat → Nat → Int32)} (h : fX11_term rc A = some z) : jEv jtab (D + d + 4) 184 [.ref 94] (Sh0 n, A, L) 0 0 (fun r M2 => r = none ∧ M2 = (Sh0 n, z, L)) :=
  jEv.mk (mt := mX11_term) rfl (Nat.le_of_ble_eq_true rfl) (jWP.intro (pr := pX11_term) (pc := 0) (tfX11_term rc D hrc0 hrc1 hrc2 d n A L h ⟨trivial, jCn.mk ⟨rfl, rfl⟩⟩))
noncomputable def jX11_sum_22_4 (rc : Nat → (Nat → Nat → Int32) → Option (Nat → Nat → Int32)) (A : Nat → Nat → Int32) : Option ((Nat → Nat → Int32) ⊕ (Nat → Nat → Int32)) :=
  Option.bind (fX11_next A) fun r1 => Option.bind (fX11_term rc r1) fun r3 => Option.bind (fX11_addStep r3 (A 94 16) (0 : Int32)) fun r5 => some (.inl r5)
set_option maxRecDepth 20000 in
theorem tjX11_sum_22_4 (rc : Nat → (Nat → Nat → Int32) → Option (Nat → Nat → Int32)) (D : Nat) (hrc0 : ∀ (d n : Nat) (A : Nat → Nat → Int32) (L : Nat → Nat → Int64) (z : Nat → Nat → Int32), rc 0 A = some z → jEv jtab (D + d) 180 [.ref 94] (Sh0 n, A, L) 0 0 (fun r M2 => r = none ∧ M2 = (Sh0 n, z, L))) (hrc1 : ∀ (d n : Nat) (A : Nat → Nat → Int32) (L : Nat → Nat → Int64) (z : Nat → Nat → Int32), rc 1 A = some z → jEv jtab (D + d) 182 [.ref 94] (Sh0 n, A, L) 0 0 (fun r M2 => r = none ∧ M2 = (Sh0 n, z, L))) (hrc2 : ∀ (d n : Nat) (A : Nat → Nat → Int32) (L : Nat → Nat → Int64) (z : Nat → Nat → Int32), rc 2 A = some z → jEv jtab (D + d) 185 [.ref 94] (Sh0 n, A, L) 0 0 (fun r M2 => r = none ∧ M2 = (Sh0 n, z, L))) (d n : Nat) (A : Nat → Nat → Int32) (L : Nat → Nat → Int64) {Q : Option Value → jM → Prop} {z : ((Nat → Nat → Int32) ⊕ (Nat → Nat → Int32))} (h : jX11_sum_22_4 rc A = some z) (k1 : ∀ s0, z = .inl s0 → pX11_sum (jEv jtab (D + d + 4), jWP (jEv jtab (D + d + 4)) Q ((Sh0 n).length, jsl (Sh0 n)) pX11_sum, Q, ((Sh0 n).length, jsl (Sh0 n))) 4 [some (.ref 94), none] [] (Sh0 n, s0, L)) (k2 : ∀ s0, z = .inr s0 → pX11_sum (jEv jtab (D + d + 4), jWP (jEv jtab (D + d + 4)) Q ((Sh0 n).length, jsl (Sh0 n)) pX11_sum, Q, ((Sh0 n).length, jsl (Sh0 n))) 44 [none, none] [] (Sh0 n, s0, L)) : pX11_sum (jEv jtab (D + d + 4), jWP (jEv jtab (D + d + 4)) Q ((Sh0 n).length, jsl (Sh0 n)) pX11_sum, Q, ((Sh0 n).length, jsl (Sh0 n))) 22 [some (.ref 94), none] [] (Sh0 n, A, L) := by
  unfold jX11_sum_22_4 at h
  obtain ⟨r1, hc2, h⟩ := of_bind h
  obtain ⟨r3, hc4, h⟩ := of_bind h
  obtain ⟨r5, hc6, h⟩ := of_bind h
  refine y_mask <| x_aload rfl <| x_getI (Nat.le_of_ble_eq_true rfl) rfl rfl <| x_istore rfl <| x_aload rfl <| y_invV0 (Nat.le_of_ble_eq_true rfl) rfl (Nat.le_of_ble_eq_true rfl) <| jEv.exV (kX11_next _ _ _ _ hc2) <| x_aload rfl <| y_invV0 (Nat.le_of_ble_eq_true rfl) rfl (Nat.le_of_ble_eq_true rfl) <| jEv.exV (kX11_term rc D hrc0 hrc1 hrc2 _ _ _ _ hc4) <| x_aload rfl <| x_iload rfl <| x_push <| y_invV2 (Nat.le_of_ble_eq_true rfl) rfl (Nat.le_of_ble_eq_true rfl) <| jEv.exV (kX11_addStep _ _ _ _ _ _ hc6) <| y_mask <| y_goto ?_
  refine jWP.intro (pr := pX11_sum) (pc := 4) ?_
  have hk := k1 _ (Option.some.inj h).symm
  exact hk
noncomputable def cX11_sum_4 (rc : Nat → (Nat → Nat → Int32) → Option (Nat → Nat → Int32)) (s : (Nat → Nat → Int32)) : Option ((Nat → Nat → Int32) ⊕ (Nat → Nat → Int32)) :=
  (if (fX11_isSign s (43 : Int32)) = 0 then (if (fX11_isSign s (45 : Int32)) = 0 then some (.inr s) else jX11_sum_22_4 rc s) else jX11_sum_22_4 rc s)
set_option maxRecDepth 20000 in
theorem tcX11_sum_4 (rc : Nat → (Nat → Nat → Int32) → Option (Nat → Nat → Int32)) (D : Nat) (hrc0 : ∀ (d n : Nat) (A : Nat → Nat → Int32) (L : Nat → Nat → Int64) (z : Nat → Nat → Int32), rc 0 A = some z → jEv jtab (D + d) 180 [.ref 94] (Sh0 n, A, L) 0 0 (fun r M2 => r = none ∧ M2 = (Sh0 n, z, L))) (hrc1 : ∀ (d n : Nat) (A : Nat → Nat → Int32) (L : Nat → Nat → Int64) (z : Nat → Nat → Int32), rc 1 A = some z → jEv jtab (D + d) 182 [.ref 94] (Sh0 n, A, L) 0 0 (fun r M2 => r = none ∧ M2 = (Sh0 n, z, L))) (hrc2 : ∀ (d n : Nat) (A : Nat → Nat → Int32) (L : Nat → Nat → Int64) (z : Nat → Nat → Int32), rc 2 A = some z → jEv jtab (D + d) 185 [.ref 94] (Sh0 n, A, L) 0 0 (fun r M2 => r = none ∧ M2 = (Sh0 n, z, L))) (d n : Nat) (A : Nat → Nat → Int32) (L : Nat → Nat → Int64) (s : (Nat → Nat → Int32)) {Q : Option Value → jM → Prop} {z : ((Nat → Nat → Int32) ⊕ (Nat → Nat → Int32))} (h : cX11_sum_4 rc s = some z) (k1 : ∀ s0, z = .inl s0 → pX11_sum (jEv jtab (D + d + 4), jWP (jEv jtab (D + d + 4)) Q ((Sh0 n).length, jsl (Sh0 n)) pX11_sum, Q, ((Sh0 n).length, jsl (Sh0 n))) 4 [some (.ref 94), none] [] (Sh0 n, s0, L)) (k2 : ∀ s0, z = .inr s0 → pX11_sum (jEv jtab (D + d + 4), jWP (jEv jtab (D + d + 4)) Q ((Sh0 n).length, jsl (Sh0 n)) pX11_sum, Q, ((Sh0 n).length, jsl (Sh0 n))) 44 [none, none] [] (Sh0 n, s0, L)) : pX11_sum (jEv jtab (D + d + 4), jWP (jEv jtab (D + d + 4)) Q ((Sh0 n).length, jsl (Sh0 n)) pX11_sum, Q, ((Sh0 n).length, jsl (Sh0 n))) 4 [some (.ref 94), none] [] (Sh0 n, s, L) := by
  unfold cX11_sum_4 at h
  refine y_mask <| x_aload rfl <| x_push <| y_invV1 (Nat.le_of_ble_eq_true rfl) rfl (Nat.le_of_ble_eq_true rfl) <| jEv.exZ (q := 176) rfl (kX11_isSign _ _ _ _ _) <| fun hz1 => y_if_ne (fun h2 => ?_) (fun h2 => ?_)
  · replace h := of_neg h h2
    refine jWP.intro (pr := pX11_sum) (pc := 22) ?_
    exact tjX11_sum_22_4 rc D hrc0 hrc1 hrc2 d n s L h k1 k2
  · replace h := of_pos h h2
    refine jWP.intro (pr := pX11_sum) (pc := 13) ?_
    refine y_mask <| x_aload rfl <| x_push <| y_invV1 (Nat.le_of_ble_eq_true rfl) rfl (Nat.le_of_ble_eq_true rfl) <| jEv.exZ (q := 176) rfl (kX11_isSign _ _ _ _ _) <| fun hz3 => y_if_eq (fun h4 => ?_) (fun h4 => ?_)
    · replace h := of_pos h h4
      refine jWP.intro (pr := pX11_sum) (pc := 44) ?_
      have hk := k2 _ (Option.some.inj h).symm
      exact hk
    · replace h := of_neg h h4
      refine jWP.intro (pr := pX11_sum) (pc := 22) ?_
      exact tjX11_sum_22_4 rc D hrc0 hrc1 hrc2 d n s L h k1 k2
noncomputable def fX11_sum (rc : Nat → (Nat → Nat → Int32) → Option (Nat → Nat → Int32)) (A : Nat → Nat → Int32) : Option (Nat → Nat → Int32) :=
  Option.bind (fX11_term rc A) fun r1 => Option.bind (jwh (cX11_sum_4 rc) r1) fun e3 => some e3
set_option maxRecDepth 20000 in
theorem tfX11_sum (rc : Nat → (Nat → Nat → Int32) → Option (Nat → Nat → Int32)) (D : Nat) (hrc0 : ∀ (d n : Nat) (A : Nat → Nat → Int32) (L : Nat → Nat → Int64) (z : Nat → Nat → Int32), rc 0 A = some z → jEv jtab (D + d) 180 [.ref 94] (Sh0 n, A, L) 0 0 (fun r M2 => r = none ∧ M2 = (Sh0 n, z, L))) (hrc1 : ∀ (d n : Nat) (A : Nat → Nat → Int32) (L : Nat → Nat → Int64) (z : Nat → Nat → Int32), rc 1 A = some z → jEv jtab (D + d) 182 [.ref 94] (Sh0 n, A, L) 0 0 (fun r M2 => r = none ∧ M2 = (Sh0 n, z, L))) (hrc2 : ∀ (d n : Nat) (A : Nat → Nat → Int32) (L : Nat → Nat → Int64) (z : Nat → Nat → Int32), rc 2 A = some z → jEv jtab (D + d) 185 [.ref 94] (Sh0 n, A, L) 0 0 (fun r M2 => r = none ∧ M2 = (Sh0 n, z, L))) (d n : Nat) (A : Nat → Nat → Int32) (L : Nat → Nat → Int64) {Q : Option Value → jM → Prop} {z : (Nat → Nat → Int32)} (h : fX11_sum rc A = some z) (k3 : Q (none) (Sh0 n, z, L)) : pX11_sum (jEv jtab (D + d + 4), jWP (jEv jtab (D + d + 4)) Q ((Sh0 n).length, jsl (Sh0 n)) pX11_sum, Q, ((Sh0 n).length, jsl (Sh0 n))) 0 [some (.ref 94), none] [] (Sh0 n, A, L) := by
  unfold fX11_sum at h
  obtain ⟨r1, hc2, h⟩ := of_bind h
  refine y_mask <| x_aload rfl <| y_invV0 (Nat.le_of_ble_eq_true rfl) rfl (Nat.le_of_ble_eq_true rfl) <| jEv.exV (kX11_term rc D hrc0 hrc1 hrc2 _ _ _ _ hc2) <| y_mask <| y_goto ?_
  obtain ⟨e3, hw4, h⟩ := of_bind h
  refine jWP.intro (pr := pX11_sum) (pc := 4) ?_
  refine jwh_use (G := (fun s0 => pX11_sum (jEv jtab (D + d + 4), jWP (jEv jtab (D + d + 4)) Q ((Sh0 n).length, jsl (Sh0 n)) pX11_sum, Q, ((Sh0 n).length, jsl (Sh0 n))) 4 [some (.ref 94), none] [] (Sh0 n, s0, L))) (Gx := (fun s0 => pX11_sum (jEv jtab (D + d + 4), jWP (jEv jtab (D + d + 4)) Q ((Sh0 n).length, jsl (Sh0 n)) pX11_sum, Q, ((Sh0 n).length, jsl (Sh0 n))) 44 [none, none] [] (Sh0 n, s0, L))) (fun s1 z1 hz kk1 kk2 => tcX11_sum_4 rc D hrc0 hrc1 hrc2 d n r1 L s1 hz kk1 kk2) hw4 ?_
  refine y_mrv (bs := []) (ls := []) ?_
  obtain rfl := Option.some.inj h
  exact k3
theorem kX11_sum (rc : Nat → (Nat → Nat → Int32) → Option (Nat → Nat → Int32)) (D : Nat) (hrc0 : ∀ (d n : Nat) (A : Nat → Nat → Int32) (L : Nat → Nat → Int64) (z : Nat → Nat → Int32), rc 0 A = some z → jEv jtab (D + d) 180 [.ref 94] (Sh0 n, A, L) 0 0 (fun r M2 => r = none ∧ M2 = (Sh0 n, z, L))) (hrc1 : ∀ (d n : Nat) (A : Nat → Nat → Int32) (L : Nat → Nat → Int64) (z : Nat → Nat → Int32), rc 1 A = some z → jEv jtab (D + d) 182 [.ref 94] (Sh0 n, A, L) 0 0 (fun r M2 => r = none ∧ M2 = (Sh0 n, z, L))) (hrc2 : ∀ (d n : Nat) (A : Nat → Nat → Int32) (L : Nat → Nat → Int64) (z : Nat → Nat → Int32), rc 2 A = some z → jEv jtab (D + d) 185 [.ref 94] (Sh0 n, A, L) 0 0 (fun r M2 => r = none ∧ M2 = (Sh0 n, z, L))) (d n : Nat) (A : Nat → Nat → Int32) (L : Nat → Nat → Int64) {z : (Nat → Nat → Int32)} (h : fX11_sum rc A = some z) : jEv jtab (D + d + 5) 183 [.ref 94] (Sh0 n, A, L) 0 0 (fun r M2 => r = none ∧ M2 = (Sh0 n, z, L)) :=
  jEv.mk (mt := mX11_sum) rfl (Nat.le_of_ble_eq_true rfl) (jWP.intro (pr := pX11_sum) (pc := 0) (tfX11_sum rc D hrc0 hrc1 hrc2 d n A L h ⟨trivial, jCn.mk ⟨rfl, rfl⟩⟩))
noncomputable def fX11_faulty (A : Nat → Nat → Int32) : Option (Nat → Nat → Int32) :=
  (if 0 ≤ (A 94 11) then some A else some (va_up A 94 (upd (A 94) 11 (A 94 13))))
set_option maxRecDepth 20000 in
theorem tfX11_faulty (d n : Nat) (A : Nat → Nat → Int32) (L : Nat → Nat → Int64) {Q : Option Value → jM → Prop} {z : (Nat → Nat → Int32)} (h : fX11_faulty A = some z) (k3 : Q (none) (Sh0 n, z, L)) : pX11_faulty (jEv jtab (d + 0), jWP (jEv jtab (d + 0)) Q ((Sh0 n).length, jsl (Sh0 n)) pX11_faulty, Q, ((Sh0 n).length, jsl (Sh0 n))) 0 [some (.ref 94)] [] (Sh0 n, A, L) := by
  unfold fX11_faulty at h
  refine y_mask <| x_aload rfl <| x_getI (Nat.le_of_ble_eq_true rfl) rfl rfl <| y_if_ge (fun h1 => ?_) (fun h1 => ?_)
  · replace h := of_pos h h1
    refine jWP.intro (pr := pX11_faulty) (pc := 15) ?_
    refine y_mrv (bs := []) (ls := []) ?_
    obtain rfl := Option.some.inj h
    exact k3
  · replace h := of_neg h h1
    refine jWP.intro (pr := pX11_faulty) (pc := 7) ?_
    refine y_mask <| x_aload rfl <| x_aload rfl <| x_getI (Nat.le_of_ble_eq_true rfl) rfl rfl <| x_putI (Nat.le_of_ble_eq_true rfl) rfl rfl <| y_mask <| y_goto ?_
    refine jWP.intro (pr := pX11_faulty) (pc := 15) ?_
    refine y_mrv (bs := []) (ls := []) ?_
    obtain rfl := Option.some.inj h
    exact k3
theorem kX11_faulty (d n : Nat) (A : Nat → Nat → Int32) (L : Nat → Nat → Int64) {z : (Nat → Nat → Int32)} (h : fX11_faulty A = some z) : jEv jtab (d + 1) 175 [.ref 94] (Sh0 n, A, L) 0 0 (fun r M2 => r = none ∧ M2 = (Sh0 n, z, L)) :=
  jEv.mk (mt := mX11_faulty) rfl (Nat.le_of_ble_eq_true rfl) (jWP.intro (pr := pX11_faulty) (pc := 0) (tfX11_faulty d n A L h ⟨trivial, jCn.mk ⟨rfl, rfl⟩⟩))
noncomputable def fX11_opens (A : Nat → Nat → Int32) : Option (Int32 × (Nat → Nat → Int32)) :=
  (if (A 94 12) = (5 : Int32) then Option.bind (fX11_faulty A) fun r4 => some ((0 : Int32), r4) else Option.bind (fX11_next (va_up A 94 (upd (A 94) 12 ((A 94 12) + (1 : Int32))))) fun r2 => some ((1 : Int32), r2))
set_option maxRecDepth 20000 in
theorem tfX11_opens (d n : Nat) (A : Nat → Nat → Int32) (L : Nat → Nat → Int64) {Q : Option Value → jM → Prop} {z : (Int32 × (Nat → Nat → Int32))} (h : fX11_opens A = some z) (k3 : (narrow .boolean (.int z.1) = .int z.1) → Q (some (.int z.1)) (Sh0 n, z.2, L)) : pX11_opens (jEv jtab (d + 3), jWP (jEv jtab (d + 3)) Q ((Sh0 n).length, jsl (Sh0 n)) pX11_opens, Q, ((Sh0 n).length, jsl (Sh0 n))) 0 [some (.ref 94)] [] (Sh0 n, A, L) := by
  unfold fX11_opens at h
  refine y_mask <| x_aload rfl <| x_getI (Nat.le_of_ble_eq_true rfl) rfl rfl <| x_push <| y_cmp_ne (fun h1 => ?_) (fun h1 => ?_)
  · replace h := of_neg h h1
    refine jWP.intro (pr := pX11_opens) (pc := 14) ?_
    obtain ⟨r2, hc3, h⟩ := of_bind h
    refine y_mask <| x_aload rfl <| x_dup rfl <| x_getI (Nat.le_of_ble_eq_true rfl) rfl rfl <| x_push <| x_iadd <| x_putI (Nat.le_of_ble_eq_true rfl) rfl rfl <| x_aload rfl <| y_invV0 (Nat.le_of_ble_eq_true rfl) rfl (Nat.le_of_ble_eq_true rfl) <| jEv.exV (kX11_next _ _ _ _ hc3) <| x_push <| y_ireturn (ls := [some (.ref 94)]) ?_
    obtain rfl := Option.some.inj h
    exact k3 (jnar_boolean (.inr rfl))
  · replace h := of_pos h h1
    refine jWP.intro (pr := pX11_opens) (pc := 8) ?_
    obtain ⟨r4, hc5, h⟩ := of_bind h
    refine y_mask <| x_aload rfl <| y_invV0 (Nat.le_of_ble_eq_true rfl) rfl (Nat.le_of_ble_eq_true rfl) <| jEv.exV (kX11_faulty _ _ _ _ hc5) <| x_push <| y_ireturn (ls := [some (.ref 94)]) ?_
    obtain rfl := Option.some.inj h
    exact k3 (jnar_boolean (.inl rfl))
theorem kX11_opens (d n : Nat) (A : Nat → Nat → Int32) (L : Nat → Nat → Int64) {z : (Int32 × (Nat → Nat → Int32))} (h : fX11_opens A = some z) : jEv jtab (d + 4) 179 [.ref 94] (Sh0 n, A, L) 0 0 (fun r M2 => r = some (.int z.1) ∧ M2 = (Sh0 n, z.2, L)) :=
  jEv.mk (mt := mX11_opens) rfl (Nat.le_of_ble_eq_true rfl) (jWP.intro (pr := pX11_opens) (pc := 0) (tfX11_opens d n A L h (fun hz => ⟨hz, jCn.mk ⟨rfl, rfl⟩⟩)))
noncomputable def jX11_denied_61 (rc : Nat → (Nat → Nat → Int32) → Option (Nat → Nat → Int32)) (A : Nat → Nat → Int32) : Option (Nat → Nat → Int32) :=
  Option.bind (fX11_next A) fun r1 => Option.bind (fX11_sum rc r1) fun r3 => Option.bind (fX11_addStep r3 (A 94 16) (0 : Int32)) fun r5 => some r5
set_option maxRecDepth 20000 in
theorem tjX11_denied_61 (rc : Nat → (Nat → Nat → Int32) → Option (Nat → Nat → Int32)) (D : Nat) (hrc0 : ∀ (d n : Nat) (A : Nat → Nat → Int32) (L : Nat → Nat → Int64) (z : Nat → Nat → Int32), rc 0 A = some z → jEv jtab (D + d) 180 [.ref 94] (Sh0 n, A, L) 0 0 (fun r M2 => r = none ∧ M2 = (Sh0 n, z, L))) (hrc1 : ∀ (d n : Nat) (A : Nat → Nat → Int32) (L : Nat → Nat → Int64) (z : Nat → Nat → Int32), rc 1 A = some z → jEv jtab (D + d) 182 [.ref 94] (Sh0 n, A, L) 0 0 (fun r M2 => r = none ∧ M2 = (Sh0 n, z, L))) (hrc2 : ∀ (d n : Nat) (A : Nat → Nat → Int32) (L : Nat → Nat → Int64) (z : Nat → Nat → Int32), rc 2 A = some z → jEv jtab (D + d) 185 [.ref 94] (Sh0 n, A, L) 0 0 (fun r M2 => r = none ∧ M2 = (Sh0 n, z, L))) (d n : Nat) (A : Nat → Nat → Int32) (L : Nat → Nat → Int64) {Q : Option Value → jM → Prop} {z : (Nat → Nat → Int32)} (h : jX11_denied_61 rc A = some z) (k3 : Q (none) (Sh0 n, z, L)) : pX11_denied (jEv jtab (D + d + 5), jWP (jEv jtab (D + d + 5)) Q ((Sh0 n).length, jsl (Sh0 n)) pX11_denied, Q, ((Sh0 n).length, jsl (Sh0 n))) 61 [some (.ref 94), none] [] (Sh0 n, A, L) := by
  unfold jX11_denied_61 at h
  obtain ⟨r1, hc2, h⟩ := of_bind h
  obtain ⟨r3, hc4, h⟩ := of_bind h
  obtain ⟨r5, hc6, h⟩ := of_bind h
  refine y_mask <| x_aload rfl <| x_getI (Nat.le_of_ble_eq_true rfl) rfl rfl <| x_istore rfl <| x_aload rfl <| y_invV0 (Nat.le_of_ble_eq_true rfl) rfl (Nat.le_of_ble_eq_true rfl) <| jEv.exV (kX11_next _ _ _ _ hc2) <| x_aload rfl <| y_invV0 (Nat.le_of_ble_eq_true rfl) rfl (Nat.le_of_ble_eq_true rfl) <| jEv.exV (kX11_sum rc D hrc0 hrc1 hrc2 _ _ _ _ hc4) <| x_aload rfl <| x_iload rfl <| x_push <| y_invV2 (Nat.le_of_ble_eq_true rfl) rfl (Nat.le_of_ble_eq_true rfl) <| jEv.exV (kX11_addStep _ _ _ _ _ _ hc6) <| y_return (ls := [some (.ref 94), some (.int (A 94 16))]) ?_
  obtain rfl := Option.some.inj h
  exact k3
noncomputable def gX11_denied (rc : Nat → (Nat → Nat → Int32) → Option (Nat → Nat → Int32)) (A : Nat → Nat → Int32) : Option (Nat → Nat → Int32) :=
  (if (fX11_isKey A (15 : Int32)) = 0 then Option.bind (fX11_sum rc A) fun r3 => (if (fX11_isSign r3 (60 : Int32)) = 0 then (if (fX11_isSign r3 (61 : Int32)) = 0 then some r3 else jX11_denied_61 rc r3) else jX11_denied_61 rc r3) else Option.bind (fX11_opens A) fun r9 => (if r9.1 = 0 then some r9.2 else Option.bind (rc 1 r9.2) fun r13 => Option.bind (fX11_addStep (va_up r13 94 (upd (r13 94) 12 ((r13 94 12) - (1 : Int32)))) (3 : Int32) (0 : Int32)) fun r15 => some r15))
set_option maxRecDepth 20000 in
theorem tgX11_denied (rc : Nat → (Nat → Nat → Int32) → Option (Nat → Nat → Int32)) (D : Nat) (hrc0 : ∀ (d n : Nat) (A : Nat → Nat → Int32) (L : Nat → Nat → Int64) (z : Nat → Nat → Int32), rc 0 A = some z → jEv jtab (D + d) 180 [.ref 94] (Sh0 n, A, L) 0 0 (fun r M2 => r = none ∧ M2 = (Sh0 n, z, L))) (hrc1 : ∀ (d n : Nat) (A : Nat → Nat → Int32) (L : Nat → Nat → Int64) (z : Nat → Nat → Int32), rc 1 A = some z → jEv jtab (D + d) 182 [.ref 94] (Sh0 n, A, L) 0 0 (fun r M2 => r = none ∧ M2 = (Sh0 n, z, L))) (hrc2 : ∀ (d n : Nat) (A : Nat → Nat → Int32) (L : Nat → Nat → Int64) (z : Nat → Nat → Int32), rc 2 A = some z → jEv jtab (D + d) 185 [.ref 94] (Sh0 n, A, L) 0 0 (fun r M2 => r = none ∧ M2 = (Sh0 n, z, L))) (d n : Nat) (A : Nat → Nat → Int32) (L : Nat → Nat → Int64) {Q : Option Value → jM → Prop} {z : (Nat → Nat → Int32)} (h : gX11_denied rc A = some z) (k3 : Q (none) (Sh0 n, z, L)) : pX11_denied (jEv jtab (D + d + 5), jWP (jEv jtab (D + d + 5)) Q ((Sh0 n).length, jsl (Sh0 n)) pX11_denied, Q, ((Sh0 n).length, jsl (Sh0 n))) 0 [some (.ref 94), none] [] (Sh0 n, A, L) := by
  unfold gX11_denied at h
  refine y_mask <| x_aload rfl <| x_push <| y_invV1 (Nat.le_of_ble_eq_true rfl) rfl (Nat.le_of_ble_eq_true rfl) <| jEv.exZ (q := 177) rfl (kX11_isKey _ _ _ _ _) <| fun hz1 => y_if_eq (fun h2 => ?_) (fun h2 => ?_)
  · replace h := of_pos h h2
    refine jWP.intro (pr := pX11_denied) (pc := 38) ?_
    obtain ⟨r3, hc4, h⟩ := of_bind h
    refine y_mask <| x_aload rfl <| y_invV0 (Nat.le_of_ble_eq_true rfl) rfl (Nat.le_of_ble_eq_true rfl) <| jEv.exV (kX11_sum rc D hrc0 hrc1 hrc2 _ _ _ _ hc4) <| x_aload rfl <| x_push <| y_invV1 (Nat.le_of_ble_eq_true rfl) rfl (Nat.le_of_ble_eq_true rfl) <| jEv.exZ (q := 176) rfl (kX11_isSign _ _ _ _ _) <| fun hz5 => y_if_ne (fun h6 => ?_) (fun h6 => ?_)
    · replace h := of_neg h h6
      refine jWP.intro (pr := pX11_denied) (pc := 61) ?_
      exact tjX11_denied_61 rc D hrc0 hrc1 hrc2 d n r3 L h k3
    · replace h := of_pos h h6
      refine jWP.intro (pr := pX11_denied) (pc := 51) ?_
      refine y_mask <| x_aload rfl <| x_push <| y_invV1 (Nat.le_of_ble_eq_true rfl) rfl (Nat.le_of_ble_eq_true rfl) <| jEv.exZ (q := 176) rfl (kX11_isSign _ _ _ _ _) <| fun hz7 => y_if_ne (fun h8 => ?_) (fun h8 => ?_)
      · replace h := of_neg h h8
        refine jWP.intro (pr := pX11_denied) (pc := 61) ?_
        exact tjX11_denied_61 rc D hrc0 hrc1 hrc2 d n r3 L h k3
      · replace h := of_pos h h8
        refine jWP.intro (pr := pX11_denied) (pc := 60) ?_
        refine y_mrv (bs := []) (ls := []) ?_
        obtain rfl := Option.some.inj h
        exact k3
  · replace h := of_neg h h2
    refine jWP.intro (pr := pX11_denied) (pc := 9) ?_
    obtain ⟨r9, hc10, h⟩ := of_bind h
    refine y_mask <| x_aload rfl <| y_invV0 (Nat.le_of_ble_eq_true rfl) rfl (Nat.le_of_ble_eq_true rfl) <| jEv.exZ (q := 179) rfl (kX11_opens _ _ _ _ hc10) <| fun hz11 => y_if_ne (fun h12 => ?_) (fun h12 => ?_)
    · replace h := of_neg h h12
      refine jWP.intro (pr := pX11_denied) (pc := 17) ?_
      obtain ⟨r13, hc14, h⟩ := of_bind h
      obtain ⟨r15, hc16, h⟩ := of_bind h
      refine y_mask <| x_aload rfl <| y_invV0 (Nat.le_of_ble_eq_true rfl) rfl (Nat.le_of_ble_eq_true rfl) <| jEv.exV (hrc1 (d + (5)) n r9.2 L _ hc14) <| x_aload rfl <| x_dup rfl <| x_getI (Nat.le_of_ble_eq_true rfl) rfl rfl <| x_push <| x_isub <| x_putI (Nat.le_of_ble_eq_true rfl) rfl rfl <| x_aload rfl <| x_push <| x_push <| y_invV2 (Nat.le_of_ble_eq_true rfl) rfl (Nat.le_of_ble_eq_true rfl) <| jEv.exV (kX11_addStep _ _ _ _ _ _ hc16) <| y_return (ls := [some (.ref 94), none]) ?_
      obtain rfl := Option.some.inj h
      exact k3
    · replace h := of_pos h h12
      refine jWP.intro (pr := pX11_denied) (pc := 16) ?_
      refine y_mrv (bs := []) (ls := []) ?_
      obtain rfl := Option.some.inj h
      exact k3
theorem qX11_denied (rc : Nat → (Nat → Nat → Int32) → Option (Nat → Nat → Int32)) (D : Nat) (hrc0 : ∀ (d n : Nat) (A : Nat → Nat → Int32) (L : Nat → Nat → Int64) (z : Nat → Nat → Int32), rc 0 A = some z → jEv jtab (D + d) 180 [.ref 94] (Sh0 n, A, L) 0 0 (fun r M2 => r = none ∧ M2 = (Sh0 n, z, L))) (hrc1 : ∀ (d n : Nat) (A : Nat → Nat → Int32) (L : Nat → Nat → Int64) (z : Nat → Nat → Int32), rc 1 A = some z → jEv jtab (D + d) 182 [.ref 94] (Sh0 n, A, L) 0 0 (fun r M2 => r = none ∧ M2 = (Sh0 n, z, L))) (hrc2 : ∀ (d n : Nat) (A : Nat → Nat → Int32) (L : Nat → Nat → Int64) (z : Nat → Nat → Int32), rc 2 A = some z → jEv jtab (D + d) 185 [.ref 94] (Sh0 n, A, L) 0 0 (fun r M2 => r = none ∧ M2 = (Sh0 n, z, L))) (d n : Nat) (A : Nat → Nat → Int32) (L : Nat → Nat → Int64) {z : (Nat → Nat → Int32)} (h : gX11_denied rc A = some z) : jEv jtab (D + d + 6) 182 [.ref 94] (Sh0 n, A, L) 0 0 (fun r M2 => r = none ∧ M2 = (Sh0 n, z, L)) :=
  jEv.mk (mt := mX11_denied) rfl (Nat.le_of_ble_eq_true rfl) (jWP.intro (pr := pX11_denied) (pc := 0) (tgX11_denied rc D hrc0 hrc1 hrc2 d n A L h ⟨trivial, jCn.mk ⟨rfl, rfl⟩⟩))
