/-! METHODS AS FUNCTIONS, printed by dec.py -/
set_option maxRecDepth 20000 in
theorem tcX3_firstNeeded_21 (d n : Nat) (A : Nat → Nat → Int32) (L : Nat → Nat → Int64) (l1 : Int32) (l2 : Int32) (l3 : Int32) (l4 : Int32) (s : (Int32 × (Nat → Nat → Int32))) {Q : Option Value → jM → Prop} {z : ((Int32 × (Nat → Nat → Int32)) ⊕ ((Nat → Nat → Int32) ⊕ (Int32 × (Nat → Nat → Int32))))} (h : cX3_firstNeeded_21 l1 l2 l3 l4 s = some z) (k1 : ∀ s0, z = .inl s0 → pX3_firstNeeded (jEv jtab (d + 3), jWP (jEv jtab (d + 3)) Q ((Sh0 n).length, jsl (Sh0 n)) pX3_firstNeeded, Q, ((Sh0 n).length, jsl (Sh0 n))) 21 [some (.ref 70), some (.int l1), some (.int l2), some (.int l3), some (.int l4), some (.int s0.1), none] [] (Sh0 n, s0.2, L)) (k2 : ∀ s0, z = .inr (.inl s0) → pX3_firstNeeded (jEv jtab (d + 3), jWP (jEv jtab (d + 3)) Q ((Sh0 n).length, jsl (Sh0 n)) pX3_firstNeeded, Q, ((Sh0 n).length, jsl (Sh0 n))) 63 [none, none, none, none, none, none, none] [] (Sh0 n, s0, L)) (k3 : ∀ s0, z = .inr (.inr s0) → Q (some (.int s0.1)) (Sh0 n, s0.2, L)) : pX3_firstNeeded (jEv jtab (d + 3), jWP (jEv jtab (d + 3)) Q ((Sh0 n).length, jsl (Sh0 n)) pX3_firstNeeded, Q, ((Sh0 n).length, jsl (Sh0 n))) 21 [some (.ref 70), some (.int l1), some (.int l2), some (.int l3), some (.int l4), some (.int s.1), none] [] (Sh0 n, s.2, L) := by
  unfold cX3_firstNeeded_21 at h
  refine y_mask <| x_iload rfl <| x_aload rfl <| x_getI (Nat.le_of_ble_eq_true rfl) rfl rfl <| y_cmp_ge (fun h1 => ?_) (fun h1 => ?_)
  · replace h := of_pos h h1
    refine jWP.intro (pr := pX3_firstNeeded) (pc := 63) ?_
    have hk := k2 _ (Option.some.inj h).symm
    exact hk
  · replace h := of_neg h h1
    refine jWP.intro (pr := pX3_firstNeeded) (pc := 30) ?_
    obtain ⟨r2, hc3, h⟩ := of_bind h
    refine y_mask <| x_aload rfl <| x_iload rfl <| x_iload rfl <| x_iload rfl <| x_iload rfl <| y_invV4 (Nat.le_of_ble_eq_true rfl) rfl (Nat.le_of_ble_eq_true rfl) <| jEv.exI (kX3_knowsFrom _ _ _ _ _ _ _ _ hc3) <| x_istore rfl <| x_iload rfl <| x_push <| y_cmp_eq (fun h4 => ?_) (fun h4 => ?_)
    · replace h := of_pos h h4
      refine jWP.intro (pr := pX3_firstNeeded) (pc := 54) ?_
      refine y_mask <| x_iload rfl <| y_ireturn (ls := [none, none, none, none, none, some (.int s.1), none]) ?_
      have hk := k3 _ (Option.some.inj h).symm
      exact hk
    · replace h := of_neg h h4
      refine jWP.intro (pr := pX3_firstNeeded) (pc := 47) ?_
      refine y_mask <| x_iload rfl <| x_iload rfl <| y_cmp_le (fun h5 => ?_) (fun h5 => ?_)
      · replace h := of_pos h h5
        refine jWP.intro (pr := pX3_firstNeeded) (pc := 57) ?_
        refine y_mask <| x_iinc rfl rfl <| y_mask <| y_goto ?_
        refine jWP.intro (pr := pX3_firstNeeded) (pc := 21) ?_
        have hk := k1 _ (Option.some.inj h).symm
        exact hk
      · replace h := of_neg h h5
        refine jWP.intro (pr := pX3_firstNeeded) (pc := 54) ?_
        refine y_mask <| x_iload rfl <| y_ireturn (ls := [none, none, none, none, none, some (.int s.1), none]) ?_
        have hk := k3 _ (Option.some.inj h).symm
        exact hk
set_option maxRecDepth 20000 in
theorem tfX3_firstNeeded (d n : Nat) (A : Nat → Nat → Int32) (L : Nat → Nat → Int64) (l1 : Int32) (l2 : Int32) (l3 : Int32) {Q : Option Value → jM → Prop} {z : (Int32 × (Nat → Nat → Int32))} (h : fX3_firstNeeded A l1 l2 l3 = some z) (k3 : Q (some (.int z.1)) (Sh0 n, z.2, L)) : pX3_firstNeeded (jEv jtab (d + 3), jWP (jEv jtab (d + 3)) Q ((Sh0 n).length, jsl (Sh0 n)) pX3_firstNeeded, Q, ((Sh0 n).length, jsl (Sh0 n))) 0 [some (.ref 70), some (.int l1), some (.int l2), some (.int l3), none, none, none] [] (Sh0 n, A, L) := by
  unfold fX3_firstNeeded at h
  obtain ⟨r1, hc2, h⟩ := of_bind h
  refine y_mask <| x_aload rfl <| x_iload rfl <| x_iload rfl <| x_iload rfl <| x_push <| y_invV4 (Nat.le_of_ble_eq_true rfl) rfl (Nat.le_of_ble_eq_true rfl) <| jEv.exI (kX3_knowsFrom _ _ _ _ _ _ _ _ hc2) <| x_istore rfl <| x_iload rfl <| x_push <| y_cmp_ne (fun h3 => ?_) (fun h3 => ?_)
  · replace h := of_neg h h3
    refine jWP.intro (pr := pX3_firstNeeded) (pc := 18) ?_
    refine y_mask <| x_push <| x_istore rfl <| y_mask <| y_goto ?_
    obtain ⟨e4y, hw5, h⟩ := of_bind h
    refine jWP.intro (pr := pX3_firstNeeded) (pc := 21) ?_
    refine jwh_use2 (G := (fun s0 => pX3_firstNeeded (jEv jtab (d + 3), jWP (jEv jtab (d + 3)) Q ((Sh0 n).length, jsl (Sh0 n)) pX3_firstNeeded, Q, ((Sh0 n).length, jsl (Sh0 n))) 21 [some (.ref 70), some (.int l1), some (.int l2), some (.int l3), some (.int r1.1), some (.int s0.1), none] [] (Sh0 n, s0.2, L))) (Gx := (fun s0 => pX3_firstNeeded (jEv jtab (d + 3), jWP (jEv jtab (d + 3)) Q ((Sh0 n).length, jsl (Sh0 n)) pX3_firstNeeded, Q, ((Sh0 n).length, jsl (Sh0 n))) 63 [none, none, none, none, none, none, none] [] (Sh0 n, s0, L))) (Gr := (fun s0 => Q (some (.int s0.1)) (Sh0 n, s0.2, L))) (fun s1 z1 hz kk1 kk2 kk3 => tcX3_firstNeeded_21 d n r1.2 L l1 l2 l3 r1.1 s1 hz kk1 kk2 kk3) hw5 ?_ ?_
    · intro e4 hy
      subst hy
      replace h : (some ((-1 : Int32), e4)) = some z := h
      refine y_mpri (bs := []) (ls := []) ?_
      obtain rfl := Option.some.inj h
      exact k3
    · intro s0 hy
      subst hy
      replace h : some s0 = some z := h
      obtain rfl := Option.some.inj h
      exact k3
  · replace h := of_pos h h3
    refine jWP.intro (pr := pX3_firstNeeded) (pc := 16) ?_
    refine y_mpri (bs := []) (ls := []) ?_
    obtain rfl := Option.some.inj h
    exact k3
theorem kX3_firstNeeded (d n : Nat) (A : Nat → Nat → Int32) (L : Nat → Nat → Int64) (l1 : Int32) (l2 : Int32) (l3 : Int32) {z : (Int32 × (Nat → Nat → Int32))} (h : fX3_firstNeeded A l1 l2 l3 = some z) : jEv jtab (d + 4) 30 [.ref 70, .int l1, .int l2, .int l3] (Sh0 n, A, L) 0 0 (fun r M2 => r = some (.int z.1) ∧ M2 = (Sh0 n, z.2, L)) :=
  jEv.mk (mt := mX3_firstNeeded) rfl (Nat.le_of_ble_eq_true rfl) (jWP.intro (pr := pX3_firstNeeded) (pc := 0) (tfX3_firstNeeded d n A L l1 l2 l3 h ⟨trivial, jCn.mk ⟨rfl, rfl⟩⟩))
set_option maxRecDepth 20000 in
theorem tfX10_key (d n : Nat) (A : Nat → Nat → Int32) (L : Nat → Nat → Int64) (l1 : Int32) (l2 : Int32) (l3 : Int32) {Q : Option Value → jM → Prop} {z : (Int32 × (Nat → Nat → Int32))} (h : fX10_key A l1 l2 l3 = some z) (k3 : Q (some (.int z.1)) (Sh0 n, z.2, L)) : pX10_key (jEv jtab (d + 4), jWP (jEv jtab (d + 4)) Q ((Sh0 n).length, jsl (Sh0 n)) pX10_key, Q, ((Sh0 n).length, jsl (Sh0 n))) 0 [some (.ref 15), some (.int l1), some (.int l2), some (.int l3)] [] (Sh0 n, A, L) := by
  unfold fX10_key at h
  refine y_mask <| x_iload rfl <| y_invS1 (Nat.le_of_ble_eq_true rfl) <| jEv.exZ (q := 153) rfl (kX10_isShip _ _ _ _ _) <| fun hz1 => y_if_eq (fun h2 => ?_) (fun h2 => ?_)
  · replace h := of_pos h h2
    refine jWP.intro (pr := pX10_key) (pc := 14) ?_
    refine y_mpri (bs := []) (ls := []) ?_
    obtain rfl := Option.some.inj h
    exact k3
  · replace h := of_neg h h2
    refine jWP.intro (pr := pX10_key) (pc := 7) ?_
    refine y_mask <| x_iload rfl <| y_invS1 (Nat.le_of_ble_eq_true rfl) <| jEv.exZ (q := 153) rfl (kX10_isShip _ _ _ _ _) <| fun hz3 => y_if_ne (fun h4 => ?_) (fun h4 => ?_)
    · replace h := of_neg h h4
      refine jWP.intro (pr := pX10_key) (pc := 17) ?_
      refine y_mask <| x_iload rfl <| y_invS1 (Nat.le_of_ble_eq_true rfl) <| jEv.exZ (q := 154) rfl (kX10_isDay _ _ _ _ _) <| fun hz5 => y_if_eq (fun h6 => ?_) (fun h6 => ?_)
      · replace h := of_pos h h6
        refine jWP.intro (pr := pX10_key) (pc := 37) ?_
        refine y_mask <| x_push <| y_mask <| y_goto ?_
        refine jWP.intro (pr := pX10_key) (pc := 39) ?_
        refine y_mri (bs := []) (ls := []) ?_
        obtain rfl := Option.some.inj h
        exact k3
      · replace h := of_neg h h6
        refine jWP.intro (pr := pX10_key) (pc := 24) ?_
        obtain ⟨r7, hc8, h⟩ := of_bind h
        refine y_mask <| x_aload rfl <| x_getR (Nat.le_of_ble_eq_true rfl) rfl rfl <| x_iload rfl <| x_iload rfl <| x_iload rfl <| y_invV3 (Nat.le_of_ble_eq_true rfl) rfl (Nat.le_of_ble_eq_true rfl) <| jEv.exI (kX3_firstNeeded _ _ _ _ _ _ _ hc8) <| y_mask <| y_goto ?_
        refine jWP.intro (pr := pX10_key) (pc := 39) ?_
        refine y_mri (bs := []) (ls := []) ?_
        obtain rfl := Option.some.inj h
        exact k3
    · replace h := of_pos h h4
      refine jWP.intro (pr := pX10_key) (pc := 14) ?_
      refine y_mpri (bs := []) (ls := []) ?_
      obtain rfl := Option.some.inj h
      exact k3
theorem kX10_key (d n : Nat) (A : Nat → Nat → Int32) (L : Nat → Nat → Int64) (l1 : Int32) (l2 : Int32) (l3 : Int32) {z : (Int32 × (Nat → Nat → Int32))} (h : fX10_key A l1 l2 l3 = some z) : jEv jtab (d + 5) 143 [.ref 15, .int l1, .int l2, .int l3] (Sh0 n, A, L) 0 0 (fun r M2 => r = some (.int z.1) ∧ M2 = (Sh0 n, z.2, L)) :=
  jEv.mk (mt := mX10_key) rfl (Nat.le_of_ble_eq_true rfl) (jWP.intro (pr := pX10_key) (pc := 0) (tfX10_key d n A L l1 l2 l3 h ⟨trivial, jCn.mk ⟨rfl, rfl⟩⟩))
set_option maxRecDepth 20000 in
theorem tcX6_drawnSayings_23 (d n : Nat) (A : Nat → Nat → Int32) (L : Nat → Nat → Int64) (s : (Int64 × Int32 × Int32)) {Q : Option Value → jM → Prop} {z : ((Int64 × Int32 × Int32) ⊕ Int32)} (h : cX6_drawnSayings_23 A s = some z) (k1 : ∀ s0, z = .inl s0 → pX6_drawnSayings (jEv jtab (d + 6), jWP (jEv jtab (d + 6)) Q ((Sh0 n).length, jsl (Sh0 n)) pX6_drawnSayings, Q, ((Sh0 n).length, jsl (Sh0 n))) 23 [some (.ref 16), none, some (.long s0.1), none, some (.int s0.2.1), some (.int s0.2.2)] [] (Sh0 n, A, L)) (k2 : ∀ s0, z = .inr s0 → pX6_drawnSayings (jEv jtab (d + 6), jWP (jEv jtab (d + 6)) Q ((Sh0 n).length, jsl (Sh0 n)) pX6_drawnSayings, Q, ((Sh0 n).length, jsl (Sh0 n))) 85 [none, none, none, none, some (.int s0), none] [] (Sh0 n, A, L)) : pX6_drawnSayings (jEv jtab (d + 6), jWP (jEv jtab (d + 6)) Q ((Sh0 n).length, jsl (Sh0 n)) pX6_drawnSayings, Q, ((Sh0 n).length, jsl (Sh0 n))) 23 [some (.ref 16), none, some (.long s.1), none, some (.int s.2.1), some (.int s.2.2)] [] (Sh0 n, A, L) := by
  unfold cX6_drawnSayings_23 at h
  refine y_mask <| x_iload rfl <| x_aload rfl <| x_getI (Nat.le_of_ble_eq_true rfl) rfl rfl <| y_cmp_ge (fun h1 => ?_) (fun h1 => ?_)
  · replace h := of_pos h h1
    refine jWP.intro (pr := pX6_drawnSayings) (pc := 85) ?_
    have hk := k2 _ (Option.some.inj h).symm
    exact hk
  · replace h := of_neg h h1
    refine jWP.intro (pr := pX6_drawnSayings) (pc := 32) ?_
    obtain ⟨g2, h⟩ := of_guard h
    refine y_mask <| x_aload rfl <| x_getR (Nat.le_of_ble_eq_true rfl) rfl rfl <| x_iload rfl <| x_iald rfl g2 <| x_push <| y_cmp_lt (fun h3 => ?_) (fun h3 => ?_)
    · replace h := of_pos h h3
      refine jWP.intro (pr := pX6_drawnSayings) (pc := 79) ?_
      refine y_mask <| x_iinc rfl rfl <| y_mask <| y_goto ?_
      refine jWP.intro (pr := pX6_drawnSayings) (pc := 23) ?_
      have hk := k1 _ (Option.some.inj h).symm
      exact hk
    · replace h := of_neg h h3
      refine jWP.intro (pr := pX6_drawnSayings) (pc := 43) ?_
      obtain ⟨g4, h⟩ := of_guard h
      refine y_mask <| x_lload rfl <| x_push <| x_lmul <| x_push <| x_lrem (by decide) <| x_lstore rfl <| x_lload rfl <| x_push <| x_lrem (by decide) <| x_aload rfl <| x_getR (Nat.le_of_ble_eq_true rfl) rfl rfl <| x_iload rfl <| x_iald rfl g4 <| x_i2l <| x_lcmp <| y_if_ge (fun h5 => ?_) (fun h5 => ?_)
      · replace h := of_pos h h5
        refine jWP.intro (pr := pX6_drawnSayings) (pc := 79) ?_
        refine y_mask <| x_iinc rfl rfl <| y_mask <| y_goto ?_
        refine jWP.intro (pr := pX6_drawnSayings) (pc := 23) ?_
        have hk := k1 _ (Option.some.inj h).symm
        exact hk
      · replace h := of_neg h h5
        refine jWP.intro (pr := pX6_drawnSayings) (pc := 70) ?_
        refine y_mask <| x_iload rfl <| x_push <| x_iload rfl <| x_ishl <| x_ior <| x_istore rfl <| y_mask <| y_goto ?_
        refine jWP.intro (pr := pX6_drawnSayings) (pc := 79) ?_
        refine y_mask <| x_iinc rfl rfl <| y_mask <| y_goto ?_
        refine jWP.intro (pr := pX6_drawnSayings) (pc := 23) ?_
        have hk := k1 _ (Option.some.inj h).symm
        exact hk
set_option maxRecDepth 20000 in
theorem tfX6_drawnSayings (d n : Nat) (A : Nat → Nat → Int32) (L : Nat → Nat → Int64) (l1 : Int32) {Q : Option Value → jM → Prop} {z : (Int32 × (Nat → Nat → Int32))} (h : fX6_drawnSayings A l1 = some z) (k3 : Q (some (.int z.1)) (Sh0 n, z.2, L)) : pX6_drawnSayings (jEv jtab (d + 6), jWP (jEv jtab (d + 6)) Q ((Sh0 n).length, jsl (Sh0 n)) pX6_drawnSayings, Q, ((Sh0 n).length, jsl (Sh0 n))) 0 [some (.ref 16), some (.int l1), none, none, none, none] [] (Sh0 n, A, L) := by
  unfold fX6_drawnSayings at h
  obtain ⟨r1, hc2, h⟩ := of_bind h
  refine y_mask <| x_aload rfl <| x_aload rfl <| x_getR (Nat.le_of_ble_eq_true rfl) rfl rfl <| y_invV0 (Nat.le_of_ble_eq_true rfl) rfl (Nat.le_of_ble_eq_true rfl) <| jEv.exI (kX4_near _ _ _ _) <| y_invV1 (Nat.le_of_ble_eq_true rfl) rfl (Nat.le_of_ble_eq_true rfl) <| jEv.exL (kX6_worthAsTheyCame _ _ _ _ _ hc2) <| x_pop2 rfl <| x_iload rfl <| x_push <| x_iadd <| x_i2l <| x_lstore rfl <| x_push <| x_istore rfl <| x_push <| x_istore rfl <| y_mask <| y_goto ?_
  obtain ⟨e3, hw4, h⟩ := of_bind h
  refine jWP.intro (pr := pX6_drawnSayings) (pc := 23) ?_
  refine jwh_use (G := (fun s0 => pX6_drawnSayings (jEv jtab (d + 6), jWP (jEv jtab (d + 6)) Q ((Sh0 n).length, jsl (Sh0 n)) pX6_drawnSayings, Q, ((Sh0 n).length, jsl (Sh0 n))) 23 [some (.ref 16), none, some (.long s0.1), none, some (.int s0.2.1), some (.int s0.2.2)] [] (Sh0 n, r1.2, L))) (Gx := (fun s0 => pX6_drawnSayings (jEv jtab (d + 6), jWP (jEv jtab (d + 6)) Q ((Sh0 n).length, jsl (Sh0 n)) pX6_drawnSayings, Q, ((Sh0 n).length, jsl (Sh0 n))) 85 [none, none, none, none, some (.int s0), none] [] (Sh0 n, r1.2, L))) (fun s1 z1 hz kk1 kk2 => tcX6_drawnSayings_23 d n r1.2 L s1 hz kk1 kk2) hw4 ?_
  refine y_mask <| x_iload rfl <| y_ireturn (ls := [none, none, none, none, some (.int e3), none]) ?_
  obtain rfl := Option.some.inj h
  exact k3
theorem kX6_drawnSayings (d n : Nat) (A : Nat → Nat → Int32) (L : Nat → Nat → Int64) (l1 : Int32) {z : (Int32 × (Nat → Nat → Int32))} (h : fX6_drawnSayings A l1 = some z) : jEv jtab (d + 7) 78 [.ref 16, .int l1] (Sh0 n, A, L) 0 0 (fun r M2 => r = some (.int z.1) ∧ M2 = (Sh0 n, z.2, L)) :=
  jEv.mk (mt := mX6_drawnSayings) rfl (Nat.le_of_ble_eq_true rfl) (jWP.intro (pr := pX6_drawnSayings) (pc := 0) (tfX6_drawnSayings d n A L l1 h ⟨trivial, jCn.mk ⟨rfl, rfl⟩⟩))
set_option maxRecDepth 20000 in
theorem tcX6_thingsOf_4 (d n : Nat) (A : Nat → Nat → Int32) (L : Nat → Nat → Int64) (l1 : Int32) (s : (Int32 × Int32)) {Q : Option Value → jM → Prop} {z : ((Int32 × Int32) ⊕ Int32)} (h : cX6_thingsOf_4 A l1 s = some z) (k1 : ∀ s0, z = .inl s0 → pX6_thingsOf (jEv jtab (d + 0), jWP (jEv jtab (d + 0)) Q ((Sh0 n).length, jsl (Sh0 n)) pX6_thingsOf, Q, ((Sh0 n).length, jsl (Sh0 n))) 4 [some (.ref 16), some (.int l1), some (.int s0.1), some (.int s0.2)] [] (Sh0 n, A, L)) (k2 : ∀ s0, z = .inr s0 → pX6_thingsOf (jEv jtab (d + 0), jWP (jEv jtab (d + 0)) Q ((Sh0 n).length, jsl (Sh0 n)) pX6_thingsOf, Q, ((Sh0 n).length, jsl (Sh0 n))) 37 [none, none, some (.int s0), none] [] (Sh0 n, A, L)) : pX6_thingsOf (jEv jtab (d + 0), jWP (jEv jtab (d + 0)) Q ((Sh0 n).length, jsl (Sh0 n)) pX6_thingsOf, Q, ((Sh0 n).length, jsl (Sh0 n))) 4 [some (.ref 16), some (.int l1), some (.int s.1), some (.int s.2)] [] (Sh0 n, A, L) := by
  unfold cX6_thingsOf_4 at h
  refine y_mask <| x_iload rfl <| x_aload rfl <| x_getI (Nat.le_of_ble_eq_true rfl) rfl rfl <| y_cmp_ge (fun h1 => ?_) (fun h1 => ?_)
  · replace h := of_pos h h1
    refine jWP.intro (pr := pX6_thingsOf) (pc := 37) ?_
    have hk := k2 _ (Option.some.inj h).symm
    exact hk
  · replace h := of_neg h h1
    refine jWP.intro (pr := pX6_thingsOf) (pc := 12) ?_
    refine y_mask <| x_iload rfl <| x_iload rfl <| x_ishr <| x_push <| x_iand <| y_if_eq (fun h2 => ?_) (fun h2 => ?_)
    · replace h := of_pos h h2
      refine jWP.intro (pr := pX6_thingsOf) (pc := 31) ?_
      refine y_mask <| x_iinc rfl rfl <| y_mask <| y_goto ?_
      refine jWP.intro (pr := pX6_thingsOf) (pc := 4) ?_
      have hk := k1 _ (Option.some.inj h).symm
      exact hk
    · replace h := of_neg h h2
      refine jWP.intro (pr := pX6_thingsOf) (pc := 20) ?_
      obtain ⟨g3, h⟩ := of_guard h
      refine y_mask <| x_iload rfl <| x_push <| x_aload rfl <| x_getR (Nat.le_of_ble_eq_true rfl) rfl rfl <| x_iload rfl <| x_iald rfl g3 <| x_ishl <| x_ior <| x_istore rfl <| y_mask <| y_goto ?_
      refine jWP.intro (pr := pX6_thingsOf) (pc := 31) ?_
      refine y_mask <| x_iinc rfl rfl <| y_mask <| y_goto ?_
      refine jWP.intro (pr := pX6_thingsOf) (pc := 4) ?_
      have hk := k1 _ (Option.some.inj h).symm
      exact hk
set_option maxRecDepth 20000 in
theorem tfX6_thingsOf (d n : Nat) (A : Nat → Nat → Int32) (L : Nat → Nat → Int64) (l1 : Int32) {Q : Option Value → jM → Prop} {z : Int32} (h : fX6_thingsOf A l1 = some z) (k3 : Q (some (.int z)) (Sh0 n, A, L)) : pX6_thingsOf (jEv jtab (d + 0), jWP (jEv jtab (d + 0)) Q ((Sh0 n).length, jsl (Sh0 n)) pX6_thingsOf, Q, ((Sh0 n).length, jsl (Sh0 n))) 0 [some (.ref 16), some (.int l1), none, none] [] (Sh0 n, A, L) := by
  unfold fX6_thingsOf at h
  refine y_mask <| x_push <| x_istore rfl <| x_push <| x_istore rfl <| y_mask <| y_goto ?_
  obtain ⟨e1, hw2, h⟩ := of_bind h
  refine jWP.intro (pr := pX6_thingsOf) (pc := 4) ?_
  refine jwh_use (G := (fun s0 => pX6_thingsOf (jEv jtab (d + 0), jWP (jEv jtab (d + 0)) Q ((Sh0 n).length, jsl (Sh0 n)) pX6_thingsOf, Q, ((Sh0 n).length, jsl (Sh0 n))) 4 [some (.ref 16), some (.int l1), some (.int s0.1), some (.int s0.2)] [] (Sh0 n, A, L))) (Gx := (fun s0 => pX6_thingsOf (jEv jtab (d + 0), jWP (jEv jtab (d + 0)) Q ((Sh0 n).length, jsl (Sh0 n)) pX6_thingsOf, Q, ((Sh0 n).length, jsl (Sh0 n))) 37 [none, none, some (.int s0), none] [] (Sh0 n, A, L))) (fun s1 z1 hz kk1 kk2 => tcX6_thingsOf_4 d n A L l1 s1 hz kk1 kk2) hw2 ?_
  refine y_mask <| x_iload rfl <| y_ireturn (ls := [none, none, some (.int e1), none]) ?_
  obtain rfl := Option.some.inj h
  exact k3
theorem kX6_thingsOf (d n : Nat) (A : Nat → Nat → Int32) (L : Nat → Nat → Int64) (l1 : Int32) {z : Int32} (h : fX6_thingsOf A l1 = some z) : jEv jtab (d + 1) 79 [.ref 16, .int l1] (Sh0 n, A, L) 0 0 (fun r M2 => r = some (.int z) ∧ M2 = (Sh0 n, A, L)) :=
  jEv.mk (mt := mX6_thingsOf) rfl (Nat.le_of_ble_eq_true rfl) (jWP.intro (pr := pX6_thingsOf) (pc := 0) (tfX6_thingsOf d n A L l1 h ⟨trivial, jCn.mk ⟨rfl, rfl⟩⟩))
set_option maxRecDepth 20000 in
theorem tcX4_worthOf_4 (d n : Nat) (A : Nat → Nat → Int32) (L : Nat → Nat → Int64) (l1 : Int32) (s : (Int32 × Int32)) {Q : Option Value → jM → Prop} {z : ((Int32 × Int32) ⊕ Int32)} (h : cX4_worthOf_4 A l1 s = some z) (k1 : ∀ s0, z = .inl s0 → pX4_worthOf (jEv jtab (d + 0), jWP (jEv jtab (d + 0)) Q ((Sh0 n).length, jsl (Sh0 n)) pX4_worthOf, Q, ((Sh0 n).length, jsl (Sh0 n))) 4 [some (.ref 17), some (.int l1), some (.int s0.1), some (.int s0.2)] [] (Sh0 n, A, L)) (k2 : ∀ s0, z = .inr s0 → pX4_worthOf (jEv jtab (d + 0), jWP (jEv jtab (d + 0)) Q ((Sh0 n).length, jsl (Sh0 n)) pX4_worthOf, Q, ((Sh0 n).length, jsl (Sh0 n))) 33 [none, none, some (.int s0), none] [] (Sh0 n, A, L)) : pX4_worthOf (jEv jtab (d + 0), jWP (jEv jtab (d + 0)) Q ((Sh0 n).length, jsl (Sh0 n)) pX4_worthOf, Q, ((Sh0 n).length, jsl (Sh0 n))) 4 [some (.ref 17), some (.int l1), some (.int s.1), some (.int s.2)] [] (Sh0 n, A, L) := by
  unfold cX4_worthOf_4 at h
  refine y_mask <| x_iload rfl <| x_push <| y_cmp_ge (fun h1 => ?_) (fun h1 => ?_)
  · replace h := of_pos h h1
    refine jWP.intro (pr := pX4_worthOf) (pc := 33) ?_
    have hk := k2 _ (Option.some.inj h).symm
    exact hk
  · replace h := of_neg h h1
    refine jWP.intro (pr := pX4_worthOf) (pc := 10) ?_
    refine y_mask <| x_iload rfl <| x_iload rfl <| x_ishr <| x_push <| x_iand <| y_if_eq (fun h2 => ?_) (fun h2 => ?_)
    · replace h := of_pos h h2
      refine jWP.intro (pr := pX4_worthOf) (pc := 27) ?_
      refine y_mask <| x_iinc rfl rfl <| y_mask <| y_goto ?_
      refine jWP.intro (pr := pX4_worthOf) (pc := 4) ?_
      have hk := k1 _ (Option.some.inj h).symm
      exact hk
    · replace h := of_neg h h2
      refine jWP.intro (pr := pX4_worthOf) (pc := 18) ?_
      obtain ⟨g3, h⟩ := of_guard h
      refine y_mask <| x_iload rfl <| x_aload rfl <| x_getR (Nat.le_of_ble_eq_true rfl) rfl rfl <| x_iload rfl <| x_iald rfl g3 <| x_iadd <| x_istore rfl <| y_mask <| y_goto ?_
      refine jWP.intro (pr := pX4_worthOf) (pc := 27) ?_
      refine y_mask <| x_iinc rfl rfl <| y_mask <| y_goto ?_
      refine jWP.intro (pr := pX4_worthOf) (pc := 4) ?_
      have hk := k1 _ (Option.some.inj h).symm
      exact hk
set_option maxRecDepth 20000 in
theorem tfX4_worthOf (d n : Nat) (A : Nat → Nat → Int32) (L : Nat → Nat → Int64) (l1 : Int32) {Q : Option Value → jM → Prop} {z : Int32} (h : fX4_worthOf A l1 = some z) (k3 : Q (some (.int z)) (Sh0 n, A, L)) : pX4_worthOf (jEv jtab (d + 0), jWP (jEv jtab (d + 0)) Q ((Sh0 n).length, jsl (Sh0 n)) pX4_worthOf, Q, ((Sh0 n).length, jsl (Sh0 n))) 0 [some (.ref 17), some (.int l1), none, none] [] (Sh0 n, A, L) := by
  unfold fX4_worthOf at h
  refine y_mask <| x_push <| x_istore rfl <| x_push <| x_istore rfl <| y_mask <| y_goto ?_
  obtain ⟨e1, hw2, h⟩ := of_bind h
  refine jWP.intro (pr := pX4_worthOf) (pc := 4) ?_
  refine jwh_use (G := (fun s0 => pX4_worthOf (jEv jtab (d + 0), jWP (jEv jtab (d + 0)) Q ((Sh0 n).length, jsl (Sh0 n)) pX4_worthOf, Q, ((Sh0 n).length, jsl (Sh0 n))) 4 [some (.ref 17), some (.int l1), some (.int s0.1), some (.int s0.2)] [] (Sh0 n, A, L))) (Gx := (fun s0 => pX4_worthOf (jEv jtab (d + 0), jWP (jEv jtab (d + 0)) Q ((Sh0 n).length, jsl (Sh0 n)) pX4_worthOf, Q, ((Sh0 n).length, jsl (Sh0 n))) 33 [none, none, some (.int s0), none] [] (Sh0 n, A, L))) (fun s1 z1 hz kk1 kk2 => tcX4_worthOf_4 d n A L l1 s1 hz kk1 kk2) hw2 ?_
  refine y_mask <| x_iload rfl <| y_ireturn (ls := [none, none, some (.int e1), none]) ?_
  obtain rfl := Option.some.inj h
  exact k3
theorem kX4_worthOf (d n : Nat) (A : Nat → Nat → Int32) (L : Nat → Nat → Int64) (l1 : Int32) {z : Int32} (h : fX4_worthOf A l1 = some z) : jEv jtab (d + 1) 40 [.ref 17, .int l1] (Sh0 n, A, L) 0 0 (fun r M2 => r = some (.int z) ∧ M2 = (Sh0 n, A, L)) :=
  jEv.mk (mt := mX4_worthOf) rfl (Nat.le_of_ble_eq_true rfl) (jWP.intro (pr := pX4_worthOf) (pc := 0) (tfX4_worthOf d n A L l1 h ⟨trivial, jCn.mk ⟨rfl, rfl⟩⟩))
set_option maxRecDepth 20000 in
theorem tfX10_drawn (d n : Nat) (A : Nat → Nat → Int32) (L : Nat → Nat → Int64) (l1 : Int32) (l2 : Int32) {Q : Option Value → jM → Prop} {z : (Int32 × (Nat → Nat → Int32))} (h : fX10_drawn A l1 l2 = some z) (k3 : Q (some (.int z.1)) (Sh0 n, z.2, L)) : pX10_drawn (jEv jtab (d + 7), jWP (jEv jtab (d + 7)) Q ((Sh0 n).length, jsl (Sh0 n)) pX10_drawn, Q, ((Sh0 n).length, jsl (Sh0 n))) 0 [some (.ref 15), some (.int l1), some (.int l2), none, none] [] (Sh0 n, A, L) := by
  unfold fX10_drawn at h
  refine y_mask <| x_iload rfl <| x_push <| x_push <| y_invS3 (Nat.le_of_ble_eq_true rfl) <| jEv.exZ (q := 152) rfl (kX10_within _ _ _ _ _ _ _) <| fun hz1 => y_if_eq (fun h2 => ?_) (fun h2 => ?_)
  · replace h := of_pos h h2
    refine jWP.intro (pr := pX10_drawn) (pc := 20) ?_
    refine y_mpri (bs := []) (ls := []) ?_
    obtain rfl := Option.some.inj h
    exact k3
  · replace h := of_neg h h2
    refine jWP.intro (pr := pX10_drawn) (pc := 11) ?_
    refine y_mask <| x_iload rfl <| x_push <| x_push <| y_invS3 (Nat.le_of_ble_eq_true rfl) <| jEv.exZ (q := 152) rfl (kX10_within _ _ _ _ _ _ _) <| fun hz3 => y_if_ne (fun h4 => ?_) (fun h4 => ?_)
    · replace h := of_neg h h4
      refine jWP.intro (pr := pX10_drawn) (pc := 23) ?_
      obtain ⟨r5, hc6, h⟩ := of_bind h
      refine y_mask <| x_aload rfl <| x_getR (Nat.le_of_ble_eq_true rfl) rfl rfl <| x_iload rfl <| y_invV1 (Nat.le_of_ble_eq_true rfl) rfl (Nat.le_of_ble_eq_true rfl) <| jEv.exI (kX6_drawnSayings _ _ _ _ _ hc6) <| x_istore rfl <| x_iload rfl <| x_push <| y_cmp_ne (fun h7 => ?_) (fun h7 => ?_)
      · replace h := of_neg h h7
        refine jWP.intro (pr := pX10_drawn) (pc := 39) ?_
        obtain ⟨r8, hc9, h⟩ := of_bind h
        refine y_mask <| x_aload rfl <| x_getR (Nat.le_of_ble_eq_true rfl) rfl rfl <| x_iload rfl <| y_invV1 (Nat.le_of_ble_eq_true rfl) rfl (Nat.le_of_ble_eq_true rfl) <| jEv.exI (kX6_thingsOf _ _ _ _ _ hc9) <| x_istore rfl <| x_iload rfl <| y_if_ne (fun h10 => ?_) (fun h10 => ?_)
        · replace h := of_neg h h10
          refine jWP.intro (pr := pX10_drawn) (pc := 58) ?_
          obtain ⟨r11, hc12, h⟩ := of_bind h
          refine y_mask <| x_aload rfl <| x_getR (Nat.le_of_ble_eq_true rfl) rfl rfl <| x_getR (Nat.le_of_ble_eq_true rfl) rfl rfl <| x_iload rfl <| y_invV1 (Nat.le_of_ble_eq_true rfl) rfl (Nat.le_of_ble_eq_true rfl) <| jEv.exI (kX4_worthOf _ _ _ _ _ hc12) <| y_mask <| y_goto ?_
          refine jWP.intro (pr := pX10_drawn) (pc := 70) ?_
          refine y_mri (bs := []) (ls := []) ?_
          obtain rfl := Option.some.inj h
          exact k3
        · replace h := of_pos h h10
          refine jWP.intro (pr := pX10_drawn) (pc := 53) ?_
          refine y_mask <| x_iload rfl <| y_mask <| y_goto ?_
          refine jWP.intro (pr := pX10_drawn) (pc := 70) ?_
          refine y_mri (bs := []) (ls := []) ?_
          obtain rfl := Option.some.inj h
          exact k3
      · replace h := of_pos h h7
        refine jWP.intro (pr := pX10_drawn) (pc := 37) ?_
        refine y_mask <| x_iload rfl <| y_ireturn (ls := [none, none, none, some (.int r5.1), none]) ?_
        obtain rfl := Option.some.inj h
        exact k3
    · replace h := of_pos h h4
      refine jWP.intro (pr := pX10_drawn) (pc := 20) ?_
      refine y_mpri (bs := []) (ls := []) ?_
      obtain rfl := Option.some.inj h
      exact k3
theorem kX10_drawn (d n : Nat) (A : Nat → Nat → Int32) (L : Nat → Nat → Int64) (l1 : Int32) (l2 : Int32) {z : (Int32 × (Nat → Nat → Int32))} (h : fX10_drawn A l1 l2 = some z) : jEv jtab (d + 8) 144 [.ref 15, .int l1, .int l2] (Sh0 n, A, L) 0 0 (fun r M2 => r = some (.int z.1) ∧ M2 = (Sh0 n, z.2, L)) :=
  jEv.mk (mt := mX10_drawn) rfl (Nat.le_of_ble_eq_true rfl) (jWP.intro (pr := pX10_drawn) (pc := 0) (tfX10_drawn d n A L l1 l2 h ⟨trivial, jCn.mk ⟨rfl, rfl⟩⟩))
set_option maxRecDepth 20000 in
theorem tfX4_becomeLike (d n : Nat) (A : Nat → Nat → Int32) (L : Nat → Nat → Int64) {Q : Option Value → jM → Prop} {z : (Nat → Nat → Int32)} (h : fX4_becomeLike A = some z) (k3 : Q (none) (Sh0 n, z, L)) : pX4_becomeLike (jEv jtab (d + 0), jWP (jEv jtab (d + 0)) Q ((Sh0 n).length, jsl (Sh0 n)) pX4_becomeLike, Q, ((Sh0 n).length, jsl (Sh0 n))) 0 [some (.ref 84), some (.ref 17)] [] (Sh0 n, A, L) := by
  unfold fX4_becomeLike at h
  obtain ⟨g1, h⟩ := of_guard h
  obtain ⟨m2, hm3, h⟩ := of_bind h
  obtain ⟨g4, h⟩ := of_guard h
  obtain ⟨m5, hm6, h⟩ := of_bind h
  refine y_mask <| x_aload rfl <| x_getR (Nat.le_of_ble_eq_true rfl) rfl rfl <| x_push <| x_aload rfl <| x_getR (Nat.le_of_ble_eq_true rfl) rfl rfl <| x_push <| x_push <| x_copy (Nat.le_of_ble_eq_true rfl) rfl rfl g1.1 g1.2.1 g1.2.2.1 g1.2.2.2.1 g1.2.2.2.2 (Nat.le_of_ble_eq_true rfl) <| y_let (Option.some.inj hm3) <| x_aload rfl <| x_getR (Nat.le_of_ble_eq_true rfl) rfl rfl <| x_push <| x_aload rfl <| x_getR (Nat.le_of_ble_eq_true rfl) rfl rfl <| x_push <| x_push <| x_copy (Nat.le_of_ble_eq_true rfl) rfl rfl g4.1 g4.2.1 g4.2.2.1 g4.2.2.2.1 g4.2.2.2.2 (Nat.le_of_ble_eq_true rfl) <| y_let (Option.some.inj hm6) <| x_aload rfl <| x_aload rfl <| x_getI (Nat.le_of_ble_eq_true rfl) rfl rfl <| x_putI (Nat.le_of_ble_eq_true rfl) rfl rfl <| y_return (ls := [some (.ref 84), some (.ref 17)]) ?_
  obtain rfl := Option.some.inj h
  exact k3
theorem kX4_becomeLike (d n : Nat) (A : Nat → Nat → Int32) (L : Nat → Nat → Int64) {z : (Nat → Nat → Int32)} (h : fX4_becomeLike A = some z) : jEv jtab (d + 1) 32 [.ref 84, .ref 17] (Sh0 n, A, L) 0 0 (fun r M2 => r = none ∧ M2 = (Sh0 n, z, L)) :=
  jEv.mk (mt := mX4_becomeLike) rfl (Nat.le_of_ble_eq_true rfl) (jWP.intro (pr := pX4_becomeLike) (pc := 0) (tfX4_becomeLike d n A L h ⟨trivial, jCn.mk ⟨rfl, rfl⟩⟩))
set_option maxRecDepth 20000 in
theorem tcX1_copyTaken_2 (d n : Nat) (A : Nat → Nat → Int32) (L : Nat → Nat → Int64) (s : (Int32 × (Nat → Nat → Int32))) {Q : Option Value → jM → Prop} {z : ((Int32 × (Nat → Nat → Int32)) ⊕ (Nat → Nat → Int32))} (h : cX1_copyTaken_2 s = some z) (k1 : ∀ s0, z = .inl s0 → pX1_copyTaken (jEv jtab (d + 0), jWP (jEv jtab (d + 0)) Q ((Sh0 n).length, jsl (Sh0 n)) pX1_copyTaken, Q, ((Sh0 n).length, jsl (Sh0 n))) 2 [some (.ref 83), some (.ref 56), some (.ref 87), some (.int s0.1)] [] (Sh0 n, s0.2, L)) (k2 : ∀ s0, z = .inr s0 → pX1_copyTaken (jEv jtab (d + 0), jWP (jEv jtab (d + 0)) Q ((Sh0 n).length, jsl (Sh0 n)) pX1_copyTaken, Q, ((Sh0 n).length, jsl (Sh0 n))) 31 [none, none, none, none] [] (Sh0 n, s0, L)) : pX1_copyTaken (jEv jtab (d + 0), jWP (jEv jtab (d + 0)) Q ((Sh0 n).length, jsl (Sh0 n)) pX1_copyTaken, Q, ((Sh0 n).length, jsl (Sh0 n))) 2 [some (.ref 83), some (.ref 56), some (.ref 87), some (.int s.1)] [] (Sh0 n, s.2, L) := by
  unfold cX1_copyTaken_2 at h
  refine y_mask <| x_iload rfl <| x_aload rfl <| x_getI (Nat.le_of_ble_eq_true rfl) rfl rfl <| y_cmp_ge (fun h1 => ?_) (fun h1 => ?_)
  · replace h := of_pos h h1
    refine jWP.intro (pr := pX1_copyTaken) (pc := 31) ?_
    have hk := k2 _ (Option.some.inj h).symm
    exact hk
  · replace h := of_neg h h1
    refine jWP.intro (pr := pX1_copyTaken) (pc := 10) ?_
    obtain ⟨g2, h⟩ := of_guard h
    obtain ⟨g4, h⟩ := of_guard h
    obtain ⟨g6, h⟩ := of_guard h
    obtain ⟨m7, hm8, h⟩ := of_bind h
    refine y_mask <| x_aload rfl <| x_iload rfl <| x_row (Nat.le_of_ble_eq_true rfl) rfl g2 <| fun hr3 => x_push <| x_aload rfl <| x_iload rfl <| x_row (Nat.le_of_ble_eq_true rfl) rfl g4 <| fun hr5 => x_push <| x_aload rfl <| x_getI (Nat.le_of_ble_eq_true rfl) rfl rfl <| x_copy (rowle (Nat.le_of_ble_eq_true rfl)) (rows_56 (vp_lt g2)) (rows_87 (vp_lt g4)) g6.1 g6.2.1 g6.2.2.1 g6.2.2.2.1 g6.2.2.2.2 (Nat.le_of_ble_eq_true rfl) <| y_let (Option.some.inj hm8) <| x_iinc rfl rfl <| y_mask <| y_goto ?_
    refine jWP.intro (pr := pX1_copyTaken) (pc := 2) ?_
    have hk := k1 _ (Option.some.inj h).symm
    exact hk
set_option maxRecDepth 20000 in
theorem tfX1_copyTaken (d n : Nat) (A : Nat → Nat → Int32) (L : Nat → Nat → Int64) {Q : Option Value → jM → Prop} {z : (Nat → Nat → Int32)} (h : fX1_copyTaken A = some z) (k3 : Q (none) (Sh0 n, z, L)) : pX1_copyTaken (jEv jtab (d + 0), jWP (jEv jtab (d + 0)) Q ((Sh0 n).length, jsl (Sh0 n)) pX1_copyTaken, Q, ((Sh0 n).length, jsl (Sh0 n))) 0 [some (.ref 83), some (.ref 56), some (.ref 87), none] [] (Sh0 n, A, L) := by
  unfold fX1_copyTaken at h
  refine y_mask <| x_push <| x_istore rfl <| y_mask <| y_goto ?_
  obtain ⟨e1, hw2, h⟩ := of_bind h
  refine jWP.intro (pr := pX1_copyTaken) (pc := 2) ?_
  refine jwh_use (G := (fun s0 => pX1_copyTaken (jEv jtab (d + 0), jWP (jEv jtab (d + 0)) Q ((Sh0 n).length, jsl (Sh0 n)) pX1_copyTaken, Q, ((Sh0 n).length, jsl (Sh0 n))) 2 [some (.ref 83), some (.ref 56), some (.ref 87), some (.int s0.1)] [] (Sh0 n, s0.2, L))) (Gx := (fun s0 => pX1_copyTaken (jEv jtab (d + 0), jWP (jEv jtab (d + 0)) Q ((Sh0 n).length, jsl (Sh0 n)) pX1_copyTaken, Q, ((Sh0 n).length, jsl (Sh0 n))) 31 [none, none, none, none] [] (Sh0 n, s0, L))) (fun s1 z1 hz kk1 kk2 => tcX1_copyTaken_2 d n A L s1 hz kk1 kk2) hw2 ?_
  refine y_mrv (bs := []) (ls := []) ?_
  obtain rfl := Option.some.inj h
  exact k3
theorem kX1_copyTaken (d n : Nat) (A : Nat → Nat → Int32) (L : Nat → Nat → Int64) {z : (Nat → Nat → Int32)} (h : fX1_copyTaken A = some z) : jEv jtab (d + 1) 18 [.ref 83, .ref 56, .ref 87] (Sh0 n, A, L) 0 0 (fun r M2 => r = none ∧ M2 = (Sh0 n, z, L)) :=
  jEv.mk (mt := mX1_copyTaken) rfl (Nat.le_of_ble_eq_true rfl) (jWP.intro (pr := pX1_copyTaken) (pc := 0) (tfX1_copyTaken d n A L h ⟨trivial, jCn.mk ⟨rfl, rfl⟩⟩))
set_option maxRecDepth 20000 in
theorem tfX1_keep (d n : Nat) (A : Nat → Nat → Int32) (L : Nat → Nat → Int64) {Q : Option Value → jM → Prop} {z : (Nat → Nat → Int32)} (h : fX1_keep A = some z) (k3 : Q (none) (Sh0 n, z, L)) : pX1_keep (jEv jtab (d + 1), jWP (jEv jtab (d + 1)) Q ((Sh0 n).length, jsl (Sh0 n)) pX1_keep, Q, ((Sh0 n).length, jsl (Sh0 n))) 0 [some (.ref 83), some (.ref 17), some (.ref 54)] [] (Sh0 n, A, L) := by
  unfold fX1_keep at h
  obtain ⟨r1, hc2, h⟩ := of_bind h
  obtain ⟨r3, hc4, h⟩ := of_bind h
  refine y_mask <| x_aload rfl <| x_getR (Nat.le_of_ble_eq_true rfl) rfl rfl <| x_aload rfl <| y_invV1 (Nat.le_of_ble_eq_true rfl) rfl (Nat.le_of_ble_eq_true rfl) <| jEv.exV (kX4_becomeLike _ _ _ _ hc2) <| x_aload rfl <| x_aload rfl <| x_getI (Nat.le_of_ble_eq_true rfl) rfl rfl <| x_putI (Nat.le_of_ble_eq_true rfl) rfl rfl <| x_aload rfl <| x_aload rfl <| x_getR (Nat.le_of_ble_eq_true rfl) rfl rfl <| x_aload rfl <| x_getR (Nat.le_of_ble_eq_true rfl) rfl rfl <| y_invV2 (Nat.le_of_ble_eq_true rfl) rfl (Nat.le_of_ble_eq_true rfl) <| jEv.exV (kX1_copyTaken _ _ _ _ hc4) <| x_aload rfl <| x_push <| x_putZ (Nat.le_of_ble_eq_true rfl) rfl rfl (by decide) <| y_return (ls := [some (.ref 83), some (.ref 17), some (.ref 54)]) ?_
  obtain rfl := Option.some.inj h
  exact k3
theorem kX1_keep (d n : Nat) (A : Nat → Nat → Int32) (L : Nat → Nat → Int64) {z : (Nat → Nat → Int32)} (h : fX1_keep A = some z) : jEv jtab (d + 2) 16 [.ref 83, .ref 17, .ref 54] (Sh0 n, A, L) 0 0 (fun r M2 => r = none ∧ M2 = (Sh0 n, z, L)) :=
  jEv.mk (mt := mX1_keep) rfl (Nat.le_of_ble_eq_true rfl) (jWP.intro (pr := pX1_keep) (pc := 0) (tfX1_keep d n A L h ⟨trivial, jCn.mk ⟨rfl, rfl⟩⟩))
set_option maxRecDepth 20000 in
theorem tfX10_image (d n : Nat) (A : Nat → Nat → Int32) (L : Nat → Nat → Int64) {Q : Option Value → jM → Prop} {z : (Int32 × (Nat → Nat → Int32))} (h : fX10_image A = some z) (k3 : Q (some (.int z.1)) (Sh0 n, z.2, L)) : pX10_image (jEv jtab (d + 2), jWP (jEv jtab (d + 2)) Q ((Sh0 n).length, jsl (Sh0 n)) pX10_image, Q, ((Sh0 n).length, jsl (Sh0 n))) 0 [some (.ref 15)] [] (Sh0 n, A, L) := by
  unfold fX10_image at h
  obtain ⟨r1, hc2, h⟩ := of_bind h
  refine y_mask <| x_aload rfl <| x_getR (Nat.le_of_ble_eq_true rfl) rfl rfl <| x_aload rfl <| x_getR (Nat.le_of_ble_eq_true rfl) rfl rfl <| x_getR (Nat.le_of_ble_eq_true rfl) rfl rfl <| x_aload rfl <| x_getR (Nat.le_of_ble_eq_true rfl) rfl rfl <| y_invV2 (Nat.le_of_ble_eq_true rfl) rfl (Nat.le_of_ble_eq_true rfl) <| jEv.exV (kX1_keep _ _ _ _ hc2) <| x_aload rfl <| x_getR (Nat.le_of_ble_eq_true rfl) rfl rfl <| x_getI (Nat.le_of_ble_eq_true rfl) rfl rfl <| y_ireturn (ls := [some (.ref 15)]) ?_
  obtain rfl := Option.some.inj h
  exact k3
theorem kX10_image (d n : Nat) (A : Nat → Nat → Int32) (L : Nat → Nat → Int64) {z : (Int32 × (Nat → Nat → Int32))} (h : fX10_image A = some z) : jEv jtab (d + 3) 145 [.ref 15] (Sh0 n, A, L) 0 0 (fun r M2 => r = some (.int z.1) ∧ M2 = (Sh0 n, z.2, L)) :=
  jEv.mk (mt := mX10_image) rfl (Nat.le_of_ble_eq_true rfl) (jWP.intro (pr := pX10_image) (pc := 0) (tfX10_image d n A L h ⟨trivial, jCn.mk ⟨rfl, rfl⟩⟩))
set_option maxRecDepth 20000 in
theorem tfX4_becomeLike_v2 (d n : Nat) (A : Nat → Nat → Int32) (L : Nat → Nat → Int64) {Q : Option Value → jM → Prop} {z : (Nat → Nat → Int32)} (h : fX4_becomeLike_v2 A = some z) (k3 : Q (none) (Sh0 n, z, L)) : pX4_becomeLike (jEv jtab (d + 0), jWP (jEv jtab (d + 0)) Q ((Sh0 n).length, jsl (Sh0 n)) pX4_becomeLike, Q, ((Sh0 n).length, jsl (Sh0 n))) 0 [some (.ref 17), some (.ref 84)] [] (Sh0 n, A, L) := by
  unfold fX4_becomeLike_v2 at h
  obtain ⟨g1, h⟩ := of_guard h
  obtain ⟨m2, hm3, h⟩ := of_bind h
  obtain ⟨g4, h⟩ := of_guard h
  obtain ⟨m5, hm6, h⟩ := of_bind h
  refine y_mask <| x_aload rfl <| x_getR (Nat.le_of_ble_eq_true rfl) rfl rfl <| x_push <| x_aload rfl <| x_getR (Nat.le_of_ble_eq_true rfl) rfl rfl <| x_push <| x_push <| x_copy (Nat.le_of_ble_eq_true rfl) rfl rfl g1.1 g1.2.1 g1.2.2.1 g1.2.2.2.1 g1.2.2.2.2 (Nat.le_of_ble_eq_true rfl) <| y_let (Option.some.inj hm3) <| x_aload rfl <| x_getR (Nat.le_of_ble_eq_true rfl) rfl rfl <| x_push <| x_aload rfl <| x_getR (Nat.le_of_ble_eq_true rfl) rfl rfl <| x_push <| x_push <| x_copy (Nat.le_of_ble_eq_true rfl) rfl rfl g4.1 g4.2.1 g4.2.2.1 g4.2.2.2.1 g4.2.2.2.2 (Nat.le_of_ble_eq_true rfl) <| y_let (Option.some.inj hm6) <| x_aload rfl <| x_aload rfl <| x_getI (Nat.le_of_ble_eq_true rfl) rfl rfl <| x_putI (Nat.le_of_ble_eq_true rfl) rfl rfl <| y_return (ls := [some (.ref 17), some (.ref 84)]) ?_
  obtain rfl := Option.some.inj h
  exact k3
theorem kX4_becomeLike_v2 (d n : Nat) (A : Nat → Nat → Int32) (L : Nat → Nat → Int64) {z : (Nat → Nat → Int32)} (h : fX4_becomeLike_v2 A = some z) : jEv jtab (d + 1) 32 [.ref 17, .ref 84] (Sh0 n, A, L) 0 0 (fun r M2 => r = none ∧ M2 = (Sh0 n, z, L)) :=
  jEv.mk (mt := mX4_becomeLike) rfl (Nat.le_of_ble_eq_true rfl) (jWP.intro (pr := pX4_becomeLike) (pc := 0) (tfX4_becomeLike_v2 d n A L h ⟨trivial, jCn.mk ⟨rfl, rfl⟩⟩))
set_option maxRecDepth 20000 in
theorem tcX1_copyTaken_v2_2 (d n : Nat) (A : Nat → Nat → Int32) (L : Nat → Nat → Int64) (s : (Int32 × (Nat → Nat → Int32))) {Q : Option Value → jM → Prop} {z : ((Int32 × (Nat → Nat → Int32)) ⊕ (Nat → Nat → Int32))} (h : cX1_copyTaken_v2_2 s = some z) (k1 : ∀ s0, z = .inl s0 → pX1_copyTaken (jEv jtab (d + 0), jWP (jEv jtab (d + 0)) Q ((Sh0 n).length, jsl (Sh0 n)) pX1_copyTaken, Q, ((Sh0 n).length, jsl (Sh0 n))) 2 [some (.ref 83), some (.ref 87), some (.ref 56), some (.int s0.1)] [] (Sh0 n, s0.2, L)) (k2 : ∀ s0, z = .inr s0 → pX1_copyTaken (jEv jtab (d + 0), jWP (jEv jtab (d + 0)) Q ((Sh0 n).length, jsl (Sh0 n)) pX1_copyTaken, Q, ((Sh0 n).length, jsl (Sh0 n))) 31 [none, none, none, none] [] (Sh0 n, s0, L)) : pX1_copyTaken (jEv jtab (d + 0), jWP (jEv jtab (d + 0)) Q ((Sh0 n).length, jsl (Sh0 n)) pX1_copyTaken, Q, ((Sh0 n).length, jsl (Sh0 n))) 2 [some (.ref 83), some (.ref 87), some (.ref 56), some (.int s.1)] [] (Sh0 n, s.2, L) := by
  unfold cX1_copyTaken_v2_2 at h
  refine y_mask <| x_iload rfl <| x_aload rfl <| x_getI (Nat.le_of_ble_eq_true rfl) rfl rfl <| y_cmp_ge (fun h1 => ?_) (fun h1 => ?_)
  · replace h := of_pos h h1
    refine jWP.intro (pr := pX1_copyTaken) (pc := 31) ?_
    have hk := k2 _ (Option.some.inj h).symm
    exact hk
  · replace h := of_neg h h1
    refine jWP.intro (pr := pX1_copyTaken) (pc := 10) ?_
    obtain ⟨g2, h⟩ := of_guard h
    obtain ⟨g4, h⟩ := of_guard h
    obtain ⟨g6, h⟩ := of_guard h
    obtain ⟨m7, hm8, h⟩ := of_bind h
    refine y_mask <| x_aload rfl <| x_iload rfl <| x_row (Nat.le_of_ble_eq_true rfl) rfl g2 <| fun hr3 => x_push <| x_aload rfl <| x_iload rfl <| x_row (Nat.le_of_ble_eq_true rfl) rfl g4 <| fun hr5 => x_push <| x_aload rfl <| x_getI (Nat.le_of_ble_eq_true rfl) rfl rfl <| x_copy (rowle (Nat.le_of_ble_eq_true rfl)) (rows_87 (vp_lt g2)) (rows_56 (vp_lt g4)) g6.1 g6.2.1 g6.2.2.1 g6.2.2.2.1 g6.2.2.2.2 (Nat.le_of_ble_eq_true rfl) <| y_let (Option.some.inj hm8) <| x_iinc rfl rfl <| y_mask <| y_goto ?_
    refine jWP.intro (pr := pX1_copyTaken) (pc := 2) ?_
    have hk := k1 _ (Option.some.inj h).symm
    exact hk
set_option maxRecDepth 20000 in
theorem tfX1_copyTaken_v2 (d n : Nat) (A : Nat → Nat → Int32) (L : Nat → Nat → Int64) {Q : Option Value → jM → Prop} {z : (Nat → Nat → Int32)} (h : fX1_copyTaken_v2 A = some z) (k3 : Q (none) (Sh0 n, z, L)) : pX1_copyTaken (jEv jtab (d + 0), jWP (jEv jtab (d + 0)) Q ((Sh0 n).length, jsl (Sh0 n)) pX1_copyTaken, Q, ((Sh0 n).length, jsl (Sh0 n))) 0 [some (.ref 83), some (.ref 87), some (.ref 56), none] [] (Sh0 n, A, L) := by
  unfold fX1_copyTaken_v2 at h
  refine y_mask <| x_push <| x_istore rfl <| y_mask <| y_goto ?_
  obtain ⟨e1, hw2, h⟩ := of_bind h
  refine jWP.intro (pr := pX1_copyTaken) (pc := 2) ?_
  refine jwh_use (G := (fun s0 => pX1_copyTaken (jEv jtab (d + 0), jWP (jEv jtab (d + 0)) Q ((Sh0 n).length, jsl (Sh0 n)) pX1_copyTaken, Q, ((Sh0 n).length, jsl (Sh0 n))) 2 [some (.ref 83), some (.ref 87), some (.ref 56), some (.int s0.1)] [] (Sh0 n, s0.2, L))) (Gx := (fun s0 => pX1_copyTaken (jEv jtab (d + 0), jWP (jEv jtab (d + 0)) Q ((Sh0 n).length, jsl (Sh0 n)) pX1_copyTaken, Q, ((Sh0 n).length, jsl (Sh0 n))) 31 [none, none, none, none] [] (Sh0 n, s0, L))) (fun s1 z1 hz kk1 kk2 => tcX1_copyTaken_v2_2 d n A L s1 hz kk1 kk2) hw2 ?_
  refine y_mrv (bs := []) (ls := []) ?_
  obtain rfl := Option.some.inj h
  exact k3
theorem kX1_copyTaken_v2 (d n : Nat) (A : Nat → Nat → Int32) (L : Nat → Nat → Int64) {z : (Nat → Nat → Int32)} (h : fX1_copyTaken_v2 A = some z) : jEv jtab (d + 1) 18 [.ref 83, .ref 87, .ref 56] (Sh0 n, A, L) 0 0 (fun r M2 => r = none ∧ M2 = (Sh0 n, z, L)) :=
  jEv.mk (mt := mX1_copyTaken) rfl (Nat.le_of_ble_eq_true rfl) (jWP.intro (pr := pX1_copyTaken) (pc := 0) (tfX1_copyTaken_v2 d n A L h ⟨trivial, jCn.mk ⟨rfl, rfl⟩⟩))
set_option maxRecDepth 20000 in
theorem tfX1_giveBack (d n : Nat) (A : Nat → Nat → Int32) (L : Nat → Nat → Int64) {Q : Option Value → jM → Prop} {z : (Nat → Nat → Int32)} (h : fX1_giveBack A = some z) (k3 : Q (none) (Sh0 n, z, L)) : pX1_giveBack (jEv jtab (d + 1), jWP (jEv jtab (d + 1)) Q ((Sh0 n).length, jsl (Sh0 n)) pX1_giveBack, Q, ((Sh0 n).length, jsl (Sh0 n))) 0 [some (.ref 83), some (.ref 17), some (.ref 54)] [] (Sh0 n, A, L) := by
  unfold fX1_giveBack at h
  obtain ⟨r1, hc2, h⟩ := of_bind h
  obtain ⟨r3, hc4, h⟩ := of_bind h
  refine y_mask <| x_aload rfl <| x_aload rfl <| x_getR (Nat.le_of_ble_eq_true rfl) rfl rfl <| y_invV1 (Nat.le_of_ble_eq_true rfl) rfl (Nat.le_of_ble_eq_true rfl) <| jEv.exV (kX4_becomeLike_v2 _ _ _ _ hc2) <| x_aload rfl <| x_aload rfl <| x_getR (Nat.le_of_ble_eq_true rfl) rfl rfl <| x_aload rfl <| x_getR (Nat.le_of_ble_eq_true rfl) rfl rfl <| y_invV2 (Nat.le_of_ble_eq_true rfl) rfl (Nat.le_of_ble_eq_true rfl) <| jEv.exV (kX1_copyTaken_v2 _ _ _ _ hc4) <| y_return (ls := [some (.ref 83), some (.ref 17), some (.ref 54)]) ?_
  obtain rfl := Option.some.inj h
  exact k3
theorem kX1_giveBack (d n : Nat) (A : Nat → Nat → Int32) (L : Nat → Nat → Int64) {z : (Nat → Nat → Int32)} (h : fX1_giveBack A = some z) : jEv jtab (d + 2) 17 [.ref 83, .ref 17, .ref 54] (Sh0 n, A, L) 0 0 (fun r M2 => r = none ∧ M2 = (Sh0 n, z, L)) :=
  jEv.mk (mt := mX1_giveBack) rfl (Nat.le_of_ble_eq_true rfl) (jWP.intro (pr := pX1_giveBack) (pc := 0) (tfX1_giveBack d n A L h ⟨trivial, jCn.mk ⟨rfl, rfl⟩⟩))
set_option maxRecDepth 20000 in
theorem tfX10_back (d n : Nat) (A : Nat → Nat → Int32) (L : Nat → Nat → Int64) {Q : Option Value → jM → Prop} {z : (Int32 × (Nat → Nat → Int32))} (h : fX10_back A = some z) (k3 : Q (some (.int z.1)) (Sh0 n, z.2, L)) : pX10_back (jEv jtab (d + 2), jWP (jEv jtab (d + 2)) Q ((Sh0 n).length, jsl (Sh0 n)) pX10_back, Q, ((Sh0 n).length, jsl (Sh0 n))) 0 [some (.ref 15)] [] (Sh0 n, A, L) := by
  unfold fX10_back at h
  refine y_mask <| x_aload rfl <| x_getR (Nat.le_of_ble_eq_true rfl) rfl rfl <| x_getI (Nat.le_of_ble_eq_true rfl) rfl rfl <| y_if_ne (fun h1 => ?_) (fun h1 => ?_)
  · replace h := of_neg h h1
    refine jWP.intro (pr := pX10_back) (pc := 13) ?_
    obtain ⟨r2, hc3, h⟩ := of_bind h
    refine y_mask <| x_aload rfl <| x_getR (Nat.le_of_ble_eq_true rfl) rfl rfl <| x_aload rfl <| x_getR (Nat.le_of_ble_eq_true rfl) rfl rfl <| x_getR (Nat.le_of_ble_eq_true rfl) rfl rfl <| x_aload rfl <| x_getR (Nat.le_of_ble_eq_true rfl) rfl rfl <| y_invV2 (Nat.le_of_ble_eq_true rfl) rfl (Nat.le_of_ble_eq_true rfl) <| jEv.exV (kX1_giveBack _ _ _ _ hc3) <| x_aload rfl <| x_getR (Nat.le_of_ble_eq_true rfl) rfl rfl <| x_getI (Nat.le_of_ble_eq_true rfl) rfl rfl <| y_ireturn (ls := [some (.ref 15)]) ?_
    obtain rfl := Option.some.inj h
    exact k3
  · replace h := of_pos h h1
    refine jWP.intro (pr := pX10_back) (pc := 10) ?_
    refine y_mpri (bs := []) (ls := []) ?_
    obtain rfl := Option.some.inj h
    exact k3
theorem kX10_back (d n : Nat) (A : Nat → Nat → Int32) (L : Nat → Nat → Int64) {z : (Int32 × (Nat → Nat → Int32))} (h : fX10_back A = some z) : jEv jtab (d + 3) 146 [.ref 15] (Sh0 n, A, L) 0 0 (fun r M2 => r = some (.int z.1) ∧ M2 = (Sh0 n, z.2, L)) :=
  jEv.mk (mt := mX10_back) rfl (Nat.le_of_ble_eq_true rfl) (jWP.intro (pr := pX10_back) (pc := 0) (tfX10_back d n A L h ⟨trivial, jCn.mk ⟨rfl, rfl⟩⟩))
set_option maxRecDepth 20000 in
theorem tfX7_renew (d n : Nat) (A : Nat → Nat → Int32) (L : Nat → Nat → Int64) (l1 : Int32) (l2 : Int32) (l3 : Int32) {Q : Option Value → jM → Prop} {z : (Int32 × (Nat → Nat → Int32))} (h : fX7_renew A l1 l2 l3 = some z) (k3 : Q (some (.int z.1)) (Sh0 n, z.2, L)) : pX7_renew (jEv jtab (d + 1), jWP (jEv jtab (d + 1)) Q ((Sh0 n).length, jsl (Sh0 n)) pX7_renew, Q, ((Sh0 n).length, jsl (Sh0 n))) 0 [some (.ref 75), some (.int l1), some (.int l2), some (.int l3)] [] (Sh0 n, A, L) := by
  unfold fX7_renew at h
  obtain ⟨g1, h⟩ := of_guard h
  obtain ⟨r3, hc4, h⟩ := of_bind h
  obtain ⟨g5, h⟩ := of_guard h
  obtain ⟨m6, hm7, h⟩ := of_bind h
  obtain ⟨g8, h⟩ := of_guard h
  obtain ⟨m9, hm10, h⟩ := of_bind h
  refine y_mask <| x_aload rfl <| x_getR (Nat.le_of_ble_eq_true rfl) rfl rfl <| x_iload rfl <| x_row (Nat.le_of_ble_eq_true rfl) rfl g1 <| fun hr2 => x_push <| y_invS2 (Nat.le_of_ble_eq_true rfl) <| jEv.exV (kJ7_fill_53178 _ _ _ _ (77 + (jx l1)) 40 (rows_76 (vp_lt g1)) (rowle (Nat.le_of_ble_eq_true rfl)) _ hc4) <| x_aload rfl <| x_getR (Nat.le_of_ble_eq_true rfl) rfl rfl <| x_iload rfl <| x_iload rfl <| x_iast (Nat.le_of_ble_eq_true rfl) rfl g5 <| y_let (Option.some.inj hm7) <| x_aload rfl <| x_getR (Nat.le_of_ble_eq_true rfl) rfl rfl <| x_iload rfl <| x_iload rfl <| x_iast (Nat.le_of_ble_eq_true rfl) rfl g8 <| y_let (Option.some.inj hm10) <| x_push <| y_ireturn (ls := [some (.ref 75), some (.int l1), some (.int l2), some (.int l3)]) ?_
  obtain rfl := Option.some.inj h
  exact k3
theorem kX7_renew (d n : Nat) (A : Nat → Nat → Int32) (L : Nat → Nat → Int64) (l1 : Int32) (l2 : Int32) (l3 : Int32) {z : (Int32 × (Nat → Nat → Int32))} (h : fX7_renew A l1 l2 l3 = some z) : jEv jtab (d + 2) 81 [.ref 75, .int l1, .int l2, .int l3] (Sh0 n, A, L) 0 0 (fun r M2 => r = some (.int z.1) ∧ M2 = (Sh0 n, z.2, L)) :=
  jEv.mk (mt := mX7_renew) rfl (Nat.le_of_ble_eq_true rfl) (jWP.intro (pr := pX7_renew) (pc := 0) (tfX7_renew d n A L l1 l2 l3 h ⟨trivial, jCn.mk ⟨rfl, rfl⟩⟩))
set_option maxRecDepth 20000 in
theorem tfX10_sheet (d n : Nat) (A : Nat → Nat → Int32) (L : Nat → Nat → Int64) (l1 : Int32) (l2 : Int32) (l3 : Int32) {Q : Option Value → jM → Prop} {z : (Int32 × (Nat → Nat → Int32))} (h : fX10_sheet A l1 l2 l3 = some z) (k3 : Q (some (.int z.1)) (Sh0 n, z.2, L)) : pX10_sheet (jEv jtab (d + 2), jWP (jEv jtab (d + 2)) Q ((Sh0 n).length, jsl (Sh0 n)) pX10_sheet, Q, ((Sh0 n).length, jsl (Sh0 n))) 0 [some (.ref 15), some (.int l1), some (.int l2), some (.int l3)] [] (Sh0 n, A, L) := by
  unfold fX10_sheet at h
  refine y_mask <| x_iload rfl <| x_push <| x_push <| y_invS3 (Nat.le_of_ble_eq_true rfl) <| jEv.exZ (q := 152) rfl (kX10_within _ _ _ _ _ _ _) <| fun hz1 => y_if_eq (fun h2 => ?_) (fun h2 => ?_)
  · replace h := of_pos h h2
    refine jWP.intro (pr := pX10_sheet) (pc := 18) ?_
    refine y_mpri (bs := []) (ls := []) ?_
    obtain rfl := Option.some.inj h
    exact k3
  · replace h := of_neg h h2
    refine jWP.intro (pr := pX10_sheet) (pc := 9) ?_
    refine y_mask <| x_iload rfl <| x_push <| x_push <| y_invS3 (Nat.le_of_ble_eq_true rfl) <| jEv.exZ (q := 152) rfl (kX10_within _ _ _ _ _ _ _) <| fun hz3 => y_if_ne (fun h4 => ?_) (fun h4 => ?_)
    · replace h := of_neg h h4
      refine jWP.intro (pr := pX10_sheet) (pc := 21) ?_
      refine y_mask <| x_iload rfl <| x_push <| y_cmp_ne (fun h5 => ?_) (fun h5 => ?_)
      · replace h := of_neg h h5
        refine jWP.intro (pr := pX10_sheet) (pc := 37) ?_
        refine y_mask <| x_iload rfl <| x_push <| y_cmp_le (fun h6 => ?_) (fun h6 => ?_)
        · replace h := of_pos h h6
          refine jWP.intro (pr := pX10_sheet) (pc := 46) ?_
          refine y_mask <| x_iload rfl <| y_if_ge (fun h7 => ?_) (fun h7 => ?_)
          · replace h := of_pos h h7
            refine jWP.intro (pr := pX10_sheet) (pc := 55) ?_
            obtain ⟨r8, hc9, h⟩ := of_bind h
            refine y_mask <| x_aload rfl <| x_getR (Nat.le_of_ble_eq_true rfl) rfl rfl <| x_iload rfl <| x_iload rfl <| x_iload rfl <| y_invV3 (Nat.le_of_ble_eq_true rfl) rfl (Nat.le_of_ble_eq_true rfl) <| jEv.exI (kX7_renew _ _ _ _ _ _ _ hc9) <| y_mask <| y_goto ?_
            refine jWP.intro (pr := pX10_sheet) (pc := 65) ?_
            refine y_mri (bs := []) (ls := []) ?_
            obtain rfl := Option.some.inj h
            exact k3
          · replace h := of_neg h h7
            refine jWP.intro (pr := pX10_sheet) (pc := 50) ?_
            refine y_mask <| x_push <| y_mask <| y_goto ?_
            refine jWP.intro (pr := pX10_sheet) (pc := 65) ?_
            refine y_mri (bs := []) (ls := []) ?_
            obtain rfl := Option.some.inj h
            exact k3
        · replace h := of_neg h h6
          refine jWP.intro (pr := pX10_sheet) (pc := 43) ?_
          refine y_mpri (bs := []) (ls := []) ?_
          obtain rfl := Option.some.inj h
          exact k3
      · replace h := of_pos h h5
        refine jWP.intro (pr := pX10_sheet) (pc := 26) ?_
        obtain ⟨r10, hc11, h⟩ := of_bind h
        refine y_mask <| x_aload rfl <| x_getR (Nat.le_of_ble_eq_true rfl) rfl rfl <| x_iload rfl <| x_iload rfl <| x_push <| y_invV3 (Nat.le_of_ble_eq_true rfl) rfl (Nat.le_of_ble_eq_true rfl) <| jEv.exI (kX7_renew _ _ _ _ _ _ _ hc11) <| y_ireturn (ls := [some (.ref 15), some (.int l1), some (.int l2), none]) ?_
        obtain rfl := Option.some.inj h
        exact k3
    · replace h := of_pos h h4
      refine jWP.intro (pr := pX10_sheet) (pc := 18) ?_
      refine y_mpri (bs := []) (ls := []) ?_
      obtain rfl := Option.some.inj h
      exact k3
theorem kX10_sheet (d n : Nat) (A : Nat → Nat → Int32) (L : Nat → Nat → Int64) (l1 : Int32) (l2 : Int32) (l3 : Int32) {z : (Int32 × (Nat → Nat → Int32))} (h : fX10_sheet A l1 l2 l3 = some z) : jEv jtab (d + 3) 147 [.ref 15, .int l1, .int l2, .int l3] (Sh0 n, A, L) 0 0 (fun r M2 => r = some (.int z.1) ∧ M2 = (Sh0 n, z.2, L)) :=
  jEv.mk (mt := mX10_sheet) rfl (Nat.le_of_ble_eq_true rfl) (jWP.intro (pr := pX10_sheet) (pc := 0) (tfX10_sheet d n A L l1 l2 l3 h ⟨trivial, jCn.mk ⟨rfl, rfl⟩⟩))
set_option maxRecDepth 20000 in
theorem tfX7_write (d n : Nat) (A : Nat → Nat → Int32) (L : Nat → Nat → Int64) (l1 : Int32) (l2 : Int32) (l3 : Int32) {Q : Option Value → jM → Prop} {z : (Int32 × (Nat → Nat → Int32))} (h : fX7_write A l1 l2 l3 = some z) (k3 : Q (some (.int z.1)) (Sh0 n, z.2, L)) : pX7_write (jEv jtab (d + 0), jWP (jEv jtab (d + 0)) Q ((Sh0 n).length, jsl (Sh0 n)) pX7_write, Q, ((Sh0 n).length, jsl (Sh0 n))) 0 [some (.ref 75), some (.int l1), some (.int l2), some (.int l3)] [] (Sh0 n, A, L) := by
  unfold fX7_write at h
  obtain ⟨g1, h⟩ := of_guard h
  refine y_mask <| x_aload rfl <| x_getR (Nat.le_of_ble_eq_true rfl) rfl rfl <| x_iload rfl <| x_iald rfl g1 <| y_if_ne (fun h2 => ?_) (fun h2 => ?_)
  · replace h := of_neg h h2
    refine jWP.intro (pr := pX7_write) (pc := 22) ?_
    obtain ⟨g3, h⟩ := of_guard h
    obtain ⟨g5, h⟩ := of_guard h
    refine y_mask <| x_aload rfl <| x_getR (Nat.le_of_ble_eq_true rfl) rfl rfl <| x_iload rfl <| x_row (Nat.le_of_ble_eq_true rfl) rfl g3 <| fun hr4 => x_iload rfl <| x_aload rfl <| x_getR (Nat.le_of_ble_eq_true rfl) rfl rfl <| x_iload rfl <| x_iald rfl g5 <| x_push <| y_cmp_ne (fun h6 => ?_) (fun h6 => ?_)
    · replace h := of_neg h h6
      refine jWP.intro (pr := pX7_write) (pc := 44) ?_
      refine y_mask <| x_iload rfl <| y_mask <| y_goto ?_
      refine jWP.intro (pr := pX7_write) (pc := 45) ?_
      obtain ⟨g7, h⟩ := of_guard h
      obtain ⟨m8, hm9, h⟩ := of_bind h
      refine y_mask <| x_iast (rowle (Nat.le_of_ble_eq_true rfl)) (rows_76 (vp_lt g3)) g7 <| y_let (Option.some.inj hm9) <| y_mask <| y_goto ?_
      refine jWP.intro (pr := pX7_write) (pc := 46) ?_
      refine y_mpri (bs := []) (ls := []) ?_
      obtain rfl := Option.some.inj h
      exact k3
    · replace h := of_pos h h6
      refine jWP.intro (pr := pX7_write) (pc := 39) ?_
      refine y_mask <| x_iload rfl <| x_i2s <| y_mask <| y_goto ?_
      refine jWP.intro (pr := pX7_write) (pc := 45) ?_
      obtain ⟨g10, h⟩ := of_guard h
      obtain ⟨m11, hm12, h⟩ := of_bind h
      refine y_mask <| x_iast (rowle (Nat.le_of_ble_eq_true rfl)) (rows_76 (vp_lt g3)) g10 <| y_let (Option.some.inj hm12) <| y_mask <| y_goto ?_
      refine jWP.intro (pr := pX7_write) (pc := 46) ?_
      refine y_mpri (bs := []) (ls := []) ?_
      obtain rfl := Option.some.inj h
      exact k3
  · replace h := of_pos h h2
    refine jWP.intro (pr := pX7_write) (pc := 9) ?_
    obtain ⟨g13, h⟩ := of_guard h
    obtain ⟨g15, h⟩ := of_guard h
    obtain ⟨m16, hm17, h⟩ := of_bind h
    refine y_mask <| x_aload rfl <| x_getR (Nat.le_of_ble_eq_true rfl) rfl rfl <| x_iload rfl <| x_row (Nat.le_of_ble_eq_true rfl) rfl g13 <| fun hr14 => x_iload rfl <| x_iload rfl <| x_i2b <| x_iast (rowle (Nat.le_of_ble_eq_true rfl)) (rows_76 (vp_lt g13)) g15 <| y_let (Option.some.inj hm17) <| y_mask <| y_goto ?_
    refine jWP.intro (pr := pX7_write) (pc := 46) ?_
    refine y_mpri (bs := []) (ls := []) ?_
    obtain rfl := Option.some.inj h
    exact k3
theorem kX7_write (d n : Nat) (A : Nat → Nat → Int32) (L : Nat → Nat → Int64) (l1 : Int32) (l2 : Int32) (l3 : Int32) {z : (Int32 × (Nat → Nat → Int32))} (h : fX7_write A l1 l2 l3 = some z) : jEv jtab (d + 1) 82 [.ref 75, .int l1, .int l2, .int l3] (Sh0 n, A, L) 0 0 (fun r M2 => r = some (.int z.1) ∧ M2 = (Sh0 n, z.2, L)) :=
  jEv.mk (mt := mX7_write) rfl (Nat.le_of_ble_eq_true rfl) (jWP.intro (pr := pX7_write) (pc := 0) (tfX7_write d n A L l1 l2 l3 h ⟨trivial, jCn.mk ⟨rfl, rfl⟩⟩))
set_option maxRecDepth 20000 in
theorem tfX10_cell (d n : Nat) (A : Nat → Nat → Int32) (L : Nat → Nat → Int64) (l1 : Int32) (l2 : Int32) (l3 : Int32) {Q : Option Value → jM → Prop} {z : (Int32 × (Nat → Nat → Int32))} (h : fX10_cell A l1 l2 l3 = some z) (k3 : Q (some (.int z.1)) (Sh0 n, z.2, L)) : pX10_cell (jEv jtab (d + 1), jWP (jEv jtab (d + 1)) Q ((Sh0 n).length, jsl (Sh0 n)) pX10_cell, Q, ((Sh0 n).length, jsl (Sh0 n))) 0 [some (.ref 15), some (.int l1), some (.int l2), some (.int l3)] [] (Sh0 n, A, L) := by
  unfold fX10_cell at h
  refine y_mask <| x_iload rfl <| x_push <| x_push <| y_invS3 (Nat.le_of_ble_eq_true rfl) <| jEv.exZ (q := 152) rfl (kX10_within _ _ _ _ _ _ _) <| fun hz1 => y_if_ne (fun h2 => ?_) (fun h2 => ?_)
  · replace h := of_neg h h2
    refine jWP.intro (pr := pX10_cell) (pc := 12) ?_
    obtain ⟨g3, h⟩ := of_guard h
    refine y_mask <| x_aload rfl <| x_getR (Nat.le_of_ble_eq_true rfl) rfl rfl <| x_getR (Nat.le_of_ble_eq_true rfl) rfl rfl <| x_iload rfl <| x_iald rfl g3 <| x_push <| y_cmp_ne (fun h4 => ?_) (fun h4 => ?_)
    · replace h := of_neg h h4
      refine jWP.intro (pr := pX10_cell) (pc := 28) ?_
      obtain ⟨g5, h⟩ := of_guard h
      refine y_mask <| x_iload rfl <| x_push <| x_aload rfl <| x_getR (Nat.le_of_ble_eq_true rfl) rfl rfl <| x_getR (Nat.le_of_ble_eq_true rfl) rfl rfl <| x_iload rfl <| x_iald rfl g5 <| x_push <| x_isub <| y_invS3 (Nat.le_of_ble_eq_true rfl) <| jEv.exZ (q := 152) rfl (kX10_within _ _ _ _ _ _ _) <| fun hz6 => y_if_eq (fun h7 => ?_) (fun h7 => ?_)
      · replace h := of_pos h h7
        refine jWP.intro (pr := pX10_cell) (pc := 60) ?_
        refine y_mask <| x_push <| y_mask <| y_goto ?_
        refine jWP.intro (pr := pX10_cell) (pc := 62) ?_
        refine y_mri (bs := []) (ls := []) ?_
        obtain rfl := Option.some.inj h
        exact k3
      · replace h := of_neg h h7
        refine jWP.intro (pr := pX10_cell) (pc := 47) ?_
        obtain ⟨r8, hc9, h⟩ := of_bind h
        refine y_mask <| x_aload rfl <| x_getR (Nat.le_of_ble_eq_true rfl) rfl rfl <| x_iload rfl <| x_iload rfl <| x_iload rfl <| y_invV3 (Nat.le_of_ble_eq_true rfl) rfl (Nat.le_of_ble_eq_true rfl) <| jEv.exI (kX7_write _ _ _ _ _ _ _ hc9) <| y_mask <| y_goto ?_
        refine jWP.intro (pr := pX10_cell) (pc := 62) ?_
        refine y_mri (bs := []) (ls := []) ?_
        obtain rfl := Option.some.inj h
        exact k3
    · replace h := of_pos h h4
      refine jWP.intro (pr := pX10_cell) (pc := 25) ?_
      refine y_mpri (bs := []) (ls := []) ?_
      obtain rfl := Option.some.inj h
      exact k3
  · replace h := of_pos h h2
    refine jWP.intro (pr := pX10_cell) (pc := 9) ?_
    refine y_mpri (bs := []) (ls := []) ?_
    obtain rfl := Option.some.inj h
    exact k3
theorem kX10_cell (d n : Nat) (A : Nat → Nat → Int32) (L : Nat → Nat → Int64) (l1 : Int32) (l2 : Int32) (l3 : Int32) {z : (Int32 × (Nat → Nat → Int32))} (h : fX10_cell A l1 l2 l3 = some z) : jEv jtab (d + 2) 148 [.ref 15, .int l1, .int l2, .int l3] (Sh0 n, A, L) 0 0 (fun r M2 => r = some (.int z.1) ∧ M2 = (Sh0 n, z.2, L)) :=
  jEv.mk (mt := mX10_cell) rfl (Nat.le_of_ble_eq_true rfl) (jWP.intro (pr := pX10_cell) (pc := 0) (tfX10_cell d n A L l1 l2 l3 h ⟨trivial, jCn.mk ⟨rfl, rfl⟩⟩))
set_option maxRecDepth 20000 in
theorem tfX7_holds (d n : Nat) (A : Nat → Nat → Int32) (L : Nat → Nat → Int64) (l1 : Int32) (l2 : Int32) (l3 : Int32) {Q : Option Value → jM → Prop} {z : Int32} (h : fX7_holds A l1 l2 l3 = some z) (k3 : (narrow .boolean (.int z) = .int z) → Q (some (.int z)) (Sh0 n, A, L)) : pX7_holds (jEv jtab (d + 0), jWP (jEv jtab (d + 0)) Q ((Sh0 n).length, jsl (Sh0 n)) pX7_holds, Q, ((Sh0 n).length, jsl (Sh0 n))) 0 [some (.ref 75), some (.int l1), some (.int l2), some (.int l3)] [] (Sh0 n, A, L) := by
  unfold fX7_holds at h
  refine y_mask <| x_iload rfl <| y_if_lt (fun h1 => ?_) (fun h1 => ?_)
  · replace h := of_pos h h1
    refine jWP.intro (pr := pX7_holds) (pc := 24) ?_
    refine y_mask <| x_push <| y_mask <| y_goto ?_
    refine jWP.intro (pr := pX7_holds) (pc := 25) ?_
    refine y_mri (bs := []) (ls := []) ?_
    obtain rfl := Option.some.inj h
    exact k3 (jnar_boolean (.inl rfl))
  · replace h := of_neg h h1
    refine jWP.intro (pr := pX7_holds) (pc := 4) ?_
    refine y_mask <| x_iload rfl <| y_if_lt (fun h2 => ?_) (fun h2 => ?_)
    · replace h := of_pos h h2
      refine jWP.intro (pr := pX7_holds) (pc := 24) ?_
      refine y_mask <| x_push <| y_mask <| y_goto ?_
      refine jWP.intro (pr := pX7_holds) (pc := 25) ?_
      refine y_mri (bs := []) (ls := []) ?_
      obtain rfl := Option.some.inj h
      exact k3 (jnar_boolean (.inl rfl))
    · replace h := of_neg h h2
      refine jWP.intro (pr := pX7_holds) (pc := 8) ?_
      obtain ⟨g3, h⟩ := of_guard h
      refine y_mask <| x_iload rfl <| x_aload rfl <| x_getR (Nat.le_of_ble_eq_true rfl) rfl rfl <| x_iload rfl <| x_iald rfl g3 <| x_iload rfl <| x_isub <| y_cmp_gt (fun h4 => ?_) (fun h4 => ?_)
      · replace h := of_pos h h4
        refine jWP.intro (pr := pX7_holds) (pc := 24) ?_
        refine y_mask <| x_push <| y_mask <| y_goto ?_
        refine jWP.intro (pr := pX7_holds) (pc := 25) ?_
        refine y_mri (bs := []) (ls := []) ?_
        obtain rfl := Option.some.inj h
        exact k3 (jnar_boolean (.inl rfl))
      · replace h := of_neg h h4
        refine jWP.intro (pr := pX7_holds) (pc := 20) ?_
        refine y_mask <| x_push <| y_mask <| y_goto ?_
        refine jWP.intro (pr := pX7_holds) (pc := 25) ?_
        refine y_mri (bs := []) (ls := []) ?_
        obtain rfl := Option.some.inj h
        exact k3 (jnar_boolean (.inr rfl))
theorem kX7_holds (d n : Nat) (A : Nat → Nat → Int32) (L : Nat → Nat → Int64) (l1 : Int32) (l2 : Int32) (l3 : Int32) {z : Int32} (h : fX7_holds A l1 l2 l3 = some z) : jEv jtab (d + 1) 83 [.ref 75, .int l1, .int l2, .int l3] (Sh0 n, A, L) 0 0 (fun r M2 => r = some (.int z) ∧ M2 = (Sh0 n, A, L)) :=
  jEv.mk (mt := mX7_holds) rfl (Nat.le_of_ble_eq_true rfl) (jWP.intro (pr := pX7_holds) (pc := 0) (tfX7_holds d n A L l1 l2 l3 h (fun hz => ⟨hz, jCn.mk ⟨rfl, rfl⟩⟩)))
set_option maxRecDepth 20000 in
theorem tfX10_copy (d n : Nat) (A : Nat → Nat → Int32) (L : Nat → Nat → Int64) (l1 : Int32) (l2 : Int32) (l3 : Int32) (l4 : Int32) (l5 : Int32) {Q : Option Value → jM → Prop} {z : (Int32 × (Nat → Nat → Int32))} (h : fX10_copy A l1 l2 l3 l4 l5 = some z) (k3 : Q (some (.int z.1)) (Sh0 n, z.2, L)) : pX10_copy (jEv jtab (d + 1), jWP (jEv jtab (d + 1)) Q ((Sh0 n).length, jsl (Sh0 n)) pX10_copy, Q, ((Sh0 n).length, jsl (Sh0 n))) 0 [some (.ref 15), some (.int l1), some (.int l2), some (.int l3), some (.int l4), some (.int l5)] [] (Sh0 n, A, L) := by
  unfold fX10_copy at h
  refine y_mask <| x_iload rfl <| x_push <| x_push <| y_invS3 (Nat.le_of_ble_eq_true rfl) <| jEv.exZ (q := 152) rfl (kX10_within _ _ _ _ _ _ _) <| fun hz1 => y_if_eq (fun h2 => ?_) (fun h2 => ?_)
  · replace h := of_pos h h2
    refine jWP.intro (pr := pX10_copy) (pc := 18) ?_
    refine y_mpri (bs := []) (ls := []) ?_
    obtain rfl := Option.some.inj h
    exact k3
  · replace h := of_neg h h2
    refine jWP.intro (pr := pX10_copy) (pc := 9) ?_
    refine y_mask <| x_iload rfl <| x_push <| x_push <| y_invS3 (Nat.le_of_ble_eq_true rfl) <| jEv.exZ (q := 152) rfl (kX10_within _ _ _ _ _ _ _) <| fun hz3 => y_if_ne (fun h4 => ?_) (fun h4 => ?_)
    · replace h := of_neg h h4
      refine jWP.intro (pr := pX10_copy) (pc := 21) ?_
      obtain ⟨g5, h⟩ := of_guard h
      refine y_mask <| x_aload rfl <| x_getR (Nat.le_of_ble_eq_true rfl) rfl rfl <| x_getR (Nat.le_of_ble_eq_true rfl) rfl rfl <| x_iload rfl <| x_iald rfl g5 <| x_push <| y_cmp_eq (fun h6 => ?_) (fun h6 => ?_)
      · replace h := of_pos h h6
        refine jWP.intro (pr := pX10_copy) (pc := 47) ?_
        refine y_mpri (bs := []) (ls := []) ?_
        obtain rfl := Option.some.inj h
        exact k3
      · replace h := of_neg h h6
        refine jWP.intro (pr := pX10_copy) (pc := 34) ?_
        obtain ⟨g7, h⟩ := of_guard h
        refine y_mask <| x_aload rfl <| x_getR (Nat.le_of_ble_eq_true rfl) rfl rfl <| x_getR (Nat.le_of_ble_eq_true rfl) rfl rfl <| x_iload rfl <| x_iald rfl g7 <| x_push <| y_cmp_ne (fun h8 => ?_) (fun h8 => ?_)
        · replace h := of_neg h h8
          refine jWP.intro (pr := pX10_copy) (pc := 50) ?_
          obtain ⟨g9, h⟩ := of_guard h
          obtain ⟨g10, h⟩ := of_guard h
          refine y_mask <| x_aload rfl <| x_getR (Nat.le_of_ble_eq_true rfl) rfl rfl <| x_getR (Nat.le_of_ble_eq_true rfl) rfl rfl <| x_iload rfl <| x_iald rfl g9 <| x_aload rfl <| x_getR (Nat.le_of_ble_eq_true rfl) rfl rfl <| x_getR (Nat.le_of_ble_eq_true rfl) rfl rfl <| x_iload rfl <| x_iald rfl g10 <| y_cmp_eq (fun h11 => ?_) (fun h11 => ?_)
          · replace h := of_pos h h11
            refine jWP.intro (pr := pX10_copy) (pc := 74) ?_
            obtain ⟨r12, hc13, h⟩ := of_bind h
            refine y_mask <| x_aload rfl <| x_getR (Nat.le_of_ble_eq_true rfl) rfl rfl <| x_iload rfl <| x_iload rfl <| x_iload rfl <| y_invV3 (Nat.le_of_ble_eq_true rfl) rfl (Nat.le_of_ble_eq_true rfl) <| jEv.exZ (q := 83) rfl (kX7_holds _ _ _ _ _ _ _ hc13) <| fun hz14 => y_if_eq (fun h15 => ?_) (fun h15 => ?_)
            · replace h := of_pos h h15
              refine jWP.intro (pr := pX10_copy) (pc := 103) ?_
              refine y_mpri (bs := []) (ls := []) ?_
              obtain rfl := Option.some.inj h
              exact k3
            · replace h := of_neg h h15
              refine jWP.intro (pr := pX10_copy) (pc := 88) ?_
              obtain ⟨r16, hc17, h⟩ := of_bind h
              refine y_mask <| x_aload rfl <| x_getR (Nat.le_of_ble_eq_true rfl) rfl rfl <| x_iload rfl <| x_iload rfl <| x_iload rfl <| y_invV3 (Nat.le_of_ble_eq_true rfl) rfl (Nat.le_of_ble_eq_true rfl) <| jEv.exZ (q := 83) rfl (kX7_holds _ _ _ _ _ _ _ hc17) <| fun hz18 => y_if_ne (fun h19 => ?_) (fun h19 => ?_)
              · replace h := of_neg h h19
                refine jWP.intro (pr := pX10_copy) (pc := 106) ?_
                obtain ⟨g20, h⟩ := of_guard h
                obtain ⟨g22, h⟩ := of_guard h
                obtain ⟨g24, h⟩ := of_guard h
                obtain ⟨m25, hm26, h⟩ := of_bind h
                refine y_mask <| x_aload rfl <| x_getR (Nat.le_of_ble_eq_true rfl) rfl rfl <| x_getR (Nat.le_of_ble_eq_true rfl) rfl rfl <| x_iload rfl <| x_row (Nat.le_of_ble_eq_true rfl) rfl g20 <| fun hr21 => x_iload rfl <| x_aload rfl <| x_getR (Nat.le_of_ble_eq_true rfl) rfl rfl <| x_getR (Nat.le_of_ble_eq_true rfl) rfl rfl <| x_iload rfl <| x_row (Nat.le_of_ble_eq_true rfl) rfl g22 <| fun hr23 => x_iload rfl <| x_iload rfl <| x_copy (rowle (Nat.le_of_ble_eq_true rfl)) (rows_76 (vp_lt g20)) (rows_76 (vp_lt g22)) g24.1 g24.2.1 g24.2.2.1 g24.2.2.2.1 g24.2.2.2.2 (Nat.le_of_ble_eq_true rfl) <| y_let (Option.some.inj hm26) <| x_iload rfl <| y_ireturn (ls := [some (.ref 15), some (.int l1), some (.int l2), some (.int l3), some (.int l4), some (.int l5)]) ?_
                obtain rfl := Option.some.inj h
                exact k3
              · replace h := of_pos h h19
                refine jWP.intro (pr := pX10_copy) (pc := 103) ?_
                refine y_mpri (bs := []) (ls := []) ?_
                obtain rfl := Option.some.inj h
                exact k3
          · replace h := of_neg h h11
            refine jWP.intro (pr := pX10_copy) (pc := 71) ?_
            refine y_mpri (bs := []) (ls := []) ?_
            obtain rfl := Option.some.inj h
            exact k3
        · replace h := of_pos h h8
          refine jWP.intro (pr := pX10_copy) (pc := 47) ?_
          refine y_mpri (bs := []) (ls := []) ?_
          obtain rfl := Option.some.inj h
          exact k3
    · replace h := of_pos h h4
      refine jWP.intro (pr := pX10_copy) (pc := 18) ?_
      refine y_mpri (bs := []) (ls := []) ?_
      obtain rfl := Option.some.inj h
      exact k3
theorem kX10_copy (d n : Nat) (A : Nat → Nat → Int32) (L : Nat → Nat → Int64) (l1 : Int32) (l2 : Int32) (l3 : Int32) (l4 : Int32) (l5 : Int32) {z : (Int32 × (Nat → Nat → Int32))} (h : fX10_copy A l1 l2 l3 l4 l5 = some z) : jEv jtab (d + 2) 149 [.ref 15, .int l1, .int l2, .int l3, .int l4, .int l5] (Sh0 n, A, L) 0 0 (fun r M2 => r = some (.int z.1) ∧ M2 = (Sh0 n, z.2, L)) :=
  jEv.mk (mt := mX10_copy) rfl (Nat.le_of_ble_eq_true rfl) (jWP.intro (pr := pX10_copy) (pc := 0) (tfX10_copy d n A L l1 l2 l3 l4 l5 h ⟨trivial, jCn.mk ⟨rfl, rfl⟩⟩))
set_option maxRecDepth 20000 in
theorem tcX10_sayingsBy_81 (d n : Nat) (A : Nat → Nat → Int32) (L : Nat → Nat → Int64) (l1 : Int32) (l3 : Int32) (l4 : Int32) (cl5 : Nat) (hsl5 : jn (Sh0 n) cl5 = some (.inl (.int, 40))) (hll5 : jR ≤ cl5) (s : (Int32 × Int32 × (Nat → Nat → Int32))) {Q : Option Value → jM → Prop} {z : ((Int32 × Int32 × (Nat → Nat → Int32)) ⊕ ((Int32 × (Nat → Nat → Int32)) ⊕ (Int32 × (Nat → Nat → Int32))))} (h : cX10_sayingsBy_81 l1 l3 l4 cl5 s = some z) (k1 : ∀ s0, z = .inl s0 → pX10_sayingsBy (jEv jtab (d + 2), jWP (jEv jtab (d + 2)) Q ((Sh0 n).length, jsl (Sh0 n)) pX10_sayingsBy, Q, ((Sh0 n).length, jsl (Sh0 n))) 81 [some (.ref 15), some (.int l1), none, some (.int l3), some (.int l4), some (.ref cl5), some (.int s0.1), some (.int s0.2.1), none] [] (Sh0 n, s0.2.2, L)) (k2 : ∀ s0, z = .inr (.inl s0) → pX10_sayingsBy (jEv jtab (d + 2), jWP (jEv jtab (d + 2)) Q ((Sh0 n).length, jsl (Sh0 n)) pX10_sayingsBy, Q, ((Sh0 n).length, jsl (Sh0 n))) 148 [none, none, none, none, none, none, some (.int s0.1), none, none] [] (Sh0 n, s0.2, L)) (k3 : ∀ s0, z = .inr (.inr s0) → Q (some (.int s0.1)) (Sh0 n, s0.2, L)) : pX10_sayingsBy (jEv jtab (d + 2), jWP (jEv jtab (d + 2)) Q ((Sh0 n).length, jsl (Sh0 n)) pX10_sayingsBy, Q, ((Sh0 n).length, jsl (Sh0 n))) 81 [some (.ref 15), some (.int l1), none, some (.int l3), some (.int l4), some (.ref cl5), some (.int s.1), some (.int s.2.1), none] [] (Sh0 n, s.2.2, L) := by
  unfold cX10_sayingsBy_81 at h
  refine y_mask <| x_iload rfl <| x_iload rfl <| y_cmp_ge (fun h1 => ?_) (fun h1 => ?_)
  · replace h := of_pos h h1
    refine jWP.intro (pr := pX10_sayingsBy) (pc := 148) ?_
    have hk := k2 _ (Option.some.inj h).symm
    exact hk
  · replace h := of_neg h h1
    refine jWP.intro (pr := pX10_sayingsBy) (pc := 88) ?_
    obtain ⟨r2, hc3, h⟩ := of_bind h
    refine y_mask <| x_iload rfl <| x_push <| x_iload rfl <| x_imul <| x_iadd <| x_istore rfl <| x_aload rfl <| x_getR (Nat.le_of_ble_eq_true rfl) rfl rfl <| x_iload rfl <| x_iload rfl <| x_push <| y_invV3 (Nat.le_of_ble_eq_true rfl) rfl (Nat.le_of_ble_eq_true rfl) <| jEv.exZ (q := 83) rfl (kX7_holds _ _ _ _ _ _ _ hc3) <| fun hz4 => y_if_ne (fun h5 => ?_) (fun h5 => ?_)
    · replace h := of_neg h h5
      refine jWP.intro (pr := pX10_sayingsBy) (pc := 113) ?_
      obtain ⟨g6, h⟩ := of_guard h
      obtain ⟨g7, h⟩ := of_guard h
      obtain ⟨g8, h⟩ := of_guard h
      obtain ⟨r9, hc10, h⟩ := of_bind h
      refine y_mask <| x_aload rfl <| x_aload rfl <| x_iload rfl <| x_iald hsl5 g6 <| x_aload rfl <| x_iload rfl <| x_push <| x_iadd <| x_iald hsl5 g7 <| x_aload rfl <| x_iload rfl <| x_push <| x_iadd <| x_iald hsl5 g8 <| y_invV3 (Nat.le_of_ble_eq_true rfl) rfl (Nat.le_of_ble_eq_true rfl) <| jEv.exI (kX10_say _ _ _ _ _ _ _ hc10) <| y_if_lt (fun h11 => ?_) (fun h11 => ?_)
      · replace h := of_pos h h11
        refine jWP.intro (pr := pX10_sayingsBy) (pc := 142) ?_
        refine y_mask <| x_iinc rfl rfl <| y_mask <| y_goto ?_
        refine jWP.intro (pr := pX10_sayingsBy) (pc := 81) ?_
        have hk := k1 _ (Option.some.inj h).symm
        exact hk
      · replace h := of_neg h h11
        refine jWP.intro (pr := pX10_sayingsBy) (pc := 139) ?_
        refine y_mask <| x_iinc rfl rfl <| y_mask <| y_goto ?_
        refine jWP.intro (pr := pX10_sayingsBy) (pc := 142) ?_
        refine y_mask <| x_iinc rfl rfl <| y_mask <| y_goto ?_
        refine jWP.intro (pr := pX10_sayingsBy) (pc := 81) ?_
        have hk := k1 _ (Option.some.inj h).symm
        exact hk
    · replace h := of_pos h h5
      refine jWP.intro (pr := pX10_sayingsBy) (pc := 110) ?_
      refine y_mpri (bs := []) (ls := []) ?_
      have hk := k3 _ (Option.some.inj h).symm
      exact hk
set_option maxRecDepth 20000 in
theorem tfX10_sayingsBy (d n : Nat) (A : Nat → Nat → Int32) (L : Nat → Nat → Int64) (l1 : Int32) (l2 : Int32) (l3 : Int32) (l4 : Int32) {Q : Option Value → jM → Prop} {z : (Int32 × (Nat → Nat → Int32))} (h : fX10_sayingsBy A l1 l2 l3 l4 = some z) (k3 : Q (some (.int z.1)) (Sh0 n, z.2, L)) : pX10_sayingsBy (jEv jtab (d + 2), jWP (jEv jtab (d + 2)) Q ((Sh0 n).length, jsl (Sh0 n)) pX10_sayingsBy, Q, ((Sh0 n).length, jsl (Sh0 n))) 0 [some (.ref 15), some (.int l1), some (.int l2), some (.int l3), some (.int l4), none, none, none, none] [] (Sh0 n, A, L) := by
  unfold fX10_sayingsBy at h
  refine y_mask <| x_iload rfl <| x_push <| x_push <| y_invS3 (Nat.le_of_ble_eq_true rfl) <| jEv.exZ (q := 152) rfl (kX10_within _ _ _ _ _ _ _) <| fun hz1 => y_if_eq (fun h2 => ?_) (fun h2 => ?_)
  · replace h := of_pos h h2
    refine jWP.intro (pr := pX10_sayingsBy) (pc := 29) ?_
    refine y_mpri (bs := []) (ls := []) ?_
    obtain rfl := Option.some.inj h
    exact k3
  · replace h := of_neg h h2
    refine jWP.intro (pr := pX10_sayingsBy) (pc := 9) ?_
    refine y_mask <| x_iload rfl <| x_push <| x_push <| y_invS3 (Nat.le_of_ble_eq_true rfl) <| jEv.exZ (q := 152) rfl (kX10_within _ _ _ _ _ _ _) <| fun hz3 => y_if_eq (fun h4 => ?_) (fun h4 => ?_)
    · replace h := of_pos h h4
      refine jWP.intro (pr := pX10_sayingsBy) (pc := 29) ?_
      refine y_mpri (bs := []) (ls := []) ?_
      obtain rfl := Option.some.inj h
      exact k3
    · replace h := of_neg h h4
      refine jWP.intro (pr := pX10_sayingsBy) (pc := 18) ?_
      refine y_mask <| x_iload rfl <| x_push <| x_push <| y_invS3 (Nat.le_of_ble_eq_true rfl) <| jEv.exZ (q := 152) rfl (kX10_within _ _ _ _ _ _ _) <| fun hz5 => y_if_ne (fun h6 => ?_) (fun h6 => ?_)
      · replace h := of_neg h h6
        refine jWP.intro (pr := pX10_sayingsBy) (pc := 32) ?_
        obtain ⟨g7, h⟩ := of_guard h
        refine y_mask <| x_aload rfl <| x_getR (Nat.le_of_ble_eq_true rfl) rfl rfl <| x_getR (Nat.le_of_ble_eq_true rfl) rfl rfl <| x_iload rfl <| x_iald rfl g7 <| x_push <| y_cmp_ne (fun h8 => ?_) (fun h8 => ?_)
        · replace h := of_neg h h8
          refine jWP.intro (pr := pX10_sayingsBy) (pc := 48) ?_
          obtain ⟨g9, h⟩ := of_guard h
          refine y_mask <| x_aload rfl <| x_getR (Nat.le_of_ble_eq_true rfl) rfl rfl <| x_getR (Nat.le_of_ble_eq_true rfl) rfl rfl <| x_iload rfl <| x_iald rfl g9 <| x_iload rfl <| y_cmp_eq (fun h10 => ?_) (fun h10 => ?_)
          · replace h := of_pos h h10
            refine jWP.intro (pr := pX10_sayingsBy) (pc := 64) ?_
            obtain ⟨g11, h⟩ := of_guard h
            refine y_mask <| x_aload rfl <| x_getR (Nat.le_of_ble_eq_true rfl) rfl rfl <| x_getR (Nat.le_of_ble_eq_true rfl) rfl rfl <| x_iload rfl <| x_row (Nat.le_of_ble_eq_true rfl) rfl g11 <| fun hr12 => x_astore rfl <| x_push <| x_istore rfl <| x_push <| x_istore rfl <| y_mask <| y_goto ?_
            obtain ⟨e13y, hw14, h⟩ := of_bind h
            refine jWP.intro (pr := pX10_sayingsBy) (pc := 81) ?_
            refine jwh_use2 (G := (fun s0 => pX10_sayingsBy (jEv jtab (d + 2), jWP (jEv jtab (d + 2)) Q ((Sh0 n).length, jsl (Sh0 n)) pX10_sayingsBy, Q, ((Sh0 n).length, jsl (Sh0 n))) 81 [some (.ref 15), some (.int l1), none, some (.int l3), some (.int l4), some (.ref (77 + (jx l1))), some (.int s0.1), some (.int s0.2.1), none] [] (Sh0 n, s0.2.2, L))) (Gx := (fun s0 => pX10_sayingsBy (jEv jtab (d + 2), jWP (jEv jtab (d + 2)) Q ((Sh0 n).length, jsl (Sh0 n)) pX10_sayingsBy, Q, ((Sh0 n).length, jsl (Sh0 n))) 148 [none, none, none, none, none, none, some (.int s0.1), none, none] [] (Sh0 n, s0.2, L))) (Gr := (fun s0 => Q (some (.int s0.1)) (Sh0 n, s0.2, L))) (fun s1 z1 hz kk1 kk2 kk3 => tcX10_sayingsBy_81 d n A L l1 l3 l4 (77 + (jx l1)) (rows_76 (vp_lt g11)) (rowle (Nat.le_of_ble_eq_true rfl)) s1 hz kk1 kk2 kk3) hw14 ?_ ?_
            · intro e13 hy
              subst hy
              replace h : (some (e13.1, e13.2)) = some z := h
              refine y_mask <| x_iload rfl <| y_ireturn (ls := [none, none, none, none, none, none, some (.int e13.1), none, none]) ?_
              obtain rfl := Option.some.inj h
              exact k3
            · intro s0 hy
              subst hy
              replace h : some s0 = some z := h
              obtain rfl := Option.some.inj h
              exact k3
          · replace h := of_neg h h10
            refine jWP.intro (pr := pX10_sayingsBy) (pc := 61) ?_
            refine y_mpri (bs := []) (ls := []) ?_
            obtain rfl := Option.some.inj h
            exact k3
        · replace h := of_pos h h8
          refine jWP.intro (pr := pX10_sayingsBy) (pc := 45) ?_
          refine y_mpri (bs := []) (ls := []) ?_
          obtain rfl := Option.some.inj h
          exact k3
      · replace h := of_pos h h6
        refine jWP.intro (pr := pX10_sayingsBy) (pc := 29) ?_
        refine y_mpri (bs := []) (ls := []) ?_
        obtain rfl := Option.some.inj h
        exact k3
theorem kX10_sayingsBy (d n : Nat) (A : Nat → Nat → Int32) (L : Nat → Nat → Int64) (l1 : Int32) (l2 : Int32) (l3 : Int32) (l4 : Int32) {z : (Int32 × (Nat → Nat → Int32))} (h : fX10_sayingsBy A l1 l2 l3 l4 = some z) : jEv jtab (d + 3) 150 [.ref 15, .int l1, .int l2, .int l3, .int l4] (Sh0 n, A, L) 0 0 (fun r M2 => r = some (.int z.1) ∧ M2 = (Sh0 n, z.2, L)) :=
  jEv.mk (mt := mX10_sayingsBy) rfl (Nat.le_of_ble_eq_true rfl) (jWP.intro (pr := pX10_sayingsBy) (pc := 0) (tfX10_sayingsBy d n A L l1 l2 l3 l4 h ⟨trivial, jCn.mk ⟨rfl, rfl⟩⟩))
set_option maxRecDepth 20000 in
theorem tjX10_taken_75 (d n : Nat) (A : Nat → Nat → Int32) (L : Nat → Nat → Int64) (l2 : Int32) (l3 : Int32) (l4 : Int32) (s0 : Int32) (s1 : Int32) {Q : Option Value → jM → Prop} {z : Int32} (h : jX10_taken_75 A l2 l3 l4 s0 s1 = some z) (k3 : Q (some (.int z)) (Sh0 n, A, L)) : pX10_taken (jEv jtab (d + 1), jWP (jEv jtab (d + 1)) Q ((Sh0 n).length, jsl (Sh0 n)) pX10_taken, Q, ((Sh0 n).length, jsl (Sh0 n))) 75 [some (.ref 15), none, some (.int l2), some (.int l3), some (.int l4)] [.int s1, .int s0] (Sh0 n, A, L) := by
  unfold jX10_taken_75 at h
  refine y_mask <| y_cmp_lt (fun h1 => ?_) (fun h1 => ?_)
  · replace h := of_pos h h1
    refine jWP.intro (pr := pX10_taken) (pc := 81) ?_
    refine y_mask <| x_iload rfl <| y_if_eq (fun h2 => ?_) (fun h2 => ?_)
    · replace h := of_pos h h2
      refine jWP.intro (pr := pX10_taken) (pc := 107) ?_
      refine y_mask <| x_iload rfl <| x_push <| y_cmp_ge (fun h3 => ?_) (fun h3 => ?_)
      · replace h := of_pos h h3
        refine jWP.intro (pr := pX10_taken) (pc := 131) ?_
        refine y_mask <| x_push <| y_mask <| y_goto ?_
        refine jWP.intro (pr := pX10_taken) (pc := 133) ?_
        refine y_mri (bs := []) (ls := []) ?_
        obtain rfl := Option.some.inj h
        exact k3
      · replace h := of_neg h h3
        refine jWP.intro (pr := pX10_taken) (pc := 113) ?_
        obtain ⟨r4, hc5, h⟩ := of_bind h
        refine y_mask <| x_aload rfl <| x_getR (Nat.le_of_ble_eq_true rfl) rfl rfl <| x_iload rfl <| x_iload rfl <| y_invV2 (Nat.le_of_ble_eq_true rfl) rfl (Nat.le_of_ble_eq_true rfl) <| jEv.exZ (q := 56) rfl (kX6_isOf _ _ _ _ _ _ hc5) <| fun hz6 => y_if_eq (fun h7 => ?_) (fun h7 => ?_)
        · replace h := of_pos h h7
          refine jWP.intro (pr := pX10_taken) (pc := 131) ?_
          refine y_mask <| x_push <| y_mask <| y_goto ?_
          refine jWP.intro (pr := pX10_taken) (pc := 133) ?_
          refine y_mri (bs := []) (ls := []) ?_
          obtain rfl := Option.some.inj h
          exact k3
        · replace h := of_neg h h7
          refine jWP.intro (pr := pX10_taken) (pc := 126) ?_
          refine y_mask <| x_iload rfl <| y_mask <| y_goto ?_
          refine jWP.intro (pr := pX10_taken) (pc := 133) ?_
          refine y_mri (bs := []) (ls := []) ?_
          obtain rfl := Option.some.inj h
          exact k3
    · replace h := of_neg h h2
      refine jWP.intro (pr := pX10_taken) (pc := 85) ?_
      refine y_mask <| x_iload rfl <| x_push <| y_cmp_ne (fun h8 => ?_) (fun h8 => ?_)
      · replace h := of_neg h h8
        refine jWP.intro (pr := pX10_taken) (pc := 104) ?_
        refine y_mask <| x_push <| y_mask <| y_goto ?_
        refine jWP.intro (pr := pX10_taken) (pc := 106) ?_
        refine y_mri (bs := []) (ls := []) ?_
        obtain rfl := Option.some.inj h
        exact k3
      · replace h := of_pos h h8
        refine jWP.intro (pr := pX10_taken) (pc := 91) ?_
        obtain ⟨g9, h⟩ := of_guard h
        refine y_mask <| x_aload rfl <| x_getR (Nat.le_of_ble_eq_true rfl) rfl rfl <| x_getR (Nat.le_of_ble_eq_true rfl) rfl rfl <| x_iload rfl <| x_iald rfl g9 <| y_mask <| y_goto ?_
        refine jWP.intro (pr := pX10_taken) (pc := 106) ?_
        refine y_mri (bs := []) (ls := []) ?_
        obtain rfl := Option.some.inj h
        exact k3
  · replace h := of_neg h h1
    refine jWP.intro (pr := pX10_taken) (pc := 78) ?_
    refine y_mpri (bs := []) (ls := []) ?_
    obtain rfl := Option.some.inj h
    exact k3
set_option maxRecDepth 20000 in
theorem tjX10_taken_50 (d n : Nat) (A : Nat → Nat → Int32) (L : Nat → Nat → Int64) (l2 : Int32) (l3 : Int32) (s0 : Int32) {Q : Option Value → jM → Prop} {z : Int32} (h : jX10_taken_50 A l2 l3 s0 = some z) (k3 : Q (some (.int z)) (Sh0 n, A, L)) : pX10_taken (jEv jtab (d + 1), jWP (jEv jtab (d + 1)) Q ((Sh0 n).length, jsl (Sh0 n)) pX10_taken, Q, ((Sh0 n).length, jsl (Sh0 n))) 50 [some (.ref 15), none, some (.int l2), some (.int l3), none] [.int s0] (Sh0 n, A, L) := by
  unfold jX10_taken_50 at h
  refine y_mask <| x_istore rfl <| x_iload rfl <| x_iload rfl <| y_if_eq (fun h1 => ?_) (fun h1 => ?_)
  · replace h := of_pos h h1
    refine jWP.intro (pr := pX10_taken) (pc := 68) ?_
    refine y_mask <| x_aload rfl <| x_getR (Nat.le_of_ble_eq_true rfl) rfl rfl <| x_getI (Nat.le_of_ble_eq_true rfl) rfl rfl <| y_mask <| y_goto ?_
    refine jWP.intro (pr := pX10_taken) (pc := 75) ?_
    exact tjX10_taken_75 d n A L l2 l3 s0 s0 (A 16 5) h k3
  · replace h := of_neg h h1
    refine jWP.intro (pr := pX10_taken) (pc := 58) ?_
    refine y_mask <| x_aload rfl <| x_getR (Nat.le_of_ble_eq_true rfl) rfl rfl <| x_getI (Nat.le_of_ble_eq_true rfl) rfl rfl <| y_mask <| y_goto ?_
    refine jWP.intro (pr := pX10_taken) (pc := 75) ?_
    exact tjX10_taken_75 d n A L l2 l3 s0 s0 (A 54 3) h k3
set_option maxRecDepth 20000 in
theorem tjX10_taken_37 (d n : Nat) (A : Nat → Nat → Int32) (L : Nat → Nat → Int64) (l1 : Int32) (l2 : Int32) (s0 : Int32) {Q : Option Value → jM → Prop} {z : Int32} (h : jX10_taken_37 A l1 l2 s0 = some z) (k3 : Q (some (.int z)) (Sh0 n, A, L)) : pX10_taken (jEv jtab (d + 1), jWP (jEv jtab (d + 1)) Q ((Sh0 n).length, jsl (Sh0 n)) pX10_taken, Q, ((Sh0 n).length, jsl (Sh0 n))) 37 [some (.ref 15), some (.int l1), some (.int l2), none, none] [.int s0] (Sh0 n, A, L) := by
  unfold jX10_taken_37 at h
  refine y_mask <| x_istore rfl <| x_iload rfl <| y_if_eq (fun h1 => ?_) (fun h1 => ?_)
  · replace h := of_pos h h1
    refine jWP.intro (pr := pX10_taken) (pc := 46) ?_
    refine y_mask <| x_iload rfl <| x_push <| x_isub <| y_mask <| y_goto ?_
    refine jWP.intro (pr := pX10_taken) (pc := 50) ?_
    exact tjX10_taken_50 d n A L l2 s0 (l1 - (6 : Int32)) h k3
  · replace h := of_neg h h1
    refine jWP.intro (pr := pX10_taken) (pc := 42) ?_
    refine y_mask <| x_iload rfl <| y_mask <| y_goto ?_
    refine jWP.intro (pr := pX10_taken) (pc := 50) ?_
    exact tjX10_taken_50 d n A L l2 s0 l1 h k3
set_option maxRecDepth 20000 in
theorem tfX10_taken (d n : Nat) (A : Nat → Nat → Int32) (L : Nat → Nat → Int64) (l1 : Int32) (l2 : Int32) {Q : Option Value → jM → Prop} {z : Int32} (h : fX10_taken A l1 l2 = some z) (k3 : Q (some (.int z)) (Sh0 n, A, L)) : pX10_taken (jEv jtab (d + 1), jWP (jEv jtab (d + 1)) Q ((Sh0 n).length, jsl (Sh0 n)) pX10_taken, Q, ((Sh0 n).length, jsl (Sh0 n))) 0 [some (.ref 15), some (.int l1), some (.int l2), none, none] [] (Sh0 n, A, L) := by
  unfold fX10_taken at h
  refine y_mask <| x_iload rfl <| x_push <| x_push <| y_invS3 (Nat.le_of_ble_eq_true rfl) <| jEv.exZ (q := 152) rfl (kX10_within _ _ _ _ _ _ _) <| fun hz1 => y_if_ne (fun h2 => ?_) (fun h2 => ?_)
  · replace h := of_neg h h2
    refine jWP.intro (pr := pX10_taken) (pc := 13) ?_
    refine y_mask <| x_iload rfl <| x_push <| x_push <| y_invS3 (Nat.le_of_ble_eq_true rfl) <| jEv.exZ (q := 152) rfl (kX10_within _ _ _ _ _ _ _) <| fun hz3 => y_if_ne (fun h4 => ?_) (fun h4 => ?_)
    · replace h := of_neg h h4
      refine jWP.intro (pr := pX10_taken) (pc := 26) ?_
      refine y_mask <| x_iload rfl <| x_push <| y_cmp_ge (fun h5 => ?_) (fun h5 => ?_)
      · replace h := of_pos h h5
        refine jWP.intro (pr := pX10_taken) (pc := 36) ?_
        refine y_mask <| x_push <| y_mask <| y_goto ?_
        refine jWP.intro (pr := pX10_taken) (pc := 37) ?_
        exact tjX10_taken_37 d n A L l1 l2 (0 : Int32) h k3
      · replace h := of_neg h h5
        refine jWP.intro (pr := pX10_taken) (pc := 32) ?_
        refine y_mask <| x_push <| y_mask <| y_goto ?_
        refine jWP.intro (pr := pX10_taken) (pc := 37) ?_
        exact tjX10_taken_37 d n A L l1 l2 (1 : Int32) h k3
    · replace h := of_pos h h4
      refine jWP.intro (pr := pX10_taken) (pc := 23) ?_
      refine y_mpri (bs := []) (ls := []) ?_
      obtain rfl := Option.some.inj h
      exact k3
  · replace h := of_pos h h2
    refine jWP.intro (pr := pX10_taken) (pc := 10) ?_
    refine y_mpri (bs := []) (ls := []) ?_
    obtain rfl := Option.some.inj h
    exact k3
theorem kX10_taken (d n : Nat) (A : Nat → Nat → Int32) (L : Nat → Nat → Int64) (l1 : Int32) (l2 : Int32) {z : Int32} (h : fX10_taken A l1 l2 = some z) : jEv jtab (d + 2) 151 [.ref 15, .int l1, .int l2] (Sh0 n, A, L) 0 0 (fun r M2 => r = some (.int z) ∧ M2 = (Sh0 n, A, L)) :=
  jEv.mk (mt := mX10_taken) rfl (Nat.le_of_ble_eq_true rfl) (jWP.intro (pr := pX10_taken) (pc := 0) (tfX10_taken d n A L l1 l2 h ⟨trivial, jCn.mk ⟨rfl, rfl⟩⟩))
set_option maxRecDepth 20000 in
theorem tfX11_in (d n : Nat) (A : Nat → Nat → Int32) (L : Nat → Nat → Int64) (l0 : Int32) (l1 : Int32) (l2 : Int32) {Q : Option Value → jM → Prop} {z : Int32} (h : fX11_in l0 l1 l2 = z) (k3 : (narrow .boolean (.int z) = .int z) → Q (some (.int z)) (Sh0 n, A, L)) : pX11_in (jEv jtab (d + 0), jWP (jEv jtab (d + 0)) Q ((Sh0 n).length, jsl (Sh0 n)) pX11_in, Q, ((Sh0 n).length, jsl (Sh0 n))) 0 [some (.int l0), some (.int l1), some (.int l2)] [] (Sh0 n, A, L) := by
  unfold fX11_in at h
  refine y_mask <| x_iload rfl <| x_iload rfl <| y_cmp_lt (fun h1 => ?_) (fun h1 => ?_)
  · replace h := of_pos h h1
    refine jWP.intro (pr := pX11_in) (pc := 14) ?_
    refine y_mask <| x_push <| y_mask <| y_goto ?_
    refine jWP.intro (pr := pX11_in) (pc := 15) ?_
    refine y_mri (bs := []) (ls := []) ?_
    subst h
    exact k3 (jnar_boolean (.inl rfl))
  · replace h := of_neg h h1
    refine jWP.intro (pr := pX11_in) (pc := 5) ?_
    refine y_mask <| x_iload rfl <| x_iload rfl <| y_cmp_gt (fun h2 => ?_) (fun h2 => ?_)
    · replace h := of_pos h h2
      refine jWP.intro (pr := pX11_in) (pc := 14) ?_
      refine y_mask <| x_push <| y_mask <| y_goto ?_
      refine jWP.intro (pr := pX11_in) (pc := 15) ?_
      refine y_mri (bs := []) (ls := []) ?_
      subst h
      exact k3 (jnar_boolean (.inl rfl))
    · replace h := of_neg h h2
      refine jWP.intro (pr := pX11_in) (pc := 10) ?_
      refine y_mask <| x_push <| y_mask <| y_goto ?_
      refine jWP.intro (pr := pX11_in) (pc := 15) ?_
      refine y_mri (bs := []) (ls := []) ?_
      subst h
      exact k3 (jnar_boolean (.inr rfl))
theorem kX11_in (d n : Nat) (A : Nat → Nat → Int32) (L : Nat → Nat → Int64) (l0 : Int32) (l1 : Int32) (l2 : Int32) : jEv jtab (d + 1) 159 [.int l0, .int l1, .int l2] (Sh0 n, A, L) 0 0 (fun r M2 => r = some (.int (fX11_in l0 l1 l2)) ∧ M2 = (Sh0 n, A, L)) :=
  jEv.mk (mt := mX11_in) rfl (Nat.le_of_ble_eq_true rfl) (jWP.intro (pr := pX11_in) (pc := 0) (tfX11_in d n A L l0 l1 l2 rfl (fun hz => ⟨hz, jCn.mk ⟨rfl, rfl⟩⟩)))
set_option maxRecDepth 20000 in
theorem tfX11_isNow (d n : Nat) (A : Nat → Nat → Int32) (L : Nat → Nat → Int64) (l0 : Int32) (l1 : Int32) {Q : Option Value → jM → Prop} {z : Int32} (h : fX11_isNow l0 l1 = z) (k3 : (narrow .boolean (.int z) = .int z) → Q (some (.int z)) (Sh0 n, A, L)) : pX11_isNow (jEv jtab (d + 1), jWP (jEv jtab (d + 1)) Q ((Sh0 n).length, jsl (Sh0 n)) pX11_isNow, Q, ((Sh0 n).length, jsl (Sh0 n))) 0 [some (.int l0), some (.int l1)] [] (Sh0 n, A, L) := by
  unfold fX11_isNow at h
  refine y_mask <| x_iload rfl <| y_sw (y_case (fun h1 => ?_) (fun h1 => y_case (fun h2 => ?_) (fun h2 => y_case (fun h3 => ?_) (fun h3 => y_case (fun h4 => ?_) (fun h4 => y_case (fun h5 => ?_) (fun h5 => y_dflt ?_))))))
  · replace h := of_pos h h1
    refine jWP.intro (pr := pX11_isNow) (pc := 36) ?_
    refine y_mask <| x_iload rfl <| x_push <| x_push <| y_invS3 (Nat.le_of_ble_eq_true rfl) <| jEv.exZ (q := 159) rfl (kX11_in _ _ _ _ _ _ _) <| fun hz6 => y_ireturn (ls := [none, some (.int l1)]) ?_
    subst h
    exact k3 hz6
  · replace h := of_neg h h1
    replace h := of_pos h h2
    refine jWP.intro (pr := pX11_isNow) (pc := 44) ?_
    refine y_mask <| x_iload rfl <| x_push <| x_push <| y_invS3 (Nat.le_of_ble_eq_true rfl) <| jEv.exZ (q := 159) rfl (kX11_in _ _ _ _ _ _ _) <| fun hz7 => y_ireturn (ls := [none, some (.int l1)]) ?_
    subst h
    exact k3 hz7
  · replace h := of_neg h h1
    replace h := of_neg h h2
    replace h := of_pos h h3
    refine jWP.intro (pr := pX11_isNow) (pc := 52) ?_
    refine y_mask <| x_iload rfl <| x_push <| x_push <| y_invS3 (Nat.le_of_ble_eq_true rfl) <| jEv.exZ (q := 159) rfl (kX11_in _ _ _ _ _ _ _) <| fun hz8 => y_ireturn (ls := [none, some (.int l1)]) ?_
    subst h
    exact k3 hz8
  · replace h := of_neg h h1
    replace h := of_neg h h2
    replace h := of_neg h h3
    replace h := of_pos h h4
    refine jWP.intro (pr := pX11_isNow) (pc := 61) ?_
    refine y_mask <| x_iload rfl <| x_push <| x_push <| y_invS3 (Nat.le_of_ble_eq_true rfl) <| jEv.exZ (q := 159) rfl (kX11_in _ _ _ _ _ _ _) <| fun hz9 => y_ireturn (ls := [none, some (.int l1)]) ?_
    subst h
    exact k3 hz9
  · replace h := of_neg h h1
    replace h := of_neg h h2
    replace h := of_neg h h3
    replace h := of_neg h h4
    replace h := of_pos h h5
    refine jWP.intro (pr := pX11_isNow) (pc := 69) ?_
    refine y_mask <| x_iload rfl <| x_push <| x_push <| y_invS3 (Nat.le_of_ble_eq_true rfl) <| jEv.exZ (q := 159) rfl (kX11_in _ _ _ _ _ _ _) <| fun hz10 => y_ireturn (ls := [none, some (.int l1)]) ?_
    subst h
    exact k3 hz10
  · replace h := of_neg h h1
    replace h := of_neg h h2
    replace h := of_neg h h3
    replace h := of_neg h h4
    replace h := of_neg h h5
    skip
    refine jWP.intro (pr := pX11_isNow) (pc := 78) ?_
    refine y_mask <| x_iload rfl <| x_push <| x_push <| y_invS3 (Nat.le_of_ble_eq_true rfl) <| jEv.exZ (q := 159) rfl (kX11_in _ _ _ _ _ _ _) <| fun hz11 => y_ireturn (ls := [none, some (.int l1)]) ?_
    subst h
    exact k3 hz11
theorem kX11_isNow (d n : Nat) (A : Nat → Nat → Int32) (L : Nat → Nat → Int64) (l0 : Int32) (l1 : Int32) : jEv jtab (d + 2) 163 [.int l0, .int l1] (Sh0 n, A, L) 0 0 (fun r M2 => r = some (.int (fX11_isNow l0 l1)) ∧ M2 = (Sh0 n, A, L)) :=
  jEv.mk (mt := mX11_isNow) rfl (Nat.le_of_ble_eq_true rfl) (jWP.intro (pr := pX11_isNow) (pc := 0) (tfX11_isNow d n A L l0 l1 rfl (fun hz => ⟨hz, jCn.mk ⟨rfl, rfl⟩⟩)))
set_option maxRecDepth 20000 in
theorem tfX11_set (d n : Nat) (A : Nat → Nat → Int32) (L : Nat → Nat → Int64) (l1 : Int32) (l2 : Int32) {Q : Option Value → jM → Prop} {z : (Int32 × (Nat → Nat → Int32))} (h : fX11_set A l1 l2 = some z) (k3 : Q (some (.int z.1)) (Sh0 n, z.2, L)) : pX11_set (jEv jtab (d + 2), jWP (jEv jtab (d + 2)) Q ((Sh0 n).length, jsl (Sh0 n)) pX11_set, Q, ((Sh0 n).length, jsl (Sh0 n))) 0 [some (.ref 94), some (.int l1), some (.int l2), none] [] (Sh0 n, A, L) := by
  unfold fX11_set at h
  refine y_mask <| x_iload rfl <| x_push <| x_push <| y_invS3 (Nat.le_of_ble_eq_true rfl) <| jEv.exZ (q := 159) rfl (kX11_in _ _ _ _ _ _ _) <| fun hz1 => y_if_ne (fun h2 => ?_) (fun h2 => ?_)
  · replace h := of_neg h h2
    refine jWP.intro (pr := pX11_set) (pc := 11) ?_
    refine y_mask <| x_iload rfl <| x_iload rfl <| y_invS2 (Nat.le_of_ble_eq_true rfl) <| jEv.exZ (q := 163) rfl (kX11_isNow _ _ _ _ _ _) <| fun hz3 => y_if_ne (fun h4 => ?_) (fun h4 => ?_)
    · replace h := of_neg h h4
      refine jWP.intro (pr := pX11_set) (pc := 22) ?_
      obtain ⟨g5, h⟩ := of_guard h
      obtain ⟨g6, h⟩ := of_guard h
      obtain ⟨m7, hm8, h⟩ := of_bind h
      refine y_mask <| x_aload rfl <| x_getR (Nat.le_of_ble_eq_true rfl) rfl rfl <| x_iload rfl <| x_iald rfl g5 <| x_istore rfl <| x_aload rfl <| x_getR (Nat.le_of_ble_eq_true rfl) rfl rfl <| x_iload rfl <| x_iload rfl <| x_iast (Nat.le_of_ble_eq_true rfl) rfl g6 <| y_let (Option.some.inj hm8) <| x_iload rfl <| y_ireturn (ls := [some (.ref 94), some (.int l1), some (.int l2), some (.int (A 95 (jx l1)))]) ?_
      obtain rfl := Option.some.inj h
      exact k3
    · replace h := of_pos h h4
      refine jWP.intro (pr := pX11_set) (pc := 19) ?_
      refine y_mpri (bs := []) (ls := []) ?_
      obtain rfl := Option.some.inj h
      exact k3
  · replace h := of_pos h h2
    refine jWP.intro (pr := pX11_set) (pc := 9) ?_
    refine y_mpri (bs := []) (ls := []) ?_
    obtain rfl := Option.some.inj h
    exact k3
theorem kX11_set (d n : Nat) (A : Nat → Nat → Int32) (L : Nat → Nat → Int64) (l1 : Int32) (l2 : Int32) {z : (Int32 × (Nat → Nat → Int32))} (h : fX11_set A l1 l2 = some z) : jEv jtab (d + 3) 164 [.ref 94, .int l1, .int l2] (Sh0 n, A, L) 0 0 (fun r M2 => r = some (.int z.1) ∧ M2 = (Sh0 n, z.2, L)) :=
  jEv.mk (mt := mX11_set) rfl (Nat.le_of_ble_eq_true rfl) (jWP.intro (pr := pX11_set) (pc := 0) (tfX11_set d n A L l1 l2 h ⟨trivial, jCn.mk ⟨rfl, rfl⟩⟩))
set_option maxRecDepth 20000 in
theorem tfX11_want (d n : Nat) (A : Nat → Nat → Int32) (L : Nat → Nat → Int64) (l1 : Int32) (l2 : Int32) {Q : Option Value → jM → Prop} {z : (Int32 × (Nat → Nat → Int32))} (h : fX11_want A l1 l2 = some z) (k3 : Q (some (.int z.1)) (Sh0 n, z.2, L)) : pX11_want (jEv jtab (d + 1), jWP (jEv jtab (d + 1)) Q ((Sh0 n).length, jsl (Sh0 n)) pX11_want, Q, ((Sh0 n).length, jsl (Sh0 n))) 0 [some (.ref 94), some (.int l1), some (.int l2), none] [] (Sh0 n, A, L) := by
  unfold fX11_want at h
  refine y_mask <| x_iload rfl <| x_push <| x_push <| y_invS3 (Nat.le_of_ble_eq_true rfl) <| jEv.exZ (q := 159) rfl (kX11_in _ _ _ _ _ _ _) <| fun hz1 => y_if_ne (fun h2 => ?_) (fun h2 => ?_)
  · replace h := of_neg h h2
    refine jWP.intro (pr := pX11_want) (pc := 11) ?_
    refine y_mask <| x_iload rfl <| x_push <| x_push <| y_invS3 (Nat.le_of_ble_eq_true rfl) <| jEv.exZ (q := 159) rfl (kX11_in _ _ _ _ _ _ _) <| fun hz3 => y_if_ne (fun h4 => ?_) (fun h4 => ?_)
    · replace h := of_neg h h4
      refine jWP.intro (pr := pX11_want) (pc := 24) ?_
      obtain ⟨g5, h⟩ := of_guard h
      obtain ⟨g6, h⟩ := of_guard h
      obtain ⟨m7, hm8, h⟩ := of_bind h
      refine y_mask <| x_aload rfl <| x_getR (Nat.le_of_ble_eq_true rfl) rfl rfl <| x_iload rfl <| x_iald rfl g5 <| x_istore rfl <| x_aload rfl <| x_getR (Nat.le_of_ble_eq_true rfl) rfl rfl <| x_iload rfl <| x_iload rfl <| x_iast (Nat.le_of_ble_eq_true rfl) rfl g6 <| y_let (Option.some.inj hm8) <| x_iload rfl <| y_ireturn (ls := [some (.ref 94), some (.int l1), some (.int l2), some (.int (A 96 (jx l1)))]) ?_
      obtain rfl := Option.some.inj h
      exact k3
    · replace h := of_pos h h4
      refine jWP.intro (pr := pX11_want) (pc := 21) ?_
      refine y_mpri (bs := []) (ls := []) ?_
      obtain rfl := Option.some.inj h
      exact k3
  · replace h := of_pos h h2
    refine jWP.intro (pr := pX11_want) (pc := 9) ?_
    refine y_mpri (bs := []) (ls := []) ?_
    obtain rfl := Option.some.inj h
    exact k3
theorem kX11_want (d n : Nat) (A : Nat → Nat → Int32) (L : Nat → Nat → Int64) (l1 : Int32) (l2 : Int32) {z : (Int32 × (Nat → Nat → Int32))} (h : fX11_want A l1 l2 = some z) : jEv jtab (d + 2) 165 [.ref 94, .int l1, .int l2] (Sh0 n, A, L) 0 0 (fun r M2 => r = some (.int z.1) ∧ M2 = (Sh0 n, z.2, L)) :=
  jEv.mk (mt := mX11_want) rfl (Nat.le_of_ble_eq_true rfl) (jWP.intro (pr := pX11_want) (pc := 0) (tfX11_want d n A L l1 l2 h ⟨trivial, jCn.mk ⟨rfl, rfl⟩⟩))
