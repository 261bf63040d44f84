/-! METHODS AS FUNCTIONS, printed by dec.py -/
set_option maxRecDepth 20000 in
theorem tcX8_tokenAt_69 (d n : Nat) (A : Nat → Nat → Int32) (L : Nat → Nat → Int64) (l1 : Int32) (s : (Nat → Nat → Int32)) {Q : Option Value → jM → Prop} {z : ((Nat → Nat → Int32) ⊕ (Nat → Nat → Int32))} (h : cX8_tokenAt_69 l1 s = some z) (k1 : ∀ s0, z = .inl s0 → pX8_tokenAt (jEv jtab (d + 7), jWP (jEv jtab (d + 7)) Q ((Sh0 n).length, jsl (Sh0 n)) pX8_tokenAt, Q, ((Sh0 n).length, jsl (Sh0 n))) 69 [some (.ref 22), some (.int l1)] [] (Sh0 n, s0, L)) (k2 : ∀ s0, z = .inr s0 → pX8_tokenAt (jEv jtab (d + 7), jWP (jEv jtab (d + 7)) Q ((Sh0 n).length, jsl (Sh0 n)) pX8_tokenAt, Q, ((Sh0 n).length, jsl (Sh0 n))) 108 [some (.ref 22), some (.int l1)] [] (Sh0 n, s0, L)) : pX8_tokenAt (jEv jtab (d + 7), jWP (jEv jtab (d + 7)) Q ((Sh0 n).length, jsl (Sh0 n)) pX8_tokenAt, Q, ((Sh0 n).length, jsl (Sh0 n))) 69 [some (.ref 22), some (.int l1)] [] (Sh0 n, s, L) := by
  unfold cX8_tokenAt_69 at h
  refine y_mask <| x_aload rfl <| x_getI (Nat.le_of_ble_eq_true rfl) rfl rfl <| x_aload rfl <| x_getI (Nat.le_of_ble_eq_true rfl) rfl rfl <| y_cmp_ge (fun h1 => ?_) (fun h1 => ?_)
  · replace h := of_pos h h1
    refine jWP.intro (pr := pX8_tokenAt) (pc := 108) ?_
    have hk := k2 _ (Option.some.inj h).symm
    exact hk
  · replace h := of_neg h h1
    refine jWP.intro (pr := pX8_tokenAt) (pc := 80) ?_
    obtain ⟨g2, h⟩ := of_guard h
    refine y_mask <| x_aload rfl <| x_getR (Nat.le_of_ble_eq_true rfl) rfl rfl <| x_aload rfl <| x_getI (Nat.le_of_ble_eq_true rfl) rfl rfl <| x_iald rfl g2 <| y_invS1 (Nat.le_of_ble_eq_true rfl) <| jEv.exZ (q := 93) rfl (kX8_isDigit _ _ _ _ _) <| fun hz3 => y_if_eq (fun h4 => ?_) (fun h4 => ?_)
    · replace h := of_pos h h4
      refine jWP.intro (pr := pX8_tokenAt) (pc := 108) ?_
      have hk := k2 _ (Option.some.inj h).symm
      exact hk
    · replace h := of_neg h h4
      refine jWP.intro (pr := pX8_tokenAt) (pc := 95) ?_
      refine y_mask <| x_aload rfl <| x_dup rfl <| x_getI (Nat.le_of_ble_eq_true rfl) rfl rfl <| x_push <| x_iadd <| x_putI (Nat.le_of_ble_eq_true rfl) rfl rfl <| y_mask <| y_goto ?_
      refine jWP.intro (pr := pX8_tokenAt) (pc := 69) ?_
      have hk := k1 _ (Option.some.inj h).symm
      exact hk
set_option maxRecDepth 20000 in
theorem tcX8_tokenAt_12 (d n : Nat) (A : Nat → Nat → Int32) (L : Nat → Nat → Int64) (l1 : Int32) (s : (Nat → Nat → Int32)) {Q : Option Value → jM → Prop} {z : ((Nat → Nat → Int32) ⊕ (Nat → Nat → Int32))} (h : cX8_tokenAt_12 l1 s = some z) (k1 : ∀ s0, z = .inl s0 → pX8_tokenAt (jEv jtab (d + 7), jWP (jEv jtab (d + 7)) Q ((Sh0 n).length, jsl (Sh0 n)) pX8_tokenAt, Q, ((Sh0 n).length, jsl (Sh0 n))) 12 [some (.ref 22), some (.int l1)] [] (Sh0 n, s0, L)) (k2 : ∀ s0, z = .inr s0 → pX8_tokenAt (jEv jtab (d + 7), jWP (jEv jtab (d + 7)) Q ((Sh0 n).length, jsl (Sh0 n)) pX8_tokenAt, Q, ((Sh0 n).length, jsl (Sh0 n))) 51 [some (.ref 22), some (.int l1)] [] (Sh0 n, s0, L)) : pX8_tokenAt (jEv jtab (d + 7), jWP (jEv jtab (d + 7)) Q ((Sh0 n).length, jsl (Sh0 n)) pX8_tokenAt, Q, ((Sh0 n).length, jsl (Sh0 n))) 12 [some (.ref 22), some (.int l1)] [] (Sh0 n, s, L) := by
  unfold cX8_tokenAt_12 at h
  refine y_mask <| x_aload rfl <| x_getI (Nat.le_of_ble_eq_true rfl) rfl rfl <| x_aload rfl <| x_getI (Nat.le_of_ble_eq_true rfl) rfl rfl <| y_cmp_ge (fun h1 => ?_) (fun h1 => ?_)
  · replace h := of_pos h h1
    refine jWP.intro (pr := pX8_tokenAt) (pc := 51) ?_
    have hk := k2 _ (Option.some.inj h).symm
    exact hk
  · replace h := of_neg h h1
    refine jWP.intro (pr := pX8_tokenAt) (pc := 23) ?_
    obtain ⟨g2, h⟩ := of_guard h
    refine y_mask <| x_aload rfl <| x_getR (Nat.le_of_ble_eq_true rfl) rfl rfl <| x_aload rfl <| x_getI (Nat.le_of_ble_eq_true rfl) rfl rfl <| x_iald rfl g2 <| y_invS1 (Nat.le_of_ble_eq_true rfl) <| jEv.exZ (q := 92) rfl (kX8_isLetter _ _ _ _ _) <| fun hz3 => y_if_eq (fun h4 => ?_) (fun h4 => ?_)
    · replace h := of_pos h h4
      refine jWP.intro (pr := pX8_tokenAt) (pc := 51) ?_
      have hk := k2 _ (Option.some.inj h).symm
      exact hk
    · replace h := of_neg h h4
      refine jWP.intro (pr := pX8_tokenAt) (pc := 38) ?_
      refine y_mask <| x_aload rfl <| x_dup rfl <| x_getI (Nat.le_of_ble_eq_true rfl) rfl rfl <| x_push <| x_iadd <| x_putI (Nat.le_of_ble_eq_true rfl) rfl rfl <| y_mask <| y_goto ?_
      refine jWP.intro (pr := pX8_tokenAt) (pc := 12) ?_
      have hk := k1 _ (Option.some.inj h).symm
      exact hk
set_option maxRecDepth 20000 in
theorem tfX8_tokenAt (d n : Nat) (A : Nat → Nat → Int32) (L : Nat → Nat → Int64) (l1 : Int32) {Q : Option Value → jM → Prop} {z : (Int32 × (Nat → Nat → Int32))} (h : fX8_tokenAt A l1 = some z) (k3 : Q (some (.int z.1)) (Sh0 n, z.2, L)) : pX8_tokenAt (jEv jtab (d + 7), jWP (jEv jtab (d + 7)) Q ((Sh0 n).length, jsl (Sh0 n)) pX8_tokenAt, Q, ((Sh0 n).length, jsl (Sh0 n))) 0 [some (.ref 22), some (.int l1)] [] (Sh0 n, A, L) := by
  unfold fX8_tokenAt at h
  obtain ⟨g1, h⟩ := of_guard h
  refine y_mask <| x_aload rfl <| x_getR (Nat.le_of_ble_eq_true rfl) rfl rfl <| x_iload rfl <| x_iald rfl g1 <| y_invS1 (Nat.le_of_ble_eq_true rfl) <| jEv.exZ (q := 92) rfl (kX8_isLetter _ _ _ _ _) <| fun hz2 => y_if_eq (fun h3 => ?_) (fun h3 => ?_)
  · replace h := of_pos h h3
    refine jWP.intro (pr := pX8_tokenAt) (pc := 57) ?_
    obtain ⟨g4, h⟩ := of_guard h
    refine y_mask <| x_aload rfl <| x_getR (Nat.le_of_ble_eq_true rfl) rfl rfl <| x_iload rfl <| x_iald rfl g4 <| y_invS1 (Nat.le_of_ble_eq_true rfl) <| jEv.exZ (q := 93) rfl (kX8_isDigit _ _ _ _ _) <| fun hz5 => y_if_eq (fun h6 => ?_) (fun h6 => ?_)
    · replace h := of_pos h h6
      refine jWP.intro (pr := pX8_tokenAt) (pc := 114) ?_
      obtain ⟨g7, h⟩ := of_guard h
      obtain ⟨r8, hc9, h⟩ := of_bind h
      refine y_mask <| x_aload rfl <| x_dup rfl <| x_getI (Nat.le_of_ble_eq_true rfl) rfl rfl <| x_push <| x_iadd <| x_putI (Nat.le_of_ble_eq_true rfl) rfl rfl <| x_push <| x_aload rfl <| x_getR (Nat.le_of_ble_eq_true rfl) rfl rfl <| x_iload rfl <| x_iald rfl g7 <| x_i2c <| y_invT1 (Nat.le_of_ble_eq_true rfl) rfl (Nat.le_of_ble_eq_true rfl) <| jEv.exI (kJ0_indexOf_0f7a4 _ _ _ _ _ hc9) <| y_if_lt (fun h10 => ?_) (fun h10 => ?_)
      · replace h := of_pos h h10
        refine jWP.intro (pr := pX8_tokenAt) (pc := 148) ?_
        refine y_mask <| x_push <| y_mask <| y_goto ?_
        refine jWP.intro (pr := pX8_tokenAt) (pc := 149) ?_
        refine y_mri (bs := []) (ls := []) ?_
        obtain rfl := Option.some.inj h
        exact k3
      · replace h := of_neg h h10
        refine jWP.intro (pr := pX8_tokenAt) (pc := 139) ?_
        obtain ⟨g11, h⟩ := of_guard h
        refine y_mask <| x_aload rfl <| x_getR (Nat.le_of_ble_eq_true rfl) rfl rfl <| x_iload rfl <| x_iald rfl g11 <| y_mask <| y_goto ?_
        refine jWP.intro (pr := pX8_tokenAt) (pc := 149) ?_
        refine y_mri (bs := []) (ls := []) ?_
        obtain rfl := Option.some.inj h
        exact k3
    · replace h := of_neg h h6
      obtain ⟨e12, hw13, h⟩ := of_bind h
      refine jWP.intro (pr := pX8_tokenAt) (pc := 69) ?_
      refine jwh_use (G := (fun s0 => pX8_tokenAt (jEv jtab (d + 7), jWP (jEv jtab (d + 7)) Q ((Sh0 n).length, jsl (Sh0 n)) pX8_tokenAt, Q, ((Sh0 n).length, jsl (Sh0 n))) 69 [some (.ref 22), some (.int l1)] [] (Sh0 n, s0, L))) (Gx := (fun s0 => pX8_tokenAt (jEv jtab (d + 7), jWP (jEv jtab (d + 7)) Q ((Sh0 n).length, jsl (Sh0 n)) pX8_tokenAt, Q, ((Sh0 n).length, jsl (Sh0 n))) 108 [some (.ref 22), some (.int l1)] [] (Sh0 n, s0, L))) (fun s1 z1 hz kk1 kk2 => tcX8_tokenAt_69 d n A L l1 s1 hz kk1 kk2) hw13 ?_
      obtain ⟨r14, hc15, h⟩ := of_bind h
      refine y_mask <| x_aload rfl <| x_iload rfl <| y_invV1 (Nat.le_of_ble_eq_true rfl) rfl (Nat.le_of_ble_eq_true rfl) <| jEv.exI (kX8_numberFrom _ _ _ _ _ hc15) <| y_ireturn (ls := [some (.ref 22), some (.int l1)]) ?_
      obtain rfl := Option.some.inj h
      exact k3
  · replace h := of_neg h h3
    obtain ⟨e16, hw17, h⟩ := of_bind h
    refine jWP.intro (pr := pX8_tokenAt) (pc := 12) ?_
    refine jwh_use (G := (fun s0 => pX8_tokenAt (jEv jtab (d + 7), jWP (jEv jtab (d + 7)) Q ((Sh0 n).length, jsl (Sh0 n)) pX8_tokenAt, Q, ((Sh0 n).length, jsl (Sh0 n))) 12 [some (.ref 22), some (.int l1)] [] (Sh0 n, s0, L))) (Gx := (fun s0 => pX8_tokenAt (jEv jtab (d + 7), jWP (jEv jtab (d + 7)) Q ((Sh0 n).length, jsl (Sh0 n)) pX8_tokenAt, Q, ((Sh0 n).length, jsl (Sh0 n))) 51 [some (.ref 22), some (.int l1)] [] (Sh0 n, s0, L))) (fun s1 z1 hz kk1 kk2 => tcX8_tokenAt_12 d n A L l1 s1 hz kk1 kk2) hw17 ?_
    obtain ⟨r18, hc19, h⟩ := of_bind h
    refine y_mask <| x_aload rfl <| x_iload rfl <| y_invV1 (Nat.le_of_ble_eq_true rfl) rfl (Nat.le_of_ble_eq_true rfl) <| jEv.exI (kX8_wordFrom _ _ _ _ _ hc19) <| y_ireturn (ls := [some (.ref 22), some (.int l1)]) ?_
    obtain rfl := Option.some.inj h
    exact k3
theorem kX8_tokenAt (d n : Nat) (A : Nat → Nat → Int32) (L : Nat → Nat → Int64) (l1 : Int32) {z : (Int32 × (Nat → Nat → Int32))} (h : fX8_tokenAt A l1 = some z) : jEv jtab (d + 8) 87 [.ref 22, .int l1] (Sh0 n, A, L) 0 0 (fun r M2 => r = some (.int z.1) ∧ M2 = (Sh0 n, z.2, L)) :=
  jEv.mk (mt := mX8_tokenAt) rfl (Nat.le_of_ble_eq_true rfl) (jWP.intro (pr := pX8_tokenAt) (pc := 0) (tfX8_tokenAt d n A L l1 h ⟨trivial, jCn.mk ⟨rfl, rfl⟩⟩))
set_option maxRecDepth 20000 in
theorem tjX8_cutUp_65_26 (d n : Nat) (A : Nat → Nat → Int32) (L : Nat → Nat → Int64) {Q : Option Value → jM → Prop} {z : ((Nat → Nat → Int32) ⊕ (Nat → Nat → Int32))} (h : jX8_cutUp_65_26 A = some z) (k1 : ∀ s0, z = .inl s0 → pX8_cutUp (jEv jtab (d + 8), jWP (jEv jtab (d + 8)) Q ((Sh0 n).length, jsl (Sh0 n)) pX8_cutUp, Q, ((Sh0 n).length, jsl (Sh0 n))) 26 [some (.ref 22), none, none] [] (Sh0 n, s0, L)) (k2 : ∀ s0, z = .inr s0 → pX8_cutUp (jEv jtab (d + 8), jWP (jEv jtab (d + 8)) Q ((Sh0 n).length, jsl (Sh0 n)) pX8_cutUp, Q, ((Sh0 n).length, jsl (Sh0 n))) 78 [some (.ref 22), none, none] [] (Sh0 n, s0, L)) : pX8_cutUp (jEv jtab (d + 8), jWP (jEv jtab (d + 8)) Q ((Sh0 n).length, jsl (Sh0 n)) pX8_cutUp, Q, ((Sh0 n).length, jsl (Sh0 n))) 65 [some (.ref 22), none, none] [] (Sh0 n, A, L) := by
  unfold jX8_cutUp_65_26 at h
  refine y_mask <| x_aload rfl <| x_dup rfl <| x_getI (Nat.le_of_ble_eq_true rfl) rfl rfl <| x_push <| x_iadd <| x_putI (Nat.le_of_ble_eq_true rfl) rfl rfl <| y_mask <| y_goto ?_
  refine jWP.intro (pr := pX8_cutUp) (pc := 26) ?_
  have hk := k1 _ (Option.some.inj h).symm
  exact hk
set_option maxRecDepth 20000 in
theorem tcX8_cutUp_26 (d n : Nat) (A : Nat → Nat → Int32) (L : Nat → Nat → Int64) (s : (Nat → Nat → Int32)) {Q : Option Value → jM → Prop} {z : ((Nat → Nat → Int32) ⊕ (Nat → Nat → Int32))} (h : cX8_cutUp_26 s = some z) (k1 : ∀ s0, z = .inl s0 → pX8_cutUp (jEv jtab (d + 8), jWP (jEv jtab (d + 8)) Q ((Sh0 n).length, jsl (Sh0 n)) pX8_cutUp, Q, ((Sh0 n).length, jsl (Sh0 n))) 26 [some (.ref 22), none, none] [] (Sh0 n, s0, L)) (k2 : ∀ s0, z = .inr s0 → pX8_cutUp (jEv jtab (d + 8), jWP (jEv jtab (d + 8)) Q ((Sh0 n).length, jsl (Sh0 n)) pX8_cutUp, Q, ((Sh0 n).length, jsl (Sh0 n))) 78 [some (.ref 22), none, none] [] (Sh0 n, s0, L)) : pX8_cutUp (jEv jtab (d + 8), jWP (jEv jtab (d + 8)) Q ((Sh0 n).length, jsl (Sh0 n)) pX8_cutUp, Q, ((Sh0 n).length, jsl (Sh0 n))) 26 [some (.ref 22), none, none] [] (Sh0 n, s, L) := by
  unfold cX8_cutUp_26 at h
  refine y_mask <| x_aload rfl <| x_getI (Nat.le_of_ble_eq_true rfl) rfl rfl <| x_aload rfl <| x_getI (Nat.le_of_ble_eq_true rfl) rfl rfl <| y_cmp_ge (fun h1 => ?_) (fun h1 => ?_)
  · replace h := of_pos h h1
    refine jWP.intro (pr := pX8_cutUp) (pc := 78) ?_
    have hk := k2 _ (Option.some.inj h).symm
    exact hk
  · replace h := of_neg h h1
    refine jWP.intro (pr := pX8_cutUp) (pc := 37) ?_
    obtain ⟨g2, h⟩ := of_guard h
    refine y_mask <| x_aload rfl <| x_getR (Nat.le_of_ble_eq_true rfl) rfl rfl <| x_aload rfl <| x_getI (Nat.le_of_ble_eq_true rfl) rfl rfl <| x_iald rfl g2 <| x_push <| y_cmp_eq (fun h3 => ?_) (fun h3 => ?_)
    · replace h := of_pos h h3
      refine jWP.intro (pr := pX8_cutUp) (pc := 65) ?_
      exact tjX8_cutUp_65_26 d n s L h k1 k2
    · replace h := of_neg h h3
      refine jWP.intro (pr := pX8_cutUp) (pc := 51) ?_
      obtain ⟨g4, h⟩ := of_guard h
      refine y_mask <| x_aload rfl <| x_getR (Nat.le_of_ble_eq_true rfl) rfl rfl <| x_aload rfl <| x_getI (Nat.le_of_ble_eq_true rfl) rfl rfl <| x_iald rfl g4 <| x_push <| y_cmp_ne (fun h5 => ?_) (fun h5 => ?_)
      · replace h := of_neg h h5
        refine jWP.intro (pr := pX8_cutUp) (pc := 78) ?_
        have hk := k2 _ (Option.some.inj h).symm
        exact hk
      · replace h := of_pos h h5
        refine jWP.intro (pr := pX8_cutUp) (pc := 65) ?_
        exact tjX8_cutUp_65_26 d n s L h k1 k2
set_option maxRecDepth 20000 in
theorem tjX8_cutUp_114_12 (d n : Nat) (A : Nat → Nat → Int32) (L : Nat → Nat → Int64) (s0 : Int32) {Q : Option Value → jM → Prop} {z : ((Int32 × (Nat → Nat → Int32)) ⊕ (Nat → Nat → Int32))} (h : jX8_cutUp_114_12 A s0 = some z) (k1 : ∀ s0, z = .inl s0 → pX8_cutUp (jEv jtab (d + 8), jWP (jEv jtab (d + 8)) Q ((Sh0 n).length, jsl (Sh0 n)) pX8_cutUp, Q, ((Sh0 n).length, jsl (Sh0 n))) 12 [some (.ref 22), some (.int s0.1), none] [] (Sh0 n, s0.2, L)) (k2 : ∀ s0, z = .inr s0 → pX8_cutUp (jEv jtab (d + 8), jWP (jEv jtab (d + 8)) Q ((Sh0 n).length, jsl (Sh0 n)) pX8_cutUp, Q, ((Sh0 n).length, jsl (Sh0 n))) 153 [none, none, none] [] (Sh0 n, s0, L)) : pX8_cutUp (jEv jtab (d + 8), jWP (jEv jtab (d + 8)) Q ((Sh0 n).length, jsl (Sh0 n)) pX8_cutUp, Q, ((Sh0 n).length, jsl (Sh0 n))) 114 [some (.ref 22), none, none] [.int s0] (Sh0 n, A, L) := by
  unfold jX8_cutUp_114_12 at h
  obtain ⟨g1, h⟩ := of_guard h
  obtain ⟨m2, hm3, h⟩ := of_bind h
  refine y_mask <| x_istore rfl <| x_aload rfl <| x_getR (Nat.le_of_ble_eq_true rfl) rfl rfl <| x_aload rfl <| x_getI (Nat.le_of_ble_eq_true rfl) rfl rfl <| x_iload rfl <| x_iast (Nat.le_of_ble_eq_true rfl) rfl g1 <| y_let (Option.some.inj hm3) <| x_aload rfl <| x_dup rfl <| x_getI (Nat.le_of_ble_eq_true rfl) rfl rfl <| x_push <| x_iadd <| x_putI (Nat.le_of_ble_eq_true rfl) rfl rfl <| x_iload rfl <| y_if_eq (fun h4 => ?_) (fun h4 => ?_)
  · replace h := of_pos h h4
    refine jWP.intro (pr := pX8_cutUp) (pc := 148) ?_
    refine y_mask <| x_push <| y_mask <| y_goto ?_
    refine jWP.intro (pr := pX8_cutUp) (pc := 149) ?_
    refine y_mask <| x_istore rfl <| y_mask <| y_goto ?_
    refine jWP.intro (pr := pX8_cutUp) (pc := 12) ?_
    have hk := k1 _ (Option.some.inj h).symm
    exact hk
  · replace h := of_neg h h4
    refine jWP.intro (pr := pX8_cutUp) (pc := 139) ?_
    refine y_mask <| x_iload rfl <| x_push <| y_cmp_eq (fun h5 => ?_) (fun h5 => ?_)
    · replace h := of_pos h h5
      refine jWP.intro (pr := pX8_cutUp) (pc := 148) ?_
      refine y_mask <| x_push <| y_mask <| y_goto ?_
      refine jWP.intro (pr := pX8_cutUp) (pc := 149) ?_
      refine y_mask <| x_istore rfl <| y_mask <| y_goto ?_
      refine jWP.intro (pr := pX8_cutUp) (pc := 12) ?_
      have hk := k1 _ (Option.some.inj h).symm
      exact hk
    · replace h := of_neg h h5
      refine jWP.intro (pr := pX8_cutUp) (pc := 144) ?_
      refine y_mask <| x_push <| y_mask <| y_goto ?_
      refine jWP.intro (pr := pX8_cutUp) (pc := 149) ?_
      refine y_mask <| x_istore rfl <| y_mask <| y_goto ?_
      refine jWP.intro (pr := pX8_cutUp) (pc := 12) ?_
      have hk := k1 _ (Option.some.inj h).symm
      exact hk
set_option maxRecDepth 20000 in
theorem tjX8_cutUp_78_12 (d n : Nat) (A : Nat → Nat → Int32) (L : Nat → Nat → Int64) {Q : Option Value → jM → Prop} {z : ((Int32 × (Nat → Nat → Int32)) ⊕ (Nat → Nat → Int32))} (h : jX8_cutUp_78_12 A = some z) (k1 : ∀ s0, z = .inl s0 → pX8_cutUp (jEv jtab (d + 8), jWP (jEv jtab (d + 8)) Q ((Sh0 n).length, jsl (Sh0 n)) pX8_cutUp, Q, ((Sh0 n).length, jsl (Sh0 n))) 12 [some (.ref 22), some (.int s0.1), none] [] (Sh0 n, s0.2, L)) (k2 : ∀ s0, z = .inr s0 → pX8_cutUp (jEv jtab (d + 8), jWP (jEv jtab (d + 8)) Q ((Sh0 n).length, jsl (Sh0 n)) pX8_cutUp, Q, ((Sh0 n).length, jsl (Sh0 n))) 153 [none, none, none] [] (Sh0 n, s0, L)) : pX8_cutUp (jEv jtab (d + 8), jWP (jEv jtab (d + 8)) Q ((Sh0 n).length, jsl (Sh0 n)) pX8_cutUp, Q, ((Sh0 n).length, jsl (Sh0 n))) 78 [some (.ref 22), none, none] [] (Sh0 n, A, L) := by
  unfold jX8_cutUp_78_12 at h
  obtain ⟨g1, h⟩ := of_guard h
  obtain ⟨m2, hm3, h⟩ := of_bind h
  refine y_mask <| x_aload rfl <| x_getR (Nat.le_of_ble_eq_true rfl) rfl rfl <| x_aload rfl <| x_getI (Nat.le_of_ble_eq_true rfl) rfl rfl <| x_aload rfl <| x_getI (Nat.le_of_ble_eq_true rfl) rfl rfl <| x_iast (Nat.le_of_ble_eq_true rfl) rfl g1 <| y_let (Option.some.inj hm3) <| x_aload rfl <| x_getI (Nat.le_of_ble_eq_true rfl) rfl rfl <| x_aload rfl <| x_getI (Nat.le_of_ble_eq_true rfl) rfl rfl <| y_cmp_ge (fun h4 => ?_) (fun h4 => ?_)
  · replace h := of_pos h h4
    refine jWP.intro (pr := pX8_cutUp) (pc := 113) ?_
    refine y_mask <| x_push <| y_mask <| y_goto ?_
    refine jWP.intro (pr := pX8_cutUp) (pc := 114) ?_
    exact tjX8_cutUp_114_12 d n m2 L (0 : Int32) h k1 k2
  · replace h := of_neg h h4
    refine jWP.intro (pr := pX8_cutUp) (pc := 102) ?_
    obtain ⟨r5, hc6, h⟩ := of_bind h
    refine y_mask <| x_aload rfl <| x_aload rfl <| x_getI (Nat.le_of_ble_eq_true rfl) rfl rfl <| y_invV1 (Nat.le_of_ble_eq_true rfl) rfl (Nat.le_of_ble_eq_true rfl) <| jEv.exI (kX8_tokenAt _ _ _ _ _ hc6) <| y_mask <| y_goto ?_
    refine jWP.intro (pr := pX8_cutUp) (pc := 114) ?_
    exact tjX8_cutUp_114_12 d n r5.2 L r5.1 h k1 k2
set_option maxRecDepth 20000 in
theorem tcX8_cutUp_12 (d n : Nat) (A : Nat → Nat → Int32) (L : Nat → Nat → Int64) (s : (Int32 × (Nat → Nat → Int32))) {Q : Option Value → jM → Prop} {z : ((Int32 × (Nat → Nat → Int32)) ⊕ (Nat → Nat → Int32))} (h : cX8_cutUp_12 s = some z) (k1 : ∀ s0, z = .inl s0 → pX8_cutUp (jEv jtab (d + 8), jWP (jEv jtab (d + 8)) Q ((Sh0 n).length, jsl (Sh0 n)) pX8_cutUp, Q, ((Sh0 n).length, jsl (Sh0 n))) 12 [some (.ref 22), some (.int s0.1), none] [] (Sh0 n, s0.2, L)) (k2 : ∀ s0, z = .inr s0 → pX8_cutUp (jEv jtab (d + 8), jWP (jEv jtab (d + 8)) Q ((Sh0 n).length, jsl (Sh0 n)) pX8_cutUp, Q, ((Sh0 n).length, jsl (Sh0 n))) 153 [none, none, none] [] (Sh0 n, s0, L)) : pX8_cutUp (jEv jtab (d + 8), jWP (jEv jtab (d + 8)) Q ((Sh0 n).length, jsl (Sh0 n)) pX8_cutUp, Q, ((Sh0 n).length, jsl (Sh0 n))) 12 [some (.ref 22), some (.int s.1), none] [] (Sh0 n, s.2, L) := by
  unfold cX8_cutUp_12 at h
  refine y_mask <| x_iload rfl <| y_if_eq (fun h1 => ?_) (fun h1 => ?_)
  · replace h := of_pos h h1
    refine jWP.intro (pr := pX8_cutUp) (pc := 153) ?_
    have hk := k2 _ (Option.some.inj h).symm
    exact hk
  · replace h := of_neg h h1
    refine jWP.intro (pr := pX8_cutUp) (pc := 16) ?_
    refine y_mask <| x_aload rfl <| x_getI (Nat.le_of_ble_eq_true rfl) rfl rfl <| x_push <| y_cmp_gt (fun h2 => ?_) (fun h2 => ?_)
    · replace h := of_pos h h2
      refine jWP.intro (pr := pX8_cutUp) (pc := 153) ?_
      have hk := k2 _ (Option.some.inj h).symm
      exact hk
    · replace h := of_neg h h2
      obtain ⟨e3, hw4, h⟩ := of_bind h
      refine jWP.intro (pr := pX8_cutUp) (pc := 26) ?_
      refine jwh_use (G := (fun s0 => pX8_cutUp (jEv jtab (d + 8), jWP (jEv jtab (d + 8)) Q ((Sh0 n).length, jsl (Sh0 n)) pX8_cutUp, Q, ((Sh0 n).length, jsl (Sh0 n))) 26 [some (.ref 22), none, none] [] (Sh0 n, s0, L))) (Gx := (fun s0 => pX8_cutUp (jEv jtab (d + 8), jWP (jEv jtab (d + 8)) Q ((Sh0 n).length, jsl (Sh0 n)) pX8_cutUp, Q, ((Sh0 n).length, jsl (Sh0 n))) 78 [some (.ref 22), none, none] [] (Sh0 n, s0, L))) (fun s1 z1 hz kk1 kk2 => tcX8_cutUp_26 d n s.2 L s1 hz kk1 kk2) hw4 ?_
      exact tjX8_cutUp_78_12 d n e3 L h k1 k2
set_option maxRecDepth 20000 in
theorem tfX8_cutUp (d n : Nat) (A : Nat → Nat → Int32) (L : Nat → Nat → Int64) {Q : Option Value → jM → Prop} {z : (Nat → Nat → Int32)} (h : fX8_cutUp A = some z) (k3 : Q (none) (Sh0 n, z, L)) : pX8_cutUp (jEv jtab (d + 8), jWP (jEv jtab (d + 8)) Q ((Sh0 n).length, jsl (Sh0 n)) pX8_cutUp, Q, ((Sh0 n).length, jsl (Sh0 n))) 0 [some (.ref 22), none, none] [] (Sh0 n, A, L) := by
  unfold fX8_cutUp at h
  obtain ⟨m1, hm2, h⟩ := of_bind h
  refine y_mask <| x_aload rfl <| x_push <| x_putI (Nat.le_of_ble_eq_true rfl) rfl rfl <| x_aload rfl <| x_push <| x_putI (Nat.le_of_ble_eq_true rfl) rfl rfl <| y_let (Option.some.inj hm2) <| x_push <| x_istore rfl <| y_mask <| y_goto ?_
  obtain ⟨e3, hw4, h⟩ := of_bind h
  refine jWP.intro (pr := pX8_cutUp) (pc := 12) ?_
  refine jwh_use (G := (fun s0 => pX8_cutUp (jEv jtab (d + 8), jWP (jEv jtab (d + 8)) Q ((Sh0 n).length, jsl (Sh0 n)) pX8_cutUp, Q, ((Sh0 n).length, jsl (Sh0 n))) 12 [some (.ref 22), some (.int s0.1), none] [] (Sh0 n, s0.2, L))) (Gx := (fun s0 => pX8_cutUp (jEv jtab (d + 8), jWP (jEv jtab (d + 8)) Q ((Sh0 n).length, jsl (Sh0 n)) pX8_cutUp, Q, ((Sh0 n).length, jsl (Sh0 n))) 153 [none, none, none] [] (Sh0 n, s0, L))) (fun s1 z1 hz kk1 kk2 => tcX8_cutUp_12 d n m1 L s1 hz kk1 kk2) hw4 ?_
  refine y_mrv (bs := []) (ls := []) ?_
  obtain rfl := Option.some.inj h
  exact k3
theorem kX8_cutUp (d n : Nat) (A : Nat → Nat → Int32) (L : Nat → Nat → Int64) {z : (Nat → Nat → Int32)} (h : fX8_cutUp A = some z) : jEv jtab (d + 9) 86 [.ref 22] (Sh0 n, A, L) 0 0 (fun r M2 => r = none ∧ M2 = (Sh0 n, z, L)) :=
  jEv.mk (mt := mX8_cutUp) rfl (Nat.le_of_ble_eq_true rfl) (jWP.intro (pr := pX8_cutUp) (pc := 0) (tfX8_cutUp d n A L h ⟨trivial, jCn.mk ⟨rfl, rfl⟩⟩))
set_option maxRecDepth 20000 in
theorem tfX5_fail (d n : Nat) (A : Nat → Nat → Int32) (L : Nat → Nat → Int64) {Q : Option Value → jM → Prop} {z : (Nat → Nat → Int32)} (h : fX5_fail A = some z) (k3 : Q (none) (Sh0 n, z, L)) : pX5_fail (jEv jtab (d + 0), jWP (jEv jtab (d + 0)) Q ((Sh0 n).length, jsl (Sh0 n)) pX5_fail, Q, ((Sh0 n).length, jsl (Sh0 n))) 0 [some (.ref 21)] [] (Sh0 n, A, L) := by
  unfold fX5_fail at h
  refine y_mask <| x_aload rfl <| x_getI (Nat.le_of_ble_eq_true rfl) rfl rfl <| y_if_ge (fun h1 => ?_) (fun h1 => ?_)
  · replace h := of_pos h h1
    refine jWP.intro (pr := pX5_fail) (pc := 23) ?_
    refine y_mrv (bs := []) (ls := []) ?_
    obtain rfl := Option.some.inj h
    exact k3
  · replace h := of_neg h h1
    refine jWP.intro (pr := pX5_fail) (pc := 7) ?_
    obtain ⟨g2, h⟩ := of_guard h
    refine y_mask <| x_aload rfl <| x_aload rfl <| x_getR (Nat.le_of_ble_eq_true rfl) rfl rfl <| x_getR (Nat.le_of_ble_eq_true rfl) rfl rfl <| x_aload rfl <| x_getI (Nat.le_of_ble_eq_true rfl) rfl rfl <| x_iald rfl g2 <| x_putI (Nat.le_of_ble_eq_true rfl) rfl rfl <| y_mask <| y_goto ?_
    refine jWP.intro (pr := pX5_fail) (pc := 23) ?_
    refine y_mrv (bs := []) (ls := []) ?_
    obtain rfl := Option.some.inj h
    exact k3
theorem kX5_fail (d n : Nat) (A : Nat → Nat → Int32) (L : Nat → Nat → Int64) {z : (Nat → Nat → Int32)} (h : fX5_fail A = some z) : jEv jtab (d + 1) 45 [.ref 21] (Sh0 n, A, L) 0 0 (fun r M2 => r = none ∧ M2 = (Sh0 n, z, L)) :=
  jEv.mk (mt := mX5_fail) rfl (Nat.le_of_ble_eq_true rfl) (jWP.intro (pr := pX5_fail) (pc := 0) (tfX5_fail d n A L h ⟨trivial, jCn.mk ⟨rfl, rfl⟩⟩))
set_option maxRecDepth 20000 in
theorem tfX5_token (d n : Nat) (A : Nat → Nat → Int32) (L : Nat → Nat → Int64) {Q : Option Value → jM → Prop} {z : Int32} (h : fX5_token A = some z) (k3 : Q (some (.int z)) (Sh0 n, A, L)) : pX5_token (jEv jtab (d + 0), jWP (jEv jtab (d + 0)) Q ((Sh0 n).length, jsl (Sh0 n)) pX5_token, Q, ((Sh0 n).length, jsl (Sh0 n))) 0 [some (.ref 21)] [] (Sh0 n, A, L) := by
  unfold fX5_token at h
  obtain ⟨g1, h⟩ := of_guard h
  refine y_mask <| x_aload rfl <| x_getR (Nat.le_of_ble_eq_true rfl) rfl rfl <| x_getR (Nat.le_of_ble_eq_true rfl) rfl rfl <| x_aload rfl <| x_getI (Nat.le_of_ble_eq_true rfl) rfl rfl <| x_iald rfl g1 <| y_ireturn (ls := [some (.ref 21)]) ?_
  obtain rfl := Option.some.inj h
  exact k3
theorem kX5_token (d n : Nat) (A : Nat → Nat → Int32) (L : Nat → Nat → Int64) {z : Int32} (h : fX5_token A = some z) : jEv jtab (d + 1) 43 [.ref 21] (Sh0 n, A, L) 0 0 (fun r M2 => r = some (.int z) ∧ M2 = (Sh0 n, A, L)) :=
  jEv.mk (mt := mX5_token) rfl (Nat.le_of_ble_eq_true rfl) (jWP.intro (pr := pX5_token) (pc := 0) (tfX5_token d n A L h ⟨trivial, jCn.mk ⟨rfl, rfl⟩⟩))
set_option maxRecDepth 20000 in
theorem tfX5_next (d n : Nat) (A : Nat → Nat → Int32) (L : Nat → Nat → Int64) {Q : Option Value → jM → Prop} {z : (Nat → Nat → Int32)} (h : fX5_next A = some z) (k3 : Q (none) (Sh0 n, z, L)) : pX5_next (jEv jtab (d + 0), jWP (jEv jtab (d + 0)) Q ((Sh0 n).length, jsl (Sh0 n)) pX5_next, Q, ((Sh0 n).length, jsl (Sh0 n))) 0 [some (.ref 21)] [] (Sh0 n, A, L) := by
  unfold fX5_next at h
  refine y_mask <| x_aload rfl <| x_getI (Nat.le_of_ble_eq_true rfl) rfl rfl <| x_aload rfl <| x_getR (Nat.le_of_ble_eq_true rfl) rfl rfl <| x_getI (Nat.le_of_ble_eq_true rfl) rfl rfl <| x_push <| x_isub <| y_cmp_ge (fun h1 => ?_) (fun h1 => ?_)
  · replace h := of_pos h h1
    refine jWP.intro (pr := pX5_next) (pc := 26) ?_
    refine y_mrv (bs := []) (ls := []) ?_
    obtain rfl := Option.some.inj h
    exact k3
  · replace h := of_neg h h1
    refine jWP.intro (pr := pX5_next) (pc := 16) ?_
    refine y_mask <| x_aload rfl <| x_dup rfl <| x_getI (Nat.le_of_ble_eq_true rfl) rfl rfl <| x_push <| x_iadd <| x_putI (Nat.le_of_ble_eq_true rfl) rfl rfl <| y_mask <| y_goto ?_
    refine jWP.intro (pr := pX5_next) (pc := 26) ?_
    refine y_mrv (bs := []) (ls := []) ?_
    obtain rfl := Option.some.inj h
    exact k3
theorem kX5_next (d n : Nat) (A : Nat → Nat → Int32) (L : Nat → Nat → Int64) {z : (Nat → Nat → Int32)} (h : fX5_next A = some z) : jEv jtab (d + 1) 44 [.ref 21] (Sh0 n, A, L) 0 0 (fun r M2 => r = none ∧ M2 = (Sh0 n, z, L)) :=
  jEv.mk (mt := mX5_next) rfl (Nat.le_of_ble_eq_true rfl) (jWP.intro (pr := pX5_next) (pc := 0) (tfX5_next d n A L h ⟨trivial, jCn.mk ⟨rfl, rfl⟩⟩))
set_option maxRecDepth 20000 in
theorem tfX5_expect (d n : Nat) (A : Nat → Nat → Int32) (L : Nat → Nat → Int64) (l1 : Int32) {Q : Option Value → jM → Prop} {z : (Nat → Nat → Int32)} (h : fX5_expect A l1 = some z) (k3 : Q (none) (Sh0 n, z, L)) : pX5_expect (jEv jtab (d + 1), jWP (jEv jtab (d + 1)) Q ((Sh0 n).length, jsl (Sh0 n)) pX5_expect, Q, ((Sh0 n).length, jsl (Sh0 n))) 0 [some (.ref 21), some (.int l1)] [] (Sh0 n, A, L) := by
  unfold fX5_expect at h
  refine y_mask <| x_aload rfl <| x_getI (Nat.le_of_ble_eq_true rfl) rfl rfl <| y_if_ge (fun h1 => ?_) (fun h1 => ?_)
  · replace h := of_pos h h1
    refine jWP.intro (pr := pX5_expect) (pc := 22) ?_
    obtain ⟨r2, hc3, h⟩ := of_bind h
    refine y_mask <| x_aload rfl <| y_invV0 (Nat.le_of_ble_eq_true rfl) rfl (Nat.le_of_ble_eq_true rfl) <| jEv.exV (kX5_fail _ _ _ _ hc3) <| y_mask <| y_goto ?_
    refine jWP.intro (pr := pX5_expect) (pc := 26) ?_
    refine y_mrv (bs := []) (ls := []) ?_
    obtain rfl := Option.some.inj h
    exact k3
  · replace h := of_neg h h1
    refine jWP.intro (pr := pX5_expect) (pc := 7) ?_
    obtain ⟨r4, hc5, h⟩ := of_bind h
    refine y_mask <| x_aload rfl <| y_invV0 (Nat.le_of_ble_eq_true rfl) rfl (Nat.le_of_ble_eq_true rfl) <| jEv.exI (kX5_token _ _ _ _ hc5) <| x_iload rfl <| y_cmp_ne (fun h6 => ?_) (fun h6 => ?_)
    · replace h := of_neg h h6
      refine jWP.intro (pr := pX5_expect) (pc := 22) ?_
      obtain ⟨r7, hc8, h⟩ := of_bind h
      refine y_mask <| x_aload rfl <| y_invV0 (Nat.le_of_ble_eq_true rfl) rfl (Nat.le_of_ble_eq_true rfl) <| jEv.exV (kX5_fail _ _ _ _ hc8) <| y_mask <| y_goto ?_
      refine jWP.intro (pr := pX5_expect) (pc := 26) ?_
      refine y_mrv (bs := []) (ls := []) ?_
      obtain rfl := Option.some.inj h
      exact k3
    · replace h := of_pos h h6
      refine jWP.intro (pr := pX5_expect) (pc := 15) ?_
      obtain ⟨r9, hc10, h⟩ := of_bind h
      refine y_mask <| x_aload rfl <| y_invV0 (Nat.le_of_ble_eq_true rfl) rfl (Nat.le_of_ble_eq_true rfl) <| jEv.exV (kX5_next _ _ _ _ hc10) <| y_mask <| y_goto ?_
      refine jWP.intro (pr := pX5_expect) (pc := 26) ?_
      refine y_mrv (bs := []) (ls := []) ?_
      obtain rfl := Option.some.inj h
      exact k3
theorem kX5_expect (d n : Nat) (A : Nat → Nat → Int32) (L : Nat → Nat → Int64) (l1 : Int32) {z : (Nat → Nat → Int32)} (h : fX5_expect A l1 = some z) : jEv jtab (d + 2) 46 [.ref 21, .int l1] (Sh0 n, A, L) 0 0 (fun r M2 => r = none ∧ M2 = (Sh0 n, z, L)) :=
  jEv.mk (mt := mX5_expect) rfl (Nat.le_of_ble_eq_true rfl) (jWP.intro (pr := pX5_expect) (pc := 0) (tfX5_expect d n A L l1 h ⟨trivial, jCn.mk ⟨rfl, rfl⟩⟩))
set_option maxRecDepth 20000 in
theorem tfX5_joining (d n : Nat) (A : Nat → Nat → Int32) (L : Nat → Nat → Int64) (l1 : Int32) {Q : Option Value → jM → Prop} {z : Int32} (h : fX5_joining A l1 = some z) (k3 : Q (some (.int z)) (Sh0 n, A, L)) : pX5_joining (jEv jtab (d + 1), jWP (jEv jtab (d + 1)) Q ((Sh0 n).length, jsl (Sh0 n)) pX5_joining, Q, ((Sh0 n).length, jsl (Sh0 n))) 0 [some (.ref 21), some (.int l1), none] [] (Sh0 n, A, L) := by
  unfold fX5_joining at h
  obtain ⟨r1, hc2, h⟩ := of_bind h
  refine y_mask <| x_aload rfl <| y_invV0 (Nat.le_of_ble_eq_true rfl) rfl (Nat.le_of_ble_eq_true rfl) <| jEv.exI (kX5_token _ _ _ _ hc2) <| x_istore rfl <| x_iload rfl <| y_if_ne (fun h3 => ?_) (fun h3 => ?_)
  · replace h := of_neg h h3
    refine jWP.intro (pr := pX5_joining) (pc := 23) ?_
    refine y_mask <| x_iload rfl <| x_push <| y_cmp_ne (fun h4 => ?_) (fun h4 => ?_)
    · replace h := of_neg h h4
      refine jWP.intro (pr := pX5_joining) (pc := 42) ?_
      refine y_mask <| x_iload rfl <| x_push <| y_cmp_ne (fun h5 => ?_) (fun h5 => ?_)
      · replace h := of_neg h h5
        refine jWP.intro (pr := pX5_joining) (pc := 71) ?_
        refine y_mask <| x_iload rfl <| x_push <| y_cmp_ne (fun h6 => ?_) (fun h6 => ?_)
        · replace h := of_neg h h6
          refine jWP.intro (pr := pX5_joining) (pc := 82) ?_
          refine y_mask <| x_push <| y_mask <| y_goto ?_
          refine jWP.intro (pr := pX5_joining) (pc := 83) ?_
          refine y_mri (bs := []) (ls := []) ?_
          obtain rfl := Option.some.inj h
          exact k3
        · replace h := of_pos h h6
          refine jWP.intro (pr := pX5_joining) (pc := 77) ?_
          refine y_mask <| x_push <| y_mask <| y_goto ?_
          refine jWP.intro (pr := pX5_joining) (pc := 83) ?_
          refine y_mri (bs := []) (ls := []) ?_
          obtain rfl := Option.some.inj h
          exact k3
      · replace h := of_pos h h5
        refine jWP.intro (pr := pX5_joining) (pc := 47) ?_
        refine y_mask <| x_iload rfl <| x_push <| y_cmp_ne (fun h7 => ?_) (fun h7 => ?_)
        · replace h := of_neg h h7
          refine jWP.intro (pr := pX5_joining) (pc := 58) ?_
          refine y_mask <| x_iload rfl <| x_push <| y_cmp_ne (fun h8 => ?_) (fun h8 => ?_)
          · replace h := of_neg h h8
            refine jWP.intro (pr := pX5_joining) (pc := 69) ?_
            refine y_mask <| x_push <| y_mask <| y_goto ?_
            refine jWP.intro (pr := pX5_joining) (pc := 70) ?_
            refine y_mri (bs := []) (ls := []) ?_
            obtain rfl := Option.some.inj h
            exact k3
          · replace h := of_pos h h8
            refine jWP.intro (pr := pX5_joining) (pc := 64) ?_
            refine y_mask <| x_push <| y_mask <| y_goto ?_
            refine jWP.intro (pr := pX5_joining) (pc := 70) ?_
            refine y_mri (bs := []) (ls := []) ?_
            obtain rfl := Option.some.inj h
            exact k3
        · replace h := of_pos h h7
          refine jWP.intro (pr := pX5_joining) (pc := 53) ?_
          refine y_mask <| x_push <| y_mask <| y_goto ?_
          refine jWP.intro (pr := pX5_joining) (pc := 70) ?_
          refine y_mri (bs := []) (ls := []) ?_
          obtain rfl := Option.some.inj h
          exact k3
    · replace h := of_pos h h4
      refine jWP.intro (pr := pX5_joining) (pc := 28) ?_
      refine y_mask <| x_iload rfl <| x_push <| y_cmp_ne (fun h9 => ?_) (fun h9 => ?_)
      · replace h := of_neg h h9
        refine jWP.intro (pr := pX5_joining) (pc := 40) ?_
        refine y_mask <| x_push <| y_mask <| y_goto ?_
        refine jWP.intro (pr := pX5_joining) (pc := 41) ?_
        refine y_mri (bs := []) (ls := []) ?_
        obtain rfl := Option.some.inj h
        exact k3
      · replace h := of_pos h h9
        refine jWP.intro (pr := pX5_joining) (pc := 35) ?_
        refine y_mask <| x_push <| y_mask <| y_goto ?_
        refine jWP.intro (pr := pX5_joining) (pc := 41) ?_
        refine y_mri (bs := []) (ls := []) ?_
        obtain rfl := Option.some.inj h
        exact k3
  · replace h := of_pos h h3
    refine jWP.intro (pr := pX5_joining) (pc := 9) ?_
    refine y_mask <| x_iload rfl <| x_push <| y_cmp_ne (fun h10 => ?_) (fun h10 => ?_)
    · replace h := of_neg h h10
      refine jWP.intro (pr := pX5_joining) (pc := 21) ?_
      refine y_mask <| x_push <| y_mask <| y_goto ?_
      refine jWP.intro (pr := pX5_joining) (pc := 22) ?_
      refine y_mri (bs := []) (ls := []) ?_
      obtain rfl := Option.some.inj h
      exact k3
    · replace h := of_pos h h10
      refine jWP.intro (pr := pX5_joining) (pc := 16) ?_
      refine y_mask <| x_push <| y_mask <| y_goto ?_
      refine jWP.intro (pr := pX5_joining) (pc := 22) ?_
      refine y_mri (bs := []) (ls := []) ?_
      obtain rfl := Option.some.inj h
      exact k3
theorem kX5_joining (d n : Nat) (A : Nat → Nat → Int32) (L : Nat → Nat → Int64) (l1 : Int32) {z : Int32} (h : fX5_joining A l1 = some z) : jEv jtab (d + 2) 50 [.ref 21, .int l1] (Sh0 n, A, L) 0 0 (fun r M2 => r = some (.int z) ∧ M2 = (Sh0 n, A, L)) :=
  jEv.mk (mt := mX5_joining) rfl (Nat.le_of_ble_eq_true rfl) (jWP.intro (pr := pX5_joining) (pc := 0) (tfX5_joining d n A L l1 h ⟨trivial, jCn.mk ⟨rfl, rfl⟩⟩))
set_option maxRecDepth 20000 in
theorem tfX5_write (d n : Nat) (A : Nat → Nat → Int32) (L : Nat → Nat → Int64) (l1 : Int32) {Q : Option Value → jM → Prop} {z : (Nat → Nat → Int32)} (h : fX5_write A l1 = some z) (k3 : Q (none) (Sh0 n, z, L)) : pX5_write (jEv jtab (d + 0), jWP (jEv jtab (d + 0)) Q ((Sh0 n).length, jsl (Sh0 n)) pX5_write, Q, ((Sh0 n).length, jsl (Sh0 n))) 0 [some (.ref 21), some (.int l1)] [] (Sh0 n, A, L) := by
  unfold fX5_write at h
  refine y_mask <| x_aload rfl <| x_getI (Nat.le_of_ble_eq_true rfl) rfl rfl <| y_if_ge (fun h1 => ?_) (fun h1 => ?_)
  · replace h := of_pos h h1
    refine jWP.intro (pr := pX5_write) (pc := 39) ?_
    refine y_mrv (bs := []) (ls := []) ?_
    obtain rfl := Option.some.inj h
    exact k3
  · replace h := of_neg h h1
    refine jWP.intro (pr := pX5_write) (pc := 7) ?_
    refine y_mask <| x_aload rfl <| x_getI (Nat.le_of_ble_eq_true rfl) rfl rfl <| x_aload rfl <| x_getR (Nat.le_of_ble_eq_true rfl) rfl rfl <| x_alen rfl (by simp) <| y_cmp_ge (fun h2 => ?_) (fun h2 => ?_)
    · replace h := of_pos h h2
      refine jWP.intro (pr := pX5_write) (pc := 39) ?_
      refine y_mrv (bs := []) (ls := []) ?_
      obtain rfl := Option.some.inj h
      exact k3
    · replace h := of_neg h h2
      refine jWP.intro (pr := pX5_write) (pc := 19) ?_
      obtain ⟨g3, h⟩ := of_guard h
      obtain ⟨m4, hm5, h⟩ := of_bind h
      refine y_mask <| x_aload rfl <| x_getR (Nat.le_of_ble_eq_true rfl) rfl rfl <| x_aload rfl <| x_getI (Nat.le_of_ble_eq_true rfl) rfl rfl <| x_iload rfl <| x_iast (Nat.le_of_ble_eq_true rfl) rfl g3 <| y_let (Option.some.inj hm5) <| x_aload rfl <| x_dup rfl <| x_getI (Nat.le_of_ble_eq_true rfl) rfl rfl <| x_push <| x_iadd <| x_putI (Nat.le_of_ble_eq_true rfl) rfl rfl <| y_mask <| y_goto ?_
      refine jWP.intro (pr := pX5_write) (pc := 39) ?_
      refine y_mrv (bs := []) (ls := []) ?_
      obtain rfl := Option.some.inj h
      exact k3
theorem kX5_write (d n : Nat) (A : Nat → Nat → Int32) (L : Nat → Nat → Int64) (l1 : Int32) {z : (Nat → Nat → Int32)} (h : fX5_write A l1 = some z) : jEv jtab (d + 1) 47 [.ref 21, .int l1] (Sh0 n, A, L) 0 0 (fun r M2 => r = none ∧ M2 = (Sh0 n, z, L)) :=
  jEv.mk (mt := mX5_write) rfl (Nat.le_of_ble_eq_true rfl) (jWP.intro (pr := pX5_write) (pc := 0) (tfX5_write d n A L l1 h ⟨trivial, jCn.mk ⟨rfl, rfl⟩⟩))
set_option maxRecDepth 20000 in
theorem tcX5_readChain_10 (rc : (Nat → Nat → Int32) → Int32 → Int32 → Option (Nat → Nat → Int32)) (D : Nat) (hrc : ∀ (d n : Nat) (A : Nat → Nat → Int32) (L : Nat → Nat → Int64) (l1 l2 : Int32) (z : Nat → Nat → Int32), rc A l1 l2 = some z → jEv jtab (D + d) 48 [.ref 21, .int l1, .int l2] (Sh0 n, A, L) 0 0 (fun r M2 => r = none ∧ M2 = (Sh0 n, z, L))) (d n : Nat) (A : Nat → Nat → Int32) (L : Nat → Nat → Int64) (l1 : Int32) (l2 : Int32) (s : (Int32 × (Nat → Nat → Int32))) {Q : Option Value → jM → Prop} {z : ((Int32 × (Nat → Nat → Int32)) ⊕ (Nat → Nat → Int32))} (h : cX5_readChain_10 rc l1 l2 s = some z) (k1 : ∀ s0, z = .inl s0 → pX5_readChain (jEv jtab (D + d + 2), jWP (jEv jtab (D + d + 2)) Q ((Sh0 n).length, jsl (Sh0 n)) pX5_readChain, Q, ((Sh0 n).length, jsl (Sh0 n))) 10 [some (.ref 21), some (.int l1), some (.int l2), some (.int s0.1), none] [] (Sh0 n, s0.2, L)) (k2 : ∀ s0, z = .inr s0 → pX5_readChain (jEv jtab (D + d + 2), jWP (jEv jtab (D + d + 2)) Q ((Sh0 n).length, jsl (Sh0 n)) pX5_readChain, Q, ((Sh0 n).length, jsl (Sh0 n))) 63 [none, none, none, none, none] [] (Sh0 n, s0, L)) : pX5_readChain (jEv jtab (D + d + 2), jWP (jEv jtab (D + d + 2)) Q ((Sh0 n).length, jsl (Sh0 n)) pX5_readChain, Q, ((Sh0 n).length, jsl (Sh0 n))) 10 [some (.ref 21), some (.int l1), some (.int l2), some (.int s.1), none] [] (Sh0 n, s.2, L) := by
  unfold cX5_readChain_10 at h
  refine y_mask <| x_iload rfl <| x_push <| y_cmp_ge (fun h1 => ?_) (fun h1 => ?_)
  · replace h := of_pos h h1
    refine jWP.intro (pr := pX5_readChain) (pc := 63) ?_
    have hk := k2 _ (Option.some.inj h).symm
    exact hk
  · replace h := of_neg h h1
    refine jWP.intro (pr := pX5_readChain) (pc := 17) ?_
    refine y_mask <| x_aload rfl <| x_getI (Nat.le_of_ble_eq_true rfl) rfl rfl <| y_if_ge (fun h2 => ?_) (fun h2 => ?_)
    · replace h := of_pos h h2
      refine jWP.intro (pr := pX5_readChain) (pc := 63) ?_
      have hk := k2 _ (Option.some.inj h).symm
      exact hk
    · replace h := of_neg h h2
      refine jWP.intro (pr := pX5_readChain) (pc := 24) ?_
      obtain ⟨r3, hc4, h⟩ := of_bind h
      refine y_mask <| x_aload rfl <| x_iload rfl <| y_invV1 (Nat.le_of_ble_eq_true rfl) rfl (Nat.le_of_ble_eq_true rfl) <| jEv.exI (kX5_joining _ _ _ _ _ hc4) <| y_if_eq (fun h5 => ?_) (fun h5 => ?_)
      · replace h := of_pos h h5
        refine jWP.intro (pr := pX5_readChain) (pc := 63) ?_
        have hk := k2 _ (Option.some.inj h).symm
        exact hk
      · replace h := of_neg h h5
        refine jWP.intro (pr := pX5_readChain) (pc := 32) ?_
        obtain ⟨r6, hc7, h⟩ := of_bind h
        obtain ⟨r8, hc9, h⟩ := of_bind h
        obtain ⟨r10, hc11, h⟩ := of_bind h
        obtain ⟨r12, hc13, h⟩ := of_bind h
        refine y_mask <| x_aload rfl <| x_iload rfl <| y_invV1 (Nat.le_of_ble_eq_true rfl) rfl (Nat.le_of_ble_eq_true rfl) <| jEv.exI (kX5_joining _ _ _ _ _ hc7) <| x_istore rfl <| x_aload rfl <| y_invV0 (Nat.le_of_ble_eq_true rfl) rfl (Nat.le_of_ble_eq_true rfl) <| jEv.exV (kX5_next _ _ _ _ hc9) <| x_aload rfl <| x_iload rfl <| x_push <| x_iadd <| x_iload rfl <| y_invV2 (Nat.le_of_ble_eq_true rfl) rfl (Nat.le_of_ble_eq_true rfl) <| jEv.exV (hrc (d + (2)) n r8 L (l1 + (1 : Int32)) l2 _ hc11) <| x_aload rfl <| x_iload rfl <| y_invV1 (Nat.le_of_ble_eq_true rfl) rfl (Nat.le_of_ble_eq_true rfl) <| jEv.exV (kX5_write _ _ _ _ _ hc13) <| x_iinc rfl rfl <| y_mask <| y_goto ?_
        refine jWP.intro (pr := pX5_readChain) (pc := 10) ?_
        have hk := k1 _ (Option.some.inj h).symm
        exact hk
set_option maxRecDepth 20000 in
theorem tfX5_readChain (rc : (Nat → Nat → Int32) → Int32 → Int32 → Option (Nat → Nat → Int32)) (D : Nat) (hrc : ∀ (d n : Nat) (A : Nat → Nat → Int32) (L : Nat → Nat → Int64) (l1 l2 : Int32) (z : Nat → Nat → Int32), rc A l1 l2 = some z → jEv jtab (D + d) 48 [.ref 21, .int l1, .int l2] (Sh0 n, A, L) 0 0 (fun r M2 => r = none ∧ M2 = (Sh0 n, z, L))) (d n : Nat) (A : Nat → Nat → Int32) (L : Nat → Nat → Int64) (l1 : Int32) (l2 : Int32) {Q : Option Value → jM → Prop} {z : (Nat → Nat → Int32)} (h : fX5_readChain rc A l1 l2 = some z) (k3 : Q (none) (Sh0 n, z, L)) : pX5_readChain (jEv jtab (D + d + 2), jWP (jEv jtab (D + d + 2)) Q ((Sh0 n).length, jsl (Sh0 n)) pX5_readChain, Q, ((Sh0 n).length, jsl (Sh0 n))) 0 [some (.ref 21), some (.int l1), some (.int l2), none, none] [] (Sh0 n, A, L) := by
  unfold fX5_readChain at h
  obtain ⟨r1, hc2, h⟩ := of_bind h
  refine y_mask <| x_aload rfl <| x_iload rfl <| x_push <| x_iadd <| x_iload rfl <| y_invV2 (Nat.le_of_ble_eq_true rfl) rfl (Nat.le_of_ble_eq_true rfl) <| jEv.exV (hrc (d + (2)) n A L (l1 + (1 : Int32)) l2 _ hc2) <| x_push <| x_istore rfl <| y_mask <| y_goto ?_
  obtain ⟨e3, hw4, h⟩ := of_bind h
  refine jWP.intro (pr := pX5_readChain) (pc := 10) ?_
  refine jwh_use (G := (fun s0 => pX5_readChain (jEv jtab (D + d + 2), jWP (jEv jtab (D + d + 2)) Q ((Sh0 n).length, jsl (Sh0 n)) pX5_readChain, Q, ((Sh0 n).length, jsl (Sh0 n))) 10 [some (.ref 21), some (.int l1), some (.int l2), some (.int s0.1), none] [] (Sh0 n, s0.2, L))) (Gx := (fun s0 => pX5_readChain (jEv jtab (D + d + 2), jWP (jEv jtab (D + d + 2)) Q ((Sh0 n).length, jsl (Sh0 n)) pX5_readChain, Q, ((Sh0 n).length, jsl (Sh0 n))) 63 [none, none, none, none, none] [] (Sh0 n, s0, L))) (fun s1 z1 hz kk1 kk2 => tcX5_readChain_10 rc D hrc d n r1 L l1 l2 s1 hz kk1 kk2) hw4 ?_
  refine y_mrv (bs := []) (ls := []) ?_
  obtain rfl := Option.some.inj h
  exact k3
theorem kX5_readChain (rc : (Nat → Nat → Int32) → Int32 → Int32 → Option (Nat → Nat → Int32)) (D : Nat) (hrc : ∀ (d n : Nat) (A : Nat → Nat → Int32) (L : Nat → Nat → Int64) (l1 l2 : Int32) (z : Nat → Nat → Int32), rc A l1 l2 = some z → jEv jtab (D + d) 48 [.ref 21, .int l1, .int l2] (Sh0 n, A, L) 0 0 (fun r M2 => r = none ∧ M2 = (Sh0 n, z, L))) (d n : Nat) (A : Nat → Nat → Int32) (L : Nat → Nat → Int64) (l1 : Int32) (l2 : Int32) {z : (Nat → Nat → Int32)} (h : fX5_readChain rc A l1 l2 = some z) : jEv jtab (D + d + 3) 49 [.ref 21, .int l1, .int l2] (Sh0 n, A, L) 0 0 (fun r M2 => r = none ∧ M2 = (Sh0 n, z, L)) :=
  jEv.mk (mt := mX5_readChain) rfl (Nat.le_of_ble_eq_true rfl) (jWP.intro (pr := pX5_readChain) (pc := 0) (tfX5_readChain rc D hrc d n A L l1 l2 h ⟨trivial, jCn.mk ⟨rfl, rfl⟩⟩))
set_option maxRecDepth 20000 in
theorem tfX5_readOpened (rc : (Nat → Nat → Int32) → Int32 → Int32 → Option (Nat → Nat → Int32)) (D : Nat) (hrc : ∀ (d n : Nat) (A : Nat → Nat → Int32) (L : Nat → Nat → Int64) (l1 l2 : Int32) (z : Nat → Nat → Int32), rc A l1 l2 = some z → jEv jtab (D + d) 48 [.ref 21, .int l1, .int l2] (Sh0 n, A, L) 0 0 (fun r M2 => r = none ∧ M2 = (Sh0 n, z, L))) (d n : Nat) (A : Nat → Nat → Int32) (L : Nat → Nat → Int64) (l1 : Int32) (l2 : Int32) {Q : Option Value → jM → Prop} {z : (Nat → Nat → Int32)} (h : fX5_readOpened rc A l1 l2 = some z) (k3 : Q (none) (Sh0 n, z, L)) : pX5_readOpened (jEv jtab (D + d + 1), jWP (jEv jtab (D + d + 1)) Q ((Sh0 n).length, jsl (Sh0 n)) pX5_readOpened, Q, ((Sh0 n).length, jsl (Sh0 n))) 0 [some (.ref 21), some (.int l1), some (.int l2)] [] (Sh0 n, A, L) := by
  unfold fX5_readOpened at h
  refine y_mask <| x_iload rfl <| x_push <| y_cmp_lt (fun h1 => ?_) (fun h1 => ?_)
  · replace h := of_pos h h1
    refine jWP.intro (pr := pX5_readOpened) (pc := 12) ?_
    obtain ⟨r2, hc3, h⟩ := of_bind h
    obtain ⟨r4, hc5, h⟩ := of_bind h
    refine y_mask <| x_aload rfl <| y_invV0 (Nat.le_of_ble_eq_true rfl) rfl (Nat.le_of_ble_eq_true rfl) <| jEv.exV (kX5_next _ _ _ _ hc3) <| x_aload rfl <| x_iload rfl <| x_iload rfl <| x_push <| x_iadd <| y_invV2 (Nat.le_of_ble_eq_true rfl) rfl (Nat.le_of_ble_eq_true rfl) <| jEv.exV (hrc (d + (1)) n r2 L l1 (l2 + (1 : Int32)) _ hc5) <| y_mask <| y_goto ?_
    refine jWP.intro (pr := pX5_readOpened) (pc := 24) ?_
    refine y_mrv (bs := []) (ls := []) ?_
    obtain rfl := Option.some.inj h
    exact k3
  · replace h := of_neg h h1
    refine jWP.intro (pr := pX5_readOpened) (pc := 5) ?_
    obtain ⟨r6, hc7, h⟩ := of_bind h
    refine y_mask <| x_aload rfl <| y_invV0 (Nat.le_of_ble_eq_true rfl) rfl (Nat.le_of_ble_eq_true rfl) <| jEv.exV (kX5_fail _ _ _ _ hc7) <| y_mask <| y_goto ?_
    refine jWP.intro (pr := pX5_readOpened) (pc := 24) ?_
    refine y_mrv (bs := []) (ls := []) ?_
    obtain rfl := Option.some.inj h
    exact k3
theorem kX5_readOpened (rc : (Nat → Nat → Int32) → Int32 → Int32 → Option (Nat → Nat → Int32)) (D : Nat) (hrc : ∀ (d n : Nat) (A : Nat → Nat → Int32) (L : Nat → Nat → Int64) (l1 l2 : Int32) (z : Nat → Nat → Int32), rc A l1 l2 = some z → jEv jtab (D + d) 48 [.ref 21, .int l1, .int l2] (Sh0 n, A, L) 0 0 (fun r M2 => r = none ∧ M2 = (Sh0 n, z, L))) (d n : Nat) (A : Nat → Nat → Int32) (L : Nat → Nat → Int64) (l1 : Int32) (l2 : Int32) {z : (Nat → Nat → Int32)} (h : fX5_readOpened rc A l1 l2 = some z) : jEv jtab (D + d + 2) 53 [.ref 21, .int l1, .int l2] (Sh0 n, A, L) 0 0 (fun r M2 => r = none ∧ M2 = (Sh0 n, z, L)) :=
  jEv.mk (mt := mX5_readOpened) rfl (Nat.le_of_ble_eq_true rfl) (jWP.intro (pr := pX5_readOpened) (pc := 0) (tfX5_readOpened rc D hrc d n A L l1 l2 h ⟨trivial, jCn.mk ⟨rfl, rfl⟩⟩))
set_option maxRecDepth 20000 in
theorem tjX5_readOne_58 (rc : (Nat → Nat → Int32) → Int32 → Int32 → Option (Nat → Nat → Int32)) (D : Nat) (hrc : ∀ (d n : Nat) (A : Nat → Nat → Int32) (L : Nat → Nat → Int64) (l1 l2 : Int32) (z : Nat → Nat → Int32), rc A l1 l2 = some z → jEv jtab (D + d) 48 [.ref 21, .int l1, .int l2] (Sh0 n, A, L) 0 0 (fun r M2 => r = none ∧ M2 = (Sh0 n, z, L))) (d n : Nat) (A : Nat → Nat → Int32) (L : Nat → Nat → Int64) (l1 : Int32) (l2 : Int32) {Q : Option Value → jM → Prop} {z : (Nat → Nat → Int32)} (h : jX5_readOne_58 rc A l1 l2 = some z) (k3 : Q (none) (Sh0 n, z, L)) : pX5_readOne (jEv jtab (D + d + 2), jWP (jEv jtab (D + d + 2)) Q ((Sh0 n).length, jsl (Sh0 n)) pX5_readOne, Q, ((Sh0 n).length, jsl (Sh0 n))) 58 [some (.ref 21), some (.int l1), some (.int l2)] [] (Sh0 n, A, L) := by
  unfold jX5_readOne_58 at h
  refine y_mask <| x_iload rfl <| x_push <| y_cmp_ne (fun h1 => ?_) (fun h1 => ?_)
  · replace h := of_neg h h1
    refine jWP.intro (pr := pX5_readOne) (pc := 79) ?_
    refine y_mask <| x_iload rfl <| x_push <| y_cmp_ne (fun h2 => ?_) (fun h2 => ?_)
    · replace h := of_neg h h2
      refine jWP.intro (pr := pX5_readOne) (pc := 100) ?_
      obtain ⟨r3, hc4, h⟩ := of_bind h
      refine y_mask <| x_aload rfl <| y_invV0 (Nat.le_of_ble_eq_true rfl) rfl (Nat.le_of_ble_eq_true rfl) <| jEv.exV (kX5_fail _ _ _ _ hc4) <| y_mask <| y_goto ?_
      refine jWP.intro (pr := pX5_readOne) (pc := 104) ?_
      refine y_mrv (bs := []) (ls := []) ?_
      obtain rfl := Option.some.inj h
      exact k3
    · replace h := of_pos h h2
      refine jWP.intro (pr := pX5_readOne) (pc := 85) ?_
      obtain ⟨r5, hc6, h⟩ := of_bind h
      obtain ⟨r7, hc8, h⟩ := of_bind h
      refine y_mask <| x_aload rfl <| x_push <| x_iload rfl <| y_invV2 (Nat.le_of_ble_eq_true rfl) rfl (Nat.le_of_ble_eq_true rfl) <| jEv.exV (kX5_readOpened rc D hrc _ _ _ _ _ _ hc6) <| x_aload rfl <| x_push <| y_invV1 (Nat.le_of_ble_eq_true rfl) rfl (Nat.le_of_ble_eq_true rfl) <| jEv.exV (kX5_expect _ _ _ _ _ hc8) <| y_mask <| y_goto ?_
      refine jWP.intro (pr := pX5_readOne) (pc := 104) ?_
      refine y_mrv (bs := []) (ls := []) ?_
      obtain rfl := Option.some.inj h
      exact k3
  · replace h := of_pos h h1
    refine jWP.intro (pr := pX5_readOne) (pc := 64) ?_
    obtain ⟨r9, hc10, h⟩ := of_bind h
    obtain ⟨r11, hc12, h⟩ := of_bind h
    refine y_mask <| x_aload rfl <| x_push <| x_iload rfl <| y_invV2 (Nat.le_of_ble_eq_true rfl) rfl (Nat.le_of_ble_eq_true rfl) <| jEv.exV (kX5_readOpened rc D hrc _ _ _ _ _ _ hc10) <| x_aload rfl <| x_push <| y_invV1 (Nat.le_of_ble_eq_true rfl) rfl (Nat.le_of_ble_eq_true rfl) <| jEv.exV (kX5_write _ _ _ _ _ hc12) <| y_mask <| y_goto ?_
    refine jWP.intro (pr := pX5_readOne) (pc := 104) ?_
    refine y_mrv (bs := []) (ls := []) ?_
    obtain rfl := Option.some.inj h
    exact k3
set_option maxRecDepth 20000 in
theorem tfX5_readOne (rc : (Nat → Nat → Int32) → Int32 → Int32 → Option (Nat → Nat → Int32)) (D : Nat) (hrc : ∀ (d n : Nat) (A : Nat → Nat → Int32) (L : Nat → Nat → Int64) (l1 l2 : Int32) (z : Nat → Nat → Int32), rc A l1 l2 = some z → jEv jtab (D + d) 48 [.ref 21, .int l1, .int l2] (Sh0 n, A, L) 0 0 (fun r M2 => r = none ∧ M2 = (Sh0 n, z, L))) (d n : Nat) (A : Nat → Nat → Int32) (L : Nat → Nat → Int64) (l1 : Int32) {Q : Option Value → jM → Prop} {z : (Nat → Nat → Int32)} (h : fX5_readOne rc A l1 = some z) (k3 : Q (none) (Sh0 n, z, L)) : pX5_readOne (jEv jtab (D + d + 2), jWP (jEv jtab (D + d + 2)) Q ((Sh0 n).length, jsl (Sh0 n)) pX5_readOne, Q, ((Sh0 n).length, jsl (Sh0 n))) 0 [some (.ref 21), some (.int l1), none] [] (Sh0 n, A, L) := by
  unfold fX5_readOne at h
  obtain ⟨r1, hc2, h⟩ := of_bind h
  refine y_mask <| x_aload rfl <| y_invV0 (Nat.le_of_ble_eq_true rfl) rfl (Nat.le_of_ble_eq_true rfl) <| jEv.exI (kX5_token _ _ _ _ hc2) <| x_istore rfl <| x_iload rfl <| x_push <| y_cmp_lt (fun h3 => ?_) (fun h3 => ?_)
  · replace h := of_pos h h3
    refine jWP.intro (pr := pX5_readOne) (pc := 28) ?_
    refine y_mask <| x_iload rfl <| x_push <| y_cmp_lt (fun h4 => ?_) (fun h4 => ?_)
    · replace h := of_pos h h4
      refine jWP.intro (pr := pX5_readOne) (pc := 58) ?_
      exact tjX5_readOne_58 rc D hrc d n A L l1 r1 h k3
    · replace h := of_neg h h4
      refine jWP.intro (pr := pX5_readOne) (pc := 35) ?_
      refine y_mask <| x_iload rfl <| x_push <| y_cmp_ge (fun h5 => ?_) (fun h5 => ?_)
      · replace h := of_pos h h5
        refine jWP.intro (pr := pX5_readOne) (pc := 58) ?_
        exact tjX5_readOne_58 rc D hrc d n A L l1 r1 h k3
      · replace h := of_neg h h5
        refine jWP.intro (pr := pX5_readOne) (pc := 42) ?_
        obtain ⟨r6, hc7, h⟩ := of_bind h
        obtain ⟨r8, hc9, h⟩ := of_bind h
        refine y_mask <| x_aload rfl <| x_push <| x_iload rfl <| x_isub <| y_invV1 (Nat.le_of_ble_eq_true rfl) rfl (Nat.le_of_ble_eq_true rfl) <| jEv.exV (kX5_write _ _ _ _ _ hc7) <| x_aload rfl <| y_invV0 (Nat.le_of_ble_eq_true rfl) rfl (Nat.le_of_ble_eq_true rfl) <| jEv.exV (kX5_next _ _ _ _ hc9) <| y_mask <| y_goto ?_
        refine jWP.intro (pr := pX5_readOne) (pc := 104) ?_
        refine y_mrv (bs := []) (ls := []) ?_
        obtain rfl := Option.some.inj h
        exact k3
  · replace h := of_neg h h3
    refine jWP.intro (pr := pX5_readOne) (pc := 12) ?_
    obtain ⟨r10, hc11, h⟩ := of_bind h
    obtain ⟨r12, hc13, h⟩ := of_bind h
    refine y_mask <| x_aload rfl <| x_iload rfl <| x_push <| x_isub <| y_invV1 (Nat.le_of_ble_eq_true rfl) rfl (Nat.le_of_ble_eq_true rfl) <| jEv.exV (kX5_write _ _ _ _ _ hc11) <| x_aload rfl <| y_invV0 (Nat.le_of_ble_eq_true rfl) rfl (Nat.le_of_ble_eq_true rfl) <| jEv.exV (kX5_next _ _ _ _ hc13) <| y_mask <| y_goto ?_
    refine jWP.intro (pr := pX5_readOne) (pc := 104) ?_
    refine y_mrv (bs := []) (ls := []) ?_
    obtain rfl := Option.some.inj h
    exact k3
theorem kX5_readOne (rc : (Nat → Nat → Int32) → Int32 → Int32 → Option (Nat → Nat → Int32)) (D : Nat) (hrc : ∀ (d n : Nat) (A : Nat → Nat → Int32) (L : Nat → Nat → Int64) (l1 l2 : Int32) (z : Nat → Nat → Int32), rc A l1 l2 = some z → jEv jtab (D + d) 48 [.ref 21, .int l1, .int l2] (Sh0 n, A, L) 0 0 (fun r M2 => r = none ∧ M2 = (Sh0 n, z, L))) (d n : Nat) (A : Nat → Nat → Int32) (L : Nat → Nat → Int64) (l1 : Int32) {z : (Nat → Nat → Int32)} (h : fX5_readOne rc A l1 = some z) : jEv jtab (D + d + 3) 52 [.ref 21, .int l1] (Sh0 n, A, L) 0 0 (fun r M2 => r = none ∧ M2 = (Sh0 n, z, L)) :=
  jEv.mk (mt := mX5_readOne) rfl (Nat.le_of_ble_eq_true rfl) (jWP.intro (pr := pX5_readOne) (pc := 0) (tfX5_readOne rc D hrc d n A L l1 h ⟨trivial, jCn.mk ⟨rfl, rfl⟩⟩))
set_option maxRecDepth 20000 in
theorem tjX5_readComparison_58 (rc : (Nat → Nat → Int32) → Int32 → Int32 → Option (Nat → Nat → Int32)) (D : Nat) (hrc : ∀ (d n : Nat) (A : Nat → Nat → Int32) (L : Nat → Nat → Int64) (l1 l2 : Int32) (z : Nat → Nat → Int32), rc A l1 l2 = some z → jEv jtab (D + d) 48 [.ref 21, .int l1, .int l2] (Sh0 n, A, L) 0 0 (fun r M2 => r = none ∧ M2 = (Sh0 n, z, L))) (d n : Nat) (A : Nat → Nat → Int32) (L : Nat → Nat → Int64) (l1 : Int32) (s0 : Int32) {Q : Option Value → jM → Prop} {z : (Nat → Nat → Int32)} (h : jX5_readComparison_58 rc A l1 s0 = some z) (k3 : Q (none) (Sh0 n, z, L)) : pX5_readComparison (jEv jtab (D + d + 2), jWP (jEv jtab (D + d + 2)) Q ((Sh0 n).length, jsl (Sh0 n)) pX5_readComparison, Q, ((Sh0 n).length, jsl (Sh0 n))) 58 [some (.ref 21), some (.int l1), none] [.int s0] (Sh0 n, A, L) := by
  unfold jX5_readComparison_58 at h
  refine y_mask <| x_istore rfl <| x_iload rfl <| y_if_eq (fun h1 => ?_) (fun h1 => ?_)
  · replace h := of_pos h h1
    refine jWP.intro (pr := pX5_readComparison) (pc := 78) ?_
    refine y_mrv (bs := []) (ls := []) ?_
    obtain rfl := Option.some.inj h
    exact k3
  · replace h := of_neg h h1
    refine jWP.intro (pr := pX5_readComparison) (pc := 63) ?_
    obtain ⟨r2, hc3, h⟩ := of_bind h
    obtain ⟨r4, hc5, h⟩ := of_bind h
    obtain ⟨r6, hc7, h⟩ := of_bind h
    refine y_mask <| x_aload rfl <| y_invV0 (Nat.le_of_ble_eq_true rfl) rfl (Nat.le_of_ble_eq_true rfl) <| jEv.exV (kX5_next _ _ _ _ hc3) <| x_aload rfl <| x_push <| x_iload rfl <| y_invV2 (Nat.le_of_ble_eq_true rfl) rfl (Nat.le_of_ble_eq_true rfl) <| jEv.exV (hrc (d + (2)) n r2 L (3 : Int32) l1 _ hc5) <| x_aload rfl <| x_iload rfl <| y_invV1 (Nat.le_of_ble_eq_true rfl) rfl (Nat.le_of_ble_eq_true rfl) <| jEv.exV (kX5_write _ _ _ _ _ hc7) <| y_mask <| y_goto ?_
    refine jWP.intro (pr := pX5_readComparison) (pc := 78) ?_
    refine y_mrv (bs := []) (ls := []) ?_
    obtain rfl := Option.some.inj h
    exact k3
set_option maxRecDepth 20000 in
theorem tfX5_readComparison (rc : (Nat → Nat → Int32) → Int32 → Int32 → Option (Nat → Nat → Int32)) (D : Nat) (hrc : ∀ (d n : Nat) (A : Nat → Nat → Int32) (L : Nat → Nat → Int64) (l1 l2 : Int32) (z : Nat → Nat → Int32), rc A l1 l2 = some z → jEv jtab (D + d) 48 [.ref 21, .int l1, .int l2] (Sh0 n, A, L) 0 0 (fun r M2 => r = none ∧ M2 = (Sh0 n, z, L))) (d n : Nat) (A : Nat → Nat → Int32) (L : Nat → Nat → Int64) (l1 : Int32) {Q : Option Value → jM → Prop} {z : (Nat → Nat → Int32)} (h : fX5_readComparison rc A l1 = some z) (k3 : Q (none) (Sh0 n, z, L)) : pX5_readComparison (jEv jtab (D + d + 2), jWP (jEv jtab (D + d + 2)) Q ((Sh0 n).length, jsl (Sh0 n)) pX5_readComparison, Q, ((Sh0 n).length, jsl (Sh0 n))) 0 [some (.ref 21), some (.int l1), none] [] (Sh0 n, A, L) := by
  unfold fX5_readComparison at h
  obtain ⟨r1, hc2, h⟩ := of_bind h
  refine y_mask <| x_aload rfl <| y_invV0 (Nat.le_of_ble_eq_true rfl) rfl (Nat.le_of_ble_eq_true rfl) <| jEv.exI (kX5_token _ _ _ _ hc2) <| x_push <| y_cmp_ne (fun h3 => ?_) (fun h3 => ?_)
  · replace h := of_neg h h3
    refine jWP.intro (pr := pX5_readComparison) (pc := 23) ?_
    obtain ⟨r4, hc5, h⟩ := of_bind h
    obtain ⟨r6, hc7, h⟩ := of_bind h
    refine y_mask <| x_aload rfl <| x_push <| x_iload rfl <| y_invV2 (Nat.le_of_ble_eq_true rfl) rfl (Nat.le_of_ble_eq_true rfl) <| jEv.exV (hrc (d + (2)) n A L (3 : Int32) l1 _ hc5) <| x_aload rfl <| y_invV0 (Nat.le_of_ble_eq_true rfl) rfl (Nat.le_of_ble_eq_true rfl) <| jEv.exI (kX5_token _ _ _ _ hc7) <| x_push <| y_cmp_ne (fun h8 => ?_) (fun h8 => ?_)
    · replace h := of_neg h h8
      refine jWP.intro (pr := pX5_readComparison) (pc := 43) ?_
      obtain ⟨r9, hc10, h⟩ := of_bind h
      refine y_mask <| x_aload rfl <| y_invV0 (Nat.le_of_ble_eq_true rfl) rfl (Nat.le_of_ble_eq_true rfl) <| jEv.exI (kX5_token _ _ _ _ hc10) <| x_push <| y_cmp_ne (fun h11 => ?_) (fun h11 => ?_)
      · replace h := of_neg h h11
        refine jWP.intro (pr := pX5_readComparison) (pc := 57) ?_
        refine y_mask <| x_push <| y_mask <| y_goto ?_
        refine jWP.intro (pr := pX5_readComparison) (pc := 58) ?_
        exact tjX5_readComparison_58 rc D hrc d n r4 L l1 (0 : Int32) h k3
      · replace h := of_pos h h11
        refine jWP.intro (pr := pX5_readComparison) (pc := 52) ?_
        refine y_mask <| x_push <| y_mask <| y_goto ?_
        refine jWP.intro (pr := pX5_readComparison) (pc := 58) ?_
        exact tjX5_readComparison_58 rc D hrc d n r4 L l1 (-15 : Int32) h k3
    · replace h := of_pos h h8
      refine jWP.intro (pr := pX5_readComparison) (pc := 38) ?_
      refine y_mask <| x_push <| y_mask <| y_goto ?_
      refine jWP.intro (pr := pX5_readComparison) (pc := 58) ?_
      exact tjX5_readComparison_58 rc D hrc d n r4 L l1 (-14 : Int32) h k3
  · replace h := of_pos h h3
    refine jWP.intro (pr := pX5_readComparison) (pc := 10) ?_
    obtain ⟨r12, hc13, h⟩ := of_bind h
    obtain ⟨r14, hc15, h⟩ := of_bind h
    refine y_mask <| x_aload rfl <| x_push <| x_iload rfl <| y_invV2 (Nat.le_of_ble_eq_true rfl) rfl (Nat.le_of_ble_eq_true rfl) <| jEv.exV (kX5_readOpened rc D hrc _ _ _ _ _ _ hc13) <| x_aload rfl <| x_push <| y_invV1 (Nat.le_of_ble_eq_true rfl) rfl (Nat.le_of_ble_eq_true rfl) <| jEv.exV (kX5_write _ _ _ _ _ hc15) <| y_return (ls := [some (.ref 21), some (.int l1), none]) ?_
    obtain rfl := Option.some.inj h
    exact k3
theorem kX5_readComparison (rc : (Nat → Nat → Int32) → Int32 → Int32 → Option (Nat → Nat → Int32)) (D : Nat) (hrc : ∀ (d n : Nat) (A : Nat → Nat → Int32) (L : Nat → Nat → Int64) (l1 l2 : Int32) (z : Nat → Nat → Int32), rc A l1 l2 = some z → jEv jtab (D + d) 48 [.ref 21, .int l1, .int l2] (Sh0 n, A, L) 0 0 (fun r M2 => r = none ∧ M2 = (Sh0 n, z, L))) (d n : Nat) (A : Nat → Nat → Int32) (L : Nat → Nat → Int64) (l1 : Int32) {z : (Nat → Nat → Int32)} (h : fX5_readComparison rc A l1 = some z) : jEv jtab (D + d + 3) 51 [.ref 21, .int l1] (Sh0 n, A, L) 0 0 (fun r M2 => r = none ∧ M2 = (Sh0 n, z, L)) :=
  jEv.mk (mt := mX5_readComparison) rfl (Nat.le_of_ble_eq_true rfl) (jWP.intro (pr := pX5_readComparison) (pc := 0) (tfX5_readComparison rc D hrc d n A L l1 h ⟨trivial, jCn.mk ⟨rfl, rfl⟩⟩))
set_option maxRecDepth 20000 in
theorem tgX5_readLevel (rc : (Nat → Nat → Int32) → Int32 → Int32 → Option (Nat → Nat → Int32)) (D : Nat) (hrc : ∀ (d n : Nat) (A : Nat → Nat → Int32) (L : Nat → Nat → Int64) (l1 l2 : Int32) (z : Nat → Nat → Int32), rc A l1 l2 = some z → jEv jtab (D + d) 48 [.ref 21, .int l1, .int l2] (Sh0 n, A, L) 0 0 (fun r M2 => r = none ∧ M2 = (Sh0 n, z, L))) (d n : Nat) (A : Nat → Nat → Int32) (L : Nat → Nat → Int64) (l1 : Int32) (l2 : Int32) {Q : Option Value → jM → Prop} {z : (Nat → Nat → Int32)} (h : gX5_readLevel rc A l1 l2 = some z) (k3 : Q (none) (Sh0 n, z, L)) : pX5_readLevel (jEv jtab (D + d + 3), jWP (jEv jtab (D + d + 3)) Q ((Sh0 n).length, jsl (Sh0 n)) pX5_readLevel, Q, ((Sh0 n).length, jsl (Sh0 n))) 0 [some (.ref 21), some (.int l1), some (.int l2)] [] (Sh0 n, A, L) := by
  unfold gX5_readLevel at h
  refine y_mask <| x_aload rfl <| x_getI (Nat.le_of_ble_eq_true rfl) rfl rfl <| y_if_lt (fun h1 => ?_) (fun h1 => ?_)
  · replace h := of_pos h h1
    refine jWP.intro (pr := pX5_readLevel) (pc := 8) ?_
    refine y_mask <| x_iload rfl <| x_push <| y_cmp_ne (fun h2 => ?_) (fun h2 => ?_)
    · replace h := of_neg h h2
      refine jWP.intro (pr := pX5_readLevel) (pc := 21) ?_
      refine y_mask <| x_iload rfl <| x_push <| y_cmp_ne (fun h3 => ?_) (fun h3 => ?_)
      · replace h := of_neg h h3
        refine jWP.intro (pr := pX5_readLevel) (pc := 34) ?_
        obtain ⟨r4, hc5, h⟩ := of_bind h
        refine y_mask <| x_aload rfl <| x_iload rfl <| x_iload rfl <| y_invV2 (Nat.le_of_ble_eq_true rfl) rfl (Nat.le_of_ble_eq_true rfl) <| jEv.exV (kX5_readChain rc D hrc _ _ _ _ _ _ hc5) <| y_mask <| y_goto ?_
        refine jWP.intro (pr := pX5_readLevel) (pc := 40) ?_
        refine y_mrv (bs := []) (ls := []) ?_
        obtain rfl := Option.some.inj h
        exact k3
      · replace h := of_pos h h3
        refine jWP.intro (pr := pX5_readLevel) (pc := 26) ?_
        obtain ⟨r6, hc7, h⟩ := of_bind h
        refine y_mask <| x_aload rfl <| x_iload rfl <| y_invV1 (Nat.le_of_ble_eq_true rfl) rfl (Nat.le_of_ble_eq_true rfl) <| jEv.exV (kX5_readOne rc D hrc _ _ _ _ _ hc7) <| y_mask <| y_goto ?_
        refine jWP.intro (pr := pX5_readLevel) (pc := 40) ?_
        refine y_mrv (bs := []) (ls := []) ?_
        obtain rfl := Option.some.inj h
        exact k3
    · replace h := of_pos h h2
      refine jWP.intro (pr := pX5_readLevel) (pc := 13) ?_
      obtain ⟨r8, hc9, h⟩ := of_bind h
      refine y_mask <| x_aload rfl <| x_iload rfl <| y_invV1 (Nat.le_of_ble_eq_true rfl) rfl (Nat.le_of_ble_eq_true rfl) <| jEv.exV (kX5_readComparison rc D hrc _ _ _ _ _ hc9) <| y_mask <| y_goto ?_
      refine jWP.intro (pr := pX5_readLevel) (pc := 40) ?_
      refine y_mrv (bs := []) (ls := []) ?_
      obtain rfl := Option.some.inj h
      exact k3
  · replace h := of_neg h h1
    refine jWP.intro (pr := pX5_readLevel) (pc := 7) ?_
    refine y_mrv (bs := []) (ls := []) ?_
    obtain rfl := Option.some.inj h
    exact k3
theorem qX5_readLevel (rc : (Nat → Nat → Int32) → Int32 → Int32 → Option (Nat → Nat → Int32)) (D : Nat) (hrc : ∀ (d n : Nat) (A : Nat → Nat → Int32) (L : Nat → Nat → Int64) (l1 l2 : Int32) (z : Nat → Nat → Int32), rc A l1 l2 = some z → jEv jtab (D + d) 48 [.ref 21, .int l1, .int l2] (Sh0 n, A, L) 0 0 (fun r M2 => r = none ∧ M2 = (Sh0 n, z, L))) (d n : Nat) (A : Nat → Nat → Int32) (L : Nat → Nat → Int64) (l1 : Int32) (l2 : Int32) {z : (Nat → Nat → Int32)} (h : gX5_readLevel rc A l1 l2 = some z) : jEv jtab (D + d + 4) 48 [.ref 21, .int l1, .int l2] (Sh0 n, A, L) 0 0 (fun r M2 => r = none ∧ M2 = (Sh0 n, z, L)) :=
  jEv.mk (mt := mX5_readLevel) rfl (Nat.le_of_ble_eq_true rfl) (jWP.intro (pr := pX5_readLevel) (pc := 0) (tgX5_readLevel rc D hrc d n A L l1 l2 h ⟨trivial, jCn.mk ⟨rfl, rfl⟩⟩))
theorem kX5_readLevel_k : ∀ (k d n : Nat) (A : Nat → Nat → Int32) (L : Nat → Nat → Int64) (l1 l2 : Int32) (z : Nat → Nat → Int32), fX5_readLevel k A l1 l2 = some z → jEv jtab (k * 8 + d) 48 [.ref 21, .int l1, .int l2] (Sh0 n, A, L) 0 0 (fun r M2 => r = none ∧ M2 = (Sh0 n, z, L))
  | 0, _, _, _, _, _, _, _, h => absurd h (by simp [fX5_readLevel])
  | k + 1, d, n, A, L, l1, l2, z, h => jEv.le (by rw [Nat.succ_mul]; omega) (qX5_readLevel (fX5_readLevel k) (k * 8) (fun d n A L l1 l2 z h => kX5_readLevel_k k d n A L l1 l2 z h) d n A L l1 l2 (by rw [fX5_readLevel] at h; exact h))
theorem kX5_readLevel (d n : Nat) (A : Nat → Nat → Int32) (L : Nat → Nat → Int64) (l1 l2 : Int32) {z : Nat → Nat → Int32} (h : fX5_readLevel 64 A l1 l2 = some z) : jEv jtab (d + 512) 48 [.ref 21, .int l1, .int l2] (Sh0 n, A, L) 0 0 (fun r M2 => r = none ∧ M2 = (Sh0 n, z, L)) := jEv.le (by omega) (kX5_readLevel_k 64 d n A L l1 l2 z h)
set_option maxRecDepth 20000 in
theorem tcX5_readTape_24 (d n : Nat) (A : Nat → Nat → Int32) (L : Nat → Nat → Int64) (s : (Int32 × (Nat → Nat → Int32))) {Q : Option Value → jM → Prop} {z : ((Int32 × (Nat → Nat → Int32)) ⊕ (Nat → Nat → Int32))} (h : cX5_readTape_24 s = some z) (k1 : ∀ s0, z = .inl s0 → pX5_readTape (jEv jtab (d + 512), jWP (jEv jtab (d + 512)) Q ((Sh0 n).length, jsl (Sh0 n)) pX5_readTape, Q, ((Sh0 n).length, jsl (Sh0 n))) 24 [some (.ref 21), some (.int s0.1)] [] (Sh0 n, s0.2, L)) (k2 : ∀ s0, z = .inr s0 → pX5_readTape (jEv jtab (d + 512), jWP (jEv jtab (d + 512)) Q ((Sh0 n).length, jsl (Sh0 n)) pX5_readTape, Q, ((Sh0 n).length, jsl (Sh0 n))) 66 [some (.ref 21), none] [] (Sh0 n, s0, L)) : pX5_readTape (jEv jtab (d + 512), jWP (jEv jtab (d + 512)) Q ((Sh0 n).length, jsl (Sh0 n)) pX5_readTape, Q, ((Sh0 n).length, jsl (Sh0 n))) 24 [some (.ref 21), some (.int s.1)] [] (Sh0 n, s.2, L) := by
  unfold cX5_readTape_24 at h
  refine y_mask <| x_iload rfl <| x_push <| y_cmp_ge (fun h1 => ?_) (fun h1 => ?_)
  · replace h := of_pos h h1
    refine jWP.intro (pr := pX5_readTape) (pc := 66) ?_
    have hk := k2 _ (Option.some.inj h).symm
    exact hk
  · replace h := of_neg h h1
    refine jWP.intro (pr := pX5_readTape) (pc := 29) ?_
    obtain ⟨g2, h⟩ := of_guard h
    obtain ⟨m3, hm4, h⟩ := of_bind h
    obtain ⟨r5, hc6, h⟩ := of_bind h
    obtain ⟨r7, hc8, h⟩ := of_bind h
    obtain ⟨r9, hc10, h⟩ := of_bind h
    refine y_mask <| x_aload rfl <| x_getR (Nat.le_of_ble_eq_true rfl) rfl rfl <| x_iload rfl <| x_aload rfl <| x_getI (Nat.le_of_ble_eq_true rfl) rfl rfl <| x_iast (Nat.le_of_ble_eq_true rfl) rfl g2 <| y_let (Option.some.inj hm4) <| x_aload rfl <| x_push <| x_iload rfl <| x_iadd <| y_invV1 (Nat.le_of_ble_eq_true rfl) rfl (Nat.le_of_ble_eq_true rfl) <| jEv.exV (kX5_expect _ _ _ _ _ hc6) <| x_aload rfl <| x_push <| x_push <| y_invV2 (Nat.le_of_ble_eq_true rfl) rfl (Nat.le_of_ble_eq_true rfl) <| jEv.exV (kX5_readLevel _ _ _ _ _ _ hc8) <| x_aload rfl <| x_push <| y_invV1 (Nat.le_of_ble_eq_true rfl) rfl (Nat.le_of_ble_eq_true rfl) <| jEv.exV (kX5_expect _ _ _ _ _ hc10) <| x_iinc rfl rfl <| y_mask <| y_goto ?_
    refine jWP.intro (pr := pX5_readTape) (pc := 24) ?_
    have hk := k1 _ (Option.some.inj h).symm
    exact hk
set_option maxRecDepth 20000 in
theorem tfX5_readTape (d n : Nat) (A : Nat → Nat → Int32) (L : Nat → Nat → Int64) {Q : Option Value → jM → Prop} {z : (Int32 × (Nat → Nat → Int32))} (h : fX5_readTape A = some z) (k3 : Q (some (.int z.1)) (Sh0 n, z.2, L)) : pX5_readTape (jEv jtab (d + 512), jWP (jEv jtab (d + 512)) Q ((Sh0 n).length, jsl (Sh0 n)) pX5_readTape, Q, ((Sh0 n).length, jsl (Sh0 n))) 0 [some (.ref 21), none] [] (Sh0 n, A, L) := by
  unfold fX5_readTape at h
  obtain ⟨r1, hc2, h⟩ := of_bind h
  obtain ⟨m3, hm4, h⟩ := of_bind h
  refine y_mask <| x_aload rfl <| x_getR (Nat.le_of_ble_eq_true rfl) rfl rfl <| y_invV0 (Nat.le_of_ble_eq_true rfl) rfl (Nat.le_of_ble_eq_true rfl) <| jEv.exV (kX8_cutUp _ _ _ _ hc2) <| x_aload rfl <| x_push <| x_putI (Nat.le_of_ble_eq_true rfl) rfl rfl <| x_aload rfl <| x_push <| x_putI (Nat.le_of_ble_eq_true rfl) rfl rfl <| y_let (Option.some.inj hm4) <| x_aload rfl <| x_push <| x_putI (Nat.le_of_ble_eq_true rfl) rfl rfl <| x_push <| x_istore rfl <| y_mask <| y_goto ?_
  obtain ⟨e5, hw6, h⟩ := of_bind h
  refine jWP.intro (pr := pX5_readTape) (pc := 24) ?_
  refine jwh_use (G := (fun s0 => pX5_readTape (jEv jtab (d + 512), jWP (jEv jtab (d + 512)) Q ((Sh0 n).length, jsl (Sh0 n)) pX5_readTape, Q, ((Sh0 n).length, jsl (Sh0 n))) 24 [some (.ref 21), some (.int s0.1)] [] (Sh0 n, s0.2, L))) (Gx := (fun s0 => pX5_readTape (jEv jtab (d + 512), jWP (jEv jtab (d + 512)) Q ((Sh0 n).length, jsl (Sh0 n)) pX5_readTape, Q, ((Sh0 n).length, jsl (Sh0 n))) 66 [some (.ref 21), none] [] (Sh0 n, s0, L))) (fun s1 z1 hz kk1 kk2 => tcX5_readTape_24 d n (va_up m3 21 (upd (m3 21) 5 (-1 : Int32))) L s1 hz kk1 kk2) hw6 ?_
  obtain ⟨m7, hm8, h⟩ := of_bind h
  obtain ⟨r9, hc10, h⟩ := of_bind h
  refine y_mask <| x_aload rfl <| x_getR (Nat.le_of_ble_eq_true rfl) rfl rfl <| x_push <| x_aload rfl <| x_getI (Nat.le_of_ble_eq_true rfl) rfl rfl <| x_iast (Nat.le_of_ble_eq_true rfl) rfl (by unfold vp_in; decide) <| y_let (Option.some.inj hm8) <| x_aload rfl <| x_push <| y_invV1 (Nat.le_of_ble_eq_true rfl) rfl (Nat.le_of_ble_eq_true rfl) <| jEv.exV (kX5_expect _ _ _ _ _ hc10) <| x_aload rfl <| x_getR (Nat.le_of_ble_eq_true rfl) rfl rfl <| x_push <| x_putI (Nat.le_of_ble_eq_true rfl) rfl rfl <| x_aload rfl <| x_getI (Nat.le_of_ble_eq_true rfl) rfl rfl <| y_ireturn (ls := [some (.ref 21), none]) ?_
  obtain rfl := Option.some.inj h
  exact k3
theorem kX5_readTape (d n : Nat) (A : Nat → Nat → Int32) (L : Nat → Nat → Int64) {z : (Int32 × (Nat → Nat → Int32))} (h : fX5_readTape A = some z) : jEv jtab (d + 513) 42 [.ref 21] (Sh0 n, A, L) 0 0 (fun r M2 => r = some (.int z.1) ∧ M2 = (Sh0 n, z.2, L)) :=
  jEv.mk (mt := mX5_readTape) rfl (Nat.le_of_ble_eq_true rfl) (jWP.intro (pr := pX5_readTape) (pc := 0) (tfX5_readTape d n A L h ⟨trivial, jCn.mk ⟨rfl, rfl⟩⟩))
set_option maxRecDepth 20000 in
theorem tfX2_add (d n : Nat) (A : Nat → Nat → Int32) (L : Nat → Nat → Int64) {Q : Option Value → jM → Prop} {z : (Int32 × (Nat → Nat → Int32))} (h : fX2_add A = some z) (k3 : Q (some (.int z.1)) (Sh0 n, z.2, L)) : pX2_add (jEv jtab (d + 0), jWP (jEv jtab (d + 0)) Q ((Sh0 n).length, jsl (Sh0 n)) pX2_add, Q, ((Sh0 n).length, jsl (Sh0 n))) 0 [some (.ref 20)] [] (Sh0 n, A, L) := by
  unfold fX2_add at h
  obtain ⟨g1, h⟩ := of_guard h
  obtain ⟨g3, h⟩ := of_guard h
  obtain ⟨m4, hm5, h⟩ := of_bind h
  obtain ⟨g6, h⟩ := of_guard h
  obtain ⟨g8, h⟩ := of_guard h
  obtain ⟨m9, hm10, h⟩ := of_bind h
  refine y_mask <| x_aload rfl <| x_getR (Nat.le_of_ble_eq_true rfl) rfl rfl <| x_getR (Nat.le_of_ble_eq_true rfl) rfl rfl <| x_push <| x_aload rfl <| x_getR (Nat.le_of_ble_eq_true rfl) rfl rfl <| x_aload rfl <| x_getI (Nat.le_of_ble_eq_true rfl) rfl rfl <| x_row (Nat.le_of_ble_eq_true rfl) rfl g1 <| fun hr2 => x_push <| x_aload rfl <| x_getR (Nat.le_of_ble_eq_true rfl) rfl rfl <| x_getR (Nat.le_of_ble_eq_true rfl) rfl rfl <| x_alen rfl (by simp) <| x_copy (rowle (Nat.le_of_ble_eq_true rfl)) rfl (rows_29 (vp_lt g1)) g3.1 g3.2.1 g3.2.2.1 g3.2.2.2.1 g3.2.2.2.2 (Nat.le_of_ble_eq_true rfl) <| y_let (Option.some.inj hm5) <| x_aload rfl <| x_getR (Nat.le_of_ble_eq_true rfl) rfl rfl <| x_getR (Nat.le_of_ble_eq_true rfl) rfl rfl <| x_push <| x_aload rfl <| x_getR (Nat.le_of_ble_eq_true rfl) rfl rfl <| x_aload rfl <| x_getI (Nat.le_of_ble_eq_true rfl) rfl rfl <| x_row (Nat.le_of_ble_eq_true rfl) rfl g6 <| fun hr7 => x_push <| x_aload rfl <| x_getR (Nat.le_of_ble_eq_true rfl) rfl rfl <| x_getR (Nat.le_of_ble_eq_true rfl) rfl rfl <| x_alen rfl (by simp) <| x_copy (rowle (Nat.le_of_ble_eq_true rfl)) rfl (rows_36 (vp_lt g6)) g8.1 g8.2.1 g8.2.2.1 g8.2.2.2.1 g8.2.2.2.2 (Nat.le_of_ble_eq_true rfl) <| y_let (Option.some.inj hm10) <| x_aload rfl <| x_dup rfl <| x_getI (Nat.le_of_ble_eq_true rfl) rfl rfl <| x_push <| x_iadd <| x_putI (Nat.le_of_ble_eq_true rfl) rfl rfl <| x_aload rfl <| x_getI (Nat.le_of_ble_eq_true rfl) rfl rfl <| x_push <| x_isub <| y_mask <| y_goto ?_
  refine jWP.intro (pr := pX2_add) (pc := 74) ?_
  refine y_mri (bs := []) (ls := []) ?_
  obtain rfl := Option.some.inj h
  exact k3
theorem kX2_add (d n : Nat) (A : Nat → Nat → Int32) (L : Nat → Nat → Int64) {z : (Int32 × (Nat → Nat → Int32))} (h : fX2_add A = some z) : jEv jtab (d + 1) 20 [.ref 20] (Sh0 n, A, L) 0 0 (fun r M2 => r = some (.int z.1) ∧ M2 = (Sh0 n, z.2, L)) :=
  jEv.mk (mt := mX2_add) rfl (Nat.le_of_ble_eq_true rfl) (jWP.intro (pr := pX2_add) (pc := 0) (tfX2_add d n A L h ⟨trivial, jCn.mk ⟨rfl, rfl⟩⟩))
set_option maxRecDepth 20000 in
theorem tfX10_text (d n : Nat) (A : Nat → Nat → Int32) (L : Nat → Nat → Int64) {Q : Option Value → jM → Prop} {z : (Int32 × (Nat → Nat → Int32))} (h : fX10_text A = some z) (k3 : Q (some (.int z.1)) (Sh0 n, z.2, L)) : pX10_text (jEv jtab (d + 513), jWP (jEv jtab (d + 513)) Q ((Sh0 n).length, jsl (Sh0 n)) pX10_text, Q, ((Sh0 n).length, jsl (Sh0 n))) 0 [some (.ref 15), none, none] [] (Sh0 n, A, L) := by
  unfold fX10_text at h
  refine y_mask <| x_aload rfl <| x_getR (Nat.le_of_ble_eq_true rfl) rfl rfl <| x_getR (Nat.le_of_ble_eq_true rfl) rfl rfl <| x_astore rfl <| x_aload rfl <| x_getI (Nat.le_of_ble_eq_true rfl) rfl rfl <| x_push <| y_cmp_lt (fun h1 => ?_) (fun h1 => ?_)
  · replace h := of_pos h h1
    refine jWP.intro (pr := pX10_text) (pc := 20) ?_
    obtain ⟨r2, hc3, h⟩ := of_bind h
    refine y_mask <| x_aload rfl <| x_getR (Nat.le_of_ble_eq_true rfl) rfl rfl <| y_invV0 (Nat.le_of_ble_eq_true rfl) rfl (Nat.le_of_ble_eq_true rfl) <| jEv.exI (kX5_readTape _ _ _ _ hc3) <| x_istore rfl <| x_iload rfl <| y_if_ge (fun h4 => ?_) (fun h4 => ?_)
    · replace h := of_pos h h4
      refine jWP.intro (pr := pX10_text) (pc := 39) ?_
      refine y_mask <| x_push <| x_iload rfl <| x_isub <| y_mask <| y_goto ?_
      refine jWP.intro (pr := pX10_text) (pc := 43) ?_
      refine y_mri (bs := []) (ls := []) ?_
      obtain rfl := Option.some.inj h
      exact k3
    · replace h := of_neg h h4
      refine jWP.intro (pr := pX10_text) (pc := 32) ?_
      obtain ⟨r5, hc6, h⟩ := of_bind h
      refine y_mask <| x_aload rfl <| y_invV0 (Nat.le_of_ble_eq_true rfl) rfl (Nat.le_of_ble_eq_true rfl) <| jEv.exI (kX2_add _ _ _ _ hc6) <| y_mask <| y_goto ?_
      refine jWP.intro (pr := pX10_text) (pc := 43) ?_
      refine y_mri (bs := []) (ls := []) ?_
      obtain rfl := Option.some.inj h
      exact k3
  · replace h := of_neg h h1
    refine jWP.intro (pr := pX10_text) (pc := 17) ?_
    refine y_mpri (bs := []) (ls := []) ?_
    obtain rfl := Option.some.inj h
    exact k3
theorem kX10_text (d n : Nat) (A : Nat → Nat → Int32) (L : Nat → Nat → Int64) {z : (Int32 × (Nat → Nat → Int32))} (h : fX10_text A = some z) : jEv jtab (d + 514) 113 [.ref 15] (Sh0 n, A, L) 0 0 (fun r M2 => r = some (.int z.1) ∧ M2 = (Sh0 n, z.2, L)) :=
  jEv.mk (mt := mX10_text) rfl (Nat.le_of_ble_eq_true rfl) (jWP.intro (pr := pX10_text) (pc := 0) (tfX10_text d n A L h ⟨trivial, jCn.mk ⟨rfl, rfl⟩⟩))
set_option maxRecDepth 20000 in
theorem tfX10_force (d n : Nat) (A : Nat → Nat → Int32) (L : Nat → Nat → Int64) (l1 : Int32) {Q : Option Value → jM → Prop} {z : (Int32 × (Nat → Nat → Int32))} (h : fX10_force A l1 = some z) (k3 : Q (some (.int z.1)) (Sh0 n, z.2, L)) : pX10_force (jEv jtab (d + 1), jWP (jEv jtab (d + 1)) Q ((Sh0 n).length, jsl (Sh0 n)) pX10_force, Q, ((Sh0 n).length, jsl (Sh0 n))) 0 [some (.ref 15), some (.int l1), none] [] (Sh0 n, A, L) := by
  unfold fX10_force at h
  refine y_mask <| x_iload rfl <| x_push <| x_aload rfl <| x_getR (Nat.le_of_ble_eq_true rfl) rfl rfl <| x_getR (Nat.le_of_ble_eq_true rfl) rfl rfl <| x_getI (Nat.le_of_ble_eq_true rfl) rfl rfl <| x_push <| x_isub <| y_invS3 (Nat.le_of_ble_eq_true rfl) <| jEv.exZ (q := 152) rfl (kX10_within _ _ _ _ _ _ _) <| fun hz1 => y_if_ne (fun h2 => ?_) (fun h2 => ?_)
  · replace h := of_neg h h2
    refine jWP.intro (pr := pX10_force) (pc := 23) ?_
    refine y_mask <| x_aload rfl <| x_getR (Nat.le_of_ble_eq_true rfl) rfl rfl <| x_getR (Nat.le_of_ble_eq_true rfl) rfl rfl <| x_getI (Nat.le_of_ble_eq_true rfl) rfl rfl <| x_istore rfl <| x_aload rfl <| x_getR (Nat.le_of_ble_eq_true rfl) rfl rfl <| x_getR (Nat.le_of_ble_eq_true rfl) rfl rfl <| x_iload rfl <| x_putI (Nat.le_of_ble_eq_true rfl) rfl rfl <| x_iload rfl <| y_ireturn (ls := [some (.ref 15), some (.int l1), some (.int (A 17 2))]) ?_
    obtain rfl := Option.some.inj h
    exact k3
  · replace h := of_pos h h2
    refine jWP.intro (pr := pX10_force) (pc := 20) ?_
    refine y_mpri (bs := []) (ls := []) ?_
    obtain rfl := Option.some.inj h
    exact k3
theorem kX10_force (d n : Nat) (A : Nat → Nat → Int32) (L : Nat → Nat → Int64) (l1 : Int32) {z : (Int32 × (Nat → Nat → Int32))} (h : fX10_force A l1 = some z) : jEv jtab (d + 2) 114 [.ref 15, .int l1] (Sh0 n, A, L) 0 0 (fun r M2 => r = some (.int z.1) ∧ M2 = (Sh0 n, z.2, L)) :=
  jEv.mk (mt := mX10_force) rfl (Nat.le_of_ble_eq_true rfl) (jWP.intro (pr := pX10_force) (pc := 0) (tfX10_force d n A L l1 h ⟨trivial, jCn.mk ⟨rfl, rfl⟩⟩))
set_option maxRecDepth 20000 in
theorem tcJ7_fill_53178_5 (d n : Nat) (A : Nat → Nat → Int32) (L : Nat → Nat → Int64) (cl0 : Nat) (nl0 : Nat) (hsl0 : jn (Sh0 n) cl0 = some (.inl (.int, nl0))) (hll0 : jR ≤ cl0) (l1 : Int32) (l3 : Int32) (s : (Int32 × (Nat → Nat → Int32))) {Q : Option Value → jM → Prop} {z : ((Int32 × (Nat → Nat → Int32)) ⊕ (Nat → Nat → Int32))} (h : cJ7_fill_53178_5 cl0 nl0 l1 l3 s = some z) (k1 : ∀ s0, z = .inl s0 → pJ7_fill_53178 (jEv jtab (d + 0), jWP (jEv jtab (d + 0)) Q ((Sh0 n).length, jsl (Sh0 n)) pJ7_fill_53178, Q, ((Sh0 n).length, jsl (Sh0 n))) 5 [some (.ref cl0), some (.int l1), some (.int s0.1), some (.int l3)] [] (Sh0 n, s0.2, L)) (k2 : ∀ s0, z = .inr s0 → pJ7_fill_53178 (jEv jtab (d + 0), jWP (jEv jtab (d + 0)) Q ((Sh0 n).length, jsl (Sh0 n)) pJ7_fill_53178, Q, ((Sh0 n).length, jsl (Sh0 n))) 20 [none, none, none, none] [] (Sh0 n, s0, L)) : pJ7_fill_53178 (jEv jtab (d + 0), jWP (jEv jtab (d + 0)) Q ((Sh0 n).length, jsl (Sh0 n)) pJ7_fill_53178, Q, ((Sh0 n).length, jsl (Sh0 n))) 5 [some (.ref cl0), some (.int l1), some (.int s.1), some (.int l3)] [] (Sh0 n, s.2, L) := by
  unfold cJ7_fill_53178_5 at h
  refine y_mask <| x_iload rfl <| x_iload rfl <| y_cmp_ge (fun h1 => ?_) (fun h1 => ?_)
  · replace h := of_pos h h1
    refine jWP.intro (pr := pJ7_fill_53178) (pc := 20) ?_
    have hk := k2 _ (Option.some.inj h).symm
    exact hk
  · replace h := of_neg h h1
    refine jWP.intro (pr := pJ7_fill_53178) (pc := 10) ?_
    obtain ⟨g2, h⟩ := of_guard h
    obtain ⟨m3, hm4, h⟩ := of_bind h
    refine y_mask <| x_aload rfl <| x_iload rfl <| x_iload rfl <| x_iast hll0 hsl0 g2 <| y_let (Option.some.inj hm4) <| x_iinc rfl rfl <| y_mask <| y_goto ?_
    refine jWP.intro (pr := pJ7_fill_53178) (pc := 5) ?_
    have hk := k1 _ (Option.some.inj h).symm
    exact hk
set_option maxRecDepth 20000 in
theorem tfJ7_fill_53178 (d n : Nat) (A : Nat → Nat → Int32) (L : Nat → Nat → Int64) (cl0 nl0 : Nat) (hsl0 : jn (Sh0 n) cl0 = some (.inl (.int, nl0))) (hll0 : jR ≤ cl0) (l1 : Int32) {Q : Option Value → jM → Prop} {z : (Nat → Nat → Int32)} (h : fJ7_fill_53178 A cl0 nl0 l1 = some z) (k3 : Q (none) (Sh0 n, z, L)) : pJ7_fill_53178 (jEv jtab (d + 0), jWP (jEv jtab (d + 0)) Q ((Sh0 n).length, jsl (Sh0 n)) pJ7_fill_53178, Q, ((Sh0 n).length, jsl (Sh0 n))) 0 [some (.ref cl0), some (.int l1), none, none] [] (Sh0 n, A, L) := by
  unfold fJ7_fill_53178 at h
  refine y_mask <| x_push <| x_istore rfl <| x_aload rfl <| x_alen hsl0 (by simp) <| x_istore rfl <| y_mask <| y_goto ?_
  obtain ⟨e1, hw2, h⟩ := of_bind h
  refine jWP.intro (pr := pJ7_fill_53178) (pc := 5) ?_
  refine jwh_use (G := (fun s0 => pJ7_fill_53178 (jEv jtab (d + 0), jWP (jEv jtab (d + 0)) Q ((Sh0 n).length, jsl (Sh0 n)) pJ7_fill_53178, Q, ((Sh0 n).length, jsl (Sh0 n))) 5 [some (.ref cl0), some (.int l1), some (.int s0.1), some (.int (Int32.ofNat nl0))] [] (Sh0 n, s0.2, L))) (Gx := (fun s0 => pJ7_fill_53178 (jEv jtab (d + 0), jWP (jEv jtab (d + 0)) Q ((Sh0 n).length, jsl (Sh0 n)) pJ7_fill_53178, Q, ((Sh0 n).length, jsl (Sh0 n))) 20 [none, none, none, none] [] (Sh0 n, s0, L))) (fun s1 z1 hz kk1 kk2 => tcJ7_fill_53178_5 d n A L cl0 nl0 hsl0 hll0 l1 (Int32.ofNat nl0) s1 hz kk1 kk2) hw2 ?_
  refine y_mrv (bs := []) (ls := []) ?_
  obtain rfl := Option.some.inj h
  exact k3
theorem kJ7_fill_53178 (d n : Nat) (A : Nat → Nat → Int32) (L : Nat → Nat → Int64) (cl0 nl0 : Nat) (hsl0 : jn (Sh0 n) cl0 = some (.inl (.int, nl0))) (hll0 : jR ≤ cl0) (l1 : Int32) {z : (Nat → Nat → Int32)} (h : fJ7_fill_53178 A cl0 nl0 l1 = some z) : jEv jtab (d + 1) 275 [.ref cl0, .int l1] (Sh0 n, A, L) 0 0 (fun r M2 => r = none ∧ M2 = (Sh0 n, z, L)) :=
  jEv.mk (mt := mJ7_fill_53178) rfl (Nat.le_of_ble_eq_true rfl) (jWP.intro (pr := pJ7_fill_53178) (pc := 0) (tfJ7_fill_53178 d n A L cl0 nl0 hsl0 hll0 l1 h ⟨trivial, jCn.mk ⟨rfl, rfl⟩⟩))
set_option maxRecDepth 20000 in
theorem tfX6_sailBy (d n : Nat) (A : Nat → Nat → Int32) (L : Nat → Nat → Int64) (l1 : Int32) {Q : Option Value → jM → Prop} {z : (Nat → Nat → Int32)} (h : fX6_sailBy A l1 = some z) (k3 : Q (none) (Sh0 n, z, L)) : pX6_sailBy (jEv jtab (d + 1), jWP (jEv jtab (d + 1)) Q ((Sh0 n).length, jsl (Sh0 n)) pX6_sailBy, Q, ((Sh0 n).length, jsl (Sh0 n))) 0 [some (.ref 16), some (.int l1)] [] (Sh0 n, A, L) := by
  unfold fX6_sailBy at h
  obtain ⟨r1, hc2, h⟩ := of_bind h
  refine y_mask <| x_aload rfl <| x_iload rfl <| x_putI (Nat.le_of_ble_eq_true rfl) rfl rfl <| x_aload rfl <| x_getR (Nat.le_of_ble_eq_true rfl) rfl rfl <| x_push <| y_invS2 (Nat.le_of_ble_eq_true rfl) <| jEv.exV (kJ7_fill_53178 _ _ _ _ 53 96 rfl (Nat.le_of_ble_eq_true rfl) _ hc2) <| y_return (ls := [some (.ref 16), some (.int l1)]) ?_
  obtain rfl := Option.some.inj h
  exact k3
theorem kX6_sailBy (d n : Nat) (A : Nat → Nat → Int32) (L : Nat → Nat → Int64) (l1 : Int32) {z : (Nat → Nat → Int32)} (h : fX6_sailBy A l1 = some z) : jEv jtab (d + 2) 58 [.ref 16, .int l1] (Sh0 n, A, L) 0 0 (fun r M2 => r = none ∧ M2 = (Sh0 n, z, L)) :=
  jEv.mk (mt := mX6_sailBy) rfl (Nat.le_of_ble_eq_true rfl) (jWP.intro (pr := pX6_sailBy) (pc := 0) (tfX6_sailBy d n A L l1 h ⟨trivial, jCn.mk ⟨rfl, rfl⟩⟩))
set_option maxRecDepth 20000 in
theorem tfX4_wind (d n : Nat) (A : Nat → Nat → Int32) (L : Nat → Nat → Int64) {Q : Option Value → jM → Prop} {z : Int32} (h : fX4_wind A = z) (k3 : Q (some (.int z)) (Sh0 n, A, L)) : pX4_wind (jEv jtab (d + 0), jWP (jEv jtab (d + 0)) Q ((Sh0 n).length, jsl (Sh0 n)) pX4_wind, Q, ((Sh0 n).length, jsl (Sh0 n))) 0 [some (.ref 17)] [] (Sh0 n, A, L) := by
  unfold fX4_wind at h
  refine y_mask <| x_aload rfl <| x_getR (Nat.le_of_ble_eq_true rfl) rfl rfl <| x_push <| x_iald rfl (by unfold vp_in; decide) <| y_ireturn (ls := [some (.ref 17)]) ?_
  subst h
  exact k3
theorem kX4_wind (d n : Nat) (A : Nat → Nat → Int32) (L : Nat → Nat → Int64) : jEv jtab (d + 1) 34 [.ref 17] (Sh0 n, A, L) 0 0 (fun r M2 => r = some (.int (fX4_wind A)) ∧ M2 = (Sh0 n, A, L)) :=
  jEv.mk (mt := mX4_wind) rfl (Nat.le_of_ble_eq_true rfl) (jWP.intro (pr := pX4_wind) (pc := 0) (tfX4_wind d n A L rfl ⟨trivial, jCn.mk ⟨rfl, rfl⟩⟩))
set_option maxRecDepth 20000 in
theorem tfX4_noise (d n : Nat) (A : Nat → Nat → Int32) (L : Nat → Nat → Int64) {Q : Option Value → jM → Prop} {z : Int32} (h : fX4_noise A = z) (k3 : Q (some (.int z)) (Sh0 n, A, L)) : pX4_noise (jEv jtab (d + 0), jWP (jEv jtab (d + 0)) Q ((Sh0 n).length, jsl (Sh0 n)) pX4_noise, Q, ((Sh0 n).length, jsl (Sh0 n))) 0 [some (.ref 17)] [] (Sh0 n, A, L) := by
  unfold fX4_noise at h
  refine y_mask <| x_aload rfl <| x_getR (Nat.le_of_ble_eq_true rfl) rfl rfl <| x_push <| x_iald rfl (by unfold vp_in; decide) <| y_ireturn (ls := [some (.ref 17)]) ?_
  subst h
  exact k3
theorem kX4_noise (d n : Nat) (A : Nat → Nat → Int32) (L : Nat → Nat → Int64) : jEv jtab (d + 1) 35 [.ref 17] (Sh0 n, A, L) 0 0 (fun r M2 => r = some (.int (fX4_noise A)) ∧ M2 = (Sh0 n, A, L)) :=
  jEv.mk (mt := mX4_noise) rfl (Nat.le_of_ble_eq_true rfl) (jWP.intro (pr := pX4_noise) (pc := 0) (tfX4_noise d n A L rfl ⟨trivial, jCn.mk ⟨rfl, rfl⟩⟩))
set_option maxRecDepth 20000 in
theorem tfX4_sailIn (d n : Nat) (A : Nat → Nat → Int32) (L : Nat → Nat → Int64) (l1 : Int32) {Q : Option Value → jM → Prop} {z : Int32} (h : fX4_sailIn A l1 = z) (k3 : Q (some (.int z)) (Sh0 n, A, L)) : pX4_sailIn (jEv jtab (d + 0), jWP (jEv jtab (d + 0)) Q ((Sh0 n).length, jsl (Sh0 n)) pX4_sailIn, Q, ((Sh0 n).length, jsl (Sh0 n))) 0 [some (.ref 17), some (.int l1)] [] (Sh0 n, A, L) := by
  unfold fX4_sailIn at h
  refine y_mask <| x_aload rfl <| x_getR (Nat.le_of_ble_eq_true rfl) rfl rfl <| x_push <| x_iald rfl (by unfold vp_in; decide) <| x_iload rfl <| x_ishr <| x_push <| x_iand <| y_ireturn (ls := [some (.ref 17), some (.int l1)]) ?_
  subst h
  exact k3
theorem kX4_sailIn (d n : Nat) (A : Nat → Nat → Int32) (L : Nat → Nat → Int64) (l1 : Int32) : jEv jtab (d + 1) 38 [.ref 17, .int l1] (Sh0 n, A, L) 0 0 (fun r M2 => r = some (.int (fX4_sailIn A l1)) ∧ M2 = (Sh0 n, A, L)) :=
  jEv.mk (mt := mX4_sailIn) rfl (Nat.le_of_ble_eq_true rfl) (jWP.intro (pr := pX4_sailIn) (pc := 0) (tfX4_sailIn d n A L l1 rfl ⟨trivial, jCn.mk ⟨rfl, rfl⟩⟩))
set_option maxRecDepth 20000 in
theorem tfX2_turnTop (d n : Nat) (A : Nat → Nat → Int32) (L : Nat → Nat → Int64) (l1 : Int32) (l2 : Int32) {Q : Option Value → jM → Prop} {z : (Nat → Nat → Int32)} (h : fX2_turnTop A l1 l2 = some z) (k3 : Q (none) (Sh0 n, z, L)) : pX2_turnTop (jEv jtab (d + 0), jWP (jEv jtab (d + 0)) Q ((Sh0 n).length, jsl (Sh0 n)) pX2_turnTop, Q, ((Sh0 n).length, jsl (Sh0 n))) 0 [some (.ref 20), some (.int l1), some (.int l2), none] [] (Sh0 n, A, L) := by
  unfold fX2_turnTop at h
  refine y_mask <| x_iload rfl <| y_if_lt (fun h1 => ?_) (fun h1 => ?_)
  · replace h := of_pos h h1
    refine jWP.intro (pr := pX2_turnTop) (pc := 37) ?_
    refine y_mrv (bs := []) (ls := []) ?_
    obtain rfl := Option.some.inj h
    exact k3
  · replace h := of_neg h h1
    refine jWP.intro (pr := pX2_turnTop) (pc := 4) ?_
    obtain ⟨g2, h⟩ := of_guard h
    refine y_mask <| x_aload rfl <| x_getR (Nat.le_of_ble_eq_true rfl) rfl rfl <| x_iload rfl <| x_iald rfl g2 <| x_istore rfl <| x_aload rfl <| x_getR (Nat.le_of_ble_eq_true rfl) rfl rfl <| x_iload rfl <| x_iload rfl <| x_push <| y_cmp_ne (fun h3 => ?_) (fun h3 => ?_)
    · replace h := of_neg h h3
      refine jWP.intro (pr := pX2_turnTop) (pc := 27) ?_
      refine y_mask <| x_iload rfl <| y_if_ne (fun h4 => ?_) (fun h4 => ?_)
      · replace h := of_neg h h4
        refine jWP.intro (pr := pX2_turnTop) (pc := 35) ?_
        refine y_mask <| x_push <| y_mask <| y_goto ?_
        refine jWP.intro (pr := pX2_turnTop) (pc := 36) ?_
        obtain ⟨g5, h⟩ := of_guard h
        obtain ⟨m6, hm7, h⟩ := of_bind h
        refine y_mask <| x_iast (Nat.le_of_ble_eq_true rfl) rfl g5 <| y_let (Option.some.inj hm7) <| y_mask <| y_goto ?_
        refine jWP.intro (pr := pX2_turnTop) (pc := 37) ?_
        refine y_mrv (bs := []) (ls := []) ?_
        obtain rfl := Option.some.inj h
        exact k3
      · replace h := of_pos h h4
        refine jWP.intro (pr := pX2_turnTop) (pc := 31) ?_
        refine y_mask <| x_push <| y_mask <| y_goto ?_
        refine jWP.intro (pr := pX2_turnTop) (pc := 36) ?_
        obtain ⟨g8, h⟩ := of_guard h
        obtain ⟨m9, hm10, h⟩ := of_bind h
        refine y_mask <| x_iast (Nat.le_of_ble_eq_true rfl) rfl g8 <| y_let (Option.some.inj hm10) <| y_mask <| y_goto ?_
        refine jWP.intro (pr := pX2_turnTop) (pc := 37) ?_
        refine y_mrv (bs := []) (ls := []) ?_
        obtain rfl := Option.some.inj h
        exact k3
    · replace h := of_pos h h3
      refine jWP.intro (pr := pX2_turnTop) (pc := 22) ?_
      refine y_mask <| x_iload rfl <| x_ineg <| y_mask <| y_goto ?_
      refine jWP.intro (pr := pX2_turnTop) (pc := 36) ?_
      obtain ⟨g11, h⟩ := of_guard h
      obtain ⟨m12, hm13, h⟩ := of_bind h
      refine y_mask <| x_iast (Nat.le_of_ble_eq_true rfl) rfl g11 <| y_let (Option.some.inj hm13) <| y_mask <| y_goto ?_
      refine jWP.intro (pr := pX2_turnTop) (pc := 37) ?_
      refine y_mrv (bs := []) (ls := []) ?_
      obtain rfl := Option.some.inj h
      exact k3
theorem kX2_turnTop (d n : Nat) (A : Nat → Nat → Int32) (L : Nat → Nat → Int64) (l1 : Int32) (l2 : Int32) {z : (Nat → Nat → Int32)} (h : fX2_turnTop A l1 l2 = some z) : jEv jtab (d + 1) 22 [.ref 20, .int l1, .int l2] (Sh0 n, A, L) 0 0 (fun r M2 => r = none ∧ M2 = (Sh0 n, z, L)) :=
  jEv.mk (mt := mX2_turnTop) rfl (Nat.le_of_ble_eq_true rfl) (jWP.intro (pr := pX2_turnTop) (pc := 0) (tfX2_turnTop d n A L l1 l2 h ⟨trivial, jCn.mk ⟨rfl, rfl⟩⟩))
set_option maxRecDepth 20000 in
theorem tfX2_ofTwo (d n : Nat) (A : Nat → Nat → Int32) (L : Nat → Nat → Int64) (l0 : Int32) (l1 : Int32) (l2 : Int32) {Q : Option Value → jM → Prop} {z : Int32} (h : fX2_ofTwo l0 l1 l2 = z) (k3 : Q (some (.int z)) (Sh0 n, A, L)) : pX2_ofTwo (jEv jtab (d + 0), jWP (jEv jtab (d + 0)) Q ((Sh0 n).length, jsl (Sh0 n)) pX2_ofTwo, Q, ((Sh0 n).length, jsl (Sh0 n))) 0 [some (.int l0), some (.int l1), some (.int l2)] [] (Sh0 n, A, L) := by
  unfold fX2_ofTwo at h
  refine y_mask <| x_iload rfl <| y_sw (y_case (fun h1 => ?_) (fun h1 => y_case (fun h2 => ?_) (fun h2 => y_case (fun h3 => ?_) (fun h3 => y_case (fun h4 => ?_) (fun h4 => y_case (fun h5 => ?_) (fun h5 => y_case (fun h6 => ?_) (fun h6 => y_case (fun h7 => ?_) (fun h7 => y_dflt ?_))))))))
  · replace h := of_pos h h1
    refine jWP.intro (pr := pX2_ofTwo) (pc := 98) ?_
    refine y_mask <| x_iload rfl <| x_iload rfl <| x_isub <| y_ireturn (ls := [none, some (.int l1), some (.int l2)]) ?_
    subst h
    exact k3
  · replace h := of_neg h h1
    replace h := of_pos h h2
    refine jWP.intro (pr := pX2_ofTwo) (pc := 94) ?_
    refine y_mask <| x_iload rfl <| x_iload rfl <| x_iadd <| y_ireturn (ls := [none, some (.int l1), some (.int l2)]) ?_
    subst h
    exact k3
  · replace h := of_neg h h1
    replace h := of_neg h h2
    replace h := of_pos h h3
    refine jWP.intro (pr := pX2_ofTwo) (pc := 83) ?_
    refine y_mask <| x_iload rfl <| x_iload rfl <| y_cmp_ne (fun h8 => ?_) (fun h8 => ?_)
    · replace h := of_neg h h8
      refine jWP.intro (pr := pX2_ofTwo) (pc := 92) ?_
      refine y_mask <| x_push <| y_mask <| y_goto ?_
      refine jWP.intro (pr := pX2_ofTwo) (pc := 93) ?_
      refine y_mri (bs := []) (ls := []) ?_
      subst h
      exact k3
    · replace h := of_pos h h8
      refine jWP.intro (pr := pX2_ofTwo) (pc := 88) ?_
      refine y_mask <| x_push <| y_mask <| y_goto ?_
      refine jWP.intro (pr := pX2_ofTwo) (pc := 93) ?_
      refine y_mri (bs := []) (ls := []) ?_
      subst h
      exact k3
  · replace h := of_neg h h1
    replace h := of_neg h h2
    replace h := of_neg h h3
    replace h := of_pos h h4
    refine jWP.intro (pr := pX2_ofTwo) (pc := 72) ?_
    refine y_mask <| x_iload rfl <| x_iload rfl <| y_cmp_ge (fun h9 => ?_) (fun h9 => ?_)
    · replace h := of_pos h h9
      refine jWP.intro (pr := pX2_ofTwo) (pc := 81) ?_
      refine y_mask <| x_push <| y_mask <| y_goto ?_
      refine jWP.intro (pr := pX2_ofTwo) (pc := 82) ?_
      refine y_mri (bs := []) (ls := []) ?_
      subst h
      exact k3
    · replace h := of_neg h h9
      refine jWP.intro (pr := pX2_ofTwo) (pc := 77) ?_
      refine y_mask <| x_push <| y_mask <| y_goto ?_
      refine jWP.intro (pr := pX2_ofTwo) (pc := 82) ?_
      refine y_mri (bs := []) (ls := []) ?_
      subst h
      exact k3
  · replace h := of_neg h h1
    replace h := of_neg h h2
    replace h := of_neg h h3
    replace h := of_neg h h4
    replace h := of_pos h h5
    refine jWP.intro (pr := pX2_ofTwo) (pc := 102) ?_
    refine y_mask <| x_iload rfl <| x_iload rfl <| x_imul <| y_ireturn (ls := [none, some (.int l1), some (.int l2)]) ?_
    subst h
    exact k3
  · replace h := of_neg h h1
    replace h := of_neg h h2
    replace h := of_neg h h3
    replace h := of_neg h h4
    replace h := of_neg h h5
    replace h := of_pos h h6
    refine jWP.intro (pr := pX2_ofTwo) (pc := 58) ?_
    refine y_mask <| x_iload rfl <| y_if_eq (fun h10 => ?_) (fun h10 => ?_)
    · replace h := of_pos h h10
      refine jWP.intro (pr := pX2_ofTwo) (pc := 70) ?_
      refine y_mask <| x_push <| y_mask <| y_goto ?_
      refine jWP.intro (pr := pX2_ofTwo) (pc := 71) ?_
      refine y_mri (bs := []) (ls := []) ?_
      subst h
      exact k3
    · replace h := of_neg h h10
      refine jWP.intro (pr := pX2_ofTwo) (pc := 62) ?_
      refine y_mask <| x_iload rfl <| y_if_eq (fun h11 => ?_) (fun h11 => ?_)
      · replace h := of_pos h h11
        refine jWP.intro (pr := pX2_ofTwo) (pc := 70) ?_
        refine y_mask <| x_push <| y_mask <| y_goto ?_
        refine jWP.intro (pr := pX2_ofTwo) (pc := 71) ?_
        refine y_mri (bs := []) (ls := []) ?_
        subst h
        exact k3
      · replace h := of_neg h h11
        refine jWP.intro (pr := pX2_ofTwo) (pc := 66) ?_
        refine y_mask <| x_push <| y_mask <| y_goto ?_
        refine jWP.intro (pr := pX2_ofTwo) (pc := 71) ?_
        refine y_mri (bs := []) (ls := []) ?_
        subst h
        exact k3
  · replace h := of_neg h h1
    replace h := of_neg h h2
    replace h := of_neg h h3
    replace h := of_neg h h4
    replace h := of_neg h h5
    replace h := of_neg h h6
    replace h := of_pos h h7
    refine jWP.intro (pr := pX2_ofTwo) (pc := 44) ?_
    refine y_mask <| x_iload rfl <| y_if_ne (fun h12 => ?_) (fun h12 => ?_)
    · replace h := of_neg h h12
      refine jWP.intro (pr := pX2_ofTwo) (pc := 52) ?_
      refine y_mask <| x_push <| y_mask <| y_goto ?_
      refine jWP.intro (pr := pX2_ofTwo) (pc := 57) ?_
      refine y_mri (bs := []) (ls := []) ?_
      subst h
      exact k3
    · replace h := of_pos h h12
      refine jWP.intro (pr := pX2_ofTwo) (pc := 48) ?_
      refine y_mask <| x_iload rfl <| y_if_eq (fun h13 => ?_) (fun h13 => ?_)
      · replace h := of_pos h h13
        refine jWP.intro (pr := pX2_ofTwo) (pc := 56) ?_
        refine y_mask <| x_push <| y_mask <| y_goto ?_
        refine jWP.intro (pr := pX2_ofTwo) (pc := 57) ?_
        refine y_mri (bs := []) (ls := []) ?_
        subst h
        exact k3
      · replace h := of_neg h h13
        refine jWP.intro (pr := pX2_ofTwo) (pc := 52) ?_
        refine y_mask <| x_push <| y_mask <| y_goto ?_
        refine jWP.intro (pr := pX2_ofTwo) (pc := 57) ?_
        refine y_mri (bs := []) (ls := []) ?_
        subst h
        exact k3
  · replace h := of_neg h h1
    replace h := of_neg h h2
    replace h := of_neg h h3
    replace h := of_neg h h4
    replace h := of_neg h h5
    replace h := of_neg h h6
    replace h := of_neg h h7
    skip
    refine jWP.intro (pr := pX2_ofTwo) (pc := 102) ?_
    refine y_mask <| x_iload rfl <| x_iload rfl <| x_imul <| y_ireturn (ls := [none, some (.int l1), some (.int l2)]) ?_
    subst h
    exact k3
theorem kX2_ofTwo (d n : Nat) (A : Nat → Nat → Int32) (L : Nat → Nat → Int64) (l0 : Int32) (l1 : Int32) (l2 : Int32) : jEv jtab (d + 1) 23 [.int l0, .int l1, .int l2] (Sh0 n, A, L) 0 0 (fun r M2 => r = some (.int (fX2_ofTwo l0 l1 l2)) ∧ M2 = (Sh0 n, A, L)) :=
  jEv.mk (mt := mX2_ofTwo) rfl (Nat.le_of_ble_eq_true rfl) (jWP.intro (pr := pX2_ofTwo) (pc := 0) (tfX2_ofTwo d n A L l0 l1 l2 rfl ⟨trivial, jCn.mk ⟨rfl, rfl⟩⟩))
