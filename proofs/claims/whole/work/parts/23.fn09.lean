/-! METHODS AS FUNCTIONS, printed by dec.py -/
set_option maxRecDepth 20000 in
theorem tcX11_worthOf_9 (d n : Nat) (A : Nat → Nat → Int32) (L : Nat → Nat → Int64) (l1 : Int32) (s : (Int32 × (Nat → Nat → Int64))) {Q : Option Value → jM → Prop} {z : ((Int32 × (Nat → Nat → Int64)) ⊕ (Nat → Nat → Int64))} (h : cX11_worthOf_9 A l1 s = some z) (k1 : ∀ s0, z = .inl s0 → pX11_worthOf (jEv jtab (d + 4), jWP (jEv jtab (d + 4)) Q ((Sh0 n).length, jsl (Sh0 n)) pX11_worthOf, Q, ((Sh0 n).length, jsl (Sh0 n))) 9 [some (.ref 94), some (.int l1), some (.int s0.1), none, none] [] (Sh0 n, A, s0.2)) (k2 : ∀ s0, z = .inr s0 → pX11_worthOf (jEv jtab (d + 4), jWP (jEv jtab (d + 4)) Q ((Sh0 n).length, jsl (Sh0 n)) pX11_worthOf, Q, ((Sh0 n).length, jsl (Sh0 n))) 30 [some (.ref 94), some (.int l1), none, none, none] [] (Sh0 n, A, s0)) : pX11_worthOf (jEv jtab (d + 4), jWP (jEv jtab (d + 4)) Q ((Sh0 n).length, jsl (Sh0 n)) pX11_worthOf, Q, ((Sh0 n).length, jsl (Sh0 n))) 9 [some (.ref 94), some (.int l1), some (.int s.1), none, none] [] (Sh0 n, A, s.2) := by
  unfold cX11_worthOf_9 at h
  refine y_mask <| x_iload rfl <| x_push <| y_cmp_ge (fun h1 => ?_) (fun h1 => ?_)
  · replace h := of_pos h h1
    refine jWP.intro (pr := pX11_worthOf) (pc := 30) ?_
    have hk := k2 _ (Option.some.inj h).symm
    exact hk
  · replace h := of_neg h h1
    refine jWP.intro (pr := pX11_worthOf) (pc := 15) ?_
    obtain ⟨g2, h⟩ := of_guard h
    obtain ⟨m3, hm4, h⟩ := of_bind h
    show bX11_worthOf_15 _ _ _ _
    unfold bX11_worthOf_15
    refine y_mask ?_
    refine x_aload rfl ?_
    refine x_getR (Nat.le_of_ble_eq_true rfl) rfl rfl ?_
    refine x_iload rfl ?_
    refine x_push ?_
    refine x_last (Nat.le_of_ble_eq_true rfl) rfl g2 ?_
    refine y_letL (Option.some.inj hm4) ?_
    refine x_iinc rfl rfl ?_
    refine y_mask ?_
    refine y_goto ?_
    refine jWP.intro (pr := pX11_worthOf) (pc := 9) ?_
    have hk := k1 _ (Option.some.inj h).symm
    exact hk
set_option maxRecDepth 20000 in
theorem tcX11_worthOf_32 (d n : Nat) (A : Nat → Nat → Int32) (L : Nat → Nat → Int64) (s : (Int32 × Int32 × (Nat → Nat → Int32) × (Nat → Nat → Int64))) {Q : Option Value → jM → Prop} {z : ((Int32 × Int32 × (Nat → Nat → Int32) × (Nat → Nat → Int64)) ⊕ ((Nat → Nat → Int32) × (Nat → Nat → Int64)))} (h : cX11_worthOf_32 s = some z) (k1 : ∀ s0, z = .inl s0 → pX11_worthOf (jEv jtab (d + 4), jWP (jEv jtab (d + 4)) Q ((Sh0 n).length, jsl (Sh0 n)) pX11_worthOf, Q, ((Sh0 n).length, jsl (Sh0 n))) 32 [some (.ref 94), some (.int s0.1), some (.int s0.2.1), none, none] [] (Sh0 n, s0.2.2.1, s0.2.2.2)) (k2 : ∀ s0, z = .inr s0 → pX11_worthOf (jEv jtab (d + 4), jWP (jEv jtab (d + 4)) Q ((Sh0 n).length, jsl (Sh0 n)) pX11_worthOf, Q, ((Sh0 n).length, jsl (Sh0 n))) 168 [some (.ref 94), none, none, none, none] [] (Sh0 n, s0.1, s0.2)) : pX11_worthOf (jEv jtab (d + 4), jWP (jEv jtab (d + 4)) Q ((Sh0 n).length, jsl (Sh0 n)) pX11_worthOf, Q, ((Sh0 n).length, jsl (Sh0 n))) 32 [some (.ref 94), some (.int s.1), some (.int s.2.1), none, none] [] (Sh0 n, s.2.2.1, s.2.2.2) := by
  unfold cX11_worthOf_32 at h
  refine y_mask <| x_iload rfl <| x_aload rfl <| x_getI (Nat.le_of_ble_eq_true rfl) rfl rfl <| y_cmp_ge (fun h1 => ?_) (fun h1 => ?_)
  · replace h := of_pos h h1
    refine jWP.intro (pr := pX11_worthOf) (pc := 168) ?_
    have hk := k2 _ (Option.some.inj h).symm
    exact hk
  · replace h := of_neg h h1
    refine jWP.intro (pr := pX11_worthOf) (pc := 40) ?_
    obtain ⟨g2, h⟩ := of_guard h
    obtain ⟨m3, hm4, h⟩ := of_bind h
    obtain ⟨g5, h⟩ := of_guard h
    obtain ⟨m6, hm7, h⟩ := of_bind h
    show bX11_worthOf_40 _ _ _ _
    unfold bX11_worthOf_40
    refine y_mask ?_
    refine x_aload rfl ?_
    refine x_getR (Nat.le_of_ble_eq_true rfl) rfl rfl ?_
    refine x_iload rfl ?_
    refine x_push ?_
    refine x_iast (Nat.le_of_ble_eq_true rfl) rfl g2 ?_
    refine y_let (Option.some.inj hm4) ?_
    refine x_aload rfl ?_
    refine x_getR (Nat.le_of_ble_eq_true rfl) rfl rfl ?_
    refine x_iload rfl ?_
    refine x_push ?_
    refine x_iast (Nat.le_of_ble_eq_true rfl) rfl g5 ?_
    refine y_let (Option.some.inj hm7) ?_
    refine x_iload rfl ?_
    refine x_aload rfl ?_
    refine x_getR (Nat.le_of_ble_eq_true rfl) rfl rfl ?_
    refine x_push ?_
    refine x_iald rfl (by unfold vp_in; decide) ?_
    refine y_cmp_lt (fun h8 => ?_) (fun h8 => ?_)
    · replace h := of_pos h h8
      refine jWP.intro (pr := pX11_worthOf) (pc := 67) ?_
      obtain ⟨g9, h⟩ := of_guard h
      obtain ⟨g10, h⟩ := of_guard h
      obtain ⟨m11, hm12, h⟩ := of_bind h
      obtain ⟨r13, hc14, h⟩ := of_bind h
      obtain ⟨r15, hc16, h⟩ := of_bind h
      show bX11_worthOf_67 _ _ _ _
      unfold bX11_worthOf_67
      refine y_mask ?_
      refine x_aload rfl ?_
      refine x_getR (Nat.le_of_ble_eq_true rfl) rfl rfl ?_
      refine x_iload rfl ?_
      refine x_iald rfl g9 ?_
      refine x_istore rfl ?_
      refine x_aload rfl ?_
      refine x_getR (Nat.le_of_ble_eq_true rfl) rfl rfl ?_
      refine x_iload rfl ?_
      refine x_iload rfl ?_
      refine x_iast (Nat.le_of_ble_eq_true rfl) rfl g10 ?_
      refine y_let (Option.some.inj hm12) ?_
      refine x_aload rfl ?_
      refine x_iload rfl ?_
      refine x_iload rfl ?_
      refine y_invV2 (Nat.le_of_ble_eq_true rfl) rfl (Nat.le_of_ble_eq_true rfl) ?_
      refine jEv.exI (kX11_likely _ _ _ _ _ _ hc14) ?_
      refine x_istore rfl ?_
      refine x_iload rfl ?_
      refine x_aload rfl ?_
      refine x_iload rfl ?_
      refine x_iload rfl ?_
      refine y_invV2 (Nat.le_of_ble_eq_true rfl) rfl (Nat.le_of_ble_eq_true rfl) ?_
      refine jEv.exI (kX11_takesIn _ _ _ _ _ _ hc16) ?_
      refine x_iadd ?_
      refine x_istore rfl ?_
      refine x_iload rfl ?_
      refine x_aload rfl ?_
      refine x_getR (Nat.le_of_ble_eq_true rfl) rfl rfl ?_
      refine x_push ?_
      refine x_iald rfl (by unfold vp_in; decide) ?_
      refine y_cmp_le (fun h17 => ?_) (fun h17 => ?_)
      · replace h := of_pos h h17
        refine jWP.intro (pr := pX11_worthOf) (pc := 111) ?_
        obtain ⟨g18, h⟩ := of_guard h
        obtain ⟨m19, hm20, h⟩ := of_bind h
        obtain ⟨g21, h⟩ := of_guard h
        obtain ⟨g22, h⟩ := of_guard h
        obtain ⟨g23, h⟩ := of_guard h
        obtain ⟨g24, h⟩ := of_guard h
        obtain ⟨m25, hm26, h⟩ := of_bind h
        show bX11_worthOf_111 _ _ _ _
        unfold bX11_worthOf_111
        refine y_mask ?_
        refine x_aload rfl ?_
        refine x_dup rfl ?_
        refine x_getI (Nat.le_of_ble_eq_true rfl) rfl rfl ?_
        refine x_push ?_
        refine x_iadd ?_
        refine x_putI (Nat.le_of_ble_eq_true rfl) rfl rfl ?_
        refine x_aload rfl ?_
        refine x_getR (Nat.le_of_ble_eq_true rfl) rfl rfl ?_
        refine x_iload rfl ?_
        refine x_iload rfl ?_
        refine x_iast (Nat.le_of_ble_eq_true rfl) rfl g18 ?_
        refine y_let (Option.some.inj hm20) ?_
        refine x_aload rfl ?_
        refine x_getR (Nat.le_of_ble_eq_true rfl) rfl rfl ?_
        refine x_aload rfl ?_
        refine x_getR (Nat.le_of_ble_eq_true rfl) rfl rfl ?_
        refine x_iload rfl ?_
        refine x_iald rfl g21 ?_
        refine x_aload rfl ?_
        refine x_getR (Nat.le_of_ble_eq_true rfl) rfl rfl ?_
        refine x_aload rfl ?_
        refine x_getR (Nat.le_of_ble_eq_true rfl) rfl rfl ?_
        refine x_iload rfl ?_
        refine x_iald rfl g22 ?_
        refine x_lald (Nat.le_of_ble_eq_true rfl) rfl g23 ?_
        refine x_push ?_
        refine x_iload rfl ?_
        refine x_isub ?_
        refine x_i2l ?_
        refine x_lmul ?_
        refine x_push ?_
        refine x_ldiv (by decide) ?_
        refine x_last (Nat.le_of_ble_eq_true rfl) rfl g24 ?_
        refine y_letL (Option.some.inj hm26) ?_
        refine y_mask ?_
        refine y_goto ?_
        refine jWP.intro (pr := pX11_worthOf) (pc := 162) ?_
        refine y_mask <| x_iinc rfl rfl <| y_mask <| y_goto ?_
        refine jWP.intro (pr := pX11_worthOf) (pc := 32) ?_
        have hk := k1 _ (Option.some.inj h).symm
        exact hk
      · replace h := of_neg h h17
        refine jWP.intro (pr := pX11_worthOf) (pc := 108) ?_
        refine y_mask <| y_mask <| y_goto ?_
        refine jWP.intro (pr := pX11_worthOf) (pc := 162) ?_
        refine y_mask <| x_iinc rfl rfl <| y_mask <| y_goto ?_
        refine jWP.intro (pr := pX11_worthOf) (pc := 32) ?_
        have hk := k1 _ (Option.some.inj h).symm
        exact hk
    · replace h := of_neg h h8
      refine jWP.intro (pr := pX11_worthOf) (pc := 64) ?_
      refine y_mask <| y_mask <| y_goto ?_
      refine jWP.intro (pr := pX11_worthOf) (pc := 162) ?_
      refine y_mask <| x_iinc rfl rfl <| y_mask <| y_goto ?_
      refine jWP.intro (pr := pX11_worthOf) (pc := 32) ?_
      have hk := k1 _ (Option.some.inj h).symm
      exact hk
set_option maxRecDepth 20000 in
theorem tcX11_worthOf_173 (d n : Nat) (A : Nat → Nat → Int32) (L : Nat → Nat → Int64) (s : (Int64 × Int32)) {Q : Option Value → jM → Prop} {z : ((Int64 × Int32) ⊕ Int64)} (h : cX11_worthOf_173 A L s = some z) (k1 : ∀ s0, z = .inl s0 → pX11_worthOf (jEv jtab (d + 4), jWP (jEv jtab (d + 4)) Q ((Sh0 n).length, jsl (Sh0 n)) pX11_worthOf, Q, ((Sh0 n).length, jsl (Sh0 n))) 173 [some (.ref 94), none, some (.long s0.1), none, some (.int s0.2)] [] (Sh0 n, A, L)) (k2 : ∀ s0, z = .inr s0 → pX11_worthOf (jEv jtab (d + 4), jWP (jEv jtab (d + 4)) Q ((Sh0 n).length, jsl (Sh0 n)) pX11_worthOf, Q, ((Sh0 n).length, jsl (Sh0 n))) 209 [none, none, some (.long s0), none, none] [] (Sh0 n, A, L)) : pX11_worthOf (jEv jtab (d + 4), jWP (jEv jtab (d + 4)) Q ((Sh0 n).length, jsl (Sh0 n)) pX11_worthOf, Q, ((Sh0 n).length, jsl (Sh0 n))) 173 [some (.ref 94), none, some (.long s.1), none, some (.int s.2)] [] (Sh0 n, A, L) := by
  unfold cX11_worthOf_173 at h
  refine y_mask <| x_iload rfl <| x_push <| y_cmp_ge (fun h1 => ?_) (fun h1 => ?_)
  · replace h := of_pos h h1
    refine jWP.intro (pr := pX11_worthOf) (pc := 209) ?_
    have hk := k2 _ (Option.some.inj h).symm
    exact hk
  · replace h := of_neg h h1
    refine jWP.intro (pr := pX11_worthOf) (pc := 180) ?_
    obtain ⟨g2, h⟩ := of_guard h
    obtain ⟨g3, h⟩ := of_guard h
    show bX11_worthOf_180 _ _ _ _
    unfold bX11_worthOf_180
    refine y_mask ?_
    refine x_lload rfl ?_
    refine x_push ?_
    refine x_aload rfl ?_
    refine x_getR (Nat.le_of_ble_eq_true rfl) rfl rfl ?_
    refine x_iload rfl ?_
    refine x_lald (Nat.le_of_ble_eq_true rfl) rfl g2 ?_
    refine x_lsub ?_
    refine x_aload rfl ?_
    refine x_getR (Nat.le_of_ble_eq_true rfl) rfl rfl ?_
    refine x_iload rfl ?_
    refine x_iald rfl g3 ?_
    refine x_i2l ?_
    refine x_lmul ?_
    refine x_ladd ?_
    refine x_lstore rfl ?_
    refine x_iinc rfl rfl ?_
    refine y_mask ?_
    refine y_goto ?_
    refine jWP.intro (pr := pX11_worthOf) (pc := 173) ?_
    have hk := k1 _ (Option.some.inj h).symm
    exact hk
set_option maxRecDepth 20000 in
theorem tfX11_worthOf (d n : Nat) (A : Nat → Nat → Int32) (L : Nat → Nat → Int64) {Q : Option Value → jM → Prop} {z : (Int64 × (Nat → Nat → Int32) × (Nat → Nat → Int64))} (h : fX11_worthOf A L = some z) (k3 : Q (some (.long z.1)) (Sh0 n, z.2.1, z.2.2)) : pX11_worthOf (jEv jtab (d + 4), jWP (jEv jtab (d + 4)) Q ((Sh0 n).length, jsl (Sh0 n)) pX11_worthOf, Q, ((Sh0 n).length, jsl (Sh0 n))) 0 [some (.ref 94), none, none, none, none] [] (Sh0 n, A, L) := by
  unfold fX11_worthOf at h
  show bX11_worthOf_0 _ _ _ _
  unfold bX11_worthOf_0
  refine y_mask ?_
  refine x_push ?_
  refine x_istore rfl ?_
  refine x_aload rfl ?_
  refine x_push ?_
  refine x_putI (Nat.le_of_ble_eq_true rfl) rfl rfl ?_
  refine x_push ?_
  refine x_istore rfl ?_
  refine y_mask ?_
  refine y_goto ?_
  obtain ⟨e1, hw2, h⟩ := of_bind h
  refine jWP.intro (pr := pX11_worthOf) (pc := 9) ?_
  refine jwh_use (G := (fun s0 => pX11_worthOf (jEv jtab (d + 4), jWP (jEv jtab (d + 4)) Q ((Sh0 n).length, jsl (Sh0 n)) pX11_worthOf, Q, ((Sh0 n).length, jsl (Sh0 n))) 9 [some (.ref 94), some (.int (0 : Int32)), some (.int s0.1), none, none] [] (Sh0 n, (va_up A 94 (upd (A 94) 29 (0 : Int32))), s0.2))) (Gx := (fun s0 => pX11_worthOf (jEv jtab (d + 4), jWP (jEv jtab (d + 4)) Q ((Sh0 n).length, jsl (Sh0 n)) pX11_worthOf, Q, ((Sh0 n).length, jsl (Sh0 n))) 30 [some (.ref 94), some (.int (0 : Int32)), none, none, none] [] (Sh0 n, (va_up A 94 (upd (A 94) 29 (0 : Int32))), s0))) (fun s1 z1 hz kk1 kk2 => tcX11_worthOf_9 d n (va_up A 94 (upd (A 94) 29 (0 : Int32))) L (0 : Int32) s1 hz kk1 kk2) hw2 ?_
  refine y_mask <| x_push <| x_istore rfl <| y_mask <| y_goto ?_
  obtain ⟨e3, hw4, h⟩ := of_bind h
  refine jWP.intro (pr := pX11_worthOf) (pc := 32) ?_
  refine jwh_use (G := (fun s0 => pX11_worthOf (jEv jtab (d + 4), jWP (jEv jtab (d + 4)) Q ((Sh0 n).length, jsl (Sh0 n)) pX11_worthOf, Q, ((Sh0 n).length, jsl (Sh0 n))) 32 [some (.ref 94), some (.int s0.1), some (.int s0.2.1), none, none] [] (Sh0 n, s0.2.2.1, s0.2.2.2))) (Gx := (fun s0 => pX11_worthOf (jEv jtab (d + 4), jWP (jEv jtab (d + 4)) Q ((Sh0 n).length, jsl (Sh0 n)) pX11_worthOf, Q, ((Sh0 n).length, jsl (Sh0 n))) 168 [some (.ref 94), none, none, none, none] [] (Sh0 n, s0.1, s0.2))) (fun s1 z1 hz kk1 kk2 => tcX11_worthOf_32 d n (va_up A 94 (upd (A 94) 29 (0 : Int32))) e1 s1 hz kk1 kk2) hw4 ?_
  refine y_mask <| x_push <| x_lstore rfl <| x_push <| x_istore rfl <| y_mask <| y_goto ?_
  obtain ⟨e5, hw6, h⟩ := of_bind h
  refine jWP.intro (pr := pX11_worthOf) (pc := 173) ?_
  refine jwh_use (G := (fun s0 => pX11_worthOf (jEv jtab (d + 4), jWP (jEv jtab (d + 4)) Q ((Sh0 n).length, jsl (Sh0 n)) pX11_worthOf, Q, ((Sh0 n).length, jsl (Sh0 n))) 173 [some (.ref 94), none, some (.long s0.1), none, some (.int s0.2)] [] (Sh0 n, e3.1, e3.2))) (Gx := (fun s0 => pX11_worthOf (jEv jtab (d + 4), jWP (jEv jtab (d + 4)) Q ((Sh0 n).length, jsl (Sh0 n)) pX11_worthOf, Q, ((Sh0 n).length, jsl (Sh0 n))) 209 [none, none, some (.long s0), none, none] [] (Sh0 n, e3.1, e3.2))) (fun s1 z1 hz kk1 kk2 => tcX11_worthOf_173 d n e3.1 e3.2 s1 hz kk1 kk2) hw6 ?_
  refine y_mask <| x_lload rfl <| y_lreturn (ls := [none, none, some (.long e5), none, none]) ?_
  obtain rfl := Option.some.inj h
  exact k3
theorem kX11_worthOf (d n : Nat) (A : Nat → Nat → Int32) (L : Nat → Nat → Int64) {z : (Int64 × (Nat → Nat → Int32) × (Nat → Nat → Int64))} (h : fX11_worthOf A L = some z) : jEv jtab (d + 5) 199 [.ref 94] (Sh0 n, A, L) 0 0 (fun r M2 => r = some (.long z.1) ∧ M2 = (Sh0 n, z.2.1, z.2.2)) :=
  jEv.mk (mt := mX11_worthOf) rfl (Nat.le_of_ble_eq_true rfl) (jWP.intro (pr := pX11_worthOf) (pc := 0) (tfX11_worthOf d n A L h ⟨trivial, jCn.mk ⟨rfl, rfl⟩⟩))
set_option maxRecDepth 20000 in
theorem tfX11_worthOfAll (d n : Nat) (A : Nat → Nat → Int32) (L : Nat → Nat → Int64) {Q : Option Value → jM → Prop} {z : (Int64 × (Nat → Nat → Int32) × (Nat → Nat → Int64))} (h : fX11_worthOfAll A L = some z) (k3 : Q (some (.long z.1)) (Sh0 n, z.2.1, z.2.2)) : pX11_worthOfAll (jEv jtab (d + 5), jWP (jEv jtab (d + 5)) Q ((Sh0 n).length, jsl (Sh0 n)) pX11_worthOfAll, Q, ((Sh0 n).length, jsl (Sh0 n))) 0 [some (.ref 94)] [] (Sh0 n, A, L) := by
  unfold fX11_worthOfAll at h
  obtain ⟨r1, hc2, h⟩ := of_bind h
  obtain ⟨r3, hc4, h⟩ := of_bind h
  refine y_mask <| x_aload rfl <| y_invV0 (Nat.le_of_ble_eq_true rfl) rfl (Nat.le_of_ble_eq_true rfl) <| jEv.exV (kX11_theRow _ _ _ _ hc2) <| x_aload rfl <| y_invV0 (Nat.le_of_ble_eq_true rfl) rfl (Nat.le_of_ble_eq_true rfl) <| jEv.exL (kX11_worthOf _ _ _ _ hc4) <| y_lreturn (ls := [some (.ref 94)]) ?_
  obtain rfl := Option.some.inj h
  exact k3
theorem kX11_worthOfAll (d n : Nat) (A : Nat → Nat → Int32) (L : Nat → Nat → Int64) {z : (Int64 × (Nat → Nat → Int32) × (Nat → Nat → Int64))} (h : fX11_worthOfAll A L = some z) : jEv jtab (d + 6) 201 [.ref 94] (Sh0 n, A, L) 0 0 (fun r M2 => r = some (.long z.1) ∧ M2 = (Sh0 n, z.2.1, z.2.2)) :=
  jEv.mk (mt := mX11_worthOfAll) rfl (Nat.le_of_ble_eq_true rfl) (jWP.intro (pr := pX11_worthOfAll) (pc := 0) (tfX11_worthOfAll d n A L h ⟨trivial, jCn.mk ⟨rfl, rfl⟩⟩))
set_option maxRecDepth 20000 in
theorem tfX11_run (d n : Nat) (A : Nat → Nat → Int32) (L : Nat → Nat → Int64) (l1 : Int32) {Q : Option Value → jM → Prop} {z : (Int64 × (Nat → Nat → Int32) × (Nat → Nat → Int64))} (h : fX11_run A L l1 = some z) (k3 : Q (some (.long z.1)) (Sh0 n, z.2.1, z.2.2)) : pX11_run (jEv jtab (d + 6), jWP (jEv jtab (d + 6)) Q ((Sh0 n).length, jsl (Sh0 n)) pX11_run, Q, ((Sh0 n).length, jsl (Sh0 n))) 0 [some (.ref 94), some (.int l1), none, none] [] (Sh0 n, A, L) := by
  unfold fX11_run at h
  refine y_mask <| x_iload rfl <| x_push <| x_push <| y_invS3 (Nat.le_of_ble_eq_true rfl) <| jEv.exZ (q := 159) rfl (kX11_in _ _ _ _ _ _ _) <| fun hz1 => y_if_ne (fun h2 => ?_) (fun h2 => ?_)
  · replace h := of_neg h h2
    refine jWP.intro (pr := pX11_run) (pc := 14) ?_
    obtain ⟨r3, hc4, h⟩ := of_bind h
    refine y_mask <| x_aload rfl <| y_invV0 (Nat.le_of_ble_eq_true rfl) rfl (Nat.le_of_ble_eq_true rfl) <| jEv.exL (kX11_worthOfAll _ _ _ _ hc4) <| x_lstore rfl <| x_iload rfl <| y_if_ne (fun h5 => ?_) (fun h5 => ?_)
    · replace h := of_neg h h5
      refine jWP.intro (pr := pX11_run) (pc := 27) ?_
      refine y_mask <| x_iload rfl <| x_push <| y_cmp_ne (fun h6 => ?_) (fun h6 => ?_)
      · replace h := of_neg h h6
        refine jWP.intro (pr := pX11_run) (pc := 40) ?_
        obtain ⟨g7, h⟩ := of_guard h
        show bX11_run_40 _ _ _ _
        unfold bX11_run_40
        refine y_mask ?_
        refine x_push ?_
        refine x_aload rfl ?_
        refine x_getR (Nat.le_of_ble_eq_true rfl) rfl rfl ?_
        refine x_iload rfl ?_
        refine x_push ?_
        refine x_isub ?_
        refine x_lald (Nat.le_of_ble_eq_true rfl) rfl g7 ?_
        refine x_lsub ?_
        refine y_mask ?_
        refine y_goto ?_
        refine jWP.intro (pr := pX11_run) (pc := 52) ?_
        refine y_mrl (bs := []) (ls := []) ?_
        obtain rfl := Option.some.inj h
        exact k3
      · replace h := of_pos h h6
        refine jWP.intro (pr := pX11_run) (pc := 32) ?_
        refine y_mask <| x_aload rfl <| x_getI (Nat.le_of_ble_eq_true rfl) rfl rfl <| x_i2l <| y_mask <| y_goto ?_
        refine jWP.intro (pr := pX11_run) (pc := 52) ?_
        refine y_mrl (bs := []) (ls := []) ?_
        obtain rfl := Option.some.inj h
        exact k3
    · replace h := of_pos h h5
      refine jWP.intro (pr := pX11_run) (pc := 23) ?_
      refine y_mask <| x_lload rfl <| y_mask <| y_goto ?_
      refine jWP.intro (pr := pX11_run) (pc := 52) ?_
      refine y_mrl (bs := []) (ls := []) ?_
      obtain rfl := Option.some.inj h
      exact k3
  · replace h := of_pos h h2
    refine jWP.intro (pr := pX11_run) (pc := 10) ?_
    refine y_mprl (bs := []) (ls := []) ?_
    obtain rfl := Option.some.inj h
    exact k3
theorem kX11_run (d n : Nat) (A : Nat → Nat → Int32) (L : Nat → Nat → Int64) (l1 : Int32) {z : (Int64 × (Nat → Nat → Int32) × (Nat → Nat → Int64))} (h : fX11_run A L l1 = some z) : jEv jtab (d + 7) 202 [.ref 94, .int l1] (Sh0 n, A, L) 0 0 (fun r M2 => r = some (.long z.1) ∧ M2 = (Sh0 n, z.2.1, z.2.2)) :=
  jEv.mk (mt := mX11_run) rfl (Nat.le_of_ble_eq_true rfl) (jWP.intro (pr := pX11_run) (pc := 0) (tfX11_run d n A L l1 h ⟨trivial, jCn.mk ⟨rfl, rfl⟩⟩))
set_option maxRecDepth 20000 in
theorem tfX11_minute (d n : Nat) (A : Nat → Nat → Int32) (L : Nat → Nat → Int64) (l1 : Int32) (l2 : Int32) {Q : Option Value → jM → Prop} {z : (Int32 × (Nat → Nat → Int32) × (Nat → Nat → Int64))} (h : fX11_minute A L l1 l2 = some z) (k3 : Q (some (.int z.1)) (Sh0 n, z.2.1, z.2.2)) : pX11_minute (jEv jtab (d + 6), jWP (jEv jtab (d + 6)) Q ((Sh0 n).length, jsl (Sh0 n)) pX11_minute, Q, ((Sh0 n).length, jsl (Sh0 n))) 0 [some (.ref 94), some (.int l1), some (.int l2)] [] (Sh0 n, A, L) := by
  unfold fX11_minute at h
  refine y_mask <| x_aload rfl <| x_iload rfl <| y_invV1 (Nat.le_of_ble_eq_true rfl) rfl (Nat.le_of_ble_eq_true rfl) <| jEv.exZ (q := 193) rfl (kX11_isSaying _ _ _ _ _) <| fun hz1 => y_if_ne (fun h2 => ?_) (fun h2 => ?_)
  · replace h := of_neg h h2
    refine jWP.intro (pr := pX11_minute) (pc := 11) ?_
    refine y_mask <| x_iload rfl <| x_push <| x_push <| y_invS3 (Nat.le_of_ble_eq_true rfl) <| jEv.exZ (q := 159) rfl (kX11_in _ _ _ _ _ _ _) <| fun hz3 => y_if_ne (fun h4 => ?_) (fun h4 => ?_)
    · replace h := of_neg h h4
      refine jWP.intro (pr := pX11_minute) (pc := 23) ?_
      obtain ⟨r5, hc6, h⟩ := of_bind h
      refine y_mask <| x_aload rfl <| y_invV0 (Nat.le_of_ble_eq_true rfl) rfl (Nat.le_of_ble_eq_true rfl) <| jEv.exL (kX11_worthOfAll _ _ _ _ hc6) <| x_pop2 rfl <| x_iload rfl <| y_if_ne (fun h7 => ?_) (fun h7 => ?_)
      · replace h := of_neg h h7
        refine jWP.intro (pr := pX11_minute) (pc := 41) ?_
        obtain ⟨g8, h⟩ := of_guard h
        refine y_mask <| x_aload rfl <| x_getR (Nat.le_of_ble_eq_true rfl) rfl rfl <| x_iload rfl <| x_iald rfl g8 <| y_mask <| y_goto ?_
        refine jWP.intro (pr := pX11_minute) (pc := 47) ?_
        refine y_mri (bs := []) (ls := []) ?_
        obtain rfl := Option.some.inj h
        exact k3
      · replace h := of_pos h h7
        refine jWP.intro (pr := pX11_minute) (pc := 32) ?_
        obtain ⟨g9, h⟩ := of_guard h
        refine y_mask <| x_aload rfl <| x_getR (Nat.le_of_ble_eq_true rfl) rfl rfl <| x_iload rfl <| x_iald rfl g9 <| y_mask <| y_goto ?_
        refine jWP.intro (pr := pX11_minute) (pc := 47) ?_
        refine y_mri (bs := []) (ls := []) ?_
        obtain rfl := Option.some.inj h
        exact k3
    · replace h := of_pos h h4
      refine jWP.intro (pr := pX11_minute) (pc := 20) ?_
      refine y_mpri (bs := []) (ls := []) ?_
      obtain rfl := Option.some.inj h
      exact k3
  · replace h := of_pos h h2
    refine jWP.intro (pr := pX11_minute) (pc := 8) ?_
    refine y_mpri (bs := []) (ls := []) ?_
    obtain rfl := Option.some.inj h
    exact k3
theorem kX11_minute (d n : Nat) (A : Nat → Nat → Int32) (L : Nat → Nat → Int64) (l1 : Int32) (l2 : Int32) {z : (Int32 × (Nat → Nat → Int32) × (Nat → Nat → Int64))} (h : fX11_minute A L l1 l2 = some z) : jEv jtab (d + 7) 203 [.ref 94, .int l1, .int l2] (Sh0 n, A, L) 0 0 (fun r M2 => r = some (.int z.1) ∧ M2 = (Sh0 n, z.2.1, z.2.2)) :=
  jEv.mk (mt := mX11_minute) rfl (Nat.le_of_ble_eq_true rfl) (jWP.intro (pr := pX11_minute) (pc := 0) (tfX11_minute d n A L l1 l2 h ⟨trivial, jCn.mk ⟨rfl, rfl⟩⟩))
set_option maxRecDepth 20000 in
theorem tfX11_isSheet (d n : Nat) (A : Nat → Nat → Int32) (L : Nat → Nat → Int64) (l0 : Int32) {Q : Option Value → jM → Prop} {z : Int32} (h : fX11_isSheet l0 = z) (k3 : (narrow .boolean (.int z) = .int z) → Q (some (.int z)) (Sh0 n, A, L)) : pX11_isSheet (jEv jtab (d + 1), jWP (jEv jtab (d + 1)) Q ((Sh0 n).length, jsl (Sh0 n)) pX11_isSheet, Q, ((Sh0 n).length, jsl (Sh0 n))) 0 [some (.int l0)] [] (Sh0 n, A, L) := by
  unfold fX11_isSheet at h
  refine y_mask <| x_iload rfl <| x_push <| x_push <| y_invS3 (Nat.le_of_ble_eq_true rfl) <| jEv.exZ (q := 159) rfl (kX11_in _ _ _ _ _ _ _) <| fun hz1 => y_ireturn (ls := [some (.int l0)]) ?_
  subst h
  exact k3 hz1
theorem kX11_isSheet (d n : Nat) (A : Nat → Nat → Int32) (L : Nat → Nat → Int64) (l0 : Int32) : jEv jtab (d + 2) 254 [.int l0] (Sh0 n, A, L) 0 0 (fun r M2 => r = some (.int (fX11_isSheet l0)) ∧ M2 = (Sh0 n, A, L)) :=
  jEv.mk (mt := mX11_isSheet) rfl (Nat.le_of_ble_eq_true rfl) (jWP.intro (pr := pX11_isSheet) (pc := 0) (tfX11_isSheet d n A L l0 rfl (fun hz => ⟨hz, jCn.mk ⟨rfl, rfl⟩⟩)))
set_option maxRecDepth 20000 in
theorem tcX11_judge_47 (d n : Nat) (A : Nat → Nat → Int32) (L : Nat → Nat → Int64) (l1 : Int32) (s : (Int32 × Int32 × (Nat → Nat → Int32))) {Q : Option Value → jM → Prop} {z : ((Int32 × Int32 × (Nat → Nat → Int32)) ⊕ ((Nat → Nat → Int32) ⊕ (Int64 × (Nat → Nat → Int32) × (Nat → Nat → Int64))))} (h : cX11_judge_47 L l1 s = some z) (k1 : ∀ s0, z = .inl s0 → pX11_judge (jEv jtab (d + 5), jWP (jEv jtab (d + 5)) Q ((Sh0 n).length, jsl (Sh0 n)) pX11_judge, Q, ((Sh0 n).length, jsl (Sh0 n))) 47 [some (.ref 94), some (.int l1), some (.int s0.1), some (.int s0.2.1), none] [] (Sh0 n, s0.2.2, L)) (k2 : ∀ s0, z = .inr (.inl s0) → pX11_judge (jEv jtab (d + 5), jWP (jEv jtab (d + 5)) Q ((Sh0 n).length, jsl (Sh0 n)) pX11_judge, Q, ((Sh0 n).length, jsl (Sh0 n))) 112 [some (.ref 94), none, none, none, none] [] (Sh0 n, s0, L)) (k3 : ∀ s0, z = .inr (.inr s0) → Q (some (.long s0.1)) (Sh0 n, s0.2.1, s0.2.2)) : pX11_judge (jEv jtab (d + 5), jWP (jEv jtab (d + 5)) Q ((Sh0 n).length, jsl (Sh0 n)) pX11_judge, Q, ((Sh0 n).length, jsl (Sh0 n))) 47 [some (.ref 94), some (.int l1), some (.int s.1), some (.int s.2.1), none] [] (Sh0 n, s.2.2, L) := by
  unfold cX11_judge_47 at h
  refine y_mask <| x_iload rfl <| x_aload rfl <| x_getI (Nat.le_of_ble_eq_true rfl) rfl rfl <| y_cmp_ge (fun h1 => ?_) (fun h1 => ?_)
  · replace h := of_pos h h1
    refine jWP.intro (pr := pX11_judge) (pc := 112) ?_
    have hk := k2 _ (Option.some.inj h).symm
    exact hk
  · replace h := of_neg h h1
    refine jWP.intro (pr := pX11_judge) (pc := 55) ?_
    obtain ⟨g2, h⟩ := of_guard h
    show bX11_judge_55 _ _ _ _
    unfold bX11_judge_55
    refine y_mask ?_
    refine x_aload rfl ?_
    refine x_getR (Nat.le_of_ble_eq_true rfl) rfl rfl ?_
    refine x_push ?_
    refine x_iload rfl ?_
    refine x_imul ?_
    refine x_iload rfl ?_
    refine x_iadd ?_
    refine x_iald rfl g2 ?_
    refine x_istore rfl ?_
    refine x_aload rfl ?_
    refine x_iload rfl ?_
    refine y_invV1 (Nat.le_of_ble_eq_true rfl) rfl (Nat.le_of_ble_eq_true rfl) ?_
    refine jEv.exZ (q := 193) rfl (kX11_isSaying _ _ _ _ _) (fun hz3 => ?_)
    refine y_if_eq (fun h4 => ?_) (fun h4 => ?_)
    · replace h := of_pos h h4
      refine jWP.intro (pr := pX11_judge) (pc := 87) ?_
      refine y_mprl (bs := []) (ls := []) ?_
      have hk := k3 _ (Option.some.inj h).symm
      exact hk
    · replace h := of_neg h h4
      refine jWP.intro (pr := pX11_judge) (pc := 77) ?_
      refine y_mask <| x_iload rfl <| x_iload rfl <| x_ishr <| x_push <| x_iand <| x_push <| y_cmp_ne (fun h5 => ?_) (fun h5 => ?_)
      · replace h := of_neg h h5
        refine jWP.intro (pr := pX11_judge) (pc := 91) ?_
        obtain ⟨g6, h⟩ := of_guard h
        obtain ⟨m7, hm8, h⟩ := of_bind h
        show bX11_judge_91 _ _ _ _
        unfold bX11_judge_91
        refine y_mask ?_
        refine x_iload rfl ?_
        refine x_push ?_
        refine x_iload rfl ?_
        refine x_ishl ?_
        refine x_ior ?_
        refine x_istore rfl ?_
        refine x_aload rfl ?_
        refine x_getR (Nat.le_of_ble_eq_true rfl) rfl rfl ?_
        refine x_iload rfl ?_
        refine x_iload rfl ?_
        refine x_iast (Nat.le_of_ble_eq_true rfl) rfl g6 ?_
        refine y_let (Option.some.inj hm8) ?_
        refine x_iinc rfl rfl ?_
        refine y_mask ?_
        refine y_goto ?_
        refine jWP.intro (pr := pX11_judge) (pc := 47) ?_
        have hk := k1 _ (Option.some.inj h).symm
        exact hk
      · replace h := of_pos h h5
        refine jWP.intro (pr := pX11_judge) (pc := 87) ?_
        refine y_mprl (bs := []) (ls := []) ?_
        have hk := k3 _ (Option.some.inj h).symm
        exact hk
set_option maxRecDepth 20000 in
theorem tfX11_judge (d n : Nat) (A : Nat → Nat → Int32) (L : Nat → Nat → Int64) (l1 : Int32) {Q : Option Value → jM → Prop} {z : (Int64 × (Nat → Nat → Int32) × (Nat → Nat → Int64))} (h : fX11_judge A L l1 = some z) (k3 : Q (some (.long z.1)) (Sh0 n, z.2.1, z.2.2)) : pX11_judge (jEv jtab (d + 5), jWP (jEv jtab (d + 5)) Q ((Sh0 n).length, jsl (Sh0 n)) pX11_judge, Q, ((Sh0 n).length, jsl (Sh0 n))) 0 [some (.ref 94), some (.int l1), none, none, none] [] (Sh0 n, A, L) := by
  unfold fX11_judge at h
  refine y_mask <| x_iload rfl <| y_invS1 (Nat.le_of_ble_eq_true rfl) <| jEv.exZ (q := 254) rfl (kX11_isSheet _ _ _ _ _) <| fun hz1 => y_if_eq (fun h2 => ?_) (fun h2 => ?_)
  · replace h := of_pos h h2
    refine jWP.intro (pr := pX11_judge) (pc := 29) ?_
    refine y_mprl (bs := []) (ls := []) ?_
    obtain rfl := Option.some.inj h
    exact k3
  · replace h := of_neg h h2
    refine jWP.intro (pr := pX11_judge) (pc := 7) ?_
    obtain ⟨g3, h⟩ := of_guard h
    refine y_mask <| x_aload rfl <| x_getR (Nat.le_of_ble_eq_true rfl) rfl rfl <| x_iload rfl <| x_iald rfl g3 <| y_if_lt (fun h4 => ?_) (fun h4 => ?_)
    · replace h := of_pos h h4
      refine jWP.intro (pr := pX11_judge) (pc := 29) ?_
      refine y_mprl (bs := []) (ls := []) ?_
      obtain rfl := Option.some.inj h
      exact k3
    · replace h := of_neg h h4
      refine jWP.intro (pr := pX11_judge) (pc := 16) ?_
      obtain ⟨g5, h⟩ := of_guard h
      refine y_mask <| x_aload rfl <| x_getR (Nat.le_of_ble_eq_true rfl) rfl rfl <| x_iload rfl <| x_iald rfl g5 <| x_aload rfl <| x_getI (Nat.le_of_ble_eq_true rfl) rfl rfl <| y_cmp_le (fun h6 => ?_) (fun h6 => ?_)
      · replace h := of_pos h h6
        refine jWP.intro (pr := pX11_judge) (pc := 33) ?_
        obtain ⟨g7, h⟩ := of_guard h
        show bX11_judge_33 _ _ _ _
        unfold bX11_judge_33
        refine y_mask ?_
        refine x_aload rfl ?_
        refine x_aload rfl ?_
        refine x_getR (Nat.le_of_ble_eq_true rfl) rfl rfl ?_
        refine x_iload rfl ?_
        refine x_iald rfl g7 ?_
        refine x_putI (Nat.le_of_ble_eq_true rfl) rfl rfl ?_
        refine x_push ?_
        refine x_istore rfl ?_
        refine x_push ?_
        refine x_istore rfl ?_
        refine y_mask ?_
        refine y_goto ?_
        obtain ⟨e8y, hw9, h⟩ := of_bind h
        refine jWP.intro (pr := pX11_judge) (pc := 47) ?_
        refine jwh_use2 (G := (fun s0 => pX11_judge (jEv jtab (d + 5), jWP (jEv jtab (d + 5)) Q ((Sh0 n).length, jsl (Sh0 n)) pX11_judge, Q, ((Sh0 n).length, jsl (Sh0 n))) 47 [some (.ref 94), some (.int l1), some (.int s0.1), some (.int s0.2.1), none] [] (Sh0 n, s0.2.2, L))) (Gx := (fun s0 => pX11_judge (jEv jtab (d + 5), jWP (jEv jtab (d + 5)) Q ((Sh0 n).length, jsl (Sh0 n)) pX11_judge, Q, ((Sh0 n).length, jsl (Sh0 n))) 112 [some (.ref 94), none, none, none, none] [] (Sh0 n, s0, L))) (Gr := (fun s0 => Q (some (.long s0.1)) (Sh0 n, s0.2.1, s0.2.2))) (fun s1 z1 hz kk1 kk2 kk3 => tcX11_judge_47 d n (va_up A 94 (upd (A 94) 25 (A 128 (jx l1)))) L l1 s1 hz kk1 kk2 kk3) hw9 ?_ ?_
        · intro e8 hy
          subst hy
          replace h : (Option.bind (fX11_worthOf e8 L) fun r10 => some (r10.1, r10.2.1, r10.2.2)) = some z := h
          obtain ⟨r10, hc11, h⟩ := of_bind h
          refine y_mask <| x_aload rfl <| y_invV0 (Nat.le_of_ble_eq_true rfl) rfl (Nat.le_of_ble_eq_true rfl) <| jEv.exL (kX11_worthOf _ _ _ _ hc11) <| y_lreturn (ls := [some (.ref 94), none, none, none, none]) ?_
          obtain rfl := Option.some.inj h
          exact k3
        · intro s0 hy
          subst hy
          replace h : some s0 = some z := h
          obtain rfl := Option.some.inj h
          exact k3
      · replace h := of_neg h h6
        refine jWP.intro (pr := pX11_judge) (pc := 29) ?_
        refine y_mprl (bs := []) (ls := []) ?_
        obtain rfl := Option.some.inj h
        exact k3
theorem kX11_judge (d n : Nat) (A : Nat → Nat → Int32) (L : Nat → Nat → Int64) (l1 : Int32) {z : (Int64 × (Nat → Nat → Int32) × (Nat → Nat → Int64))} (h : fX11_judge A L l1 = some z) : jEv jtab (d + 6) 204 [.ref 94, .int l1] (Sh0 n, A, L) 0 0 (fun r M2 => r = some (.long z.1) ∧ M2 = (Sh0 n, z.2.1, z.2.2)) :=
  jEv.mk (mt := mX11_judge) rfl (Nat.le_of_ble_eq_true rfl) (jWP.intro (pr := pX11_judge) (pc := 0) (tfX11_judge d n A L l1 h ⟨trivial, jCn.mk ⟨rfl, rfl⟩⟩))
set_option maxRecDepth 20000 in
theorem tcX11_keepRow_7 (d n : Nat) (A : Nat → Nat → Int32) (L : Nat → Nat → Int64) (s : (Int32 × (Nat → Nat → Int32))) {Q : Option Value → jM → Prop} {z : ((Int32 × (Nat → Nat → Int32)) ⊕ (Nat → Nat → Int32))} (h : cX11_keepRow_7 L s = some z) (k1 : ∀ s0, z = .inl s0 → pX11_keepRow (jEv jtab (d + 0), jWP (jEv jtab (d + 0)) Q ((Sh0 n).length, jsl (Sh0 n)) pX11_keepRow, Q, ((Sh0 n).length, jsl (Sh0 n))) 7 [some (.ref 94), none, none, some (.int s0.1)] [] (Sh0 n, s0.2, L)) (k2 : ∀ s0, z = .inr s0 → pX11_keepRow (jEv jtab (d + 0), jWP (jEv jtab (d + 0)) Q ((Sh0 n).length, jsl (Sh0 n)) pX11_keepRow, Q, ((Sh0 n).length, jsl (Sh0 n))) 33 [none, none, none, none] [] (Sh0 n, s0, L)) : pX11_keepRow (jEv jtab (d + 0), jWP (jEv jtab (d + 0)) Q ((Sh0 n).length, jsl (Sh0 n)) pX11_keepRow, Q, ((Sh0 n).length, jsl (Sh0 n))) 7 [some (.ref 94), none, none, some (.int s.1)] [] (Sh0 n, s.2, L) := by
  unfold cX11_keepRow_7 at h
  refine y_mask <| x_iload rfl <| x_aload rfl <| x_getI (Nat.le_of_ble_eq_true rfl) rfl rfl <| y_cmp_ge (fun h1 => ?_) (fun h1 => ?_)
  · replace h := of_pos h h1
    refine jWP.intro (pr := pX11_keepRow) (pc := 33) ?_
    have hk := k2 _ (Option.some.inj h).symm
    exact hk
  · replace h := of_neg h h1
    refine jWP.intro (pr := pX11_keepRow) (pc := 15) ?_
    obtain ⟨g2, h⟩ := of_guard h
    obtain ⟨g3, h⟩ := of_guard h
    obtain ⟨m4, hm5, h⟩ := of_bind h
    show bX11_keepRow_15 _ _ _ _
    unfold bX11_keepRow_15
    refine y_mask ?_
    refine x_aload rfl ?_
    refine x_getR (Nat.le_of_ble_eq_true rfl) rfl rfl ?_
    refine x_iload rfl ?_
    refine x_aload rfl ?_
    refine x_getR (Nat.le_of_ble_eq_true rfl) rfl rfl ?_
    refine x_iload rfl ?_
    refine x_iald rfl g2 ?_
    refine x_iast (Nat.le_of_ble_eq_true rfl) rfl g3 ?_
    refine y_let (Option.some.inj hm5) ?_
    refine x_iinc rfl rfl ?_
    refine y_mask ?_
    refine y_goto ?_
    refine jWP.intro (pr := pX11_keepRow) (pc := 7) ?_
    have hk := k1 _ (Option.some.inj h).symm
    exact hk
set_option maxRecDepth 20000 in
theorem tfX11_keepRow (d n : Nat) (A : Nat → Nat → Int32) (L : Nat → Nat → Int64) (l1 : Int64) {Q : Option Value → jM → Prop} {z : ((Nat → Nat → Int32) × (Nat → Nat → Int64))} (h : fX11_keepRow A L l1 = some z) (k3 : Q (none) (Sh0 n, z.1, z.2)) : pX11_keepRow (jEv jtab (d + 0), jWP (jEv jtab (d + 0)) Q ((Sh0 n).length, jsl (Sh0 n)) pX11_keepRow, Q, ((Sh0 n).length, jsl (Sh0 n))) 0 [some (.ref 94), some (.long l1), none, none] [] (Sh0 n, A, L) := by
  unfold fX11_keepRow at h
  refine y_mask <| x_aload rfl <| x_lload rfl <| x_putL (Nat.le_of_ble_eq_true rfl) rfl rfl <| x_push <| x_istore rfl <| y_mask <| y_goto ?_
  obtain ⟨e1, hw2, h⟩ := of_bind h
  refine jWP.intro (pr := pX11_keepRow) (pc := 7) ?_
  refine jwh_use (G := (fun s0 => pX11_keepRow (jEv jtab (d + 0), jWP (jEv jtab (d + 0)) Q ((Sh0 n).length, jsl (Sh0 n)) pX11_keepRow, Q, ((Sh0 n).length, jsl (Sh0 n))) 7 [some (.ref 94), none, none, some (.int s0.1)] [] (Sh0 n, s0.2, (va_up L 94 (vp_updL (L 94) 32 l1))))) (Gx := (fun s0 => pX11_keepRow (jEv jtab (d + 0), jWP (jEv jtab (d + 0)) Q ((Sh0 n).length, jsl (Sh0 n)) pX11_keepRow, Q, ((Sh0 n).length, jsl (Sh0 n))) 33 [none, none, none, none] [] (Sh0 n, s0, (va_up L 94 (vp_updL (L 94) 32 l1))))) (fun s1 z1 hz kk1 kk2 => tcX11_keepRow_7 d n A (va_up L 94 (vp_updL (L 94) 32 l1)) s1 hz kk1 kk2) hw2 ?_
  refine y_mrv (bs := []) (ls := []) ?_
  obtain rfl := Option.some.inj h
  exact k3
theorem kX11_keepRow (d n : Nat) (A : Nat → Nat → Int32) (L : Nat → Nat → Int64) (l1 : Int64) {z : ((Nat → Nat → Int32) × (Nat → Nat → Int64))} (h : fX11_keepRow A L l1 = some z) : jEv jtab (d + 1) 205 [.ref 94, .long l1] (Sh0 n, A, L) 0 0 (fun r M2 => r = none ∧ M2 = (Sh0 n, z.1, z.2)) :=
  jEv.mk (mt := mX11_keepRow) rfl (Nat.le_of_ble_eq_true rfl) (jWP.intro (pr := pX11_keepRow) (pc := 0) (tfX11_keepRow d n A L l1 h ⟨trivial, jCn.mk ⟨rfl, rfl⟩⟩))
set_option maxRecDepth 20000 in
theorem tfX11_exchange (d n : Nat) (A : Nat → Nat → Int32) (L : Nat → Nat → Int64) (l1 : Int32) (l2 : Int32) {Q : Option Value → jM → Prop} {z : (Nat → Nat → Int32)} (h : fX11_exchange A l1 l2 = some z) (k3 : Q (none) (Sh0 n, z, L)) : pX11_exchange (jEv jtab (d + 0), jWP (jEv jtab (d + 0)) Q ((Sh0 n).length, jsl (Sh0 n)) pX11_exchange, Q, ((Sh0 n).length, jsl (Sh0 n))) 0 [some (.ref 94), some (.int l1), some (.int l2), none] [] (Sh0 n, A, L) := by
  unfold fX11_exchange at h
  obtain ⟨g1, h⟩ := of_guard h
  obtain ⟨g2, h⟩ := of_guard h
  obtain ⟨g3, h⟩ := of_guard h
  obtain ⟨m4, hm5, h⟩ := of_bind h
  obtain ⟨g6, h⟩ := of_guard h
  obtain ⟨m7, hm8, h⟩ := of_bind h
  show bX11_exchange_0 _ _ _ _
  unfold bX11_exchange_0
  refine y_mask ?_
  refine x_aload rfl ?_
  refine x_getR (Nat.le_of_ble_eq_true rfl) rfl rfl ?_
  refine x_iload rfl ?_
  refine x_iald rfl g1 ?_
  refine x_istore rfl ?_
  refine x_aload rfl ?_
  refine x_getR (Nat.le_of_ble_eq_true rfl) rfl rfl ?_
  refine x_iload rfl ?_
  refine x_aload rfl ?_
  refine x_getR (Nat.le_of_ble_eq_true rfl) rfl rfl ?_
  refine x_iload rfl ?_
  refine x_iald rfl g2 ?_
  refine x_iast (Nat.le_of_ble_eq_true rfl) rfl g3 ?_
  refine y_let (Option.some.inj hm5) ?_
  refine x_aload rfl ?_
  refine x_getR (Nat.le_of_ble_eq_true rfl) rfl rfl ?_
  refine x_iload rfl ?_
  refine x_iload rfl ?_
  refine x_iast (Nat.le_of_ble_eq_true rfl) rfl g6 ?_
  refine y_let (Option.some.inj hm8) ?_
  refine y_return (ls := [some (.ref 94), some (.int l1), some (.int l2), some (.int (A 108 (jx l1)))]) ?_
  obtain rfl := Option.some.inj h
  exact k3
theorem kX11_exchange (d n : Nat) (A : Nat → Nat → Int32) (L : Nat → Nat → Int64) (l1 : Int32) (l2 : Int32) {z : (Nat → Nat → Int32)} (h : fX11_exchange A l1 l2 = some z) : jEv jtab (d + 1) 207 [.ref 94, .int l1, .int l2] (Sh0 n, A, L) 0 0 (fun r M2 => r = none ∧ M2 = (Sh0 n, z, L)) :=
  jEv.mk (mt := mX11_exchange) rfl (Nat.le_of_ble_eq_true rfl) (jWP.intro (pr := pX11_exchange) (pc := 0) (tfX11_exchange d n A L l1 l2 h ⟨trivial, jCn.mk ⟨rfl, rfl⟩⟩))
set_option maxRecDepth 20000 in
theorem tcX11_rowBy_10 (d n : Nat) (A : Nat → Nat → Int32) (L : Nat → Nat → Int64) (l2 : Int32) (s : (Int32 × Int32 × Int32 × (Nat → Nat → Int32))) {Q : Option Value → jM → Prop} {z : ((Int32 × Int32 × Int32 × (Nat → Nat → Int32)) ⊕ ((Nat → Nat → Int32) ⊕ (Int32 × (Nat → Nat → Int32))))} (h : cX11_rowBy_10 l2 s = some z) (k1 : ∀ s0, z = .inl s0 → pX11_rowBy (jEv jtab (d + 0), jWP (jEv jtab (d + 0)) Q ((Sh0 n).length, jsl (Sh0 n)) pX11_rowBy, Q, ((Sh0 n).length, jsl (Sh0 n))) 10 [some (.ref 94), none, some (.int l2), some (.int s0.1), some (.int s0.2.1), some (.int s0.2.2.1)] [] (Sh0 n, s0.2.2.2, L)) (k2 : ∀ s0, z = .inr (.inl s0) → pX11_rowBy (jEv jtab (d + 0), jWP (jEv jtab (d + 0)) Q ((Sh0 n).length, jsl (Sh0 n)) pX11_rowBy, Q, ((Sh0 n).length, jsl (Sh0 n))) 67 [none, none, none, none, none, none] [] (Sh0 n, s0, L)) (k3 : ∀ s0, z = .inr (.inr s0) → (narrow .boolean (.int s0.1) = .int s0.1) → Q (some (.int s0.1)) (Sh0 n, s0.2, L)) : pX11_rowBy (jEv jtab (d + 0), jWP (jEv jtab (d + 0)) Q ((Sh0 n).length, jsl (Sh0 n)) pX11_rowBy, Q, ((Sh0 n).length, jsl (Sh0 n))) 10 [some (.ref 94), none, some (.int l2), some (.int s.1), some (.int s.2.1), some (.int s.2.2.1)] [] (Sh0 n, s.2.2.2, L) := by
  unfold cX11_rowBy_10 at h
  refine y_mask <| x_iload rfl <| y_if_lt (fun h1 => ?_) (fun h1 => ?_)
  · replace h := of_pos h h1
    refine jWP.intro (pr := pX11_rowBy) (pc := 67) ?_
    have hk := k2 _ (Option.some.inj h).symm
    exact hk
  · replace h := of_neg h h1
    refine jWP.intro (pr := pX11_rowBy) (pc := 15) ?_
    obtain ⟨g2, h⟩ := of_guard h
    obtain ⟨g3, h⟩ := of_guard h
    obtain ⟨m4, hm5, h⟩ := of_bind h
    obtain ⟨g6, h⟩ := of_guard h
    obtain ⟨g7, h⟩ := of_guard h
    show bX11_rowBy_15 _ _ _ _
    unfold bX11_rowBy_15
    refine y_mask ?_
    refine x_aload rfl ?_
    refine x_getR (Nat.le_of_ble_eq_true rfl) rfl rfl ?_
    refine x_iload rfl ?_
    refine x_iload rfl ?_
    refine x_iload rfl ?_
    refine x_irem g2 ?_
    refine x_iast (Nat.le_of_ble_eq_true rfl) rfl g3 ?_
    refine y_let (Option.some.inj hm5) ?_
    refine x_iload rfl ?_
    refine x_iload rfl ?_
    refine x_idiv g6 ?_
    refine x_istore rfl ?_
    refine x_iload rfl ?_
    refine x_aload rfl ?_
    refine x_getR (Nat.le_of_ble_eq_true rfl) rfl rfl ?_
    refine x_iload rfl ?_
    refine x_iald rfl g7 ?_
    refine x_ishr ?_
    refine x_push ?_
    refine x_iand ?_
    refine x_push ?_
    refine y_cmp_ne (fun h8 => ?_) (fun h8 => ?_)
    · replace h := of_neg h h8
      refine jWP.intro (pr := pX11_rowBy) (pc := 47) ?_
      obtain ⟨g9, h⟩ := of_guard h
      show bX11_rowBy_47 _ _ _ _
      unfold bX11_rowBy_47
      refine y_mask ?_
      refine x_iload rfl ?_
      refine x_push ?_
      refine x_aload rfl ?_
      refine x_getR (Nat.le_of_ble_eq_true rfl) rfl rfl ?_
      refine x_iload rfl ?_
      refine x_iald rfl g9 ?_
      refine x_ishl ?_
      refine x_ior ?_
      refine x_istore rfl ?_
      refine x_iinc rfl rfl ?_
      refine y_mask ?_
      refine y_goto ?_
      refine jWP.intro (pr := pX11_rowBy) (pc := 10) ?_
      have hk := k1 _ (Option.some.inj h).symm
      exact hk
    · replace h := of_pos h h8
      refine jWP.intro (pr := pX11_rowBy) (pc := 45) ?_
      refine y_mpri (bs := []) (ls := []) ?_
      have hk := k3 _ (Option.some.inj h).symm
      exact hk (jnar_boolean (.inl rfl))
set_option maxRecDepth 20000 in
theorem tfX11_rowBy (d n : Nat) (A : Nat → Nat → Int32) (L : Nat → Nat → Int64) (l1 : Int32) (l2 : Int32) {Q : Option Value → jM → Prop} {z : (Int32 × (Nat → Nat → Int32))} (h : fX11_rowBy A l1 l2 = some z) (k3 : (narrow .boolean (.int z.1) = .int z.1) → Q (some (.int z.1)) (Sh0 n, z.2, L)) : pX11_rowBy (jEv jtab (d + 0), jWP (jEv jtab (d + 0)) Q ((Sh0 n).length, jsl (Sh0 n)) pX11_rowBy, Q, ((Sh0 n).length, jsl (Sh0 n))) 0 [some (.ref 94), some (.int l1), some (.int l2), none, none, none] [] (Sh0 n, A, L) := by
  unfold fX11_rowBy at h
  show bX11_rowBy_0 _ _ _ _
  unfold bX11_rowBy_0
  refine y_mask ?_
  refine x_iload rfl ?_
  refine x_istore rfl ?_
  refine x_push ?_
  refine x_istore rfl ?_
  refine x_iload rfl ?_
  refine x_push ?_
  refine x_isub ?_
  refine x_istore rfl ?_
  refine y_mask ?_
  refine y_goto ?_
  obtain ⟨e1y, hw2, h⟩ := of_bind h
  refine jWP.intro (pr := pX11_rowBy) (pc := 10) ?_
  refine jwh_use2 (G := (fun s0 => pX11_rowBy (jEv jtab (d + 0), jWP (jEv jtab (d + 0)) Q ((Sh0 n).length, jsl (Sh0 n)) pX11_rowBy, Q, ((Sh0 n).length, jsl (Sh0 n))) 10 [some (.ref 94), none, some (.int l2), some (.int s0.1), some (.int s0.2.1), some (.int s0.2.2.1)] [] (Sh0 n, s0.2.2.2, L))) (Gx := (fun s0 => pX11_rowBy (jEv jtab (d + 0), jWP (jEv jtab (d + 0)) Q ((Sh0 n).length, jsl (Sh0 n)) pX11_rowBy, Q, ((Sh0 n).length, jsl (Sh0 n))) 67 [none, none, none, none, none, none] [] (Sh0 n, s0, L))) (Gr := (fun s0 => (narrow .boolean (.int s0.1) = .int s0.1) → Q (some (.int s0.1)) (Sh0 n, s0.2, L))) (fun s1 z1 hz kk1 kk2 kk3 => tcX11_rowBy_10 d n A L l2 s1 hz kk1 kk2 kk3) hw2 ?_ ?_
  · intro e1 hy
    subst hy
    replace h : (some ((1 : Int32), e1)) = some z := h
    refine y_mpri (bs := []) (ls := []) ?_
    obtain rfl := Option.some.inj h
    exact k3 (jnar_boolean (.inr rfl))
  · intro s0 hy
    subst hy
    replace h : some s0 = some z := h
    obtain rfl := Option.some.inj h
    exact k3
theorem kX11_rowBy (d n : Nat) (A : Nat → Nat → Int32) (L : Nat → Nat → Int64) (l1 : Int32) (l2 : Int32) {z : (Int32 × (Nat → Nat → Int32))} (h : fX11_rowBy A l1 l2 = some z) : jEv jtab (d + 1) 206 [.ref 94, .int l1, .int l2] (Sh0 n, A, L) 0 0 (fun r M2 => r = some (.int z.1) ∧ M2 = (Sh0 n, z.2, L)) :=
  jEv.mk (mt := mX11_rowBy) rfl (Nat.le_of_ble_eq_true rfl) (jWP.intro (pr := pX11_rowBy) (pc := 0) (tfX11_rowBy d n A L l1 l2 h (fun hz => ⟨hz, jCn.mk ⟨rfl, rfl⟩⟩)))
set_option maxRecDepth 20000 in
theorem tcX11_findBest_139 (d n : Nat) (A : Nat → Nat → Int32) (L : Nat → Nat → Int64) (l6 : Int32) (s : (Int32 × Int32 × Int32 × Int64 × Int32 × (Nat → Nat → Int32) × (Nat → Nat → Int64))) {Q : Option Value → jM → Prop} {z : ((Int32 × Int32 × Int32 × Int64 × Int32 × (Nat → Nat → Int32) × (Nat → Nat → Int64)) ⊕ (Int32 × Int32 × Int32 × Int64 × (Nat → Nat → Int32) × (Nat → Nat → Int64)))} (h : cX11_findBest_139 l6 s = some z) (k1 : ∀ s0, z = .inl s0 → pX11_findBest (jEv jtab (d + 6), jWP (jEv jtab (d + 6)) Q ((Sh0 n).length, jsl (Sh0 n)) pX11_findBest, Q, ((Sh0 n).length, jsl (Sh0 n))) 139 [some (.ref 94), some (.int s0.1), some (.int s0.2.1), some (.int s0.2.2.1), some (.long s0.2.2.2.1), none, some (.int l6), some (.int s0.2.2.2.2.1), none, none] [] (Sh0 n, s0.2.2.2.2.2.1, s0.2.2.2.2.2.2)) (k2 : ∀ s0, z = .inr s0 → pX11_findBest (jEv jtab (d + 6), jWP (jEv jtab (d + 6)) Q ((Sh0 n).length, jsl (Sh0 n)) pX11_findBest, Q, ((Sh0 n).length, jsl (Sh0 n))) 199 [some (.ref 94), some (.int s0.1), some (.int s0.2.1), some (.int s0.2.2.1), some (.long s0.2.2.2.1), none, some (.int l6), none, none, none] [] (Sh0 n, s0.2.2.2.2.1, s0.2.2.2.2.2)) : pX11_findBest (jEv jtab (d + 6), jWP (jEv jtab (d + 6)) Q ((Sh0 n).length, jsl (Sh0 n)) pX11_findBest, Q, ((Sh0 n).length, jsl (Sh0 n))) 139 [some (.ref 94), some (.int s.1), some (.int s.2.1), some (.int s.2.2.1), some (.long s.2.2.2.1), none, some (.int l6), some (.int s.2.2.2.2.1), none, none] [] (Sh0 n, s.2.2.2.2.2.1, s.2.2.2.2.2.2) := by
  unfold cX11_findBest_139 at h
  refine y_mask <| x_iload rfl <| x_aload rfl <| x_getI (Nat.le_of_ble_eq_true rfl) rfl rfl <| y_cmp_ge (fun h1 => ?_) (fun h1 => ?_)
  · replace h := of_pos h h1
    refine jWP.intro (pr := pX11_findBest) (pc := 199) ?_
    have hk := k2 _ (Option.some.inj h).symm
    exact hk
  · replace h := of_neg h h1
    refine jWP.intro (pr := pX11_findBest) (pc := 148) ?_
    obtain ⟨r2, hc3, h⟩ := of_bind h
    obtain ⟨r4, hc5, h⟩ := of_bind h
    obtain ⟨r6, hc7, h⟩ := of_bind h
    show bX11_findBest_148 _ _ _ _
    unfold bX11_findBest_148
    refine y_mask ?_
    refine x_aload rfl ?_
    refine x_iload rfl ?_
    refine x_iload rfl ?_
    refine y_invV2 (Nat.le_of_ble_eq_true rfl) rfl (Nat.le_of_ble_eq_true rfl) ?_
    refine jEv.exV (kX11_exchange _ _ _ _ _ _ hc3) ?_
    refine x_aload rfl ?_
    refine y_invV0 (Nat.le_of_ble_eq_true rfl) rfl (Nat.le_of_ble_eq_true rfl) ?_
    refine jEv.exL (kX11_worthOf _ _ _ _ hc5) ?_
    refine x_lstore rfl ?_
    refine x_aload rfl ?_
    refine x_iload rfl ?_
    refine x_iload rfl ?_
    refine y_invV2 (Nat.le_of_ble_eq_true rfl) rfl (Nat.le_of_ble_eq_true rfl) ?_
    refine jEv.exV (kX11_exchange _ _ _ _ _ _ hc7) ?_
    refine x_lload rfl ?_
    refine x_lload rfl ?_
    refine x_lcmp ?_
    refine y_if_gt (fun h8 => ?_) (fun h8 => ?_)
    · replace h := of_pos h h8
      refine jWP.intro (pr := pX11_findBest) (pc := 181) ?_
      show bX11_findBest_181 _ _ _ _
      unfold bX11_findBest_181
      refine y_mask ?_
      refine x_lload rfl ?_
      refine x_lstore rfl ?_
      refine x_iload rfl ?_
      refine x_istore rfl ?_
      refine x_iload rfl ?_
      refine x_istore rfl ?_
      refine x_push ?_
      refine x_istore rfl ?_
      refine y_mask ?_
      refine y_goto ?_
      refine jWP.intro (pr := pX11_findBest) (pc := 193) ?_
      refine y_mask <| x_iinc rfl rfl <| y_mask <| y_goto ?_
      refine jWP.intro (pr := pX11_findBest) (pc := 139) ?_
      have hk := k1 _ (Option.some.inj h).symm
      exact hk
    · replace h := of_neg h h8
      refine jWP.intro (pr := pX11_findBest) (pc := 178) ?_
      refine y_mask <| y_mask <| y_goto ?_
      refine jWP.intro (pr := pX11_findBest) (pc := 193) ?_
      refine y_mask <| x_iinc rfl rfl <| y_mask <| y_goto ?_
      refine jWP.intro (pr := pX11_findBest) (pc := 139) ?_
      have hk := k1 _ (Option.some.inj h).symm
      exact hk
set_option maxRecDepth 20000 in
theorem tcX11_findBest_124 (d n : Nat) (A : Nat → Nat → Int32) (L : Nat → Nat → Int64) (s : (Int32 × Int32 × Int32 × Int64 × Int32 × (Nat → Nat → Int32) × (Nat → Nat → Int64))) {Q : Option Value → jM → Prop} {z : ((Int32 × Int32 × Int32 × Int64 × Int32 × (Nat → Nat → Int32) × (Nat → Nat → Int64)) ⊕ (Int32 × Int32 × Int32 × Int64 × (Nat → Nat → Int32) × (Nat → Nat → Int64)))} (h : cX11_findBest_124 s = some z) (k1 : ∀ s0, z = .inl s0 → pX11_findBest (jEv jtab (d + 6), jWP (jEv jtab (d + 6)) Q ((Sh0 n).length, jsl (Sh0 n)) pX11_findBest, Q, ((Sh0 n).length, jsl (Sh0 n))) 124 [some (.ref 94), some (.int s0.1), some (.int s0.2.1), some (.int s0.2.2.1), some (.long s0.2.2.2.1), none, some (.int s0.2.2.2.2.1), none, none, none] [] (Sh0 n, s0.2.2.2.2.2.1, s0.2.2.2.2.2.2)) (k2 : ∀ s0, z = .inr s0 → pX11_findBest (jEv jtab (d + 6), jWP (jEv jtab (d + 6)) Q ((Sh0 n).length, jsl (Sh0 n)) pX11_findBest, Q, ((Sh0 n).length, jsl (Sh0 n))) 205 [some (.ref 94), some (.int s0.1), some (.int s0.2.1), some (.int s0.2.2.1), some (.long s0.2.2.2.1), none, none, none, none, none] [] (Sh0 n, s0.2.2.2.2.1, s0.2.2.2.2.2)) : pX11_findBest (jEv jtab (d + 6), jWP (jEv jtab (d + 6)) Q ((Sh0 n).length, jsl (Sh0 n)) pX11_findBest, Q, ((Sh0 n).length, jsl (Sh0 n))) 124 [some (.ref 94), some (.int s.1), some (.int s.2.1), some (.int s.2.2.1), some (.long s.2.2.2.1), none, some (.int s.2.2.2.2.1), none, none, none] [] (Sh0 n, s.2.2.2.2.2.1, s.2.2.2.2.2.2) := by
  unfold cX11_findBest_124 at h
  refine y_mask <| x_iload rfl <| x_aload rfl <| x_getI (Nat.le_of_ble_eq_true rfl) rfl rfl <| y_cmp_ge (fun h1 => ?_) (fun h1 => ?_)
  · replace h := of_pos h h1
    refine jWP.intro (pr := pX11_findBest) (pc := 205) ?_
    have hk := k2 _ (Option.some.inj h).symm
    exact hk
  · replace h := of_neg h h1
    refine jWP.intro (pr := pX11_findBest) (pc := 133) ?_
    refine y_mask <| x_iload rfl <| x_push <| x_iadd <| x_istore rfl <| y_mask <| y_goto ?_
    obtain ⟨e2, hw3, h⟩ := of_bind h
    refine jWP.intro (pr := pX11_findBest) (pc := 139) ?_
    refine jwh_use (G := (fun s0 => pX11_findBest (jEv jtab (d + 6), jWP (jEv jtab (d + 6)) Q ((Sh0 n).length, jsl (Sh0 n)) pX11_findBest, Q, ((Sh0 n).length, jsl (Sh0 n))) 139 [some (.ref 94), some (.int s0.1), some (.int s0.2.1), some (.int s0.2.2.1), some (.long s0.2.2.2.1), none, some (.int s.2.2.2.2.1), some (.int s0.2.2.2.2.1), none, none] [] (Sh0 n, s0.2.2.2.2.2.1, s0.2.2.2.2.2.2))) (Gx := (fun s0 => pX11_findBest (jEv jtab (d + 6), jWP (jEv jtab (d + 6)) Q ((Sh0 n).length, jsl (Sh0 n)) pX11_findBest, Q, ((Sh0 n).length, jsl (Sh0 n))) 199 [some (.ref 94), some (.int s0.1), some (.int s0.2.1), some (.int s0.2.2.1), some (.long s0.2.2.2.1), none, some (.int s.2.2.2.2.1), none, none, none] [] (Sh0 n, s0.2.2.2.2.1, s0.2.2.2.2.2))) (fun s1 z1 hz kk1 kk2 => tcX11_findBest_139 d n s.2.2.2.2.2.1 s.2.2.2.2.2.2 s.2.2.2.2.1 s1 hz kk1 kk2) hw3 ?_
    refine y_mask <| x_iinc rfl rfl <| y_mask <| y_goto ?_
    refine jWP.intro (pr := pX11_findBest) (pc := 124) ?_
    have hk := k1 _ (Option.some.inj h).symm
    exact hk
set_option maxRecDepth 20000 in
theorem tcX11_findBest_105 (d n : Nat) (A : Nat → Nat → Int32) (L : Nat → Nat → Int64) (s : (Int32 × (Nat → Nat → Int32) × (Nat → Nat → Int64))) {Q : Option Value → jM → Prop} {z : ((Int32 × (Nat → Nat → Int32) × (Nat → Nat → Int64)) ⊕ ((Nat → Nat → Int32) × (Nat → Nat → Int64)))} (h : cX11_findBest_105 s = some z) (k1 : ∀ s0, z = .inl s0 → pX11_findBest (jEv jtab (d + 6), jWP (jEv jtab (d + 6)) Q ((Sh0 n).length, jsl (Sh0 n)) pX11_findBest, Q, ((Sh0 n).length, jsl (Sh0 n))) 105 [some (.ref 94), some (.int s0.1), none, none, none, none, none, none, none, none] [] (Sh0 n, s0.2.1, s0.2.2)) (k2 : ∀ s0, z = .inr s0 → pX11_findBest (jEv jtab (d + 6), jWP (jEv jtab (d + 6)) Q ((Sh0 n).length, jsl (Sh0 n)) pX11_findBest, Q, ((Sh0 n).length, jsl (Sh0 n))) 227 [none, none, none, none, none, none, none, none, none, none] [] (Sh0 n, s0.1, s0.2)) : pX11_findBest (jEv jtab (d + 6), jWP (jEv jtab (d + 6)) Q ((Sh0 n).length, jsl (Sh0 n)) pX11_findBest, Q, ((Sh0 n).length, jsl (Sh0 n))) 105 [some (.ref 94), some (.int s.1), none, none, none, none, none, none, none, none] [] (Sh0 n, s.2.1, s.2.2) := by
  unfold cX11_findBest_105 at h
  refine y_mask <| x_iload rfl <| y_if_eq (fun h1 => ?_) (fun h1 => ?_)
  · replace h := of_pos h h1
    refine jWP.intro (pr := pX11_findBest) (pc := 227) ?_
    have hk := k2 _ (Option.some.inj h).symm
    exact hk
  · replace h := of_neg h h1
    refine jWP.intro (pr := pX11_findBest) (pc := 109) ?_
    show bX11_findBest_109 _ _ _ _
    unfold bX11_findBest_109
    refine y_mask ?_
    refine x_push ?_
    refine x_istore rfl ?_
    refine x_push ?_
    refine x_istore rfl ?_
    refine x_push ?_
    refine x_istore rfl ?_
    refine x_aload rfl ?_
    refine x_getL (Nat.le_of_ble_eq_true rfl) rfl rfl ?_
    refine x_lstore rfl ?_
    refine x_push ?_
    refine x_istore rfl ?_
    refine y_mask ?_
    refine y_goto ?_
    obtain ⟨e2, hw3, h⟩ := of_bind h
    refine jWP.intro (pr := pX11_findBest) (pc := 124) ?_
    refine jwh_use (G := (fun s0 => pX11_findBest (jEv jtab (d + 6), jWP (jEv jtab (d + 6)) Q ((Sh0 n).length, jsl (Sh0 n)) pX11_findBest, Q, ((Sh0 n).length, jsl (Sh0 n))) 124 [some (.ref 94), some (.int s0.1), some (.int s0.2.1), some (.int s0.2.2.1), some (.long s0.2.2.2.1), none, some (.int s0.2.2.2.2.1), none, none, none] [] (Sh0 n, s0.2.2.2.2.2.1, s0.2.2.2.2.2.2))) (Gx := (fun s0 => pX11_findBest (jEv jtab (d + 6), jWP (jEv jtab (d + 6)) Q ((Sh0 n).length, jsl (Sh0 n)) pX11_findBest, Q, ((Sh0 n).length, jsl (Sh0 n))) 205 [some (.ref 94), some (.int s0.1), some (.int s0.2.1), some (.int s0.2.2.1), some (.long s0.2.2.2.1), none, none, none, none, none] [] (Sh0 n, s0.2.2.2.2.1, s0.2.2.2.2.2))) (fun s1 z1 hz kk1 kk2 => tcX11_findBest_124 d n s.2.1 s.2.2 s1 hz kk1 kk2) hw3 ?_
    refine y_mask <| x_iload rfl <| y_if_ne (fun h4 => ?_) (fun h4 => ?_)
    · replace h := of_neg h h4
      refine jWP.intro (pr := pX11_findBest) (pc := 212) ?_
      obtain ⟨r5, hc6, h⟩ := of_bind h
      obtain ⟨r7, hc8, h⟩ := of_bind h
      show bX11_findBest_212 _ _ _ _
      unfold bX11_findBest_212
      refine y_mask ?_
      refine x_aload rfl ?_
      refine x_iload rfl ?_
      refine x_iload rfl ?_
      refine y_invV2 (Nat.le_of_ble_eq_true rfl) rfl (Nat.le_of_ble_eq_true rfl) ?_
      refine jEv.exV (kX11_exchange _ _ _ _ _ _ hc6) ?_
      refine x_aload rfl ?_
      refine x_lload rfl ?_
      refine y_invV1 (Nat.le_of_ble_eq_true rfl) rfl (Nat.le_of_ble_eq_true rfl) ?_
      refine jEv.exV (kX11_keepRow _ _ _ _ _ hc8) ?_
      refine y_mask ?_
      refine y_goto ?_
      refine jWP.intro (pr := pX11_findBest) (pc := 105) ?_
      have hk := k1 _ (Option.some.inj h).symm
      exact hk
    · replace h := of_pos h h4
      refine jWP.intro (pr := pX11_findBest) (pc := 209) ?_
      refine y_mask <| y_mask <| y_goto ?_
      refine jWP.intro (pr := pX11_findBest) (pc := 105) ?_
      have hk := k1 _ (Option.some.inj h).symm
      exact hk
set_option maxRecDepth 20000 in
theorem tcX11_findBest_20 (d n : Nat) (A : Nat → Nat → Int32) (L : Nat → Nat → Int64) (s : (Int32 × Int32)) {Q : Option Value → jM → Prop} {z : ((Int32 × Int32) ⊕ Int32)} (h : cX11_findBest_20 A L s = some z) (k1 : ∀ s0, z = .inl s0 → pX11_findBest (jEv jtab (d + 6), jWP (jEv jtab (d + 6)) Q ((Sh0 n).length, jsl (Sh0 n)) pX11_findBest, Q, ((Sh0 n).length, jsl (Sh0 n))) 20 [some (.ref 94), some (.int s0.1), some (.int s0.2), none, none, none, none, none, none, none] [] (Sh0 n, A, L)) (k2 : ∀ s0, z = .inr s0 → pX11_findBest (jEv jtab (d + 6), jWP (jEv jtab (d + 6)) Q ((Sh0 n).length, jsl (Sh0 n)) pX11_findBest, Q, ((Sh0 n).length, jsl (Sh0 n))) 41 [some (.ref 94), some (.int s0), none, none, none, none, none, none, none, none] [] (Sh0 n, A, L)) : pX11_findBest (jEv jtab (d + 6), jWP (jEv jtab (d + 6)) Q ((Sh0 n).length, jsl (Sh0 n)) pX11_findBest, Q, ((Sh0 n).length, jsl (Sh0 n))) 20 [some (.ref 94), some (.int s.1), some (.int s.2), none, none, none, none, none, none, none] [] (Sh0 n, A, L) := by
  unfold cX11_findBest_20 at h
  refine y_mask <| x_iload rfl <| x_aload rfl <| x_getI (Nat.le_of_ble_eq_true rfl) rfl rfl <| y_cmp_ge (fun h1 => ?_) (fun h1 => ?_)
  · replace h := of_pos h h1
    refine jWP.intro (pr := pX11_findBest) (pc := 41) ?_
    have hk := k2 _ (Option.some.inj h).symm
    exact hk
  · replace h := of_neg h h1
    refine jWP.intro (pr := pX11_findBest) (pc := 28) ?_
    refine y_mask <| x_iload rfl <| x_aload rfl <| x_getI (Nat.le_of_ble_eq_true rfl) rfl rfl <| x_imul <| x_istore rfl <| x_iinc rfl rfl <| y_mask <| y_goto ?_
    refine jWP.intro (pr := pX11_findBest) (pc := 20) ?_
    have hk := k1 _ (Option.some.inj h).symm
    exact hk
set_option maxRecDepth 20000 in
theorem tjX11_findBest_88_45 (d n : Nat) (A : Nat → Nat → Int32) (L : Nat → Nat → Int64) (l1 : Int32) (l3 : Int32) (l4 : Int64) {Q : Option Value → jM → Prop} {z : ((Int32 × Int32 × (Nat → Nat → Int32) × (Nat → Nat → Int64)) ⊕ ((Nat → Nat → Int32) × (Nat → Nat → Int64)))} (h : jX11_findBest_88_45 A L l1 l3 l4 = some z) (k1 : ∀ s0, z = .inl s0 → pX11_findBest (jEv jtab (d + 6), jWP (jEv jtab (d + 6)) Q ((Sh0 n).length, jsl (Sh0 n)) pX11_findBest, Q, ((Sh0 n).length, jsl (Sh0 n))) 45 [some (.ref 94), some (.int l1), some (.int s0.1), some (.int s0.2.1), none, none, none, none, none, none] [] (Sh0 n, s0.2.2.1, s0.2.2.2)) (k2 : ∀ s0, z = .inr s0 → pX11_findBest (jEv jtab (d + 6), jWP (jEv jtab (d + 6)) Q ((Sh0 n).length, jsl (Sh0 n)) pX11_findBest, Q, ((Sh0 n).length, jsl (Sh0 n))) 102 [none, none, none, none, none, none, none, none, none, none] [] (Sh0 n, s0.1, s0.2)) : pX11_findBest (jEv jtab (d + 6), jWP (jEv jtab (d + 6)) Q ((Sh0 n).length, jsl (Sh0 n)) pX11_findBest, Q, ((Sh0 n).length, jsl (Sh0 n))) 88 [some (.ref 94), some (.int l1), none, some (.int l3), some (.long l4), none, none, none, none, none] [] (Sh0 n, A, L) := by
  unfold jX11_findBest_88_45 at h
  obtain ⟨r1, hc2, h⟩ := of_bind h
  refine y_mask <| x_push <| x_istore rfl <| x_aload rfl <| x_lload rfl <| y_invV1 (Nat.le_of_ble_eq_true rfl) rfl (Nat.le_of_ble_eq_true rfl) <| jEv.exV (kX11_keepRow _ _ _ _ _ hc2) <| y_mask <| y_goto ?_
  refine jWP.intro (pr := pX11_findBest) (pc := 96) ?_
  refine y_mask <| x_iinc rfl rfl <| y_mask <| y_goto ?_
  refine jWP.intro (pr := pX11_findBest) (pc := 45) ?_
  have hk := k1 _ (Option.some.inj h).symm
  exact hk
set_option maxRecDepth 20000 in
theorem tcX11_findBest_45 (d n : Nat) (A : Nat → Nat → Int32) (L : Nat → Nat → Int64) (l1 : Int32) (s : (Int32 × Int32 × (Nat → Nat → Int32) × (Nat → Nat → Int64))) {Q : Option Value → jM → Prop} {z : ((Int32 × Int32 × (Nat → Nat → Int32) × (Nat → Nat → Int64)) ⊕ ((Nat → Nat → Int32) × (Nat → Nat → Int64)))} (h : cX11_findBest_45 l1 s = some z) (k1 : ∀ s0, z = .inl s0 → pX11_findBest (jEv jtab (d + 6), jWP (jEv jtab (d + 6)) Q ((Sh0 n).length, jsl (Sh0 n)) pX11_findBest, Q, ((Sh0 n).length, jsl (Sh0 n))) 45 [some (.ref 94), some (.int l1), some (.int s0.1), some (.int s0.2.1), none, none, none, none, none, none] [] (Sh0 n, s0.2.2.1, s0.2.2.2)) (k2 : ∀ s0, z = .inr s0 → pX11_findBest (jEv jtab (d + 6), jWP (jEv jtab (d + 6)) Q ((Sh0 n).length, jsl (Sh0 n)) pX11_findBest, Q, ((Sh0 n).length, jsl (Sh0 n))) 102 [none, none, none, none, none, none, none, none, none, none] [] (Sh0 n, s0.1, s0.2)) : pX11_findBest (jEv jtab (d + 6), jWP (jEv jtab (d + 6)) Q ((Sh0 n).length, jsl (Sh0 n)) pX11_findBest, Q, ((Sh0 n).length, jsl (Sh0 n))) 45 [some (.ref 94), some (.int l1), some (.int s.1), some (.int s.2.1), none, none, none, none, none, none] [] (Sh0 n, s.2.2.1, s.2.2.2) := by
  unfold cX11_findBest_45 at h
  refine y_mask <| x_iload rfl <| x_iload rfl <| y_cmp_ge (fun h1 => ?_) (fun h1 => ?_)
  · replace h := of_pos h h1
    refine jWP.intro (pr := pX11_findBest) (pc := 102) ?_
    have hk := k2 _ (Option.some.inj h).symm
    exact hk
  · replace h := of_neg h h1
    refine jWP.intro (pr := pX11_findBest) (pc := 50) ?_
    obtain ⟨r2, hc3, h⟩ := of_bind h
    refine y_mask <| x_aload rfl <| x_iload rfl <| x_aload rfl <| x_getI (Nat.le_of_ble_eq_true rfl) rfl rfl <| y_invV2 (Nat.le_of_ble_eq_true rfl) rfl (Nat.le_of_ble_eq_true rfl) <| jEv.exZ (q := 206) rfl (kX11_rowBy _ _ _ _ _ _ hc3) <| fun hz4 => y_if_ne (fun h5 => ?_) (fun h5 => ?_)
    · replace h := of_neg h h5
      refine jWP.intro (pr := pX11_findBest) (pc := 65) ?_
      obtain ⟨r6, hc7, h⟩ := of_bind h
      refine y_mask <| x_aload rfl <| y_invV0 (Nat.le_of_ble_eq_true rfl) rfl (Nat.le_of_ble_eq_true rfl) <| jEv.exL (kX11_worthOf _ _ _ _ hc7) <| x_lstore rfl <| x_iload rfl <| y_if_eq (fun h8 => ?_) (fun h8 => ?_)
      · replace h := of_pos h h8
        refine jWP.intro (pr := pX11_findBest) (pc := 88) ?_
        exact tjX11_findBest_88_45 d n r6.2.1 r6.2.2 l1 s.2.1 r6.1 h k1 k2
      · replace h := of_neg h h8
        refine jWP.intro (pr := pX11_findBest) (pc := 75) ?_
        refine y_mask <| x_lload rfl <| x_aload rfl <| x_getL (Nat.le_of_ble_eq_true rfl) rfl rfl <| x_lcmp <| y_if_gt (fun h9 => ?_) (fun h9 => ?_)
        · replace h := of_pos h h9
          refine jWP.intro (pr := pX11_findBest) (pc := 88) ?_
          exact tjX11_findBest_88_45 d n r6.2.1 r6.2.2 l1 s.2.1 r6.1 h k1 k2
        · replace h := of_neg h h9
          refine jWP.intro (pr := pX11_findBest) (pc := 85) ?_
          refine y_mask <| y_mask <| y_goto ?_
          refine jWP.intro (pr := pX11_findBest) (pc := 96) ?_
          refine y_mask <| x_iinc rfl rfl <| y_mask <| y_goto ?_
          refine jWP.intro (pr := pX11_findBest) (pc := 45) ?_
          have hk := k1 _ (Option.some.inj h).symm
          exact hk
    · replace h := of_pos h h5
      refine jWP.intro (pr := pX11_findBest) (pc := 62) ?_
      refine y_mask <| y_mask <| y_goto ?_
      refine jWP.intro (pr := pX11_findBest) (pc := 96) ?_
      refine y_mask <| x_iinc rfl rfl <| y_mask <| y_goto ?_
      refine jWP.intro (pr := pX11_findBest) (pc := 45) ?_
      have hk := k1 _ (Option.some.inj h).symm
      exact hk
set_option maxRecDepth 20000 in
theorem tfX11_findBest (d n : Nat) (A : Nat → Nat → Int32) (L : Nat → Nat → Int64) {Q : Option Value → jM → Prop} {z : ((Nat → Nat → Int32) × (Nat → Nat → Int64))} (h : fX11_findBest A L = some z) (k3 : Q (none) (Sh0 n, z.1, z.2)) : pX11_findBest (jEv jtab (d + 6), jWP (jEv jtab (d + 6)) Q ((Sh0 n).length, jsl (Sh0 n)) pX11_findBest, Q, ((Sh0 n).length, jsl (Sh0 n))) 0 [some (.ref 94), none, none, none, none, none, none, none, none, none] [] (Sh0 n, A, L) := by
  unfold fX11_findBest at h
  obtain ⟨r1, hc2, h⟩ := of_bind h
  obtain ⟨r3, hc4, h⟩ := of_bind h
  show bX11_findBest_0 _ _ _ _
  unfold bX11_findBest_0
  refine y_mask ?_
  refine x_aload rfl ?_
  refine x_aload rfl ?_
  refine y_invV0 (Nat.le_of_ble_eq_true rfl) rfl (Nat.le_of_ble_eq_true rfl) ?_
  refine jEv.exL (kX11_worthOfAll _ _ _ _ hc2) ?_
  refine y_invV1 (Nat.le_of_ble_eq_true rfl) rfl (Nat.le_of_ble_eq_true rfl) ?_
  refine jEv.exV (kX11_keepRow _ _ _ _ _ hc4) ?_
  refine x_aload rfl ?_
  refine x_getI (Nat.le_of_ble_eq_true rfl) rfl rfl ?_
  refine x_push ?_
  refine y_cmp_gt (fun h5 => ?_) (fun h5 => ?_)
  · replace h := of_pos h h5
    refine jWP.intro (pr := pX11_findBest) (pc := 103) ?_
    refine y_mask <| x_push <| x_istore rfl <| y_mask <| y_goto ?_
    obtain ⟨e6, hw7, h⟩ := of_bind h
    refine jWP.intro (pr := pX11_findBest) (pc := 105) ?_
    refine jwh_use (G := (fun s0 => pX11_findBest (jEv jtab (d + 6), jWP (jEv jtab (d + 6)) Q ((Sh0 n).length, jsl (Sh0 n)) pX11_findBest, Q, ((Sh0 n).length, jsl (Sh0 n))) 105 [some (.ref 94), some (.int s0.1), none, none, none, none, none, none, none, none] [] (Sh0 n, s0.2.1, s0.2.2))) (Gx := (fun s0 => pX11_findBest (jEv jtab (d + 6), jWP (jEv jtab (d + 6)) Q ((Sh0 n).length, jsl (Sh0 n)) pX11_findBest, Q, ((Sh0 n).length, jsl (Sh0 n))) 227 [none, none, none, none, none, none, none, none, none, none] [] (Sh0 n, s0.1, s0.2))) (fun s1 z1 hz kk1 kk2 => tcX11_findBest_105 d n r3.1 r3.2 s1 hz kk1 kk2) hw7 ?_
    refine y_mrv (bs := []) (ls := []) ?_
    obtain rfl := Option.some.inj h
    exact k3
  · replace h := of_neg h h5
    refine jWP.intro (pr := pX11_findBest) (pc := 16) ?_
    refine y_mask <| x_push <| x_istore rfl <| x_push <| x_istore rfl <| y_mask <| y_goto ?_
    obtain ⟨e8, hw9, h⟩ := of_bind h
    refine jWP.intro (pr := pX11_findBest) (pc := 20) ?_
    refine jwh_use (G := (fun s0 => pX11_findBest (jEv jtab (d + 6), jWP (jEv jtab (d + 6)) Q ((Sh0 n).length, jsl (Sh0 n)) pX11_findBest, Q, ((Sh0 n).length, jsl (Sh0 n))) 20 [some (.ref 94), some (.int s0.1), some (.int s0.2), none, none, none, none, none, none, none] [] (Sh0 n, r3.1, r3.2))) (Gx := (fun s0 => pX11_findBest (jEv jtab (d + 6), jWP (jEv jtab (d + 6)) Q ((Sh0 n).length, jsl (Sh0 n)) pX11_findBest, Q, ((Sh0 n).length, jsl (Sh0 n))) 41 [some (.ref 94), some (.int s0), none, none, none, none, none, none, none, none] [] (Sh0 n, r3.1, r3.2))) (fun s1 z1 hz kk1 kk2 => tcX11_findBest_20 d n r3.1 r3.2 s1 hz kk1 kk2) hw9 ?_
    refine y_mask <| x_push <| x_istore rfl <| x_push <| x_istore rfl <| y_mask <| y_goto ?_
    obtain ⟨e10, hw11, h⟩ := of_bind h
    refine jWP.intro (pr := pX11_findBest) (pc := 45) ?_
    refine jwh_use (G := (fun s0 => pX11_findBest (jEv jtab (d + 6), jWP (jEv jtab (d + 6)) Q ((Sh0 n).length, jsl (Sh0 n)) pX11_findBest, Q, ((Sh0 n).length, jsl (Sh0 n))) 45 [some (.ref 94), some (.int e8), some (.int s0.1), some (.int s0.2.1), none, none, none, none, none, none] [] (Sh0 n, s0.2.2.1, s0.2.2.2))) (Gx := (fun s0 => pX11_findBest (jEv jtab (d + 6), jWP (jEv jtab (d + 6)) Q ((Sh0 n).length, jsl (Sh0 n)) pX11_findBest, Q, ((Sh0 n).length, jsl (Sh0 n))) 102 [none, none, none, none, none, none, none, none, none, none] [] (Sh0 n, s0.1, s0.2))) (fun s1 z1 hz kk1 kk2 => tcX11_findBest_45 d n r3.1 r3.2 e8 s1 hz kk1 kk2) hw11 ?_
    refine y_mrv (bs := []) (ls := []) ?_
    obtain rfl := Option.some.inj h
    exact k3
theorem kX11_findBest (d n : Nat) (A : Nat → Nat → Int32) (L : Nat → Nat → Int64) {z : ((Nat → Nat → Int32) × (Nat → Nat → Int64))} (h : fX11_findBest A L = some z) : jEv jtab (d + 7) 208 [.ref 94] (Sh0 n, A, L) 0 0 (fun r M2 => r = none ∧ M2 = (Sh0 n, z.1, z.2)) :=
  jEv.mk (mt := mX11_findBest) rfl (Nat.le_of_ble_eq_true rfl) (jWP.intro (pr := pX11_findBest) (pc := 0) (tfX11_findBest d n A L h ⟨trivial, jCn.mk ⟨rfl, rfl⟩⟩))
set_option maxRecDepth 20000 in
theorem tcX11_best_51 (d n : Nat) (A : Nat → Nat → Int32) (L : Nat → Nat → Int64) (s : (Int64 × Int32)) {Q : Option Value → jM → Prop} {z : ((Int64 × Int32) ⊕ Int64)} (h : cX11_best_51 A L s = some z) (k1 : ∀ s0, z = .inl s0 → pX11_best (jEv jtab (d + 7), jWP (jEv jtab (d + 7)) Q ((Sh0 n).length, jsl (Sh0 n)) pX11_best, Q, ((Sh0 n).length, jsl (Sh0 n))) 51 [some (.ref 94), none, none, none, some (.long s0.1), none, some (.int s0.2)] [] (Sh0 n, A, L)) (k2 : ∀ s0, z = .inr s0 → pX11_best (jEv jtab (d + 7), jWP (jEv jtab (d + 7)) Q ((Sh0 n).length, jsl (Sh0 n)) pX11_best, Q, ((Sh0 n).length, jsl (Sh0 n))) 85 [none, none, none, none, some (.long s0), none, none] [] (Sh0 n, A, L)) : pX11_best (jEv jtab (d + 7), jWP (jEv jtab (d + 7)) Q ((Sh0 n).length, jsl (Sh0 n)) pX11_best, Q, ((Sh0 n).length, jsl (Sh0 n))) 51 [some (.ref 94), none, none, none, some (.long s.1), none, some (.int s.2)] [] (Sh0 n, A, L) := by
  unfold cX11_best_51 at h
  refine y_mask <| x_iload rfl <| x_aload rfl <| x_getI (Nat.le_of_ble_eq_true rfl) rfl rfl <| y_cmp_ge (fun h1 => ?_) (fun h1 => ?_)
  · replace h := of_pos h h1
    refine jWP.intro (pr := pX11_best) (pc := 85) ?_
    have hk := k2 _ (Option.some.inj h).symm
    exact hk
  · replace h := of_neg h h1
    refine jWP.intro (pr := pX11_best) (pc := 60) ?_
    obtain ⟨g2, h⟩ := of_guard h
    show bX11_best_60 _ _ _ _
    unfold bX11_best_60
    refine y_mask ?_
    refine x_push ?_
    refine x_lload rfl ?_
    refine x_lmul ?_
    refine x_aload rfl ?_
    refine x_getR (Nat.le_of_ble_eq_true rfl) rfl rfl ?_
    refine x_iload rfl ?_
    refine x_iald rfl g2 ?_
    refine x_i2l ?_
    refine x_ladd ?_
    refine x_push ?_
    refine x_ladd ?_
    refine x_lstore rfl ?_
    refine x_iinc rfl rfl ?_
    refine y_mask ?_
    refine y_goto ?_
    refine jWP.intro (pr := pX11_best) (pc := 51) ?_
    have hk := k1 _ (Option.some.inj h).symm
    exact hk
set_option maxRecDepth 20000 in
theorem tfX11_best (d n : Nat) (A : Nat → Nat → Int32) (L : Nat → Nat → Int64) (l1 : Int32) {Q : Option Value → jM → Prop} {z : (Int64 × (Nat → Nat → Int32) × (Nat → Nat → Int64))} (h : fX11_best A L l1 = some z) (k3 : Q (some (.long z.1)) (Sh0 n, z.2.1, z.2.2)) : pX11_best (jEv jtab (d + 7), jWP (jEv jtab (d + 7)) Q ((Sh0 n).length, jsl (Sh0 n)) pX11_best, Q, ((Sh0 n).length, jsl (Sh0 n))) 0 [some (.ref 94), some (.int l1), none, none, none, none, none] [] (Sh0 n, A, L) := by
  unfold fX11_best at h
  refine y_mask <| x_iload rfl <| x_push <| x_push <| y_invS3 (Nat.le_of_ble_eq_true rfl) <| jEv.exZ (q := 159) rfl (kX11_in _ _ _ _ _ _ _) <| fun hz1 => y_if_ne (fun h2 => ?_) (fun h2 => ?_)
  · replace h := of_neg h h2
    refine jWP.intro (pr := pX11_best) (pc := 13) ?_
    obtain ⟨r3, hc4, h⟩ := of_bind h
    obtain ⟨r5, hc6, h⟩ := of_bind h
    show bX11_best_13 _ _ _ _
    unfold bX11_best_13
    refine y_mask ?_
    refine x_aload rfl ?_
    refine y_invV0 (Nat.le_of_ble_eq_true rfl) rfl (Nat.le_of_ble_eq_true rfl) ?_
    refine jEv.exL (kX11_worthOfAll _ _ _ _ hc4) ?_
    refine x_lstore rfl ?_
    refine x_aload rfl ?_
    refine y_invV0 (Nat.le_of_ble_eq_true rfl) rfl (Nat.le_of_ble_eq_true rfl) ?_
    refine jEv.exV (kX11_findBest _ _ _ _ hc6) ?_
    refine x_iload rfl ?_
    refine y_if_le (fun h7 => ?_) (fun h7 => ?_)
    · replace h := of_pos h h7
      refine jWP.intro (pr := pX11_best) (pc := 45) ?_
      refine y_mask <| x_push <| x_lstore rfl <| x_push <| x_istore rfl <| y_mask <| y_goto ?_
      obtain ⟨e8, hw9, h⟩ := of_bind h
      refine jWP.intro (pr := pX11_best) (pc := 51) ?_
      refine jwh_use (G := (fun s0 => pX11_best (jEv jtab (d + 7), jWP (jEv jtab (d + 7)) Q ((Sh0 n).length, jsl (Sh0 n)) pX11_best, Q, ((Sh0 n).length, jsl (Sh0 n))) 51 [some (.ref 94), none, none, none, some (.long s0.1), none, some (.int s0.2)] [] (Sh0 n, r5.1, r5.2))) (Gx := (fun s0 => pX11_best (jEv jtab (d + 7), jWP (jEv jtab (d + 7)) Q ((Sh0 n).length, jsl (Sh0 n)) pX11_best, Q, ((Sh0 n).length, jsl (Sh0 n))) 85 [none, none, none, none, some (.long s0), none, none] [] (Sh0 n, r5.1, r5.2))) (fun s1 z1 hz kk1 kk2 => tcX11_best_51 d n r5.1 r5.2 s1 hz kk1 kk2) hw9 ?_
      refine y_mask <| x_lload rfl <| y_lreturn (ls := [none, none, none, none, some (.long e8), none, none]) ?_
      obtain rfl := Option.some.inj h
      exact k3
    · replace h := of_neg h h7
      refine jWP.intro (pr := pX11_best) (pc := 26) ?_
      refine y_mask <| x_iload rfl <| x_push <| y_cmp_ne (fun h10 => ?_) (fun h10 => ?_)
      · replace h := of_neg h h10
        refine jWP.intro (pr := pX11_best) (pc := 38) ?_
        refine y_mask <| x_aload rfl <| x_getL (Nat.le_of_ble_eq_true rfl) rfl rfl <| x_lload rfl <| x_lsub <| y_mask <| y_goto ?_
        refine jWP.intro (pr := pX11_best) (pc := 44) ?_
        refine y_mrl (bs := []) (ls := []) ?_
        obtain rfl := Option.some.inj h
        exact k3
      · replace h := of_pos h h10
        refine jWP.intro (pr := pX11_best) (pc := 31) ?_
        refine y_mask <| x_aload rfl <| x_getL (Nat.le_of_ble_eq_true rfl) rfl rfl <| y_mask <| y_goto ?_
        refine jWP.intro (pr := pX11_best) (pc := 44) ?_
        refine y_mrl (bs := []) (ls := []) ?_
        obtain rfl := Option.some.inj h
        exact k3
  · replace h := of_pos h h2
    refine jWP.intro (pr := pX11_best) (pc := 9) ?_
    refine y_mprl (bs := []) (ls := []) ?_
    obtain rfl := Option.some.inj h
    exact k3
theorem kX11_best (d n : Nat) (A : Nat → Nat → Int32) (L : Nat → Nat → Int64) (l1 : Int32) {z : (Int64 × (Nat → Nat → Int32) × (Nat → Nat → Int64))} (h : fX11_best A L l1 = some z) : jEv jtab (d + 8) 209 [.ref 94, .int l1] (Sh0 n, A, L) 0 0 (fun r M2 => r = some (.long z.1) ∧ M2 = (Sh0 n, z.2.1, z.2.2)) :=
  jEv.mk (mt := mX11_best) rfl (Nat.le_of_ble_eq_true rfl) (jWP.intro (pr := pX11_best) (pc := 0) (tfX11_best d n A L l1 h ⟨trivial, jCn.mk ⟨rfl, rfl⟩⟩))
set_option maxRecDepth 20000 in
theorem tcX11_side_16 (d n : Nat) (A : Nat → Nat → Int32) (L : Nat → Nat → Int64) (l1 : Int32) (s : (Int32 × Int64 × Int32 × (Nat → Nat → Int32) × (Nat → Nat → Int64))) {Q : Option Value → jM → Prop} {z : ((Int32 × Int64 × Int32 × (Nat → Nat → Int32) × (Nat → Nat → Int64)) ⊕ (Int32 × (Nat → Nat → Int32) × (Nat → Nat → Int64)))} (h : cX11_side_16 l1 s = some z) (k1 : ∀ s0, z = .inl s0 → pX11_side (jEv jtab (d + 6), jWP (jEv jtab (d + 6)) Q ((Sh0 n).length, jsl (Sh0 n)) pX11_side, Q, ((Sh0 n).length, jsl (Sh0 n))) 16 [some (.ref 94), some (.int l1), some (.int s0.1), some (.long s0.2.1), none, some (.int s0.2.2.1), none, none] [] (Sh0 n, s0.2.2.2.1, s0.2.2.2.2)) (k2 : ∀ s0, z = .inr s0 → pX11_side (jEv jtab (d + 6), jWP (jEv jtab (d + 6)) Q ((Sh0 n).length, jsl (Sh0 n)) pX11_side, Q, ((Sh0 n).length, jsl (Sh0 n))) 59 [some (.ref 94), some (.int l1), some (.int s0.1), none, none, none, none, none] [] (Sh0 n, s0.2.1, s0.2.2)) : pX11_side (jEv jtab (d + 6), jWP (jEv jtab (d + 6)) Q ((Sh0 n).length, jsl (Sh0 n)) pX11_side, Q, ((Sh0 n).length, jsl (Sh0 n))) 16 [some (.ref 94), some (.int l1), some (.int s.1), some (.long s.2.1), none, some (.int s.2.2.1), none, none] [] (Sh0 n, s.2.2.2.1, s.2.2.2.2) := by
  unfold cX11_side_16 at h
  refine y_mask <| x_iload rfl <| x_push <| y_cmp_gt (fun h1 => ?_) (fun h1 => ?_)
  · replace h := of_pos h h1
    refine jWP.intro (pr := pX11_side) (pc := 59) ?_
    have hk := k2 _ (Option.some.inj h).symm
    exact hk
  · replace h := of_neg h h1
    refine jWP.intro (pr := pX11_side) (pc := 23) ?_
    obtain ⟨m2, hm3, h⟩ := of_bind h
    obtain ⟨r4, hc5, h⟩ := of_bind h
    show bX11_side_23 _ _ _ _
    unfold bX11_side_23
    refine y_mask ?_
    refine x_aload rfl ?_
    refine x_getR (Nat.le_of_ble_eq_true rfl) rfl rfl ?_
    refine x_push ?_
    refine x_iload rfl ?_
    refine x_iast (Nat.le_of_ble_eq_true rfl) rfl (by unfold vp_in; decide) ?_
    refine y_let (Option.some.inj hm3) ?_
    refine x_aload rfl ?_
    refine y_invV0 (Nat.le_of_ble_eq_true rfl) rfl (Nat.le_of_ble_eq_true rfl) ?_
    refine jEv.exL (kX11_worthOfAll _ _ _ _ hc5) ?_
    refine x_lstore rfl ?_
    refine x_lload rfl ?_
    refine x_lload rfl ?_
    refine x_lcmp ?_
    refine y_if_gt (fun h6 => ?_) (fun h6 => ?_)
    · replace h := of_pos h h6
      refine jWP.intro (pr := pX11_side) (pc := 47) ?_
      refine y_mask <| x_iload rfl <| x_istore rfl <| x_lload rfl <| x_lstore rfl <| y_mask <| y_goto ?_
      refine jWP.intro (pr := pX11_side) (pc := 53) ?_
      refine y_mask <| x_iinc rfl rfl <| y_mask <| y_goto ?_
      refine jWP.intro (pr := pX11_side) (pc := 16) ?_
      have hk := k1 _ (Option.some.inj h).symm
      exact hk
    · replace h := of_neg h h6
      refine jWP.intro (pr := pX11_side) (pc := 44) ?_
      refine y_mask <| y_mask <| y_goto ?_
      refine jWP.intro (pr := pX11_side) (pc := 53) ?_
      refine y_mask <| x_iinc rfl rfl <| y_mask <| y_goto ?_
      refine jWP.intro (pr := pX11_side) (pc := 16) ?_
      have hk := k1 _ (Option.some.inj h).symm
      exact hk
set_option maxRecDepth 20000 in
theorem tfX11_side (d n : Nat) (A : Nat → Nat → Int32) (L : Nat → Nat → Int64) {Q : Option Value → jM → Prop} {z : (Int32 × (Nat → Nat → Int32) × (Nat → Nat → Int64))} (h : fX11_side A L = some z) (k3 : Q (some (.int z.1)) (Sh0 n, z.2.1, z.2.2)) : pX11_side (jEv jtab (d + 6), jWP (jEv jtab (d + 6)) Q ((Sh0 n).length, jsl (Sh0 n)) pX11_side, Q, ((Sh0 n).length, jsl (Sh0 n))) 0 [some (.ref 94), none, none, none, none, none, none, none] [] (Sh0 n, A, L) := by
  unfold fX11_side at h
  show bX11_side_0 _ _ _ _
  unfold bX11_side_0
  refine y_mask ?_
  refine x_aload rfl ?_
  refine x_getR (Nat.le_of_ble_eq_true rfl) rfl rfl ?_
  refine x_push ?_
  refine x_iald rfl (by unfold vp_in; decide) ?_
  refine x_istore rfl ?_
  refine x_push ?_
  refine x_istore rfl ?_
  refine x_push ?_
  refine x_lstore rfl ?_
  refine x_push ?_
  refine x_istore rfl ?_
  refine y_mask ?_
  refine y_goto ?_
  obtain ⟨e1, hw2, h⟩ := of_bind h
  refine jWP.intro (pr := pX11_side) (pc := 16) ?_
  refine jwh_use (G := (fun s0 => pX11_side (jEv jtab (d + 6), jWP (jEv jtab (d + 6)) Q ((Sh0 n).length, jsl (Sh0 n)) pX11_side, Q, ((Sh0 n).length, jsl (Sh0 n))) 16 [some (.ref 94), some (.int (A 95 0)), some (.int s0.1), some (.long s0.2.1), none, some (.int s0.2.2.1), none, none] [] (Sh0 n, s0.2.2.2.1, s0.2.2.2.2))) (Gx := (fun s0 => pX11_side (jEv jtab (d + 6), jWP (jEv jtab (d + 6)) Q ((Sh0 n).length, jsl (Sh0 n)) pX11_side, Q, ((Sh0 n).length, jsl (Sh0 n))) 59 [some (.ref 94), some (.int (A 95 0)), some (.int s0.1), none, none, none, none, none] [] (Sh0 n, s0.2.1, s0.2.2))) (fun s1 z1 hz kk1 kk2 => tcX11_side_16 d n A L (A 95 0) s1 hz kk1 kk2) hw2 ?_
  obtain ⟨m3, hm4, h⟩ := of_bind h
  refine y_mask <| x_aload rfl <| x_getR (Nat.le_of_ble_eq_true rfl) rfl rfl <| x_push <| x_iload rfl <| x_iast (Nat.le_of_ble_eq_true rfl) rfl (by unfold vp_in; decide) <| y_let (Option.some.inj hm4) <| x_iload rfl <| y_ireturn (ls := [some (.ref 94), some (.int (A 95 0)), some (.int e1.1), none, none, none, none, none]) ?_
  obtain rfl := Option.some.inj h
  exact k3
theorem kX11_side (d n : Nat) (A : Nat → Nat → Int32) (L : Nat → Nat → Int64) {z : (Int32 × (Nat → Nat → Int32) × (Nat → Nat → Int64))} (h : fX11_side A L = some z) : jEv jtab (d + 7) 210 [.ref 94] (Sh0 n, A, L) 0 0 (fun r M2 => r = some (.int z.1) ∧ M2 = (Sh0 n, z.2.1, z.2.2)) :=
  jEv.mk (mt := mX11_side) rfl (Nat.le_of_ble_eq_true rfl) (jWP.intro (pr := pX11_side) (pc := 0) (tfX11_side d n A L h ⟨trivial, jCn.mk ⟨rfl, rfl⟩⟩))
set_option maxRecDepth 20000 in
theorem tcX11_leave_27 (d n : Nat) (A : Nat → Nat → Int32) (L : Nat → Nat → Int64) (l1 : Int64) (l3 : Int32) (l4 : Int32) (s : (Int32 × (Nat → Nat → Int32))) {Q : Option Value → jM → Prop} {z : ((Int32 × (Nat → Nat → Int32)) ⊕ (Nat → Nat → Int32))} (h : cX11_leave_27 L l1 l3 l4 s = some z) (k1 : ∀ s0, z = .inl s0 → pX11_leave (jEv jtab (d + 6), jWP (jEv jtab (d + 6)) Q ((Sh0 n).length, jsl (Sh0 n)) pX11_leave, Q, ((Sh0 n).length, jsl (Sh0 n))) 27 [some (.ref 94), some (.long l1), none, some (.int l3), some (.int l4), some (.int s0.1), none] [] (Sh0 n, s0.2, L)) (k2 : ∀ s0, z = .inr s0 → pX11_leave (jEv jtab (d + 6), jWP (jEv jtab (d + 6)) Q ((Sh0 n).length, jsl (Sh0 n)) pX11_leave, Q, ((Sh0 n).length, jsl (Sh0 n))) 73 [some (.ref 94), some (.long l1), none, some (.int l3), some (.int l4), none, none] [] (Sh0 n, s0, L)) : pX11_leave (jEv jtab (d + 6), jWP (jEv jtab (d + 6)) Q ((Sh0 n).length, jsl (Sh0 n)) pX11_leave, Q, ((Sh0 n).length, jsl (Sh0 n))) 27 [some (.ref 94), some (.long l1), none, some (.int l3), some (.int l4), some (.int s.1), none] [] (Sh0 n, s.2, L) := by
  unfold cX11_leave_27 at h
  refine y_mask <| x_iload rfl <| x_aload rfl <| x_getI (Nat.le_of_ble_eq_true rfl) rfl rfl <| y_cmp_ge (fun h1 => ?_) (fun h1 => ?_)
  · replace h := of_pos h h1
    refine jWP.intro (pr := pX11_leave) (pc := 73) ?_
    have hk := k2 _ (Option.some.inj h).symm
    exact hk
  · replace h := of_neg h h1
    refine jWP.intro (pr := pX11_leave) (pc := 36) ?_
    refine y_mask <| x_iload rfl <| x_iload rfl <| y_cmp_ne (fun h2 => ?_) (fun h2 => ?_)
    · replace h := of_neg h h2
      refine jWP.intro (pr := pX11_leave) (pc := 46) ?_
      obtain ⟨g3, h⟩ := of_guard h
      obtain ⟨m4, hm5, h⟩ := of_bind h
      show bX11_leave_46 _ _ _ _
      unfold bX11_leave_46
      refine y_mask ?_
      refine x_aload rfl ?_
      refine x_getR (Nat.le_of_ble_eq_true rfl) rfl rfl ?_
      refine x_aload rfl ?_
      refine x_getI (Nat.le_of_ble_eq_true rfl) rfl rfl ?_
      refine x_iload rfl ?_
      refine x_iast (Nat.le_of_ble_eq_true rfl) rfl g3 ?_
      refine y_let (Option.some.inj hm5) ?_
      refine x_aload rfl ?_
      refine x_dup rfl ?_
      refine x_getI (Nat.le_of_ble_eq_true rfl) rfl rfl ?_
      refine x_push ?_
      refine x_iadd ?_
      refine x_putI (Nat.le_of_ble_eq_true rfl) rfl rfl ?_
      refine y_mask ?_
      refine y_goto ?_
      refine jWP.intro (pr := pX11_leave) (pc := 67) ?_
      refine y_mask <| x_iinc rfl rfl <| y_mask <| y_goto ?_
      refine jWP.intro (pr := pX11_leave) (pc := 27) ?_
      have hk := k1 _ (Option.some.inj h).symm
      exact hk
    · replace h := of_pos h h2
      refine jWP.intro (pr := pX11_leave) (pc := 43) ?_
      refine y_mask <| y_mask <| y_goto ?_
      refine jWP.intro (pr := pX11_leave) (pc := 67) ?_
      refine y_mask <| x_iinc rfl rfl <| y_mask <| y_goto ?_
      refine jWP.intro (pr := pX11_leave) (pc := 27) ?_
      have hk := k1 _ (Option.some.inj h).symm
      exact hk
set_option maxRecDepth 20000 in
theorem tjX11_leave_103_10 (d n : Nat) (A : Nat → Nat → Int32) (L : Nat → Nat → Int64) (l4 : Int32) (l5 : Int64) {Q : Option Value → jM → Prop} {z : ((Int64 × Int32 × Int32 × (Nat → Nat → Int32) × (Nat → Nat → Int64)) ⊕ (Int32 × (Nat → Nat → Int32) × (Nat → Nat → Int64)))} (h : jX11_leave_103_10 A L l4 l5 = some z) (k1 : ∀ s0, z = .inl s0 → pX11_leave (jEv jtab (d + 6), jWP (jEv jtab (d + 6)) Q ((Sh0 n).length, jsl (Sh0 n)) pX11_leave, Q, ((Sh0 n).length, jsl (Sh0 n))) 10 [some (.ref 94), some (.long s0.1), none, some (.int s0.2.1), some (.int s0.2.2.1), none, none] [] (Sh0 n, s0.2.2.2.1, s0.2.2.2.2)) (k2 : ∀ s0, z = .inr s0 → pX11_leave (jEv jtab (d + 6), jWP (jEv jtab (d + 6)) Q ((Sh0 n).length, jsl (Sh0 n)) pX11_leave, Q, ((Sh0 n).length, jsl (Sh0 n))) 115 [none, none, none, some (.int s0.1), none, none, none] [] (Sh0 n, s0.2.1, s0.2.2)) : pX11_leave (jEv jtab (d + 6), jWP (jEv jtab (d + 6)) Q ((Sh0 n).length, jsl (Sh0 n)) pX11_leave, Q, ((Sh0 n).length, jsl (Sh0 n))) 103 [some (.ref 94), none, none, none, some (.int l4), some (.long l5), none] [] (Sh0 n, A, L) := by
  unfold jX11_leave_103_10 at h
  refine y_mask <| x_iload rfl <| x_istore rfl <| x_lload rfl <| x_lstore rfl <| y_mask <| y_goto ?_
  refine jWP.intro (pr := pX11_leave) (pc := 109) ?_
  refine y_mask <| x_iinc rfl rfl <| y_mask <| y_goto ?_
  refine jWP.intro (pr := pX11_leave) (pc := 10) ?_
  have hk := k1 _ (Option.some.inj h).symm
  exact hk
set_option maxRecDepth 20000 in
theorem tcX11_leave_10 (d n : Nat) (A : Nat → Nat → Int32) (L : Nat → Nat → Int64) (s : (Int64 × Int32 × Int32 × (Nat → Nat → Int32) × (Nat → Nat → Int64))) {Q : Option Value → jM → Prop} {z : ((Int64 × Int32 × Int32 × (Nat → Nat → Int32) × (Nat → Nat → Int64)) ⊕ (Int32 × (Nat → Nat → Int32) × (Nat → Nat → Int64)))} (h : cX11_leave_10 s = some z) (k1 : ∀ s0, z = .inl s0 → pX11_leave (jEv jtab (d + 6), jWP (jEv jtab (d + 6)) Q ((Sh0 n).length, jsl (Sh0 n)) pX11_leave, Q, ((Sh0 n).length, jsl (Sh0 n))) 10 [some (.ref 94), some (.long s0.1), none, some (.int s0.2.1), some (.int s0.2.2.1), none, none] [] (Sh0 n, s0.2.2.2.1, s0.2.2.2.2)) (k2 : ∀ s0, z = .inr s0 → pX11_leave (jEv jtab (d + 6), jWP (jEv jtab (d + 6)) Q ((Sh0 n).length, jsl (Sh0 n)) pX11_leave, Q, ((Sh0 n).length, jsl (Sh0 n))) 115 [none, none, none, some (.int s0.1), none, none, none] [] (Sh0 n, s0.2.1, s0.2.2)) : pX11_leave (jEv jtab (d + 6), jWP (jEv jtab (d + 6)) Q ((Sh0 n).length, jsl (Sh0 n)) pX11_leave, Q, ((Sh0 n).length, jsl (Sh0 n))) 10 [some (.ref 94), some (.long s.1), none, some (.int s.2.1), some (.int s.2.2.1), none, none] [] (Sh0 n, s.2.2.2.1, s.2.2.2.2) := by
  unfold cX11_leave_10 at h
  refine y_mask <| x_iload rfl <| x_aload rfl <| x_getI (Nat.le_of_ble_eq_true rfl) rfl rfl <| y_cmp_ge (fun h1 => ?_) (fun h1 => ?_)
  · replace h := of_pos h h1
    refine jWP.intro (pr := pX11_leave) (pc := 115) ?_
    have hk := k2 _ (Option.some.inj h).symm
    exact hk
  · replace h := of_neg h h1
    refine jWP.intro (pr := pX11_leave) (pc := 19) ?_
    refine y_mask <| x_aload rfl <| x_push <| x_putI (Nat.le_of_ble_eq_true rfl) rfl rfl <| x_push <| x_istore rfl <| y_mask <| y_goto ?_
    obtain ⟨e2, hw3, h⟩ := of_bind h
    refine jWP.intro (pr := pX11_leave) (pc := 27) ?_
    refine jwh_use (G := (fun s0 => pX11_leave (jEv jtab (d + 6), jWP (jEv jtab (d + 6)) Q ((Sh0 n).length, jsl (Sh0 n)) pX11_leave, Q, ((Sh0 n).length, jsl (Sh0 n))) 27 [some (.ref 94), some (.long s.1), none, some (.int s.2.1), some (.int s.2.2.1), some (.int s0.1), none] [] (Sh0 n, s0.2, s.2.2.2.2))) (Gx := (fun s0 => pX11_leave (jEv jtab (d + 6), jWP (jEv jtab (d + 6)) Q ((Sh0 n).length, jsl (Sh0 n)) pX11_leave, Q, ((Sh0 n).length, jsl (Sh0 n))) 73 [some (.ref 94), some (.long s.1), none, some (.int s.2.1), some (.int s.2.2.1), none, none] [] (Sh0 n, s0, s.2.2.2.2))) (fun s1 z1 hz kk1 kk2 => tcX11_leave_27 d n (va_up s.2.2.2.1 94 (upd (s.2.2.2.1 94) 25 (0 : Int32))) s.2.2.2.2 s.1 s.2.1 s.2.2.1 s1 hz kk1 kk2) hw3 ?_
    obtain ⟨r4, hc5, h⟩ := of_bind h
    refine y_mask <| x_aload rfl <| y_invV0 (Nat.le_of_ble_eq_true rfl) rfl (Nat.le_of_ble_eq_true rfl) <| jEv.exL (kX11_worthOf _ _ _ _ hc5) <| x_lstore rfl <| x_iload rfl <| y_if_ge (fun h6 => ?_) (fun h6 => ?_)
    · replace h := of_pos h h6
      refine jWP.intro (pr := pX11_leave) (pc := 93) ?_
      refine y_mask <| x_lload rfl <| x_lload rfl <| x_lcmp <| y_if_gt (fun h7 => ?_) (fun h7 => ?_)
      · replace h := of_pos h h7
        refine jWP.intro (pr := pX11_leave) (pc := 103) ?_
        exact tjX11_leave_103_10 d n r4.2.1 r4.2.2 s.2.2.1 r4.1 h k1 k2
      · replace h := of_neg h h7
        refine jWP.intro (pr := pX11_leave) (pc := 100) ?_
        refine y_mask <| y_mask <| y_goto ?_
        refine jWP.intro (pr := pX11_leave) (pc := 109) ?_
        refine y_mask <| x_iinc rfl rfl <| y_mask <| y_goto ?_
        refine jWP.intro (pr := pX11_leave) (pc := 10) ?_
        have hk := k1 _ (Option.some.inj h).symm
        exact hk
    · replace h := of_neg h h6
      refine jWP.intro (pr := pX11_leave) (pc := 83) ?_
      refine y_mask <| x_lload rfl <| x_lload rfl <| x_lcmp <| y_if_ge (fun h8 => ?_) (fun h8 => ?_)
      · replace h := of_pos h h8
        refine jWP.intro (pr := pX11_leave) (pc := 103) ?_
        exact tjX11_leave_103_10 d n r4.2.1 r4.2.2 s.2.2.1 r4.1 h k1 k2
      · replace h := of_neg h h8
        refine jWP.intro (pr := pX11_leave) (pc := 90) ?_
        refine y_mask <| y_mask <| y_goto ?_
        refine jWP.intro (pr := pX11_leave) (pc := 109) ?_
        refine y_mask <| x_iinc rfl rfl <| y_mask <| y_goto ?_
        refine jWP.intro (pr := pX11_leave) (pc := 10) ?_
        have hk := k1 _ (Option.some.inj h).symm
        exact hk
set_option maxRecDepth 20000 in
theorem tfX11_leave (d n : Nat) (A : Nat → Nat → Int32) (L : Nat → Nat → Int64) {Q : Option Value → jM → Prop} {z : (Int32 × (Nat → Nat → Int32) × (Nat → Nat → Int64))} (h : fX11_leave A L = some z) (k3 : Q (some (.int z.1)) (Sh0 n, z.2.1, z.2.2)) : pX11_leave (jEv jtab (d + 6), jWP (jEv jtab (d + 6)) Q ((Sh0 n).length, jsl (Sh0 n)) pX11_leave, Q, ((Sh0 n).length, jsl (Sh0 n))) 0 [some (.ref 94), none, none, none, none, none, none] [] (Sh0 n, A, L) := by
  unfold fX11_leave at h
  obtain ⟨r1, hc2, h⟩ := of_bind h
  show bX11_leave_0 _ _ _ _
  unfold bX11_leave_0
  refine y_mask ?_
  refine x_aload rfl ?_
  refine y_invV0 (Nat.le_of_ble_eq_true rfl) rfl (Nat.le_of_ble_eq_true rfl) ?_
  refine jEv.exL (kX11_worthOfAll _ _ _ _ hc2) ?_
  refine x_lstore rfl ?_
  refine x_push ?_
  refine x_istore rfl ?_
  refine x_push ?_
  refine x_istore rfl ?_
  refine y_mask ?_
  refine y_goto ?_
  obtain ⟨e3, hw4, h⟩ := of_bind h
  refine jWP.intro (pr := pX11_leave) (pc := 10) ?_
  refine jwh_use (G := (fun s0 => pX11_leave (jEv jtab (d + 6), jWP (jEv jtab (d + 6)) Q ((Sh0 n).length, jsl (Sh0 n)) pX11_leave, Q, ((Sh0 n).length, jsl (Sh0 n))) 10 [some (.ref 94), some (.long s0.1), none, some (.int s0.2.1), some (.int s0.2.2.1), none, none] [] (Sh0 n, s0.2.2.2.1, s0.2.2.2.2))) (Gx := (fun s0 => pX11_leave (jEv jtab (d + 6), jWP (jEv jtab (d + 6)) Q ((Sh0 n).length, jsl (Sh0 n)) pX11_leave, Q, ((Sh0 n).length, jsl (Sh0 n))) 115 [none, none, none, some (.int s0.1), none, none, none] [] (Sh0 n, s0.2.1, s0.2.2))) (fun s1 z1 hz kk1 kk2 => tcX11_leave_10 d n r1.2.1 r1.2.2 s1 hz kk1 kk2) hw4 ?_
  refine y_mask <| x_iload rfl <| y_ireturn (ls := [none, none, none, some (.int e3.1), none, none, none]) ?_
  obtain rfl := Option.some.inj h
  exact k3
theorem kX11_leave (d n : Nat) (A : Nat → Nat → Int32) (L : Nat → Nat → Int64) {z : (Int32 × (Nat → Nat → Int32) × (Nat → Nat → Int64))} (h : fX11_leave A L = some z) : jEv jtab (d + 7) 211 [.ref 94] (Sh0 n, A, L) 0 0 (fun r M2 => r = some (.int z.1) ∧ M2 = (Sh0 n, z.2.1, z.2.2)) :=
  jEv.mk (mt := mX11_leave) rfl (Nat.le_of_ble_eq_true rfl) (jWP.intro (pr := pX11_leave) (pc := 0) (tfX11_leave d n A L h ⟨trivial, jCn.mk ⟨rfl, rfl⟩⟩))
set_option maxRecDepth 20000 in
theorem tfX11_word (d n : Nat) (A : Nat → Nat → Int32) (L : Nat → Nat → Int64) (l1 : Int32) (l2 : Int32) {Q : Option Value → jM → Prop} {z : (Int32 × (Nat → Nat → Int32))} (h : fX11_word A l1 l2 = some z) (k3 : Q (some (.int z.1)) (Sh0 n, z.2, L)) : pX11_word (jEv jtab (d + 1), jWP (jEv jtab (d + 1)) Q ((Sh0 n).length, jsl (Sh0 n)) pX11_word, Q, ((Sh0 n).length, jsl (Sh0 n))) 0 [some (.ref 94), some (.int l1), some (.int l2)] [] (Sh0 n, A, L) := by
  unfold fX11_word at h
  refine y_mask <| x_iload rfl <| x_push <| x_push <| y_invS3 (Nat.le_of_ble_eq_true rfl) <| jEv.exZ (q := 159) rfl (kX11_in _ _ _ _ _ _ _) <| fun hz1 => y_if_eq (fun h2 => ?_) (fun h2 => ?_)
  · replace h := of_pos h h2
    refine jWP.intro (pr := pX11_word) (pc := 21) ?_
    refine y_mpri (bs := []) (ls := []) ?_
    obtain rfl := Option.some.inj h
    exact k3
  · replace h := of_neg h h2
    refine jWP.intro (pr := pX11_word) (pc := 11) ?_
    refine y_mask <| x_iload rfl <| x_push <| x_push <| y_invS3 (Nat.le_of_ble_eq_true rfl) <| jEv.exZ (q := 159) rfl (kX11_in _ _ _ _ _ _ _) <| fun hz3 => y_if_ne (fun h4 => ?_) (fun h4 => ?_)
    · replace h := of_neg h h4
      refine jWP.intro (pr := pX11_word) (pc := 24) ?_
      refine y_mask <| x_aload rfl <| x_getI (Nat.le_of_ble_eq_true rfl) rfl rfl <| x_push <| y_cmp_ne (fun h5 => ?_) (fun h5 => ?_)
      · replace h := of_neg h h5
        refine jWP.intro (pr := pX11_word) (pc := 36) ?_
        obtain ⟨g6, h⟩ := of_guard h
        obtain ⟨m7, hm8, h⟩ := of_bind h
        obtain ⟨g9, h⟩ := of_guard h
        obtain ⟨m10, hm11, h⟩ := of_bind h
        obtain ⟨g12, h⟩ := of_guard h
        obtain ⟨m13, hm14, h⟩ := of_bind h
        show bX11_word_36 _ _ _ _
        unfold bX11_word_36
        refine y_mask ?_
        refine x_aload rfl ?_
        refine x_getR (Nat.le_of_ble_eq_true rfl) rfl rfl ?_
        refine x_aload rfl ?_
        refine x_getI (Nat.le_of_ble_eq_true rfl) rfl rfl ?_
        refine x_iload rfl ?_
        refine x_iast (Nat.le_of_ble_eq_true rfl) rfl g6 ?_
        refine y_let (Option.some.inj hm8) ?_
        refine x_aload rfl ?_
        refine x_getR (Nat.le_of_ble_eq_true rfl) rfl rfl ?_
        refine x_aload rfl ?_
        refine x_getI (Nat.le_of_ble_eq_true rfl) rfl rfl ?_
        refine x_iload rfl ?_
        refine x_iast (Nat.le_of_ble_eq_true rfl) rfl g9 ?_
        refine y_let (Option.some.inj hm11) ?_
        refine x_aload rfl ?_
        refine x_getR (Nat.le_of_ble_eq_true rfl) rfl rfl ?_
        refine x_push ?_
        refine x_aload rfl ?_
        refine x_getI (Nat.le_of_ble_eq_true rfl) rfl rfl ?_
        refine x_imul ?_
        refine x_push ?_
        refine x_iast (Nat.le_of_ble_eq_true rfl) rfl g12 ?_
        refine y_let (Option.some.inj hm14) ?_
        refine x_aload rfl ?_
        refine x_dup rfl ?_
        refine x_getI (Nat.le_of_ble_eq_true rfl) rfl rfl ?_
        refine x_push ?_
        refine x_iadd ?_
        refine x_putI (Nat.le_of_ble_eq_true rfl) rfl rfl ?_
        refine x_aload rfl ?_
        refine x_getI (Nat.le_of_ble_eq_true rfl) rfl rfl ?_
        refine x_push ?_
        refine x_isub ?_
        refine y_ireturn (ls := [some (.ref 94), some (.int l1), some (.int l2)]) ?_
        obtain rfl := Option.some.inj h
        exact k3
      · replace h := of_pos h h5
        refine jWP.intro (pr := pX11_word) (pc := 33) ?_
        refine y_mpri (bs := []) (ls := []) ?_
        obtain rfl := Option.some.inj h
        exact k3
    · replace h := of_pos h h4
      refine jWP.intro (pr := pX11_word) (pc := 21) ?_
      refine y_mpri (bs := []) (ls := []) ?_
      obtain rfl := Option.some.inj h
      exact k3
theorem kX11_word (d n : Nat) (A : Nat → Nat → Int32) (L : Nat → Nat → Int64) (l1 : Int32) (l2 : Int32) {z : (Int32 × (Nat → Nat → Int32))} (h : fX11_word A l1 l2 = some z) : jEv jtab (d + 2) 213 [.ref 94, .int l1, .int l2] (Sh0 n, A, L) 0 0 (fun r M2 => r = some (.int z.1) ∧ M2 = (Sh0 n, z.2, L)) :=
  jEv.mk (mt := mX11_word) rfl (Nat.le_of_ble_eq_true rfl) (jWP.intro (pr := pX11_word) (pc := 0) (tfX11_word d n A L l1 l2 h ⟨trivial, jCn.mk ⟨rfl, rfl⟩⟩))
set_option maxRecDepth 20000 in
theorem tfX11_isWord (d n : Nat) (A : Nat → Nat → Int32) (L : Nat → Nat → Int64) (l1 : Int32) {Q : Option Value → jM → Prop} {z : Int32} (h : fX11_isWord A l1 = z) (k3 : (narrow .boolean (.int z) = .int z) → Q (some (.int z)) (Sh0 n, A, L)) : pX11_isWord (jEv jtab (d + 1), jWP (jEv jtab (d + 1)) Q ((Sh0 n).length, jsl (Sh0 n)) pX11_isWord, Q, ((Sh0 n).length, jsl (Sh0 n))) 0 [some (.ref 94), some (.int l1)] [] (Sh0 n, A, L) := by
  unfold fX11_isWord at h
  show bX11_isWord_0 _ _ _ _
  unfold bX11_isWord_0
  refine y_mask ?_
  refine x_iload rfl ?_
  refine x_push ?_
  refine x_aload rfl ?_
  refine x_getI (Nat.le_of_ble_eq_true rfl) rfl rfl ?_
  refine x_push ?_
  refine x_isub ?_
  refine y_invS3 (Nat.le_of_ble_eq_true rfl) ?_
  refine jEv.exZ (q := 159) rfl (kX11_in _ _ _ _ _ _ _) (fun hz1 => ?_)
  refine y_ireturn (ls := [some (.ref 94), some (.int l1)]) ?_
  subst h
  exact k3 hz1
theorem kX11_isWord (d n : Nat) (A : Nat → Nat → Int32) (L : Nat → Nat → Int64) (l1 : Int32) : jEv jtab (d + 2) 212 [.ref 94, .int l1] (Sh0 n, A, L) 0 0 (fun r M2 => r = some (.int (fX11_isWord A l1)) ∧ M2 = (Sh0 n, A, L)) :=
  jEv.mk (mt := mX11_isWord) rfl (Nat.le_of_ble_eq_true rfl) (jWP.intro (pr := pX11_isWord) (pc := 0) (tfX11_isWord d n A L l1 rfl (fun hz => ⟨hz, jCn.mk ⟨rfl, rfl⟩⟩)))
set_option maxRecDepth 20000 in
theorem tfX11_mistake (d n : Nat) (A : Nat → Nat → Int32) (L : Nat → Nat → Int64) (l1 : Int32) (l2 : Int32) (l3 : Int32) {Q : Option Value → jM → Prop} {z : (Int32 × (Nat → Nat → Int32))} (h : fX11_mistake A l1 l2 l3 = some z) (k3 : Q (some (.int z.1)) (Sh0 n, z.2, L)) : pX11_mistake (jEv jtab (d + 2), jWP (jEv jtab (d + 2)) Q ((Sh0 n).length, jsl (Sh0 n)) pX11_mistake, Q, ((Sh0 n).length, jsl (Sh0 n))) 0 [some (.ref 94), some (.int l1), some (.int l2), some (.int l3), none] [] (Sh0 n, A, L) := by
  unfold fX11_mistake at h
  refine y_mask <| x_aload rfl <| x_iload rfl <| y_invV1 (Nat.le_of_ble_eq_true rfl) rfl (Nat.le_of_ble_eq_true rfl) <| jEv.exZ (q := 212) rfl (kX11_isWord _ _ _ _ _) <| fun hz1 => y_if_eq (fun h2 => ?_) (fun h2 => ?_)
  · replace h := of_pos h h2
    refine jWP.intro (pr := pX11_mistake) (pc := 16) ?_
    refine y_mpri (bs := []) (ls := []) ?_
    obtain rfl := Option.some.inj h
    exact k3
  · replace h := of_neg h h2
    refine jWP.intro (pr := pX11_mistake) (pc := 8) ?_
    refine y_mask <| x_aload rfl <| x_iload rfl <| y_invV1 (Nat.le_of_ble_eq_true rfl) rfl (Nat.le_of_ble_eq_true rfl) <| jEv.exZ (q := 212) rfl (kX11_isWord _ _ _ _ _) <| fun hz3 => y_if_ne (fun h4 => ?_) (fun h4 => ?_)
    · replace h := of_neg h h4
      refine jWP.intro (pr := pX11_mistake) (pc := 18) ?_
      refine y_mask <| x_iload rfl <| x_push <| x_push <| y_invS3 (Nat.le_of_ble_eq_true rfl) <| jEv.exZ (q := 159) rfl (kX11_in _ _ _ _ _ _ _) <| fun hz5 => y_if_ne (fun h6 => ?_) (fun h6 => ?_)
      · replace h := of_neg h h6
        refine jWP.intro (pr := pX11_mistake) (pc := 31) ?_
        obtain ⟨g7, h⟩ := of_guard h
        obtain ⟨g8, h⟩ := of_guard h
        obtain ⟨m9, hm10, h⟩ := of_bind h
        show bX11_mistake_31 _ _ _ _
        unfold bX11_mistake_31
        refine y_mask ?_
        refine x_aload rfl ?_
        refine x_getR (Nat.le_of_ble_eq_true rfl) rfl rfl ?_
        refine x_push ?_
        refine x_iload rfl ?_
        refine x_imul ?_
        refine x_iload rfl ?_
        refine x_iadd ?_
        refine x_iald rfl g7 ?_
        refine x_istore rfl ?_
        refine x_aload rfl ?_
        refine x_getR (Nat.le_of_ble_eq_true rfl) rfl rfl ?_
        refine x_push ?_
        refine x_iload rfl ?_
        refine x_imul ?_
        refine x_iload rfl ?_
        refine x_iadd ?_
        refine x_iload rfl ?_
        refine x_iast (Nat.le_of_ble_eq_true rfl) rfl g8 ?_
        refine y_let (Option.some.inj hm10) ?_
        refine x_iload rfl ?_
        refine y_ireturn (ls := [some (.ref 94), some (.int l1), some (.int l2), some (.int l3), some (.int (A 115 (jx (((6 : Int32) * l1) + l2))))]) ?_
        obtain rfl := Option.some.inj h
        exact k3
      · replace h := of_pos h h6
        refine jWP.intro (pr := pX11_mistake) (pc := 28) ?_
        refine y_mpri (bs := []) (ls := []) ?_
        obtain rfl := Option.some.inj h
        exact k3
    · replace h := of_pos h h4
      refine jWP.intro (pr := pX11_mistake) (pc := 16) ?_
      refine y_mpri (bs := []) (ls := []) ?_
      obtain rfl := Option.some.inj h
      exact k3
theorem kX11_mistake (d n : Nat) (A : Nat → Nat → Int32) (L : Nat → Nat → Int64) (l1 : Int32) (l2 : Int32) (l3 : Int32) {z : (Int32 × (Nat → Nat → Int32))} (h : fX11_mistake A l1 l2 l3 = some z) : jEv jtab (d + 3) 214 [.ref 94, .int l1, .int l2, .int l3] (Sh0 n, A, L) 0 0 (fun r M2 => r = some (.int z.1) ∧ M2 = (Sh0 n, z.2, L)) :=
  jEv.mk (mt := mX11_mistake) rfl (Nat.le_of_ble_eq_true rfl) (jWP.intro (pr := pX11_mistake) (pc := 0) (tfX11_mistake d n A L l1 l2 l3 h ⟨trivial, jCn.mk ⟨rfl, rfl⟩⟩))
