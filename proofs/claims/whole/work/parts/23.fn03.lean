/-! METHODS AS FUNCTIONS, printed by dec.py -/
set_option maxRecDepth 20000 in
theorem tcX6_bestExchange_26 (d n : Nat) (A : Nat → Nat → Int32) (L : Nat → Nat → Int64) (l7 : Int32) (s : (Int64 × Int32 × Int32 × Int32 × (Nat → Nat → Int32))) {Q : Option Value → jM → Prop} {z : ((Int64 × Int32 × Int32 × Int32 × (Nat → Nat → Int32)) ⊕ (Int64 × Int32 × Int32 × (Nat → Nat → Int32)))} (h : cX6_bestExchange_26 l7 s = some z) (k1 : ∀ s0, z = .inl s0 → pX6_bestExchange (jEv jtab (d + 5), jWP (jEv jtab (d + 5)) Q ((Sh0 n).length, jsl (Sh0 n)) pX6_bestExchange, Q, ((Sh0 n).length, jsl (Sh0 n))) 26 [some (.ref 16), none, none, some (.long s0.1), none, some (.int s0.2.1), some (.int s0.2.2.1), some (.int l7), some (.int s0.2.2.2.1), none, none] [] (Sh0 n, s0.2.2.2.2, L)) (k2 : ∀ s0, z = .inr s0 → pX6_bestExchange (jEv jtab (d + 5), jWP (jEv jtab (d + 5)) Q ((Sh0 n).length, jsl (Sh0 n)) pX6_bestExchange, Q, ((Sh0 n).length, jsl (Sh0 n))) 85 [some (.ref 16), none, none, some (.long s0.1), none, some (.int s0.2.1), some (.int s0.2.2.1), some (.int l7), none, none, none] [] (Sh0 n, s0.2.2.2, L)) : pX6_bestExchange (jEv jtab (d + 5), jWP (jEv jtab (d + 5)) Q ((Sh0 n).length, jsl (Sh0 n)) pX6_bestExchange, Q, ((Sh0 n).length, jsl (Sh0 n))) 26 [some (.ref 16), none, none, some (.long s.1), none, some (.int s.2.1), some (.int s.2.2.1), some (.int l7), some (.int s.2.2.2.1), none, none] [] (Sh0 n, s.2.2.2.2, L) := by
  unfold cX6_bestExchange_26 at h
  refine y_mask <| x_iload rfl <| x_aload rfl <| x_getI (Nat.le_of_ble_eq_true rfl) rfl rfl <| y_cmp_ge (fun h1 => ?_) (fun h1 => ?_)
  · replace h := of_pos h h1
    refine jWP.intro (pr := pX6_bestExchange) (pc := 85) ?_
    have hk := k2 _ (Option.some.inj h).symm
    exact hk
  · replace h := of_neg h h1
    refine jWP.intro (pr := pX6_bestExchange) (pc := 35) ?_
    obtain ⟨r2, hc3, h⟩ := of_bind h
    obtain ⟨r4, hc5, h⟩ := of_bind h
    obtain ⟨r6, hc7, h⟩ := of_bind h
    refine y_mask <| x_aload rfl <| x_iload rfl <| x_iload rfl <| y_invV2 (Nat.le_of_ble_eq_true rfl) rfl (Nat.le_of_ble_eq_true rfl) <| jEv.exV (kX6_exchange _ _ _ _ _ _ hc3) <| x_aload rfl <| x_aload rfl <| x_getI (Nat.le_of_ble_eq_true rfl) rfl rfl <| y_invV1 (Nat.le_of_ble_eq_true rfl) rfl (Nat.le_of_ble_eq_true rfl) <| jEv.exL (kX6_walk _ _ _ _ _ hc5) <| x_lstore rfl <| x_aload rfl <| x_iload rfl <| x_iload rfl <| y_invV2 (Nat.le_of_ble_eq_true rfl) rfl (Nat.le_of_ble_eq_true rfl) <| jEv.exV (kX6_exchange _ _ _ _ _ _ hc7) <| x_lload rfl <| x_lload rfl <| x_lcmp <| y_if_le (fun h8 => ?_) (fun h8 => ?_)
    · replace h := of_pos h h8
      refine jWP.intro (pr := pX6_bestExchange) (pc := 79) ?_
      refine y_mask <| x_iinc rfl rfl <| y_mask <| y_goto ?_
      refine jWP.intro (pr := pX6_bestExchange) (pc := 26) ?_
      have hk := k1 _ (Option.some.inj h).symm
      exact hk
    · replace h := of_neg h h8
      refine jWP.intro (pr := pX6_bestExchange) (pc := 68) ?_
      refine y_mask <| x_lload rfl <| x_lstore rfl <| x_iload rfl <| x_istore rfl <| x_iload rfl <| x_istore rfl <| y_mask <| y_goto ?_
      refine jWP.intro (pr := pX6_bestExchange) (pc := 79) ?_
      refine y_mask <| x_iinc rfl rfl <| y_mask <| y_goto ?_
      refine jWP.intro (pr := pX6_bestExchange) (pc := 26) ?_
      have hk := k1 _ (Option.some.inj h).symm
      exact hk
set_option maxRecDepth 20000 in
theorem tcX6_bestExchange_11 (d n : Nat) (A : Nat → Nat → Int32) (L : Nat → Nat → Int64) (s : (Int64 × Int32 × Int32 × Int32 × (Nat → Nat → Int32))) {Q : Option Value → jM → Prop} {z : ((Int64 × Int32 × Int32 × Int32 × (Nat → Nat → Int32)) ⊕ (Int64 × Int32 × Int32 × (Nat → Nat → Int32)))} (h : cX6_bestExchange_11 s = some z) (k1 : ∀ s0, z = .inl s0 → pX6_bestExchange (jEv jtab (d + 5), jWP (jEv jtab (d + 5)) Q ((Sh0 n).length, jsl (Sh0 n)) pX6_bestExchange, Q, ((Sh0 n).length, jsl (Sh0 n))) 11 [some (.ref 16), none, none, some (.long s0.1), none, some (.int s0.2.1), some (.int s0.2.2.1), some (.int s0.2.2.2.1), none, none, none] [] (Sh0 n, s0.2.2.2.2, L)) (k2 : ∀ s0, z = .inr s0 → pX6_bestExchange (jEv jtab (d + 5), jWP (jEv jtab (d + 5)) Q ((Sh0 n).length, jsl (Sh0 n)) pX6_bestExchange, Q, ((Sh0 n).length, jsl (Sh0 n))) 91 [some (.ref 16), none, none, some (.long s0.1), none, some (.int s0.2.1), some (.int s0.2.2.1), none, none, none, none] [] (Sh0 n, s0.2.2.2, L)) : pX6_bestExchange (jEv jtab (d + 5), jWP (jEv jtab (d + 5)) Q ((Sh0 n).length, jsl (Sh0 n)) pX6_bestExchange, Q, ((Sh0 n).length, jsl (Sh0 n))) 11 [some (.ref 16), none, none, some (.long s.1), none, some (.int s.2.1), some (.int s.2.2.1), some (.int s.2.2.2.1), none, none, none] [] (Sh0 n, s.2.2.2.2, L) := by
  unfold cX6_bestExchange_11 at h
  refine y_mask <| x_iload rfl <| x_aload rfl <| x_getI (Nat.le_of_ble_eq_true rfl) rfl rfl <| y_cmp_ge (fun h1 => ?_) (fun h1 => ?_)
  · replace h := of_pos h h1
    refine jWP.intro (pr := pX6_bestExchange) (pc := 91) ?_
    have hk := k2 _ (Option.some.inj h).symm
    exact hk
  · replace h := of_neg h h1
    refine jWP.intro (pr := pX6_bestExchange) (pc := 20) ?_
    refine y_mask <| x_iload rfl <| x_push <| x_iadd <| x_istore rfl <| y_mask <| y_goto ?_
    obtain ⟨e2, hw3, h⟩ := of_bind h
    refine jWP.intro (pr := pX6_bestExchange) (pc := 26) ?_
    refine jwh_use (G := (fun s0 => pX6_bestExchange (jEv jtab (d + 5), jWP (jEv jtab (d + 5)) Q ((Sh0 n).length, jsl (Sh0 n)) pX6_bestExchange, Q, ((Sh0 n).length, jsl (Sh0 n))) 26 [some (.ref 16), none, none, some (.long s0.1), none, some (.int s0.2.1), some (.int s0.2.2.1), some (.int s.2.2.2.1), some (.int s0.2.2.2.1), none, none] [] (Sh0 n, s0.2.2.2.2, L))) (Gx := (fun s0 => pX6_bestExchange (jEv jtab (d + 5), jWP (jEv jtab (d + 5)) Q ((Sh0 n).length, jsl (Sh0 n)) pX6_bestExchange, Q, ((Sh0 n).length, jsl (Sh0 n))) 85 [some (.ref 16), none, none, some (.long s0.1), none, some (.int s0.2.1), some (.int s0.2.2.1), some (.int s.2.2.2.1), none, none, none] [] (Sh0 n, s0.2.2.2, L))) (fun s1 z1 hz kk1 kk2 => tcX6_bestExchange_26 d n s.2.2.2.2 L s.2.2.2.1 s1 hz kk1 kk2) hw3 ?_
    refine y_mask <| x_iinc rfl rfl <| y_mask <| y_goto ?_
    refine jWP.intro (pr := pX6_bestExchange) (pc := 11) ?_
    have hk := k1 _ (Option.some.inj h).symm
    exact hk
set_option maxRecDepth 20000 in
theorem tfX6_bestExchange (d n : Nat) (A : Nat → Nat → Int32) (L : Nat → Nat → Int64) (l1 : Int64) {Q : Option Value → jM → Prop} {z : (Int64 × (Nat → Nat → Int32))} (h : fX6_bestExchange A l1 = some z) (k3 : Q (some (.long z.1)) (Sh0 n, z.2, L)) : pX6_bestExchange (jEv jtab (d + 5), jWP (jEv jtab (d + 5)) Q ((Sh0 n).length, jsl (Sh0 n)) pX6_bestExchange, Q, ((Sh0 n).length, jsl (Sh0 n))) 0 [some (.ref 16), some (.long l1), none, none, none, none, none, none, none, none, none] [] (Sh0 n, A, L) := by
  unfold fX6_bestExchange at h
  refine y_mask <| x_lload rfl <| x_lstore rfl <| x_push <| x_istore rfl <| x_push <| x_istore rfl <| x_push <| x_istore rfl <| y_mask <| y_goto ?_
  obtain ⟨e1, hw2, h⟩ := of_bind h
  refine jWP.intro (pr := pX6_bestExchange) (pc := 11) ?_
  refine jwh_use (G := (fun s0 => pX6_bestExchange (jEv jtab (d + 5), jWP (jEv jtab (d + 5)) Q ((Sh0 n).length, jsl (Sh0 n)) pX6_bestExchange, Q, ((Sh0 n).length, jsl (Sh0 n))) 11 [some (.ref 16), none, none, some (.long s0.1), none, some (.int s0.2.1), some (.int s0.2.2.1), some (.int s0.2.2.2.1), none, none, none] [] (Sh0 n, s0.2.2.2.2, L))) (Gx := (fun s0 => pX6_bestExchange (jEv jtab (d + 5), jWP (jEv jtab (d + 5)) Q ((Sh0 n).length, jsl (Sh0 n)) pX6_bestExchange, Q, ((Sh0 n).length, jsl (Sh0 n))) 91 [some (.ref 16), none, none, some (.long s0.1), none, some (.int s0.2.1), some (.int s0.2.2.1), none, none, none, none] [] (Sh0 n, s0.2.2.2, L))) (fun s1 z1 hz kk1 kk2 => tcX6_bestExchange_11 d n A L s1 hz kk1 kk2) hw2 ?_
  obtain ⟨r3, hc4, h⟩ := of_bind h
  refine y_mask <| x_aload rfl <| x_iload rfl <| x_iload rfl <| y_invV2 (Nat.le_of_ble_eq_true rfl) rfl (Nat.le_of_ble_eq_true rfl) <| jEv.exV (kX6_exchange _ _ _ _ _ _ hc4) <| x_lload rfl <| y_lreturn (ls := [some (.ref 16), none, none, some (.long e1.1), none, some (.int e1.2.1), some (.int e1.2.2.1), none, none, none, none]) ?_
  obtain rfl := Option.some.inj h
  exact k3
theorem kX6_bestExchange (d n : Nat) (A : Nat → Nat → Int32) (L : Nat → Nat → Int64) (l1 : Int64) {z : (Int64 × (Nat → Nat → Int32))} (h : fX6_bestExchange A l1 = some z) : jEv jtab (d + 6) 77 [.ref 16, .long l1] (Sh0 n, A, L) 0 0 (fun r M2 => r = some (.long z.1) ∧ M2 = (Sh0 n, z.2, L)) :=
  jEv.mk (mt := mX6_bestExchange) rfl (Nat.le_of_ble_eq_true rfl) (jWP.intro (pr := pX6_bestExchange) (pc := 0) (tfX6_bestExchange d n A L l1 h ⟨trivial, jCn.mk ⟨rfl, rfl⟩⟩))
set_option maxRecDepth 20000 in
theorem tcX6_exchangeWhileBetter_14 (d n : Nat) (A : Nat → Nat → Int32) (L : Nat → Nat → Int64) (s : (Int64 × Int32 × Int32 × (Nat → Nat → Int32))) {Q : Option Value → jM → Prop} {z : ((Int64 × Int32 × Int32 × (Nat → Nat → Int32)) ⊕ (Int64 × (Nat → Nat → Int32)))} (h : cX6_exchangeWhileBetter_14 s = some z) (k1 : ∀ s0, z = .inl s0 → pX6_exchangeWhileBetter (jEv jtab (d + 6), jWP (jEv jtab (d + 6)) Q ((Sh0 n).length, jsl (Sh0 n)) pX6_exchangeWhileBetter, Q, ((Sh0 n).length, jsl (Sh0 n))) 14 [some (.ref 16), some (.long s0.1), none, some (.int s0.2.1), some (.int s0.2.2.1), none, none] [] (Sh0 n, s0.2.2.2, L)) (k2 : ∀ s0, z = .inr s0 → pX6_exchangeWhileBetter (jEv jtab (d + 6), jWP (jEv jtab (d + 6)) Q ((Sh0 n).length, jsl (Sh0 n)) pX6_exchangeWhileBetter, Q, ((Sh0 n).length, jsl (Sh0 n))) 54 [none, some (.long s0.1), none, none, none, none, none] [] (Sh0 n, s0.2, L)) : pX6_exchangeWhileBetter (jEv jtab (d + 6), jWP (jEv jtab (d + 6)) Q ((Sh0 n).length, jsl (Sh0 n)) pX6_exchangeWhileBetter, Q, ((Sh0 n).length, jsl (Sh0 n))) 14 [some (.ref 16), some (.long s.1), none, some (.int s.2.1), some (.int s.2.2.1), none, none] [] (Sh0 n, s.2.2.2, L) := by
  unfold cX6_exchangeWhileBetter_14 at h
  refine y_mask <| x_iload rfl <| x_push <| y_cmp_ge (fun h1 => ?_) (fun h1 => ?_)
  · replace h := of_pos h h1
    refine jWP.intro (pr := pX6_exchangeWhileBetter) (pc := 54) ?_
    have hk := k2 _ (Option.some.inj h).symm
    exact hk
  · replace h := of_neg h h1
    refine jWP.intro (pr := pX6_exchangeWhileBetter) (pc := 21) ?_
    refine y_mask <| x_iload rfl <| y_if_eq (fun h2 => ?_) (fun h2 => ?_)
    · replace h := of_pos h h2
      refine jWP.intro (pr := pX6_exchangeWhileBetter) (pc := 54) ?_
      have hk := k2 _ (Option.some.inj h).symm
      exact hk
    · replace h := of_neg h h2
      refine jWP.intro (pr := pX6_exchangeWhileBetter) (pc := 25) ?_
      obtain ⟨r3, hc4, h⟩ := of_bind h
      refine y_mask <| x_lload rfl <| x_lstore rfl <| x_aload rfl <| x_lload rfl <| y_invV1 (Nat.le_of_ble_eq_true rfl) rfl (Nat.le_of_ble_eq_true rfl) <| jEv.exL (kX6_bestExchange _ _ _ _ _ hc4) <| x_lstore rfl <| x_lload rfl <| x_lload rfl <| x_lcmp <| y_if_le (fun h5 => ?_) (fun h5 => ?_)
      · replace h := of_pos h h5
        refine jWP.intro (pr := pX6_exchangeWhileBetter) (pc := 46) ?_
        refine y_mask <| x_push <| y_mask <| y_goto ?_
        refine jWP.intro (pr := pX6_exchangeWhileBetter) (pc := 47) ?_
        refine y_mask <| x_istore rfl <| x_iinc rfl rfl <| y_mask <| y_goto ?_
        refine jWP.intro (pr := pX6_exchangeWhileBetter) (pc := 14) ?_
        have hk := k1 _ (Option.some.inj h).symm
        exact hk
      · replace h := of_neg h h5
        refine jWP.intro (pr := pX6_exchangeWhileBetter) (pc := 42) ?_
        refine y_mask <| x_push <| y_mask <| y_goto ?_
        refine jWP.intro (pr := pX6_exchangeWhileBetter) (pc := 47) ?_
        refine y_mask <| x_istore rfl <| x_iinc rfl rfl <| y_mask <| y_goto ?_
        refine jWP.intro (pr := pX6_exchangeWhileBetter) (pc := 14) ?_
        have hk := k1 _ (Option.some.inj h).symm
        exact hk
set_option maxRecDepth 20000 in
theorem tfX6_exchangeWhileBetter (d n : Nat) (A : Nat → Nat → Int32) (L : Nat → Nat → Int64) {Q : Option Value → jM → Prop} {z : (Int64 × (Nat → Nat → Int32))} (h : fX6_exchangeWhileBetter A = some z) (k3 : Q (some (.long z.1)) (Sh0 n, z.2, L)) : pX6_exchangeWhileBetter (jEv jtab (d + 6), jWP (jEv jtab (d + 6)) Q ((Sh0 n).length, jsl (Sh0 n)) pX6_exchangeWhileBetter, Q, ((Sh0 n).length, jsl (Sh0 n))) 0 [some (.ref 16), none, none, none, none, none, none] [] (Sh0 n, A, L) := by
  unfold fX6_exchangeWhileBetter at h
  obtain ⟨r1, hc2, h⟩ := of_bind h
  refine y_mask <| x_aload rfl <| x_aload rfl <| x_getI (Nat.le_of_ble_eq_true rfl) rfl rfl <| y_invV1 (Nat.le_of_ble_eq_true rfl) rfl (Nat.le_of_ble_eq_true rfl) <| jEv.exL (kX6_walk _ _ _ _ _ hc2) <| x_lstore rfl <| x_push <| x_istore rfl <| x_push <| x_istore rfl <| y_mask <| y_goto ?_
  obtain ⟨e3, hw4, h⟩ := of_bind h
  refine jWP.intro (pr := pX6_exchangeWhileBetter) (pc := 14) ?_
  refine jwh_use (G := (fun s0 => pX6_exchangeWhileBetter (jEv jtab (d + 6), jWP (jEv jtab (d + 6)) Q ((Sh0 n).length, jsl (Sh0 n)) pX6_exchangeWhileBetter, Q, ((Sh0 n).length, jsl (Sh0 n))) 14 [some (.ref 16), some (.long s0.1), none, some (.int s0.2.1), some (.int s0.2.2.1), none, none] [] (Sh0 n, s0.2.2.2, L))) (Gx := (fun s0 => pX6_exchangeWhileBetter (jEv jtab (d + 6), jWP (jEv jtab (d + 6)) Q ((Sh0 n).length, jsl (Sh0 n)) pX6_exchangeWhileBetter, Q, ((Sh0 n).length, jsl (Sh0 n))) 54 [none, some (.long s0.1), none, none, none, none, none] [] (Sh0 n, s0.2, L))) (fun s1 z1 hz kk1 kk2 => tcX6_exchangeWhileBetter_14 d n r1.2 L s1 hz kk1 kk2) hw4 ?_
  refine y_mask <| x_lload rfl <| y_lreturn (ls := [none, some (.long e3.1), none, none, none, none, none]) ?_
  obtain rfl := Option.some.inj h
  exact k3
theorem kX6_exchangeWhileBetter (d n : Nat) (A : Nat → Nat → Int32) (L : Nat → Nat → Int64) {z : (Int64 × (Nat → Nat → Int32))} (h : fX6_exchangeWhileBetter A = some z) : jEv jtab (d + 7) 76 [.ref 16] (Sh0 n, A, L) 0 0 (fun r M2 => r = some (.long z.1) ∧ M2 = (Sh0 n, z.2, L)) :=
  jEv.mk (mt := mX6_exchangeWhileBetter) rfl (Nat.le_of_ble_eq_true rfl) (jWP.intro (pr := pX6_exchangeWhileBetter) (pc := 0) (tfX6_exchangeWhileBetter d n A L h ⟨trivial, jCn.mk ⟨rfl, rfl⟩⟩))
set_option maxRecDepth 20000 in
theorem tcX6_orderAsDigits_4 (d n : Nat) (A : Nat → Nat → Int32) (L : Nat → Nat → Int64) (s : (Int64 × Int32)) {Q : Option Value → jM → Prop} {z : ((Int64 × Int32) ⊕ Int64)} (h : cX6_orderAsDigits_4 A s = some z) (k1 : ∀ s0, z = .inl s0 → pX6_orderAsDigits (jEv jtab (d + 0), jWP (jEv jtab (d + 0)) Q ((Sh0 n).length, jsl (Sh0 n)) pX6_orderAsDigits, Q, ((Sh0 n).length, jsl (Sh0 n))) 4 [some (.ref 16), some (.long s0.1), none, some (.int s0.2)] [] (Sh0 n, A, L)) (k2 : ∀ s0, z = .inr s0 → pX6_orderAsDigits (jEv jtab (d + 0), jWP (jEv jtab (d + 0)) Q ((Sh0 n).length, jsl (Sh0 n)) pX6_orderAsDigits, Q, ((Sh0 n).length, jsl (Sh0 n))) 34 [none, some (.long s0), none, none] [] (Sh0 n, A, L)) : pX6_orderAsDigits (jEv jtab (d + 0), jWP (jEv jtab (d + 0)) Q ((Sh0 n).length, jsl (Sh0 n)) pX6_orderAsDigits, Q, ((Sh0 n).length, jsl (Sh0 n))) 4 [some (.ref 16), some (.long s.1), none, some (.int s.2)] [] (Sh0 n, A, L) := by
  unfold cX6_orderAsDigits_4 at h
  refine y_mask <| x_iload rfl <| x_aload rfl <| x_getI (Nat.le_of_ble_eq_true rfl) rfl rfl <| y_cmp_ge (fun h1 => ?_) (fun h1 => ?_)
  · replace h := of_pos h h1
    refine jWP.intro (pr := pX6_orderAsDigits) (pc := 34) ?_
    have hk := k2 _ (Option.some.inj h).symm
    exact hk
  · replace h := of_neg h h1
    refine jWP.intro (pr := pX6_orderAsDigits) (pc := 12) ?_
    obtain ⟨g2, h⟩ := of_guard h
    refine y_mask <| x_push <| x_lload rfl <| x_lmul <| x_aload rfl <| x_getR (Nat.le_of_ble_eq_true rfl) rfl rfl <| x_iload rfl <| x_iald rfl g2 <| x_i2l <| x_ladd <| x_push <| x_ladd <| x_lstore rfl <| x_iinc rfl rfl <| y_mask <| y_goto ?_
    refine jWP.intro (pr := pX6_orderAsDigits) (pc := 4) ?_
    have hk := k1 _ (Option.some.inj h).symm
    exact hk
set_option maxRecDepth 20000 in
theorem tfX6_orderAsDigits (d n : Nat) (A : Nat → Nat → Int32) (L : Nat → Nat → Int64) {Q : Option Value → jM → Prop} {z : Int64} (h : fX6_orderAsDigits A = some z) (k3 : Q (some (.long z)) (Sh0 n, A, L)) : pX6_orderAsDigits (jEv jtab (d + 0), jWP (jEv jtab (d + 0)) Q ((Sh0 n).length, jsl (Sh0 n)) pX6_orderAsDigits, Q, ((Sh0 n).length, jsl (Sh0 n))) 0 [some (.ref 16), none, none, none] [] (Sh0 n, A, L) := by
  unfold fX6_orderAsDigits at h
  refine y_mask <| x_push <| x_lstore rfl <| x_push <| x_istore rfl <| y_mask <| y_goto ?_
  obtain ⟨e1, hw2, h⟩ := of_bind h
  refine jWP.intro (pr := pX6_orderAsDigits) (pc := 4) ?_
  refine jwh_use (G := (fun s0 => pX6_orderAsDigits (jEv jtab (d + 0), jWP (jEv jtab (d + 0)) Q ((Sh0 n).length, jsl (Sh0 n)) pX6_orderAsDigits, Q, ((Sh0 n).length, jsl (Sh0 n))) 4 [some (.ref 16), some (.long s0.1), none, some (.int s0.2)] [] (Sh0 n, A, L))) (Gx := (fun s0 => pX6_orderAsDigits (jEv jtab (d + 0), jWP (jEv jtab (d + 0)) Q ((Sh0 n).length, jsl (Sh0 n)) pX6_orderAsDigits, Q, ((Sh0 n).length, jsl (Sh0 n))) 34 [none, some (.long s0), none, none] [] (Sh0 n, A, L))) (fun s1 z1 hz kk1 kk2 => tcX6_orderAsDigits_4 d n A L s1 hz kk1 kk2) hw2 ?_
  refine y_mask <| x_lload rfl <| y_lreturn (ls := [none, some (.long e1), none, none]) ?_
  obtain rfl := Option.some.inj h
  exact k3
theorem kX6_orderAsDigits (d n : Nat) (A : Nat → Nat → Int32) (L : Nat → Nat → Int64) {z : Int64} (h : fX6_orderAsDigits A = some z) : jEv jtab (d + 1) 72 [.ref 16] (Sh0 n, A, L) 0 0 (fun r M2 => r = some (.long z) ∧ M2 = (Sh0 n, A, L)) :=
  jEv.mk (mt := mX6_orderAsDigits) rfl (Nat.le_of_ble_eq_true rfl) (jWP.intro (pr := pX6_orderAsDigits) (pc := 0) (tfX6_orderAsDigits d n A L h ⟨trivial, jCn.mk ⟨rfl, rfl⟩⟩))
set_option maxRecDepth 20000 in
theorem tcX6_nextOrder_7 (d n : Nat) (A : Nat → Nat → Int32) (L : Nat → Nat → Int64) (s : Int32) {Q : Option Value → jM → Prop} {z : (Int32 ⊕ Int32)} (h : cX6_nextOrder_7 A s = some z) (k1 : ∀ s0, z = .inl s0 → pX6_nextOrder (jEv jtab (d + 1), jWP (jEv jtab (d + 1)) Q ((Sh0 n).length, jsl (Sh0 n)) pX6_nextOrder, Q, ((Sh0 n).length, jsl (Sh0 n))) 7 [some (.ref 16), some (.int s0), none, none, none] [] (Sh0 n, A, L)) (k2 : ∀ s0, z = .inr s0 → pX6_nextOrder (jEv jtab (d + 1), jWP (jEv jtab (d + 1)) Q ((Sh0 n).length, jsl (Sh0 n)) pX6_nextOrder, Q, ((Sh0 n).length, jsl (Sh0 n))) 34 [some (.ref 16), some (.int s0), none, none, none] [] (Sh0 n, A, L)) : pX6_nextOrder (jEv jtab (d + 1), jWP (jEv jtab (d + 1)) Q ((Sh0 n).length, jsl (Sh0 n)) pX6_nextOrder, Q, ((Sh0 n).length, jsl (Sh0 n))) 7 [some (.ref 16), some (.int s), none, none, none] [] (Sh0 n, A, L) := by
  unfold cX6_nextOrder_7 at h
  refine y_mask <| x_iload rfl <| y_if_lt (fun h1 => ?_) (fun h1 => ?_)
  · replace h := of_pos h h1
    refine jWP.intro (pr := pX6_nextOrder) (pc := 34) ?_
    have hk := k2 _ (Option.some.inj h).symm
    exact hk
  · replace h := of_neg h h1
    refine jWP.intro (pr := pX6_nextOrder) (pc := 11) ?_
    obtain ⟨g2, h⟩ := of_guard h
    obtain ⟨g3, h⟩ := of_guard h
    refine y_mask <| x_aload rfl <| x_getR (Nat.le_of_ble_eq_true rfl) rfl rfl <| x_iload rfl <| x_iald rfl g2 <| x_aload rfl <| x_getR (Nat.le_of_ble_eq_true rfl) rfl rfl <| x_iload rfl <| x_push <| x_iadd <| x_iald rfl g3 <| y_cmp_le (fun h4 => ?_) (fun h4 => ?_)
    · replace h := of_pos h h4
      refine jWP.intro (pr := pX6_nextOrder) (pc := 34) ?_
      have hk := k2 _ (Option.some.inj h).symm
      exact hk
    · replace h := of_neg h h4
      refine jWP.intro (pr := pX6_nextOrder) (pc := 28) ?_
      refine y_mask <| x_iinc rfl rfl <| y_mask <| y_goto ?_
      refine jWP.intro (pr := pX6_nextOrder) (pc := 7) ?_
      have hk := k1 _ (Option.some.inj h).symm
      exact hk
set_option maxRecDepth 20000 in
theorem tcX6_nextOrder_47 (d n : Nat) (A : Nat → Nat → Int32) (L : Nat → Nat → Int64) (l1 : Int32) (s : Int32) {Q : Option Value → jM → Prop} {z : (Int32 ⊕ Int32)} (h : cX6_nextOrder_47 A l1 s = some z) (k1 : ∀ s0, z = .inl s0 → pX6_nextOrder (jEv jtab (d + 1), jWP (jEv jtab (d + 1)) Q ((Sh0 n).length, jsl (Sh0 n)) pX6_nextOrder, Q, ((Sh0 n).length, jsl (Sh0 n))) 47 [some (.ref 16), some (.int l1), some (.int s0), none, none] [] (Sh0 n, A, L)) (k2 : ∀ s0, z = .inr s0 → pX6_nextOrder (jEv jtab (d + 1), jWP (jEv jtab (d + 1)) Q ((Sh0 n).length, jsl (Sh0 n)) pX6_nextOrder, Q, ((Sh0 n).length, jsl (Sh0 n))) 73 [some (.ref 16), some (.int l1), some (.int s0), none, none] [] (Sh0 n, A, L)) : pX6_nextOrder (jEv jtab (d + 1), jWP (jEv jtab (d + 1)) Q ((Sh0 n).length, jsl (Sh0 n)) pX6_nextOrder, Q, ((Sh0 n).length, jsl (Sh0 n))) 47 [some (.ref 16), some (.int l1), some (.int s), none, none] [] (Sh0 n, A, L) := by
  unfold cX6_nextOrder_47 at h
  refine y_mask <| x_iload rfl <| x_iload rfl <| y_cmp_le (fun h1 => ?_) (fun h1 => ?_)
  · replace h := of_pos h h1
    refine jWP.intro (pr := pX6_nextOrder) (pc := 73) ?_
    have hk := k2 _ (Option.some.inj h).symm
    exact hk
  · replace h := of_neg h h1
    refine jWP.intro (pr := pX6_nextOrder) (pc := 52) ?_
    obtain ⟨g2, h⟩ := of_guard h
    obtain ⟨g3, h⟩ := of_guard h
    refine y_mask <| x_aload rfl <| x_getR (Nat.le_of_ble_eq_true rfl) rfl rfl <| x_iload rfl <| x_iald rfl g2 <| x_aload rfl <| x_getR (Nat.le_of_ble_eq_true rfl) rfl rfl <| x_iload rfl <| x_iald rfl g3 <| y_cmp_ge (fun h4 => ?_) (fun h4 => ?_)
    · replace h := of_pos h h4
      refine jWP.intro (pr := pX6_nextOrder) (pc := 73) ?_
      have hk := k2 _ (Option.some.inj h).symm
      exact hk
    · replace h := of_neg h h4
      refine jWP.intro (pr := pX6_nextOrder) (pc := 67) ?_
      refine y_mask <| x_iinc rfl rfl <| y_mask <| y_goto ?_
      refine jWP.intro (pr := pX6_nextOrder) (pc := 47) ?_
      have hk := k1 _ (Option.some.inj h).symm
      exact hk
set_option maxRecDepth 20000 in
theorem tcX6_nextOrder_91 (d n : Nat) (A : Nat → Nat → Int32) (L : Nat → Nat → Int64) (s : (Int32 × Int32 × (Nat → Nat → Int32))) {Q : Option Value → jM → Prop} {z : ((Int32 × Int32 × (Nat → Nat → Int32)) ⊕ (Nat → Nat → Int32))} (h : cX6_nextOrder_91 s = some z) (k1 : ∀ s0, z = .inl s0 → pX6_nextOrder (jEv jtab (d + 1), jWP (jEv jtab (d + 1)) Q ((Sh0 n).length, jsl (Sh0 n)) pX6_nextOrder, Q, ((Sh0 n).length, jsl (Sh0 n))) 91 [some (.ref 16), none, none, some (.int s0.1), some (.int s0.2.1)] [] (Sh0 n, s0.2.2, L)) (k2 : ∀ s0, z = .inr s0 → pX6_nextOrder (jEv jtab (d + 1), jWP (jEv jtab (d + 1)) Q ((Sh0 n).length, jsl (Sh0 n)) pX6_nextOrder, Q, ((Sh0 n).length, jsl (Sh0 n))) 113 [none, none, none, none, none] [] (Sh0 n, s0, L)) : pX6_nextOrder (jEv jtab (d + 1), jWP (jEv jtab (d + 1)) Q ((Sh0 n).length, jsl (Sh0 n)) pX6_nextOrder, Q, ((Sh0 n).length, jsl (Sh0 n))) 91 [some (.ref 16), none, none, some (.int s.1), some (.int s.2.1)] [] (Sh0 n, s.2.2, L) := by
  unfold cX6_nextOrder_91 at h
  refine y_mask <| x_iload rfl <| x_iload rfl <| y_cmp_ge (fun h1 => ?_) (fun h1 => ?_)
  · replace h := of_pos h h1
    refine jWP.intro (pr := pX6_nextOrder) (pc := 113) ?_
    have hk := k2 _ (Option.some.inj h).symm
    exact hk
  · replace h := of_neg h h1
    refine jWP.intro (pr := pX6_nextOrder) (pc := 97) ?_
    obtain ⟨r2, hc3, h⟩ := of_bind h
    refine y_mask <| x_aload rfl <| x_iload rfl <| x_iload rfl <| y_invV2 (Nat.le_of_ble_eq_true rfl) rfl (Nat.le_of_ble_eq_true rfl) <| jEv.exV (kX6_exchange _ _ _ _ _ _ hc3) <| x_iinc rfl rfl <| x_iinc rfl rfl <| y_mask <| y_goto ?_
    refine jWP.intro (pr := pX6_nextOrder) (pc := 91) ?_
    have hk := k1 _ (Option.some.inj h).symm
    exact hk
set_option maxRecDepth 20000 in
theorem tjX6_nextOrder_73 (d n : Nat) (A : Nat → Nat → Int32) (L : Nat → Nat → Int64) (l1 : Int32) (l2 : Int32) {Q : Option Value → jM → Prop} {z : (Int32 × (Nat → Nat → Int32))} (h : jX6_nextOrder_73 A l1 l2 = some z) (k3 : (narrow .boolean (.int z.1) = .int z.1) → Q (some (.int z.1)) (Sh0 n, z.2, L)) : pX6_nextOrder (jEv jtab (d + 1), jWP (jEv jtab (d + 1)) Q ((Sh0 n).length, jsl (Sh0 n)) pX6_nextOrder, Q, ((Sh0 n).length, jsl (Sh0 n))) 73 [some (.ref 16), some (.int l1), some (.int l2), none, none] [] (Sh0 n, A, L) := by
  unfold jX6_nextOrder_73 at h
  obtain ⟨r1, hc2, h⟩ := of_bind h
  refine y_mask <| x_aload rfl <| x_iload rfl <| x_iload rfl <| y_invV2 (Nat.le_of_ble_eq_true rfl) rfl (Nat.le_of_ble_eq_true rfl) <| jEv.exV (kX6_exchange _ _ _ _ _ _ hc2) <| x_iload rfl <| x_push <| x_iadd <| x_istore rfl <| x_aload rfl <| x_getI (Nat.le_of_ble_eq_true rfl) rfl rfl <| x_push <| x_isub <| x_istore rfl <| y_mask <| y_goto ?_
  obtain ⟨e3, hw4, h⟩ := of_bind h
  refine jWP.intro (pr := pX6_nextOrder) (pc := 91) ?_
  refine jwh_use (G := (fun s0 => pX6_nextOrder (jEv jtab (d + 1), jWP (jEv jtab (d + 1)) Q ((Sh0 n).length, jsl (Sh0 n)) pX6_nextOrder, Q, ((Sh0 n).length, jsl (Sh0 n))) 91 [some (.ref 16), none, none, some (.int s0.1), some (.int s0.2.1)] [] (Sh0 n, s0.2.2, L))) (Gx := (fun s0 => pX6_nextOrder (jEv jtab (d + 1), jWP (jEv jtab (d + 1)) Q ((Sh0 n).length, jsl (Sh0 n)) pX6_nextOrder, Q, ((Sh0 n).length, jsl (Sh0 n))) 113 [none, none, none, none, none] [] (Sh0 n, s0, L))) (fun s1 z1 hz kk1 kk2 => tcX6_nextOrder_91 d n r1 L s1 hz kk1 kk2) hw4 ?_
  refine y_mpri (bs := []) (ls := []) ?_
  obtain rfl := Option.some.inj h
  exact k3 (jnar_boolean (.inr rfl))
set_option maxRecDepth 20000 in
theorem tjX6_nextOrder_34 (d n : Nat) (A : Nat → Nat → Int32) (L : Nat → Nat → Int64) (l1 : Int32) {Q : Option Value → jM → Prop} {z : (Int32 × (Nat → Nat → Int32))} (h : jX6_nextOrder_34 A l1 = some z) (k3 : (narrow .boolean (.int z.1) = .int z.1) → Q (some (.int z.1)) (Sh0 n, z.2, L)) : pX6_nextOrder (jEv jtab (d + 1), jWP (jEv jtab (d + 1)) Q ((Sh0 n).length, jsl (Sh0 n)) pX6_nextOrder, Q, ((Sh0 n).length, jsl (Sh0 n))) 34 [some (.ref 16), some (.int l1), none, none, none] [] (Sh0 n, A, L) := by
  unfold jX6_nextOrder_34 at h
  refine y_mask <| x_iload rfl <| y_if_ge (fun h1 => ?_) (fun h1 => ?_)
  · replace h := of_pos h h1
    refine jWP.intro (pr := pX6_nextOrder) (pc := 40) ?_
    refine y_mask <| x_aload rfl <| x_getI (Nat.le_of_ble_eq_true rfl) rfl rfl <| x_push <| x_isub <| x_istore rfl <| y_mask <| y_goto ?_
    obtain ⟨e2, hw3, h⟩ := of_bind h
    refine jWP.intro (pr := pX6_nextOrder) (pc := 47) ?_
    refine jwh_use (G := (fun s0 => pX6_nextOrder (jEv jtab (d + 1), jWP (jEv jtab (d + 1)) Q ((Sh0 n).length, jsl (Sh0 n)) pX6_nextOrder, Q, ((Sh0 n).length, jsl (Sh0 n))) 47 [some (.ref 16), some (.int l1), some (.int s0), none, none] [] (Sh0 n, A, L))) (Gx := (fun s0 => pX6_nextOrder (jEv jtab (d + 1), jWP (jEv jtab (d + 1)) Q ((Sh0 n).length, jsl (Sh0 n)) pX6_nextOrder, Q, ((Sh0 n).length, jsl (Sh0 n))) 73 [some (.ref 16), some (.int l1), some (.int s0), none, none] [] (Sh0 n, A, L))) (fun s1 z1 hz kk1 kk2 => tcX6_nextOrder_47 d n A L l1 s1 hz kk1 kk2) hw3 ?_
    exact tjX6_nextOrder_73 d n A L l1 e2 h k3
  · replace h := of_neg h h1
    refine jWP.intro (pr := pX6_nextOrder) (pc := 38) ?_
    refine y_mpri (bs := []) (ls := []) ?_
    obtain rfl := Option.some.inj h
    exact k3 (jnar_boolean (.inl rfl))
set_option maxRecDepth 20000 in
theorem tfX6_nextOrder (d n : Nat) (A : Nat → Nat → Int32) (L : Nat → Nat → Int64) {Q : Option Value → jM → Prop} {z : (Int32 × (Nat → Nat → Int32))} (h : fX6_nextOrder A = some z) (k3 : (narrow .boolean (.int z.1) = .int z.1) → Q (some (.int z.1)) (Sh0 n, z.2, L)) : pX6_nextOrder (jEv jtab (d + 1), jWP (jEv jtab (d + 1)) Q ((Sh0 n).length, jsl (Sh0 n)) pX6_nextOrder, Q, ((Sh0 n).length, jsl (Sh0 n))) 0 [some (.ref 16), none, none, none, none] [] (Sh0 n, A, L) := by
  unfold fX6_nextOrder at h
  refine y_mask <| x_aload rfl <| x_getI (Nat.le_of_ble_eq_true rfl) rfl rfl <| x_push <| x_isub <| x_istore rfl <| y_mask <| y_goto ?_
  obtain ⟨e1, hw2, h⟩ := of_bind h
  refine jWP.intro (pr := pX6_nextOrder) (pc := 7) ?_
  refine jwh_use (G := (fun s0 => pX6_nextOrder (jEv jtab (d + 1), jWP (jEv jtab (d + 1)) Q ((Sh0 n).length, jsl (Sh0 n)) pX6_nextOrder, Q, ((Sh0 n).length, jsl (Sh0 n))) 7 [some (.ref 16), some (.int s0), none, none, none] [] (Sh0 n, A, L))) (Gx := (fun s0 => pX6_nextOrder (jEv jtab (d + 1), jWP (jEv jtab (d + 1)) Q ((Sh0 n).length, jsl (Sh0 n)) pX6_nextOrder, Q, ((Sh0 n).length, jsl (Sh0 n))) 34 [some (.ref 16), some (.int s0), none, none, none] [] (Sh0 n, A, L))) (fun s1 z1 hz kk1 kk2 => tcX6_nextOrder_7 d n A L s1 hz kk1 kk2) hw2 ?_
  exact tjX6_nextOrder_34 d n A L e1 h k3
theorem kX6_nextOrder (d n : Nat) (A : Nat → Nat → Int32) (L : Nat → Nat → Int64) {z : (Int32 × (Nat → Nat → Int32))} (h : fX6_nextOrder A = some z) : jEv jtab (d + 2) 74 [.ref 16] (Sh0 n, A, L) 0 0 (fun r M2 => r = some (.int z.1) ∧ M2 = (Sh0 n, z.2, L)) :=
  jEv.mk (mt := mX6_nextOrder) rfl (Nat.le_of_ble_eq_true rfl) (jWP.intro (pr := pX6_nextOrder) (pc := 0) (tfX6_nextOrder d n A L h (fun hz => ⟨hz, jCn.mk ⟨rfl, rfl⟩⟩)))
set_option maxRecDepth 20000 in
theorem tjX6_tryAllOrders_57_9 (d n : Nat) (A : Nat → Nat → Int32) (L : Nat → Nat → Int64) (l1 : Int64) (l4 : Int32) {Q : Option Value → jM → Prop} {z : ((Int64 × Int32 × Int32 × (Nat → Nat → Int32)) ⊕ (Int64 × (Nat → Nat → Int32)))} (h : jX6_tryAllOrders_57_9 A l1 l4 = some z) (k1 : ∀ s0, z = .inl s0 → pX6_tryAllOrders (jEv jtab (d + 5), jWP (jEv jtab (d + 5)) Q ((Sh0 n).length, jsl (Sh0 n)) pX6_tryAllOrders, Q, ((Sh0 n).length, jsl (Sh0 n))) 9 [some (.ref 16), some (.long s0.1), none, some (.int s0.2.1), some (.int s0.2.2.1), none, none] [] (Sh0 n, s0.2.2.2, L)) (k2 : ∀ s0, z = .inr s0 → pX6_tryAllOrders (jEv jtab (d + 5), jWP (jEv jtab (d + 5)) Q ((Sh0 n).length, jsl (Sh0 n)) pX6_tryAllOrders, Q, ((Sh0 n).length, jsl (Sh0 n))) 68 [some (.ref 16), some (.long s0.1), none, none, none, none, none] [] (Sh0 n, s0.2, L)) : pX6_tryAllOrders (jEv jtab (d + 5), jWP (jEv jtab (d + 5)) Q ((Sh0 n).length, jsl (Sh0 n)) pX6_tryAllOrders, Q, ((Sh0 n).length, jsl (Sh0 n))) 57 [some (.ref 16), some (.long l1), none, none, some (.int l4), none, none] [] (Sh0 n, A, L) := by
  unfold jX6_tryAllOrders_57_9 at h
  obtain ⟨r1, hc2, h⟩ := of_bind h
  refine y_mask <| x_aload rfl <| y_invV0 (Nat.le_of_ble_eq_true rfl) rfl (Nat.le_of_ble_eq_true rfl) <| jEv.exZ (q := 74) rfl (kX6_nextOrder _ _ _ _ hc2) <| fun hz3 => x_istore rfl <| x_iinc rfl rfl <| y_mask <| y_goto ?_
  refine jWP.intro (pr := pX6_tryAllOrders) (pc := 9) ?_
  have hk := k1 _ (Option.some.inj h).symm
  exact hk
set_option maxRecDepth 20000 in
theorem tcX6_tryAllOrders_9 (d n : Nat) (A : Nat → Nat → Int32) (L : Nat → Nat → Int64) (s : (Int64 × Int32 × Int32 × (Nat → Nat → Int32))) {Q : Option Value → jM → Prop} {z : ((Int64 × Int32 × Int32 × (Nat → Nat → Int32)) ⊕ (Int64 × (Nat → Nat → Int32)))} (h : cX6_tryAllOrders_9 s = some z) (k1 : ∀ s0, z = .inl s0 → pX6_tryAllOrders (jEv jtab (d + 5), jWP (jEv jtab (d + 5)) Q ((Sh0 n).length, jsl (Sh0 n)) pX6_tryAllOrders, Q, ((Sh0 n).length, jsl (Sh0 n))) 9 [some (.ref 16), some (.long s0.1), none, some (.int s0.2.1), some (.int s0.2.2.1), none, none] [] (Sh0 n, s0.2.2.2, L)) (k2 : ∀ s0, z = .inr s0 → pX6_tryAllOrders (jEv jtab (d + 5), jWP (jEv jtab (d + 5)) Q ((Sh0 n).length, jsl (Sh0 n)) pX6_tryAllOrders, Q, ((Sh0 n).length, jsl (Sh0 n))) 68 [some (.ref 16), some (.long s0.1), none, none, none, none, none] [] (Sh0 n, s0.2, L)) : pX6_tryAllOrders (jEv jtab (d + 5), jWP (jEv jtab (d + 5)) Q ((Sh0 n).length, jsl (Sh0 n)) pX6_tryAllOrders, Q, ((Sh0 n).length, jsl (Sh0 n))) 9 [some (.ref 16), some (.long s.1), none, some (.int s.2.1), some (.int s.2.2.1), none, none] [] (Sh0 n, s.2.2.2, L) := by
  unfold cX6_tryAllOrders_9 at h
  refine y_mask <| x_iload rfl <| x_push <| y_cmp_ge (fun h1 => ?_) (fun h1 => ?_)
  · replace h := of_pos h h1
    refine jWP.intro (pr := pX6_tryAllOrders) (pc := 68) ?_
    have hk := k2 _ (Option.some.inj h).symm
    exact hk
  · replace h := of_neg h h1
    refine jWP.intro (pr := pX6_tryAllOrders) (pc := 16) ?_
    refine y_mask <| x_iload rfl <| y_if_eq (fun h2 => ?_) (fun h2 => ?_)
    · replace h := of_pos h h2
      refine jWP.intro (pr := pX6_tryAllOrders) (pc := 68) ?_
      have hk := k2 _ (Option.some.inj h).symm
      exact hk
    · replace h := of_neg h h2
      refine jWP.intro (pr := pX6_tryAllOrders) (pc := 20) ?_
      obtain ⟨r3, hc4, h⟩ := of_bind h
      refine y_mask <| x_aload rfl <| x_aload rfl <| x_getI (Nat.le_of_ble_eq_true rfl) rfl rfl <| y_invV1 (Nat.le_of_ble_eq_true rfl) rfl (Nat.le_of_ble_eq_true rfl) <| jEv.exL (kX6_walk _ _ _ _ _ hc4) <| x_lstore rfl <| x_lload rfl <| x_lload rfl <| x_lcmp <| y_if_le (fun h5 => ?_) (fun h5 => ?_)
      · replace h := of_pos h h5
        refine jWP.intro (pr := pX6_tryAllOrders) (pc := 57) ?_
        exact tjX6_tryAllOrders_57_9 d n r3.2 L s.1 s.2.2.1 h k1 k2
      · replace h := of_neg h h5
        refine jWP.intro (pr := pX6_tryAllOrders) (pc := 37) ?_
        obtain ⟨g6, h⟩ := of_guard h
        obtain ⟨m7, hm8, h⟩ := of_bind h
        refine y_mask <| x_lload rfl <| x_lstore rfl <| x_aload rfl <| x_getR (Nat.le_of_ble_eq_true rfl) rfl rfl <| x_push <| x_aload rfl <| x_getR (Nat.le_of_ble_eq_true rfl) rfl rfl <| x_push <| x_aload rfl <| x_getI (Nat.le_of_ble_eq_true rfl) rfl rfl <| x_copy (Nat.le_of_ble_eq_true rfl) rfl rfl g6.1 g6.2.1 g6.2.2.1 g6.2.2.2.1 g6.2.2.2.2 (Nat.le_of_ble_eq_true rfl) <| y_let (Option.some.inj hm8) <| y_mask <| y_goto ?_
        refine jWP.intro (pr := pX6_tryAllOrders) (pc := 57) ?_
        exact tjX6_tryAllOrders_57_9 d n m7 L r3.1 s.2.2.1 h k1 k2
set_option maxRecDepth 20000 in
theorem tjX6_tryAllOrders_68 (d n : Nat) (A : Nat → Nat → Int32) (L : Nat → Nat → Int64) (l1 : Int64) {Q : Option Value → jM → Prop} {z : (Int64 × (Nat → Nat → Int32))} (h : jX6_tryAllOrders_68 A l1 = some z) (k3 : Q (some (.long z.1)) (Sh0 n, z.2, L)) : pX6_tryAllOrders (jEv jtab (d + 5), jWP (jEv jtab (d + 5)) Q ((Sh0 n).length, jsl (Sh0 n)) pX6_tryAllOrders, Q, ((Sh0 n).length, jsl (Sh0 n))) 68 [some (.ref 16), some (.long l1), none, none, none, none, none] [] (Sh0 n, A, L) := by
  unfold jX6_tryAllOrders_68 at h
  obtain ⟨g1, h⟩ := of_guard h
  obtain ⟨m2, hm3, h⟩ := of_bind h
  refine y_mask <| x_aload rfl <| x_getR (Nat.le_of_ble_eq_true rfl) rfl rfl <| x_push <| x_aload rfl <| x_getR (Nat.le_of_ble_eq_true rfl) rfl rfl <| x_push <| x_aload rfl <| x_getI (Nat.le_of_ble_eq_true rfl) rfl rfl <| x_copy (Nat.le_of_ble_eq_true rfl) rfl rfl g1.1 g1.2.1 g1.2.2.1 g1.2.2.2.1 g1.2.2.2.2 (Nat.le_of_ble_eq_true rfl) <| y_let (Option.some.inj hm3) <| x_lload rfl <| y_lreturn (ls := [some (.ref 16), some (.long l1), none, none, none, none, none]) ?_
  obtain rfl := Option.some.inj h
  exact k3
set_option maxRecDepth 20000 in
theorem tfX6_tryAllOrders (d n : Nat) (A : Nat → Nat → Int32) (L : Nat → Nat → Int64) {Q : Option Value → jM → Prop} {z : (Int64 × (Nat → Nat → Int32))} (h : fX6_tryAllOrders A = some z) (k3 : Q (some (.long z.1)) (Sh0 n, z.2, L)) : pX6_tryAllOrders (jEv jtab (d + 5), jWP (jEv jtab (d + 5)) Q ((Sh0 n).length, jsl (Sh0 n)) pX6_tryAllOrders, Q, ((Sh0 n).length, jsl (Sh0 n))) 0 [some (.ref 16), none, none, none, none, none, none] [] (Sh0 n, A, L) := by
  unfold fX6_tryAllOrders at h
  refine y_mask <| x_push <| x_lstore rfl <| x_push <| x_istore rfl <| x_push <| x_istore rfl <| y_mask <| y_goto ?_
  obtain ⟨e1, hw2, h⟩ := of_bind h
  refine jWP.intro (pr := pX6_tryAllOrders) (pc := 9) ?_
  refine jwh_use (G := (fun s0 => pX6_tryAllOrders (jEv jtab (d + 5), jWP (jEv jtab (d + 5)) Q ((Sh0 n).length, jsl (Sh0 n)) pX6_tryAllOrders, Q, ((Sh0 n).length, jsl (Sh0 n))) 9 [some (.ref 16), some (.long s0.1), none, some (.int s0.2.1), some (.int s0.2.2.1), none, none] [] (Sh0 n, s0.2.2.2, L))) (Gx := (fun s0 => pX6_tryAllOrders (jEv jtab (d + 5), jWP (jEv jtab (d + 5)) Q ((Sh0 n).length, jsl (Sh0 n)) pX6_tryAllOrders, Q, ((Sh0 n).length, jsl (Sh0 n))) 68 [some (.ref 16), some (.long s0.1), none, none, none, none, none] [] (Sh0 n, s0.2, L))) (fun s1 z1 hz kk1 kk2 => tcX6_tryAllOrders_9 d n A L s1 hz kk1 kk2) hw2 ?_
  exact tjX6_tryAllOrders_68 d n e1.2 L e1.1 h k3
theorem kX6_tryAllOrders (d n : Nat) (A : Nat → Nat → Int32) (L : Nat → Nat → Int64) {z : (Int64 × (Nat → Nat → Int32))} (h : fX6_tryAllOrders A = some z) : jEv jtab (d + 6) 73 [.ref 16] (Sh0 n, A, L) 0 0 (fun r M2 => r = some (.long z.1) ∧ M2 = (Sh0 n, z.2, L)) :=
  jEv.mk (mt := mX6_tryAllOrders) rfl (Nat.le_of_ble_eq_true rfl) (jWP.intro (pr := pX6_tryAllOrders) (pc := 0) (tfX6_tryAllOrders d n A L h ⟨trivial, jCn.mk ⟨rfl, rfl⟩⟩))
set_option maxRecDepth 20000 in
theorem tjX10_best_59 (d n : Nat) (A : Nat → Nat → Int32) (L : Nat → Nat → Int64) (l1 : Int32) (l2 : Int64) (s0 : Int64) {Q : Option Value → jM → Prop} {z : (Int64 × (Nat → Nat → Int32))} (h : jX10_best_59 A l1 l2 s0 = some z) (k3 : Q (some (.long z.1)) (Sh0 n, z.2, L)) : pX10_best (jEv jtab (d + 7), jWP (jEv jtab (d + 7)) Q ((Sh0 n).length, jsl (Sh0 n)) pX10_best, Q, ((Sh0 n).length, jsl (Sh0 n))) 59 [some (.ref 15), some (.int l1), some (.long l2), none, none, none] [.long s0] (Sh0 n, A, L) := by
  unfold jX10_best_59 at h
  refine y_mask <| x_lstore rfl <| x_iload rfl <| y_if_ne (fun h1 => ?_) (fun h1 => ?_)
  · replace h := of_neg h h1
    refine jWP.intro (pr := pX10_best) (pc := 73) ?_
    refine y_mask <| x_iload rfl <| x_push <| y_cmp_ne (fun h2 => ?_) (fun h2 => ?_)
    · replace h := of_neg h h2
      refine jWP.intro (pr := pX10_best) (pc := 83) ?_
      refine y_mask <| x_lload rfl <| x_lload rfl <| x_lsub <| y_mask <| y_goto ?_
      refine jWP.intro (pr := pX10_best) (pc := 87) ?_
      refine y_mrl (bs := []) (ls := []) ?_
      obtain rfl := Option.some.inj h
      exact k3
    · replace h := of_pos h h2
      refine jWP.intro (pr := pX10_best) (pc := 78) ?_
      refine y_mask <| x_lload rfl <| y_mask <| y_goto ?_
      refine jWP.intro (pr := pX10_best) (pc := 87) ?_
      refine y_mrl (bs := []) (ls := []) ?_
      obtain rfl := Option.some.inj h
      exact k3
  · replace h := of_pos h h1
    refine jWP.intro (pr := pX10_best) (pc := 65) ?_
    obtain ⟨r3, hc4, h⟩ := of_bind h
    refine y_mask <| x_aload rfl <| x_getR (Nat.le_of_ble_eq_true rfl) rfl rfl <| y_invV0 (Nat.le_of_ble_eq_true rfl) rfl (Nat.le_of_ble_eq_true rfl) <| jEv.exL (kX6_orderAsDigits _ _ _ _ hc4) <| y_lreturn (ls := [some (.ref 15), none, none, none, none, none]) ?_
    obtain rfl := Option.some.inj h
    exact k3
set_option maxRecDepth 20000 in
theorem tfX10_best (d n : Nat) (A : Nat → Nat → Int32) (L : Nat → Nat → Int64) (l1 : Int32) {Q : Option Value → jM → Prop} {z : (Int64 × (Nat → Nat → Int32))} (h : fX10_best A l1 = some z) (k3 : Q (some (.long z.1)) (Sh0 n, z.2, L)) : pX10_best (jEv jtab (d + 7), jWP (jEv jtab (d + 7)) Q ((Sh0 n).length, jsl (Sh0 n)) pX10_best, Q, ((Sh0 n).length, jsl (Sh0 n))) 0 [some (.ref 15), some (.int l1), none, none, none, none] [] (Sh0 n, A, L) := by
  unfold fX10_best at h
  refine y_mask <| x_iload rfl <| x_push <| x_push <| y_invS3 (Nat.le_of_ble_eq_true rfl) <| jEv.exZ (q := 152) rfl (kX10_within _ _ _ _ _ _ _) <| fun hz1 => y_if_ne (fun h2 => ?_) (fun h2 => ?_)
  · replace h := of_neg h h2
    refine jWP.intro (pr := pX10_best) (pc := 13) ?_
    obtain ⟨r3, hc4, h⟩ := of_bind h
    refine y_mask <| x_aload rfl <| x_getR (Nat.le_of_ble_eq_true rfl) rfl rfl <| x_aload rfl <| x_getR (Nat.le_of_ble_eq_true rfl) rfl rfl <| x_getR (Nat.le_of_ble_eq_true rfl) rfl rfl <| y_invV0 (Nat.le_of_ble_eq_true rfl) rfl (Nat.le_of_ble_eq_true rfl) <| jEv.exI (kX4_near _ _ _ _) <| y_invV1 (Nat.le_of_ble_eq_true rfl) rfl (Nat.le_of_ble_eq_true rfl) <| jEv.exL (kX6_worthAsTheyCame _ _ _ _ _ hc4) <| x_lstore rfl <| x_aload rfl <| x_getR (Nat.le_of_ble_eq_true rfl) rfl rfl <| x_getI (Nat.le_of_ble_eq_true rfl) rfl rfl <| x_push <| y_cmp_gt (fun h5 => ?_) (fun h5 => ?_)
    · replace h := of_pos h h5
      refine jWP.intro (pr := pX10_best) (pc := 52) ?_
      obtain ⟨r6, hc7, h⟩ := of_bind h
      refine y_mask <| x_aload rfl <| x_getR (Nat.le_of_ble_eq_true rfl) rfl rfl <| y_invV0 (Nat.le_of_ble_eq_true rfl) rfl (Nat.le_of_ble_eq_true rfl) <| jEv.exL (kX6_exchangeWhileBetter _ _ _ _ hc7) <| y_mask <| y_goto ?_
      refine jWP.intro (pr := pX10_best) (pc := 59) ?_
      exact tjX10_best_59 d n r6.2 L l1 r3.1 r6.1 h k3
    · replace h := of_neg h h5
      refine jWP.intro (pr := pX10_best) (pc := 42) ?_
      obtain ⟨r8, hc9, h⟩ := of_bind h
      refine y_mask <| x_aload rfl <| x_getR (Nat.le_of_ble_eq_true rfl) rfl rfl <| y_invV0 (Nat.le_of_ble_eq_true rfl) rfl (Nat.le_of_ble_eq_true rfl) <| jEv.exL (kX6_tryAllOrders _ _ _ _ hc9) <| y_mask <| y_goto ?_
      refine jWP.intro (pr := pX10_best) (pc := 59) ?_
      exact tjX10_best_59 d n r8.2 L l1 r3.1 r8.1 h k3
  · replace h := of_pos h h2
    refine jWP.intro (pr := pX10_best) (pc := 9) ?_
    refine y_mprl (bs := []) (ls := []) ?_
    obtain rfl := Option.some.inj h
    exact k3
theorem kX10_best (d n : Nat) (A : Nat → Nat → Int32) (L : Nat → Nat → Int64) (l1 : Int32) {z : (Int64 × (Nat → Nat → Int32))} (h : fX10_best A l1 = some z) : jEv jtab (d + 8) 121 [.ref 15, .int l1] (Sh0 n, A, L) 0 0 (fun r M2 => r = some (.long z.1) ∧ M2 = (Sh0 n, z.2, L)) :=
  jEv.mk (mt := mX10_best) rfl (Nat.le_of_ble_eq_true rfl) (jWP.intro (pr := pX10_best) (pc := 0) (tfX10_best d n A L l1 h ⟨trivial, jCn.mk ⟨rfl, rfl⟩⟩))
set_option maxRecDepth 20000 in
theorem tcX10_side_13 (d n : Nat) (A : Nat → Nat → Int32) (L : Nat → Nat → Int64) (s : (Int32 × Int64 × Int32 × (Nat → Nat → Int32))) {Q : Option Value → jM → Prop} {z : ((Int32 × Int64 × Int32 × (Nat → Nat → Int32)) ⊕ (Int32 × (Nat → Nat → Int32)))} (h : cX10_side_13 s = some z) (k1 : ∀ s0, z = .inl s0 → pX10_side (jEv jtab (d + 6), jWP (jEv jtab (d + 6)) Q ((Sh0 n).length, jsl (Sh0 n)) pX10_side, Q, ((Sh0 n).length, jsl (Sh0 n))) 13 [some (.ref 15), some (.int s0.1), some (.long s0.2.1), none, some (.int s0.2.2.1), none, none] [] (Sh0 n, s0.2.2.2, L)) (k2 : ∀ s0, z = .inr s0 → pX10_side (jEv jtab (d + 6), jWP (jEv jtab (d + 6)) Q ((Sh0 n).length, jsl (Sh0 n)) pX10_side, Q, ((Sh0 n).length, jsl (Sh0 n))) 53 [none, some (.int s0.1), none, none, none, none, none] [] (Sh0 n, s0.2, L)) : pX10_side (jEv jtab (d + 6), jWP (jEv jtab (d + 6)) Q ((Sh0 n).length, jsl (Sh0 n)) pX10_side, Q, ((Sh0 n).length, jsl (Sh0 n))) 13 [some (.ref 15), some (.int s.1), some (.long s.2.1), none, some (.int s.2.2.1), none, none] [] (Sh0 n, s.2.2.2, L) := by
  unfold cX10_side_13 at h
  refine y_mask <| x_iload rfl <| x_push <| x_push <| x_iald rfl (by unfold vp_in; decide) <| y_cmp_gt (fun h1 => ?_) (fun h1 => ?_)
  · replace h := of_pos h h1
    refine jWP.intro (pr := pX10_side) (pc := 53) ?_
    have hk := k2 _ (Option.some.inj h).symm
    exact hk
  · replace h := of_neg h h1
    refine jWP.intro (pr := pX10_side) (pc := 23) ?_
    obtain ⟨r2, hc3, h⟩ := of_bind h
    refine y_mask <| x_aload rfl <| x_getR (Nat.le_of_ble_eq_true rfl) rfl rfl <| x_iload rfl <| y_invV1 (Nat.le_of_ble_eq_true rfl) rfl (Nat.le_of_ble_eq_true rfl) <| jEv.exL (kX6_worthAsTheyCame _ _ _ _ _ hc3) <| x_lstore rfl <| x_lload rfl <| x_lload rfl <| x_lcmp <| y_if_le (fun h4 => ?_) (fun h4 => ?_)
    · replace h := of_pos h h4
      refine jWP.intro (pr := pX10_side) (pc := 47) ?_
      refine y_mask <| x_iinc rfl rfl <| y_mask <| y_goto ?_
      refine jWP.intro (pr := pX10_side) (pc := 13) ?_
      have hk := k1 _ (Option.some.inj h).symm
      exact hk
    · replace h := of_neg h h4
      refine jWP.intro (pr := pX10_side) (pc := 41) ?_
      refine y_mask <| x_lload rfl <| x_lstore rfl <| x_iload rfl <| x_istore rfl <| y_mask <| y_goto ?_
      refine jWP.intro (pr := pX10_side) (pc := 47) ?_
      refine y_mask <| x_iinc rfl rfl <| y_mask <| y_goto ?_
      refine jWP.intro (pr := pX10_side) (pc := 13) ?_
      have hk := k1 _ (Option.some.inj h).symm
      exact hk
set_option maxRecDepth 20000 in
theorem tfX10_side (d n : Nat) (A : Nat → Nat → Int32) (L : Nat → Nat → Int64) {Q : Option Value → jM → Prop} {z : (Int32 × (Nat → Nat → Int32))} (h : fX10_side A = some z) (k3 : Q (some (.int z.1)) (Sh0 n, z.2, L)) : pX10_side (jEv jtab (d + 6), jWP (jEv jtab (d + 6)) Q ((Sh0 n).length, jsl (Sh0 n)) pX10_side, Q, ((Sh0 n).length, jsl (Sh0 n))) 0 [some (.ref 15), none, none, none, none, none, none] [] (Sh0 n, A, L) := by
  unfold fX10_side at h
  refine y_mask <| x_push <| x_istore rfl <| x_push <| x_lstore rfl <| x_push <| x_push <| x_iald rfl (by unfold vp_in; decide) <| x_istore rfl <| y_mask <| y_goto ?_
  obtain ⟨e1, hw2, h⟩ := of_bind h
  refine jWP.intro (pr := pX10_side) (pc := 13) ?_
  refine jwh_use (G := (fun s0 => pX10_side (jEv jtab (d + 6), jWP (jEv jtab (d + 6)) Q ((Sh0 n).length, jsl (Sh0 n)) pX10_side, Q, ((Sh0 n).length, jsl (Sh0 n))) 13 [some (.ref 15), some (.int s0.1), some (.long s0.2.1), none, some (.int s0.2.2.1), none, none] [] (Sh0 n, s0.2.2.2, L))) (Gx := (fun s0 => pX10_side (jEv jtab (d + 6), jWP (jEv jtab (d + 6)) Q ((Sh0 n).length, jsl (Sh0 n)) pX10_side, Q, ((Sh0 n).length, jsl (Sh0 n))) 53 [none, some (.int s0.1), none, none, none, none, none] [] (Sh0 n, s0.2, L))) (fun s1 z1 hz kk1 kk2 => tcX10_side_13 d n A L s1 hz kk1 kk2) hw2 ?_
  refine y_mask <| x_iload rfl <| y_ireturn (ls := [none, some (.int e1.1), none, none, none, none, none]) ?_
  obtain rfl := Option.some.inj h
  exact k3
theorem kX10_side (d n : Nat) (A : Nat → Nat → Int32) (L : Nat → Nat → Int64) {z : (Int32 × (Nat → Nat → Int32))} (h : fX10_side A = some z) : jEv jtab (d + 7) 122 [.ref 15] (Sh0 n, A, L) 0 0 (fun r M2 => r = some (.int z.1) ∧ M2 = (Sh0 n, z.2, L)) :=
  jEv.mk (mt := mX10_side) rfl (Nat.le_of_ble_eq_true rfl) (jWP.intro (pr := pX10_side) (pc := 0) (tfX10_side d n A L h ⟨trivial, jCn.mk ⟨rfl, rfl⟩⟩))
set_option maxRecDepth 20000 in
theorem tfX6_worthWithout (d n : Nat) (A : Nat → Nat → Int32) (L : Nat → Nat → Int64) (l1 : Int32) {Q : Option Value → jM → Prop} {z : (Int64 × (Nat → Nat → Int32))} (h : fX6_worthWithout A l1 = some z) (k3 : Q (some (.long z.1)) (Sh0 n, z.2, L)) : pX6_worthWithout (jEv jtab (d + 5), jWP (jEv jtab (d + 5)) Q ((Sh0 n).length, jsl (Sh0 n)) pX6_worthWithout, Q, ((Sh0 n).length, jsl (Sh0 n))) 0 [some (.ref 16), some (.int l1)] [] (Sh0 n, A, L) := by
  unfold fX6_worthWithout at h
  obtain ⟨r1, hc2, h⟩ := of_bind h
  obtain ⟨r3, hc4, h⟩ := of_bind h
  refine y_mask <| x_aload rfl <| x_aload rfl <| x_iload rfl <| y_invV1 (Nat.le_of_ble_eq_true rfl) rfl (Nat.le_of_ble_eq_true rfl) <| jEv.exI (kX6_orderWithout _ _ _ _ _ hc2) <| y_invV1 (Nat.le_of_ble_eq_true rfl) rfl (Nat.le_of_ble_eq_true rfl) <| jEv.exL (kX6_walk _ _ _ _ _ hc4) <| y_lreturn (ls := [some (.ref 16), some (.int l1)]) ?_
  obtain rfl := Option.some.inj h
  exact k3
theorem kX6_worthWithout (d n : Nat) (A : Nat → Nat → Int32) (L : Nat → Nat → Int64) (l1 : Int32) {z : (Int64 × (Nat → Nat → Int32))} (h : fX6_worthWithout A l1 = some z) : jEv jtab (d + 6) 67 [.ref 16, .int l1] (Sh0 n, A, L) 0 0 (fun r M2 => r = some (.long z.1) ∧ M2 = (Sh0 n, z.2, L)) :=
  jEv.mk (mt := mX6_worthWithout) rfl (Nat.le_of_ble_eq_true rfl) (jWP.intro (pr := pX6_worthWithout) (pc := 0) (tfX6_worthWithout d n A L l1 h ⟨trivial, jCn.mk ⟨rfl, rfl⟩⟩))
set_option maxRecDepth 20000 in
theorem tcX10_leave_28 (d n : Nat) (A : Nat → Nat → Int32) (L : Nat → Nat → Int64) (l1 : Int64) (s : (Int32 × Int64 × Int32 × (Nat → Nat → Int32))) {Q : Option Value → jM → Prop} {z : ((Int32 × Int64 × Int32 × (Nat → Nat → Int32)) ⊕ (Int32 × Int64 × (Nat → Nat → Int32)))} (h : cX10_leave_28 l1 s = some z) (k1 : ∀ s0, z = .inl s0 → pX10_leave (jEv jtab (d + 6), jWP (jEv jtab (d + 6)) Q ((Sh0 n).length, jsl (Sh0 n)) pX10_leave, Q, ((Sh0 n).length, jsl (Sh0 n))) 28 [some (.ref 15), some (.long l1), none, some (.int s0.1), some (.long s0.2.1), none, some (.int s0.2.2.1), none, none] [] (Sh0 n, s0.2.2.2, L)) (k2 : ∀ s0, z = .inr s0 → pX10_leave (jEv jtab (d + 6), jWP (jEv jtab (d + 6)) Q ((Sh0 n).length, jsl (Sh0 n)) pX10_leave, Q, ((Sh0 n).length, jsl (Sh0 n))) 72 [none, some (.long l1), none, some (.int s0.1), some (.long s0.2.1), none, none, none, none] [] (Sh0 n, s0.2.2, L)) : pX10_leave (jEv jtab (d + 6), jWP (jEv jtab (d + 6)) Q ((Sh0 n).length, jsl (Sh0 n)) pX10_leave, Q, ((Sh0 n).length, jsl (Sh0 n))) 28 [some (.ref 15), some (.long l1), none, some (.int s.1), some (.long s.2.1), none, some (.int s.2.2.1), none, none] [] (Sh0 n, s.2.2.2, L) := by
  unfold cX10_leave_28 at h
  refine y_mask <| x_iload rfl <| x_aload rfl <| x_getR (Nat.le_of_ble_eq_true rfl) rfl rfl <| x_getI (Nat.le_of_ble_eq_true rfl) rfl rfl <| y_cmp_ge (fun h1 => ?_) (fun h1 => ?_)
  · replace h := of_pos h h1
    refine jWP.intro (pr := pX10_leave) (pc := 72) ?_
    have hk := k2 _ (Option.some.inj h).symm
    exact hk
  · replace h := of_neg h h1
    refine jWP.intro (pr := pX10_leave) (pc := 40) ?_
    obtain ⟨r2, hc3, h⟩ := of_bind h
    refine y_mask <| x_aload rfl <| x_getR (Nat.le_of_ble_eq_true rfl) rfl rfl <| x_iload rfl <| y_invV1 (Nat.le_of_ble_eq_true rfl) rfl (Nat.le_of_ble_eq_true rfl) <| jEv.exL (kX6_worthWithout _ _ _ _ _ hc3) <| x_lstore rfl <| x_lload rfl <| x_lload rfl <| x_lcmp <| y_if_le (fun h4 => ?_) (fun h4 => ?_)
    · replace h := of_pos h h4
      refine jWP.intro (pr := pX10_leave) (pc := 66) ?_
      refine y_mask <| x_iinc rfl rfl <| y_mask <| y_goto ?_
      refine jWP.intro (pr := pX10_leave) (pc := 28) ?_
      have hk := k1 _ (Option.some.inj h).symm
      exact hk
    · replace h := of_neg h h4
      refine jWP.intro (pr := pX10_leave) (pc := 59) ?_
      refine y_mask <| x_lload rfl <| x_lstore rfl <| x_iload rfl <| x_istore rfl <| y_mask <| y_goto ?_
      refine jWP.intro (pr := pX10_leave) (pc := 66) ?_
      refine y_mask <| x_iinc rfl rfl <| y_mask <| y_goto ?_
      refine jWP.intro (pr := pX10_leave) (pc := 28) ?_
      have hk := k1 _ (Option.some.inj h).symm
      exact hk
set_option maxRecDepth 20000 in
theorem tfX10_leave (d n : Nat) (A : Nat → Nat → Int32) (L : Nat → Nat → Int64) {Q : Option Value → jM → Prop} {z : (Int32 × (Nat → Nat → Int32))} (h : fX10_leave A = some z) (k3 : Q (some (.int z.1)) (Sh0 n, z.2, L)) : pX10_leave (jEv jtab (d + 6), jWP (jEv jtab (d + 6)) Q ((Sh0 n).length, jsl (Sh0 n)) pX10_leave, Q, ((Sh0 n).length, jsl (Sh0 n))) 0 [some (.ref 15), none, none, none, none, none, none, none, none] [] (Sh0 n, A, L) := by
  unfold fX10_leave at h
  obtain ⟨r1, hc2, h⟩ := of_bind h
  refine y_mask <| x_aload rfl <| x_getR (Nat.le_of_ble_eq_true rfl) rfl rfl <| x_aload rfl <| x_getR (Nat.le_of_ble_eq_true rfl) rfl rfl <| x_getR (Nat.le_of_ble_eq_true rfl) rfl rfl <| y_invV0 (Nat.le_of_ble_eq_true rfl) rfl (Nat.le_of_ble_eq_true rfl) <| jEv.exI (kX4_near _ _ _ _) <| y_invV1 (Nat.le_of_ble_eq_true rfl) rfl (Nat.le_of_ble_eq_true rfl) <| jEv.exL (kX6_worthAsTheyCame _ _ _ _ _ hc2) <| x_lstore rfl <| x_push <| x_istore rfl <| x_push <| x_lstore rfl <| x_push <| x_istore rfl <| y_mask <| y_goto ?_
  obtain ⟨e3, hw4, h⟩ := of_bind h
  refine jWP.intro (pr := pX10_leave) (pc := 28) ?_
  refine jwh_use (G := (fun s0 => pX10_leave (jEv jtab (d + 6), jWP (jEv jtab (d + 6)) Q ((Sh0 n).length, jsl (Sh0 n)) pX10_leave, Q, ((Sh0 n).length, jsl (Sh0 n))) 28 [some (.ref 15), some (.long r1.1), none, some (.int s0.1), some (.long s0.2.1), none, some (.int s0.2.2.1), none, none] [] (Sh0 n, s0.2.2.2, L))) (Gx := (fun s0 => pX10_leave (jEv jtab (d + 6), jWP (jEv jtab (d + 6)) Q ((Sh0 n).length, jsl (Sh0 n)) pX10_leave, Q, ((Sh0 n).length, jsl (Sh0 n))) 72 [none, some (.long r1.1), none, some (.int s0.1), some (.long s0.2.1), none, none, none, none] [] (Sh0 n, s0.2.2, L))) (fun s1 z1 hz kk1 kk2 => tcX10_leave_28 d n r1.2 L r1.1 s1 hz kk1 kk2) hw4 ?_
  refine y_mask <| x_lload rfl <| x_lload rfl <| x_lcmp <| y_if_lt (fun h5 => ?_) (fun h5 => ?_)
  · replace h := of_pos h h5
    refine jWP.intro (pr := pX10_leave) (pc := 83) ?_
    refine y_mask <| x_push <| y_mask <| y_goto ?_
    refine jWP.intro (pr := pX10_leave) (pc := 84) ?_
    refine y_mri (bs := []) (ls := []) ?_
    obtain rfl := Option.some.inj h
    exact k3
  · replace h := of_neg h h5
    refine jWP.intro (pr := pX10_leave) (pc := 79) ?_
    refine y_mask <| x_iload rfl <| y_mask <| y_goto ?_
    refine jWP.intro (pr := pX10_leave) (pc := 84) ?_
    refine y_mri (bs := []) (ls := []) ?_
    obtain rfl := Option.some.inj h
    exact k3
theorem kX10_leave (d n : Nat) (A : Nat → Nat → Int32) (L : Nat → Nat → Int64) {z : (Int32 × (Nat → Nat → Int32))} (h : fX10_leave A = some z) : jEv jtab (d + 7) 123 [.ref 15] (Sh0 n, A, L) 0 0 (fun r M2 => r = some (.int z.1) ∧ M2 = (Sh0 n, z.2, L)) :=
  jEv.mk (mt := mX10_leave) rfl (Nat.le_of_ble_eq_true rfl) (jWP.intro (pr := pX10_leave) (pc := 0) (tfX10_leave d n A L h ⟨trivial, jCn.mk ⟨rfl, rfl⟩⟩))
set_option maxRecDepth 20000 in
theorem tfX9_add (d n : Nat) (A : Nat → Nat → Int32) (L : Nat → Nat → Int64) (l1 : Int32) (l2 : Int32) {Q : Option Value → jM → Prop} {z : (Int32 × (Nat → Nat → Int32))} (h : fX9_add A l1 l2 = some z) (k3 : Q (some (.int z.1)) (Sh0 n, z.2, L)) : pX9_add (jEv jtab (d + 0), jWP (jEv jtab (d + 0)) Q ((Sh0 n).length, jsl (Sh0 n)) pX9_add, Q, ((Sh0 n).length, jsl (Sh0 n))) 0 [some (.ref 54), some (.int l1), some (.int l2)] [] (Sh0 n, A, L) := by
  unfold fX9_add at h
  obtain ⟨g1, h⟩ := of_guard h
  obtain ⟨m2, hm3, h⟩ := of_bind h
  obtain ⟨g4, h⟩ := of_guard h
  obtain ⟨m5, hm6, h⟩ := of_bind h
  refine y_mask <| x_aload rfl <| x_getR (Nat.le_of_ble_eq_true rfl) rfl rfl <| x_aload rfl <| x_getI (Nat.le_of_ble_eq_true rfl) rfl rfl <| x_iload rfl <| x_iast (Nat.le_of_ble_eq_true rfl) rfl g1 <| y_let (Option.some.inj hm3) <| x_aload rfl <| x_getR (Nat.le_of_ble_eq_true rfl) rfl rfl <| x_aload rfl <| x_getI (Nat.le_of_ble_eq_true rfl) rfl rfl <| x_iload rfl <| x_iast (Nat.le_of_ble_eq_true rfl) rfl g4 <| y_let (Option.some.inj hm6) <| x_aload rfl <| x_dup rfl <| x_getI (Nat.le_of_ble_eq_true rfl) rfl rfl <| x_push <| x_iadd <| x_putI (Nat.le_of_ble_eq_true rfl) rfl rfl <| x_aload rfl <| x_getI (Nat.le_of_ble_eq_true rfl) rfl rfl <| x_push <| x_isub <| y_ireturn (ls := [some (.ref 54), some (.int l1), some (.int l2)]) ?_
  obtain rfl := Option.some.inj h
  exact k3
theorem kX9_add (d n : Nat) (A : Nat → Nat → Int32) (L : Nat → Nat → Int64) (l1 : Int32) (l2 : Int32) {z : (Int32 × (Nat → Nat → Int32))} (h : fX9_add A l1 l2 = some z) : jEv jtab (d + 1) 95 [.ref 54, .int l1, .int l2] (Sh0 n, A, L) 0 0 (fun r M2 => r = some (.int z.1) ∧ M2 = (Sh0 n, z.2, L)) :=
  jEv.mk (mt := mX9_add) rfl (Nat.le_of_ble_eq_true rfl) (jWP.intro (pr := pX9_add) (pc := 0) (tfX9_add d n A L l1 l2 h ⟨trivial, jCn.mk ⟨rfl, rfl⟩⟩))
set_option maxRecDepth 20000 in
theorem tfX10_word (d n : Nat) (A : Nat → Nat → Int32) (L : Nat → Nat → Int64) (l1 : Int32) (l2 : Int32) {Q : Option Value → jM → Prop} {z : (Int32 × (Nat → Nat → Int32))} (h : fX10_word A l1 l2 = some z) (k3 : Q (some (.int z.1)) (Sh0 n, z.2, L)) : pX10_word (jEv jtab (d + 1), jWP (jEv jtab (d + 1)) Q ((Sh0 n).length, jsl (Sh0 n)) pX10_word, Q, ((Sh0 n).length, jsl (Sh0 n))) 0 [some (.ref 15), some (.int l1), some (.int l2)] [] (Sh0 n, A, L) := by
  unfold fX10_word at h
  refine y_mask <| x_iload rfl <| x_push <| x_push <| y_invS3 (Nat.le_of_ble_eq_true rfl) <| jEv.exZ (q := 152) rfl (kX10_within _ _ _ _ _ _ _) <| fun hz1 => y_if_eq (fun h2 => ?_) (fun h2 => ?_)
  · replace h := of_pos h h2
    refine jWP.intro (pr := pX10_word) (pc := 21) ?_
    refine y_mpri (bs := []) (ls := []) ?_
    obtain rfl := Option.some.inj h
    exact k3
  · replace h := of_neg h h2
    refine jWP.intro (pr := pX10_word) (pc := 11) ?_
    refine y_mask <| x_iload rfl <| x_push <| x_push <| y_invS3 (Nat.le_of_ble_eq_true rfl) <| jEv.exZ (q := 152) rfl (kX10_within _ _ _ _ _ _ _) <| fun hz3 => y_if_ne (fun h4 => ?_) (fun h4 => ?_)
    · replace h := of_neg h h4
      refine jWP.intro (pr := pX10_word) (pc := 24) ?_
      refine y_mask <| x_aload rfl <| x_getR (Nat.le_of_ble_eq_true rfl) rfl rfl <| x_getI (Nat.le_of_ble_eq_true rfl) rfl rfl <| x_push <| y_cmp_lt (fun h5 => ?_) (fun h5 => ?_)
      · replace h := of_pos h h5
        refine jWP.intro (pr := pX10_word) (pc := 41) ?_
        obtain ⟨r6, hc7, h⟩ := of_bind h
        refine y_mask <| x_aload rfl <| x_getR (Nat.le_of_ble_eq_true rfl) rfl rfl <| x_iload rfl <| x_iload rfl <| y_invV2 (Nat.le_of_ble_eq_true rfl) rfl (Nat.le_of_ble_eq_true rfl) <| jEv.exI (kX9_add _ _ _ _ _ _ hc7) <| y_mask <| y_goto ?_
        refine jWP.intro (pr := pX10_word) (pc := 50) ?_
        refine y_mri (bs := []) (ls := []) ?_
        obtain rfl := Option.some.inj h
        exact k3
      · replace h := of_neg h h5
        refine jWP.intro (pr := pX10_word) (pc := 36) ?_
        refine y_mask <| x_push <| y_mask <| y_goto ?_
        refine jWP.intro (pr := pX10_word) (pc := 50) ?_
        refine y_mri (bs := []) (ls := []) ?_
        obtain rfl := Option.some.inj h
        exact k3
    · replace h := of_pos h h4
      refine jWP.intro (pr := pX10_word) (pc := 21) ?_
      refine y_mpri (bs := []) (ls := []) ?_
      obtain rfl := Option.some.inj h
      exact k3
theorem kX10_word (d n : Nat) (A : Nat → Nat → Int32) (L : Nat → Nat → Int64) (l1 : Int32) (l2 : Int32) {z : (Int32 × (Nat → Nat → Int32))} (h : fX10_word A l1 l2 = some z) : jEv jtab (d + 2) 124 [.ref 15, .int l1, .int l2] (Sh0 n, A, L) 0 0 (fun r M2 => r = some (.int z.1) ∧ M2 = (Sh0 n, z.2, L)) :=
  jEv.mk (mt := mX10_word) rfl (Nat.le_of_ble_eq_true rfl) (jWP.intro (pr := pX10_word) (pc := 0) (tfX10_word d n A L l1 l2 h ⟨trivial, jCn.mk ⟨rfl, rfl⟩⟩))
set_option maxRecDepth 20000 in
theorem tfX9_has (d n : Nat) (A : Nat → Nat → Int32) (L : Nat → Nat → Int64) (l1 : Int32) {Q : Option Value → jM → Prop} {z : Int32} (h : fX9_has A l1 = z) (k3 : (narrow .boolean (.int z) = .int z) → Q (some (.int z)) (Sh0 n, A, L)) : pX9_has (jEv jtab (d + 1), jWP (jEv jtab (d + 1)) Q ((Sh0 n).length, jsl (Sh0 n)) pX9_has, Q, ((Sh0 n).length, jsl (Sh0 n))) 0 [some (.ref 54), some (.int l1)] [] (Sh0 n, A, L) := by
  unfold fX9_has at h
  refine y_mask <| x_iload rfl <| x_push <| x_aload rfl <| x_getI (Nat.le_of_ble_eq_true rfl) rfl rfl <| x_push <| x_isub <| y_invS3 (Nat.le_of_ble_eq_true rfl) <| jEv.exZ (q := 152) rfl (kX10_within _ _ _ _ _ _ _) <| fun hz1 => y_ireturn (ls := [some (.ref 54), some (.int l1)]) ?_
  subst h
  exact k3 hz1
theorem kX9_has (d n : Nat) (A : Nat → Nat → Int32) (L : Nat → Nat → Int64) (l1 : Int32) : jEv jtab (d + 2) 96 [.ref 54, .int l1] (Sh0 n, A, L) 0 0 (fun r M2 => r = some (.int (fX9_has A l1)) ∧ M2 = (Sh0 n, A, L)) :=
  jEv.mk (mt := mX9_has) rfl (Nat.le_of_ble_eq_true rfl) (jWP.intro (pr := pX9_has) (pc := 0) (tfX9_has d n A L l1 rfl (fun hz => ⟨hz, jCn.mk ⟨rfl, rfl⟩⟩)))
set_option maxRecDepth 20000 in
theorem tfX10_mistake (d n : Nat) (A : Nat → Nat → Int32) (L : Nat → Nat → Int64) (l1 : Int32) (l2 : Int32) (l3 : Int32) {Q : Option Value → jM → Prop} {z : (Int32 × (Nat → Nat → Int32))} (h : fX10_mistake A l1 l2 l3 = some z) (k3 : Q (some (.int z.1)) (Sh0 n, z.2, L)) : pX10_mistake (jEv jtab (d + 2), jWP (jEv jtab (d + 2)) Q ((Sh0 n).length, jsl (Sh0 n)) pX10_mistake, Q, ((Sh0 n).length, jsl (Sh0 n))) 0 [some (.ref 15), some (.int l1), some (.int l2), some (.int l3), none] [] (Sh0 n, A, L) := by
  unfold fX10_mistake at h
  refine y_mask <| x_aload rfl <| x_getR (Nat.le_of_ble_eq_true rfl) rfl rfl <| x_iload rfl <| y_invV1 (Nat.le_of_ble_eq_true rfl) rfl (Nat.le_of_ble_eq_true rfl) <| jEv.exZ (q := 96) rfl (kX9_has _ _ _ _ _) <| fun hz1 => y_if_eq (fun h2 => ?_) (fun h2 => ?_)
  · replace h := of_pos h h2
    refine jWP.intro (pr := pX10_mistake) (pc := 22) ?_
    refine y_mpri (bs := []) (ls := []) ?_
    obtain rfl := Option.some.inj h
    exact k3
  · replace h := of_neg h h2
    refine jWP.intro (pr := pX10_mistake) (pc := 11) ?_
    refine y_mask <| x_aload rfl <| x_getR (Nat.le_of_ble_eq_true rfl) rfl rfl <| x_iload rfl <| y_invV1 (Nat.le_of_ble_eq_true rfl) rfl (Nat.le_of_ble_eq_true rfl) <| jEv.exZ (q := 96) rfl (kX9_has _ _ _ _ _) <| fun hz3 => y_if_ne (fun h4 => ?_) (fun h4 => ?_)
    · replace h := of_neg h h4
      refine jWP.intro (pr := pX10_mistake) (pc := 24) ?_
      refine y_mask <| x_iload rfl <| x_push <| x_push <| y_invS3 (Nat.le_of_ble_eq_true rfl) <| jEv.exZ (q := 152) rfl (kX10_within _ _ _ _ _ _ _) <| fun hz5 => y_if_ne (fun h6 => ?_) (fun h6 => ?_)
      · replace h := of_neg h h6
        refine jWP.intro (pr := pX10_mistake) (pc := 37) ?_
        obtain ⟨g7, h⟩ := of_guard h
        obtain ⟨g9, h⟩ := of_guard h
        obtain ⟨g10, h⟩ := of_guard h
        obtain ⟨g12, h⟩ := of_guard h
        obtain ⟨m13, hm14, h⟩ := of_bind h
        refine y_mask <| x_aload rfl <| x_getR (Nat.le_of_ble_eq_true rfl) rfl rfl <| x_getR (Nat.le_of_ble_eq_true rfl) rfl rfl <| x_iload rfl <| x_row (Nat.le_of_ble_eq_true rfl) rfl g7 <| fun hr8 => x_iload rfl <| x_iald (rows_56 (vp_lt g7)) g9 <| x_istore rfl <| x_aload rfl <| x_getR (Nat.le_of_ble_eq_true rfl) rfl rfl <| x_getR (Nat.le_of_ble_eq_true rfl) rfl rfl <| x_iload rfl <| x_row (Nat.le_of_ble_eq_true rfl) rfl g10 <| fun hr11 => x_iload rfl <| x_iload rfl <| x_iast (rowle (Nat.le_of_ble_eq_true rfl)) (rows_56 (vp_lt g10)) g12 <| y_let (Option.some.inj hm14) <| x_iload rfl <| y_ireturn (ls := [some (.ref 15), some (.int l1), some (.int l2), some (.int l3), some (.int (A (57 + (jx l1)) (jx l2)))]) ?_
        obtain rfl := Option.some.inj h
        exact k3
      · replace h := of_pos h h6
        refine jWP.intro (pr := pX10_mistake) (pc := 34) ?_
        refine y_mpri (bs := []) (ls := []) ?_
        obtain rfl := Option.some.inj h
        exact k3
    · replace h := of_pos h h4
      refine jWP.intro (pr := pX10_mistake) (pc := 22) ?_
      refine y_mpri (bs := []) (ls := []) ?_
      obtain rfl := Option.some.inj h
      exact k3
theorem kX10_mistake (d n : Nat) (A : Nat → Nat → Int32) (L : Nat → Nat → Int64) (l1 : Int32) (l2 : Int32) (l3 : Int32) {z : (Int32 × (Nat → Nat → Int32))} (h : fX10_mistake A l1 l2 l3 = some z) : jEv jtab (d + 3) 125 [.ref 15, .int l1, .int l2, .int l3] (Sh0 n, A, L) 0 0 (fun r M2 => r = some (.int z.1) ∧ M2 = (Sh0 n, z.2, L)) :=
  jEv.mk (mt := mX10_mistake) rfl (Nat.le_of_ble_eq_true rfl) (jWP.intro (pr := pX10_mistake) (pc := 0) (tfX10_mistake d n A L l1 l2 l3 h ⟨trivial, jCn.mk ⟨rfl, rfl⟩⟩))
set_option maxRecDepth 20000 in
theorem tcX9_allTakenOf_4 (d n : Nat) (A : Nat → Nat → Int32) (L : Nat → Nat → Int64) (l1 : Int32) (s : (Int32 × Int32)) {Q : Option Value → jM → Prop} {z : ((Int32 × Int32) ⊕ Int32)} (h : cX9_allTakenOf_4 A l1 s = some z) (k1 : ∀ s0, z = .inl s0 → pX9_allTakenOf (jEv jtab (d + 0), jWP (jEv jtab (d + 0)) Q ((Sh0 n).length, jsl (Sh0 n)) pX9_allTakenOf, Q, ((Sh0 n).length, jsl (Sh0 n))) 4 [some (.ref 54), some (.int l1), some (.int s0.1), some (.int s0.2)] [] (Sh0 n, A, L)) (k2 : ∀ s0, z = .inr s0 → pX9_allTakenOf (jEv jtab (d + 0), jWP (jEv jtab (d + 0)) Q ((Sh0 n).length, jsl (Sh0 n)) pX9_allTakenOf, Q, ((Sh0 n).length, jsl (Sh0 n))) 29 [none, none, some (.int s0), none] [] (Sh0 n, A, L)) : pX9_allTakenOf (jEv jtab (d + 0), jWP (jEv jtab (d + 0)) Q ((Sh0 n).length, jsl (Sh0 n)) pX9_allTakenOf, Q, ((Sh0 n).length, jsl (Sh0 n))) 4 [some (.ref 54), some (.int l1), some (.int s.1), some (.int s.2)] [] (Sh0 n, A, L) := by
  unfold cX9_allTakenOf_4 at h
  refine y_mask <| x_iload rfl <| x_aload rfl <| x_getI (Nat.le_of_ble_eq_true rfl) rfl rfl <| y_cmp_ge (fun h1 => ?_) (fun h1 => ?_)
  · replace h := of_pos h h1
    refine jWP.intro (pr := pX9_allTakenOf) (pc := 29) ?_
    have hk := k2 _ (Option.some.inj h).symm
    exact hk
  · replace h := of_neg h h1
    refine jWP.intro (pr := pX9_allTakenOf) (pc := 12) ?_
    obtain ⟨g2, h⟩ := of_guard h
    obtain ⟨g4, h⟩ := of_guard h
    refine y_mask <| x_iload rfl <| x_aload rfl <| x_getR (Nat.le_of_ble_eq_true rfl) rfl rfl <| x_iload rfl <| x_row (Nat.le_of_ble_eq_true rfl) rfl g2 <| fun hr3 => x_iload rfl <| x_iald (rows_56 (vp_lt g2)) g4 <| x_iadd <| x_istore rfl <| x_iinc rfl rfl <| y_mask <| y_goto ?_
    refine jWP.intro (pr := pX9_allTakenOf) (pc := 4) ?_
    have hk := k1 _ (Option.some.inj h).symm
    exact hk
set_option maxRecDepth 20000 in
theorem tfX9_allTakenOf (d n : Nat) (A : Nat → Nat → Int32) (L : Nat → Nat → Int64) (l1 : Int32) {Q : Option Value → jM → Prop} {z : Int32} (h : fX9_allTakenOf A l1 = some z) (k3 : Q (some (.int z)) (Sh0 n, A, L)) : pX9_allTakenOf (jEv jtab (d + 0), jWP (jEv jtab (d + 0)) Q ((Sh0 n).length, jsl (Sh0 n)) pX9_allTakenOf, Q, ((Sh0 n).length, jsl (Sh0 n))) 0 [some (.ref 54), some (.int l1), none, none] [] (Sh0 n, A, L) := by
  unfold fX9_allTakenOf at h
  refine y_mask <| x_push <| x_istore rfl <| x_push <| x_istore rfl <| y_mask <| y_goto ?_
  obtain ⟨e1, hw2, h⟩ := of_bind h
  refine jWP.intro (pr := pX9_allTakenOf) (pc := 4) ?_
  refine jwh_use (G := (fun s0 => pX9_allTakenOf (jEv jtab (d + 0), jWP (jEv jtab (d + 0)) Q ((Sh0 n).length, jsl (Sh0 n)) pX9_allTakenOf, Q, ((Sh0 n).length, jsl (Sh0 n))) 4 [some (.ref 54), some (.int l1), some (.int s0.1), some (.int s0.2)] [] (Sh0 n, A, L))) (Gx := (fun s0 => pX9_allTakenOf (jEv jtab (d + 0), jWP (jEv jtab (d + 0)) Q ((Sh0 n).length, jsl (Sh0 n)) pX9_allTakenOf, Q, ((Sh0 n).length, jsl (Sh0 n))) 29 [none, none, some (.int s0), none] [] (Sh0 n, A, L))) (fun s1 z1 hz kk1 kk2 => tcX9_allTakenOf_4 d n A L l1 s1 hz kk1 kk2) hw2 ?_
  refine y_mask <| x_iload rfl <| y_ireturn (ls := [none, none, some (.int e1), none]) ?_
  obtain rfl := Option.some.inj h
  exact k3
theorem kX9_allTakenOf (d n : Nat) (A : Nat → Nat → Int32) (L : Nat → Nat → Int64) (l1 : Int32) {z : Int32} (h : fX9_allTakenOf A l1 = some z) : jEv jtab (d + 1) 99 [.ref 54, .int l1] (Sh0 n, A, L) 0 0 (fun r M2 => r = some (.int z) ∧ M2 = (Sh0 n, A, L)) :=
  jEv.mk (mt := mX9_allTakenOf) rfl (Nat.le_of_ble_eq_true rfl) (jWP.intro (pr := pX9_allTakenOf) (pc := 0) (tfX9_allTakenOf d n A L l1 h ⟨trivial, jCn.mk ⟨rfl, rfl⟩⟩))
set_option maxRecDepth 20000 in
theorem tcX9_weight_20 (d n : Nat) (A : Nat → Nat → Int32) (L : Nat → Nat → Int64) (l1 : Int32) (s : (Int64 × Int32)) {Q : Option Value → jM → Prop} {z : ((Int64 × Int32) ⊕ Int64)} (h : cX9_weight_20 A l1 s = some z) (k1 : ∀ s0, z = .inl s0 → pX9_weight (jEv jtab (d + 1), jWP (jEv jtab (d + 1)) Q ((Sh0 n).length, jsl (Sh0 n)) pX9_weight, Q, ((Sh0 n).length, jsl (Sh0 n))) 20 [some (.ref 54), some (.int l1), none, some (.long s0.1), none, some (.int s0.2)] [] (Sh0 n, A, L)) (k2 : ∀ s0, z = .inr s0 → pX9_weight (jEv jtab (d + 1), jWP (jEv jtab (d + 1)) Q ((Sh0 n).length, jsl (Sh0 n)) pX9_weight, Q, ((Sh0 n).length, jsl (Sh0 n))) 55 [none, none, none, some (.long s0), none, none] [] (Sh0 n, A, L)) : pX9_weight (jEv jtab (d + 1), jWP (jEv jtab (d + 1)) Q ((Sh0 n).length, jsl (Sh0 n)) pX9_weight, Q, ((Sh0 n).length, jsl (Sh0 n))) 20 [some (.ref 54), some (.int l1), none, some (.long s.1), none, some (.int s.2)] [] (Sh0 n, A, L) := by
  unfold cX9_weight_20 at h
  refine y_mask <| x_iload rfl <| x_aload rfl <| x_getI (Nat.le_of_ble_eq_true rfl) rfl rfl <| y_cmp_ge (fun h1 => ?_) (fun h1 => ?_)
  · replace h := of_pos h h1
    refine jWP.intro (pr := pX9_weight) (pc := 55) ?_
    have hk := k2 _ (Option.some.inj h).symm
    exact hk
  · replace h := of_neg h h1
    refine jWP.intro (pr := pX9_weight) (pc := 29) ?_
    refine y_mask <| x_iload rfl <| x_iload rfl <| y_cmp_eq (fun h2 => ?_) (fun h2 => ?_)
    · replace h := of_pos h h2
      refine jWP.intro (pr := pX9_weight) (pc := 49) ?_
      refine y_mask <| x_iinc rfl rfl <| y_mask <| y_goto ?_
      refine jWP.intro (pr := pX9_weight) (pc := 20) ?_
      have hk := k1 _ (Option.some.inj h).symm
      exact hk
    · replace h := of_neg h h2
      refine jWP.intro (pr := pX9_weight) (pc := 35) ?_
      obtain ⟨r3, hc4, h⟩ := of_bind h
      refine y_mask <| x_lload rfl <| x_push <| x_aload rfl <| x_iload rfl <| y_invV1 (Nat.le_of_ble_eq_true rfl) rfl (Nat.le_of_ble_eq_true rfl) <| jEv.exI (kX9_allTakenOf _ _ _ _ _ hc4) <| y_mmax (Nat.le_of_ble_eq_true rfl) <| x_i2l <| x_lmul <| x_lstore rfl <| y_mask <| y_goto ?_
      refine jWP.intro (pr := pX9_weight) (pc := 49) ?_
      refine y_mask <| x_iinc rfl rfl <| y_mask <| y_goto ?_
      refine jWP.intro (pr := pX9_weight) (pc := 20) ?_
      have hk := k1 _ (Option.some.inj h).symm
      exact hk
set_option maxRecDepth 20000 in
theorem tfX9_weight (d n : Nat) (A : Nat → Nat → Int32) (L : Nat → Nat → Int64) (l1 : Int32) (l2 : Int32) {Q : Option Value → jM → Prop} {z : Int64} (h : fX9_weight A l1 l2 = some z) (k3 : Q (some (.long z)) (Sh0 n, A, L)) : pX9_weight (jEv jtab (d + 1), jWP (jEv jtab (d + 1)) Q ((Sh0 n).length, jsl (Sh0 n)) pX9_weight, Q, ((Sh0 n).length, jsl (Sh0 n))) 0 [some (.ref 54), some (.int l1), some (.int l2), none, none, none] [] (Sh0 n, A, L) := by
  unfold fX9_weight at h
  obtain ⟨g1, h⟩ := of_guard h
  obtain ⟨g2, h⟩ := of_guard h
  obtain ⟨g4, h⟩ := of_guard h
  refine y_mask <| x_aload rfl <| x_getR (Nat.le_of_ble_eq_true rfl) rfl rfl <| x_iload rfl <| x_iald rfl g1 <| x_aload rfl <| x_getR (Nat.le_of_ble_eq_true rfl) rfl rfl <| x_iload rfl <| x_row (Nat.le_of_ble_eq_true rfl) rfl g2 <| fun hr3 => x_iload rfl <| x_iald (rows_56 (vp_lt g2)) g4 <| x_imul <| x_i2l <| x_lstore rfl <| x_push <| x_istore rfl <| y_mask <| y_goto ?_
  obtain ⟨e5, hw6, h⟩ := of_bind h
  refine jWP.intro (pr := pX9_weight) (pc := 20) ?_
  refine jwh_use (G := (fun s0 => pX9_weight (jEv jtab (d + 1), jWP (jEv jtab (d + 1)) Q ((Sh0 n).length, jsl (Sh0 n)) pX9_weight, Q, ((Sh0 n).length, jsl (Sh0 n))) 20 [some (.ref 54), some (.int l1), none, some (.long s0.1), none, some (.int s0.2)] [] (Sh0 n, A, L))) (Gx := (fun s0 => pX9_weight (jEv jtab (d + 1), jWP (jEv jtab (d + 1)) Q ((Sh0 n).length, jsl (Sh0 n)) pX9_weight, Q, ((Sh0 n).length, jsl (Sh0 n))) 55 [none, none, none, some (.long s0), none, none] [] (Sh0 n, A, L))) (fun s1 z1 hz kk1 kk2 => tcX9_weight_20 d n A L l1 s1 hz kk1 kk2) hw6 ?_
  refine y_mask <| x_lload rfl <| y_lreturn (ls := [none, none, none, some (.long e5), none, none]) ?_
  obtain rfl := Option.some.inj h
  exact k3
theorem kX9_weight (d n : Nat) (A : Nat → Nat → Int32) (L : Nat → Nat → Int64) (l1 : Int32) (l2 : Int32) {z : Int64} (h : fX9_weight A l1 l2 = some z) : jEv jtab (d + 2) 97 [.ref 54, .int l1, .int l2] (Sh0 n, A, L) 0 0 (fun r M2 => r = some (.long z) ∧ M2 = (Sh0 n, A, L)) :=
  jEv.mk (mt := mX9_weight) rfl (Nat.le_of_ble_eq_true rfl) (jWP.intro (pr := pX9_weight) (pc := 0) (tfX9_weight d n A L l1 l2 h ⟨trivial, jCn.mk ⟨rfl, rfl⟩⟩))
set_option maxRecDepth 20000 in
theorem tcX9_weightOfAll_5 (d n : Nat) (A : Nat → Nat → Int32) (L : Nat → Nat → Int64) (l1 : Int32) (s : (Int64 × Int32)) {Q : Option Value → jM → Prop} {z : ((Int64 × Int32) ⊕ Int64)} (h : cX9_weightOfAll_5 A l1 s = some z) (k1 : ∀ s0, z = .inl s0 → pX9_weightOfAll (jEv jtab (d + 2), jWP (jEv jtab (d + 2)) Q ((Sh0 n).length, jsl (Sh0 n)) pX9_weightOfAll, Q, ((Sh0 n).length, jsl (Sh0 n))) 5 [some (.ref 54), some (.int l1), some (.long s0.1), none, some (.int s0.2)] [] (Sh0 n, A, L)) (k2 : ∀ s0, z = .inr s0 → pX9_weightOfAll (jEv jtab (d + 2), jWP (jEv jtab (d + 2)) Q ((Sh0 n).length, jsl (Sh0 n)) pX9_weightOfAll, Q, ((Sh0 n).length, jsl (Sh0 n))) 30 [none, none, some (.long s0), none, none] [] (Sh0 n, A, L)) : pX9_weightOfAll (jEv jtab (d + 2), jWP (jEv jtab (d + 2)) Q ((Sh0 n).length, jsl (Sh0 n)) pX9_weightOfAll, Q, ((Sh0 n).length, jsl (Sh0 n))) 5 [some (.ref 54), some (.int l1), some (.long s.1), none, some (.int s.2)] [] (Sh0 n, A, L) := by
  unfold cX9_weightOfAll_5 at h
  refine y_mask <| x_iload rfl <| x_aload rfl <| x_getI (Nat.le_of_ble_eq_true rfl) rfl rfl <| y_cmp_ge (fun h1 => ?_) (fun h1 => ?_)
  · replace h := of_pos h h1
    refine jWP.intro (pr := pX9_weightOfAll) (pc := 30) ?_
    have hk := k2 _ (Option.some.inj h).symm
    exact hk
  · replace h := of_neg h h1
    refine jWP.intro (pr := pX9_weightOfAll) (pc := 14) ?_
    obtain ⟨r2, hc3, h⟩ := of_bind h
    refine y_mask <| x_lload rfl <| x_aload rfl <| x_iload rfl <| x_iload rfl <| y_invV2 (Nat.le_of_ble_eq_true rfl) rfl (Nat.le_of_ble_eq_true rfl) <| jEv.exL (kX9_weight _ _ _ _ _ _ hc3) <| x_ladd <| x_lstore rfl <| x_iinc rfl rfl <| y_mask <| y_goto ?_
    refine jWP.intro (pr := pX9_weightOfAll) (pc := 5) ?_
    have hk := k1 _ (Option.some.inj h).symm
    exact hk
set_option maxRecDepth 20000 in
theorem tfX9_weightOfAll (d n : Nat) (A : Nat → Nat → Int32) (L : Nat → Nat → Int64) (l1 : Int32) {Q : Option Value → jM → Prop} {z : Int64} (h : fX9_weightOfAll A l1 = some z) (k3 : Q (some (.long z)) (Sh0 n, A, L)) : pX9_weightOfAll (jEv jtab (d + 2), jWP (jEv jtab (d + 2)) Q ((Sh0 n).length, jsl (Sh0 n)) pX9_weightOfAll, Q, ((Sh0 n).length, jsl (Sh0 n))) 0 [some (.ref 54), some (.int l1), none, none, none] [] (Sh0 n, A, L) := by
  unfold fX9_weightOfAll at h
  refine y_mask <| x_push <| x_lstore rfl <| x_push <| x_istore rfl <| y_mask <| y_goto ?_
  obtain ⟨e1, hw2, h⟩ := of_bind h
  refine jWP.intro (pr := pX9_weightOfAll) (pc := 5) ?_
  refine jwh_use (G := (fun s0 => pX9_weightOfAll (jEv jtab (d + 2), jWP (jEv jtab (d + 2)) Q ((Sh0 n).length, jsl (Sh0 n)) pX9_weightOfAll, Q, ((Sh0 n).length, jsl (Sh0 n))) 5 [some (.ref 54), some (.int l1), some (.long s0.1), none, some (.int s0.2)] [] (Sh0 n, A, L))) (Gx := (fun s0 => pX9_weightOfAll (jEv jtab (d + 2), jWP (jEv jtab (d + 2)) Q ((Sh0 n).length, jsl (Sh0 n)) pX9_weightOfAll, Q, ((Sh0 n).length, jsl (Sh0 n))) 30 [none, none, some (.long s0), none, none] [] (Sh0 n, A, L))) (fun s1 z1 hz kk1 kk2 => tcX9_weightOfAll_5 d n A L l1 s1 hz kk1 kk2) hw2 ?_
  refine y_mask <| x_lload rfl <| y_lreturn (ls := [none, none, some (.long e1), none, none]) ?_
  obtain rfl := Option.some.inj h
  exact k3
theorem kX9_weightOfAll (d n : Nat) (A : Nat → Nat → Int32) (L : Nat → Nat → Int64) (l1 : Int32) {z : Int64} (h : fX9_weightOfAll A l1 = some z) : jEv jtab (d + 3) 98 [.ref 54, .int l1] (Sh0 n, A, L) 0 0 (fun r M2 => r = some (.long z) ∧ M2 = (Sh0 n, A, L)) :=
  jEv.mk (mt := mX9_weightOfAll) rfl (Nat.le_of_ble_eq_true rfl) (jWP.intro (pr := pX9_weightOfAll) (pc := 0) (tfX9_weightOfAll d n A L l1 h ⟨trivial, jCn.mk ⟨rfl, rfl⟩⟩))
set_option maxRecDepth 20000 in
theorem tcX10_greatestDivisor_9 (d n : Nat) (A : Nat → Nat → Int32) (L : Nat → Nat → Int64) (s : (Int64 × Int64 × Int32)) {Q : Option Value → jM → Prop} {z : ((Int64 × Int64 × Int32) ⊕ Int64)} (h : cX10_greatestDivisor_9 s = some z) (k1 : ∀ s0, z = .inl s0 → pX10_greatestDivisor (jEv jtab (d + 0), jWP (jEv jtab (d + 0)) Q ((Sh0 n).length, jsl (Sh0 n)) pX10_greatestDivisor, Q, ((Sh0 n).length, jsl (Sh0 n))) 9 [none, none, none, none, some (.long s0.1), none, some (.long s0.2.1), none, some (.int s0.2.2), none, none] [] (Sh0 n, A, L)) (k2 : ∀ s0, z = .inr s0 → pX10_greatestDivisor (jEv jtab (d + 0), jWP (jEv jtab (d + 0)) Q ((Sh0 n).length, jsl (Sh0 n)) pX10_greatestDivisor, Q, ((Sh0 n).length, jsl (Sh0 n))) 45 [none, none, none, none, some (.long s0), none, none, none, none, none, none] [] (Sh0 n, A, L)) : pX10_greatestDivisor (jEv jtab (d + 0), jWP (jEv jtab (d + 0)) Q ((Sh0 n).length, jsl (Sh0 n)) pX10_greatestDivisor, Q, ((Sh0 n).length, jsl (Sh0 n))) 9 [none, none, none, none, some (.long s.1), none, some (.long s.2.1), none, some (.int s.2.2), none, none] [] (Sh0 n, A, L) := by
  unfold cX10_greatestDivisor_9 at h
  refine y_mask <| x_iload rfl <| x_push <| y_cmp_ge (fun h1 => ?_) (fun h1 => ?_)
  · replace h := of_pos h h1
    refine jWP.intro (pr := pX10_greatestDivisor) (pc := 45) ?_
    have hk := k2 _ (Option.some.inj h).symm
    exact hk
  · replace h := of_neg h h1
    refine jWP.intro (pr := pX10_greatestDivisor) (pc := 17) ?_
    refine y_mask <| x_lload rfl <| x_push <| x_lcmp <| y_if_eq (fun h2 => ?_) (fun h2 => ?_)
    · replace h := of_pos h h2
      refine jWP.intro (pr := pX10_greatestDivisor) (pc := 45) ?_
      have hk := k2 _ (Option.some.inj h).symm
      exact hk
    · replace h := of_neg h h2
      refine jWP.intro (pr := pX10_greatestDivisor) (pc := 24) ?_
      obtain ⟨g3, h⟩ := of_guard h
      refine y_mask <| x_lload rfl <| x_lload rfl <| x_lrem g3 <| x_lstore rfl <| x_lload rfl <| x_lstore rfl <| x_lload rfl <| x_lstore rfl <| x_iinc rfl rfl <| y_mask <| y_goto ?_
      refine jWP.intro (pr := pX10_greatestDivisor) (pc := 9) ?_
      have hk := k1 _ (Option.some.inj h).symm
      exact hk
set_option maxRecDepth 20000 in
theorem tfX10_greatestDivisor (d n : Nat) (A : Nat → Nat → Int32) (L : Nat → Nat → Int64) (l0 : Int64) (l2 : Int64) {Q : Option Value → jM → Prop} {z : Int64} (h : fX10_greatestDivisor l0 l2 = some z) (k3 : Q (some (.long z)) (Sh0 n, A, L)) : pX10_greatestDivisor (jEv jtab (d + 0), jWP (jEv jtab (d + 0)) Q ((Sh0 n).length, jsl (Sh0 n)) pX10_greatestDivisor, Q, ((Sh0 n).length, jsl (Sh0 n))) 0 [some (.long l0), none, some (.long l2), none, none, none, none, none, none, none, none] [] (Sh0 n, A, L) := by
  unfold fX10_greatestDivisor at h
  refine y_mask <| x_lload rfl <| x_lstore rfl <| x_lload rfl <| x_lstore rfl <| x_push <| x_istore rfl <| y_mask <| y_goto ?_
  obtain ⟨e1, hw2, h⟩ := of_bind h
  refine jWP.intro (pr := pX10_greatestDivisor) (pc := 9) ?_
  refine jwh_use (G := (fun s0 => pX10_greatestDivisor (jEv jtab (d + 0), jWP (jEv jtab (d + 0)) Q ((Sh0 n).length, jsl (Sh0 n)) pX10_greatestDivisor, Q, ((Sh0 n).length, jsl (Sh0 n))) 9 [none, none, none, none, some (.long s0.1), none, some (.long s0.2.1), none, some (.int s0.2.2), none, none] [] (Sh0 n, A, L))) (Gx := (fun s0 => pX10_greatestDivisor (jEv jtab (d + 0), jWP (jEv jtab (d + 0)) Q ((Sh0 n).length, jsl (Sh0 n)) pX10_greatestDivisor, Q, ((Sh0 n).length, jsl (Sh0 n))) 45 [none, none, none, none, some (.long s0), none, none, none, none, none, none] [] (Sh0 n, A, L))) (fun s1 z1 hz kk1 kk2 => tcX10_greatestDivisor_9 d n A L s1 hz kk1 kk2) hw2 ?_
  refine y_mask <| x_lload rfl <| y_lreturn (ls := [none, none, none, none, some (.long e1), none, none, none, none, none, none]) ?_
  obtain rfl := Option.some.inj h
  exact k3
theorem kX10_greatestDivisor (d n : Nat) (A : Nat → Nat → Int32) (L : Nat → Nat → Int64) (l0 : Int64) (l2 : Int64) {z : Int64} (h : fX10_greatestDivisor l0 l2 = some z) : jEv jtab (d + 1) 157 [.long l0, .long l2] (Sh0 n, A, L) 0 0 (fun r M2 => r = some (.long z) ∧ M2 = (Sh0 n, A, L)) :=
  jEv.mk (mt := mX10_greatestDivisor) rfl (Nat.le_of_ble_eq_true rfl) (jWP.intro (pr := pX10_greatestDivisor) (pc := 0) (tfX10_greatestDivisor d n A L l0 l2 h ⟨trivial, jCn.mk ⟨rfl, rfl⟩⟩))
set_option maxRecDepth 20000 in
theorem tfX10_lowest (d n : Nat) (A : Nat → Nat → Int32) (L : Nat → Nat → Int64) (l0 : Int64) (l2 : Int64) (l4 : Int32) {Q : Option Value → jM → Prop} {z : Int64} (h : fX10_lowest l0 l2 l4 = some z) (k3 : Q (some (.long z)) (Sh0 n, A, L)) : pX10_lowest (jEv jtab (d + 1), jWP (jEv jtab (d + 1)) Q ((Sh0 n).length, jsl (Sh0 n)) pX10_lowest, Q, ((Sh0 n).length, jsl (Sh0 n))) 0 [some (.long l0), none, some (.long l2), none, some (.int l4), none, none] [] (Sh0 n, A, L) := by
  unfold fX10_lowest at h
  obtain ⟨r1, hc2, h⟩ := of_bind h
  refine y_mask <| x_lload rfl <| y_mabs_long (Nat.le_of_ble_eq_true rfl) <| x_lload rfl <| y_invS2 (Nat.le_of_ble_eq_true rfl) <| jEv.exL (kX10_greatestDivisor _ _ _ _ _ _ hc2) <| x_lstore rfl <| x_lload rfl <| x_push <| x_lcmp <| y_if_ne (fun h3 => ?_) (fun h3 => ?_)
  · replace h := of_neg h h3
    refine jWP.intro (pr := pX10_lowest) (pc := 21) ?_
    refine y_mask <| x_iload rfl <| y_if_ne (fun h4 => ?_) (fun h4 => ?_)
    · replace h := of_neg h h4
      refine jWP.intro (pr := pX10_lowest) (pc := 30) ?_
      refine y_mask <| x_lload rfl <| y_mask <| y_goto ?_
      refine jWP.intro (pr := pX10_lowest) (pc := 31) ?_
      obtain ⟨g5, h⟩ := of_guard h
      refine y_mask <| x_lload rfl <| x_ldiv g5 <| y_lreturn (ls := [none, none, none, none, none, some (.long r1), none]) ?_
      obtain rfl := Option.some.inj h
      exact k3
    · replace h := of_pos h h4
      refine jWP.intro (pr := pX10_lowest) (pc := 26) ?_
      refine y_mask <| x_lload rfl <| y_mask <| y_goto ?_
      refine jWP.intro (pr := pX10_lowest) (pc := 31) ?_
      obtain ⟨g6, h⟩ := of_guard h
      refine y_mask <| x_lload rfl <| x_ldiv g6 <| y_lreturn (ls := [none, none, none, none, none, some (.long r1), none]) ?_
      obtain rfl := Option.some.inj h
      exact k3
  · replace h := of_pos h h3
    refine jWP.intro (pr := pX10_lowest) (pc := 17) ?_
    refine y_mask <| x_iload rfl <| x_i2l <| y_lreturn (ls := [none, none, none, none, some (.int l4), none, none]) ?_
    obtain rfl := Option.some.inj h
    exact k3
theorem kX10_lowest (d n : Nat) (A : Nat → Nat → Int32) (L : Nat → Nat → Int64) (l0 : Int64) (l2 : Int64) (l4 : Int32) {z : Int64} (h : fX10_lowest l0 l2 l4 = some z) : jEv jtab (d + 2) 156 [.long l0, .long l2, .int l4] (Sh0 n, A, L) 0 0 (fun r M2 => r = some (.long z) ∧ M2 = (Sh0 n, A, L)) :=
  jEv.mk (mt := mX10_lowest) rfl (Nat.le_of_ble_eq_true rfl) (jWP.intro (pr := pX10_lowest) (pc := 0) (tfX10_lowest d n A L l0 l2 l4 h ⟨trivial, jCn.mk ⟨rfl, rfl⟩⟩))
set_option maxRecDepth 20000 in
theorem tfX10_odds (d n : Nat) (A : Nat → Nat → Int32) (L : Nat → Nat → Int64) (l1 : Int32) (l2 : Int32) (l3 : Int32) {Q : Option Value → jM → Prop} {z : Int64} (h : fX10_odds A l1 l2 l3 = some z) (k3 : Q (some (.long z)) (Sh0 n, A, L)) : pX10_odds (jEv jtab (d + 3), jWP (jEv jtab (d + 3)) Q ((Sh0 n).length, jsl (Sh0 n)) pX10_odds, Q, ((Sh0 n).length, jsl (Sh0 n))) 0 [some (.ref 15), some (.int l1), some (.int l2), some (.int l3)] [] (Sh0 n, A, L) := by
  unfold fX10_odds at h
  refine y_mask <| x_aload rfl <| x_getR (Nat.le_of_ble_eq_true rfl) rfl rfl <| x_iload rfl <| y_invV1 (Nat.le_of_ble_eq_true rfl) rfl (Nat.le_of_ble_eq_true rfl) <| jEv.exZ (q := 96) rfl (kX9_has _ _ _ _ _) <| fun hz1 => y_if_eq (fun h2 => ?_) (fun h2 => ?_)
  · replace h := of_pos h h2
    refine jWP.intro (pr := pX10_odds) (pc := 31) ?_
    refine y_mprl (bs := []) (ls := []) ?_
    obtain rfl := Option.some.inj h
    exact k3
  · replace h := of_neg h h2
    refine jWP.intro (pr := pX10_odds) (pc := 11) ?_
    refine y_mask <| x_aload rfl <| x_getR (Nat.le_of_ble_eq_true rfl) rfl rfl <| x_iload rfl <| y_invV1 (Nat.le_of_ble_eq_true rfl) rfl (Nat.le_of_ble_eq_true rfl) <| jEv.exZ (q := 96) rfl (kX9_has _ _ _ _ _) <| fun hz3 => y_if_eq (fun h4 => ?_) (fun h4 => ?_)
    · replace h := of_pos h h4
      refine jWP.intro (pr := pX10_odds) (pc := 31) ?_
      refine y_mprl (bs := []) (ls := []) ?_
      obtain rfl := Option.some.inj h
      exact k3
    · replace h := of_neg h h4
      refine jWP.intro (pr := pX10_odds) (pc := 22) ?_
      refine y_mask <| x_iload rfl <| x_push <| x_push <| y_invS3 (Nat.le_of_ble_eq_true rfl) <| jEv.exZ (q := 152) rfl (kX10_within _ _ _ _ _ _ _) <| fun hz5 => y_if_ne (fun h6 => ?_) (fun h6 => ?_)
      · replace h := of_neg h h6
        refine jWP.intro (pr := pX10_odds) (pc := 35) ?_
        obtain ⟨r7, hc8, h⟩ := of_bind h
        obtain ⟨r9, hc10, h⟩ := of_bind h
        obtain ⟨r11, hc12, h⟩ := of_bind h
        refine y_mask <| x_aload rfl <| x_getR (Nat.le_of_ble_eq_true rfl) rfl rfl <| x_iload rfl <| x_iload rfl <| y_invV2 (Nat.le_of_ble_eq_true rfl) rfl (Nat.le_of_ble_eq_true rfl) <| jEv.exL (kX9_weight _ _ _ _ _ _ hc8) <| x_aload rfl <| x_getR (Nat.le_of_ble_eq_true rfl) rfl rfl <| x_iload rfl <| y_invV1 (Nat.le_of_ble_eq_true rfl) rfl (Nat.le_of_ble_eq_true rfl) <| jEv.exL (kX9_weightOfAll _ _ _ _ _ hc10) <| x_iload rfl <| y_invS3 (Nat.le_of_ble_eq_true rfl) <| jEv.exL (kX10_lowest _ _ _ _ _ _ _ hc12) <| y_lreturn (ls := [some (.ref 15), some (.int l1), some (.int l2), some (.int l3)]) ?_
        obtain rfl := Option.some.inj h
        exact k3
      · replace h := of_pos h h6
        refine jWP.intro (pr := pX10_odds) (pc := 31) ?_
        refine y_mprl (bs := []) (ls := []) ?_
        obtain rfl := Option.some.inj h
        exact k3
theorem kX10_odds (d n : Nat) (A : Nat → Nat → Int32) (L : Nat → Nat → Int64) (l1 : Int32) (l2 : Int32) (l3 : Int32) {z : Int64} (h : fX10_odds A l1 l2 l3 = some z) : jEv jtab (d + 4) 126 [.ref 15, .int l1, .int l2, .int l3] (Sh0 n, A, L) 0 0 (fun r M2 => r = some (.long z) ∧ M2 = (Sh0 n, A, L)) :=
  jEv.mk (mt := mX10_odds) rfl (Nat.le_of_ble_eq_true rfl) (jWP.intro (pr := pX10_odds) (pc := 0) (tfX10_odds d n A L l1 l2 l3 h ⟨trivial, jCn.mk ⟨rfl, rfl⟩⟩))
set_option maxRecDepth 20000 in
theorem tcX9_likeliest_7 (d n : Nat) (A : Nat → Nat → Int32) (L : Nat → Nat → Int64) (l1 : Int32) (s : (Int32 × Int64 × Int32)) {Q : Option Value → jM → Prop} {z : ((Int32 × Int64 × Int32) ⊕ Int32)} (h : cX9_likeliest_7 A l1 s = some z) (k1 : ∀ s0, z = .inl s0 → pX9_likeliest (jEv jtab (d + 2), jWP (jEv jtab (d + 2)) Q ((Sh0 n).length, jsl (Sh0 n)) pX9_likeliest, Q, ((Sh0 n).length, jsl (Sh0 n))) 7 [some (.ref 54), some (.int l1), some (.int s0.1), some (.long s0.2.1), none, some (.int s0.2.2), none, none] [] (Sh0 n, A, L)) (k2 : ∀ s0, z = .inr s0 → pX9_likeliest (jEv jtab (d + 2), jWP (jEv jtab (d + 2)) Q ((Sh0 n).length, jsl (Sh0 n)) pX9_likeliest, Q, ((Sh0 n).length, jsl (Sh0 n))) 44 [none, none, some (.int s0), none, none, none, none, none] [] (Sh0 n, A, L)) : pX9_likeliest (jEv jtab (d + 2), jWP (jEv jtab (d + 2)) Q ((Sh0 n).length, jsl (Sh0 n)) pX9_likeliest, Q, ((Sh0 n).length, jsl (Sh0 n))) 7 [some (.ref 54), some (.int l1), some (.int s.1), some (.long s.2.1), none, some (.int s.2.2), none, none] [] (Sh0 n, A, L) := by
  unfold cX9_likeliest_7 at h
  refine y_mask <| x_iload rfl <| x_aload rfl <| x_getI (Nat.le_of_ble_eq_true rfl) rfl rfl <| y_cmp_ge (fun h1 => ?_) (fun h1 => ?_)
  · replace h := of_pos h h1
    refine jWP.intro (pr := pX9_likeliest) (pc := 44) ?_
    have hk := k2 _ (Option.some.inj h).symm
    exact hk
  · replace h := of_neg h h1
    refine jWP.intro (pr := pX9_likeliest) (pc := 16) ?_
    obtain ⟨r2, hc3, h⟩ := of_bind h
    refine y_mask <| x_aload rfl <| x_iload rfl <| x_iload rfl <| y_invV2 (Nat.le_of_ble_eq_true rfl) rfl (Nat.le_of_ble_eq_true rfl) <| jEv.exL (kX9_weight _ _ _ _ _ _ hc3) <| x_lstore rfl <| x_lload rfl <| x_lload rfl <| x_lcmp <| y_if_le (fun h4 => ?_) (fun h4 => ?_)
    · replace h := of_pos h h4
      refine jWP.intro (pr := pX9_likeliest) (pc := 38) ?_
      refine y_mask <| x_iinc rfl rfl <| y_mask <| y_goto ?_
      refine jWP.intro (pr := pX9_likeliest) (pc := 7) ?_
      have hk := k1 _ (Option.some.inj h).symm
      exact hk
    · replace h := of_neg h h4
      refine jWP.intro (pr := pX9_likeliest) (pc := 32) ?_
      refine y_mask <| x_lload rfl <| x_lstore rfl <| x_iload rfl <| x_istore rfl <| y_mask <| y_goto ?_
      refine jWP.intro (pr := pX9_likeliest) (pc := 38) ?_
      refine y_mask <| x_iinc rfl rfl <| y_mask <| y_goto ?_
      refine jWP.intro (pr := pX9_likeliest) (pc := 7) ?_
      have hk := k1 _ (Option.some.inj h).symm
      exact hk
set_option maxRecDepth 20000 in
theorem tfX9_likeliest (d n : Nat) (A : Nat → Nat → Int32) (L : Nat → Nat → Int64) (l1 : Int32) {Q : Option Value → jM → Prop} {z : Int32} (h : fX9_likeliest A l1 = some z) (k3 : Q (some (.int z)) (Sh0 n, A, L)) : pX9_likeliest (jEv jtab (d + 2), jWP (jEv jtab (d + 2)) Q ((Sh0 n).length, jsl (Sh0 n)) pX9_likeliest, Q, ((Sh0 n).length, jsl (Sh0 n))) 0 [some (.ref 54), some (.int l1), none, none, none, none, none, none] [] (Sh0 n, A, L) := by
  unfold fX9_likeliest at h
  refine y_mask <| x_push <| x_istore rfl <| x_push <| x_lstore rfl <| x_push <| x_istore rfl <| y_mask <| y_goto ?_
  obtain ⟨e1, hw2, h⟩ := of_bind h
  refine jWP.intro (pr := pX9_likeliest) (pc := 7) ?_
  refine jwh_use (G := (fun s0 => pX9_likeliest (jEv jtab (d + 2), jWP (jEv jtab (d + 2)) Q ((Sh0 n).length, jsl (Sh0 n)) pX9_likeliest, Q, ((Sh0 n).length, jsl (Sh0 n))) 7 [some (.ref 54), some (.int l1), some (.int s0.1), some (.long s0.2.1), none, some (.int s0.2.2), none, none] [] (Sh0 n, A, L))) (Gx := (fun s0 => pX9_likeliest (jEv jtab (d + 2), jWP (jEv jtab (d + 2)) Q ((Sh0 n).length, jsl (Sh0 n)) pX9_likeliest, Q, ((Sh0 n).length, jsl (Sh0 n))) 44 [none, none, some (.int s0), none, none, none, none, none] [] (Sh0 n, A, L))) (fun s1 z1 hz kk1 kk2 => tcX9_likeliest_7 d n A L l1 s1 hz kk1 kk2) hw2 ?_
  refine y_mask <| x_iload rfl <| y_ireturn (ls := [none, none, some (.int e1), none, none, none, none, none]) ?_
  obtain rfl := Option.some.inj h
  exact k3
theorem kX9_likeliest (d n : Nat) (A : Nat → Nat → Int32) (L : Nat → Nat → Int64) (l1 : Int32) {z : Int32} (h : fX9_likeliest A l1 = some z) : jEv jtab (d + 3) 100 [.ref 54, .int l1] (Sh0 n, A, L) 0 0 (fun r M2 => r = some (.int z) ∧ M2 = (Sh0 n, A, L)) :=
  jEv.mk (mt := mX9_likeliest) rfl (Nat.le_of_ble_eq_true rfl) (jWP.intro (pr := pX9_likeliest) (pc := 0) (tfX9_likeliest d n A L l1 h ⟨trivial, jCn.mk ⟨rfl, rfl⟩⟩))
set_option maxRecDepth 20000 in
theorem tfX10_was (d n : Nat) (A : Nat → Nat → Int32) (L : Nat → Nat → Int64) (l1 : Int32) {Q : Option Value → jM → Prop} {z : Int32} (h : fX10_was A l1 = some z) (k3 : Q (some (.int z)) (Sh0 n, A, L)) : pX10_was (jEv jtab (d + 3), jWP (jEv jtab (d + 3)) Q ((Sh0 n).length, jsl (Sh0 n)) pX10_was, Q, ((Sh0 n).length, jsl (Sh0 n))) 0 [some (.ref 15), some (.int l1)] [] (Sh0 n, A, L) := by
  unfold fX10_was at h
  refine y_mask <| x_aload rfl <| x_getR (Nat.le_of_ble_eq_true rfl) rfl rfl <| x_iload rfl <| y_invV1 (Nat.le_of_ble_eq_true rfl) rfl (Nat.le_of_ble_eq_true rfl) <| jEv.exZ (q := 96) rfl (kX9_has _ _ _ _ _) <| fun hz1 => y_if_eq (fun h2 => ?_) (fun h2 => ?_)
  · replace h := of_pos h h2
    refine jWP.intro (pr := pX10_was) (pc := 22) ?_
    refine y_mask <| x_push <| y_mask <| y_goto ?_
    refine jWP.intro (pr := pX10_was) (pc := 24) ?_
    refine y_mri (bs := []) (ls := []) ?_
    obtain rfl := Option.some.inj h
    exact k3
  · replace h := of_neg h h2
    refine jWP.intro (pr := pX10_was) (pc := 11) ?_
    obtain ⟨r3, hc4, h⟩ := of_bind h
    refine y_mask <| x_aload rfl <| x_getR (Nat.le_of_ble_eq_true rfl) rfl rfl <| x_iload rfl <| y_invV1 (Nat.le_of_ble_eq_true rfl) rfl (Nat.le_of_ble_eq_true rfl) <| jEv.exI (kX9_likeliest _ _ _ _ _ hc4) <| y_mask <| y_goto ?_
    refine jWP.intro (pr := pX10_was) (pc := 24) ?_
    refine y_mri (bs := []) (ls := []) ?_
    obtain rfl := Option.some.inj h
    exact k3
theorem kX10_was (d n : Nat) (A : Nat → Nat → Int32) (L : Nat → Nat → Int64) (l1 : Int32) {z : Int32} (h : fX10_was A l1 = some z) : jEv jtab (d + 4) 127 [.ref 15, .int l1] (Sh0 n, A, L) 0 0 (fun r M2 => r = some (.int z) ∧ M2 = (Sh0 n, A, L)) :=
  jEv.mk (mt := mX10_was) rfl (Nat.le_of_ble_eq_true rfl) (jWP.intro (pr := pX10_was) (pc := 0) (tfX10_was d n A L l1 h ⟨trivial, jCn.mk ⟨rfl, rfl⟩⟩))
set_option maxRecDepth 20000 in
theorem tfJ6_bitCount_0f7a4 (d n : Nat) (A : Nat → Nat → Int32) (L : Nat → Nat → Int64) (l0 : Int32) {Q : Option Value → jM → Prop} {z : Int32} (h : fJ6_bitCount_0f7a4 l0 = z) (k3 : Q (some (.int z)) (Sh0 n, A, L)) : pJ6_bitCount_0f7a4 (jEv jtab (d + 0), jWP (jEv jtab (d + 0)) Q ((Sh0 n).length, jsl (Sh0 n)) pJ6_bitCount_0f7a4, Q, ((Sh0 n).length, jsl (Sh0 n))) 0 [some (.int l0)] [] (Sh0 n, A, L) := by
  unfold fJ6_bitCount_0f7a4 at h
  refine y_mask <| x_iload rfl <| x_iload rfl <| x_push <| x_iushr <| x_push <| x_iand <| x_isub <| x_istore rfl <| x_iload rfl <| x_push <| x_iand <| x_iload rfl <| x_push <| x_iushr <| x_push <| x_iand <| x_iadd <| x_istore rfl <| x_iload rfl <| x_iload rfl <| x_push <| x_iushr <| x_iadd <| x_push <| x_iand <| x_istore rfl <| x_iload rfl <| x_iload rfl <| x_push <| x_iushr <| x_iadd <| x_istore rfl <| x_iload rfl <| x_iload rfl <| x_push <| x_iushr <| x_iadd <| x_istore rfl <| x_iload rfl <| x_push <| y_mask <| y_goto ?_
  refine jWP.intro (pr := pJ6_bitCount_0f7a4) (pc := 51) ?_
  refine y_mask <| x_iand <| y_ireturn (ls := [none]) ?_
  subst h
  exact k3
theorem kJ6_bitCount_0f7a4 (d n : Nat) (A : Nat → Nat → Int32) (L : Nat → Nat → Int64) (l0 : Int32) : jEv jtab (d + 1) 273 [.int l0] (Sh0 n, A, L) 0 0 (fun r M2 => r = some (.int (fJ6_bitCount_0f7a4 l0)) ∧ M2 = (Sh0 n, A, L)) :=
  jEv.mk (mt := mJ6_bitCount_0f7a4) rfl (Nat.le_of_ble_eq_true rfl) (jWP.intro (pr := pJ6_bitCount_0f7a4) (pc := 0) (tfJ6_bitCount_0f7a4 d n A L l0 rfl ⟨trivial, jCn.mk ⟨rfl, rfl⟩⟩))
