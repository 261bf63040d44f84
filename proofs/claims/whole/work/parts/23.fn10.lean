/-! METHODS AS FUNCTIONS, printed by dec.py -/
set_option maxRecDepth 20000 in
theorem tcX11_allTaken_5 (d n : Nat) (A : Nat → Nat → Int32) (L : Nat → Nat → Int64) (l1 : Int32) (s : (Int64 × Int32)) {Q : Option Value → jM → Prop} {z : ((Int64 × Int32) ⊕ Int64)} (h : cX11_allTaken_5 A l1 s = some z) (k1 : ∀ s0, z = .inl s0 → pX11_allTaken (jEv jtab (d + 0), jWP (jEv jtab (d + 0)) Q ((Sh0 n).length, jsl (Sh0 n)) pX11_allTaken, Q, ((Sh0 n).length, jsl (Sh0 n))) 5 [some (.ref 94), some (.int l1), some (.long s0.1), none, some (.int s0.2)] [] (Sh0 n, A, L)) (k2 : ∀ s0, z = .inr s0 → pX11_allTaken (jEv jtab (d + 0), jWP (jEv jtab (d + 0)) Q ((Sh0 n).length, jsl (Sh0 n)) pX11_allTaken, Q, ((Sh0 n).length, jsl (Sh0 n))) 36 [none, none, some (.long s0), none, none] [] (Sh0 n, A, L)) : pX11_allTaken (jEv jtab (d + 0), jWP (jEv jtab (d + 0)) Q ((Sh0 n).length, jsl (Sh0 n)) pX11_allTaken, Q, ((Sh0 n).length, jsl (Sh0 n))) 5 [some (.ref 94), some (.int l1), some (.long s.1), none, some (.int s.2)] [] (Sh0 n, A, L) := by
  unfold cX11_allTaken_5 at h
  refine y_mask <| x_iload rfl <| x_aload rfl <| x_getI (Nat.le_of_ble_eq_true rfl) rfl rfl <| y_cmp_ge (fun h1 => ?_) (fun h1 => ?_)
  · replace h := of_pos h h1
    refine jWP.intro (pr := pX11_allTaken) (pc := 36) ?_
    have hk := k2 _ (Option.some.inj h).symm
    exact hk
  · replace h := of_neg h h1
    refine jWP.intro (pr := pX11_allTaken) (pc := 14) ?_
    obtain ⟨g2, h⟩ := of_guard h
    show bX11_allTaken_14 _ _ _ _
    unfold bX11_allTaken_14
    refine y_mask ?_
    refine x_lload rfl ?_
    refine x_aload rfl ?_
    refine x_getR (Nat.le_of_ble_eq_true rfl) rfl rfl ?_
    refine x_push ?_
    refine x_iload rfl ?_
    refine x_imul ?_
    refine x_iload rfl ?_
    refine x_iadd ?_
    refine x_iald rfl g2 ?_
    refine x_i2l ?_
    refine x_ladd ?_
    refine x_lstore rfl ?_
    refine x_iinc rfl rfl ?_
    refine y_mask ?_
    refine y_goto ?_
    refine jWP.intro (pr := pX11_allTaken) (pc := 5) ?_
    have hk := k1 _ (Option.some.inj h).symm
    exact hk
set_option maxRecDepth 20000 in
theorem tfX11_allTaken (d n : Nat) (A : Nat → Nat → Int32) (L : Nat → Nat → Int64) (l1 : Int32) {Q : Option Value → jM → Prop} {z : Int64} (h : fX11_allTaken A l1 = some z) (k3 : Q (some (.long z)) (Sh0 n, A, L)) : pX11_allTaken (jEv jtab (d + 0), jWP (jEv jtab (d + 0)) Q ((Sh0 n).length, jsl (Sh0 n)) pX11_allTaken, Q, ((Sh0 n).length, jsl (Sh0 n))) 0 [some (.ref 94), some (.int l1), none, none, none] [] (Sh0 n, A, L) := by
  unfold fX11_allTaken at h
  refine y_mask <| x_push <| x_lstore rfl <| x_push <| x_istore rfl <| y_mask <| y_goto ?_
  obtain ⟨e1, hw2, h⟩ := of_bind h
  refine jWP.intro (pr := pX11_allTaken) (pc := 5) ?_
  refine jwh_use (G := (fun s0 => pX11_allTaken (jEv jtab (d + 0), jWP (jEv jtab (d + 0)) Q ((Sh0 n).length, jsl (Sh0 n)) pX11_allTaken, Q, ((Sh0 n).length, jsl (Sh0 n))) 5 [some (.ref 94), some (.int l1), some (.long s0.1), none, some (.int s0.2)] [] (Sh0 n, A, L))) (Gx := (fun s0 => pX11_allTaken (jEv jtab (d + 0), jWP (jEv jtab (d + 0)) Q ((Sh0 n).length, jsl (Sh0 n)) pX11_allTaken, Q, ((Sh0 n).length, jsl (Sh0 n))) 36 [none, none, some (.long s0), none, none] [] (Sh0 n, A, L))) (fun s1 z1 hz kk1 kk2 => tcX11_allTaken_5 d n A L l1 s1 hz kk1 kk2) hw2 ?_
  refine y_mask <| x_lload rfl <| x_push <| x_lcmp <| y_if_ne (fun h3 => ?_) (fun h3 => ?_)
  · replace h := of_neg h h3
    refine jWP.intro (pr := pX11_allTaken) (pc := 46) ?_
    refine y_mask <| x_lload rfl <| y_mask <| y_goto ?_
    refine jWP.intro (pr := pX11_allTaken) (pc := 47) ?_
    refine y_mrl (bs := []) (ls := []) ?_
    obtain rfl := Option.some.inj h
    exact k3
  · replace h := of_pos h h3
    refine jWP.intro (pr := pX11_allTaken) (pc := 42) ?_
    refine y_mask <| x_push <| y_mask <| y_goto ?_
    refine jWP.intro (pr := pX11_allTaken) (pc := 47) ?_
    refine y_mrl (bs := []) (ls := []) ?_
    obtain rfl := Option.some.inj h
    exact k3
theorem kX11_allTaken (d n : Nat) (A : Nat → Nat → Int32) (L : Nat → Nat → Int64) (l1 : Int32) {z : Int64} (h : fX11_allTaken A l1 = some z) : jEv jtab (d + 1) 215 [.ref 94, .int l1] (Sh0 n, A, L) 0 0 (fun r M2 => r = some (.long z) ∧ M2 = (Sh0 n, A, L)) :=
  jEv.mk (mt := mX11_allTaken) rfl (Nat.le_of_ble_eq_true rfl) (jWP.intro (pr := pX11_allTaken) (pc := 0) (tfX11_allTaken d n A L l1 h ⟨trivial, jCn.mk ⟨rfl, rfl⟩⟩))
set_option maxRecDepth 20000 in
theorem tcX11_counts_24 (d n : Nat) (A : Nat → Nat → Int32) (L : Nat → Nat → Int64) (l1 : Int32) (s : (Int64 × Int32)) {Q : Option Value → jM → Prop} {z : ((Int64 × Int32) ⊕ Int64)} (h : cX11_counts_24 A l1 s = some z) (k1 : ∀ s0, z = .inl s0 → pX11_counts (jEv jtab (d + 1), jWP (jEv jtab (d + 1)) Q ((Sh0 n).length, jsl (Sh0 n)) pX11_counts, Q, ((Sh0 n).length, jsl (Sh0 n))) 24 [some (.ref 94), some (.int l1), none, some (.long s0.1), none, some (.int s0.2)] [] (Sh0 n, A, L)) (k2 : ∀ s0, z = .inr s0 → pX11_counts (jEv jtab (d + 1), jWP (jEv jtab (d + 1)) Q ((Sh0 n).length, jsl (Sh0 n)) pX11_counts, Q, ((Sh0 n).length, jsl (Sh0 n))) 54 [none, none, none, some (.long s0), none, none] [] (Sh0 n, A, L)) : pX11_counts (jEv jtab (d + 1), jWP (jEv jtab (d + 1)) Q ((Sh0 n).length, jsl (Sh0 n)) pX11_counts, Q, ((Sh0 n).length, jsl (Sh0 n))) 24 [some (.ref 94), some (.int l1), none, some (.long s.1), none, some (.int s.2)] [] (Sh0 n, A, L) := by
  unfold cX11_counts_24 at h
  refine y_mask <| x_iload rfl <| x_aload rfl <| x_getI (Nat.le_of_ble_eq_true rfl) rfl rfl <| y_cmp_ge (fun h1 => ?_) (fun h1 => ?_)
  · replace h := of_pos h h1
    refine jWP.intro (pr := pX11_counts) (pc := 54) ?_
    have hk := k2 _ (Option.some.inj h).symm
    exact hk
  · replace h := of_neg h h1
    refine jWP.intro (pr := pX11_counts) (pc := 33) ?_
    refine y_mask <| x_iload rfl <| x_iload rfl <| y_cmp_eq (fun h2 => ?_) (fun h2 => ?_)
    · replace h := of_pos h h2
      refine jWP.intro (pr := pX11_counts) (pc := 48) ?_
      refine y_mask <| x_iinc rfl rfl <| y_mask <| y_goto ?_
      refine jWP.intro (pr := pX11_counts) (pc := 24) ?_
      have hk := k1 _ (Option.some.inj h).symm
      exact hk
    · replace h := of_neg h h2
      refine jWP.intro (pr := pX11_counts) (pc := 39) ?_
      obtain ⟨r3, hc4, h⟩ := of_bind h
      show bX11_counts_39 _ _ _ _
      unfold bX11_counts_39
      refine y_mask ?_
      refine x_lload rfl ?_
      refine x_aload rfl ?_
      refine x_iload rfl ?_
      refine y_invV1 (Nat.le_of_ble_eq_true rfl) rfl (Nat.le_of_ble_eq_true rfl) ?_
      refine jEv.exL (kX11_allTaken _ _ _ _ _ hc4) ?_
      refine x_lmul ?_
      refine x_lstore rfl ?_
      refine y_mask ?_
      refine y_goto ?_
      refine jWP.intro (pr := pX11_counts) (pc := 48) ?_
      refine y_mask <| x_iinc rfl rfl <| y_mask <| y_goto ?_
      refine jWP.intro (pr := pX11_counts) (pc := 24) ?_
      have hk := k1 _ (Option.some.inj h).symm
      exact hk
set_option maxRecDepth 20000 in
theorem tfX11_counts (d n : Nat) (A : Nat → Nat → Int32) (L : Nat → Nat → Int64) (l1 : Int32) (l2 : Int32) {Q : Option Value → jM → Prop} {z : Int64} (h : fX11_counts A l1 l2 = some z) (k3 : Q (some (.long z)) (Sh0 n, A, L)) : pX11_counts (jEv jtab (d + 1), jWP (jEv jtab (d + 1)) Q ((Sh0 n).length, jsl (Sh0 n)) pX11_counts, Q, ((Sh0 n).length, jsl (Sh0 n))) 0 [some (.ref 94), some (.int l1), some (.int l2), none, none, none] [] (Sh0 n, A, L) := by
  unfold fX11_counts at h
  obtain ⟨g1, h⟩ := of_guard h
  obtain ⟨g2, h⟩ := of_guard h
  show bX11_counts_0 _ _ _ _
  unfold bX11_counts_0
  refine y_mask ?_
  refine x_aload rfl ?_
  refine x_getR (Nat.le_of_ble_eq_true rfl) rfl rfl ?_
  refine x_iload rfl ?_
  refine x_iald rfl g1 ?_
  refine x_i2l ?_
  refine x_aload rfl ?_
  refine x_getR (Nat.le_of_ble_eq_true rfl) rfl rfl ?_
  refine x_push ?_
  refine x_iload rfl ?_
  refine x_imul ?_
  refine x_iload rfl ?_
  refine x_iadd ?_
  refine x_iald rfl g2 ?_
  refine x_i2l ?_
  refine x_lmul ?_
  refine x_lstore rfl ?_
  refine x_push ?_
  refine x_istore rfl ?_
  refine y_mask ?_
  refine y_goto ?_
  obtain ⟨e3, hw4, h⟩ := of_bind h
  refine jWP.intro (pr := pX11_counts) (pc := 24) ?_
  refine jwh_use (G := (fun s0 => pX11_counts (jEv jtab (d + 1), jWP (jEv jtab (d + 1)) Q ((Sh0 n).length, jsl (Sh0 n)) pX11_counts, Q, ((Sh0 n).length, jsl (Sh0 n))) 24 [some (.ref 94), some (.int l1), none, some (.long s0.1), none, some (.int s0.2)] [] (Sh0 n, A, L))) (Gx := (fun s0 => pX11_counts (jEv jtab (d + 1), jWP (jEv jtab (d + 1)) Q ((Sh0 n).length, jsl (Sh0 n)) pX11_counts, Q, ((Sh0 n).length, jsl (Sh0 n))) 54 [none, none, none, some (.long s0), none, none] [] (Sh0 n, A, L))) (fun s1 z1 hz kk1 kk2 => tcX11_counts_24 d n A L l1 s1 hz kk1 kk2) hw4 ?_
  refine y_mask <| x_lload rfl <| y_lreturn (ls := [none, none, none, some (.long e3), none, none]) ?_
  obtain rfl := Option.some.inj h
  exact k3
theorem kX11_counts (d n : Nat) (A : Nat → Nat → Int32) (L : Nat → Nat → Int64) (l1 : Int32) (l2 : Int32) {z : Int64} (h : fX11_counts A l1 l2 = some z) : jEv jtab (d + 2) 216 [.ref 94, .int l1, .int l2] (Sh0 n, A, L) 0 0 (fun r M2 => r = some (.long z) ∧ M2 = (Sh0 n, A, L)) :=
  jEv.mk (mt := mX11_counts) rfl (Nat.le_of_ble_eq_true rfl) (jWP.intro (pr := pX11_counts) (pc := 0) (tfX11_counts d n A L l1 l2 h ⟨trivial, jCn.mk ⟨rfl, rfl⟩⟩))
set_option maxRecDepth 20000 in
theorem tcX11_common_17 (d n : Nat) (A : Nat → Nat → Int32) (L : Nat → Nat → Int64) (s : (Int64 × Int64)) {Q : Option Value → jM → Prop} {z : ((Int64 × Int64) ⊕ Int64)} (h : cX11_common_17 s = some z) (k1 : ∀ s0, z = .inl s0 → pX11_common (jEv jtab (d + 0), jWP (jEv jtab (d + 0)) Q ((Sh0 n).length, jsl (Sh0 n)) pX11_common, Q, ((Sh0 n).length, jsl (Sh0 n))) 17 [none, none, none, none, some (.long s0.1), none, some (.long s0.2), none, none, none] [] (Sh0 n, A, L)) (k2 : ∀ s0, z = .inr s0 → pX11_common (jEv jtab (d + 0), jWP (jEv jtab (d + 0)) Q ((Sh0 n).length, jsl (Sh0 n)) pX11_common, Q, ((Sh0 n).length, jsl (Sh0 n))) 42 [none, none, none, none, some (.long s0), none, none, none, none, none] [] (Sh0 n, A, L)) : pX11_common (jEv jtab (d + 0), jWP (jEv jtab (d + 0)) Q ((Sh0 n).length, jsl (Sh0 n)) pX11_common, Q, ((Sh0 n).length, jsl (Sh0 n))) 17 [none, none, none, none, some (.long s.1), none, some (.long s.2), none, none, none] [] (Sh0 n, A, L) := by
  unfold cX11_common_17 at h
  refine y_mask <| x_lload rfl <| x_push <| x_lcmp <| y_if_eq (fun h1 => ?_) (fun h1 => ?_)
  · replace h := of_pos h h1
    refine jWP.intro (pr := pX11_common) (pc := 42) ?_
    have hk := k2 _ (Option.some.inj h).symm
    exact hk
  · replace h := of_neg h h1
    refine jWP.intro (pr := pX11_common) (pc := 24) ?_
    obtain ⟨g2, h⟩ := of_guard h
    show bX11_common_24 _ _ _ _
    unfold bX11_common_24
    refine y_mask ?_
    refine x_lload rfl ?_
    refine x_lload rfl ?_
    refine x_lrem g2 ?_
    refine x_lstore rfl ?_
    refine x_lload rfl ?_
    refine x_lstore rfl ?_
    refine x_lload rfl ?_
    refine x_lstore rfl ?_
    refine y_mask ?_
    refine y_goto ?_
    refine jWP.intro (pr := pX11_common) (pc := 17) ?_
    have hk := k1 _ (Option.some.inj h).symm
    exact hk
set_option maxRecDepth 20000 in
theorem tfX11_common (d n : Nat) (A : Nat → Nat → Int32) (L : Nat → Nat → Int64) (l0 : Int64) (l2 : Int64) {Q : Option Value → jM → Prop} {z : Int64} (h : fX11_common l0 l2 = some z) (k3 : Q (some (.long z)) (Sh0 n, A, L)) : pX11_common (jEv jtab (d + 0), jWP (jEv jtab (d + 0)) Q ((Sh0 n).length, jsl (Sh0 n)) pX11_common, Q, ((Sh0 n).length, jsl (Sh0 n))) 0 [some (.long l0), none, some (.long l2), none, none, none, none, none, none, none] [] (Sh0 n, A, L) := by
  unfold fX11_common at h
  refine y_mask <| x_lload rfl <| x_push <| x_lcmp <| y_if_ge (fun h1 => ?_) (fun h1 => ?_)
  · replace h := of_pos h h1
    refine jWP.intro (pr := pX11_common) (pc := 11) ?_
    refine y_mask <| x_lload rfl <| y_mask <| y_goto ?_
    refine jWP.intro (pr := pX11_common) (pc := 12) ?_
    refine y_mask <| x_lstore rfl <| x_lload rfl <| x_lstore rfl <| y_mask <| y_goto ?_
    obtain ⟨e2, hw3, h⟩ := of_bind h
    refine jWP.intro (pr := pX11_common) (pc := 17) ?_
    refine jwh_use (G := (fun s0 => pX11_common (jEv jtab (d + 0), jWP (jEv jtab (d + 0)) Q ((Sh0 n).length, jsl (Sh0 n)) pX11_common, Q, ((Sh0 n).length, jsl (Sh0 n))) 17 [none, none, none, none, some (.long s0.1), none, some (.long s0.2), none, none, none] [] (Sh0 n, A, L))) (Gx := (fun s0 => pX11_common (jEv jtab (d + 0), jWP (jEv jtab (d + 0)) Q ((Sh0 n).length, jsl (Sh0 n)) pX11_common, Q, ((Sh0 n).length, jsl (Sh0 n))) 42 [none, none, none, none, some (.long s0), none, none, none, none, none] [] (Sh0 n, A, L))) (fun s1 z1 hz kk1 kk2 => tcX11_common_17 d n A L s1 hz kk1 kk2) hw3 ?_
    refine y_mask <| x_lload rfl <| y_lreturn (ls := [none, none, none, none, some (.long e2), none, none, none, none, none]) ?_
    obtain rfl := Option.some.inj h
    exact k3
  · replace h := of_neg h h1
    refine jWP.intro (pr := pX11_common) (pc := 6) ?_
    refine y_mask <| x_lload rfl <| x_lneg <| y_mask <| y_goto ?_
    refine jWP.intro (pr := pX11_common) (pc := 12) ?_
    refine y_mask <| x_lstore rfl <| x_lload rfl <| x_lstore rfl <| y_mask <| y_goto ?_
    obtain ⟨e4, hw5, h⟩ := of_bind h
    refine jWP.intro (pr := pX11_common) (pc := 17) ?_
    refine jwh_use (G := (fun s0 => pX11_common (jEv jtab (d + 0), jWP (jEv jtab (d + 0)) Q ((Sh0 n).length, jsl (Sh0 n)) pX11_common, Q, ((Sh0 n).length, jsl (Sh0 n))) 17 [none, none, none, none, some (.long s0.1), none, some (.long s0.2), none, none, none] [] (Sh0 n, A, L))) (Gx := (fun s0 => pX11_common (jEv jtab (d + 0), jWP (jEv jtab (d + 0)) Q ((Sh0 n).length, jsl (Sh0 n)) pX11_common, Q, ((Sh0 n).length, jsl (Sh0 n))) 42 [none, none, none, none, some (.long s0), none, none, none, none, none] [] (Sh0 n, A, L))) (fun s1 z1 hz kk1 kk2 => tcX11_common_17 d n A L s1 hz kk1 kk2) hw5 ?_
    refine y_mask <| x_lload rfl <| y_lreturn (ls := [none, none, none, none, some (.long e4), none, none, none, none, none]) ?_
    obtain rfl := Option.some.inj h
    exact k3
theorem kX11_common (d n : Nat) (A : Nat → Nat → Int32) (L : Nat → Nat → Int64) (l0 : Int64) (l2 : Int64) {z : Int64} (h : fX11_common l0 l2 = some z) : jEv jtab (d + 1) 217 [.long l0, .long l2] (Sh0 n, A, L) 0 0 (fun r M2 => r = some (.long z) ∧ M2 = (Sh0 n, A, L)) :=
  jEv.mk (mt := mX11_common) rfl (Nat.le_of_ble_eq_true rfl) (jWP.intro (pr := pX11_common) (pc := 0) (tfX11_common d n A L l0 l2 h ⟨trivial, jCn.mk ⟨rfl, rfl⟩⟩))
set_option maxRecDepth 20000 in
theorem tfX11_part (d n : Nat) (A : Nat → Nat → Int32) (L : Nat → Nat → Int64) (l0 : Int64) (l2 : Int64) (l4 : Int32) {Q : Option Value → jM → Prop} {z : Int64} (h : fX11_part l0 l2 l4 = some z) (k3 : Q (some (.long z)) (Sh0 n, A, L)) : pX11_part (jEv jtab (d + 1), jWP (jEv jtab (d + 1)) Q ((Sh0 n).length, jsl (Sh0 n)) pX11_part, Q, ((Sh0 n).length, jsl (Sh0 n))) 0 [some (.long l0), none, some (.long l2), none, some (.int l4), none, none] [] (Sh0 n, A, L) := by
  unfold fX11_part at h
  refine y_mask <| x_lload rfl <| x_push <| x_lcmp <| y_if_eq (fun h1 => ?_) (fun h1 => ?_)
  · replace h := of_pos h h1
    refine jWP.intro (pr := pX11_part) (pc := 12) ?_
    refine y_mask <| x_iload rfl <| y_if_eq (fun h2 => ?_) (fun h2 => ?_)
    · replace h := of_pos h h2
      refine jWP.intro (pr := pX11_part) (pc := 21) ?_
      refine y_mask <| x_push <| y_mask <| y_goto ?_
      refine jWP.intro (pr := pX11_part) (pc := 22) ?_
      refine y_mrl (bs := []) (ls := []) ?_
      obtain rfl := Option.some.inj h
      exact k3
    · replace h := of_neg h h2
      refine jWP.intro (pr := pX11_part) (pc := 17) ?_
      refine y_mask <| x_push <| y_mask <| y_goto ?_
      refine jWP.intro (pr := pX11_part) (pc := 22) ?_
      refine y_mrl (bs := []) (ls := []) ?_
      obtain rfl := Option.some.inj h
      exact k3
  · replace h := of_neg h h1
    refine jWP.intro (pr := pX11_part) (pc := 6) ?_
    refine y_mask <| x_lload rfl <| x_push <| x_lcmp <| y_if_ne (fun h3 => ?_) (fun h3 => ?_)
    · replace h := of_neg h h3
      refine jWP.intro (pr := pX11_part) (pc := 23) ?_
      obtain ⟨r4, hc5, h⟩ := of_bind h
      refine y_mask <| x_lload rfl <| x_lload rfl <| y_invS2 (Nat.le_of_ble_eq_true rfl) <| jEv.exL (kX11_common _ _ _ _ _ _ hc5) <| x_lstore rfl <| x_iload rfl <| y_if_eq (fun h6 => ?_) (fun h6 => ?_)
      · replace h := of_pos h h6
        refine jWP.intro (pr := pX11_part) (pc := 42) ?_
        obtain ⟨g7, h⟩ := of_guard h
        refine y_mask <| x_lload rfl <| x_lload rfl <| x_ldiv g7 <| y_mask <| y_goto ?_
        refine jWP.intro (pr := pX11_part) (pc := 46) ?_
        refine y_mrl (bs := []) (ls := []) ?_
        obtain rfl := Option.some.inj h
        exact k3
      · replace h := of_neg h h6
        refine jWP.intro (pr := pX11_part) (pc := 35) ?_
        obtain ⟨g8, h⟩ := of_guard h
        refine y_mask <| x_lload rfl <| x_lload rfl <| x_ldiv g8 <| y_mask <| y_goto ?_
        refine jWP.intro (pr := pX11_part) (pc := 46) ?_
        refine y_mrl (bs := []) (ls := []) ?_
        obtain rfl := Option.some.inj h
        exact k3
    · replace h := of_pos h h3
      refine jWP.intro (pr := pX11_part) (pc := 12) ?_
      refine y_mask <| x_iload rfl <| y_if_eq (fun h9 => ?_) (fun h9 => ?_)
      · replace h := of_pos h h9
        refine jWP.intro (pr := pX11_part) (pc := 21) ?_
        refine y_mask <| x_push <| y_mask <| y_goto ?_
        refine jWP.intro (pr := pX11_part) (pc := 22) ?_
        refine y_mrl (bs := []) (ls := []) ?_
        obtain rfl := Option.some.inj h
        exact k3
      · replace h := of_neg h h9
        refine jWP.intro (pr := pX11_part) (pc := 17) ?_
        refine y_mask <| x_push <| y_mask <| y_goto ?_
        refine jWP.intro (pr := pX11_part) (pc := 22) ?_
        refine y_mrl (bs := []) (ls := []) ?_
        obtain rfl := Option.some.inj h
        exact k3
theorem kX11_part (d n : Nat) (A : Nat → Nat → Int32) (L : Nat → Nat → Int64) (l0 : Int64) (l2 : Int64) (l4 : Int32) {z : Int64} (h : fX11_part l0 l2 l4 = some z) : jEv jtab (d + 2) 218 [.long l0, .long l2, .int l4] (Sh0 n, A, L) 0 0 (fun r M2 => r = some (.long z) ∧ M2 = (Sh0 n, A, L)) :=
  jEv.mk (mt := mX11_part) rfl (Nat.le_of_ble_eq_true rfl) (jWP.intro (pr := pX11_part) (pc := 0) (tfX11_part d n A L l0 l2 l4 h ⟨trivial, jCn.mk ⟨rfl, rfl⟩⟩))
set_option maxRecDepth 20000 in
theorem tcX11_odds_35 (d n : Nat) (A : Nat → Nat → Int32) (L : Nat → Nat → Int64) (l1 : Int32) (l2 : Int32) (l3 : Int32) (s : (Int64 × Int32)) {Q : Option Value → jM → Prop} {z : ((Int64 × Int32) ⊕ Int64)} (h : cX11_odds_35 A l1 l2 l3 s = some z) (k1 : ∀ s0, z = .inl s0 → pX11_odds (jEv jtab (d + 2), jWP (jEv jtab (d + 2)) Q ((Sh0 n).length, jsl (Sh0 n)) pX11_odds, Q, ((Sh0 n).length, jsl (Sh0 n))) 35 [some (.ref 94), some (.int l1), some (.int l2), some (.int l3), some (.long s0.1), none, some (.int s0.2)] [] (Sh0 n, A, L)) (k2 : ∀ s0, z = .inr s0 → pX11_odds (jEv jtab (d + 2), jWP (jEv jtab (d + 2)) Q ((Sh0 n).length, jsl (Sh0 n)) pX11_odds, Q, ((Sh0 n).length, jsl (Sh0 n))) 62 [some (.ref 94), some (.int l1), some (.int l2), some (.int l3), some (.long s0), none, none] [] (Sh0 n, A, L)) : pX11_odds (jEv jtab (d + 2), jWP (jEv jtab (d + 2)) Q ((Sh0 n).length, jsl (Sh0 n)) pX11_odds, Q, ((Sh0 n).length, jsl (Sh0 n))) 35 [some (.ref 94), some (.int l1), some (.int l2), some (.int l3), some (.long s.1), none, some (.int s.2)] [] (Sh0 n, A, L) := by
  unfold cX11_odds_35 at h
  refine y_mask <| x_iload rfl <| x_aload rfl <| x_getI (Nat.le_of_ble_eq_true rfl) rfl rfl <| y_cmp_ge (fun h1 => ?_) (fun h1 => ?_)
  · replace h := of_pos h h1
    refine jWP.intro (pr := pX11_odds) (pc := 62) ?_
    have hk := k2 _ (Option.some.inj h).symm
    exact hk
  · replace h := of_neg h h1
    refine jWP.intro (pr := pX11_odds) (pc := 44) ?_
    obtain ⟨r2, hc3, h⟩ := of_bind h
    show bX11_odds_44 _ _ _ _
    unfold bX11_odds_44
    refine y_mask ?_
    refine x_lload rfl ?_
    refine x_aload rfl ?_
    refine x_iload rfl ?_
    refine x_iload rfl ?_
    refine y_invV2 (Nat.le_of_ble_eq_true rfl) rfl (Nat.le_of_ble_eq_true rfl) ?_
    refine jEv.exL (kX11_counts _ _ _ _ _ _ hc3) ?_
    refine x_ladd ?_
    refine x_lstore rfl ?_
    refine x_iinc rfl rfl ?_
    refine y_mask ?_
    refine y_goto ?_
    refine jWP.intro (pr := pX11_odds) (pc := 35) ?_
    have hk := k1 _ (Option.some.inj h).symm
    exact hk
set_option maxRecDepth 20000 in
theorem tfX11_odds (d n : Nat) (A : Nat → Nat → Int32) (L : Nat → Nat → Int64) (l1 : Int32) (l2 : Int32) (l3 : Int32) {Q : Option Value → jM → Prop} {z : Int64} (h : fX11_odds A l1 l2 l3 = some z) (k3 : Q (some (.long z)) (Sh0 n, A, L)) : pX11_odds (jEv jtab (d + 2), jWP (jEv jtab (d + 2)) Q ((Sh0 n).length, jsl (Sh0 n)) pX11_odds, Q, ((Sh0 n).length, jsl (Sh0 n))) 0 [some (.ref 94), some (.int l1), some (.int l2), some (.int l3), none, none, none] [] (Sh0 n, A, L) := by
  unfold fX11_odds at h
  refine y_mask <| x_aload rfl <| x_iload rfl <| y_invV1 (Nat.le_of_ble_eq_true rfl) rfl (Nat.le_of_ble_eq_true rfl) <| jEv.exZ (q := 212) rfl (kX11_isWord _ _ _ _ _) <| fun hz1 => y_if_eq (fun h2 => ?_) (fun h2 => ?_)
  · replace h := of_pos h h2
    refine jWP.intro (pr := pX11_odds) (pc := 25) ?_
    refine y_mprl (bs := []) (ls := []) ?_
    obtain rfl := Option.some.inj h
    exact k3
  · replace h := of_neg h h2
    refine jWP.intro (pr := pX11_odds) (pc := 8) ?_
    refine y_mask <| x_aload rfl <| x_iload rfl <| y_invV1 (Nat.le_of_ble_eq_true rfl) rfl (Nat.le_of_ble_eq_true rfl) <| jEv.exZ (q := 212) rfl (kX11_isWord _ _ _ _ _) <| fun hz3 => y_if_eq (fun h4 => ?_) (fun h4 => ?_)
    · replace h := of_pos h h4
      refine jWP.intro (pr := pX11_odds) (pc := 25) ?_
      refine y_mprl (bs := []) (ls := []) ?_
      obtain rfl := Option.some.inj h
      exact k3
    · replace h := of_neg h h4
      refine jWP.intro (pr := pX11_odds) (pc := 16) ?_
      refine y_mask <| x_iload rfl <| x_push <| x_push <| y_invS3 (Nat.le_of_ble_eq_true rfl) <| jEv.exZ (q := 159) rfl (kX11_in _ _ _ _ _ _ _) <| fun hz5 => y_if_ne (fun h6 => ?_) (fun h6 => ?_)
      · replace h := of_neg h h6
        refine jWP.intro (pr := pX11_odds) (pc := 29) ?_
        refine y_mask <| x_push <| x_lstore rfl <| x_push <| x_istore rfl <| y_mask <| y_goto ?_
        obtain ⟨e7, hw8, h⟩ := of_bind h
        refine jWP.intro (pr := pX11_odds) (pc := 35) ?_
        refine jwh_use (G := (fun s0 => pX11_odds (jEv jtab (d + 2), jWP (jEv jtab (d + 2)) Q ((Sh0 n).length, jsl (Sh0 n)) pX11_odds, Q, ((Sh0 n).length, jsl (Sh0 n))) 35 [some (.ref 94), some (.int l1), some (.int l2), some (.int l3), some (.long s0.1), none, some (.int s0.2)] [] (Sh0 n, A, L))) (Gx := (fun s0 => pX11_odds (jEv jtab (d + 2), jWP (jEv jtab (d + 2)) Q ((Sh0 n).length, jsl (Sh0 n)) pX11_odds, Q, ((Sh0 n).length, jsl (Sh0 n))) 62 [some (.ref 94), some (.int l1), some (.int l2), some (.int l3), some (.long s0), none, none] [] (Sh0 n, A, L))) (fun s1 z1 hz kk1 kk2 => tcX11_odds_35 d n A L l1 l2 l3 s1 hz kk1 kk2) hw8 ?_
        obtain ⟨r9, hc10, h⟩ := of_bind h
        refine y_mask <| x_aload rfl <| x_iload rfl <| x_iload rfl <| y_invV2 (Nat.le_of_ble_eq_true rfl) rfl (Nat.le_of_ble_eq_true rfl) <| jEv.exL (kX11_counts _ _ _ _ _ _ hc10) <| x_lload rfl <| x_iload rfl <| y_if_ne (fun h11 => ?_) (fun h11 => ?_)
        · replace h := of_neg h h11
          refine jWP.intro (pr := pX11_odds) (pc := 78) ?_
          refine y_mask <| x_push <| y_mask <| y_goto ?_
          refine jWP.intro (pr := pX11_odds) (pc := 79) ?_
          obtain ⟨r12, hc13, h⟩ := of_bind h
          refine y_mask <| y_invS3 (Nat.le_of_ble_eq_true rfl) <| jEv.exL (kX11_part _ _ _ _ _ _ _ hc13) <| y_lreturn (ls := [none, none, none, none, none, none, none]) ?_
          obtain rfl := Option.some.inj h
          exact k3
        · replace h := of_pos h h11
          refine jWP.intro (pr := pX11_odds) (pc := 74) ?_
          refine y_mask <| x_push <| y_mask <| y_goto ?_
          refine jWP.intro (pr := pX11_odds) (pc := 79) ?_
          obtain ⟨r14, hc15, h⟩ := of_bind h
          refine y_mask <| y_invS3 (Nat.le_of_ble_eq_true rfl) <| jEv.exL (kX11_part _ _ _ _ _ _ _ hc15) <| y_lreturn (ls := [none, none, none, none, none, none, none]) ?_
          obtain rfl := Option.some.inj h
          exact k3
      · replace h := of_pos h h6
        refine jWP.intro (pr := pX11_odds) (pc := 25) ?_
        refine y_mprl (bs := []) (ls := []) ?_
        obtain rfl := Option.some.inj h
        exact k3
theorem kX11_odds (d n : Nat) (A : Nat → Nat → Int32) (L : Nat → Nat → Int64) (l1 : Int32) (l2 : Int32) (l3 : Int32) {z : Int64} (h : fX11_odds A l1 l2 l3 = some z) : jEv jtab (d + 3) 219 [.ref 94, .int l1, .int l2, .int l3] (Sh0 n, A, L) 0 0 (fun r M2 => r = some (.long z) ∧ M2 = (Sh0 n, A, L)) :=
  jEv.mk (mt := mX11_odds) rfl (Nat.le_of_ble_eq_true rfl) (jWP.intro (pr := pX11_odds) (pc := 0) (tfX11_odds d n A L l1 l2 l3 h ⟨trivial, jCn.mk ⟨rfl, rfl⟩⟩))
set_option maxRecDepth 20000 in
theorem tcX11_was_18 (d n : Nat) (A : Nat → Nat → Int32) (L : Nat → Nat → Int64) (l1 : Int32) (s : (Int32 × Int64 × Int32)) {Q : Option Value → jM → Prop} {z : ((Int32 × Int64 × Int32) ⊕ Int32)} (h : cX11_was_18 A l1 s = some z) (k1 : ∀ s0, z = .inl s0 → pX11_was (jEv jtab (d + 2), jWP (jEv jtab (d + 2)) Q ((Sh0 n).length, jsl (Sh0 n)) pX11_was, Q, ((Sh0 n).length, jsl (Sh0 n))) 18 [some (.ref 94), some (.int l1), some (.int s0.1), some (.long s0.2.1), none, some (.int s0.2.2), none, none] [] (Sh0 n, A, L)) (k2 : ∀ s0, z = .inr s0 → pX11_was (jEv jtab (d + 2), jWP (jEv jtab (d + 2)) Q ((Sh0 n).length, jsl (Sh0 n)) pX11_was, Q, ((Sh0 n).length, jsl (Sh0 n))) 58 [none, none, some (.int s0), none, none, none, none, none] [] (Sh0 n, A, L)) : pX11_was (jEv jtab (d + 2), jWP (jEv jtab (d + 2)) Q ((Sh0 n).length, jsl (Sh0 n)) pX11_was, Q, ((Sh0 n).length, jsl (Sh0 n))) 18 [some (.ref 94), some (.int l1), some (.int s.1), some (.long s.2.1), none, some (.int s.2.2), none, none] [] (Sh0 n, A, L) := by
  unfold cX11_was_18 at h
  refine y_mask <| x_iload rfl <| x_aload rfl <| x_getI (Nat.le_of_ble_eq_true rfl) rfl rfl <| y_cmp_ge (fun h1 => ?_) (fun h1 => ?_)
  · replace h := of_pos h h1
    refine jWP.intro (pr := pX11_was) (pc := 58) ?_
    have hk := k2 _ (Option.some.inj h).symm
    exact hk
  · replace h := of_neg h h1
    refine jWP.intro (pr := pX11_was) (pc := 27) ?_
    obtain ⟨r2, hc3, h⟩ := of_bind h
    show bX11_was_27 _ _ _ _
    unfold bX11_was_27
    refine y_mask ?_
    refine x_aload rfl ?_
    refine x_iload rfl ?_
    refine x_iload rfl ?_
    refine y_invV2 (Nat.le_of_ble_eq_true rfl) rfl (Nat.le_of_ble_eq_true rfl) ?_
    refine jEv.exL (kX11_counts _ _ _ _ _ _ hc3) ?_
    refine x_lstore rfl ?_
    refine x_lload rfl ?_
    refine x_lload rfl ?_
    refine x_lcmp ?_
    refine y_if_gt (fun h4 => ?_) (fun h4 => ?_)
    · replace h := of_pos h h4
      refine jWP.intro (pr := pX11_was) (pc := 46) ?_
      refine y_mask <| x_iload rfl <| x_istore rfl <| x_lload rfl <| x_lstore rfl <| y_mask <| y_goto ?_
      refine jWP.intro (pr := pX11_was) (pc := 52) ?_
      refine y_mask <| x_iinc rfl rfl <| y_mask <| y_goto ?_
      refine jWP.intro (pr := pX11_was) (pc := 18) ?_
      have hk := k1 _ (Option.some.inj h).symm
      exact hk
    · replace h := of_neg h h4
      refine jWP.intro (pr := pX11_was) (pc := 43) ?_
      refine y_mask <| y_mask <| y_goto ?_
      refine jWP.intro (pr := pX11_was) (pc := 52) ?_
      refine y_mask <| x_iinc rfl rfl <| y_mask <| y_goto ?_
      refine jWP.intro (pr := pX11_was) (pc := 18) ?_
      have hk := k1 _ (Option.some.inj h).symm
      exact hk
set_option maxRecDepth 20000 in
theorem tfX11_was (d n : Nat) (A : Nat → Nat → Int32) (L : Nat → Nat → Int64) (l1 : Int32) {Q : Option Value → jM → Prop} {z : Int32} (h : fX11_was A l1 = some z) (k3 : Q (some (.int z)) (Sh0 n, A, L)) : pX11_was (jEv jtab (d + 2), jWP (jEv jtab (d + 2)) Q ((Sh0 n).length, jsl (Sh0 n)) pX11_was, Q, ((Sh0 n).length, jsl (Sh0 n))) 0 [some (.ref 94), some (.int l1), none, none, none, none, none, none] [] (Sh0 n, A, L) := by
  unfold fX11_was at h
  refine y_mask <| x_aload rfl <| x_iload rfl <| y_invV1 (Nat.le_of_ble_eq_true rfl) rfl (Nat.le_of_ble_eq_true rfl) <| jEv.exZ (q := 212) rfl (kX11_isWord _ _ _ _ _) <| fun hz1 => y_if_ne (fun h2 => ?_) (fun h2 => ?_)
  · replace h := of_neg h h2
    refine jWP.intro (pr := pX11_was) (pc := 11) ?_
    refine y_mask <| x_push <| x_istore rfl <| x_push <| x_lstore rfl <| x_push <| x_istore rfl <| y_mask <| y_goto ?_
    obtain ⟨e3, hw4, h⟩ := of_bind h
    refine jWP.intro (pr := pX11_was) (pc := 18) ?_
    refine jwh_use (G := (fun s0 => pX11_was (jEv jtab (d + 2), jWP (jEv jtab (d + 2)) Q ((Sh0 n).length, jsl (Sh0 n)) pX11_was, Q, ((Sh0 n).length, jsl (Sh0 n))) 18 [some (.ref 94), some (.int l1), some (.int s0.1), some (.long s0.2.1), none, some (.int s0.2.2), none, none] [] (Sh0 n, A, L))) (Gx := (fun s0 => pX11_was (jEv jtab (d + 2), jWP (jEv jtab (d + 2)) Q ((Sh0 n).length, jsl (Sh0 n)) pX11_was, Q, ((Sh0 n).length, jsl (Sh0 n))) 58 [none, none, some (.int s0), none, none, none, none, none] [] (Sh0 n, A, L))) (fun s1 z1 hz kk1 kk2 => tcX11_was_18 d n A L l1 s1 hz kk1 kk2) hw4 ?_
    refine y_mask <| x_iload rfl <| y_ireturn (ls := [none, none, some (.int e3), none, none, none, none, none]) ?_
    obtain rfl := Option.some.inj h
    exact k3
  · replace h := of_pos h h2
    refine jWP.intro (pr := pX11_was) (pc := 8) ?_
    refine y_mpri (bs := []) (ls := []) ?_
    obtain rfl := Option.some.inj h
    exact k3
theorem kX11_was (d n : Nat) (A : Nat → Nat → Int32) (L : Nat → Nat → Int64) (l1 : Int32) {z : Int32} (h : fX11_was A l1 = some z) : jEv jtab (d + 3) 220 [.ref 94, .int l1] (Sh0 n, A, L) 0 0 (fun r M2 => r = some (.int z) ∧ M2 = (Sh0 n, A, L)) :=
  jEv.mk (mt := mX11_was) rfl (Nat.le_of_ble_eq_true rfl) (jWP.intro (pr := pX11_was) (pc := 0) (tfX11_was d n A L l1 h ⟨trivial, jCn.mk ⟨rfl, rfl⟩⟩))
set_option maxRecDepth 20000 in
theorem tcX11_bitsOf_4 (d n : Nat) (A : Nat → Nat → Int32) (L : Nat → Nat → Int64) (s : (Int32 × Int32)) {Q : Option Value → jM → Prop} {z : ((Int32 × Int32) ⊕ Int32)} (h : cX11_bitsOf_4 s = some z) (k1 : ∀ s0, z = .inl s0 → pX11_bitsOf (jEv jtab (d + 0), jWP (jEv jtab (d + 0)) Q ((Sh0 n).length, jsl (Sh0 n)) pX11_bitsOf, Q, ((Sh0 n).length, jsl (Sh0 n))) 4 [none, some (.int s0.1), some (.int s0.2)] [] (Sh0 n, A, L)) (k2 : ∀ s0, z = .inr s0 → pX11_bitsOf (jEv jtab (d + 0), jWP (jEv jtab (d + 0)) Q ((Sh0 n).length, jsl (Sh0 n)) pX11_bitsOf, Q, ((Sh0 n).length, jsl (Sh0 n))) 20 [none, some (.int s0), none] [] (Sh0 n, A, L)) : pX11_bitsOf (jEv jtab (d + 0), jWP (jEv jtab (d + 0)) Q ((Sh0 n).length, jsl (Sh0 n)) pX11_bitsOf, Q, ((Sh0 n).length, jsl (Sh0 n))) 4 [none, some (.int s.1), some (.int s.2)] [] (Sh0 n, A, L) := by
  unfold cX11_bitsOf_4 at h
  refine y_mask <| x_iload rfl <| y_if_eq (fun h1 => ?_) (fun h1 => ?_)
  · replace h := of_pos h h1
    refine jWP.intro (pr := pX11_bitsOf) (pc := 20) ?_
    have hk := k2 _ (Option.some.inj h).symm
    exact hk
  · replace h := of_neg h h1
    refine jWP.intro (pr := pX11_bitsOf) (pc := 8) ?_
    show bX11_bitsOf_8 _ _ _ _
    unfold bX11_bitsOf_8
    refine y_mask ?_
    refine x_iinc rfl rfl ?_
    refine x_iload rfl ?_
    refine x_iload rfl ?_
    refine x_push ?_
    refine x_isub ?_
    refine x_iand ?_
    refine x_istore rfl ?_
    refine y_mask ?_
    refine y_goto ?_
    refine jWP.intro (pr := pX11_bitsOf) (pc := 4) ?_
    have hk := k1 _ (Option.some.inj h).symm
    exact hk
set_option maxRecDepth 20000 in
theorem tfX11_bitsOf (d n : Nat) (A : Nat → Nat → Int32) (L : Nat → Nat → Int64) (l0 : Int32) {Q : Option Value → jM → Prop} {z : Int32} (h : fX11_bitsOf l0 = some z) (k3 : Q (some (.int z)) (Sh0 n, A, L)) : pX11_bitsOf (jEv jtab (d + 0), jWP (jEv jtab (d + 0)) Q ((Sh0 n).length, jsl (Sh0 n)) pX11_bitsOf, Q, ((Sh0 n).length, jsl (Sh0 n))) 0 [some (.int l0), none, none] [] (Sh0 n, A, L) := by
  unfold fX11_bitsOf at h
  refine y_mask <| x_push <| x_istore rfl <| x_iload rfl <| x_istore rfl <| y_mask <| y_goto ?_
  obtain ⟨e1, hw2, h⟩ := of_bind h
  refine jWP.intro (pr := pX11_bitsOf) (pc := 4) ?_
  refine jwh_use (G := (fun s0 => pX11_bitsOf (jEv jtab (d + 0), jWP (jEv jtab (d + 0)) Q ((Sh0 n).length, jsl (Sh0 n)) pX11_bitsOf, Q, ((Sh0 n).length, jsl (Sh0 n))) 4 [none, some (.int s0.1), some (.int s0.2)] [] (Sh0 n, A, L))) (Gx := (fun s0 => pX11_bitsOf (jEv jtab (d + 0), jWP (jEv jtab (d + 0)) Q ((Sh0 n).length, jsl (Sh0 n)) pX11_bitsOf, Q, ((Sh0 n).length, jsl (Sh0 n))) 20 [none, some (.int s0), none] [] (Sh0 n, A, L))) (fun s1 z1 hz kk1 kk2 => tcX11_bitsOf_4 d n A L s1 hz kk1 kk2) hw2 ?_
  refine y_mask <| x_iload rfl <| y_ireturn (ls := [none, some (.int e1), none]) ?_
  obtain rfl := Option.some.inj h
  exact k3
theorem kX11_bitsOf (d n : Nat) (A : Nat → Nat → Int32) (L : Nat → Nat → Int64) (l0 : Int32) {z : Int32} (h : fX11_bitsOf l0 = some z) : jEv jtab (d + 1) 162 [.int l0] (Sh0 n, A, L) 0 0 (fun r M2 => r = some (.int z) ∧ M2 = (Sh0 n, A, L)) :=
  jEv.mk (mt := mX11_bitsOf) rfl (Nat.le_of_ble_eq_true rfl) (jWP.intro (pr := pX11_bitsOf) (pc := 0) (tfX11_bitsOf d n A L l0 h ⟨trivial, jCn.mk ⟨rfl, rfl⟩⟩))
set_option maxRecDepth 20000 in
theorem tcX11_list_73 (d n : Nat) (A : Nat → Nat → Int32) (L : Nat → Nat → Int64) (l1 : Int32) (l2 : Int32) (l3 : Int32) (l4 : Int32) (l5 : Int32) (l7 : Int32) (s : (Int32 × Int32)) {Q : Option Value → jM → Prop} {z : ((Int32 × Int32) ⊕ Int32)} (h : cX11_list_73 A l1 l2 l3 l4 l5 l7 s = some z) (k1 : ∀ s0, z = .inl s0 → pX11_list (jEv jtab (d + 1), jWP (jEv jtab (d + 1)) Q ((Sh0 n).length, jsl (Sh0 n)) pX11_list, Q, ((Sh0 n).length, jsl (Sh0 n))) 73 [some (.ref 94), some (.int l1), some (.int l2), some (.int l3), some (.int l4), some (.int l5), some (.int s0.1), some (.int l7), some (.int s0.2)] [] (Sh0 n, A, L)) (k2 : ∀ s0, z = .inr s0 → pX11_list (jEv jtab (d + 1), jWP (jEv jtab (d + 1)) Q ((Sh0 n).length, jsl (Sh0 n)) pX11_list, Q, ((Sh0 n).length, jsl (Sh0 n))) 135 [some (.ref 94), some (.int l1), some (.int l2), some (.int l3), some (.int l4), some (.int l5), some (.int s0), some (.int l7), none] [] (Sh0 n, A, L)) : pX11_list (jEv jtab (d + 1), jWP (jEv jtab (d + 1)) Q ((Sh0 n).length, jsl (Sh0 n)) pX11_list, Q, ((Sh0 n).length, jsl (Sh0 n))) 73 [some (.ref 94), some (.int l1), some (.int l2), some (.int l3), some (.int l4), some (.int l5), some (.int s.1), some (.int l7), some (.int s.2)] [] (Sh0 n, A, L) := by
  unfold cX11_list_73 at h
  refine y_mask <| x_iload rfl <| x_aload rfl <| x_getI (Nat.le_of_ble_eq_true rfl) rfl rfl <| y_cmp_ge (fun h1 => ?_) (fun h1 => ?_)
  · replace h := of_pos h h1
    refine jWP.intro (pr := pX11_list) (pc := 135) ?_
    have hk := k2 _ (Option.some.inj h).symm
    exact hk
  · replace h := of_neg h h1
    refine jWP.intro (pr := pX11_list) (pc := 82) ?_
    refine y_mask <| x_iload rfl <| x_iload rfl <| y_cmp_eq (fun h2 => ?_) (fun h2 => ?_)
    · replace h := of_pos h h2
      refine jWP.intro (pr := pX11_list) (pc := 129) ?_
      refine y_mask <| x_iinc rfl rfl <| y_mask <| y_goto ?_
      refine jWP.intro (pr := pX11_list) (pc := 73) ?_
      have hk := k1 _ (Option.some.inj h).symm
      exact hk
    · replace h := of_neg h h2
      refine jWP.intro (pr := pX11_list) (pc := 89) ?_
      refine y_mask <| x_iload rfl <| x_iload rfl <| x_ishr <| x_push <| x_iand <| x_push <| y_cmp_ne (fun h3 => ?_) (fun h3 => ?_)
      · replace h := of_neg h h3
        refine jWP.intro (pr := pX11_list) (pc := 129) ?_
        refine y_mask <| x_iinc rfl rfl <| y_mask <| y_goto ?_
        refine jWP.intro (pr := pX11_list) (pc := 73) ?_
        have hk := k1 _ (Option.some.inj h).symm
        exact hk
      · replace h := of_pos h h3
        refine jWP.intro (pr := pX11_list) (pc := 100) ?_
        refine y_mask <| x_iload rfl <| x_iload rfl <| x_ishr <| x_push <| x_iand <| x_push <| y_cmp_ne (fun h4 => ?_) (fun h4 => ?_)
        · replace h := of_neg h h4
          refine jWP.intro (pr := pX11_list) (pc := 129) ?_
          refine y_mask <| x_iinc rfl rfl <| y_mask <| y_goto ?_
          refine jWP.intro (pr := pX11_list) (pc := 73) ?_
          have hk := k1 _ (Option.some.inj h).symm
          exact hk
        · replace h := of_pos h h4
          refine jWP.intro (pr := pX11_list) (pc := 111) ?_
          obtain ⟨g5, h⟩ := of_guard h
          show bX11_list_111 _ _ _ _
          unfold bX11_list_111
          refine y_mask ?_
          refine x_iload rfl ?_
          refine x_aload rfl ?_
          refine x_getR (Nat.le_of_ble_eq_true rfl) rfl rfl ?_
          refine x_push ?_
          refine x_iload rfl ?_
          refine x_imul ?_
          refine x_iload rfl ?_
          refine x_iadd ?_
          refine x_iald rfl g5 ?_
          refine x_iadd ?_
          refine x_istore rfl ?_
          refine y_mask ?_
          refine y_goto ?_
          refine jWP.intro (pr := pX11_list) (pc := 129) ?_
          refine y_mask <| x_iinc rfl rfl <| y_mask <| y_goto ?_
          refine jWP.intro (pr := pX11_list) (pc := 73) ?_
          have hk := k1 _ (Option.some.inj h).symm
          exact hk
set_option maxRecDepth 20000 in
theorem tcX11_list_61 (d n : Nat) (A : Nat → Nat → Int32) (L : Nat → Nat → Int64) (l1 : Int32) (l2 : Int32) (l3 : Int32) (l4 : Int32) (l5 : Int32) (s : (Int32 × Int32)) {Q : Option Value → jM → Prop} {z : ((Int32 × Int32) ⊕ Int32)} (h : cX11_list_61 A l1 l2 l3 l4 l5 s = some z) (k1 : ∀ s0, z = .inl s0 → pX11_list (jEv jtab (d + 1), jWP (jEv jtab (d + 1)) Q ((Sh0 n).length, jsl (Sh0 n)) pX11_list, Q, ((Sh0 n).length, jsl (Sh0 n))) 61 [some (.ref 94), some (.int l1), some (.int l2), some (.int l3), some (.int l4), some (.int l5), some (.int s0.1), some (.int s0.2), none] [] (Sh0 n, A, L)) (k2 : ∀ s0, z = .inr s0 → pX11_list (jEv jtab (d + 1), jWP (jEv jtab (d + 1)) Q ((Sh0 n).length, jsl (Sh0 n)) pX11_list, Q, ((Sh0 n).length, jsl (Sh0 n))) 141 [some (.ref 94), some (.int l1), some (.int l2), some (.int l3), some (.int l4), some (.int l5), some (.int s0), none, none] [] (Sh0 n, A, L)) : pX11_list (jEv jtab (d + 1), jWP (jEv jtab (d + 1)) Q ((Sh0 n).length, jsl (Sh0 n)) pX11_list, Q, ((Sh0 n).length, jsl (Sh0 n))) 61 [some (.ref 94), some (.int l1), some (.int l2), some (.int l3), some (.int l4), some (.int l5), some (.int s.1), some (.int s.2), none] [] (Sh0 n, A, L) := by
  unfold cX11_list_61 at h
  refine y_mask <| x_iload rfl <| x_aload rfl <| x_getI (Nat.le_of_ble_eq_true rfl) rfl rfl <| y_cmp_ge (fun h1 => ?_) (fun h1 => ?_)
  · replace h := of_pos h h1
    refine jWP.intro (pr := pX11_list) (pc := 141) ?_
    have hk := k2 _ (Option.some.inj h).symm
    exact hk
  · replace h := of_neg h h1
    refine jWP.intro (pr := pX11_list) (pc := 70) ?_
    refine y_mask <| x_push <| x_istore rfl <| y_mask <| y_goto ?_
    obtain ⟨e2, hw3, h⟩ := of_bind h
    refine jWP.intro (pr := pX11_list) (pc := 73) ?_
    refine jwh_use (G := (fun s0 => pX11_list (jEv jtab (d + 1), jWP (jEv jtab (d + 1)) Q ((Sh0 n).length, jsl (Sh0 n)) pX11_list, Q, ((Sh0 n).length, jsl (Sh0 n))) 73 [some (.ref 94), some (.int l1), some (.int l2), some (.int l3), some (.int l4), some (.int l5), some (.int s0.1), some (.int s.2), some (.int s0.2)] [] (Sh0 n, A, L))) (Gx := (fun s0 => pX11_list (jEv jtab (d + 1), jWP (jEv jtab (d + 1)) Q ((Sh0 n).length, jsl (Sh0 n)) pX11_list, Q, ((Sh0 n).length, jsl (Sh0 n))) 135 [some (.ref 94), some (.int l1), some (.int l2), some (.int l3), some (.int l4), some (.int l5), some (.int s0), some (.int s.2), none] [] (Sh0 n, A, L))) (fun s1 z1 hz kk1 kk2 => tcX11_list_73 d n A L l1 l2 l3 l4 l5 s.2 s1 hz kk1 kk2) hw3 ?_
    refine y_mask <| x_iinc rfl rfl <| y_mask <| y_goto ?_
    refine jWP.intro (pr := pX11_list) (pc := 61) ?_
    have hk := k1 _ (Option.some.inj h).symm
    exact hk
set_option maxRecDepth 20000 in
theorem tjX11_list_156_32 (d n : Nat) (A : Nat → Nat → Int32) (L : Nat → Nat → Int64) (l1 : Int32) (l2 : Int32) (l5 : Int32) (l6 : Int32) {Q : Option Value → jM → Prop} {z : ((Int32 × Int32 × Int32) ⊕ (Int32 × Int32))} (h : jX11_list_156_32 A l1 l2 l5 l6 = some z) (k1 : ∀ s0, z = .inl s0 → pX11_list (jEv jtab (d + 1), jWP (jEv jtab (d + 1)) Q ((Sh0 n).length, jsl (Sh0 n)) pX11_list, Q, ((Sh0 n).length, jsl (Sh0 n))) 32 [some (.ref 94), some (.int l1), some (.int l2), some (.int s0.1), some (.int s0.2.1), some (.int s0.2.2), none, none, none] [] (Sh0 n, A, L)) (k2 : ∀ s0, z = .inr s0 → pX11_list (jEv jtab (d + 1), jWP (jEv jtab (d + 1)) Q ((Sh0 n).length, jsl (Sh0 n)) pX11_list, Q, ((Sh0 n).length, jsl (Sh0 n))) 169 [none, none, some (.int l2), some (.int s0.1), some (.int s0.2), none, none, none, none] [] (Sh0 n, A, L)) : pX11_list (jEv jtab (d + 1), jWP (jEv jtab (d + 1)) Q ((Sh0 n).length, jsl (Sh0 n)) pX11_list, Q, ((Sh0 n).length, jsl (Sh0 n))) 156 [some (.ref 94), some (.int l1), some (.int l2), none, none, some (.int l5), some (.int l6), none, none] [] (Sh0 n, A, L) := by
  unfold jX11_list_156_32 at h
  refine y_mask <| x_iload rfl <| x_istore rfl <| x_iload rfl <| x_istore rfl <| y_mask <| y_goto ?_
  refine jWP.intro (pr := pX11_list) (pc := 163) ?_
  refine y_mask <| x_iinc rfl rfl <| y_mask <| y_goto ?_
  refine jWP.intro (pr := pX11_list) (pc := 32) ?_
  have hk := k1 _ (Option.some.inj h).symm
  exact hk
set_option maxRecDepth 20000 in
theorem tcX11_list_32 (d n : Nat) (A : Nat → Nat → Int32) (L : Nat → Nat → Int64) (l1 : Int32) (l2 : Int32) (s : (Int32 × Int32 × Int32)) {Q : Option Value → jM → Prop} {z : ((Int32 × Int32 × Int32) ⊕ (Int32 × Int32))} (h : cX11_list_32 A l1 l2 s = some z) (k1 : ∀ s0, z = .inl s0 → pX11_list (jEv jtab (d + 1), jWP (jEv jtab (d + 1)) Q ((Sh0 n).length, jsl (Sh0 n)) pX11_list, Q, ((Sh0 n).length, jsl (Sh0 n))) 32 [some (.ref 94), some (.int l1), some (.int l2), some (.int s0.1), some (.int s0.2.1), some (.int s0.2.2), none, none, none] [] (Sh0 n, A, L)) (k2 : ∀ s0, z = .inr s0 → pX11_list (jEv jtab (d + 1), jWP (jEv jtab (d + 1)) Q ((Sh0 n).length, jsl (Sh0 n)) pX11_list, Q, ((Sh0 n).length, jsl (Sh0 n))) 169 [none, none, some (.int l2), some (.int s0.1), some (.int s0.2), none, none, none, none] [] (Sh0 n, A, L)) : pX11_list (jEv jtab (d + 1), jWP (jEv jtab (d + 1)) Q ((Sh0 n).length, jsl (Sh0 n)) pX11_list, Q, ((Sh0 n).length, jsl (Sh0 n))) 32 [some (.ref 94), some (.int l1), some (.int l2), some (.int s.1), some (.int s.2.1), some (.int s.2.2), none, none, none] [] (Sh0 n, A, L) := by
  unfold cX11_list_32 at h
  refine y_mask <| x_iload rfl <| x_push <| x_aload rfl <| x_getI (Nat.le_of_ble_eq_true rfl) rfl rfl <| x_ishl <| y_cmp_ge (fun h1 => ?_) (fun h1 => ?_)
  · replace h := of_pos h h1
    refine jWP.intro (pr := pX11_list) (pc := 169) ?_
    have hk := k2 _ (Option.some.inj h).symm
    exact hk
  · replace h := of_neg h h1
    refine jWP.intro (pr := pX11_list) (pc := 43) ?_
    obtain ⟨r2, hc3, h⟩ := of_bind h
    refine y_mask <| x_iload rfl <| y_invS1 (Nat.le_of_ble_eq_true rfl) <| jEv.exI (kX11_bitsOf _ _ _ _ _ hc3) <| x_iload rfl <| y_cmp_eq (fun h4 => ?_) (fun h4 => ?_)
    · replace h := of_pos h h4
      refine jWP.intro (pr := pX11_list) (pc := 55) ?_
      refine y_mask <| x_push <| x_istore rfl <| x_push <| x_istore rfl <| y_mask <| y_goto ?_
      obtain ⟨e5, hw6, h⟩ := of_bind h
      refine jWP.intro (pr := pX11_list) (pc := 61) ?_
      refine jwh_use (G := (fun s0 => pX11_list (jEv jtab (d + 1), jWP (jEv jtab (d + 1)) Q ((Sh0 n).length, jsl (Sh0 n)) pX11_list, Q, ((Sh0 n).length, jsl (Sh0 n))) 61 [some (.ref 94), some (.int l1), some (.int l2), some (.int s.1), some (.int s.2.1), some (.int s.2.2), some (.int s0.1), some (.int s0.2), none] [] (Sh0 n, A, L))) (Gx := (fun s0 => pX11_list (jEv jtab (d + 1), jWP (jEv jtab (d + 1)) Q ((Sh0 n).length, jsl (Sh0 n)) pX11_list, Q, ((Sh0 n).length, jsl (Sh0 n))) 141 [some (.ref 94), some (.int l1), some (.int l2), some (.int s.1), some (.int s.2.1), some (.int s.2.2), some (.int s0), none, none] [] (Sh0 n, A, L))) (fun s1 z1 hz kk1 kk2 => tcX11_list_61 d n A L l1 l2 s.1 s.2.1 s.2.2 s1 hz kk1 kk2) hw6 ?_
      refine y_mask <| x_iload rfl <| y_if_lt (fun h7 => ?_) (fun h7 => ?_)
      · replace h := of_pos h h7
        refine jWP.intro (pr := pX11_list) (pc := 156) ?_
        exact tjX11_list_156_32 d n A L l1 l2 s.2.2 e5 h k1 k2
      · replace h := of_neg h h7
        refine jWP.intro (pr := pX11_list) (pc := 146) ?_
        refine y_mask <| x_iload rfl <| x_iload rfl <| y_cmp_lt (fun h8 => ?_) (fun h8 => ?_)
        · replace h := of_pos h h8
          refine jWP.intro (pr := pX11_list) (pc := 156) ?_
          exact tjX11_list_156_32 d n A L l1 l2 s.2.2 e5 h k1 k2
        · replace h := of_neg h h8
          refine jWP.intro (pr := pX11_list) (pc := 153) ?_
          refine y_mask <| y_mask <| y_goto ?_
          refine jWP.intro (pr := pX11_list) (pc := 163) ?_
          refine y_mask <| x_iinc rfl rfl <| y_mask <| y_goto ?_
          refine jWP.intro (pr := pX11_list) (pc := 32) ?_
          have hk := k1 _ (Option.some.inj h).symm
          exact hk
    · replace h := of_neg h h4
      refine jWP.intro (pr := pX11_list) (pc := 52) ?_
      refine y_mask <| y_mask <| y_goto ?_
      refine jWP.intro (pr := pX11_list) (pc := 163) ?_
      refine y_mask <| x_iinc rfl rfl <| y_mask <| y_goto ?_
      refine jWP.intro (pr := pX11_list) (pc := 32) ?_
      have hk := k1 _ (Option.some.inj h).symm
      exact hk
set_option maxRecDepth 20000 in
theorem tfX11_list (d n : Nat) (A : Nat → Nat → Int32) (L : Nat → Nat → Int64) (l1 : Int32) (l2 : Int32) {Q : Option Value → jM → Prop} {z : Int32} (h : fX11_list A l1 l2 = some z) (k3 : Q (some (.int z)) (Sh0 n, A, L)) : pX11_list (jEv jtab (d + 1), jWP (jEv jtab (d + 1)) Q ((Sh0 n).length, jsl (Sh0 n)) pX11_list, Q, ((Sh0 n).length, jsl (Sh0 n))) 0 [some (.ref 94), some (.int l1), some (.int l2), none, none, none, none, none, none] [] (Sh0 n, A, L) := by
  unfold fX11_list at h
  refine y_mask <| x_iload rfl <| x_push <| x_aload rfl <| x_getI (Nat.le_of_ble_eq_true rfl) rfl rfl <| y_invS3 (Nat.le_of_ble_eq_true rfl) <| jEv.exZ (q := 159) rfl (kX11_in _ _ _ _ _ _ _) <| fun hz1 => y_if_eq (fun h2 => ?_) (fun h2 => ?_)
  · replace h := of_pos h h2
    refine jWP.intro (pr := pX11_list) (pc := 21) ?_
    refine y_mpri (bs := []) (ls := []) ?_
    obtain rfl := Option.some.inj h
    exact k3
  · replace h := of_neg h h2
    refine jWP.intro (pr := pX11_list) (pc := 12) ?_
    refine y_mask <| x_iload rfl <| x_push <| x_push <| y_invS3 (Nat.le_of_ble_eq_true rfl) <| jEv.exZ (q := 159) rfl (kX11_in _ _ _ _ _ _ _) <| fun hz3 => y_if_ne (fun h4 => ?_) (fun h4 => ?_)
    · replace h := of_neg h h4
      refine jWP.intro (pr := pX11_list) (pc := 24) ?_
      refine y_mask <| x_push <| x_istore rfl <| x_push <| x_istore rfl <| x_push <| x_istore rfl <| y_mask <| y_goto ?_
      obtain ⟨e5, hw6, h⟩ := of_bind h
      refine jWP.intro (pr := pX11_list) (pc := 32) ?_
      refine jwh_use (G := (fun s0 => pX11_list (jEv jtab (d + 1), jWP (jEv jtab (d + 1)) Q ((Sh0 n).length, jsl (Sh0 n)) pX11_list, Q, ((Sh0 n).length, jsl (Sh0 n))) 32 [some (.ref 94), some (.int l1), some (.int l2), some (.int s0.1), some (.int s0.2.1), some (.int s0.2.2), none, none, none] [] (Sh0 n, A, L))) (Gx := (fun s0 => pX11_list (jEv jtab (d + 1), jWP (jEv jtab (d + 1)) Q ((Sh0 n).length, jsl (Sh0 n)) pX11_list, Q, ((Sh0 n).length, jsl (Sh0 n))) 169 [none, none, some (.int l2), some (.int s0.1), some (.int s0.2), none, none, none, none] [] (Sh0 n, A, L))) (fun s1 z1 hz kk1 kk2 => tcX11_list_32 d n A L l1 l2 s1 hz kk1 kk2) hw6 ?_
      refine y_mask <| x_iload rfl <| y_if_ne (fun h7 => ?_) (fun h7 => ?_)
      · replace h := of_neg h h7
        refine jWP.intro (pr := pX11_list) (pc := 177) ?_
        refine y_mask <| x_iload rfl <| y_mask <| y_goto ?_
        refine jWP.intro (pr := pX11_list) (pc := 179) ?_
        refine y_mri (bs := []) (ls := []) ?_
        obtain rfl := Option.some.inj h
        exact k3
      · replace h := of_pos h h7
        refine jWP.intro (pr := pX11_list) (pc := 173) ?_
        refine y_mask <| x_iload rfl <| y_mask <| y_goto ?_
        refine jWP.intro (pr := pX11_list) (pc := 179) ?_
        refine y_mri (bs := []) (ls := []) ?_
        obtain rfl := Option.some.inj h
        exact k3
    · replace h := of_pos h h4
      refine jWP.intro (pr := pX11_list) (pc := 21) ?_
      refine y_mpri (bs := []) (ls := []) ?_
      obtain rfl := Option.some.inj h
      exact k3
theorem kX11_list (d n : Nat) (A : Nat → Nat → Int32) (L : Nat → Nat → Int64) (l1 : Int32) (l2 : Int32) {z : Int32} (h : fX11_list A l1 l2 = some z) : jEv jtab (d + 2) 221 [.ref 94, .int l1, .int l2] (Sh0 n, A, L) 0 0 (fun r M2 => r = some (.int z) ∧ M2 = (Sh0 n, A, L)) :=
  jEv.mk (mt := mX11_list) rfl (Nat.le_of_ble_eq_true rfl) (jWP.intro (pr := pX11_list) (pc := 0) (tfX11_list d n A L l1 l2 h ⟨trivial, jCn.mk ⟨rfl, rfl⟩⟩))
set_option maxRecDepth 20000 in
theorem tfX11_isHeard (d n : Nat) (A : Nat → Nat → Int32) (L : Nat → Nat → Int64) (l0 : Int32) (l1 : Int32) {Q : Option Value → jM → Prop} {z : Int32} (h : fX11_isHeard l0 l1 = z) (k3 : (narrow .boolean (.int z) = .int z) → Q (some (.int z)) (Sh0 n, A, L)) : pX11_isHeard (jEv jtab (d + 1), jWP (jEv jtab (d + 1)) Q ((Sh0 n).length, jsl (Sh0 n)) pX11_isHeard, Q, ((Sh0 n).length, jsl (Sh0 n))) 0 [some (.int l0), some (.int l1)] [] (Sh0 n, A, L) := by
  unfold fX11_isHeard at h
  refine y_mask <| x_iload rfl <| x_push <| x_push <| y_invS3 (Nat.le_of_ble_eq_true rfl) <| jEv.exZ (q := 159) rfl (kX11_in _ _ _ _ _ _ _) <| fun hz1 => y_if_eq (fun h2 => ?_) (fun h2 => ?_)
  · replace h := of_pos h h2
    refine jWP.intro (pr := pX11_isHeard) (pc := 25) ?_
    refine y_mask <| x_push <| y_mask <| y_goto ?_
    refine jWP.intro (pr := pX11_isHeard) (pc := 26) ?_
    refine y_mri (bs := []) (ls := []) ?_
    subst h
    exact k3 (jnar_boolean (.inl rfl))
  · replace h := of_neg h h2
    refine jWP.intro (pr := pX11_isHeard) (pc := 11) ?_
    refine y_mask <| x_iload rfl <| x_push <| x_push <| y_invS3 (Nat.le_of_ble_eq_true rfl) <| jEv.exZ (q := 159) rfl (kX11_in _ _ _ _ _ _ _) <| fun hz3 => y_if_eq (fun h4 => ?_) (fun h4 => ?_)
    · replace h := of_pos h h4
      refine jWP.intro (pr := pX11_isHeard) (pc := 25) ?_
      refine y_mask <| x_push <| y_mask <| y_goto ?_
      refine jWP.intro (pr := pX11_isHeard) (pc := 26) ?_
      refine y_mri (bs := []) (ls := []) ?_
      subst h
      exact k3 (jnar_boolean (.inl rfl))
    · replace h := of_neg h h4
      refine jWP.intro (pr := pX11_isHeard) (pc := 21) ?_
      refine y_mask <| x_push <| y_mask <| y_goto ?_
      refine jWP.intro (pr := pX11_isHeard) (pc := 26) ?_
      refine y_mri (bs := []) (ls := []) ?_
      subst h
      exact k3 (jnar_boolean (.inr rfl))
theorem kX11_isHeard (d n : Nat) (A : Nat → Nat → Int32) (L : Nat → Nat → Int64) (l0 : Int32) (l1 : Int32) : jEv jtab (d + 2) 224 [.int l0, .int l1] (Sh0 n, A, L) 0 0 (fun r M2 => r = some (.int (fX11_isHeard l0 l1)) ∧ M2 = (Sh0 n, A, L)) :=
  jEv.mk (mt := mX11_isHeard) rfl (Nat.le_of_ble_eq_true rfl) (jWP.intro (pr := pX11_isHeard) (pc := 0) (tfX11_isHeard d n A L l0 l1 rfl (fun hz => ⟨hz, jCn.mk ⟨rfl, rfl⟩⟩)))
set_option maxRecDepth 20000 in
theorem tfX11_figure (d n : Nat) (A : Nat → Nat → Int32) (L : Nat → Nat → Int64) (l0 : Int32) (l1 : Int32) {Q : Option Value → jM → Prop} {z : Int32} (h : fX11_figure l0 l1 = z) (k3 : Q (some (.int z)) (Sh0 n, A, L)) : pX11_figure (jEv jtab (d + 0), jWP (jEv jtab (d + 0)) Q ((Sh0 n).length, jsl (Sh0 n)) pX11_figure, Q, ((Sh0 n).length, jsl (Sh0 n))) 0 [some (.int l0), some (.int l1)] [] (Sh0 n, A, L) := by
  unfold fX11_figure at h
  refine y_mask <| x_iload rfl <| y_if_ne (fun h1 => ?_) (fun h1 => ?_)
  · replace h := of_neg h h1
    refine jWP.intro (pr := pX11_figure) (pc := 12) ?_
    refine y_mask <| x_iload rfl <| x_push <| y_cmp_ne (fun h2 => ?_) (fun h2 => ?_)
    · replace h := of_neg h h2
      refine jWP.intro (pr := pX11_figure) (pc := 27) ?_
      refine y_mask <| x_iload rfl <| x_push <| y_cmp_ne (fun h3 => ?_) (fun h3 => ?_)
      · replace h := of_neg h h3
        refine jWP.intro (pr := pX11_figure) (pc := 42) ?_
        refine y_mask <| x_iload rfl <| x_push <| x_irem (by decide) <| y_mask <| y_goto ?_
        refine jWP.intro (pr := pX11_figure) (pc := 46) ?_
        refine y_mri (bs := []) (ls := []) ?_
        subst h
        exact k3
      · replace h := of_pos h h3
        refine jWP.intro (pr := pX11_figure) (pc := 32) ?_
        refine y_mask <| x_iload rfl <| x_push <| x_idiv (by decide) <| x_push <| x_irem (by decide) <| y_mask <| y_goto ?_
        refine jWP.intro (pr := pX11_figure) (pc := 46) ?_
        refine y_mri (bs := []) (ls := []) ?_
        subst h
        exact k3
    · replace h := of_pos h h2
      refine jWP.intro (pr := pX11_figure) (pc := 17) ?_
      refine y_mask <| x_iload rfl <| x_push <| x_idiv (by decide) <| x_push <| x_irem (by decide) <| y_mask <| y_goto ?_
      refine jWP.intro (pr := pX11_figure) (pc := 46) ?_
      refine y_mri (bs := []) (ls := []) ?_
      subst h
      exact k3
  · replace h := of_pos h h1
    refine jWP.intro (pr := pX11_figure) (pc := 4) ?_
    refine y_mask <| x_iload rfl <| x_push <| x_idiv (by decide) <| y_mask <| y_goto ?_
    refine jWP.intro (pr := pX11_figure) (pc := 46) ?_
    refine y_mri (bs := []) (ls := []) ?_
    subst h
    exact k3
theorem kX11_figure (d n : Nat) (A : Nat → Nat → Int32) (L : Nat → Nat → Int64) (l0 : Int32) (l1 : Int32) : jEv jtab (d + 1) 222 [.int l0, .int l1] (Sh0 n, A, L) 0 0 (fun r M2 => r = some (.int (fX11_figure l0 l1)) ∧ M2 = (Sh0 n, A, L)) :=
  jEv.mk (mt := mX11_figure) rfl (Nat.le_of_ble_eq_true rfl) (jWP.intro (pr := pX11_figure) (pc := 0) (tfX11_figure d n A L l0 l1 rfl ⟨trivial, jCn.mk ⟨rfl, rfl⟩⟩))
set_option maxRecDepth 20000 in
theorem tcX11_fitting_20 (d n : Nat) (A : Nat → Nat → Int32) (L : Nat → Nat → Int64) (l1 : Int32) (l2 : Int32) (l3 : Int32) (l4 : Int32) (s : (Int32 × Int32)) {Q : Option Value → jM → Prop} {z : ((Int32 × Int32) ⊕ Int32)} (h : cX11_fitting_20 A l1 l2 l3 l4 s = some z) (k1 : ∀ s0, z = .inl s0 → pX11_fitting (jEv jtab (d + 1), jWP (jEv jtab (d + 1)) Q ((Sh0 n).length, jsl (Sh0 n)) pX11_fitting, Q, ((Sh0 n).length, jsl (Sh0 n))) 20 [some (.ref 94), some (.int l1), some (.int l2), some (.int l3), some (.int l4), some (.int s0.1), some (.int s0.2)] [] (Sh0 n, A, L)) (k2 : ∀ s0, z = .inr s0 → pX11_fitting (jEv jtab (d + 1), jWP (jEv jtab (d + 1)) Q ((Sh0 n).length, jsl (Sh0 n)) pX11_fitting, Q, ((Sh0 n).length, jsl (Sh0 n))) 66 [some (.ref 94), some (.int l1), some (.int l2), some (.int l3), some (.int l4), some (.int s0), none] [] (Sh0 n, A, L)) : pX11_fitting (jEv jtab (d + 1), jWP (jEv jtab (d + 1)) Q ((Sh0 n).length, jsl (Sh0 n)) pX11_fitting, Q, ((Sh0 n).length, jsl (Sh0 n))) 20 [some (.ref 94), some (.int l1), some (.int l2), some (.int l3), some (.int l4), some (.int s.1), some (.int s.2)] [] (Sh0 n, A, L) := by
  unfold cX11_fitting_20 at h
  refine y_mask <| x_iload rfl <| x_push <| y_cmp_ge (fun h1 => ?_) (fun h1 => ?_)
  · replace h := of_pos h h1
    refine jWP.intro (pr := pX11_fitting) (pc := 66) ?_
    have hk := k2 _ (Option.some.inj h).symm
    exact hk
  · replace h := of_neg h h1
    refine jWP.intro (pr := pX11_fitting) (pc := 26) ?_
    refine y_mask <| x_iload rfl <| x_iload rfl <| x_ishr <| x_push <| x_iand <| x_push <| y_cmp_ne (fun h2 => ?_) (fun h2 => ?_)
    · replace h := of_neg h h2
      refine jWP.intro (pr := pX11_fitting) (pc := 60) ?_
      refine y_mask <| x_iinc rfl rfl <| y_mask <| y_goto ?_
      refine jWP.intro (pr := pX11_fitting) (pc := 20) ?_
      have hk := k1 _ (Option.some.inj h).symm
      exact hk
    · replace h := of_pos h h2
      refine jWP.intro (pr := pX11_fitting) (pc := 36) ?_
      obtain ⟨g3, h⟩ := of_guard h
      show bX11_fitting_36 _ _ _ _
      unfold bX11_fitting_36
      refine y_mask ?_
      refine x_aload rfl ?_
      refine x_getR (Nat.le_of_ble_eq_true rfl) rfl rfl ?_
      refine x_iload rfl ?_
      refine x_iald rfl g3 ?_
      refine x_iload rfl ?_
      refine y_invS2 (Nat.le_of_ble_eq_true rfl) ?_
      refine jEv.exI (kX11_figure _ _ _ _ _ _) ?_
      refine x_iload rfl ?_
      refine x_iload rfl ?_
      refine y_invS2 (Nat.le_of_ble_eq_true rfl) ?_
      refine jEv.exI (kX11_figure _ _ _ _ _ _) ?_
      refine y_cmp_eq (fun h4 => ?_) (fun h4 => ?_)
      · replace h := of_pos h h4
        refine jWP.intro (pr := pX11_fitting) (pc := 60) ?_
        refine y_mask <| x_iinc rfl rfl <| y_mask <| y_goto ?_
        refine jWP.intro (pr := pX11_fitting) (pc := 20) ?_
        have hk := k1 _ (Option.some.inj h).symm
        exact hk
      · replace h := of_neg h h4
        refine jWP.intro (pr := pX11_fitting) (pc := 57) ?_
        refine y_mask <| x_push <| x_istore rfl <| y_mask <| y_goto ?_
        refine jWP.intro (pr := pX11_fitting) (pc := 60) ?_
        refine y_mask <| x_iinc rfl rfl <| y_mask <| y_goto ?_
        refine jWP.intro (pr := pX11_fitting) (pc := 20) ?_
        have hk := k1 _ (Option.some.inj h).symm
        exact hk
set_option maxRecDepth 20000 in
theorem tcX11_fitting_5 (d n : Nat) (A : Nat → Nat → Int32) (L : Nat → Nat → Int64) (l1 : Int32) (l2 : Int32) (s : (Int32 × Int32)) {Q : Option Value → jM → Prop} {z : ((Int32 × Int32) ⊕ Int32)} (h : cX11_fitting_5 A l1 l2 s = some z) (k1 : ∀ s0, z = .inl s0 → pX11_fitting (jEv jtab (d + 1), jWP (jEv jtab (d + 1)) Q ((Sh0 n).length, jsl (Sh0 n)) pX11_fitting, Q, ((Sh0 n).length, jsl (Sh0 n))) 5 [some (.ref 94), some (.int l1), some (.int l2), some (.int s0.1), some (.int s0.2), none, none] [] (Sh0 n, A, L)) (k2 : ∀ s0, z = .inr s0 → pX11_fitting (jEv jtab (d + 1), jWP (jEv jtab (d + 1)) Q ((Sh0 n).length, jsl (Sh0 n)) pX11_fitting, Q, ((Sh0 n).length, jsl (Sh0 n))) 84 [none, none, none, some (.int s0), none, none, none] [] (Sh0 n, A, L)) : pX11_fitting (jEv jtab (d + 1), jWP (jEv jtab (d + 1)) Q ((Sh0 n).length, jsl (Sh0 n)) pX11_fitting, Q, ((Sh0 n).length, jsl (Sh0 n))) 5 [some (.ref 94), some (.int l1), some (.int l2), some (.int s.1), some (.int s.2), none, none] [] (Sh0 n, A, L) := by
  unfold cX11_fitting_5 at h
  refine y_mask <| x_iload rfl <| x_aload rfl <| x_getI (Nat.le_of_ble_eq_true rfl) rfl rfl <| y_cmp_ge (fun h1 => ?_) (fun h1 => ?_)
  · replace h := of_pos h h1
    refine jWP.intro (pr := pX11_fitting) (pc := 84) ?_
    have hk := k2 _ (Option.some.inj h).symm
    exact hk
  · replace h := of_neg h h1
    refine jWP.intro (pr := pX11_fitting) (pc := 14) ?_
    refine y_mask <| x_push <| x_istore rfl <| x_push <| x_istore rfl <| y_mask <| y_goto ?_
    obtain ⟨e2, hw3, h⟩ := of_bind h
    refine jWP.intro (pr := pX11_fitting) (pc := 20) ?_
    refine jwh_use (G := (fun s0 => pX11_fitting (jEv jtab (d + 1), jWP (jEv jtab (d + 1)) Q ((Sh0 n).length, jsl (Sh0 n)) pX11_fitting, Q, ((Sh0 n).length, jsl (Sh0 n))) 20 [some (.ref 94), some (.int l1), some (.int l2), some (.int s.1), some (.int s.2), some (.int s0.1), some (.int s0.2)] [] (Sh0 n, A, L))) (Gx := (fun s0 => pX11_fitting (jEv jtab (d + 1), jWP (jEv jtab (d + 1)) Q ((Sh0 n).length, jsl (Sh0 n)) pX11_fitting, Q, ((Sh0 n).length, jsl (Sh0 n))) 66 [some (.ref 94), some (.int l1), some (.int l2), some (.int s.1), some (.int s.2), some (.int s0), none] [] (Sh0 n, A, L))) (fun s1 z1 hz kk1 kk2 => tcX11_fitting_20 d n A L l1 l2 s.1 s.2 s1 hz kk1 kk2) hw3 ?_
    refine y_mask <| x_iload rfl <| y_if_eq (fun h4 => ?_) (fun h4 => ?_)
    · replace h := of_pos h h4
      refine jWP.intro (pr := pX11_fitting) (pc := 78) ?_
      refine y_mask <| x_iinc rfl rfl <| y_mask <| y_goto ?_
      refine jWP.intro (pr := pX11_fitting) (pc := 5) ?_
      have hk := k1 _ (Option.some.inj h).symm
      exact hk
    · replace h := of_neg h h4
      refine jWP.intro (pr := pX11_fitting) (pc := 71) ?_
      refine y_mask <| x_iload rfl <| x_push <| x_iload rfl <| x_ishl <| x_ior <| x_istore rfl <| y_mask <| y_goto ?_
      refine jWP.intro (pr := pX11_fitting) (pc := 78) ?_
      refine y_mask <| x_iinc rfl rfl <| y_mask <| y_goto ?_
      refine jWP.intro (pr := pX11_fitting) (pc := 5) ?_
      have hk := k1 _ (Option.some.inj h).symm
      exact hk
set_option maxRecDepth 20000 in
theorem tfX11_fitting (d n : Nat) (A : Nat → Nat → Int32) (L : Nat → Nat → Int64) (l1 : Int32) (l2 : Int32) {Q : Option Value → jM → Prop} {z : Int32} (h : fX11_fitting A l1 l2 = some z) (k3 : Q (some (.int z)) (Sh0 n, A, L)) : pX11_fitting (jEv jtab (d + 1), jWP (jEv jtab (d + 1)) Q ((Sh0 n).length, jsl (Sh0 n)) pX11_fitting, Q, ((Sh0 n).length, jsl (Sh0 n))) 0 [some (.ref 94), some (.int l1), some (.int l2), none, none, none, none] [] (Sh0 n, A, L) := by
  unfold fX11_fitting at h
  refine y_mask <| x_push <| x_istore rfl <| x_push <| x_istore rfl <| y_mask <| y_goto ?_
  obtain ⟨e1, hw2, h⟩ := of_bind h
  refine jWP.intro (pr := pX11_fitting) (pc := 5) ?_
  refine jwh_use (G := (fun s0 => pX11_fitting (jEv jtab (d + 1), jWP (jEv jtab (d + 1)) Q ((Sh0 n).length, jsl (Sh0 n)) pX11_fitting, Q, ((Sh0 n).length, jsl (Sh0 n))) 5 [some (.ref 94), some (.int l1), some (.int l2), some (.int s0.1), some (.int s0.2), none, none] [] (Sh0 n, A, L))) (Gx := (fun s0 => pX11_fitting (jEv jtab (d + 1), jWP (jEv jtab (d + 1)) Q ((Sh0 n).length, jsl (Sh0 n)) pX11_fitting, Q, ((Sh0 n).length, jsl (Sh0 n))) 84 [none, none, none, some (.int s0), none, none, none] [] (Sh0 n, A, L))) (fun s1 z1 hz kk1 kk2 => tcX11_fitting_5 d n A L l1 l2 s1 hz kk1 kk2) hw2 ?_
  refine y_mask <| x_iload rfl <| y_ireturn (ls := [none, none, none, some (.int e1), none, none, none]) ?_
  obtain rfl := Option.some.inj h
  exact k3
theorem kX11_fitting (d n : Nat) (A : Nat → Nat → Int32) (L : Nat → Nat → Int64) (l1 : Int32) (l2 : Int32) {z : Int32} (h : fX11_fitting A l1 l2 = some z) : jEv jtab (d + 2) 223 [.ref 94, .int l1, .int l2] (Sh0 n, A, L) 0 0 (fun r M2 => r = some (.int z) ∧ M2 = (Sh0 n, A, L)) :=
  jEv.mk (mt := mX11_fitting) rfl (Nat.le_of_ble_eq_true rfl) (jWP.intro (pr := pX11_fitting) (pc := 0) (tfX11_fitting d n A L l1 l2 h ⟨trivial, jCn.mk ⟨rfl, rfl⟩⟩))
set_option maxRecDepth 20000 in
theorem tfX11_bits (d n : Nat) (A : Nat → Nat → Int32) (L : Nat → Nat → Int64) (l1 : Int32) (l2 : Int32) {Q : Option Value → jM → Prop} {z : Int32} (h : fX11_bits A l1 l2 = some z) (k3 : Q (some (.int z)) (Sh0 n, A, L)) : pX11_bits (jEv jtab (d + 2), jWP (jEv jtab (d + 2)) Q ((Sh0 n).length, jsl (Sh0 n)) pX11_bits, Q, ((Sh0 n).length, jsl (Sh0 n))) 0 [some (.ref 94), some (.int l1), some (.int l2)] [] (Sh0 n, A, L) := by
  unfold fX11_bits at h
  refine y_mask <| x_iload rfl <| x_iload rfl <| y_invS2 (Nat.le_of_ble_eq_true rfl) <| jEv.exZ (q := 224) rfl (kX11_isHeard _ _ _ _ _ _) <| fun hz1 => y_if_eq (fun h2 => ?_) (fun h2 => ?_)
  · replace h := of_pos h h2
    refine jWP.intro (pr := pX11_bits) (pc := 17) ?_
    refine y_mask <| x_push <| y_mask <| y_goto ?_
    refine jWP.intro (pr := pX11_bits) (pc := 19) ?_
    refine y_mri (bs := []) (ls := []) ?_
    obtain rfl := Option.some.inj h
    exact k3
  · replace h := of_neg h h2
    refine jWP.intro (pr := pX11_bits) (pc := 8) ?_
    obtain ⟨r3, hc4, h⟩ := of_bind h
    refine y_mask <| x_aload rfl <| x_iload rfl <| x_iload rfl <| y_invV2 (Nat.le_of_ble_eq_true rfl) rfl (Nat.le_of_ble_eq_true rfl) <| jEv.exI (kX11_fitting _ _ _ _ _ _ hc4) <| y_mask <| y_goto ?_
    refine jWP.intro (pr := pX11_bits) (pc := 19) ?_
    refine y_mri (bs := []) (ls := []) ?_
    obtain rfl := Option.some.inj h
    exact k3
theorem kX11_bits (d n : Nat) (A : Nat → Nat → Int32) (L : Nat → Nat → Int64) (l1 : Int32) (l2 : Int32) {z : Int32} (h : fX11_bits A l1 l2 = some z) : jEv jtab (d + 3) 225 [.ref 94, .int l1, .int l2] (Sh0 n, A, L) 0 0 (fun r M2 => r = some (.int z) ∧ M2 = (Sh0 n, A, L)) :=
  jEv.mk (mt := mX11_bits) rfl (Nat.le_of_ble_eq_true rfl) (jWP.intro (pr := pX11_bits) (pc := 0) (tfX11_bits d n A L l1 l2 h ⟨trivial, jCn.mk ⟨rfl, rfl⟩⟩))
set_option maxRecDepth 20000 in
theorem tjX11_ask_118_75 (d n : Nat) (A : Nat → Nat → Int32) (L : Nat → Nat → Int64) (l2 : Int32) (l3 : Int32) (l4 : Int32) (l5 : Int32) (l6 : Int32) (l7 : Int32) (l8 : Int32) (l9 : Int32) (l11 : Int32) (s0 : Int32) {Q : Option Value → jM → Prop} {z : ((Int32 × Int32) ⊕ Int32)} (h : jX11_ask_118_75 A l2 l3 l4 l5 l6 l7 l8 l9 l11 s0 = some z) (k1 : ∀ s0, z = .inl s0 → pX11_ask (jEv jtab (d + 2), jWP (jEv jtab (d + 2)) Q ((Sh0 n).length, jsl (Sh0 n)) pX11_ask, Q, ((Sh0 n).length, jsl (Sh0 n))) 75 [some (.ref 94), none, some (.int l2), some (.int l3), some (.int l4), some (.int l5), some (.int l6), some (.int l7), some (.int l8), some (.int l9), some (.int s0.1), some (.int s0.2)] [] (Sh0 n, A, L)) (k2 : ∀ s0, z = .inr s0 → pX11_ask (jEv jtab (d + 2), jWP (jEv jtab (d + 2)) Q ((Sh0 n).length, jsl (Sh0 n)) pX11_ask, Q, ((Sh0 n).length, jsl (Sh0 n))) 128 [some (.ref 94), none, some (.int l2), some (.int l3), some (.int l4), some (.int l5), some (.int l6), some (.int l7), some (.int l8), some (.int l9), some (.int s0), none] [] (Sh0 n, A, L)) : pX11_ask (jEv jtab (d + 2), jWP (jEv jtab (d + 2)) Q ((Sh0 n).length, jsl (Sh0 n)) pX11_ask, Q, ((Sh0 n).length, jsl (Sh0 n))) 118 [some (.ref 94), none, some (.int l2), some (.int l3), some (.int l4), some (.int l5), some (.int l6), some (.int l7), some (.int l8), some (.int l9), none, some (.int l11)] [.int s0] (Sh0 n, A, L) := by
  unfold jX11_ask_118_75 at h
  refine y_mask <| x_push <| y_mask <| y_goto ?_
  refine jWP.intro (pr := pX11_ask) (pc := 119) ?_
  refine y_mask <| x_iadd <| x_istore rfl <| x_iinc rfl rfl <| y_mask <| y_goto ?_
  refine jWP.intro (pr := pX11_ask) (pc := 75) ?_
  have hk := k1 _ (Option.some.inj h).symm
  exact hk
set_option maxRecDepth 20000 in
theorem tcX11_ask_75 (d n : Nat) (A : Nat → Nat → Int32) (L : Nat → Nat → Int64) (l2 : Int32) (l3 : Int32) (l4 : Int32) (l5 : Int32) (l6 : Int32) (l7 : Int32) (l8 : Int32) (l9 : Int32) (s : (Int32 × Int32)) {Q : Option Value → jM → Prop} {z : ((Int32 × Int32) ⊕ Int32)} (h : cX11_ask_75 A l2 l3 l4 l5 l6 l7 l8 l9 s = some z) (k1 : ∀ s0, z = .inl s0 → pX11_ask (jEv jtab (d + 2), jWP (jEv jtab (d + 2)) Q ((Sh0 n).length, jsl (Sh0 n)) pX11_ask, Q, ((Sh0 n).length, jsl (Sh0 n))) 75 [some (.ref 94), none, some (.int l2), some (.int l3), some (.int l4), some (.int l5), some (.int l6), some (.int l7), some (.int l8), some (.int l9), some (.int s0.1), some (.int s0.2)] [] (Sh0 n, A, L)) (k2 : ∀ s0, z = .inr s0 → pX11_ask (jEv jtab (d + 2), jWP (jEv jtab (d + 2)) Q ((Sh0 n).length, jsl (Sh0 n)) pX11_ask, Q, ((Sh0 n).length, jsl (Sh0 n))) 128 [some (.ref 94), none, some (.int l2), some (.int l3), some (.int l4), some (.int l5), some (.int l6), some (.int l7), some (.int l8), some (.int l9), some (.int s0), none] [] (Sh0 n, A, L)) : pX11_ask (jEv jtab (d + 2), jWP (jEv jtab (d + 2)) Q ((Sh0 n).length, jsl (Sh0 n)) pX11_ask, Q, ((Sh0 n).length, jsl (Sh0 n))) 75 [some (.ref 94), none, some (.int l2), some (.int l3), some (.int l4), some (.int l5), some (.int l6), some (.int l7), some (.int l8), some (.int l9), some (.int s.1), some (.int s.2)] [] (Sh0 n, A, L) := by
  unfold cX11_ask_75 at h
  refine y_mask <| x_iload rfl <| x_aload rfl <| x_getI (Nat.le_of_ble_eq_true rfl) rfl rfl <| y_cmp_ge (fun h1 => ?_) (fun h1 => ?_)
  · replace h := of_pos h h1
    refine jWP.intro (pr := pX11_ask) (pc := 128) ?_
    have hk := k2 _ (Option.some.inj h).symm
    exact hk
  · replace h := of_neg h h1
    refine jWP.intro (pr := pX11_ask) (pc := 84) ?_
    refine y_mask <| x_iload rfl <| x_iload rfl <| x_iload rfl <| x_ishr <| x_push <| x_iand <| x_push <| y_cmp_ne (fun h2 => ?_) (fun h2 => ?_)
    · replace h := of_neg h h2
      refine jWP.intro (pr := pX11_ask) (pc := 118) ?_
      exact tjX11_ask_118_75 d n A L l2 l3 l4 l5 l6 l7 l8 l9 s.2 s.1 h k1 k2
    · replace h := of_pos h h2
      refine jWP.intro (pr := pX11_ask) (pc := 97) ?_
      obtain ⟨g3, h⟩ := of_guard h
      show bX11_ask_97 _ _ _ _
      unfold bX11_ask_97
      refine y_mask ?_
      refine x_aload rfl ?_
      refine x_getR (Nat.le_of_ble_eq_true rfl) rfl rfl ?_
      refine x_iload rfl ?_
      refine x_iald rfl g3 ?_
      refine x_iload rfl ?_
      refine y_invS2 (Nat.le_of_ble_eq_true rfl) ?_
      refine jEv.exI (kX11_figure _ _ _ _ _ _) ?_
      refine x_iload rfl ?_
      refine y_cmp_ne (fun h4 => ?_) (fun h4 => ?_)
      · replace h := of_neg h h4
        refine jWP.intro (pr := pX11_ask) (pc := 118) ?_
        exact tjX11_ask_118_75 d n A L l2 l3 l4 l5 l6 l7 l8 l9 s.2 s.1 h k1 k2
      · replace h := of_pos h h4
        refine jWP.intro (pr := pX11_ask) (pc := 114) ?_
        refine y_mask <| x_push <| y_mask <| y_goto ?_
        refine jWP.intro (pr := pX11_ask) (pc := 119) ?_
        refine y_mask <| x_iadd <| x_istore rfl <| x_iinc rfl rfl <| y_mask <| y_goto ?_
        refine jWP.intro (pr := pX11_ask) (pc := 75) ?_
        have hk := k1 _ (Option.some.inj h).symm
        exact hk
set_option maxRecDepth 20000 in
theorem tcX11_ask_62 (d n : Nat) (A : Nat → Nat → Int32) (L : Nat → Nat → Int64) (l2 : Int32) (l3 : Int32) (l4 : Int32) (l5 : Int32) (l6 : Int32) (l7 : Int32) (s : (Int32 × Int32)) {Q : Option Value → jM → Prop} {z : ((Int32 × Int32) ⊕ Int32)} (h : cX11_ask_62 A l2 l3 l4 l5 l6 l7 s = some z) (k1 : ∀ s0, z = .inl s0 → pX11_ask (jEv jtab (d + 2), jWP (jEv jtab (d + 2)) Q ((Sh0 n).length, jsl (Sh0 n)) pX11_ask, Q, ((Sh0 n).length, jsl (Sh0 n))) 62 [some (.ref 94), none, some (.int l2), some (.int l3), some (.int l4), some (.int l5), some (.int l6), some (.int l7), some (.int s0.1), some (.int s0.2), none, none] [] (Sh0 n, A, L)) (k2 : ∀ s0, z = .inr s0 → pX11_ask (jEv jtab (d + 2), jWP (jEv jtab (d + 2)) Q ((Sh0 n).length, jsl (Sh0 n)) pX11_ask, Q, ((Sh0 n).length, jsl (Sh0 n))) 145 [some (.ref 94), none, some (.int l2), some (.int l3), some (.int l4), some (.int l5), some (.int l6), some (.int l7), some (.int s0), none, none, none] [] (Sh0 n, A, L)) : pX11_ask (jEv jtab (d + 2), jWP (jEv jtab (d + 2)) Q ((Sh0 n).length, jsl (Sh0 n)) pX11_ask, Q, ((Sh0 n).length, jsl (Sh0 n))) 62 [some (.ref 94), none, some (.int l2), some (.int l3), some (.int l4), some (.int l5), some (.int l6), some (.int l7), some (.int s.1), some (.int s.2), none, none] [] (Sh0 n, A, L) := by
  unfold cX11_ask_62 at h
  refine y_mask <| x_iload rfl <| x_push <| y_cmp_ge (fun h1 => ?_) (fun h1 => ?_)
  · replace h := of_pos h h1
    refine jWP.intro (pr := pX11_ask) (pc := 145) ?_
    have hk := k2 _ (Option.some.inj h).symm
    exact hk
  · replace h := of_neg h h1
    refine jWP.intro (pr := pX11_ask) (pc := 69) ?_
    refine y_mask <| x_push <| x_istore rfl <| x_push <| x_istore rfl <| y_mask <| y_goto ?_
    obtain ⟨e2, hw3, h⟩ := of_bind h
    refine jWP.intro (pr := pX11_ask) (pc := 75) ?_
    refine jwh_use (G := (fun s0 => pX11_ask (jEv jtab (d + 2), jWP (jEv jtab (d + 2)) Q ((Sh0 n).length, jsl (Sh0 n)) pX11_ask, Q, ((Sh0 n).length, jsl (Sh0 n))) 75 [some (.ref 94), none, some (.int l2), some (.int l3), some (.int l4), some (.int l5), some (.int l6), some (.int l7), some (.int s.1), some (.int s.2), some (.int s0.1), some (.int s0.2)] [] (Sh0 n, A, L))) (Gx := (fun s0 => pX11_ask (jEv jtab (d + 2), jWP (jEv jtab (d + 2)) Q ((Sh0 n).length, jsl (Sh0 n)) pX11_ask, Q, ((Sh0 n).length, jsl (Sh0 n))) 128 [some (.ref 94), none, some (.int l2), some (.int l3), some (.int l4), some (.int l5), some (.int l6), some (.int l7), some (.int s.1), some (.int s.2), some (.int s0), none] [] (Sh0 n, A, L))) (fun s1 z1 hz kk1 kk2 => tcX11_ask_75 d n A L l2 l3 l4 l5 l6 l7 s.1 s.2 s1 hz kk1 kk2) hw3 ?_
    refine y_mask <| x_iload rfl <| x_iload rfl <| y_cmp_le (fun h4 => ?_) (fun h4 => ?_)
    · replace h := of_pos h h4
      refine jWP.intro (pr := pX11_ask) (pc := 139) ?_
      refine y_mask <| x_iinc rfl rfl <| y_mask <| y_goto ?_
      refine jWP.intro (pr := pX11_ask) (pc := 62) ?_
      have hk := k1 _ (Option.some.inj h).symm
      exact hk
    · replace h := of_neg h h4
      refine jWP.intro (pr := pX11_ask) (pc := 135) ?_
      refine y_mask <| x_iload rfl <| x_istore rfl <| y_mask <| y_goto ?_
      refine jWP.intro (pr := pX11_ask) (pc := 139) ?_
      refine y_mask <| x_iinc rfl rfl <| y_mask <| y_goto ?_
      refine jWP.intro (pr := pX11_ask) (pc := 62) ?_
      have hk := k1 _ (Option.some.inj h).symm
      exact hk
set_option maxRecDepth 20000 in
theorem tjX11_ask_160_37 (d n : Nat) (A : Nat → Nat → Int32) (L : Nat → Nat → Int64) (l2 : Int32) (l3 : Int32) (l4 : Int32) (l7 : Int32) (l8 : Int32) {Q : Option Value → jM → Prop} {z : ((Int32 × Int32 × Int32) ⊕ (Int32 × Int32))} (h : jX11_ask_160_37 A l2 l3 l4 l7 l8 = some z) (k1 : ∀ s0, z = .inl s0 → pX11_ask (jEv jtab (d + 2), jWP (jEv jtab (d + 2)) Q ((Sh0 n).length, jsl (Sh0 n)) pX11_ask, Q, ((Sh0 n).length, jsl (Sh0 n))) 37 [some (.ref 94), none, some (.int l2), some (.int l3), some (.int l4), some (.int s0.1), some (.int s0.2.1), some (.int s0.2.2), none, none, none, none] [] (Sh0 n, A, L)) (k2 : ∀ s0, z = .inr s0 → pX11_ask (jEv jtab (d + 2), jWP (jEv jtab (d + 2)) Q ((Sh0 n).length, jsl (Sh0 n)) pX11_ask, Q, ((Sh0 n).length, jsl (Sh0 n))) 174 [none, none, none, some (.int l3), none, some (.int s0.1), some (.int s0.2), none, none, none, none, none] [] (Sh0 n, A, L)) : pX11_ask (jEv jtab (d + 2), jWP (jEv jtab (d + 2)) Q ((Sh0 n).length, jsl (Sh0 n)) pX11_ask, Q, ((Sh0 n).length, jsl (Sh0 n))) 160 [some (.ref 94), none, some (.int l2), some (.int l3), some (.int l4), none, none, some (.int l7), some (.int l8), none, none, none] [] (Sh0 n, A, L) := by
  unfold jX11_ask_160_37 at h
  refine y_mask <| x_iload rfl <| x_istore rfl <| x_iload rfl <| x_istore rfl <| y_mask <| y_goto ?_
  refine jWP.intro (pr := pX11_ask) (pc := 168) ?_
  refine y_mask <| x_iinc rfl rfl <| y_mask <| y_goto ?_
  refine jWP.intro (pr := pX11_ask) (pc := 37) ?_
  have hk := k1 _ (Option.some.inj h).symm
  exact hk
set_option maxRecDepth 20000 in
theorem tcX11_ask_37 (d n : Nat) (A : Nat → Nat → Int32) (L : Nat → Nat → Int64) (l2 : Int32) (l3 : Int32) (l4 : Int32) (s : (Int32 × Int32 × Int32)) {Q : Option Value → jM → Prop} {z : ((Int32 × Int32 × Int32) ⊕ (Int32 × Int32))} (h : cX11_ask_37 A l2 l3 l4 s = some z) (k1 : ∀ s0, z = .inl s0 → pX11_ask (jEv jtab (d + 2), jWP (jEv jtab (d + 2)) Q ((Sh0 n).length, jsl (Sh0 n)) pX11_ask, Q, ((Sh0 n).length, jsl (Sh0 n))) 37 [some (.ref 94), none, some (.int l2), some (.int l3), some (.int l4), some (.int s0.1), some (.int s0.2.1), some (.int s0.2.2), none, none, none, none] [] (Sh0 n, A, L)) (k2 : ∀ s0, z = .inr s0 → pX11_ask (jEv jtab (d + 2), jWP (jEv jtab (d + 2)) Q ((Sh0 n).length, jsl (Sh0 n)) pX11_ask, Q, ((Sh0 n).length, jsl (Sh0 n))) 174 [none, none, none, some (.int l3), none, some (.int s0.1), some (.int s0.2), none, none, none, none, none] [] (Sh0 n, A, L)) : pX11_ask (jEv jtab (d + 2), jWP (jEv jtab (d + 2)) Q ((Sh0 n).length, jsl (Sh0 n)) pX11_ask, Q, ((Sh0 n).length, jsl (Sh0 n))) 37 [some (.ref 94), none, some (.int l2), some (.int l3), some (.int l4), some (.int s.1), some (.int s.2.1), some (.int s.2.2), none, none, none, none] [] (Sh0 n, A, L) := by
  unfold cX11_ask_37 at h
  refine y_mask <| x_iload rfl <| x_push <| y_cmp_ge (fun h1 => ?_) (fun h1 => ?_)
  · replace h := of_pos h h1
    refine jWP.intro (pr := pX11_ask) (pc := 174) ?_
    have hk := k2 _ (Option.some.inj h).symm
    exact hk
  · replace h := of_neg h h1
    refine jWP.intro (pr := pX11_ask) (pc := 43) ?_
    refine y_mask <| x_iload rfl <| x_iload rfl <| x_ishr <| x_push <| x_iand <| x_push <| y_cmp_ne (fun h2 => ?_) (fun h2 => ?_)
    · replace h := of_neg h h2
      refine jWP.intro (pr := pX11_ask) (pc := 56) ?_
      refine y_mask <| x_push <| x_istore rfl <| x_push <| x_istore rfl <| y_mask <| y_goto ?_
      obtain ⟨e3, hw4, h⟩ := of_bind h
      refine jWP.intro (pr := pX11_ask) (pc := 62) ?_
      refine jwh_use (G := (fun s0 => pX11_ask (jEv jtab (d + 2), jWP (jEv jtab (d + 2)) Q ((Sh0 n).length, jsl (Sh0 n)) pX11_ask, Q, ((Sh0 n).length, jsl (Sh0 n))) 62 [some (.ref 94), none, some (.int l2), some (.int l3), some (.int l4), some (.int s.1), some (.int s.2.1), some (.int s.2.2), some (.int s0.1), some (.int s0.2), none, none] [] (Sh0 n, A, L))) (Gx := (fun s0 => pX11_ask (jEv jtab (d + 2), jWP (jEv jtab (d + 2)) Q ((Sh0 n).length, jsl (Sh0 n)) pX11_ask, Q, ((Sh0 n).length, jsl (Sh0 n))) 145 [some (.ref 94), none, some (.int l2), some (.int l3), some (.int l4), some (.int s.1), some (.int s.2.1), some (.int s.2.2), some (.int s0), none, none, none] [] (Sh0 n, A, L))) (fun s1 z1 hz kk1 kk2 => tcX11_ask_62 d n A L l2 l3 l4 s.1 s.2.1 s.2.2 s1 hz kk1 kk2) hw4 ?_
      refine y_mask <| x_iload rfl <| y_if_lt (fun h5 => ?_) (fun h5 => ?_)
      · replace h := of_pos h h5
        refine jWP.intro (pr := pX11_ask) (pc := 160) ?_
        exact tjX11_ask_160_37 d n A L l2 l3 l4 s.2.2 e3 h k1 k2
      · replace h := of_neg h h5
        refine jWP.intro (pr := pX11_ask) (pc := 150) ?_
        refine y_mask <| x_iload rfl <| x_iload rfl <| y_cmp_lt (fun h6 => ?_) (fun h6 => ?_)
        · replace h := of_pos h h6
          refine jWP.intro (pr := pX11_ask) (pc := 160) ?_
          exact tjX11_ask_160_37 d n A L l2 l3 l4 s.2.2 e3 h k1 k2
        · replace h := of_neg h h6
          refine jWP.intro (pr := pX11_ask) (pc := 157) ?_
          refine y_mask <| y_mask <| y_goto ?_
          refine jWP.intro (pr := pX11_ask) (pc := 168) ?_
          refine y_mask <| x_iinc rfl rfl <| y_mask <| y_goto ?_
          refine jWP.intro (pr := pX11_ask) (pc := 37) ?_
          have hk := k1 _ (Option.some.inj h).symm
          exact hk
    · replace h := of_pos h h2
      refine jWP.intro (pr := pX11_ask) (pc := 53) ?_
      refine y_mask <| y_mask <| y_goto ?_
      refine jWP.intro (pr := pX11_ask) (pc := 168) ?_
      refine y_mask <| x_iinc rfl rfl <| y_mask <| y_goto ?_
      refine jWP.intro (pr := pX11_ask) (pc := 37) ?_
      have hk := k1 _ (Option.some.inj h).symm
      exact hk
set_option maxRecDepth 20000 in
theorem tfX11_ask (d n : Nat) (A : Nat → Nat → Int32) (L : Nat → Nat → Int64) (l1 : Int32) (l2 : Int32) (l3 : Int32) {Q : Option Value → jM → Prop} {z : Int32} (h : fX11_ask A l1 l2 l3 = some z) (k3 : Q (some (.int z)) (Sh0 n, A, L)) : pX11_ask (jEv jtab (d + 2), jWP (jEv jtab (d + 2)) Q ((Sh0 n).length, jsl (Sh0 n)) pX11_ask, Q, ((Sh0 n).length, jsl (Sh0 n))) 0 [some (.ref 94), some (.int l1), some (.int l2), some (.int l3), none, none, none, none, none, none, none, none] [] (Sh0 n, A, L) := by
  unfold fX11_ask at h
  refine y_mask <| x_iload rfl <| x_iload rfl <| y_invS2 (Nat.le_of_ble_eq_true rfl) <| jEv.exZ (q := 224) rfl (kX11_isHeard _ _ _ _ _ _) <| fun hz1 => y_if_eq (fun h2 => ?_) (fun h2 => ?_)
  · replace h := of_pos h h2
    refine jWP.intro (pr := pX11_ask) (pc := 17) ?_
    refine y_mpri (bs := []) (ls := []) ?_
    obtain rfl := Option.some.inj h
    exact k3
  · replace h := of_neg h h2
    refine jWP.intro (pr := pX11_ask) (pc := 8) ?_
    refine y_mask <| x_iload rfl <| x_push <| x_push <| y_invS3 (Nat.le_of_ble_eq_true rfl) <| jEv.exZ (q := 159) rfl (kX11_in _ _ _ _ _ _ _) <| fun hz3 => y_if_ne (fun h4 => ?_) (fun h4 => ?_)
    · replace h := of_neg h h4
      refine jWP.intro (pr := pX11_ask) (pc := 20) ?_
      obtain ⟨r5, hc6, h⟩ := of_bind h
      show bX11_ask_20 _ _ _ _
      unfold bX11_ask_20
      refine y_mask ?_
      refine x_aload rfl ?_
      refine x_iload rfl ?_
      refine x_iload rfl ?_
      refine y_invV2 (Nat.le_of_ble_eq_true rfl) rfl (Nat.le_of_ble_eq_true rfl) ?_
      refine jEv.exI (kX11_fitting _ _ _ _ _ _ hc6) ?_
      refine x_istore rfl ?_
      refine x_push ?_
      refine x_istore rfl ?_
      refine x_push ?_
      refine x_istore rfl ?_
      refine x_push ?_
      refine x_istore rfl ?_
      refine y_mask ?_
      refine y_goto ?_
      obtain ⟨e7, hw8, h⟩ := of_bind h
      refine jWP.intro (pr := pX11_ask) (pc := 37) ?_
      refine jwh_use (G := (fun s0 => pX11_ask (jEv jtab (d + 2), jWP (jEv jtab (d + 2)) Q ((Sh0 n).length, jsl (Sh0 n)) pX11_ask, Q, ((Sh0 n).length, jsl (Sh0 n))) 37 [some (.ref 94), none, some (.int l2), some (.int l3), some (.int r5), some (.int s0.1), some (.int s0.2.1), some (.int s0.2.2), none, none, none, none] [] (Sh0 n, A, L))) (Gx := (fun s0 => pX11_ask (jEv jtab (d + 2), jWP (jEv jtab (d + 2)) Q ((Sh0 n).length, jsl (Sh0 n)) pX11_ask, Q, ((Sh0 n).length, jsl (Sh0 n))) 174 [none, none, none, some (.int l3), none, some (.int s0.1), some (.int s0.2), none, none, none, none, none] [] (Sh0 n, A, L))) (fun s1 z1 hz kk1 kk2 => tcX11_ask_37 d n A L l2 l3 r5 s1 hz kk1 kk2) hw8 ?_
      refine y_mask <| x_iload rfl <| y_if_lt (fun h9 => ?_) (fun h9 => ?_)
      · replace h := of_pos h h9
        refine jWP.intro (pr := pX11_ask) (pc := 183) ?_
        refine y_mask <| x_iload rfl <| y_mask <| y_goto ?_
        refine jWP.intro (pr := pX11_ask) (pc := 190) ?_
        refine y_mri (bs := []) (ls := []) ?_
        obtain rfl := Option.some.inj h
        exact k3
      · replace h := of_neg h h9
        refine jWP.intro (pr := pX11_ask) (pc := 179) ?_
        refine y_mask <| x_iload rfl <| y_if_ne (fun h10 => ?_) (fun h10 => ?_)
        · replace h := of_neg h h10
          refine jWP.intro (pr := pX11_ask) (pc := 188) ?_
          refine y_mask <| x_iload rfl <| y_mask <| y_goto ?_
          refine jWP.intro (pr := pX11_ask) (pc := 190) ?_
          refine y_mri (bs := []) (ls := []) ?_
          obtain rfl := Option.some.inj h
          exact k3
        · replace h := of_pos h h10
          refine jWP.intro (pr := pX11_ask) (pc := 183) ?_
          refine y_mask <| x_iload rfl <| y_mask <| y_goto ?_
          refine jWP.intro (pr := pX11_ask) (pc := 190) ?_
          refine y_mri (bs := []) (ls := []) ?_
          obtain rfl := Option.some.inj h
          exact k3
    · replace h := of_pos h h4
      refine jWP.intro (pr := pX11_ask) (pc := 17) ?_
      refine y_mpri (bs := []) (ls := []) ?_
      obtain rfl := Option.some.inj h
      exact k3
theorem kX11_ask (d n : Nat) (A : Nat → Nat → Int32) (L : Nat → Nat → Int64) (l1 : Int32) (l2 : Int32) (l3 : Int32) {z : Int32} (h : fX11_ask A l1 l2 l3 = some z) : jEv jtab (d + 3) 226 [.ref 94, .int l1, .int l2, .int l3] (Sh0 n, A, L) 0 0 (fun r M2 => r = some (.int z) ∧ M2 = (Sh0 n, A, L)) :=
  jEv.mk (mt := mX11_ask) rfl (Nat.le_of_ble_eq_true rfl) (jWP.intro (pr := pX11_ask) (pc := 0) (tfX11_ask d n A L l1 l2 l3 h ⟨trivial, jCn.mk ⟨rfl, rfl⟩⟩))
set_option maxRecDepth 20000 in
theorem tfX11_clocks (d n : Nat) (A : Nat → Nat → Int32) (L : Nat → Nat → Int64) (l1 : Int32) (l2 : Int32) (l3 : Int32) (l4 : Int32) {Q : Option Value → jM → Prop} {z : Int64} (h : fX11_clocks l1 l2 l3 l4 = some z) (k3 : Q (some (.long z)) (Sh0 n, A, L)) : pX11_clocks (jEv jtab (d + 2), jWP (jEv jtab (d + 2)) Q ((Sh0 n).length, jsl (Sh0 n)) pX11_clocks, Q, ((Sh0 n).length, jsl (Sh0 n))) 0 [some (.ref 94), some (.int l1), some (.int l2), some (.int l3), some (.int l4), none, none, none, none] [] (Sh0 n, A, L) := by
  unfold fX11_clocks at h
  refine y_mask <| x_iload rfl <| x_push <| x_push <| y_invS3 (Nat.le_of_ble_eq_true rfl) <| jEv.exZ (q := 159) rfl (kX11_in _ _ _ _ _ _ _) <| fun hz1 => y_if_eq (fun h2 => ?_) (fun h2 => ?_)
  · replace h := of_pos h h2
    refine jWP.intro (pr := pX11_clocks) (pc := 60) ?_
    refine y_mprl (bs := []) (ls := []) ?_
    obtain rfl := Option.some.inj h
    exact k3
  · replace h := of_neg h h2
    refine jWP.intro (pr := pX11_clocks) (pc := 13) ?_
    refine y_mask <| x_iload rfl <| x_push <| x_push <| y_invS3 (Nat.le_of_ble_eq_true rfl) <| jEv.exZ (q := 159) rfl (kX11_in _ _ _ _ _ _ _) <| fun hz3 => y_if_eq (fun h4 => ?_) (fun h4 => ?_)
    · replace h := of_pos h h4
      refine jWP.intro (pr := pX11_clocks) (pc := 60) ?_
      refine y_mprl (bs := []) (ls := []) ?_
      obtain rfl := Option.some.inj h
      exact k3
    · replace h := of_neg h h4
      refine jWP.intro (pr := pX11_clocks) (pc := 26) ?_
      refine y_mask <| x_iload rfl <| y_if_lt (fun h5 => ?_) (fun h5 => ?_)
      · replace h := of_pos h h5
        refine jWP.intro (pr := pX11_clocks) (pc := 60) ?_
        refine y_mprl (bs := []) (ls := []) ?_
        obtain rfl := Option.some.inj h
        exact k3
      · replace h := of_neg h h5
        refine jWP.intro (pr := pX11_clocks) (pc := 30) ?_
        refine y_mask <| x_iload rfl <| x_push <| x_idiv (by decide) <| x_push <| x_push <| y_invS3 (Nat.le_of_ble_eq_true rfl) <| jEv.exZ (q := 159) rfl (kX11_in _ _ _ _ _ _ _) <| fun hz6 => y_if_eq (fun h7 => ?_) (fun h7 => ?_)
        · replace h := of_pos h h7
          refine jWP.intro (pr := pX11_clocks) (pc := 60) ?_
          refine y_mprl (bs := []) (ls := []) ?_
          obtain rfl := Option.some.inj h
          exact k3
        · replace h := of_neg h h7
          refine jWP.intro (pr := pX11_clocks) (pc := 43) ?_
          refine y_mask <| x_iload rfl <| x_push <| x_irem (by decide) <| y_if_eq (fun h8 => ?_) (fun h8 => ?_)
          · replace h := of_pos h h8
            refine jWP.intro (pr := pX11_clocks) (pc := 60) ?_
            refine y_mprl (bs := []) (ls := []) ?_
            obtain rfl := Option.some.inj h
            exact k3
          · replace h := of_neg h h8
            refine jWP.intro (pr := pX11_clocks) (pc := 50) ?_
            refine y_mask <| x_iload rfl <| x_push <| x_push <| y_invS3 (Nat.le_of_ble_eq_true rfl) <| jEv.exZ (q := 159) rfl (kX11_in _ _ _ _ _ _ _) <| fun hz9 => y_if_ne (fun h10 => ?_) (fun h10 => ?_)
            · replace h := of_neg h h10
              refine jWP.intro (pr := pX11_clocks) (pc := 64) ?_
              show bX11_clocks_64 _ _ _ _
              unfold bX11_clocks_64
              refine y_mask ?_
              refine x_iload rfl ?_
              refine x_push ?_
              refine x_idiv (by decide) ?_
              refine x_i2l ?_
              refine x_lstore rfl ?_
              refine x_iload rfl ?_
              refine x_push ?_
              refine x_irem (by decide) ?_
              refine x_i2l ?_
              refine x_lstore rfl ?_
              refine x_iload rfl ?_
              refine x_push ?_
              refine y_cmp_ge (fun h11 => ?_) (fun h11 => ?_)
              · replace h := of_pos h h11
                refine jWP.intro (pr := pX11_clocks) (pc := 116) ?_
                show bX11_clocks_116 _ _ _ _
                unfold bX11_clocks_116
                refine y_mask ?_
                refine x_lload rfl ?_
                refine x_lload rfl ?_
                refine x_lmul ?_
                refine x_lload rfl ?_
                refine x_lload rfl ?_
                refine x_ladd ?_
                refine x_iload rfl ?_
                refine x_push ?_
                refine y_cmp_ne (fun h12 => ?_) (fun h12 => ?_)
                · replace h := of_neg h h12
                  refine jWP.intro (pr := pX11_clocks) (pc := 136) ?_
                  refine y_mask <| x_push <| y_mask <| y_goto ?_
                  refine jWP.intro (pr := pX11_clocks) (pc := 137) ?_
                  obtain ⟨r13, hc14, h⟩ := of_bind h
                  refine y_mask <| y_invS3 (Nat.le_of_ble_eq_true rfl) <| jEv.exL (kX11_part _ _ _ _ _ _ _ hc14) <| y_mask <| y_goto ?_
                  refine jWP.intro (pr := pX11_clocks) (pc := 140) ?_
                  refine y_mrl (bs := []) (ls := []) ?_
                  obtain rfl := Option.some.inj h
                  exact k3
                · replace h := of_pos h h12
                  refine jWP.intro (pr := pX11_clocks) (pc := 132) ?_
                  refine y_mask <| x_push <| y_mask <| y_goto ?_
                  refine jWP.intro (pr := pX11_clocks) (pc := 137) ?_
                  obtain ⟨r15, hc16, h⟩ := of_bind h
                  refine y_mask <| y_invS3 (Nat.le_of_ble_eq_true rfl) <| jEv.exL (kX11_part _ _ _ _ _ _ _ hc16) <| y_mask <| y_goto ?_
                  refine jWP.intro (pr := pX11_clocks) (pc := 140) ?_
                  refine y_mrl (bs := []) (ls := []) ?_
                  obtain rfl := Option.some.inj h
                  exact k3
              · replace h := of_neg h h11
                refine jWP.intro (pr := pX11_clocks) (pc := 84) ?_
                show bX11_clocks_84 _ _ _ _
                unfold bX11_clocks_84
                refine y_mask ?_
                refine x_iload rfl ?_
                refine x_i2l ?_
                refine x_lload rfl ?_
                refine x_lmul ?_
                refine x_iload rfl ?_
                refine x_i2l ?_
                refine x_lload rfl ?_
                refine x_lmul ?_
                refine x_ladd ?_
                refine x_lload rfl ?_
                refine x_lload rfl ?_
                refine x_ladd ?_
                refine x_iload rfl ?_
                refine y_if_ne (fun h17 => ?_) (fun h17 => ?_)
                · replace h := of_neg h h17
                  refine jWP.intro (pr := pX11_clocks) (pc := 109) ?_
                  refine y_mask <| x_push <| y_mask <| y_goto ?_
                  refine jWP.intro (pr := pX11_clocks) (pc := 110) ?_
                  obtain ⟨r18, hc19, h⟩ := of_bind h
                  refine y_mask <| y_invS3 (Nat.le_of_ble_eq_true rfl) <| jEv.exL (kX11_part _ _ _ _ _ _ _ hc19) <| y_mask <| y_goto ?_
                  refine jWP.intro (pr := pX11_clocks) (pc := 140) ?_
                  refine y_mrl (bs := []) (ls := []) ?_
                  obtain rfl := Option.some.inj h
                  exact k3
                · replace h := of_pos h h17
                  refine jWP.intro (pr := pX11_clocks) (pc := 105) ?_
                  refine y_mask <| x_push <| y_mask <| y_goto ?_
                  refine jWP.intro (pr := pX11_clocks) (pc := 110) ?_
                  obtain ⟨r20, hc21, h⟩ := of_bind h
                  refine y_mask <| y_invS3 (Nat.le_of_ble_eq_true rfl) <| jEv.exL (kX11_part _ _ _ _ _ _ _ hc21) <| y_mask <| y_goto ?_
                  refine jWP.intro (pr := pX11_clocks) (pc := 140) ?_
                  refine y_mrl (bs := []) (ls := []) ?_
                  obtain rfl := Option.some.inj h
                  exact k3
            · replace h := of_pos h h10
              refine jWP.intro (pr := pX11_clocks) (pc := 60) ?_
              refine y_mprl (bs := []) (ls := []) ?_
              obtain rfl := Option.some.inj h
              exact k3
theorem kX11_clocks (d n : Nat) (A : Nat → Nat → Int32) (L : Nat → Nat → Int64) (l1 : Int32) (l2 : Int32) (l3 : Int32) (l4 : Int32) {z : Int64} (h : fX11_clocks l1 l2 l3 l4 = some z) : jEv jtab (d + 3) 227 [.ref 94, .int l1, .int l2, .int l3, .int l4] (Sh0 n, A, L) 0 0 (fun r M2 => r = some (.long z) ∧ M2 = (Sh0 n, A, L)) :=
  jEv.mk (mt := mX11_clocks) rfl (Nat.le_of_ble_eq_true rfl) (jWP.intro (pr := pX11_clocks) (pc := 0) (tfX11_clocks d n A L l1 l2 l3 l4 h ⟨trivial, jCn.mk ⟨rfl, rfl⟩⟩))
set_option maxRecDepth 20000 in
theorem tfX11_isShip (d n : Nat) (A : Nat → Nat → Int32) (L : Nat → Nat → Int64) (l0 : Int32) {Q : Option Value → jM → Prop} {z : Int32} (h : fX11_isShip l0 = z) (k3 : (narrow .boolean (.int z) = .int z) → Q (some (.int z)) (Sh0 n, A, L)) : pX11_isShip (jEv jtab (d + 1), jWP (jEv jtab (d + 1)) Q ((Sh0 n).length, jsl (Sh0 n)) pX11_isShip, Q, ((Sh0 n).length, jsl (Sh0 n))) 0 [some (.int l0)] [] (Sh0 n, A, L) := by
  unfold fX11_isShip at h
  refine y_mask <| x_iload rfl <| x_push <| x_push <| y_invS3 (Nat.le_of_ble_eq_true rfl) <| jEv.exZ (q := 159) rfl (kX11_in _ _ _ _ _ _ _) <| fun hz1 => y_ireturn (ls := [some (.int l0)]) ?_
  subst h
  exact k3 hz1
theorem kX11_isShip (d n : Nat) (A : Nat → Nat → Int32) (L : Nat → Nat → Int64) (l0 : Int32) : jEv jtab (d + 2) 229 [.int l0] (Sh0 n, A, L) 0 0 (fun r M2 => r = some (.int (fX11_isShip l0)) ∧ M2 = (Sh0 n, A, L)) :=
  jEv.mk (mt := mX11_isShip) rfl (Nat.le_of_ble_eq_true rfl) (jWP.intro (pr := pX11_isShip) (pc := 0) (tfX11_isShip d n A L l0 rfl (fun hz => ⟨hz, jCn.mk ⟨rfl, rfl⟩⟩)))
set_option maxRecDepth 20000 in
theorem tfX11_isDay (d n : Nat) (A : Nat → Nat → Int32) (L : Nat → Nat → Int64) (l0 : Int32) {Q : Option Value → jM → Prop} {z : Int32} (h : fX11_isDay l0 = z) (k3 : (narrow .boolean (.int z) = .int z) → Q (some (.int z)) (Sh0 n, A, L)) : pX11_isDay (jEv jtab (d + 1), jWP (jEv jtab (d + 1)) Q ((Sh0 n).length, jsl (Sh0 n)) pX11_isDay, Q, ((Sh0 n).length, jsl (Sh0 n))) 0 [some (.int l0)] [] (Sh0 n, A, L) := by
  unfold fX11_isDay at h
  refine y_mask <| x_iload rfl <| x_push <| x_push <| y_invS3 (Nat.le_of_ble_eq_true rfl) <| jEv.exZ (q := 159) rfl (kX11_in _ _ _ _ _ _ _) <| fun hz1 => y_ireturn (ls := [some (.int l0)]) ?_
  subst h
  exact k3 hz1
theorem kX11_isDay (d n : Nat) (A : Nat → Nat → Int32) (L : Nat → Nat → Int64) (l0 : Int32) : jEv jtab (d + 2) 230 [.int l0] (Sh0 n, A, L) 0 0 (fun r M2 => r = some (.int (fX11_isDay l0)) ∧ M2 = (Sh0 n, A, L)) :=
  jEv.mk (mt := mX11_isDay) rfl (Nat.le_of_ble_eq_true rfl) (jWP.intro (pr := pX11_isDay) (pc := 0) (tfX11_isDay d n A L l0 rfl (fun hz => ⟨hz, jCn.mk ⟨rfl, rfl⟩⟩)))
set_option maxRecDepth 20000 in
theorem tfX11_print (d n : Nat) (A : Nat → Nat → Int32) (L : Nat → Nat → Int64) (l1 : Int32) (l2 : Int32) (l3 : Int32) (l4 : Int32) {Q : Option Value → jM → Prop} {z : (Int32 × (Nat → Nat → Int32))} (h : fX11_print A l1 l2 l3 l4 = some z) (k3 : Q (some (.int z.1)) (Sh0 n, z.2, L)) : pX11_print (jEv jtab (d + 2), jWP (jEv jtab (d + 2)) Q ((Sh0 n).length, jsl (Sh0 n)) pX11_print, Q, ((Sh0 n).length, jsl (Sh0 n))) 0 [some (.ref 94), some (.int l1), some (.int l2), some (.int l3), some (.int l4)] [] (Sh0 n, A, L) := by
  unfold fX11_print at h
  refine y_mask <| x_iload rfl <| y_invS1 (Nat.le_of_ble_eq_true rfl) <| jEv.exZ (q := 229) rfl (kX11_isShip _ _ _ _ _) <| fun hz1 => y_if_eq (fun h2 => ?_) (fun h2 => ?_)
  · replace h := of_pos h h2
    refine jWP.intro (pr := pX11_print) (pc := 35) ?_
    refine y_mpri (bs := []) (ls := []) ?_
    obtain rfl := Option.some.inj h
    exact k3
  · replace h := of_neg h h2
    refine jWP.intro (pr := pX11_print) (pc := 7) ?_
    refine y_mask <| x_iload rfl <| y_invS1 (Nat.le_of_ble_eq_true rfl) <| jEv.exZ (q := 230) rfl (kX11_isDay _ _ _ _ _) <| fun hz3 => y_if_eq (fun h4 => ?_) (fun h4 => ?_)
    · replace h := of_pos h h4
      refine jWP.intro (pr := pX11_print) (pc := 35) ?_
      refine y_mpri (bs := []) (ls := []) ?_
      obtain rfl := Option.some.inj h
      exact k3
    · replace h := of_neg h h4
      refine jWP.intro (pr := pX11_print) (pc := 14) ?_
      refine y_mask <| x_iload rfl <| x_push <| x_push <| y_invS3 (Nat.le_of_ble_eq_true rfl) <| jEv.exZ (q := 159) rfl (kX11_in _ _ _ _ _ _ _) <| fun hz5 => y_if_eq (fun h6 => ?_) (fun h6 => ?_)
      · replace h := of_pos h h6
        refine jWP.intro (pr := pX11_print) (pc := 35) ?_
        refine y_mpri (bs := []) (ls := []) ?_
        obtain rfl := Option.some.inj h
        exact k3
      · replace h := of_neg h h6
        refine jWP.intro (pr := pX11_print) (pc := 24) ?_
        refine y_mask <| x_iload rfl <| x_push <| x_push <| y_invS3 (Nat.le_of_ble_eq_true rfl) <| jEv.exZ (q := 159) rfl (kX11_in _ _ _ _ _ _ _) <| fun hz7 => y_if_ne (fun h8 => ?_) (fun h8 => ?_)
        · replace h := of_neg h h8
          refine jWP.intro (pr := pX11_print) (pc := 38) ?_
          refine y_mask <| x_aload rfl <| x_getI (Nat.le_of_ble_eq_true rfl) rfl rfl <| x_push <| y_cmp_ne (fun h9 => ?_) (fun h9 => ?_)
          · replace h := of_neg h h9
            refine jWP.intro (pr := pX11_print) (pc := 50) ?_
            obtain ⟨g10, h⟩ := of_guard h
            obtain ⟨m11, hm12, h⟩ := of_bind h
            obtain ⟨g13, h⟩ := of_guard h
            obtain ⟨m14, hm15, h⟩ := of_bind h
            obtain ⟨g16, h⟩ := of_guard h
            obtain ⟨m17, hm18, h⟩ := of_bind h
            obtain ⟨g19, h⟩ := of_guard h
            obtain ⟨m20, hm21, h⟩ := of_bind h
            show bX11_print_50 _ _ _ _
            unfold bX11_print_50
            refine y_mask ?_
            refine x_aload rfl ?_
            refine x_getR (Nat.le_of_ble_eq_true rfl) rfl rfl ?_
            refine x_aload rfl ?_
            refine x_getI (Nat.le_of_ble_eq_true rfl) rfl rfl ?_
            refine x_iload rfl ?_
            refine x_iast (Nat.le_of_ble_eq_true rfl) rfl g10 ?_
            refine y_let (Option.some.inj hm12) ?_
            refine x_aload rfl ?_
            refine x_getR (Nat.le_of_ble_eq_true rfl) rfl rfl ?_
            refine x_aload rfl ?_
            refine x_getI (Nat.le_of_ble_eq_true rfl) rfl rfl ?_
            refine x_iload rfl ?_
            refine x_iast (Nat.le_of_ble_eq_true rfl) rfl g13 ?_
            refine y_let (Option.some.inj hm15) ?_
            refine x_aload rfl ?_
            refine x_getR (Nat.le_of_ble_eq_true rfl) rfl rfl ?_
            refine x_aload rfl ?_
            refine x_getI (Nat.le_of_ble_eq_true rfl) rfl rfl ?_
            refine x_iload rfl ?_
            refine x_iast (Nat.le_of_ble_eq_true rfl) rfl g16 ?_
            refine y_let (Option.some.inj hm18) ?_
            refine x_aload rfl ?_
            refine x_getR (Nat.le_of_ble_eq_true rfl) rfl rfl ?_
            refine x_aload rfl ?_
            refine x_getI (Nat.le_of_ble_eq_true rfl) rfl rfl ?_
            refine x_iload rfl ?_
            refine x_iast (Nat.le_of_ble_eq_true rfl) rfl g19 ?_
            refine y_let (Option.some.inj hm21) ?_
            refine x_aload rfl ?_
            refine x_dup rfl ?_
            refine x_getI (Nat.le_of_ble_eq_true rfl) rfl rfl ?_
            refine x_push ?_
            refine x_iadd ?_
            refine x_putI (Nat.le_of_ble_eq_true rfl) rfl rfl ?_
            refine x_aload rfl ?_
            refine x_getI (Nat.le_of_ble_eq_true rfl) rfl rfl ?_
            refine x_push ?_
            refine x_isub ?_
            refine y_ireturn (ls := [some (.ref 94), some (.int l1), some (.int l2), some (.int l3), some (.int l4)]) ?_
            obtain rfl := Option.some.inj h
            exact k3
          · replace h := of_pos h h9
            refine jWP.intro (pr := pX11_print) (pc := 47) ?_
            refine y_mpri (bs := []) (ls := []) ?_
            obtain rfl := Option.some.inj h
            exact k3
        · replace h := of_pos h h8
          refine jWP.intro (pr := pX11_print) (pc := 35) ?_
          refine y_mpri (bs := []) (ls := []) ?_
          obtain rfl := Option.some.inj h
          exact k3
theorem kX11_print (d n : Nat) (A : Nat → Nat → Int32) (L : Nat → Nat → Int64) (l1 : Int32) (l2 : Int32) (l3 : Int32) (l4 : Int32) {z : (Int32 × (Nat → Nat → Int32))} (h : fX11_print A l1 l2 l3 l4 = some z) : jEv jtab (d + 3) 232 [.ref 94, .int l1, .int l2, .int l3, .int l4] (Sh0 n, A, L) 0 0 (fun r M2 => r = some (.int z.1) ∧ M2 = (Sh0 n, z.2, L)) :=
  jEv.mk (mt := mX11_print) rfl (Nat.le_of_ble_eq_true rfl) (jWP.intro (pr := pX11_print) (pc := 0) (tfX11_print d n A L l1 l2 l3 l4 h ⟨trivial, jCn.mk ⟨rfl, rfl⟩⟩))
set_option maxRecDepth 20000 in
theorem tfX11_isReport (d n : Nat) (A : Nat → Nat → Int32) (L : Nat → Nat → Int64) (l1 : Int32) {Q : Option Value → jM → Prop} {z : Int32} (h : fX11_isReport A l1 = z) (k3 : (narrow .boolean (.int z) = .int z) → Q (some (.int z)) (Sh0 n, A, L)) : pX11_isReport (jEv jtab (d + 1), jWP (jEv jtab (d + 1)) Q ((Sh0 n).length, jsl (Sh0 n)) pX11_isReport, Q, ((Sh0 n).length, jsl (Sh0 n))) 0 [some (.ref 94), some (.int l1)] [] (Sh0 n, A, L) := by
  unfold fX11_isReport at h
  show bX11_isReport_0 _ _ _ _
  unfold bX11_isReport_0
  refine y_mask ?_
  refine x_iload rfl ?_
  refine x_push ?_
  refine x_aload rfl ?_
  refine x_getI (Nat.le_of_ble_eq_true rfl) rfl rfl ?_
  refine x_push ?_
  refine x_isub ?_
  refine y_invS3 (Nat.le_of_ble_eq_true rfl) ?_
  refine jEv.exZ (q := 159) rfl (kX11_in _ _ _ _ _ _ _) (fun hz1 => ?_)
  refine y_ireturn (ls := [some (.ref 94), some (.int l1)]) ?_
  subst h
  exact k3 hz1
theorem kX11_isReport (d n : Nat) (A : Nat → Nat → Int32) (L : Nat → Nat → Int64) (l1 : Int32) : jEv jtab (d + 2) 228 [.ref 94, .int l1] (Sh0 n, A, L) 0 0 (fun r M2 => r = some (.int (fX11_isReport A l1)) ∧ M2 = (Sh0 n, A, L)) :=
  jEv.mk (mt := mX11_isReport) rfl (Nat.le_of_ble_eq_true rfl) (jWP.intro (pr := pX11_isReport) (pc := 0) (tfX11_isReport d n A L l1 rfl (fun hz => ⟨hz, jCn.mk ⟨rfl, rfl⟩⟩)))
