/-! METHODS AS FUNCTIONS, printed by dec.py -/
set_option maxRecDepth 20000 in
theorem tcX0_findClashes_19 (d n : Nat) (A : Nat → Nat → Int32) (L : Nat → Nat → Int64) (l1 : Int32) (l2 : Int32) (s : (Int32 × (Nat → Nat → Int32))) {Q : Option Value → jM → Prop} {z : ((Int32 × (Nat → Nat → Int32)) ⊕ (Nat → Nat → Int32))} (h : cX0_findClashes_19 l1 l2 s = some z) (k1 : ∀ s0, z = .inl s0 → pX0_findClashes (jEv jtab (d + 1), jWP (jEv jtab (d + 1)) Q ((Sh0 n).length, jsl (Sh0 n)) pX0_findClashes, Q, ((Sh0 n).length, jsl (Sh0 n))) 19 [some (.ref 64), some (.int l1), some (.int l2), some (.int s0.1)] [] (Sh0 n, s0.2, L)) (k2 : ∀ s0, z = .inr s0 → pX0_findClashes (jEv jtab (d + 1), jWP (jEv jtab (d + 1)) Q ((Sh0 n).length, jsl (Sh0 n)) pX0_findClashes, Q, ((Sh0 n).length, jsl (Sh0 n))) 62 [some (.ref 64), some (.int l1), some (.int l2), none] [] (Sh0 n, s0, L)) : pX0_findClashes (jEv jtab (d + 1), jWP (jEv jtab (d + 1)) Q ((Sh0 n).length, jsl (Sh0 n)) pX0_findClashes, Q, ((Sh0 n).length, jsl (Sh0 n))) 19 [some (.ref 64), some (.int l1), some (.int l2), some (.int s.1)] [] (Sh0 n, s.2, L) := by
  unfold cX0_findClashes_19 at h
  refine y_mask <| x_iload rfl <| x_aload rfl <| x_getI (Nat.le_of_ble_eq_true rfl) rfl rfl <| y_cmp_ge (fun h1 => ?_) (fun h1 => ?_)
  · replace h := of_pos h h1
    refine jWP.intro (pr := pX0_findClashes) (pc := 62) ?_
    have hk := k2 _ (Option.some.inj h).symm
    exact hk
  · replace h := of_neg h h1
    refine jWP.intro (pr := pX0_findClashes) (pc := 27) ?_
    obtain ⟨r2, hc3, h⟩ := of_bind h
    obtain ⟨r4, hc5, h⟩ := of_bind h
    refine y_mask <| x_aload rfl <| x_iload rfl <| x_iload rfl <| y_invV2 (Nat.le_of_ble_eq_true rfl) rfl (Nat.le_of_ble_eq_true rfl) <| jEv.exI (kX0_cellsBetween _ _ _ _ _ _ hc3) <| x_iload rfl <| x_aload rfl <| x_iload rfl <| x_iload rfl <| y_invV2 (Nat.le_of_ble_eq_true rfl) rfl (Nat.le_of_ble_eq_true rfl) <| jEv.exI (kX0_daysBetween _ _ _ _ _ _ hc5) <| x_imul <| y_cmp_le (fun h6 => ?_) (fun h6 => ?_)
    · replace h := of_pos h h6
      refine jWP.intro (pr := pX0_findClashes) (pc := 56) ?_
      refine y_mask <| x_iinc rfl rfl <| y_mask <| y_goto ?_
      refine jWP.intro (pr := pX0_findClashes) (pc := 19) ?_
      have hk := k1 _ (Option.some.inj h).symm
      exact hk
    · replace h := of_neg h h6
      refine jWP.intro (pr := pX0_findClashes) (pc := 44) ?_
      obtain ⟨g7, h⟩ := of_guard h
      obtain ⟨g8, h⟩ := of_guard h
      obtain ⟨m9, hm10, h⟩ := of_bind h
      refine y_mask <| x_aload rfl <| x_getR (Nat.le_of_ble_eq_true rfl) rfl rfl <| x_iload rfl <| x_dup2 rfl rfl <| x_iald rfl g7 <| x_push <| x_iload rfl <| x_ishl <| x_ior <| x_iast (Nat.le_of_ble_eq_true rfl) rfl g8 <| y_let (Option.some.inj hm10) <| y_mask <| y_goto ?_
      refine jWP.intro (pr := pX0_findClashes) (pc := 56) ?_
      refine y_mask <| x_iinc rfl rfl <| y_mask <| y_goto ?_
      refine jWP.intro (pr := pX0_findClashes) (pc := 19) ?_
      have hk := k1 _ (Option.some.inj h).symm
      exact hk
set_option maxRecDepth 20000 in
theorem tcX0_findClashes_2 (d n : Nat) (A : Nat → Nat → Int32) (L : Nat → Nat → Int64) (l1 : Int32) (s : (Int32 × (Nat → Nat → Int32))) {Q : Option Value → jM → Prop} {z : ((Int32 × (Nat → Nat → Int32)) ⊕ (Nat → Nat → Int32))} (h : cX0_findClashes_2 l1 s = some z) (k1 : ∀ s0, z = .inl s0 → pX0_findClashes (jEv jtab (d + 1), jWP (jEv jtab (d + 1)) Q ((Sh0 n).length, jsl (Sh0 n)) pX0_findClashes, Q, ((Sh0 n).length, jsl (Sh0 n))) 2 [some (.ref 64), some (.int l1), some (.int s0.1), none] [] (Sh0 n, s0.2, L)) (k2 : ∀ s0, z = .inr s0 → pX0_findClashes (jEv jtab (d + 1), jWP (jEv jtab (d + 1)) Q ((Sh0 n).length, jsl (Sh0 n)) pX0_findClashes, Q, ((Sh0 n).length, jsl (Sh0 n))) 68 [none, none, none, none] [] (Sh0 n, s0, L)) : pX0_findClashes (jEv jtab (d + 1), jWP (jEv jtab (d + 1)) Q ((Sh0 n).length, jsl (Sh0 n)) pX0_findClashes, Q, ((Sh0 n).length, jsl (Sh0 n))) 2 [some (.ref 64), some (.int l1), some (.int s.1), none] [] (Sh0 n, s.2, L) := by
  unfold cX0_findClashes_2 at h
  refine y_mask <| x_iload rfl <| x_aload rfl <| x_getI (Nat.le_of_ble_eq_true rfl) rfl rfl <| y_cmp_ge (fun h1 => ?_) (fun h1 => ?_)
  · replace h := of_pos h h1
    refine jWP.intro (pr := pX0_findClashes) (pc := 68) ?_
    have hk := k2 _ (Option.some.inj h).symm
    exact hk
  · replace h := of_neg h h1
    refine jWP.intro (pr := pX0_findClashes) (pc := 10) ?_
    obtain ⟨g2, h⟩ := of_guard h
    obtain ⟨m3, hm4, h⟩ := of_bind h
    refine y_mask <| x_aload rfl <| x_getR (Nat.le_of_ble_eq_true rfl) rfl rfl <| x_iload rfl <| x_push <| x_iast (Nat.le_of_ble_eq_true rfl) rfl g2 <| y_let (Option.some.inj hm4) <| x_push <| x_istore rfl <| y_mask <| y_goto ?_
    obtain ⟨e5, hw6, h⟩ := of_bind h
    refine jWP.intro (pr := pX0_findClashes) (pc := 19) ?_
    refine jwh_use (G := (fun s0 => pX0_findClashes (jEv jtab (d + 1), jWP (jEv jtab (d + 1)) Q ((Sh0 n).length, jsl (Sh0 n)) pX0_findClashes, Q, ((Sh0 n).length, jsl (Sh0 n))) 19 [some (.ref 64), some (.int l1), some (.int s.1), some (.int s0.1)] [] (Sh0 n, s0.2, L))) (Gx := (fun s0 => pX0_findClashes (jEv jtab (d + 1), jWP (jEv jtab (d + 1)) Q ((Sh0 n).length, jsl (Sh0 n)) pX0_findClashes, Q, ((Sh0 n).length, jsl (Sh0 n))) 62 [some (.ref 64), some (.int l1), some (.int s.1), none] [] (Sh0 n, s0, L))) (fun s1 z1 hz kk1 kk2 => tcX0_findClashes_19 d n m3 L l1 s.1 s1 hz kk1 kk2) hw6 ?_
    refine y_mask <| x_iinc rfl rfl <| y_mask <| y_goto ?_
    refine jWP.intro (pr := pX0_findClashes) (pc := 2) ?_
    have hk := k1 _ (Option.some.inj h).symm
    exact hk
set_option maxRecDepth 20000 in
theorem tfX0_findClashes (d n : Nat) (A : Nat → Nat → Int32) (L : Nat → Nat → Int64) (l1 : Int32) {Q : Option Value → jM → Prop} {z : (Nat → Nat → Int32)} (h : fX0_findClashes A l1 = some z) (k3 : Q (none) (Sh0 n, z, L)) : pX0_findClashes (jEv jtab (d + 1), jWP (jEv jtab (d + 1)) Q ((Sh0 n).length, jsl (Sh0 n)) pX0_findClashes, Q, ((Sh0 n).length, jsl (Sh0 n))) 0 [some (.ref 64), some (.int l1), none, none] [] (Sh0 n, A, L) := by
  unfold fX0_findClashes at h
  refine y_mask <| x_push <| x_istore rfl <| y_mask <| y_goto ?_
  obtain ⟨e1, hw2, h⟩ := of_bind h
  refine jWP.intro (pr := pX0_findClashes) (pc := 2) ?_
  refine jwh_use (G := (fun s0 => pX0_findClashes (jEv jtab (d + 1), jWP (jEv jtab (d + 1)) Q ((Sh0 n).length, jsl (Sh0 n)) pX0_findClashes, Q, ((Sh0 n).length, jsl (Sh0 n))) 2 [some (.ref 64), some (.int l1), some (.int s0.1), none] [] (Sh0 n, s0.2, L))) (Gx := (fun s0 => pX0_findClashes (jEv jtab (d + 1), jWP (jEv jtab (d + 1)) Q ((Sh0 n).length, jsl (Sh0 n)) pX0_findClashes, Q, ((Sh0 n).length, jsl (Sh0 n))) 68 [none, none, none, none] [] (Sh0 n, s0, L))) (fun s1 z1 hz kk1 kk2 => tcX0_findClashes_2 d n A L l1 s1 hz kk1 kk2) hw2 ?_
  refine y_mrv (bs := []) (ls := []) ?_
  obtain rfl := Option.some.inj h
  exact k3
theorem kX0_findClashes (d n : Nat) (A : Nat → Nat → Int32) (L : Nat → Nat → Int64) (l1 : Int32) {z : (Nat → Nat → Int32)} (h : fX0_findClashes A l1 = some z) : jEv jtab (d + 2) 9 [.ref 64, .int l1] (Sh0 n, A, L) 0 0 (fun r M2 => r = none ∧ M2 = (Sh0 n, z, L)) :=
  jEv.mk (mt := mX0_findClashes) rfl (Nat.le_of_ble_eq_true rfl) (jWP.intro (pr := pX0_findClashes) (pc := 0) (tfX0_findClashes d n A L l1 h ⟨trivial, jCn.mk ⟨rfl, rfl⟩⟩))
set_option maxRecDepth 20000 in
theorem tcX0_reportsOf_4 (d n : Nat) (A : Nat → Nat → Int32) (L : Nat → Nat → Int64) (l1 : Int32) (s : (Int32 × Int32)) {Q : Option Value → jM → Prop} {z : ((Int32 × Int32) ⊕ Int32)} (h : cX0_reportsOf_4 A l1 s = some z) (k1 : ∀ s0, z = .inl s0 → pX0_reportsOf (jEv jtab (d + 0), jWP (jEv jtab (d + 0)) Q ((Sh0 n).length, jsl (Sh0 n)) pX0_reportsOf, Q, ((Sh0 n).length, jsl (Sh0 n))) 4 [some (.ref 64), some (.int l1), some (.int s0.1), some (.int s0.2)] [] (Sh0 n, A, L)) (k2 : ∀ s0, z = .inr s0 → pX0_reportsOf (jEv jtab (d + 0), jWP (jEv jtab (d + 0)) Q ((Sh0 n).length, jsl (Sh0 n)) pX0_reportsOf, Q, ((Sh0 n).length, jsl (Sh0 n))) 34 [none, none, some (.int s0), none] [] (Sh0 n, A, L)) : pX0_reportsOf (jEv jtab (d + 0), jWP (jEv jtab (d + 0)) Q ((Sh0 n).length, jsl (Sh0 n)) pX0_reportsOf, Q, ((Sh0 n).length, jsl (Sh0 n))) 4 [some (.ref 64), some (.int l1), some (.int s.1), some (.int s.2)] [] (Sh0 n, A, L) := by
  unfold cX0_reportsOf_4 at h
  refine y_mask <| x_iload rfl <| x_aload rfl <| x_getI (Nat.le_of_ble_eq_true rfl) rfl rfl <| y_cmp_ge (fun h1 => ?_) (fun h1 => ?_)
  · replace h := of_pos h h1
    refine jWP.intro (pr := pX0_reportsOf) (pc := 34) ?_
    have hk := k2 _ (Option.some.inj h).symm
    exact hk
  · replace h := of_neg h h1
    refine jWP.intro (pr := pX0_reportsOf) (pc := 12) ?_
    obtain ⟨g2, h⟩ := of_guard h
    refine y_mask <| x_aload rfl <| x_getR (Nat.le_of_ble_eq_true rfl) rfl rfl <| x_iload rfl <| x_iald rfl g2 <| x_iload rfl <| y_cmp_ne (fun h3 => ?_) (fun h3 => ?_)
    · replace h := of_neg h h3
      refine jWP.intro (pr := pX0_reportsOf) (pc := 28) ?_
      refine y_mask <| x_iinc rfl rfl <| y_mask <| y_goto ?_
      refine jWP.intro (pr := pX0_reportsOf) (pc := 4) ?_
      have hk := k1 _ (Option.some.inj h).symm
      exact hk
    · replace h := of_pos h h3
      refine jWP.intro (pr := pX0_reportsOf) (pc := 22) ?_
      refine y_mask <| x_iload rfl <| x_push <| x_iload rfl <| x_ishl <| x_ior <| x_istore rfl <| y_mask <| y_goto ?_
      refine jWP.intro (pr := pX0_reportsOf) (pc := 28) ?_
      refine y_mask <| x_iinc rfl rfl <| y_mask <| y_goto ?_
      refine jWP.intro (pr := pX0_reportsOf) (pc := 4) ?_
      have hk := k1 _ (Option.some.inj h).symm
      exact hk
set_option maxRecDepth 20000 in
theorem tfX0_reportsOf (d n : Nat) (A : Nat → Nat → Int32) (L : Nat → Nat → Int64) (l1 : Int32) {Q : Option Value → jM → Prop} {z : Int32} (h : fX0_reportsOf A l1 = some z) (k3 : Q (some (.int z)) (Sh0 n, A, L)) : pX0_reportsOf (jEv jtab (d + 0), jWP (jEv jtab (d + 0)) Q ((Sh0 n).length, jsl (Sh0 n)) pX0_reportsOf, Q, ((Sh0 n).length, jsl (Sh0 n))) 0 [some (.ref 64), some (.int l1), none, none] [] (Sh0 n, A, L) := by
  unfold fX0_reportsOf at h
  refine y_mask <| x_push <| x_istore rfl <| x_push <| x_istore rfl <| y_mask <| y_goto ?_
  obtain ⟨e1, hw2, h⟩ := of_bind h
  refine jWP.intro (pr := pX0_reportsOf) (pc := 4) ?_
  refine jwh_use (G := (fun s0 => pX0_reportsOf (jEv jtab (d + 0), jWP (jEv jtab (d + 0)) Q ((Sh0 n).length, jsl (Sh0 n)) pX0_reportsOf, Q, ((Sh0 n).length, jsl (Sh0 n))) 4 [some (.ref 64), some (.int l1), some (.int s0.1), some (.int s0.2)] [] (Sh0 n, A, L))) (Gx := (fun s0 => pX0_reportsOf (jEv jtab (d + 0), jWP (jEv jtab (d + 0)) Q ((Sh0 n).length, jsl (Sh0 n)) pX0_reportsOf, Q, ((Sh0 n).length, jsl (Sh0 n))) 34 [none, none, some (.int s0), none] [] (Sh0 n, A, L))) (fun s1 z1 hz kk1 kk2 => tcX0_reportsOf_4 d n A L l1 s1 hz kk1 kk2) hw2 ?_
  refine y_mask <| x_iload rfl <| y_ireturn (ls := [none, none, some (.int e1), none]) ?_
  obtain rfl := Option.some.inj h
  exact k3
theorem kX0_reportsOf (d n : Nat) (A : Nat → Nat → Int32) (L : Nat → Nat → Int64) (l1 : Int32) {z : Int32} (h : fX0_reportsOf A l1 = some z) : jEv jtab (d + 1) 7 [.ref 64, .int l1] (Sh0 n, A, L) 0 0 (fun r M2 => r = some (.int z) ∧ M2 = (Sh0 n, A, L)) :=
  jEv.mk (mt := mX0_reportsOf) rfl (Nat.le_of_ble_eq_true rfl) (jWP.intro (pr := pX0_reportsOf) (pc := 0) (tfX0_reportsOf d n A L l1 h ⟨trivial, jCn.mk ⟨rfl, rfl⟩⟩))
set_option maxRecDepth 20000 in
theorem tcX0_agree_2 (d n : Nat) (A : Nat → Nat → Int32) (L : Nat → Nat → Int64) (l1 : Int32) (s : Int32) {Q : Option Value → jM → Prop} {z : (Int32 ⊕ (Unit ⊕ Int32))} (h : cX0_agree_2 A l1 s = some z) (k1 : ∀ s0, z = .inl s0 → pX0_agree (jEv jtab (d + 0), jWP (jEv jtab (d + 0)) Q ((Sh0 n).length, jsl (Sh0 n)) pX0_agree, Q, ((Sh0 n).length, jsl (Sh0 n))) 2 [some (.ref 64), some (.int l1), some (.int s0)] [] (Sh0 n, A, L)) (k2 : ∀ s0, z = .inr (.inl s0) → pX0_agree (jEv jtab (d + 0), jWP (jEv jtab (d + 0)) Q ((Sh0 n).length, jsl (Sh0 n)) pX0_agree, Q, ((Sh0 n).length, jsl (Sh0 n))) 37 [none, none, none] [] (Sh0 n, A, L)) (k3 : ∀ s0, z = .inr (.inr s0) → (narrow .boolean (.int s0) = .int s0) → Q (some (.int s0)) (Sh0 n, A, L)) : pX0_agree (jEv jtab (d + 0), jWP (jEv jtab (d + 0)) Q ((Sh0 n).length, jsl (Sh0 n)) pX0_agree, Q, ((Sh0 n).length, jsl (Sh0 n))) 2 [some (.ref 64), some (.int l1), some (.int s)] [] (Sh0 n, A, L) := by
  unfold cX0_agree_2 at h
  refine y_mask <| x_iload rfl <| x_aload rfl <| x_getI (Nat.le_of_ble_eq_true rfl) rfl rfl <| y_cmp_ge (fun h1 => ?_) (fun h1 => ?_)
  · replace h := of_pos h h1
    refine jWP.intro (pr := pX0_agree) (pc := 37) ?_
    have hk := k2 _ (Option.some.inj h).symm
    exact hk
  · replace h := of_neg h h1
    refine jWP.intro (pr := pX0_agree) (pc := 10) ?_
    refine y_mask <| x_iload rfl <| x_iload rfl <| x_ishr <| x_push <| x_iand <| y_if_eq (fun h2 => ?_) (fun h2 => ?_)
    · replace h := of_pos h h2
      refine jWP.intro (pr := pX0_agree) (pc := 31) ?_
      refine y_mask <| x_iinc rfl rfl <| y_mask <| y_goto ?_
      refine jWP.intro (pr := pX0_agree) (pc := 2) ?_
      have hk := k1 _ (Option.some.inj h).symm
      exact hk
    · replace h := of_neg h h2
      refine jWP.intro (pr := pX0_agree) (pc := 18) ?_
      obtain ⟨g3, h⟩ := of_guard h
      refine y_mask <| x_aload rfl <| x_getR (Nat.le_of_ble_eq_true rfl) rfl rfl <| x_iload rfl <| x_iald rfl g3 <| x_iload rfl <| x_iand <| y_if_eq (fun h4 => ?_) (fun h4 => ?_)
      · replace h := of_pos h h4
        refine jWP.intro (pr := pX0_agree) (pc := 31) ?_
        refine y_mask <| x_iinc rfl rfl <| y_mask <| y_goto ?_
        refine jWP.intro (pr := pX0_agree) (pc := 2) ?_
        have hk := k1 _ (Option.some.inj h).symm
        exact hk
      · replace h := of_neg h h4
        refine jWP.intro (pr := pX0_agree) (pc := 29) ?_
        refine y_mpri (bs := []) (ls := []) ?_
        have hk := k3 _ (Option.some.inj h).symm
        exact hk (jnar_boolean (.inl rfl))
set_option maxRecDepth 20000 in
theorem tfX0_agree (d n : Nat) (A : Nat → Nat → Int32) (L : Nat → Nat → Int64) (l1 : Int32) {Q : Option Value → jM → Prop} {z : Int32} (h : fX0_agree A l1 = some z) (k3 : (narrow .boolean (.int z) = .int z) → Q (some (.int z)) (Sh0 n, A, L)) : pX0_agree (jEv jtab (d + 0), jWP (jEv jtab (d + 0)) Q ((Sh0 n).length, jsl (Sh0 n)) pX0_agree, Q, ((Sh0 n).length, jsl (Sh0 n))) 0 [some (.ref 64), some (.int l1), none] [] (Sh0 n, A, L) := by
  unfold fX0_agree at h
  refine y_mask <| x_push <| x_istore rfl <| y_mask <| y_goto ?_
  obtain ⟨e1y, hw2, h⟩ := of_bind h
  refine jWP.intro (pr := pX0_agree) (pc := 2) ?_
  refine jwh_use2 (G := (fun s0 => pX0_agree (jEv jtab (d + 0), jWP (jEv jtab (d + 0)) Q ((Sh0 n).length, jsl (Sh0 n)) pX0_agree, Q, ((Sh0 n).length, jsl (Sh0 n))) 2 [some (.ref 64), some (.int l1), some (.int s0)] [] (Sh0 n, A, L))) (Gx := (fun s0 => pX0_agree (jEv jtab (d + 0), jWP (jEv jtab (d + 0)) Q ((Sh0 n).length, jsl (Sh0 n)) pX0_agree, Q, ((Sh0 n).length, jsl (Sh0 n))) 37 [none, none, none] [] (Sh0 n, A, L))) (Gr := (fun s0 => (narrow .boolean (.int s0) = .int s0) → Q (some (.int s0)) (Sh0 n, A, L))) (fun s1 z1 hz kk1 kk2 kk3 => tcX0_agree_2 d n A L l1 s1 hz kk1 kk2 kk3) hw2 ?_ ?_
  · intro e1 hy
    subst hy
    replace h : (some (1 : Int32)) = some z := h
    refine y_mpri (bs := []) (ls := []) ?_
    obtain rfl := Option.some.inj h
    exact k3 (jnar_boolean (.inr rfl))
  · intro s0 hy
    subst hy
    replace h : some s0 = some z := h
    obtain rfl := Option.some.inj h
    exact k3
theorem kX0_agree (d n : Nat) (A : Nat → Nat → Int32) (L : Nat → Nat → Int64) (l1 : Int32) {z : Int32} (h : fX0_agree A l1 = some z) : jEv jtab (d + 1) 10 [.ref 64, .int l1] (Sh0 n, A, L) 0 0 (fun r M2 => r = some (.int z) ∧ M2 = (Sh0 n, A, L)) :=
  jEv.mk (mt := mX0_agree) rfl (Nat.le_of_ble_eq_true rfl) (jWP.intro (pr := pX0_agree) (pc := 0) (tfX0_agree d n A L l1 h (fun hz => ⟨hz, jCn.mk ⟨rfl, rfl⟩⟩)))
set_option maxRecDepth 20000 in
theorem tcX0_falseOf_23 (d n : Nat) (A : Nat → Nat → Int32) (L : Nat → Nat → Int64) (l3 : Int32) (s : (Int32 × Int32 × Int32)) {Q : Option Value → jM → Prop} {z : ((Int32 × Int32 × Int32) ⊕ Int32)} (h : cX0_falseOf_23 A l3 s = some z) (k1 : ∀ s0, z = .inl s0 → pX0_falseOf (jEv jtab (d + 2), jWP (jEv jtab (d + 2)) Q ((Sh0 n).length, jsl (Sh0 n)) pX0_falseOf, Q, ((Sh0 n).length, jsl (Sh0 n))) 23 [some (.ref 64), none, none, some (.int l3), some (.int s0.1), some (.int s0.2.1), some (.int s0.2.2)] [] (Sh0 n, A, L)) (k2 : ∀ s0, z = .inr s0 → pX0_falseOf (jEv jtab (d + 2), jWP (jEv jtab (d + 2)) Q ((Sh0 n).length, jsl (Sh0 n)) pX0_falseOf, Q, ((Sh0 n).length, jsl (Sh0 n))) 78 [none, none, none, none, some (.int s0), none, none] [] (Sh0 n, A, L)) : pX0_falseOf (jEv jtab (d + 2), jWP (jEv jtab (d + 2)) Q ((Sh0 n).length, jsl (Sh0 n)) pX0_falseOf, Q, ((Sh0 n).length, jsl (Sh0 n))) 23 [some (.ref 64), none, none, some (.int l3), some (.int s.1), some (.int s.2.1), some (.int s.2.2)] [] (Sh0 n, A, L) := by
  unfold cX0_falseOf_23 at h
  refine y_mask <| x_iload rfl <| x_iload rfl <| y_cmp_ge (fun h1 => ?_) (fun h1 => ?_)
  · replace h := of_pos h h1
    refine jWP.intro (pr := pX0_falseOf) (pc := 78) ?_
    have hk := k2 _ (Option.some.inj h).symm
    exact hk
  · replace h := of_neg h h1
    refine jWP.intro (pr := pX0_falseOf) (pc := 29) ?_
    refine y_mask <| x_iload rfl <| x_iload rfl <| x_push <| x_ixor <| x_iand <| y_if_ne (fun h2 => ?_) (fun h2 => ?_)
    · replace h := of_neg h h2
      refine jWP.intro (pr := pX0_falseOf) (pc := 72) ?_
      refine y_mask <| x_iinc rfl rfl <| y_mask <| y_goto ?_
      refine jWP.intro (pr := pX0_falseOf) (pc := 23) ?_
      have hk := k1 _ (Option.some.inj h).symm
      exact hk
    · replace h := of_pos h h2
      refine jWP.intro (pr := pX0_falseOf) (pc := 38) ?_
      refine y_mask <| x_iload rfl <| y_invS1 (Nat.le_of_ble_eq_true rfl) <| jEv.exI (kJ6_bitCount_0f7a4 _ _ _ _ _) <| x_iload rfl <| y_cmp_ge (fun h3 => ?_) (fun h3 => ?_)
      · replace h := of_pos h h3
        refine jWP.intro (pr := pX0_falseOf) (pc := 72) ?_
        refine y_mask <| x_iinc rfl rfl <| y_mask <| y_goto ?_
        refine jWP.intro (pr := pX0_falseOf) (pc := 23) ?_
        have hk := k1 _ (Option.some.inj h).symm
        exact hk
      · replace h := of_neg h h3
        refine jWP.intro (pr := pX0_falseOf) (pc := 48) ?_
        obtain ⟨r4, hc5, h⟩ := of_bind h
        refine y_mask <| x_aload rfl <| x_iload rfl <| x_iload rfl <| x_push <| x_ixor <| x_iand <| y_invV1 (Nat.le_of_ble_eq_true rfl) rfl (Nat.le_of_ble_eq_true rfl) <| jEv.exZ (q := 10) rfl (kX0_agree _ _ _ _ _ hc5) <| fun hz6 => y_if_eq (fun h7 => ?_) (fun h7 => ?_)
        · replace h := of_pos h h7
          refine jWP.intro (pr := pX0_falseOf) (pc := 72) ?_
          refine y_mask <| x_iinc rfl rfl <| y_mask <| y_goto ?_
          refine jWP.intro (pr := pX0_falseOf) (pc := 23) ?_
          have hk := k1 _ (Option.some.inj h).symm
          exact hk
        · replace h := of_neg h h7
          refine jWP.intro (pr := pX0_falseOf) (pc := 61) ?_
          refine y_mask <| x_iload rfl <| x_istore rfl <| x_iload rfl <| y_invS1 (Nat.le_of_ble_eq_true rfl) <| jEv.exI (kJ6_bitCount_0f7a4 _ _ _ _ _) <| x_istore rfl <| y_mask <| y_goto ?_
          refine jWP.intro (pr := pX0_falseOf) (pc := 72) ?_
          refine y_mask <| x_iinc rfl rfl <| y_mask <| y_goto ?_
          refine jWP.intro (pr := pX0_falseOf) (pc := 23) ?_
          have hk := k1 _ (Option.some.inj h).symm
          exact hk
set_option maxRecDepth 20000 in
theorem tfX0_falseOf (d n : Nat) (A : Nat → Nat → Int32) (L : Nat → Nat → Int64) (l1 : Int32) (l2 : Int32) {Q : Option Value → jM → Prop} {z : (Int32 × (Nat → Nat → Int32))} (h : fX0_falseOf A l1 l2 = some z) (k3 : Q (some (.int z.1)) (Sh0 n, z.2, L)) : pX0_falseOf (jEv jtab (d + 2), jWP (jEv jtab (d + 2)) Q ((Sh0 n).length, jsl (Sh0 n)) pX0_falseOf, Q, ((Sh0 n).length, jsl (Sh0 n))) 0 [some (.ref 64), some (.int l1), some (.int l2), none, none, none, none] [] (Sh0 n, A, L) := by
  unfold fX0_falseOf at h
  obtain ⟨r1, hc2, h⟩ := of_bind h
  obtain ⟨r3, hc4, h⟩ := of_bind h
  refine y_mask <| x_aload rfl <| x_iload rfl <| y_invV1 (Nat.le_of_ble_eq_true rfl) rfl (Nat.le_of_ble_eq_true rfl) <| jEv.exV (kX0_findClashes _ _ _ _ _ hc2) <| x_aload rfl <| x_iload rfl <| y_invV1 (Nat.le_of_ble_eq_true rfl) rfl (Nat.le_of_ble_eq_true rfl) <| jEv.exI (kX0_reportsOf _ _ _ _ _ hc4) <| x_istore rfl <| x_iload rfl <| x_istore rfl <| x_iload rfl <| y_invS1 (Nat.le_of_ble_eq_true rfl) <| jEv.exI (kJ6_bitCount_0f7a4 _ _ _ _ _) <| x_istore rfl <| x_push <| x_istore rfl <| y_mask <| y_goto ?_
  obtain ⟨e5, hw6, h⟩ := of_bind h
  refine jWP.intro (pr := pX0_falseOf) (pc := 23) ?_
  refine jwh_use (G := (fun s0 => pX0_falseOf (jEv jtab (d + 2), jWP (jEv jtab (d + 2)) Q ((Sh0 n).length, jsl (Sh0 n)) pX0_falseOf, Q, ((Sh0 n).length, jsl (Sh0 n))) 23 [some (.ref 64), none, none, some (.int r3), some (.int s0.1), some (.int s0.2.1), some (.int s0.2.2)] [] (Sh0 n, r1, L))) (Gx := (fun s0 => pX0_falseOf (jEv jtab (d + 2), jWP (jEv jtab (d + 2)) Q ((Sh0 n).length, jsl (Sh0 n)) pX0_falseOf, Q, ((Sh0 n).length, jsl (Sh0 n))) 78 [none, none, none, none, some (.int s0), none, none] [] (Sh0 n, r1, L))) (fun s1 z1 hz kk1 kk2 => tcX0_falseOf_23 d n r1 L r3 s1 hz kk1 kk2) hw6 ?_
  refine y_mask <| x_iload rfl <| y_ireturn (ls := [none, none, none, none, some (.int e5), none, none]) ?_
  obtain rfl := Option.some.inj h
  exact k3
theorem kX0_falseOf (d n : Nat) (A : Nat → Nat → Int32) (L : Nat → Nat → Int64) (l1 : Int32) (l2 : Int32) {z : (Int32 × (Nat → Nat → Int32))} (h : fX0_falseOf A l1 l2 = some z) : jEv jtab (d + 3) 8 [.ref 64, .int l1, .int l2] (Sh0 n, A, L) 0 0 (fun r M2 => r = some (.int z.1) ∧ M2 = (Sh0 n, z.2, L)) :=
  jEv.mk (mt := mX0_falseOf) rfl (Nat.le_of_ble_eq_true rfl) (jWP.intro (pr := pX0_falseOf) (pc := 0) (tfX0_falseOf d n A L l1 l2 h ⟨trivial, jCn.mk ⟨rfl, rfl⟩⟩))
set_option maxRecDepth 20000 in
theorem tfX10_falseOnes (d n : Nat) (A : Nat → Nat → Int32) (L : Nat → Nat → Int64) (l1 : Int32) (l2 : Int32) {Q : Option Value → jM → Prop} {z : (Int32 × (Nat → Nat → Int32))} (h : fX10_falseOnes A l1 l2 = some z) (k3 : Q (some (.int z.1)) (Sh0 n, z.2, L)) : pX10_falseOnes (jEv jtab (d + 3), jWP (jEv jtab (d + 3)) Q ((Sh0 n).length, jsl (Sh0 n)) pX10_falseOnes, Q, ((Sh0 n).length, jsl (Sh0 n))) 0 [some (.ref 15), some (.int l1), some (.int l2)] [] (Sh0 n, A, L) := by
  unfold fX10_falseOnes at h
  refine y_mask <| x_iload rfl <| y_invS1 (Nat.le_of_ble_eq_true rfl) <| jEv.exZ (q := 153) rfl (kX10_isShip _ _ _ _ _) <| fun hz1 => y_if_ne (fun h2 => ?_) (fun h2 => ?_)
  · replace h := of_neg h h2
    refine jWP.intro (pr := pX10_falseOnes) (pc := 10) ?_
    refine y_mask <| x_iload rfl <| y_invS1 (Nat.le_of_ble_eq_true rfl) <| jEv.exZ (q := 155) rfl (kX10_isSpeed _ _ _ _ _) <| fun hz3 => y_if_eq (fun h4 => ?_) (fun h4 => ?_)
    · replace h := of_pos h h4
      refine jWP.intro (pr := pX10_falseOnes) (pc := 29) ?_
      refine y_mask <| x_push <| y_mask <| y_goto ?_
      refine jWP.intro (pr := pX10_falseOnes) (pc := 31) ?_
      refine y_mri (bs := []) (ls := []) ?_
      obtain rfl := Option.some.inj h
      exact k3
    · replace h := of_neg h h4
      refine jWP.intro (pr := pX10_falseOnes) (pc := 17) ?_
      obtain ⟨r5, hc6, h⟩ := of_bind h
      refine y_mask <| x_aload rfl <| x_getR (Nat.le_of_ble_eq_true rfl) rfl rfl <| x_iload rfl <| x_iload rfl <| y_invV2 (Nat.le_of_ble_eq_true rfl) rfl (Nat.le_of_ble_eq_true rfl) <| jEv.exI (kX0_falseOf _ _ _ _ _ _ hc6) <| y_mask <| y_goto ?_
      refine jWP.intro (pr := pX10_falseOnes) (pc := 31) ?_
      refine y_mri (bs := []) (ls := []) ?_
      obtain rfl := Option.some.inj h
      exact k3
  · replace h := of_pos h h2
    refine jWP.intro (pr := pX10_falseOnes) (pc := 7) ?_
    refine y_mpri (bs := []) (ls := []) ?_
    obtain rfl := Option.some.inj h
    exact k3
theorem kX10_falseOnes (d n : Nat) (A : Nat → Nat → Int32) (L : Nat → Nat → Int64) (l1 : Int32) (l2 : Int32) {z : (Int32 × (Nat → Nat → Int32))} (h : fX10_falseOnes A l1 l2 = some z) : jEv jtab (d + 4) 136 [.ref 15, .int l1, .int l2] (Sh0 n, A, L) 0 0 (fun r M2 => r = some (.int z.1) ∧ M2 = (Sh0 n, z.2, L)) :=
  jEv.mk (mt := mX10_falseOnes) rfl (Nat.le_of_ble_eq_true rfl) (jWP.intro (pr := pX10_falseOnes) (pc := 0) (tfX10_falseOnes d n A L l1 l2 h ⟨trivial, jCn.mk ⟨rfl, rfl⟩⟩))
set_option maxRecDepth 20000 in
theorem tfX0_trueOf (d n : Nat) (A : Nat → Nat → Int32) (L : Nat → Nat → Int64) (l1 : Int32) (l2 : Int32) {Q : Option Value → jM → Prop} {z : (Int32 × (Nat → Nat → Int32))} (h : fX0_trueOf A l1 l2 = some z) (k3 : Q (some (.int z.1)) (Sh0 n, z.2, L)) : pX0_trueOf (jEv jtab (d + 3), jWP (jEv jtab (d + 3)) Q ((Sh0 n).length, jsl (Sh0 n)) pX0_trueOf, Q, ((Sh0 n).length, jsl (Sh0 n))) 0 [some (.ref 64), some (.int l1), some (.int l2)] [] (Sh0 n, A, L) := by
  unfold fX0_trueOf at h
  obtain ⟨r1, hc2, h⟩ := of_bind h
  obtain ⟨r3, hc4, h⟩ := of_bind h
  refine y_mask <| x_aload rfl <| x_iload rfl <| y_invV1 (Nat.le_of_ble_eq_true rfl) rfl (Nat.le_of_ble_eq_true rfl) <| jEv.exI (kX0_reportsOf _ _ _ _ _ hc2) <| x_aload rfl <| x_iload rfl <| x_iload rfl <| y_invV2 (Nat.le_of_ble_eq_true rfl) rfl (Nat.le_of_ble_eq_true rfl) <| jEv.exI (kX0_falseOf _ _ _ _ _ _ hc4) <| x_push <| x_ixor <| x_iand <| y_ireturn (ls := [some (.ref 64), some (.int l1), some (.int l2)]) ?_
  obtain rfl := Option.some.inj h
  exact k3
theorem kX0_trueOf (d n : Nat) (A : Nat → Nat → Int32) (L : Nat → Nat → Int64) (l1 : Int32) (l2 : Int32) {z : (Int32 × (Nat → Nat → Int32))} (h : fX0_trueOf A l1 l2 = some z) : jEv jtab (d + 4) 11 [.ref 64, .int l1, .int l2] (Sh0 n, A, L) 0 0 (fun r M2 => r = some (.int z.1) ∧ M2 = (Sh0 n, z.2, L)) :=
  jEv.mk (mt := mX0_trueOf) rfl (Nat.le_of_ble_eq_true rfl) (jWP.intro (pr := pX0_trueOf) (pc := 0) (tfX0_trueOf d n A L l1 l2 h ⟨trivial, jCn.mk ⟨rfl, rfl⟩⟩))
set_option maxRecDepth 20000 in
theorem tcX0_mayBe_3 (d n : Nat) (A : Nat → Nat → Int32) (L : Nat → Nat → Int64) (l1 : Int32) (l2 : Int32) (l3 : Int32) (l4 : Int32) (s : Int32) {Q : Option Value → jM → Prop} {z : (Int32 ⊕ (Unit ⊕ Int32))} (h : cX0_mayBe_3 A l1 l2 l3 l4 s = some z) (k1 : ∀ s0, z = .inl s0 → pX0_mayBe (jEv jtab (d + 0), jWP (jEv jtab (d + 0)) Q ((Sh0 n).length, jsl (Sh0 n)) pX0_mayBe, Q, ((Sh0 n).length, jsl (Sh0 n))) 3 [some (.ref 64), some (.int l1), some (.int l2), some (.int l3), some (.int l4), some (.int s0)] [] (Sh0 n, A, L)) (k2 : ∀ s0, z = .inr (.inl s0) → pX0_mayBe (jEv jtab (d + 0), jWP (jEv jtab (d + 0)) Q ((Sh0 n).length, jsl (Sh0 n)) pX0_mayBe, Q, ((Sh0 n).length, jsl (Sh0 n))) 59 [none, none, none, none, none, none] [] (Sh0 n, A, L)) (k3 : ∀ s0, z = .inr (.inr s0) → (narrow .boolean (.int s0) = .int s0) → Q (some (.int s0)) (Sh0 n, A, L)) : pX0_mayBe (jEv jtab (d + 0), jWP (jEv jtab (d + 0)) Q ((Sh0 n).length, jsl (Sh0 n)) pX0_mayBe, Q, ((Sh0 n).length, jsl (Sh0 n))) 3 [some (.ref 64), some (.int l1), some (.int l2), some (.int l3), some (.int l4), some (.int s)] [] (Sh0 n, A, L) := by
  unfold cX0_mayBe_3 at h
  refine y_mask <| x_iload rfl <| x_aload rfl <| x_getI (Nat.le_of_ble_eq_true rfl) rfl rfl <| y_cmp_ge (fun h1 => ?_) (fun h1 => ?_)
  · replace h := of_pos h h1
    refine jWP.intro (pr := pX0_mayBe) (pc := 59) ?_
    have hk := k2 _ (Option.some.inj h).symm
    exact hk
  · replace h := of_neg h h1
    refine jWP.intro (pr := pX0_mayBe) (pc := 12) ?_
    refine y_mask <| x_iload rfl <| x_iload rfl <| x_ishr <| x_push <| x_iand <| y_if_eq (fun h2 => ?_) (fun h2 => ?_)
    · replace h := of_pos h h2
      refine jWP.intro (pr := pX0_mayBe) (pc := 53) ?_
      refine y_mask <| x_iinc rfl rfl <| y_mask <| y_goto ?_
      refine jWP.intro (pr := pX0_mayBe) (pc := 3) ?_
      have hk := k1 _ (Option.some.inj h).symm
      exact hk
    · replace h := of_neg h h2
      refine jWP.intro (pr := pX0_mayBe) (pc := 21) ?_
      obtain ⟨g3, h⟩ := of_guard h
      obtain ⟨g4, h⟩ := of_guard h
      refine y_mask <| x_aload rfl <| x_getR (Nat.le_of_ble_eq_true rfl) rfl rfl <| x_iload rfl <| x_iald rfl g3 <| x_iload rfl <| x_isub <| y_mabs (Nat.le_of_ble_eq_true rfl) <| x_iload rfl <| x_aload rfl <| x_getR (Nat.le_of_ble_eq_true rfl) rfl rfl <| x_iload rfl <| x_iald rfl g4 <| x_iload rfl <| x_isub <| y_mabs (Nat.le_of_ble_eq_true rfl) <| x_imul <| y_cmp_le (fun h5 => ?_) (fun h5 => ?_)
      · replace h := of_pos h h5
        refine jWP.intro (pr := pX0_mayBe) (pc := 53) ?_
        refine y_mask <| x_iinc rfl rfl <| y_mask <| y_goto ?_
        refine jWP.intro (pr := pX0_mayBe) (pc := 3) ?_
        have hk := k1 _ (Option.some.inj h).symm
        exact hk
      · replace h := of_neg h h5
        refine jWP.intro (pr := pX0_mayBe) (pc := 51) ?_
        refine y_mpri (bs := []) (ls := []) ?_
        have hk := k3 _ (Option.some.inj h).symm
        exact hk (jnar_boolean (.inl rfl))
set_option maxRecDepth 20000 in
theorem tfX0_mayBe (d n : Nat) (A : Nat → Nat → Int32) (L : Nat → Nat → Int64) (l1 : Int32) (l2 : Int32) (l3 : Int32) (l4 : Int32) {Q : Option Value → jM → Prop} {z : Int32} (h : fX0_mayBe A l1 l2 l3 l4 = some z) (k3 : (narrow .boolean (.int z) = .int z) → Q (some (.int z)) (Sh0 n, A, L)) : pX0_mayBe (jEv jtab (d + 0), jWP (jEv jtab (d + 0)) Q ((Sh0 n).length, jsl (Sh0 n)) pX0_mayBe, Q, ((Sh0 n).length, jsl (Sh0 n))) 0 [some (.ref 64), some (.int l1), some (.int l2), some (.int l3), some (.int l4), none] [] (Sh0 n, A, L) := by
  unfold fX0_mayBe at h
  refine y_mask <| x_push <| x_istore rfl <| y_mask <| y_goto ?_
  obtain ⟨e1y, hw2, h⟩ := of_bind h
  refine jWP.intro (pr := pX0_mayBe) (pc := 3) ?_
  refine jwh_use2 (G := (fun s0 => pX0_mayBe (jEv jtab (d + 0), jWP (jEv jtab (d + 0)) Q ((Sh0 n).length, jsl (Sh0 n)) pX0_mayBe, Q, ((Sh0 n).length, jsl (Sh0 n))) 3 [some (.ref 64), some (.int l1), some (.int l2), some (.int l3), some (.int l4), some (.int s0)] [] (Sh0 n, A, L))) (Gx := (fun s0 => pX0_mayBe (jEv jtab (d + 0), jWP (jEv jtab (d + 0)) Q ((Sh0 n).length, jsl (Sh0 n)) pX0_mayBe, Q, ((Sh0 n).length, jsl (Sh0 n))) 59 [none, none, none, none, none, none] [] (Sh0 n, A, L))) (Gr := (fun s0 => (narrow .boolean (.int s0) = .int s0) → Q (some (.int s0)) (Sh0 n, A, L))) (fun s1 z1 hz kk1 kk2 kk3 => tcX0_mayBe_3 d n A L l1 l2 l3 l4 s1 hz kk1 kk2 kk3) hw2 ?_ ?_
  · intro e1 hy
    subst hy
    replace h : (some (1 : Int32)) = some z := h
    refine y_mpri (bs := []) (ls := []) ?_
    obtain rfl := Option.some.inj h
    exact k3 (jnar_boolean (.inr rfl))
  · intro s0 hy
    subst hy
    replace h : some s0 = some z := h
    obtain rfl := Option.some.inj h
    exact k3
theorem kX0_mayBe (d n : Nat) (A : Nat → Nat → Int32) (L : Nat → Nat → Int64) (l1 : Int32) (l2 : Int32) (l3 : Int32) (l4 : Int32) {z : Int32} (h : fX0_mayBe A l1 l2 l3 l4 = some z) : jEv jtab (d + 1) 13 [.ref 64, .int l1, .int l2, .int l3, .int l4] (Sh0 n, A, L) 0 0 (fun r M2 => r = some (.int z) ∧ M2 = (Sh0 n, A, L)) :=
  jEv.mk (mt := mX0_mayBe) rfl (Nat.le_of_ble_eq_true rfl) (jWP.intro (pr := pX0_mayBe) (pc := 0) (tfX0_mayBe d n A L l1 l2 l3 l4 h (fun hz => ⟨hz, jCn.mk ⟨rfl, rfl⟩⟩)))
set_option maxRecDepth 20000 in
theorem tcX0_cellsOf_14 (d n : Nat) (A : Nat → Nat → Int32) (L : Nat → Nat → Int64) (l2 : Int32) (l3 : Int32) (l4 : Int32) (s : (Int64 × Int32)) {Q : Option Value → jM → Prop} {z : ((Int64 × Int32) ⊕ Int64)} (h : cX0_cellsOf_14 A l2 l3 l4 s = some z) (k1 : ∀ s0, z = .inl s0 → pX0_cellsOf (jEv jtab (d + 4), jWP (jEv jtab (d + 4)) Q ((Sh0 n).length, jsl (Sh0 n)) pX0_cellsOf, Q, ((Sh0 n).length, jsl (Sh0 n))) 14 [some (.ref 64), none, some (.int l2), some (.int l3), some (.int l4), some (.long s0.1), none, some (.int s0.2)] [] (Sh0 n, A, L)) (k2 : ∀ s0, z = .inr s0 → pX0_cellsOf (jEv jtab (d + 4), jWP (jEv jtab (d + 4)) Q ((Sh0 n).length, jsl (Sh0 n)) pX0_cellsOf, Q, ((Sh0 n).length, jsl (Sh0 n))) 49 [none, none, none, none, none, some (.long s0), none, none] [] (Sh0 n, A, L)) : pX0_cellsOf (jEv jtab (d + 4), jWP (jEv jtab (d + 4)) Q ((Sh0 n).length, jsl (Sh0 n)) pX0_cellsOf, Q, ((Sh0 n).length, jsl (Sh0 n))) 14 [some (.ref 64), none, some (.int l2), some (.int l3), some (.int l4), some (.long s.1), none, some (.int s.2)] [] (Sh0 n, A, L) := by
  unfold cX0_cellsOf_14 at h
  refine y_mask <| x_iload rfl <| x_push <| y_cmp_gt (fun h1 => ?_) (fun h1 => ?_)
  · replace h := of_pos h h1
    refine jWP.intro (pr := pX0_cellsOf) (pc := 49) ?_
    have hk := k2 _ (Option.some.inj h).symm
    exact hk
  · replace h := of_neg h h1
    refine jWP.intro (pr := pX0_cellsOf) (pc := 21) ?_
    obtain ⟨r2, hc3, h⟩ := of_bind h
    refine y_mask <| x_aload rfl <| x_iload rfl <| x_iload rfl <| x_iload rfl <| x_iload rfl <| y_invV4 (Nat.le_of_ble_eq_true rfl) rfl (Nat.le_of_ble_eq_true rfl) <| jEv.exZ (q := 13) rfl (kX0_mayBe _ _ _ _ _ _ _ _ hc3) <| fun hz4 => y_if_eq (fun h5 => ?_) (fun h5 => ?_)
    · replace h := of_pos h h5
      refine jWP.intro (pr := pX0_cellsOf) (pc := 43) ?_
      refine y_mask <| x_iinc rfl rfl <| y_mask <| y_goto ?_
      refine jWP.intro (pr := pX0_cellsOf) (pc := 14) ?_
      have hk := k1 _ (Option.some.inj h).symm
      exact hk
    · replace h := of_neg h h5
      refine jWP.intro (pr := pX0_cellsOf) (pc := 34) ?_
      refine y_mask <| x_lload rfl <| x_push <| x_iload rfl <| x_lshl <| x_lor <| x_lstore rfl <| y_mask <| y_goto ?_
      refine jWP.intro (pr := pX0_cellsOf) (pc := 43) ?_
      refine y_mask <| x_iinc rfl rfl <| y_mask <| y_goto ?_
      refine jWP.intro (pr := pX0_cellsOf) (pc := 14) ?_
      have hk := k1 _ (Option.some.inj h).symm
      exact hk
set_option maxRecDepth 20000 in
theorem tfX0_cellsOf (d n : Nat) (A : Nat → Nat → Int32) (L : Nat → Nat → Int64) (l1 : Int32) (l2 : Int32) (l3 : Int32) {Q : Option Value → jM → Prop} {z : (Int64 × (Nat → Nat → Int32))} (h : fX0_cellsOf A l1 l2 l3 = some z) (k3 : Q (some (.long z.1)) (Sh0 n, z.2, L)) : pX0_cellsOf (jEv jtab (d + 4), jWP (jEv jtab (d + 4)) Q ((Sh0 n).length, jsl (Sh0 n)) pX0_cellsOf, Q, ((Sh0 n).length, jsl (Sh0 n))) 0 [some (.ref 64), some (.int l1), some (.int l2), some (.int l3), none, none, none, none] [] (Sh0 n, A, L) := by
  unfold fX0_cellsOf at h
  obtain ⟨r1, hc2, h⟩ := of_bind h
  refine y_mask <| x_aload rfl <| x_iload rfl <| x_iload rfl <| y_invV2 (Nat.le_of_ble_eq_true rfl) rfl (Nat.le_of_ble_eq_true rfl) <| jEv.exI (kX0_trueOf _ _ _ _ _ _ hc2) <| x_istore rfl <| x_push <| x_lstore rfl <| x_push <| x_istore rfl <| y_mask <| y_goto ?_
  obtain ⟨e3, hw4, h⟩ := of_bind h
  refine jWP.intro (pr := pX0_cellsOf) (pc := 14) ?_
  refine jwh_use (G := (fun s0 => pX0_cellsOf (jEv jtab (d + 4), jWP (jEv jtab (d + 4)) Q ((Sh0 n).length, jsl (Sh0 n)) pX0_cellsOf, Q, ((Sh0 n).length, jsl (Sh0 n))) 14 [some (.ref 64), none, some (.int l2), some (.int l3), some (.int r1.1), some (.long s0.1), none, some (.int s0.2)] [] (Sh0 n, r1.2, L))) (Gx := (fun s0 => pX0_cellsOf (jEv jtab (d + 4), jWP (jEv jtab (d + 4)) Q ((Sh0 n).length, jsl (Sh0 n)) pX0_cellsOf, Q, ((Sh0 n).length, jsl (Sh0 n))) 49 [none, none, none, none, none, some (.long s0), none, none] [] (Sh0 n, r1.2, L))) (fun s1 z1 hz kk1 kk2 => tcX0_cellsOf_14 d n r1.2 L l2 l3 r1.1 s1 hz kk1 kk2) hw4 ?_
  refine y_mask <| x_lload rfl <| y_lreturn (ls := [none, none, none, none, none, some (.long e3), none, none]) ?_
  obtain rfl := Option.some.inj h
  exact k3
theorem kX0_cellsOf (d n : Nat) (A : Nat → Nat → Int32) (L : Nat → Nat → Int64) (l1 : Int32) (l2 : Int32) (l3 : Int32) {z : (Int64 × (Nat → Nat → Int32))} (h : fX0_cellsOf A l1 l2 l3 = some z) : jEv jtab (d + 5) 12 [.ref 64, .int l1, .int l2, .int l3] (Sh0 n, A, L) 0 0 (fun r M2 => r = some (.long z.1) ∧ M2 = (Sh0 n, z.2, L)) :=
  jEv.mk (mt := mX0_cellsOf) rfl (Nat.le_of_ble_eq_true rfl) (jWP.intro (pr := pX0_cellsOf) (pc := 0) (tfX0_cellsOf d n A L l1 l2 l3 h ⟨trivial, jCn.mk ⟨rfl, rfl⟩⟩))
set_option maxRecDepth 20000 in
theorem tfX10_there (d n : Nat) (A : Nat → Nat → Int32) (L : Nat → Nat → Int64) (l1 : Int32) (l2 : Int32) (l3 : Int32) {Q : Option Value → jM → Prop} {z : (Int64 × (Nat → Nat → Int32))} (h : fX10_there A l1 l2 l3 = some z) (k3 : Q (some (.long z.1)) (Sh0 n, z.2, L)) : pX10_there (jEv jtab (d + 5), jWP (jEv jtab (d + 5)) Q ((Sh0 n).length, jsl (Sh0 n)) pX10_there, Q, ((Sh0 n).length, jsl (Sh0 n))) 0 [some (.ref 15), some (.int l1), some (.int l2), some (.int l3)] [] (Sh0 n, A, L) := by
  unfold fX10_there at h
  refine y_mask <| x_iload rfl <| y_invS1 (Nat.le_of_ble_eq_true rfl) <| jEv.exZ (q := 153) rfl (kX10_isShip _ _ _ _ _) <| fun hz1 => y_if_eq (fun h2 => ?_) (fun h2 => ?_)
  · replace h := of_pos h h2
    refine jWP.intro (pr := pX10_there) (pc := 21) ?_
    refine y_mprl (bs := []) (ls := []) ?_
    obtain rfl := Option.some.inj h
    exact k3
  · replace h := of_neg h h2
    refine jWP.intro (pr := pX10_there) (pc := 7) ?_
    refine y_mask <| x_iload rfl <| y_invS1 (Nat.le_of_ble_eq_true rfl) <| jEv.exZ (q := 155) rfl (kX10_isSpeed _ _ _ _ _) <| fun hz3 => y_if_eq (fun h4 => ?_) (fun h4 => ?_)
    · replace h := of_pos h h4
      refine jWP.intro (pr := pX10_there) (pc := 21) ?_
      refine y_mprl (bs := []) (ls := []) ?_
      obtain rfl := Option.some.inj h
      exact k3
    · replace h := of_neg h h4
      refine jWP.intro (pr := pX10_there) (pc := 14) ?_
      refine y_mask <| x_iload rfl <| y_invS1 (Nat.le_of_ble_eq_true rfl) <| jEv.exZ (q := 154) rfl (kX10_isDay _ _ _ _ _) <| fun hz5 => y_if_ne (fun h6 => ?_) (fun h6 => ?_)
      · replace h := of_neg h h6
        refine jWP.intro (pr := pX10_there) (pc := 25) ?_
        obtain ⟨r7, hc8, h⟩ := of_bind h
        refine y_mask <| x_aload rfl <| x_getR (Nat.le_of_ble_eq_true rfl) rfl rfl <| x_iload rfl <| x_iload rfl <| x_iload rfl <| y_invV3 (Nat.le_of_ble_eq_true rfl) rfl (Nat.le_of_ble_eq_true rfl) <| jEv.exL (kX0_cellsOf _ _ _ _ _ _ _ hc8) <| y_lreturn (ls := [some (.ref 15), some (.int l1), some (.int l2), some (.int l3)]) ?_
        obtain rfl := Option.some.inj h
        exact k3
      · replace h := of_pos h h6
        refine jWP.intro (pr := pX10_there) (pc := 21) ?_
        refine y_mprl (bs := []) (ls := []) ?_
        obtain rfl := Option.some.inj h
        exact k3
theorem kX10_there (d n : Nat) (A : Nat → Nat → Int32) (L : Nat → Nat → Int64) (l1 : Int32) (l2 : Int32) (l3 : Int32) {z : (Int64 × (Nat → Nat → Int32))} (h : fX10_there A l1 l2 l3 = some z) : jEv jtab (d + 6) 137 [.ref 15, .int l1, .int l2, .int l3] (Sh0 n, A, L) 0 0 (fun r M2 => r = some (.long z.1) ∧ M2 = (Sh0 n, z.2, L)) :=
  jEv.mk (mt := mX10_there) rfl (Nat.le_of_ble_eq_true rfl) (jWP.intro (pr := pX10_there) (pc := 0) (tfX10_there d n A L l1 l2 l3 h ⟨trivial, jCn.mk ⟨rfl, rfl⟩⟩))
set_option maxRecDepth 20000 in
theorem tcX0_latestTrue_13 (d n : Nat) (A : Nat → Nat → Int32) (L : Nat → Nat → Int64) (l3 : Int32) (s : (Int32 × Int32)) {Q : Option Value → jM → Prop} {z : ((Int32 × Int32) ⊕ Int32)} (h : cX0_latestTrue_13 A l3 s = some z) (k1 : ∀ s0, z = .inl s0 → pX0_latestTrue (jEv jtab (d + 4), jWP (jEv jtab (d + 4)) Q ((Sh0 n).length, jsl (Sh0 n)) pX0_latestTrue, Q, ((Sh0 n).length, jsl (Sh0 n))) 13 [some (.ref 64), none, none, some (.int l3), some (.int s0.1), some (.int s0.2)] [] (Sh0 n, A, L)) (k2 : ∀ s0, z = .inr s0 → pX0_latestTrue (jEv jtab (d + 4), jWP (jEv jtab (d + 4)) Q ((Sh0 n).length, jsl (Sh0 n)) pX0_latestTrue, Q, ((Sh0 n).length, jsl (Sh0 n))) 63 [none, none, none, none, some (.int s0), none] [] (Sh0 n, A, L)) : pX0_latestTrue (jEv jtab (d + 4), jWP (jEv jtab (d + 4)) Q ((Sh0 n).length, jsl (Sh0 n)) pX0_latestTrue, Q, ((Sh0 n).length, jsl (Sh0 n))) 13 [some (.ref 64), none, none, some (.int l3), some (.int s.1), some (.int s.2)] [] (Sh0 n, A, L) := by
  unfold cX0_latestTrue_13 at h
  refine y_mask <| x_iload rfl <| x_aload rfl <| x_getI (Nat.le_of_ble_eq_true rfl) rfl rfl <| y_cmp_ge (fun h1 => ?_) (fun h1 => ?_)
  · replace h := of_pos h h1
    refine jWP.intro (pr := pX0_latestTrue) (pc := 63) ?_
    have hk := k2 _ (Option.some.inj h).symm
    exact hk
  · replace h := of_neg h h1
    refine jWP.intro (pr := pX0_latestTrue) (pc := 22) ?_
    refine y_mask <| x_iload rfl <| x_iload rfl <| x_ishr <| x_push <| x_iand <| y_if_eq (fun h2 => ?_) (fun h2 => ?_)
    · replace h := of_pos h h2
      refine jWP.intro (pr := pX0_latestTrue) (pc := 57) ?_
      refine y_mask <| x_iinc rfl rfl <| y_mask <| y_goto ?_
      refine jWP.intro (pr := pX0_latestTrue) (pc := 13) ?_
      have hk := k1 _ (Option.some.inj h).symm
      exact hk
    · replace h := of_neg h h2
      refine jWP.intro (pr := pX0_latestTrue) (pc := 31) ?_
      refine y_mask <| x_iload rfl <| y_if_lt (fun h3 => ?_) (fun h3 => ?_)
      · replace h := of_pos h h3
        refine jWP.intro (pr := pX0_latestTrue) (pc := 53) ?_
        refine y_mask <| x_iload rfl <| x_istore rfl <| y_mask <| y_goto ?_
        refine jWP.intro (pr := pX0_latestTrue) (pc := 57) ?_
        refine y_mask <| x_iinc rfl rfl <| y_mask <| y_goto ?_
        refine jWP.intro (pr := pX0_latestTrue) (pc := 13) ?_
        have hk := k1 _ (Option.some.inj h).symm
        exact hk
      · replace h := of_neg h h3
        refine jWP.intro (pr := pX0_latestTrue) (pc := 36) ?_
        obtain ⟨g4, h⟩ := of_guard h
        obtain ⟨g5, h⟩ := of_guard h
        refine y_mask <| x_aload rfl <| x_getR (Nat.le_of_ble_eq_true rfl) rfl rfl <| x_iload rfl <| x_iald rfl g4 <| x_aload rfl <| x_getR (Nat.le_of_ble_eq_true rfl) rfl rfl <| x_iload rfl <| x_iald rfl g5 <| y_cmp_le (fun h6 => ?_) (fun h6 => ?_)
        · replace h := of_pos h h6
          refine jWP.intro (pr := pX0_latestTrue) (pc := 57) ?_
          refine y_mask <| x_iinc rfl rfl <| y_mask <| y_goto ?_
          refine jWP.intro (pr := pX0_latestTrue) (pc := 13) ?_
          have hk := k1 _ (Option.some.inj h).symm
          exact hk
        · replace h := of_neg h h6
          refine jWP.intro (pr := pX0_latestTrue) (pc := 53) ?_
          refine y_mask <| x_iload rfl <| x_istore rfl <| y_mask <| y_goto ?_
          refine jWP.intro (pr := pX0_latestTrue) (pc := 57) ?_
          refine y_mask <| x_iinc rfl rfl <| y_mask <| y_goto ?_
          refine jWP.intro (pr := pX0_latestTrue) (pc := 13) ?_
          have hk := k1 _ (Option.some.inj h).symm
          exact hk
set_option maxRecDepth 20000 in
theorem tfX0_latestTrue (d n : Nat) (A : Nat → Nat → Int32) (L : Nat → Nat → Int64) (l1 : Int32) (l2 : Int32) {Q : Option Value → jM → Prop} {z : (Int32 × (Nat → Nat → Int32))} (h : fX0_latestTrue A l1 l2 = some z) (k3 : Q (some (.int z.1)) (Sh0 n, z.2, L)) : pX0_latestTrue (jEv jtab (d + 4), jWP (jEv jtab (d + 4)) Q ((Sh0 n).length, jsl (Sh0 n)) pX0_latestTrue, Q, ((Sh0 n).length, jsl (Sh0 n))) 0 [some (.ref 64), some (.int l1), some (.int l2), none, none, none] [] (Sh0 n, A, L) := by
  unfold fX0_latestTrue at h
  obtain ⟨r1, hc2, h⟩ := of_bind h
  refine y_mask <| x_aload rfl <| x_iload rfl <| x_iload rfl <| y_invV2 (Nat.le_of_ble_eq_true rfl) rfl (Nat.le_of_ble_eq_true rfl) <| jEv.exI (kX0_trueOf _ _ _ _ _ _ hc2) <| x_istore rfl <| x_push <| x_istore rfl <| x_push <| x_istore rfl <| y_mask <| y_goto ?_
  obtain ⟨e3, hw4, h⟩ := of_bind h
  refine jWP.intro (pr := pX0_latestTrue) (pc := 13) ?_
  refine jwh_use (G := (fun s0 => pX0_latestTrue (jEv jtab (d + 4), jWP (jEv jtab (d + 4)) Q ((Sh0 n).length, jsl (Sh0 n)) pX0_latestTrue, Q, ((Sh0 n).length, jsl (Sh0 n))) 13 [some (.ref 64), none, none, some (.int r1.1), some (.int s0.1), some (.int s0.2)] [] (Sh0 n, r1.2, L))) (Gx := (fun s0 => pX0_latestTrue (jEv jtab (d + 4), jWP (jEv jtab (d + 4)) Q ((Sh0 n).length, jsl (Sh0 n)) pX0_latestTrue, Q, ((Sh0 n).length, jsl (Sh0 n))) 63 [none, none, none, none, some (.int s0), none] [] (Sh0 n, r1.2, L))) (fun s1 z1 hz kk1 kk2 => tcX0_latestTrue_13 d n r1.2 L r1.1 s1 hz kk1 kk2) hw4 ?_
  refine y_mask <| x_iload rfl <| y_ireturn (ls := [none, none, none, none, some (.int e3), none]) ?_
  obtain rfl := Option.some.inj h
  exact k3
theorem kX0_latestTrue (d n : Nat) (A : Nat → Nat → Int32) (L : Nat → Nat → Int64) (l1 : Int32) (l2 : Int32) {z : (Int32 × (Nat → Nat → Int32))} (h : fX0_latestTrue A l1 l2 = some z) : jEv jtab (d + 5) 14 [.ref 64, .int l1, .int l2] (Sh0 n, A, L) 0 0 (fun r M2 => r = some (.int z.1) ∧ M2 = (Sh0 n, z.2, L)) :=
  jEv.mk (mt := mX0_latestTrue) rfl (Nat.le_of_ble_eq_true rfl) (jWP.intro (pr := pX0_latestTrue) (pc := 0) (tfX0_latestTrue d n A L l1 l2 h ⟨trivial, jCn.mk ⟨rfl, rfl⟩⟩))
set_option maxRecDepth 20000 in
theorem tfX10_last (d n : Nat) (A : Nat → Nat → Int32) (L : Nat → Nat → Int64) (l1 : Int32) (l2 : Int32) (l3 : Int32) {Q : Option Value → jM → Prop} {z : (Int32 × (Nat → Nat → Int32))} (h : fX10_last A l1 l2 l3 = some z) (k3 : Q (some (.int z.1)) (Sh0 n, z.2, L)) : pX10_last (jEv jtab (d + 5), jWP (jEv jtab (d + 5)) Q ((Sh0 n).length, jsl (Sh0 n)) pX10_last, Q, ((Sh0 n).length, jsl (Sh0 n))) 0 [some (.ref 15), some (.int l1), some (.int l2), some (.int l3), none] [] (Sh0 n, A, L) := by
  unfold fX10_last at h
  refine y_mask <| x_iload rfl <| y_invS1 (Nat.le_of_ble_eq_true rfl) <| jEv.exZ (q := 153) rfl (kX10_isShip _ _ _ _ _) <| fun hz1 => y_if_ne (fun h2 => ?_) (fun h2 => ?_)
  · replace h := of_neg h h2
    refine jWP.intro (pr := pX10_last) (pc := 10) ?_
    refine y_mask <| x_iload rfl <| y_invS1 (Nat.le_of_ble_eq_true rfl) <| jEv.exZ (q := 155) rfl (kX10_isSpeed _ _ _ _ _) <| fun hz3 => y_if_eq (fun h4 => ?_) (fun h4 => ?_)
    · replace h := of_pos h h4
      refine jWP.intro (pr := pX10_last) (pc := 26) ?_
      refine y_mpri (bs := []) (ls := []) ?_
      obtain rfl := Option.some.inj h
      exact k3
    · replace h := of_neg h h4
      refine jWP.intro (pr := pX10_last) (pc := 17) ?_
      refine y_mask <| x_iload rfl <| x_push <| x_push <| y_invS3 (Nat.le_of_ble_eq_true rfl) <| jEv.exZ (q := 152) rfl (kX10_within _ _ _ _ _ _ _) <| fun hz5 => y_if_ne (fun h6 => ?_) (fun h6 => ?_)
      · replace h := of_neg h h6
        refine jWP.intro (pr := pX10_last) (pc := 29) ?_
        obtain ⟨r7, hc8, h⟩ := of_bind h
        refine y_mask <| x_aload rfl <| x_getR (Nat.le_of_ble_eq_true rfl) rfl rfl <| x_iload rfl <| x_iload rfl <| y_invV2 (Nat.le_of_ble_eq_true rfl) rfl (Nat.le_of_ble_eq_true rfl) <| jEv.exI (kX0_latestTrue _ _ _ _ _ _ hc8) <| x_istore rfl <| x_iload rfl <| y_if_ge (fun h9 => ?_) (fun h9 => ?_)
        · replace h := of_pos h h9
          refine jWP.intro (pr := pX10_last) (pc := 47) ?_
          refine y_mask <| x_iload rfl <| y_if_ne (fun h10 => ?_) (fun h10 => ?_)
          · replace h := of_neg h h10
            refine jWP.intro (pr := pX10_last) (pc := 64) ?_
            obtain ⟨g11, h⟩ := of_guard h
            refine y_mask <| x_aload rfl <| x_getR (Nat.le_of_ble_eq_true rfl) rfl rfl <| x_getR (Nat.le_of_ble_eq_true rfl) rfl rfl <| x_iload rfl <| x_iald rfl g11 <| y_mask <| y_goto ?_
            refine jWP.intro (pr := pX10_last) (pc := 74) ?_
            refine y_mri (bs := []) (ls := []) ?_
            obtain rfl := Option.some.inj h
            exact k3
          · replace h := of_pos h h10
            refine jWP.intro (pr := pX10_last) (pc := 51) ?_
            obtain ⟨g12, h⟩ := of_guard h
            refine y_mask <| x_aload rfl <| x_getR (Nat.le_of_ble_eq_true rfl) rfl rfl <| x_getR (Nat.le_of_ble_eq_true rfl) rfl rfl <| x_iload rfl <| x_iald rfl g12 <| y_mask <| y_goto ?_
            refine jWP.intro (pr := pX10_last) (pc := 74) ?_
            refine y_mri (bs := []) (ls := []) ?_
            obtain rfl := Option.some.inj h
            exact k3
        · replace h := of_neg h h9
          refine jWP.intro (pr := pX10_last) (pc := 45) ?_
          refine y_mpri (bs := []) (ls := []) ?_
          obtain rfl := Option.some.inj h
          exact k3
      · replace h := of_pos h h6
        refine jWP.intro (pr := pX10_last) (pc := 26) ?_
        refine y_mpri (bs := []) (ls := []) ?_
        obtain rfl := Option.some.inj h
        exact k3
  · replace h := of_pos h h2
    refine jWP.intro (pr := pX10_last) (pc := 7) ?_
    refine y_mpri (bs := []) (ls := []) ?_
    obtain rfl := Option.some.inj h
    exact k3
theorem kX10_last (d n : Nat) (A : Nat → Nat → Int32) (L : Nat → Nat → Int64) (l1 : Int32) (l2 : Int32) (l3 : Int32) {z : (Int32 × (Nat → Nat → Int32))} (h : fX10_last A l1 l2 l3 = some z) : jEv jtab (d + 6) 138 [.ref 15, .int l1, .int l2, .int l3] (Sh0 n, A, L) 0 0 (fun r M2 => r = some (.int z.1) ∧ M2 = (Sh0 n, z.2, L)) :=
  jEv.mk (mt := mX10_last) rfl (Nat.le_of_ble_eq_true rfl) (jWP.intro (pr := pX10_last) (pc := 0) (tfX10_last d n A L l1 l2 l3 h ⟨trivial, jCn.mk ⟨rfl, rfl⟩⟩))
set_option maxRecDepth 20000 in
theorem tfJ13_bitCount_95d88 (d n : Nat) (A : Nat → Nat → Int32) (L : Nat → Nat → Int64) (l0 : Int64) {Q : Option Value → jM → Prop} {z : Int32} (h : fJ13_bitCount_95d88 l0 = z) (k3 : Q (some (.int z)) (Sh0 n, A, L)) : pJ13_bitCount_95d88 (jEv jtab (d + 0), jWP (jEv jtab (d + 0)) Q ((Sh0 n).length, jsl (Sh0 n)) pJ13_bitCount_95d88, Q, ((Sh0 n).length, jsl (Sh0 n))) 0 [some (.long l0), none] [] (Sh0 n, A, L) := by
  unfold fJ13_bitCount_95d88 at h
  refine y_mask <| x_lload rfl <| x_lload rfl <| x_push <| x_lushr <| x_push <| x_land <| x_lsub <| x_lstore rfl <| x_lload rfl <| x_push <| x_land <| x_lload rfl <| x_push <| x_lushr <| x_push <| x_land <| x_ladd <| x_lstore rfl <| x_lload rfl <| x_lload rfl <| x_push <| x_lushr <| x_ladd <| x_push <| x_land <| x_lstore rfl <| x_lload rfl <| x_lload rfl <| x_push <| x_lushr <| x_ladd <| x_lstore rfl <| x_lload rfl <| x_lload rfl <| x_push <| x_lushr <| x_ladd <| x_lstore rfl <| x_lload rfl <| x_lload rfl <| y_mask <| y_goto ?_
  refine jWP.intro (pr := pJ13_bitCount_95d88) (pc := 50) ?_
  refine y_mask <| x_push <| x_lushr <| x_ladd <| x_lstore rfl <| x_lload rfl <| x_l2i <| x_push <| x_iand <| y_ireturn (ls := [some (.long ((((((((l0 - ((jlushr l0 (1 : Int32)) &&& (6148914691236517205 : Int64))) &&& (3689348814741910323 : Int64)) + ((jlushr (l0 - ((jlushr l0 (1 : Int32)) &&& (6148914691236517205 : Int64))) (2 : Int32)) &&& (3689348814741910323 : Int64))) + (jlushr (((l0 - ((jlushr l0 (1 : Int32)) &&& (6148914691236517205 : Int64))) &&& (3689348814741910323 : Int64)) + ((jlushr (l0 - ((jlushr l0 (1 : Int32)) &&& (6148914691236517205 : Int64))) (2 : Int32)) &&& (3689348814741910323 : Int64))) (4 : Int32))) &&& (1085102592571150095 : Int64)) + (jlushr (((((l0 - ((jlushr l0 (1 : Int32)) &&& (6148914691236517205 : Int64))) &&& (3689348814741910323 : Int64)) + ((jlushr (l0 - ((jlushr l0 (1 : Int32)) &&& (6148914691236517205 : Int64))) (2 : Int32)) &&& (3689348814741910323 : Int64))) + (jlushr (((l0 - ((jlushr l0 (1 : Int32)) &&& (6148914691236517205 : Int64))) &&& (3689348814741910323 : Int64)) + ((jlushr (l0 - ((jlushr l0 (1 : Int32)) &&& (6148914691236517205 : Int64))) (2 : Int32)) &&& (3689348814741910323 : Int64))) (4 : Int32))) &&& (1085102592571150095 : Int64)) (8 : Int32))) + (jlushr ((((((l0 - ((jlushr l0 (1 : Int32)) &&& (6148914691236517205 : Int64))) &&& (3689348814741910323 : Int64)) + ((jlushr (l0 - ((jlushr l0 (1 : Int32)) &&& (6148914691236517205 : Int64))) (2 : Int32)) &&& (3689348814741910323 : Int64))) + (jlushr (((l0 - ((jlushr l0 (1 : Int32)) &&& (6148914691236517205 : Int64))) &&& (3689348814741910323 : Int64)) + ((jlushr (l0 - ((jlushr l0 (1 : Int32)) &&& (6148914691236517205 : Int64))) (2 : Int32)) &&& (3689348814741910323 : Int64))) (4 : Int32))) &&& (1085102592571150095 : Int64)) + (jlushr (((((l0 - ((jlushr l0 (1 : Int32)) &&& (6148914691236517205 : Int64))) &&& (3689348814741910323 : Int64)) + ((jlushr (l0 - ((jlushr l0 (1 : Int32)) &&& (6148914691236517205 : Int64))) (2 : Int32)) &&& (3689348814741910323 : Int64))) + (jlushr (((l0 - ((jlushr l0 (1 : Int32)) &&& (6148914691236517205 : Int64))) &&& (3689348814741910323 : Int64)) + ((jlushr (l0 - ((jlushr l0 (1 : Int32)) &&& (6148914691236517205 : Int64))) (2 : Int32)) &&& (3689348814741910323 : Int64))) (4 : Int32))) &&& (1085102592571150095 : Int64)) (8 : Int32))) (16 : Int32))) + (jlushr (((((((l0 - ((jlushr l0 (1 : Int32)) &&& (6148914691236517205 : Int64))) &&& (3689348814741910323 : Int64)) + ((jlushr (l0 - ((jlushr l0 (1 : Int32)) &&& (6148914691236517205 : Int64))) (2 : Int32)) &&& (3689348814741910323 : Int64))) + (jlushr (((l0 - ((jlushr l0 (1 : Int32)) &&& (6148914691236517205 : Int64))) &&& (3689348814741910323 : Int64)) + ((jlushr (l0 - ((jlushr l0 (1 : Int32)) &&& (6148914691236517205 : Int64))) (2 : Int32)) &&& (3689348814741910323 : Int64))) (4 : Int32))) &&& (1085102592571150095 : Int64)) + (jlushr (((((l0 - ((jlushr l0 (1 : Int32)) &&& (6148914691236517205 : Int64))) &&& (3689348814741910323 : Int64)) + ((jlushr (l0 - ((jlushr l0 (1 : Int32)) &&& (6148914691236517205 : Int64))) (2 : Int32)) &&& (3689348814741910323 : Int64))) + (jlushr (((l0 - ((jlushr l0 (1 : Int32)) &&& (6148914691236517205 : Int64))) &&& (3689348814741910323 : Int64)) + ((jlushr (l0 - ((jlushr l0 (1 : Int32)) &&& (6148914691236517205 : Int64))) (2 : Int32)) &&& (3689348814741910323 : Int64))) (4 : Int32))) &&& (1085102592571150095 : Int64)) (8 : Int32))) + (jlushr ((((((l0 - ((jlushr l0 (1 : Int32)) &&& (6148914691236517205 : Int64))) &&& (3689348814741910323 : Int64)) + ((jlushr (l0 - ((jlushr l0 (1 : Int32)) &&& (6148914691236517205 : Int64))) (2 : Int32)) &&& (3689348814741910323 : Int64))) + (jlushr (((l0 - ((jlushr l0 (1 : Int32)) &&& (6148914691236517205 : Int64))) &&& (3689348814741910323 : Int64)) + ((jlushr (l0 - ((jlushr l0 (1 : Int32)) &&& (6148914691236517205 : Int64))) (2 : Int32)) &&& (3689348814741910323 : Int64))) (4 : Int32))) &&& (1085102592571150095 : Int64)) + (jlushr (((((l0 - ((jlushr l0 (1 : Int32)) &&& (6148914691236517205 : Int64))) &&& (3689348814741910323 : Int64)) + ((jlushr (l0 - ((jlushr l0 (1 : Int32)) &&& (6148914691236517205 : Int64))) (2 : Int32)) &&& (3689348814741910323 : Int64))) + (jlushr (((l0 - ((jlushr l0 (1 : Int32)) &&& (6148914691236517205 : Int64))) &&& (3689348814741910323 : Int64)) + ((jlushr (l0 - ((jlushr l0 (1 : Int32)) &&& (6148914691236517205 : Int64))) (2 : Int32)) &&& (3689348814741910323 : Int64))) (4 : Int32))) &&& (1085102592571150095 : Int64)) (8 : Int32))) (16 : Int32))) (32 : Int32)))), none]) ?_
  subst h
  exact k3
theorem kJ13_bitCount_95d88 (d n : Nat) (A : Nat → Nat → Int32) (L : Nat → Nat → Int64) (l0 : Int64) : jEv jtab (d + 1) 274 [.long l0] (Sh0 n, A, L) 0 0 (fun r M2 => r = some (.int (fJ13_bitCount_95d88 l0)) ∧ M2 = (Sh0 n, A, L)) :=
  jEv.mk (mt := mJ13_bitCount_95d88) rfl (Nat.le_of_ble_eq_true rfl) (jWP.intro (pr := pJ13_bitCount_95d88) (pc := 0) (tfJ13_bitCount_95d88 d n A L l0 rfl ⟨trivial, jCn.mk ⟨rfl, rfl⟩⟩))
set_option maxRecDepth 20000 in
theorem tfX10_cellOdds (d n : Nat) (A : Nat → Nat → Int32) (L : Nat → Nat → Int64) (l1 : Int32) (l2 : Int32) (l3 : Int32) (l4 : Int64) (l6 : Int32) {Q : Option Value → jM → Prop} {z : (Int64 × (Nat → Nat → Int32))} (h : fX10_cellOdds A l1 l2 l3 l4 l6 = some z) (k3 : Q (some (.long z.1)) (Sh0 n, z.2, L)) : pX10_cellOdds (jEv jtab (d + 5), jWP (jEv jtab (d + 5)) Q ((Sh0 n).length, jsl (Sh0 n)) pX10_cellOdds, Q, ((Sh0 n).length, jsl (Sh0 n))) 0 [some (.ref 15), some (.int l1), some (.int l2), some (.int l3), some (.long l4), none, some (.int l6), none, none, none, none] [] (Sh0 n, A, L) := by
  unfold fX10_cellOdds at h
  refine y_mask <| x_iload rfl <| x_push <| x_idiv (by decide) <| x_istore rfl <| x_iload rfl <| x_push <| x_irem (by decide) <| x_istore rfl <| x_iload rfl <| y_invS1 (Nat.le_of_ble_eq_true rfl) <| jEv.exZ (q := 153) rfl (kX10_isShip _ _ _ _ _) <| fun hz1 => y_if_eq (fun h2 => ?_) (fun h2 => ?_)
  · replace h := of_pos h h2
    refine jWP.intro (pr := pX10_cellOdds) (pc := 41) ?_
    refine y_mprl (bs := []) (ls := []) ?_
    obtain rfl := Option.some.inj h
    exact k3
  · replace h := of_neg h h2
    refine jWP.intro (pr := pX10_cellOdds) (pc := 21) ?_
    refine y_mask <| x_iload rfl <| y_if_lt (fun h3 => ?_) (fun h3 => ?_)
    · replace h := of_pos h h3
      refine jWP.intro (pr := pX10_cellOdds) (pc := 41) ?_
      refine y_mprl (bs := []) (ls := []) ?_
      obtain rfl := Option.some.inj h
      exact k3
    · replace h := of_neg h h3
      refine jWP.intro (pr := pX10_cellOdds) (pc := 25) ?_
      refine y_mask <| x_iload rfl <| y_invS1 (Nat.le_of_ble_eq_true rfl) <| jEv.exZ (q := 155) rfl (kX10_isSpeed _ _ _ _ _) <| fun hz4 => y_if_eq (fun h5 => ?_) (fun h5 => ?_)
      · replace h := of_pos h h5
        refine jWP.intro (pr := pX10_cellOdds) (pc := 41) ?_
        refine y_mprl (bs := []) (ls := []) ?_
        obtain rfl := Option.some.inj h
        exact k3
      · replace h := of_neg h h5
        refine jWP.intro (pr := pX10_cellOdds) (pc := 33) ?_
        refine y_mask <| x_iload rfl <| y_invS1 (Nat.le_of_ble_eq_true rfl) <| jEv.exZ (q := 154) rfl (kX10_isDay _ _ _ _ _) <| fun hz6 => y_if_ne (fun h7 => ?_) (fun h7 => ?_)
        · replace h := of_neg h h7
          refine jWP.intro (pr := pX10_cellOdds) (pc := 45) ?_
          refine y_mask <| x_iload rfl <| x_push <| x_push <| y_invS3 (Nat.le_of_ble_eq_true rfl) <| jEv.exZ (q := 152) rfl (kX10_within _ _ _ _ _ _ _) <| fun hz8 => y_if_eq (fun h9 => ?_) (fun h9 => ?_)
          · replace h := of_pos h h9
            refine jWP.intro (pr := pX10_cellOdds) (pc := 65) ?_
            refine y_mprl (bs := []) (ls := []) ?_
            obtain rfl := Option.some.inj h
            exact k3
          · replace h := of_neg h h9
            refine jWP.intro (pr := pX10_cellOdds) (pc := 55) ?_
            refine y_mask <| x_iload rfl <| x_push <| x_push <| y_invS3 (Nat.le_of_ble_eq_true rfl) <| jEv.exZ (q := 152) rfl (kX10_within _ _ _ _ _ _ _) <| fun hz10 => y_if_ne (fun h11 => ?_) (fun h11 => ?_)
            · replace h := of_neg h h11
              refine jWP.intro (pr := pX10_cellOdds) (pc := 69) ?_
              obtain ⟨r12, hc13, h⟩ := of_bind h
              obtain ⟨r14, hc15, h⟩ := of_bind h
              refine y_mask <| x_aload rfl <| x_getR (Nat.le_of_ble_eq_true rfl) rfl rfl <| x_iload rfl <| x_iload rfl <| x_iload rfl <| y_invV3 (Nat.le_of_ble_eq_true rfl) rfl (Nat.le_of_ble_eq_true rfl) <| jEv.exL (kX0_cellsOf _ _ _ _ _ _ _ hc13) <| x_lload rfl <| x_push <| x_lxor <| x_land <| x_lstore rfl <| x_lload rfl <| x_iload rfl <| x_lushr <| x_push <| x_land <| x_lload rfl <| y_invS1 (Nat.le_of_ble_eq_true rfl) <| jEv.exI (kJ13_bitCount_95d88 _ _ _ _ _) <| x_i2l <| x_iload rfl <| y_invS3 (Nat.le_of_ble_eq_true rfl) <| jEv.exL (kX10_lowest _ _ _ _ _ _ _ hc15) <| y_lreturn (ls := [some (.ref 15), some (.int l1), none, some (.int l3), some (.long l4), none, some (.int l6), some (.int (l2 / (1000 : Int32))), some (.int (jrem l2 (1000 : Int32))), some (.long (r12.1 &&& (l4 ^^^ (-1 : Int64)))), none]) ?_
              obtain rfl := Option.some.inj h
              exact k3
            · replace h := of_pos h h11
              refine jWP.intro (pr := pX10_cellOdds) (pc := 65) ?_
              refine y_mprl (bs := []) (ls := []) ?_
              obtain rfl := Option.some.inj h
              exact k3
        · replace h := of_pos h h7
          refine jWP.intro (pr := pX10_cellOdds) (pc := 41) ?_
          refine y_mprl (bs := []) (ls := []) ?_
          obtain rfl := Option.some.inj h
          exact k3
theorem kX10_cellOdds (d n : Nat) (A : Nat → Nat → Int32) (L : Nat → Nat → Int64) (l1 : Int32) (l2 : Int32) (l3 : Int32) (l4 : Int64) (l6 : Int32) {z : (Int64 × (Nat → Nat → Int32))} (h : fX10_cellOdds A l1 l2 l3 l4 l6 = some z) : jEv jtab (d + 6) 139 [.ref 15, .int l1, .int l2, .int l3, .long l4, .int l6] (Sh0 n, A, L) 0 0 (fun r M2 => r = some (.long z.1) ∧ M2 = (Sh0 n, z.2, L)) :=
  jEv.mk (mt := mX10_cellOdds) rfl (Nat.le_of_ble_eq_true rfl) (jWP.intro (pr := pX10_cellOdds) (pc := 0) (tfX10_cellOdds d n A L l1 l2 l3 l4 l6 h ⟨trivial, jCn.mk ⟨rfl, rfl⟩⟩))
set_option maxRecDepth 20000 in
theorem tfX3_lastDay (d n : Nat) (A : Nat → Nat → Int32) (L : Nat → Nat → Int64) {Q : Option Value → jM → Prop} {z : Int32} (h : fX3_lastDay A = some z) (k3 : Q (some (.int z)) (Sh0 n, A, L)) : pX3_lastDay (jEv jtab (d + 0), jWP (jEv jtab (d + 0)) Q ((Sh0 n).length, jsl (Sh0 n)) pX3_lastDay, Q, ((Sh0 n).length, jsl (Sh0 n))) 0 [some (.ref 70)] [] (Sh0 n, A, L) := by
  unfold fX3_lastDay at h
  refine y_mask <| x_aload rfl <| x_getI (Nat.le_of_ble_eq_true rfl) rfl rfl <| y_if_le (fun h1 => ?_) (fun h1 => ?_)
  · replace h := of_pos h h1
    refine jWP.intro (pr := pX3_lastDay) (pc := 21) ?_
    refine y_mask <| x_push <| y_mask <| y_goto ?_
    refine jWP.intro (pr := pX3_lastDay) (pc := 22) ?_
    refine y_mri (bs := []) (ls := []) ?_
    obtain rfl := Option.some.inj h
    exact k3
  · replace h := of_neg h h1
    refine jWP.intro (pr := pX3_lastDay) (pc := 7) ?_
    obtain ⟨g2, h⟩ := of_guard h
    refine y_mask <| x_aload rfl <| x_getR (Nat.le_of_ble_eq_true rfl) rfl rfl <| x_aload rfl <| x_getI (Nat.le_of_ble_eq_true rfl) rfl rfl <| x_push <| x_isub <| x_iald rfl g2 <| y_mask <| y_goto ?_
    refine jWP.intro (pr := pX3_lastDay) (pc := 22) ?_
    refine y_mri (bs := []) (ls := []) ?_
    obtain rfl := Option.some.inj h
    exact k3
theorem kX3_lastDay (d n : Nat) (A : Nat → Nat → Int32) (L : Nat → Nat → Int64) {z : Int32} (h : fX3_lastDay A = some z) : jEv jtab (d + 1) 26 [.ref 70] (Sh0 n, A, L) 0 0 (fun r M2 => r = some (.int z) ∧ M2 = (Sh0 n, A, L)) :=
  jEv.mk (mt := mX3_lastDay) rfl (Nat.le_of_ble_eq_true rfl) (jWP.intro (pr := pX3_lastDay) (pc := 0) (tfX3_lastDay d n A L h ⟨trivial, jCn.mk ⟨rfl, rfl⟩⟩))
set_option maxRecDepth 20000 in
theorem tfX3_add (d n : Nat) (A : Nat → Nat → Int32) (L : Nat → Nat → Int64) (l1 : Int32) (l2 : Int32) (l3 : Int32) {Q : Option Value → jM → Prop} {z : (Int32 × (Nat → Nat → Int32))} (h : fX3_add A l1 l2 l3 = some z) (k3 : Q (some (.int z.1)) (Sh0 n, z.2, L)) : pX3_add (jEv jtab (d + 0), jWP (jEv jtab (d + 0)) Q ((Sh0 n).length, jsl (Sh0 n)) pX3_add, Q, ((Sh0 n).length, jsl (Sh0 n))) 0 [some (.ref 70), some (.int l1), some (.int l2), some (.int l3)] [] (Sh0 n, A, L) := by
  unfold fX3_add at h
  obtain ⟨g1, h⟩ := of_guard h
  obtain ⟨m2, hm3, h⟩ := of_bind h
  obtain ⟨g4, h⟩ := of_guard h
  obtain ⟨m5, hm6, h⟩ := of_bind h
  obtain ⟨g7, h⟩ := of_guard h
  obtain ⟨m8, hm9, h⟩ := of_bind h
  refine y_mask <| x_aload rfl <| x_getR (Nat.le_of_ble_eq_true rfl) rfl rfl <| x_aload rfl <| x_getI (Nat.le_of_ble_eq_true rfl) rfl rfl <| x_iload rfl <| x_iast (Nat.le_of_ble_eq_true rfl) rfl g1 <| y_let (Option.some.inj hm3) <| x_aload rfl <| x_getR (Nat.le_of_ble_eq_true rfl) rfl rfl <| x_aload rfl <| x_getI (Nat.le_of_ble_eq_true rfl) rfl rfl <| x_iload rfl <| x_iast (Nat.le_of_ble_eq_true rfl) rfl g4 <| y_let (Option.some.inj hm6) <| x_aload rfl <| x_getR (Nat.le_of_ble_eq_true rfl) rfl rfl <| x_aload rfl <| x_getI (Nat.le_of_ble_eq_true rfl) rfl rfl <| x_iload rfl <| x_iast (Nat.le_of_ble_eq_true rfl) rfl g7 <| y_let (Option.some.inj hm9) <| x_aload rfl <| x_dup rfl <| x_getI (Nat.le_of_ble_eq_true rfl) rfl rfl <| x_push <| x_iadd <| x_putI (Nat.le_of_ble_eq_true rfl) rfl rfl <| x_aload rfl <| x_getI (Nat.le_of_ble_eq_true rfl) rfl rfl <| x_push <| x_isub <| y_ireturn (ls := [some (.ref 70), some (.int l1), some (.int l2), some (.int l3)]) ?_
  obtain rfl := Option.some.inj h
  exact k3
theorem kX3_add (d n : Nat) (A : Nat → Nat → Int32) (L : Nat → Nat → Int64) (l1 : Int32) (l2 : Int32) (l3 : Int32) {z : (Int32 × (Nat → Nat → Int32))} (h : fX3_add A l1 l2 l3 = some z) : jEv jtab (d + 1) 25 [.ref 70, .int l1, .int l2, .int l3] (Sh0 n, A, L) 0 0 (fun r M2 => r = some (.int z.1) ∧ M2 = (Sh0 n, z.2, L)) :=
  jEv.mk (mt := mX3_add) rfl (Nat.le_of_ble_eq_true rfl) (jWP.intro (pr := pX3_add) (pc := 0) (tfX3_add d n A L l1 l2 l3 h ⟨trivial, jCn.mk ⟨rfl, rfl⟩⟩))
set_option maxRecDepth 20000 in
theorem tfX10_meet (d n : Nat) (A : Nat → Nat → Int32) (L : Nat → Nat → Int64) (l1 : Int32) (l2 : Int32) (l3 : Int32) {Q : Option Value → jM → Prop} {z : (Int32 × (Nat → Nat → Int32))} (h : fX10_meet A l1 l2 l3 = some z) (k3 : Q (some (.int z.1)) (Sh0 n, z.2, L)) : pX10_meet (jEv jtab (d + 2), jWP (jEv jtab (d + 2)) Q ((Sh0 n).length, jsl (Sh0 n)) pX10_meet, Q, ((Sh0 n).length, jsl (Sh0 n))) 0 [some (.ref 15), some (.int l1), some (.int l2), some (.int l3)] [] (Sh0 n, A, L) := by
  unfold fX10_meet at h
  refine y_mask <| x_iload rfl <| y_invS1 (Nat.le_of_ble_eq_true rfl) <| jEv.exZ (q := 154) rfl (kX10_isDay _ _ _ _ _) <| fun hz1 => y_if_eq (fun h2 => ?_) (fun h2 => ?_)
  · replace h := of_pos h h2
    refine jWP.intro (pr := pX10_meet) (pc := 26) ?_
    refine y_mpri (bs := []) (ls := []) ?_
    obtain rfl := Option.some.inj h
    exact k3
  · replace h := of_neg h h2
    refine jWP.intro (pr := pX10_meet) (pc := 7) ?_
    refine y_mask <| x_iload rfl <| y_invS1 (Nat.le_of_ble_eq_true rfl) <| jEv.exZ (q := 153) rfl (kX10_isShip _ _ _ _ _) <| fun hz3 => y_if_eq (fun h4 => ?_) (fun h4 => ?_)
    · replace h := of_pos h h4
      refine jWP.intro (pr := pX10_meet) (pc := 26) ?_
      refine y_mpri (bs := []) (ls := []) ?_
      obtain rfl := Option.some.inj h
      exact k3
    · replace h := of_neg h h4
      refine jWP.intro (pr := pX10_meet) (pc := 14) ?_
      refine y_mask <| x_iload rfl <| y_invS1 (Nat.le_of_ble_eq_true rfl) <| jEv.exZ (q := 153) rfl (kX10_isShip _ _ _ _ _) <| fun hz5 => y_if_eq (fun h6 => ?_) (fun h6 => ?_)
      · replace h := of_pos h h6
        refine jWP.intro (pr := pX10_meet) (pc := 26) ?_
        refine y_mpri (bs := []) (ls := []) ?_
        obtain rfl := Option.some.inj h
        exact k3
      · replace h := of_neg h h6
        refine jWP.intro (pr := pX10_meet) (pc := 21) ?_
        refine y_mask <| x_iload rfl <| x_iload rfl <| y_cmp_ne (fun h7 => ?_) (fun h7 => ?_)
        · replace h := of_neg h h7
          refine jWP.intro (pr := pX10_meet) (pc := 29) ?_
          obtain ⟨r8, hc9, h⟩ := of_bind h
          refine y_mask <| x_iload rfl <| x_aload rfl <| x_getR (Nat.le_of_ble_eq_true rfl) rfl rfl <| y_invV0 (Nat.le_of_ble_eq_true rfl) rfl (Nat.le_of_ble_eq_true rfl) <| jEv.exI (kX3_lastDay _ _ _ _ hc9) <| y_cmp_ge (fun h10 => ?_) (fun h10 => ?_)
          · replace h := of_pos h h10
            refine jWP.intro (pr := pX10_meet) (pc := 43) ?_
            refine y_mask <| x_aload rfl <| x_getR (Nat.le_of_ble_eq_true rfl) rfl rfl <| x_getI (Nat.le_of_ble_eq_true rfl) rfl rfl <| x_push <| y_cmp_lt (fun h11 => ?_) (fun h11 => ?_)
            · replace h := of_pos h h11
              refine jWP.intro (pr := pX10_meet) (pc := 60) ?_
              obtain ⟨r12, hc13, h⟩ := of_bind h
              refine y_mask <| x_aload rfl <| x_getR (Nat.le_of_ble_eq_true rfl) rfl rfl <| x_iload rfl <| x_iload rfl <| x_iload rfl <| y_invV3 (Nat.le_of_ble_eq_true rfl) rfl (Nat.le_of_ble_eq_true rfl) <| jEv.exI (kX3_add _ _ _ _ _ _ _ hc13) <| y_mask <| y_goto ?_
              refine jWP.intro (pr := pX10_meet) (pc := 70) ?_
              refine y_mri (bs := []) (ls := []) ?_
              obtain rfl := Option.some.inj h
              exact k3
            · replace h := of_neg h h11
              refine jWP.intro (pr := pX10_meet) (pc := 55) ?_
              refine y_mask <| x_push <| y_mask <| y_goto ?_
              refine jWP.intro (pr := pX10_meet) (pc := 70) ?_
              refine y_mri (bs := []) (ls := []) ?_
              obtain rfl := Option.some.inj h
              exact k3
          · replace h := of_neg h h10
            refine jWP.intro (pr := pX10_meet) (pc := 40) ?_
            refine y_mpri (bs := []) (ls := []) ?_
            obtain rfl := Option.some.inj h
            exact k3
        · replace h := of_pos h h7
          refine jWP.intro (pr := pX10_meet) (pc := 26) ?_
          refine y_mpri (bs := []) (ls := []) ?_
          obtain rfl := Option.some.inj h
          exact k3
theorem kX10_meet (d n : Nat) (A : Nat → Nat → Int32) (L : Nat → Nat → Int64) (l1 : Int32) (l2 : Int32) (l3 : Int32) {z : (Int32 × (Nat → Nat → Int32))} (h : fX10_meet A l1 l2 l3 = some z) : jEv jtab (d + 3) 140 [.ref 15, .int l1, .int l2, .int l3] (Sh0 n, A, L) 0 0 (fun r M2 => r = some (.int z.1) ∧ M2 = (Sh0 n, z.2, L)) :=
  jEv.mk (mt := mX10_meet) rfl (Nat.le_of_ble_eq_true rfl) (jWP.intro (pr := pX10_meet) (pc := 0) (tfX10_meet d n A L l1 l2 l3 h ⟨trivial, jCn.mk ⟨rfl, rfl⟩⟩))
set_option maxRecDepth 20000 in
theorem tjX3_spread_101_18 (d n : Nat) (A : Nat → Nat → Int32) (L : Nat → Nat → Int64) (l2 : Int32) (l3 : Int32) (l4 : Int32) (l5 : Int32) (l6 : Int32) {Q : Option Value → jM → Prop} {z : ((Int32 × (Nat → Nat → Int32)) ⊕ (Nat → Nat → Int32))} (h : jX3_spread_101_18 A l2 l3 l4 l5 l6 = some z) (k1 : ∀ s0, z = .inl s0 → pX3_spread (jEv jtab (d + 1), jWP (jEv jtab (d + 1)) Q ((Sh0 n).length, jsl (Sh0 n)) pX3_spread, Q, ((Sh0 n).length, jsl (Sh0 n))) 18 [some (.ref 70), none, some (.int l2), some (.int l3), some (.int s0.1), none, none] [] (Sh0 n, s0.2, L)) (k2 : ∀ s0, z = .inr s0 → pX3_spread (jEv jtab (d + 1), jWP (jEv jtab (d + 1)) Q ((Sh0 n).length, jsl (Sh0 n)) pX3_spread, Q, ((Sh0 n).length, jsl (Sh0 n))) 143 [none, none, none, none, none, none, none] [] (Sh0 n, s0, L)) : pX3_spread (jEv jtab (d + 1), jWP (jEv jtab (d + 1)) Q ((Sh0 n).length, jsl (Sh0 n)) pX3_spread, Q, ((Sh0 n).length, jsl (Sh0 n))) 101 [some (.ref 70), none, some (.int l2), some (.int l3), some (.int l4), some (.int l5), some (.int l6)] [] (Sh0 n, A, L) := by
  unfold jX3_spread_101_18 at h
  obtain ⟨g1, h⟩ := of_guard h
  refine y_mask <| x_aload rfl <| x_getR (Nat.le_of_ble_eq_true rfl) rfl rfl <| x_iload rfl <| x_iald rfl g1 <| x_push <| y_cmp_ne (fun h2 => ?_) (fun h2 => ?_)
  · replace h := of_neg h h2
    refine jWP.intro (pr := pX3_spread) (pc := 137) ?_
    refine y_mask <| x_iinc rfl rfl <| y_mask <| y_goto ?_
    refine jWP.intro (pr := pX3_spread) (pc := 18) ?_
    have hk := k1 _ (Option.some.inj h).symm
    exact hk
  · replace h := of_pos h h2
    refine jWP.intro (pr := pX3_spread) (pc := 112) ?_
    obtain ⟨g3, h⟩ := of_guard h
    refine y_mask <| x_aload rfl <| x_getR (Nat.le_of_ble_eq_true rfl) rfl rfl <| x_iload rfl <| x_iald rfl g3 <| x_push <| y_cmp_eq (fun h4 => ?_) (fun h4 => ?_)
    · replace h := of_pos h h4
      refine jWP.intro (pr := pX3_spread) (pc := 137) ?_
      refine y_mask <| x_iinc rfl rfl <| y_mask <| y_goto ?_
      refine jWP.intro (pr := pX3_spread) (pc := 18) ?_
      have hk := k1 _ (Option.some.inj h).symm
      exact hk
    · replace h := of_neg h h4
      refine jWP.intro (pr := pX3_spread) (pc := 123) ?_
      obtain ⟨g5, h⟩ := of_guard h
      obtain ⟨g6, h⟩ := of_guard h
      obtain ⟨m7, hm8, h⟩ := of_bind h
      refine y_mask <| x_aload rfl <| x_getR (Nat.le_of_ble_eq_true rfl) rfl rfl <| x_iload rfl <| x_aload rfl <| x_getR (Nat.le_of_ble_eq_true rfl) rfl rfl <| x_iload rfl <| x_iald rfl g5 <| x_iast (Nat.le_of_ble_eq_true rfl) rfl g6 <| y_let (Option.some.inj hm8) <| y_mask <| y_goto ?_
      refine jWP.intro (pr := pX3_spread) (pc := 137) ?_
      refine y_mask <| x_iinc rfl rfl <| y_mask <| y_goto ?_
      refine jWP.intro (pr := pX3_spread) (pc := 18) ?_
      have hk := k1 _ (Option.some.inj h).symm
      exact hk
set_option maxRecDepth 20000 in
theorem tcX3_spread_18 (d n : Nat) (A : Nat → Nat → Int32) (L : Nat → Nat → Int64) (l2 : Int32) (l3 : Int32) (s : (Int32 × (Nat → Nat → Int32))) {Q : Option Value → jM → Prop} {z : ((Int32 × (Nat → Nat → Int32)) ⊕ (Nat → Nat → Int32))} (h : cX3_spread_18 l2 l3 s = some z) (k1 : ∀ s0, z = .inl s0 → pX3_spread (jEv jtab (d + 1), jWP (jEv jtab (d + 1)) Q ((Sh0 n).length, jsl (Sh0 n)) pX3_spread, Q, ((Sh0 n).length, jsl (Sh0 n))) 18 [some (.ref 70), none, some (.int l2), some (.int l3), some (.int s0.1), none, none] [] (Sh0 n, s0.2, L)) (k2 : ∀ s0, z = .inr s0 → pX3_spread (jEv jtab (d + 1), jWP (jEv jtab (d + 1)) Q ((Sh0 n).length, jsl (Sh0 n)) pX3_spread, Q, ((Sh0 n).length, jsl (Sh0 n))) 143 [none, none, none, none, none, none, none] [] (Sh0 n, s0, L)) : pX3_spread (jEv jtab (d + 1), jWP (jEv jtab (d + 1)) Q ((Sh0 n).length, jsl (Sh0 n)) pX3_spread, Q, ((Sh0 n).length, jsl (Sh0 n))) 18 [some (.ref 70), none, some (.int l2), some (.int l3), some (.int s.1), none, none] [] (Sh0 n, s.2, L) := by
  unfold cX3_spread_18 at h
  refine y_mask <| x_iload rfl <| x_aload rfl <| x_getI (Nat.le_of_ble_eq_true rfl) rfl rfl <| y_cmp_ge (fun h1 => ?_) (fun h1 => ?_)
  · replace h := of_pos h h1
    refine jWP.intro (pr := pX3_spread) (pc := 143) ?_
    have hk := k2 _ (Option.some.inj h).symm
    exact hk
  · replace h := of_neg h h1
    refine jWP.intro (pr := pX3_spread) (pc := 27) ?_
    refine y_mask <| x_iload rfl <| x_iload rfl <| y_cmp_eq (fun h2 => ?_) (fun h2 => ?_)
    · replace h := of_pos h h2
      refine jWP.intro (pr := pX3_spread) (pc := 137) ?_
      refine y_mask <| x_iinc rfl rfl <| y_mask <| y_goto ?_
      refine jWP.intro (pr := pX3_spread) (pc := 18) ?_
      have hk := k1 _ (Option.some.inj h).symm
      exact hk
    · replace h := of_neg h h2
      refine jWP.intro (pr := pX3_spread) (pc := 33) ?_
      obtain ⟨g3, h⟩ := of_guard h
      refine y_mask <| x_aload rfl <| x_getR (Nat.le_of_ble_eq_true rfl) rfl rfl <| x_iload rfl <| x_iald rfl g3 <| x_iload rfl <| y_cmp_lt (fun h4 => ?_) (fun h4 => ?_)
      · replace h := of_pos h h4
        refine jWP.intro (pr := pX3_spread) (pc := 137) ?_
        refine y_mask <| x_iinc rfl rfl <| y_mask <| y_goto ?_
        refine jWP.intro (pr := pX3_spread) (pc := 18) ?_
        have hk := k1 _ (Option.some.inj h).symm
        exact hk
      · replace h := of_neg h h4
        refine jWP.intro (pr := pX3_spread) (pc := 44) ?_
        obtain ⟨g5, h⟩ := of_guard h
        obtain ⟨g6, h⟩ := of_guard h
        obtain ⟨g7, h⟩ := of_guard h
        refine y_mask <| x_aload rfl <| x_getR (Nat.le_of_ble_eq_true rfl) rfl rfl <| x_iload rfl <| x_iald rfl g5 <| x_istore rfl <| x_aload rfl <| x_getR (Nat.le_of_ble_eq_true rfl) rfl rfl <| x_iload rfl <| x_iald rfl g6 <| x_istore rfl <| x_aload rfl <| x_getR (Nat.le_of_ble_eq_true rfl) rfl rfl <| x_iload rfl <| x_iald rfl g7 <| x_push <| y_cmp_ne (fun h8 => ?_) (fun h8 => ?_)
        · replace h := of_neg h h8
          refine jWP.intro (pr := pX3_spread) (pc := 101) ?_
          exact tjX3_spread_101_18 d n s.2 L l2 l3 s.1 (s.2 72 (jx s.1)) (s.2 73 (jx s.1)) h k1 k2
        · replace h := of_pos h h8
          refine jWP.intro (pr := pX3_spread) (pc := 73) ?_
          obtain ⟨g9, h⟩ := of_guard h
          refine y_mask <| x_aload rfl <| x_getR (Nat.le_of_ble_eq_true rfl) rfl rfl <| x_iload rfl <| x_iald rfl g9 <| x_push <| y_cmp_eq (fun h10 => ?_) (fun h10 => ?_)
          · replace h := of_pos h h10
            refine jWP.intro (pr := pX3_spread) (pc := 101) ?_
            exact tjX3_spread_101_18 d n s.2 L l2 l3 s.1 (s.2 72 (jx s.1)) (s.2 73 (jx s.1)) h k1 k2
          · replace h := of_neg h h10
            refine jWP.intro (pr := pX3_spread) (pc := 84) ?_
            obtain ⟨g11, h⟩ := of_guard h
            obtain ⟨g12, h⟩ := of_guard h
            obtain ⟨m13, hm14, h⟩ := of_bind h
            refine y_mask <| x_aload rfl <| x_getR (Nat.le_of_ble_eq_true rfl) rfl rfl <| x_iload rfl <| x_aload rfl <| x_getR (Nat.le_of_ble_eq_true rfl) rfl rfl <| x_iload rfl <| x_iald rfl g11 <| x_iast (Nat.le_of_ble_eq_true rfl) rfl g12 <| y_let (Option.some.inj hm14) <| y_mask <| y_goto ?_
            refine jWP.intro (pr := pX3_spread) (pc := 137) ?_
            refine y_mask <| x_iinc rfl rfl <| y_mask <| y_goto ?_
            refine jWP.intro (pr := pX3_spread) (pc := 18) ?_
            have hk := k1 _ (Option.some.inj h).symm
            exact hk
set_option maxRecDepth 20000 in
theorem tfX3_spread (d n : Nat) (A : Nat → Nat → Int32) (L : Nat → Nat → Int64) (l1 : Int32) (l2 : Int32) (l3 : Int32) {Q : Option Value → jM → Prop} {z : (Nat → Nat → Int32)} (h : fX3_spread A l1 l2 l3 = some z) (k3 : Q (none) (Sh0 n, z, L)) : pX3_spread (jEv jtab (d + 1), jWP (jEv jtab (d + 1)) Q ((Sh0 n).length, jsl (Sh0 n)) pX3_spread, Q, ((Sh0 n).length, jsl (Sh0 n))) 0 [some (.ref 70), some (.int l1), some (.int l2), some (.int l3), none, none, none] [] (Sh0 n, A, L) := by
  unfold fX3_spread at h
  obtain ⟨r1, hc2, h⟩ := of_bind h
  obtain ⟨g3, h⟩ := of_guard h
  obtain ⟨m4, hm5, h⟩ := of_bind h
  refine y_mask <| x_aload rfl <| x_getR (Nat.le_of_ble_eq_true rfl) rfl rfl <| x_push <| y_invS2 (Nat.le_of_ble_eq_true rfl) <| jEv.exV (kJ7_fill_53178 _ _ _ _ 74 4 rfl (Nat.le_of_ble_eq_true rfl) _ hc2) <| x_aload rfl <| x_getR (Nat.le_of_ble_eq_true rfl) rfl rfl <| x_iload rfl <| x_iload rfl <| x_iast (Nat.le_of_ble_eq_true rfl) rfl g3 <| y_let (Option.some.inj hm5) <| x_push <| x_istore rfl <| y_mask <| y_goto ?_
  obtain ⟨e6, hw7, h⟩ := of_bind h
  refine jWP.intro (pr := pX3_spread) (pc := 18) ?_
  refine jwh_use (G := (fun s0 => pX3_spread (jEv jtab (d + 1), jWP (jEv jtab (d + 1)) Q ((Sh0 n).length, jsl (Sh0 n)) pX3_spread, Q, ((Sh0 n).length, jsl (Sh0 n))) 18 [some (.ref 70), none, some (.int l2), some (.int l3), some (.int s0.1), none, none] [] (Sh0 n, s0.2, L))) (Gx := (fun s0 => pX3_spread (jEv jtab (d + 1), jWP (jEv jtab (d + 1)) Q ((Sh0 n).length, jsl (Sh0 n)) pX3_spread, Q, ((Sh0 n).length, jsl (Sh0 n))) 143 [none, none, none, none, none, none, none] [] (Sh0 n, s0, L))) (fun s1 z1 hz kk1 kk2 => tcX3_spread_18 d n m4 L l2 l3 s1 hz kk1 kk2) hw7 ?_
  refine y_mrv (bs := []) (ls := []) ?_
  obtain rfl := Option.some.inj h
  exact k3
theorem kX3_spread (d n : Nat) (A : Nat → Nat → Int32) (L : Nat → Nat → Int64) (l1 : Int32) (l2 : Int32) (l3 : Int32) {z : (Nat → Nat → Int32)} (h : fX3_spread A l1 l2 l3 = some z) : jEv jtab (d + 2) 27 [.ref 70, .int l1, .int l2, .int l3] (Sh0 n, A, L) 0 0 (fun r M2 => r = none ∧ M2 = (Sh0 n, z, L)) :=
  jEv.mk (mt := mX3_spread) rfl (Nat.le_of_ble_eq_true rfl) (jWP.intro (pr := pX3_spread) (pc := 0) (tfX3_spread d n A L l1 l2 l3 h ⟨trivial, jCn.mk ⟨rfl, rfl⟩⟩))
set_option maxRecDepth 20000 in
theorem tfX3_knowsFrom (d n : Nat) (A : Nat → Nat → Int32) (L : Nat → Nat → Int64) (l1 : Int32) (l2 : Int32) (l3 : Int32) (l4 : Int32) {Q : Option Value → jM → Prop} {z : (Int32 × (Nat → Nat → Int32))} (h : fX3_knowsFrom A l1 l2 l3 l4 = some z) (k3 : Q (some (.int z.1)) (Sh0 n, z.2, L)) : pX3_knowsFrom (jEv jtab (d + 2), jWP (jEv jtab (d + 2)) Q ((Sh0 n).length, jsl (Sh0 n)) pX3_knowsFrom, Q, ((Sh0 n).length, jsl (Sh0 n))) 0 [some (.ref 70), some (.int l1), some (.int l2), some (.int l3), some (.int l4)] [] (Sh0 n, A, L) := by
  unfold fX3_knowsFrom at h
  obtain ⟨r1, hc2, h⟩ := of_bind h
  obtain ⟨g3, h⟩ := of_guard h
  refine y_mask <| x_aload rfl <| x_iload rfl <| x_iload rfl <| x_iload rfl <| y_invV3 (Nat.le_of_ble_eq_true rfl) rfl (Nat.le_of_ble_eq_true rfl) <| jEv.exV (kX3_spread _ _ _ _ _ _ _ hc2) <| x_aload rfl <| x_getR (Nat.le_of_ble_eq_true rfl) rfl rfl <| x_iload rfl <| x_iald rfl g3 <| y_ireturn (ls := [some (.ref 70), some (.int l1), some (.int l2), some (.int l3), some (.int l4)]) ?_
  obtain rfl := Option.some.inj h
  exact k3
theorem kX3_knowsFrom (d n : Nat) (A : Nat → Nat → Int32) (L : Nat → Nat → Int64) (l1 : Int32) (l2 : Int32) (l3 : Int32) (l4 : Int32) {z : (Int32 × (Nat → Nat → Int32))} (h : fX3_knowsFrom A l1 l2 l3 l4 = some z) : jEv jtab (d + 3) 28 [.ref 70, .int l1, .int l2, .int l3, .int l4] (Sh0 n, A, L) 0 0 (fun r M2 => r = some (.int z.1) ∧ M2 = (Sh0 n, z.2, L)) :=
  jEv.mk (mt := mX3_knowsFrom) rfl (Nat.le_of_ble_eq_true rfl) (jWP.intro (pr := pX3_knowsFrom) (pc := 0) (tfX3_knowsFrom d n A L l1 l2 l3 l4 h ⟨trivial, jCn.mk ⟨rfl, rfl⟩⟩))
set_option maxRecDepth 20000 in
theorem tfX10_news (d n : Nat) (A : Nat → Nat → Int32) (L : Nat → Nat → Int64) (l1 : Int32) (l2 : Int32) (l3 : Int32) {Q : Option Value → jM → Prop} {z : (Int32 × (Nat → Nat → Int32))} (h : fX10_news A l1 l2 l3 = some z) (k3 : Q (some (.int z.1)) (Sh0 n, z.2, L)) : pX10_news (jEv jtab (d + 3), jWP (jEv jtab (d + 3)) Q ((Sh0 n).length, jsl (Sh0 n)) pX10_news, Q, ((Sh0 n).length, jsl (Sh0 n))) 0 [some (.ref 15), some (.int l1), some (.int l2), some (.int l3)] [] (Sh0 n, A, L) := by
  unfold fX10_news at h
  refine y_mask <| x_iload rfl <| y_invS1 (Nat.le_of_ble_eq_true rfl) <| jEv.exZ (q := 153) rfl (kX10_isShip _ _ _ _ _) <| fun hz1 => y_if_eq (fun h2 => ?_) (fun h2 => ?_)
  · replace h := of_pos h h2
    refine jWP.intro (pr := pX10_news) (pc := 14) ?_
    refine y_mpri (bs := []) (ls := []) ?_
    obtain rfl := Option.some.inj h
    exact k3
  · replace h := of_neg h h2
    refine jWP.intro (pr := pX10_news) (pc := 7) ?_
    refine y_mask <| x_iload rfl <| y_invS1 (Nat.le_of_ble_eq_true rfl) <| jEv.exZ (q := 153) rfl (kX10_isShip _ _ _ _ _) <| fun hz3 => y_if_ne (fun h4 => ?_) (fun h4 => ?_)
    · replace h := of_neg h h4
      refine jWP.intro (pr := pX10_news) (pc := 17) ?_
      refine y_mask <| x_iload rfl <| y_invS1 (Nat.le_of_ble_eq_true rfl) <| jEv.exZ (q := 154) rfl (kX10_isDay _ _ _ _ _) <| fun hz5 => y_if_eq (fun h6 => ?_) (fun h6 => ?_)
      · replace h := of_pos h h6
        refine jWP.intro (pr := pX10_news) (pc := 38) ?_
        refine y_mask <| x_push <| y_mask <| y_goto ?_
        refine jWP.intro (pr := pX10_news) (pc := 40) ?_
        refine y_mri (bs := []) (ls := []) ?_
        obtain rfl := Option.some.inj h
        exact k3
      · replace h := of_neg h h6
        refine jWP.intro (pr := pX10_news) (pc := 24) ?_
        obtain ⟨r7, hc8, h⟩ := of_bind h
        refine y_mask <| x_aload rfl <| x_getR (Nat.le_of_ble_eq_true rfl) rfl rfl <| x_iload rfl <| x_iload rfl <| x_iload rfl <| x_push <| y_invV4 (Nat.le_of_ble_eq_true rfl) rfl (Nat.le_of_ble_eq_true rfl) <| jEv.exI (kX3_knowsFrom _ _ _ _ _ _ _ _ hc8) <| y_mask <| y_goto ?_
        refine jWP.intro (pr := pX10_news) (pc := 40) ?_
        refine y_mri (bs := []) (ls := []) ?_
        obtain rfl := Option.some.inj h
        exact k3
    · replace h := of_pos h h4
      refine jWP.intro (pr := pX10_news) (pc := 14) ?_
      refine y_mpri (bs := []) (ls := []) ?_
      obtain rfl := Option.some.inj h
      exact k3
theorem kX10_news (d n : Nat) (A : Nat → Nat → Int32) (L : Nat → Nat → Int64) (l1 : Int32) (l2 : Int32) (l3 : Int32) {z : (Int32 × (Nat → Nat → Int32))} (h : fX10_news A l1 l2 l3 = some z) : jEv jtab (d + 4) 141 [.ref 15, .int l1, .int l2, .int l3] (Sh0 n, A, L) 0 0 (fun r M2 => r = some (.int z.1) ∧ M2 = (Sh0 n, z.2, L)) :=
  jEv.mk (mt := mX10_news) rfl (Nat.le_of_ble_eq_true rfl) (jWP.intro (pr := pX10_news) (pc := 0) (tfX10_news d n A L l1 l2 l3 h ⟨trivial, jCn.mk ⟨rfl, rfl⟩⟩))
set_option maxRecDepth 20000 in
theorem tcX3_howManyKnow_13 (d n : Nat) (A : Nat → Nat → Int32) (L : Nat → Nat → Int64) (l3 : Int32) (s : (Int32 × Int32)) {Q : Option Value → jM → Prop} {z : ((Int32 × Int32) ⊕ Int32)} (h : cX3_howManyKnow_13 A l3 s = some z) (k1 : ∀ s0, z = .inl s0 → pX3_howManyKnow (jEv jtab (d + 2), jWP (jEv jtab (d + 2)) Q ((Sh0 n).length, jsl (Sh0 n)) pX3_howManyKnow, Q, ((Sh0 n).length, jsl (Sh0 n))) 13 [some (.ref 70), none, none, some (.int l3), some (.int s0.1), some (.int s0.2)] [] (Sh0 n, A, L)) (k2 : ∀ s0, z = .inr s0 → pX3_howManyKnow (jEv jtab (d + 2), jWP (jEv jtab (d + 2)) Q ((Sh0 n).length, jsl (Sh0 n)) pX3_howManyKnow, Q, ((Sh0 n).length, jsl (Sh0 n))) 50 [none, none, none, none, some (.int s0), none] [] (Sh0 n, A, L)) : pX3_howManyKnow (jEv jtab (d + 2), jWP (jEv jtab (d + 2)) Q ((Sh0 n).length, jsl (Sh0 n)) pX3_howManyKnow, Q, ((Sh0 n).length, jsl (Sh0 n))) 13 [some (.ref 70), none, none, some (.int l3), some (.int s.1), some (.int s.2)] [] (Sh0 n, A, L) := by
  unfold cX3_howManyKnow_13 at h
  refine y_mask <| x_iload rfl <| x_push <| y_cmp_ge (fun h1 => ?_) (fun h1 => ?_)
  · replace h := of_pos h h1
    refine jWP.intro (pr := pX3_howManyKnow) (pc := 50) ?_
    have hk := k2 _ (Option.some.inj h).symm
    exact hk
  · replace h := of_neg h h1
    refine jWP.intro (pr := pX3_howManyKnow) (pc := 19) ?_
    obtain ⟨g2, h⟩ := of_guard h
    refine y_mask <| x_aload rfl <| x_getR (Nat.le_of_ble_eq_true rfl) rfl rfl <| x_iload rfl <| x_iald rfl g2 <| x_push <| y_cmp_eq (fun h3 => ?_) (fun h3 => ?_)
    · replace h := of_pos h h3
      refine jWP.intro (pr := pX3_howManyKnow) (pc := 44) ?_
      refine y_mask <| x_iinc rfl rfl <| y_mask <| y_goto ?_
      refine jWP.intro (pr := pX3_howManyKnow) (pc := 13) ?_
      have hk := k1 _ (Option.some.inj h).symm
      exact hk
    · replace h := of_neg h h3
      refine jWP.intro (pr := pX3_howManyKnow) (pc := 30) ?_
      obtain ⟨g4, h⟩ := of_guard h
      refine y_mask <| x_aload rfl <| x_getR (Nat.le_of_ble_eq_true rfl) rfl rfl <| x_iload rfl <| x_iald rfl g4 <| x_iload rfl <| y_cmp_gt (fun h5 => ?_) (fun h5 => ?_)
      · replace h := of_pos h h5
        refine jWP.intro (pr := pX3_howManyKnow) (pc := 44) ?_
        refine y_mask <| x_iinc rfl rfl <| y_mask <| y_goto ?_
        refine jWP.intro (pr := pX3_howManyKnow) (pc := 13) ?_
        have hk := k1 _ (Option.some.inj h).symm
        exact hk
      · replace h := of_neg h h5
        refine jWP.intro (pr := pX3_howManyKnow) (pc := 41) ?_
        refine y_mask <| x_iinc rfl rfl <| y_mask <| y_goto ?_
        refine jWP.intro (pr := pX3_howManyKnow) (pc := 44) ?_
        refine y_mask <| x_iinc rfl rfl <| y_mask <| y_goto ?_
        refine jWP.intro (pr := pX3_howManyKnow) (pc := 13) ?_
        have hk := k1 _ (Option.some.inj h).symm
        exact hk
set_option maxRecDepth 20000 in
theorem tfX3_howManyKnow (d n : Nat) (A : Nat → Nat → Int32) (L : Nat → Nat → Int64) (l1 : Int32) (l2 : Int32) (l3 : Int32) {Q : Option Value → jM → Prop} {z : (Int32 × (Nat → Nat → Int32))} (h : fX3_howManyKnow A l1 l2 l3 = some z) (k3 : Q (some (.int z.1)) (Sh0 n, z.2, L)) : pX3_howManyKnow (jEv jtab (d + 2), jWP (jEv jtab (d + 2)) Q ((Sh0 n).length, jsl (Sh0 n)) pX3_howManyKnow, Q, ((Sh0 n).length, jsl (Sh0 n))) 0 [some (.ref 70), some (.int l1), some (.int l2), some (.int l3), none, none] [] (Sh0 n, A, L) := by
  unfold fX3_howManyKnow at h
  obtain ⟨r1, hc2, h⟩ := of_bind h
  refine y_mask <| x_aload rfl <| x_iload rfl <| x_iload rfl <| x_push <| y_invV3 (Nat.le_of_ble_eq_true rfl) rfl (Nat.le_of_ble_eq_true rfl) <| jEv.exV (kX3_spread _ _ _ _ _ _ _ hc2) <| x_push <| x_istore rfl <| x_push <| x_istore rfl <| y_mask <| y_goto ?_
  obtain ⟨e3, hw4, h⟩ := of_bind h
  refine jWP.intro (pr := pX3_howManyKnow) (pc := 13) ?_
  refine jwh_use (G := (fun s0 => pX3_howManyKnow (jEv jtab (d + 2), jWP (jEv jtab (d + 2)) Q ((Sh0 n).length, jsl (Sh0 n)) pX3_howManyKnow, Q, ((Sh0 n).length, jsl (Sh0 n))) 13 [some (.ref 70), none, none, some (.int l3), some (.int s0.1), some (.int s0.2)] [] (Sh0 n, r1, L))) (Gx := (fun s0 => pX3_howManyKnow (jEv jtab (d + 2), jWP (jEv jtab (d + 2)) Q ((Sh0 n).length, jsl (Sh0 n)) pX3_howManyKnow, Q, ((Sh0 n).length, jsl (Sh0 n))) 50 [none, none, none, none, some (.int s0), none] [] (Sh0 n, r1, L))) (fun s1 z1 hz kk1 kk2 => tcX3_howManyKnow_13 d n r1 L l3 s1 hz kk1 kk2) hw4 ?_
  refine y_mask <| x_iload rfl <| y_ireturn (ls := [none, none, none, none, some (.int e3), none]) ?_
  obtain rfl := Option.some.inj h
  exact k3
theorem kX3_howManyKnow (d n : Nat) (A : Nat → Nat → Int32) (L : Nat → Nat → Int64) (l1 : Int32) (l2 : Int32) (l3 : Int32) {z : (Int32 × (Nat → Nat → Int32))} (h : fX3_howManyKnow A l1 l2 l3 = some z) : jEv jtab (d + 3) 29 [.ref 70, .int l1, .int l2, .int l3] (Sh0 n, A, L) 0 0 (fun r M2 => r = some (.int z.1) ∧ M2 = (Sh0 n, z.2, L)) :=
  jEv.mk (mt := mX3_howManyKnow) rfl (Nat.le_of_ble_eq_true rfl) (jWP.intro (pr := pX3_howManyKnow) (pc := 0) (tfX3_howManyKnow d n A L l1 l2 l3 h ⟨trivial, jCn.mk ⟨rfl, rfl⟩⟩))
set_option maxRecDepth 20000 in
theorem tfX10_peace (d n : Nat) (A : Nat → Nat → Int32) (L : Nat → Nat → Int64) (l1 : Int32) (l2 : Int32) (l3 : Int32) {Q : Option Value → jM → Prop} {z : (Int32 × (Nat → Nat → Int32))} (h : fX10_peace A l1 l2 l3 = some z) (k3 : Q (some (.int z.1)) (Sh0 n, z.2, L)) : pX10_peace (jEv jtab (d + 3), jWP (jEv jtab (d + 3)) Q ((Sh0 n).length, jsl (Sh0 n)) pX10_peace, Q, ((Sh0 n).length, jsl (Sh0 n))) 0 [some (.ref 15), some (.int l1), some (.int l2), some (.int l3)] [] (Sh0 n, A, L) := by
  unfold fX10_peace at h
  refine y_mask <| x_iload rfl <| y_invS1 (Nat.le_of_ble_eq_true rfl) <| jEv.exZ (q := 153) rfl (kX10_isShip _ _ _ _ _) <| fun hz1 => y_if_ne (fun h2 => ?_) (fun h2 => ?_)
  · replace h := of_neg h h2
    refine jWP.intro (pr := pX10_peace) (pc := 10) ?_
    refine y_mask <| x_iload rfl <| y_invS1 (Nat.le_of_ble_eq_true rfl) <| jEv.exZ (q := 154) rfl (kX10_isDay _ _ _ _ _) <| fun hz3 => y_if_eq (fun h4 => ?_) (fun h4 => ?_)
    · replace h := of_pos h h4
      refine jWP.intro (pr := pX10_peace) (pc := 37) ?_
      refine y_mask <| x_push <| y_mask <| y_goto ?_
      refine jWP.intro (pr := pX10_peace) (pc := 39) ?_
      refine y_mri (bs := []) (ls := []) ?_
      obtain rfl := Option.some.inj h
      exact k3
    · replace h := of_neg h h4
      refine jWP.intro (pr := pX10_peace) (pc := 17) ?_
      refine y_mask <| x_iload rfl <| y_invS1 (Nat.le_of_ble_eq_true rfl) <| jEv.exZ (q := 154) rfl (kX10_isDay _ _ _ _ _) <| fun hz5 => y_if_eq (fun h6 => ?_) (fun h6 => ?_)
      · replace h := of_pos h h6
        refine jWP.intro (pr := pX10_peace) (pc := 37) ?_
        refine y_mask <| x_push <| y_mask <| y_goto ?_
        refine jWP.intro (pr := pX10_peace) (pc := 39) ?_
        refine y_mri (bs := []) (ls := []) ?_
        obtain rfl := Option.some.inj h
        exact k3
      · replace h := of_neg h h6
        refine jWP.intro (pr := pX10_peace) (pc := 24) ?_
        obtain ⟨r7, hc8, h⟩ := of_bind h
        refine y_mask <| x_aload rfl <| x_getR (Nat.le_of_ble_eq_true rfl) rfl rfl <| x_iload rfl <| x_iload rfl <| x_iload rfl <| y_invV3 (Nat.le_of_ble_eq_true rfl) rfl (Nat.le_of_ble_eq_true rfl) <| jEv.exI (kX3_howManyKnow _ _ _ _ _ _ _ hc8) <| y_mask <| y_goto ?_
        refine jWP.intro (pr := pX10_peace) (pc := 39) ?_
        refine y_mri (bs := []) (ls := []) ?_
        obtain rfl := Option.some.inj h
        exact k3
  · replace h := of_pos h h2
    refine jWP.intro (pr := pX10_peace) (pc := 7) ?_
    refine y_mpri (bs := []) (ls := []) ?_
    obtain rfl := Option.some.inj h
    exact k3
theorem kX10_peace (d n : Nat) (A : Nat → Nat → Int32) (L : Nat → Nat → Int64) (l1 : Int32) (l2 : Int32) (l3 : Int32) {z : (Int32 × (Nat → Nat → Int32))} (h : fX10_peace A l1 l2 l3 = some z) : jEv jtab (d + 4) 142 [.ref 15, .int l1, .int l2, .int l3] (Sh0 n, A, L) 0 0 (fun r M2 => r = some (.int z.1) ∧ M2 = (Sh0 n, z.2, L)) :=
  jEv.mk (mt := mX10_peace) rfl (Nat.le_of_ble_eq_true rfl) (jWP.intro (pr := pX10_peace) (pc := 0) (tfX10_peace d n A L l1 l2 l3 h ⟨trivial, jCn.mk ⟨rfl, rfl⟩⟩))
