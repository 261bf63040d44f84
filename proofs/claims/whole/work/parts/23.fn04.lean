/-! METHODS AS FUNCTIONS, printed by dec.py -/
set_option maxRecDepth 20000 in
theorem tcX9_muddle_15 (d n : Nat) (A : Nat → Nat → Int32) (L : Nat → Nat → Int64) (l1 : Int32) (l3 : Int32) (s : (Int32 × Int32)) {Q : Option Value → jM → Prop} {z : ((Int32 × Int32) ⊕ Int32)} (h : cX9_muddle_15 A l1 l3 s = some z) (k1 : ∀ s0, z = .inl s0 → pX9_muddle (jEv jtab (d + 0), jWP (jEv jtab (d + 0)) Q ((Sh0 n).length, jsl (Sh0 n)) pX9_muddle, Q, ((Sh0 n).length, jsl (Sh0 n))) 15 [some (.ref 54), some (.int l1), some (.int s0.1), some (.int l3), some (.int s0.2)] [] (Sh0 n, A, L)) (k2 : ∀ s0, z = .inr s0 → pX9_muddle (jEv jtab (d + 0), jWP (jEv jtab (d + 0)) Q ((Sh0 n).length, jsl (Sh0 n)) pX9_muddle, Q, ((Sh0 n).length, jsl (Sh0 n))) 65 [some (.ref 54), some (.int l1), some (.int s0), some (.int l3), none] [] (Sh0 n, A, L)) : pX9_muddle (jEv jtab (d + 0), jWP (jEv jtab (d + 0)) Q ((Sh0 n).length, jsl (Sh0 n)) pX9_muddle, Q, ((Sh0 n).length, jsl (Sh0 n))) 15 [some (.ref 54), some (.int l1), some (.int s.1), some (.int l3), some (.int s.2)] [] (Sh0 n, A, L) := by
  unfold cX9_muddle_15 at h
  refine y_mask <| x_iload rfl <| x_aload rfl <| x_getI (Nat.le_of_ble_eq_true rfl) rfl rfl <| y_cmp_ge (fun h1 => ?_) (fun h1 => ?_)
  · replace h := of_pos h h1
    refine jWP.intro (pr := pX9_muddle) (pc := 65) ?_
    have hk := k2 _ (Option.some.inj h).symm
    exact hk
  · replace h := of_neg h h1
    refine jWP.intro (pr := pX9_muddle) (pc := 24) ?_
    refine y_mask <| x_iload rfl <| x_iload rfl <| y_cmp_eq (fun h2 => ?_) (fun h2 => ?_)
    · replace h := of_pos h h2
      refine jWP.intro (pr := pX9_muddle) (pc := 59) ?_
      refine y_mask <| x_iinc rfl rfl <| y_mask <| y_goto ?_
      refine jWP.intro (pr := pX9_muddle) (pc := 15) ?_
      have hk := k1 _ (Option.some.inj h).symm
      exact hk
    · replace h := of_neg h h2
      refine jWP.intro (pr := pX9_muddle) (pc := 30) ?_
      refine y_mask <| x_iload rfl <| x_iload rfl <| x_ishr <| x_push <| x_iand <| y_if_eq (fun h3 => ?_) (fun h3 => ?_)
      · replace h := of_pos h h3
        refine jWP.intro (pr := pX9_muddle) (pc := 59) ?_
        refine y_mask <| x_iinc rfl rfl <| y_mask <| y_goto ?_
        refine jWP.intro (pr := pX9_muddle) (pc := 15) ?_
        have hk := k1 _ (Option.some.inj h).symm
        exact hk
      · replace h := of_neg h h3
        refine jWP.intro (pr := pX9_muddle) (pc := 38) ?_
        refine y_mask <| x_iload rfl <| x_iload rfl <| x_ishr <| x_push <| x_iand <| y_if_eq (fun h4 => ?_) (fun h4 => ?_)
        · replace h := of_pos h h4
          refine jWP.intro (pr := pX9_muddle) (pc := 59) ?_
          refine y_mask <| x_iinc rfl rfl <| y_mask <| y_goto ?_
          refine jWP.intro (pr := pX9_muddle) (pc := 15) ?_
          have hk := k1 _ (Option.some.inj h).symm
          exact hk
        · replace h := of_neg h h4
          refine jWP.intro (pr := pX9_muddle) (pc := 47) ?_
          obtain ⟨g5, h⟩ := of_guard h
          obtain ⟨g7, h⟩ := of_guard h
          refine y_mask <| x_iload rfl <| x_aload rfl <| x_getR (Nat.le_of_ble_eq_true rfl) rfl rfl <| x_iload rfl <| x_row (Nat.le_of_ble_eq_true rfl) rfl g5 <| fun hr6 => x_iload rfl <| x_iald (rows_56 (vp_lt g5)) g7 <| x_iadd <| x_istore rfl <| y_mask <| y_goto ?_
          refine jWP.intro (pr := pX9_muddle) (pc := 59) ?_
          refine y_mask <| x_iinc rfl rfl <| y_mask <| y_goto ?_
          refine jWP.intro (pr := pX9_muddle) (pc := 15) ?_
          have hk := k1 _ (Option.some.inj h).symm
          exact hk
set_option maxRecDepth 20000 in
theorem tcX9_muddle_4 (d n : Nat) (A : Nat → Nat → Int32) (L : Nat → Nat → Int64) (l1 : Int32) (s : (Int32 × Int32)) {Q : Option Value → jM → Prop} {z : ((Int32 × Int32) ⊕ Int32)} (h : cX9_muddle_4 A l1 s = some z) (k1 : ∀ s0, z = .inl s0 → pX9_muddle (jEv jtab (d + 0), jWP (jEv jtab (d + 0)) Q ((Sh0 n).length, jsl (Sh0 n)) pX9_muddle, Q, ((Sh0 n).length, jsl (Sh0 n))) 4 [some (.ref 54), some (.int l1), some (.int s0.1), some (.int s0.2), none] [] (Sh0 n, A, L)) (k2 : ∀ s0, z = .inr s0 → pX9_muddle (jEv jtab (d + 0), jWP (jEv jtab (d + 0)) Q ((Sh0 n).length, jsl (Sh0 n)) pX9_muddle, Q, ((Sh0 n).length, jsl (Sh0 n))) 71 [none, none, some (.int s0), none, none] [] (Sh0 n, A, L)) : pX9_muddle (jEv jtab (d + 0), jWP (jEv jtab (d + 0)) Q ((Sh0 n).length, jsl (Sh0 n)) pX9_muddle, Q, ((Sh0 n).length, jsl (Sh0 n))) 4 [some (.ref 54), some (.int l1), some (.int s.1), some (.int s.2), none] [] (Sh0 n, A, L) := by
  unfold cX9_muddle_4 at h
  refine y_mask <| x_iload rfl <| x_aload rfl <| x_getI (Nat.le_of_ble_eq_true rfl) rfl rfl <| y_cmp_ge (fun h1 => ?_) (fun h1 => ?_)
  · replace h := of_pos h h1
    refine jWP.intro (pr := pX9_muddle) (pc := 71) ?_
    have hk := k2 _ (Option.some.inj h).symm
    exact hk
  · replace h := of_neg h h1
    refine jWP.intro (pr := pX9_muddle) (pc := 12) ?_
    refine y_mask <| x_push <| x_istore rfl <| y_mask <| y_goto ?_
    obtain ⟨e2, hw3, h⟩ := of_bind h
    refine jWP.intro (pr := pX9_muddle) (pc := 15) ?_
    refine jwh_use (G := (fun s0 => pX9_muddle (jEv jtab (d + 0), jWP (jEv jtab (d + 0)) Q ((Sh0 n).length, jsl (Sh0 n)) pX9_muddle, Q, ((Sh0 n).length, jsl (Sh0 n))) 15 [some (.ref 54), some (.int l1), some (.int s0.1), some (.int s.2), some (.int s0.2)] [] (Sh0 n, A, L))) (Gx := (fun s0 => pX9_muddle (jEv jtab (d + 0), jWP (jEv jtab (d + 0)) Q ((Sh0 n).length, jsl (Sh0 n)) pX9_muddle, Q, ((Sh0 n).length, jsl (Sh0 n))) 65 [some (.ref 54), some (.int l1), some (.int s0), some (.int s.2), none] [] (Sh0 n, A, L))) (fun s1 z1 hz kk1 kk2 => tcX9_muddle_15 d n A L l1 s.2 s1 hz kk1 kk2) hw3 ?_
    refine y_mask <| x_iinc rfl rfl <| y_mask <| y_goto ?_
    refine jWP.intro (pr := pX9_muddle) (pc := 4) ?_
    have hk := k1 _ (Option.some.inj h).symm
    exact hk
set_option maxRecDepth 20000 in
theorem tfX9_muddle (d n : Nat) (A : Nat → Nat → Int32) (L : Nat → Nat → Int64) (l1 : Int32) {Q : Option Value → jM → Prop} {z : Int32} (h : fX9_muddle A l1 = some z) (k3 : Q (some (.int z)) (Sh0 n, A, L)) : pX9_muddle (jEv jtab (d + 0), jWP (jEv jtab (d + 0)) Q ((Sh0 n).length, jsl (Sh0 n)) pX9_muddle, Q, ((Sh0 n).length, jsl (Sh0 n))) 0 [some (.ref 54), some (.int l1), none, none, none] [] (Sh0 n, A, L) := by
  unfold fX9_muddle at h
  refine y_mask <| x_push <| x_istore rfl <| x_push <| x_istore rfl <| y_mask <| y_goto ?_
  obtain ⟨e1, hw2, h⟩ := of_bind h
  refine jWP.intro (pr := pX9_muddle) (pc := 4) ?_
  refine jwh_use (G := (fun s0 => pX9_muddle (jEv jtab (d + 0), jWP (jEv jtab (d + 0)) Q ((Sh0 n).length, jsl (Sh0 n)) pX9_muddle, Q, ((Sh0 n).length, jsl (Sh0 n))) 4 [some (.ref 54), some (.int l1), some (.int s0.1), some (.int s0.2), none] [] (Sh0 n, A, L))) (Gx := (fun s0 => pX9_muddle (jEv jtab (d + 0), jWP (jEv jtab (d + 0)) Q ((Sh0 n).length, jsl (Sh0 n)) pX9_muddle, Q, ((Sh0 n).length, jsl (Sh0 n))) 71 [none, none, some (.int s0), none, none] [] (Sh0 n, A, L))) (fun s1 z1 hz kk1 kk2 => tcX9_muddle_4 d n A L l1 s1 hz kk1 kk2) hw2 ?_
  refine y_mask <| x_iload rfl <| y_ireturn (ls := [none, none, some (.int e1), none, none]) ?_
  obtain rfl := Option.some.inj h
  exact k3
theorem kX9_muddle (d n : Nat) (A : Nat → Nat → Int32) (L : Nat → Nat → Int64) (l1 : Int32) {z : Int32} (h : fX9_muddle A l1 = some z) : jEv jtab (d + 1) 102 [.ref 54, .int l1] (Sh0 n, A, L) 0 0 (fun r M2 => r = some (.int z) ∧ M2 = (Sh0 n, A, L)) :=
  jEv.mk (mt := mX9_muddle) rfl (Nat.le_of_ble_eq_true rfl) (jWP.intro (pr := pX9_muddle) (pc := 0) (tfX9_muddle d n A L l1 h ⟨trivial, jCn.mk ⟨rfl, rfl⟩⟩))
set_option maxRecDepth 20000 in
theorem tjX9_clearestList_45_7 (d n : Nat) (A : Nat → Nat → Int32) (L : Nat → Nat → Int64) (l1 : Int32) (l4 : Int32) (l5 : Int32) {Q : Option Value → jM → Prop} {z : ((Int32 × Int32 × Int32) ⊕ Int32)} (h : jX9_clearestList_45_7 A l1 l4 l5 = some z) (k1 : ∀ s0, z = .inl s0 → pX9_clearestList (jEv jtab (d + 1), jWP (jEv jtab (d + 1)) Q ((Sh0 n).length, jsl (Sh0 n)) pX9_clearestList, Q, ((Sh0 n).length, jsl (Sh0 n))) 7 [some (.ref 54), some (.int l1), some (.int s0.1), some (.int s0.2.1), some (.int s0.2.2), none] [] (Sh0 n, A, L)) (k2 : ∀ s0, z = .inr s0 → pX9_clearestList (jEv jtab (d + 1), jWP (jEv jtab (d + 1)) Q ((Sh0 n).length, jsl (Sh0 n)) pX9_clearestList, Q, ((Sh0 n).length, jsl (Sh0 n))) 57 [none, none, some (.int s0), none, none, none] [] (Sh0 n, A, L)) : pX9_clearestList (jEv jtab (d + 1), jWP (jEv jtab (d + 1)) Q ((Sh0 n).length, jsl (Sh0 n)) pX9_clearestList, Q, ((Sh0 n).length, jsl (Sh0 n))) 45 [some (.ref 54), some (.int l1), none, none, some (.int l4), some (.int l5)] [] (Sh0 n, A, L) := by
  unfold jX9_clearestList_45_7 at h
  refine y_mask <| x_iload rfl <| x_istore rfl <| x_iload rfl <| x_istore rfl <| y_mask <| y_goto ?_
  refine jWP.intro (pr := pX9_clearestList) (pc := 51) ?_
  refine y_mask <| x_iinc rfl rfl <| y_mask <| y_goto ?_
  refine jWP.intro (pr := pX9_clearestList) (pc := 7) ?_
  have hk := k1 _ (Option.some.inj h).symm
  exact hk
set_option maxRecDepth 20000 in
theorem tcX9_clearestList_7 (d n : Nat) (A : Nat → Nat → Int32) (L : Nat → Nat → Int64) (l1 : Int32) (s : (Int32 × Int32 × Int32)) {Q : Option Value → jM → Prop} {z : ((Int32 × Int32 × Int32) ⊕ Int32)} (h : cX9_clearestList_7 A l1 s = some z) (k1 : ∀ s0, z = .inl s0 → pX9_clearestList (jEv jtab (d + 1), jWP (jEv jtab (d + 1)) Q ((Sh0 n).length, jsl (Sh0 n)) pX9_clearestList, Q, ((Sh0 n).length, jsl (Sh0 n))) 7 [some (.ref 54), some (.int l1), some (.int s0.1), some (.int s0.2.1), some (.int s0.2.2), none] [] (Sh0 n, A, L)) (k2 : ∀ s0, z = .inr s0 → pX9_clearestList (jEv jtab (d + 1), jWP (jEv jtab (d + 1)) Q ((Sh0 n).length, jsl (Sh0 n)) pX9_clearestList, Q, ((Sh0 n).length, jsl (Sh0 n))) 57 [none, none, some (.int s0), none, none, none] [] (Sh0 n, A, L)) : pX9_clearestList (jEv jtab (d + 1), jWP (jEv jtab (d + 1)) Q ((Sh0 n).length, jsl (Sh0 n)) pX9_clearestList, Q, ((Sh0 n).length, jsl (Sh0 n))) 7 [some (.ref 54), some (.int l1), some (.int s.1), some (.int s.2.1), some (.int s.2.2), none] [] (Sh0 n, A, L) := by
  unfold cX9_clearestList_7 at h
  refine y_mask <| x_iload rfl <| x_push <| x_aload rfl <| x_getI (Nat.le_of_ble_eq_true rfl) rfl rfl <| x_ishl <| y_cmp_ge (fun h1 => ?_) (fun h1 => ?_)
  · replace h := of_pos h h1
    refine jWP.intro (pr := pX9_clearestList) (pc := 57) ?_
    have hk := k2 _ (Option.some.inj h).symm
    exact hk
  · replace h := of_neg h h1
    refine jWP.intro (pr := pX9_clearestList) (pc := 18) ?_
    refine y_mask <| x_iload rfl <| y_invS1 (Nat.le_of_ble_eq_true rfl) <| jEv.exI (kJ6_bitCount_0f7a4 _ _ _ _ _) <| x_iload rfl <| y_cmp_ne (fun h2 => ?_) (fun h2 => ?_)
    · replace h := of_neg h h2
      refine jWP.intro (pr := pX9_clearestList) (pc := 51) ?_
      refine y_mask <| x_iinc rfl rfl <| y_mask <| y_goto ?_
      refine jWP.intro (pr := pX9_clearestList) (pc := 7) ?_
      have hk := k1 _ (Option.some.inj h).symm
      exact hk
    · replace h := of_pos h h2
      refine jWP.intro (pr := pX9_clearestList) (pc := 27) ?_
      obtain ⟨r3, hc4, h⟩ := of_bind h
      refine y_mask <| x_aload rfl <| x_iload rfl <| y_invV1 (Nat.le_of_ble_eq_true rfl) rfl (Nat.le_of_ble_eq_true rfl) <| jEv.exI (kX9_muddle _ _ _ _ _ hc4) <| x_istore rfl <| x_iload rfl <| y_if_lt (fun h5 => ?_) (fun h5 => ?_)
      · replace h := of_pos h h5
        refine jWP.intro (pr := pX9_clearestList) (pc := 45) ?_
        exact tjX9_clearestList_45_7 d n A L l1 s.2.2 r3 h k1 k2
      · replace h := of_neg h h5
        refine jWP.intro (pr := pX9_clearestList) (pc := 39) ?_
        refine y_mask <| x_iload rfl <| x_iload rfl <| y_cmp_ge (fun h6 => ?_) (fun h6 => ?_)
        · replace h := of_pos h h6
          refine jWP.intro (pr := pX9_clearestList) (pc := 51) ?_
          refine y_mask <| x_iinc rfl rfl <| y_mask <| y_goto ?_
          refine jWP.intro (pr := pX9_clearestList) (pc := 7) ?_
          have hk := k1 _ (Option.some.inj h).symm
          exact hk
        · replace h := of_neg h h6
          refine jWP.intro (pr := pX9_clearestList) (pc := 45) ?_
          exact tjX9_clearestList_45_7 d n A L l1 s.2.2 r3 h k1 k2
set_option maxRecDepth 20000 in
theorem tfX9_clearestList (d n : Nat) (A : Nat → Nat → Int32) (L : Nat → Nat → Int64) (l1 : Int32) {Q : Option Value → jM → Prop} {z : Int32} (h : fX9_clearestList A l1 = some z) (k3 : Q (some (.int z)) (Sh0 n, A, L)) : pX9_clearestList (jEv jtab (d + 1), jWP (jEv jtab (d + 1)) Q ((Sh0 n).length, jsl (Sh0 n)) pX9_clearestList, Q, ((Sh0 n).length, jsl (Sh0 n))) 0 [some (.ref 54), some (.int l1), none, none, none, none] [] (Sh0 n, A, L) := by
  unfold fX9_clearestList at h
  refine y_mask <| x_push <| x_istore rfl <| x_push <| x_istore rfl <| x_push <| x_istore rfl <| y_mask <| y_goto ?_
  obtain ⟨e1, hw2, h⟩ := of_bind h
  refine jWP.intro (pr := pX9_clearestList) (pc := 7) ?_
  refine jwh_use (G := (fun s0 => pX9_clearestList (jEv jtab (d + 1), jWP (jEv jtab (d + 1)) Q ((Sh0 n).length, jsl (Sh0 n)) pX9_clearestList, Q, ((Sh0 n).length, jsl (Sh0 n))) 7 [some (.ref 54), some (.int l1), some (.int s0.1), some (.int s0.2.1), some (.int s0.2.2), none] [] (Sh0 n, A, L))) (Gx := (fun s0 => pX9_clearestList (jEv jtab (d + 1), jWP (jEv jtab (d + 1)) Q ((Sh0 n).length, jsl (Sh0 n)) pX9_clearestList, Q, ((Sh0 n).length, jsl (Sh0 n))) 57 [none, none, some (.int s0), none, none, none] [] (Sh0 n, A, L))) (fun s1 z1 hz kk1 kk2 => tcX9_clearestList_7 d n A L l1 s1 hz kk1 kk2) hw2 ?_
  refine y_mask <| x_iload rfl <| y_ireturn (ls := [none, none, some (.int e1), none, none, none]) ?_
  obtain rfl := Option.some.inj h
  exact k3
theorem kX9_clearestList (d n : Nat) (A : Nat → Nat → Int32) (L : Nat → Nat → Int64) (l1 : Int32) {z : Int32} (h : fX9_clearestList A l1 = some z) : jEv jtab (d + 2) 101 [.ref 54, .int l1] (Sh0 n, A, L) 0 0 (fun r M2 => r = some (.int z) ∧ M2 = (Sh0 n, A, L)) :=
  jEv.mk (mt := mX9_clearestList) rfl (Nat.le_of_ble_eq_true rfl) (jWP.intro (pr := pX9_clearestList) (pc := 0) (tfX9_clearestList d n A L l1 h ⟨trivial, jCn.mk ⟨rfl, rfl⟩⟩))
set_option maxRecDepth 20000 in
theorem tfX10_list (d n : Nat) (A : Nat → Nat → Int32) (L : Nat → Nat → Int64) (l1 : Int32) (l2 : Int32) {Q : Option Value → jM → Prop} {z : Int32} (h : fX10_list A l1 l2 = some z) (k3 : Q (some (.int z)) (Sh0 n, A, L)) : pX10_list (jEv jtab (d + 2), jWP (jEv jtab (d + 2)) Q ((Sh0 n).length, jsl (Sh0 n)) pX10_list, Q, ((Sh0 n).length, jsl (Sh0 n))) 0 [some (.ref 15), some (.int l1), some (.int l2), none] [] (Sh0 n, A, L) := by
  unfold fX10_list at h
  refine y_mask <| x_iload rfl <| x_push <| x_aload rfl <| x_getR (Nat.le_of_ble_eq_true rfl) rfl rfl <| x_getI (Nat.le_of_ble_eq_true rfl) rfl rfl <| y_invS3 (Nat.le_of_ble_eq_true rfl) <| jEv.exZ (q := 152) rfl (kX10_within _ _ _ _ _ _ _) <| fun hz1 => y_if_eq (fun h2 => ?_) (fun h2 => ?_)
  · replace h := of_pos h h2
    refine jWP.intro (pr := pX10_list) (pc := 24) ?_
    refine y_mpri (bs := []) (ls := []) ?_
    obtain rfl := Option.some.inj h
    exact k3
  · replace h := of_neg h h2
    refine jWP.intro (pr := pX10_list) (pc := 15) ?_
    refine y_mask <| x_iload rfl <| x_push <| x_push <| y_invS3 (Nat.le_of_ble_eq_true rfl) <| jEv.exZ (q := 152) rfl (kX10_within _ _ _ _ _ _ _) <| fun hz3 => y_if_ne (fun h4 => ?_) (fun h4 => ?_)
    · replace h := of_neg h h4
      refine jWP.intro (pr := pX10_list) (pc := 27) ?_
      obtain ⟨r5, hc6, h⟩ := of_bind h
      refine y_mask <| x_aload rfl <| x_getR (Nat.le_of_ble_eq_true rfl) rfl rfl <| x_iload rfl <| y_invV1 (Nat.le_of_ble_eq_true rfl) rfl (Nat.le_of_ble_eq_true rfl) <| jEv.exI (kX9_clearestList _ _ _ _ _ hc6) <| x_istore rfl <| x_iload rfl <| y_if_ne (fun h7 => ?_) (fun h7 => ?_)
      · replace h := of_neg h h7
        refine jWP.intro (pr := pX10_list) (pc := 44) ?_
        obtain ⟨r8, hc9, h⟩ := of_bind h
        refine y_mask <| x_aload rfl <| x_getR (Nat.le_of_ble_eq_true rfl) rfl rfl <| x_iload rfl <| y_invV1 (Nat.le_of_ble_eq_true rfl) rfl (Nat.le_of_ble_eq_true rfl) <| jEv.exI (kX9_muddle _ _ _ _ _ hc9) <| y_mask <| y_goto ?_
        refine jWP.intro (pr := pX10_list) (pc := 52) ?_
        refine y_mri (bs := []) (ls := []) ?_
        obtain rfl := Option.some.inj h
        exact k3
      · replace h := of_pos h h7
        refine jWP.intro (pr := pX10_list) (pc := 40) ?_
        refine y_mask <| x_iload rfl <| y_mask <| y_goto ?_
        refine jWP.intro (pr := pX10_list) (pc := 52) ?_
        refine y_mri (bs := []) (ls := []) ?_
        obtain rfl := Option.some.inj h
        exact k3
    · replace h := of_pos h h4
      refine jWP.intro (pr := pX10_list) (pc := 24) ?_
      refine y_mpri (bs := []) (ls := []) ?_
      obtain rfl := Option.some.inj h
      exact k3
theorem kX10_list (d n : Nat) (A : Nat → Nat → Int32) (L : Nat → Nat → Int64) (l1 : Int32) (l2 : Int32) {z : Int32} (h : fX10_list A l1 l2 = some z) : jEv jtab (d + 3) 128 [.ref 15, .int l1, .int l2] (Sh0 n, A, L) 0 0 (fun r M2 => r = some (.int z) ∧ M2 = (Sh0 n, A, L)) :=
  jEv.mk (mt := mX10_list) rfl (Nat.le_of_ble_eq_true rfl) (jWP.intro (pr := pX10_list) (pc := 0) (tfX10_list d n A L l1 l2 h ⟨trivial, jCn.mk ⟨rfl, rfl⟩⟩))
set_option maxRecDepth 20000 in
theorem tcX9_figure_6 (d n : Nat) (A : Nat → Nat → Int32) (L : Nat → Nat → Int64) (s : (Int32 × Int32)) {Q : Option Value → jM → Prop} {z : ((Int32 × Int32) ⊕ Int32)} (h : cX9_figure_6 s = some z) (k1 : ∀ s0, z = .inl s0 → pX9_figure (jEv jtab (d + 0), jWP (jEv jtab (d + 0)) Q ((Sh0 n).length, jsl (Sh0 n)) pX9_figure, Q, ((Sh0 n).length, jsl (Sh0 n))) 6 [none, none, some (.int s0.1), some (.int s0.2)] [] (Sh0 n, A, L)) (k2 : ∀ s0, z = .inr s0 → pX9_figure (jEv jtab (d + 0), jWP (jEv jtab (d + 0)) Q ((Sh0 n).length, jsl (Sh0 n)) pX9_figure, Q, ((Sh0 n).length, jsl (Sh0 n))) 22 [none, none, some (.int s0), none] [] (Sh0 n, A, L)) : pX9_figure (jEv jtab (d + 0), jWP (jEv jtab (d + 0)) Q ((Sh0 n).length, jsl (Sh0 n)) pX9_figure, Q, ((Sh0 n).length, jsl (Sh0 n))) 6 [none, none, some (.int s.1), some (.int s.2)] [] (Sh0 n, A, L) := by
  unfold cX9_figure_6 at h
  refine y_mask <| x_iload rfl <| x_push <| y_cmp_ge (fun h1 => ?_) (fun h1 => ?_)
  · replace h := of_pos h h1
    refine jWP.intro (pr := pX9_figure) (pc := 22) ?_
    have hk := k2 _ (Option.some.inj h).symm
    exact hk
  · replace h := of_neg h h1
    refine jWP.intro (pr := pX9_figure) (pc := 11) ?_
    refine y_mask <| x_iload rfl <| x_push <| x_idiv (by decide) <| x_istore rfl <| x_iinc rfl rfl <| y_mask <| y_goto ?_
    refine jWP.intro (pr := pX9_figure) (pc := 6) ?_
    have hk := k1 _ (Option.some.inj h).symm
    exact hk
set_option maxRecDepth 20000 in
theorem tfX9_figure (d n : Nat) (A : Nat → Nat → Int32) (L : Nat → Nat → Int64) (l0 : Int32) (l1 : Int32) {Q : Option Value → jM → Prop} {z : Int32} (h : fX9_figure l0 l1 = some z) (k3 : Q (some (.int z)) (Sh0 n, A, L)) : pX9_figure (jEv jtab (d + 0), jWP (jEv jtab (d + 0)) Q ((Sh0 n).length, jsl (Sh0 n)) pX9_figure, Q, ((Sh0 n).length, jsl (Sh0 n))) 0 [some (.int l0), some (.int l1), none, none] [] (Sh0 n, A, L) := by
  unfold fX9_figure at h
  refine y_mask <| x_iload rfl <| x_istore rfl <| x_iload rfl <| x_push <| x_iadd <| x_istore rfl <| y_mask <| y_goto ?_
  obtain ⟨e1, hw2, h⟩ := of_bind h
  refine jWP.intro (pr := pX9_figure) (pc := 6) ?_
  refine jwh_use (G := (fun s0 => pX9_figure (jEv jtab (d + 0), jWP (jEv jtab (d + 0)) Q ((Sh0 n).length, jsl (Sh0 n)) pX9_figure, Q, ((Sh0 n).length, jsl (Sh0 n))) 6 [none, none, some (.int s0.1), some (.int s0.2)] [] (Sh0 n, A, L))) (Gx := (fun s0 => pX9_figure (jEv jtab (d + 0), jWP (jEv jtab (d + 0)) Q ((Sh0 n).length, jsl (Sh0 n)) pX9_figure, Q, ((Sh0 n).length, jsl (Sh0 n))) 22 [none, none, some (.int s0), none] [] (Sh0 n, A, L))) (fun s1 z1 hz kk1 kk2 => tcX9_figure_6 d n A L s1 hz kk1 kk2) hw2 ?_
  refine y_mask <| x_iload rfl <| x_push <| x_irem (by decide) <| y_ireturn (ls := [none, none, some (.int e1), none]) ?_
  obtain rfl := Option.some.inj h
  exact k3
theorem kX9_figure (d n : Nat) (A : Nat → Nat → Int32) (L : Nat → Nat → Int64) (l0 : Int32) (l1 : Int32) {z : Int32} (h : fX9_figure l0 l1 = some z) : jEv jtab (d + 1) 105 [.int l0, .int l1] (Sh0 n, A, L) 0 0 (fun r M2 => r = some (.int z) ∧ M2 = (Sh0 n, A, L)) :=
  jEv.mk (mt := mX9_figure) rfl (Nat.le_of_ble_eq_true rfl) (jWP.intro (pr := pX9_figure) (pc := 0) (tfX9_figure d n A L l0 l1 h ⟨trivial, jCn.mk ⟨rfl, rfl⟩⟩))
set_option maxRecDepth 20000 in
theorem tcX9_fits_2 (d n : Nat) (A : Nat → Nat → Int32) (L : Nat → Nat → Int64) (l0 : Int32) (l1 : Int32) (l2 : Int32) (s : Int32) {Q : Option Value → jM → Prop} {z : (Int32 ⊕ (Unit ⊕ Int32))} (h : cX9_fits_2 l0 l1 l2 s = some z) (k1 : ∀ s0, z = .inl s0 → pX9_fits (jEv jtab (d + 1), jWP (jEv jtab (d + 1)) Q ((Sh0 n).length, jsl (Sh0 n)) pX9_fits, Q, ((Sh0 n).length, jsl (Sh0 n))) 2 [some (.int l0), some (.int l1), some (.int l2), some (.int s0)] [] (Sh0 n, A, L)) (k2 : ∀ s0, z = .inr (.inl s0) → pX9_fits (jEv jtab (d + 1), jWP (jEv jtab (d + 1)) Q ((Sh0 n).length, jsl (Sh0 n)) pX9_fits, Q, ((Sh0 n).length, jsl (Sh0 n))) 36 [none, none, none, none] [] (Sh0 n, A, L)) (k3 : ∀ s0, z = .inr (.inr s0) → (narrow .boolean (.int s0) = .int s0) → Q (some (.int s0)) (Sh0 n, A, L)) : pX9_fits (jEv jtab (d + 1), jWP (jEv jtab (d + 1)) Q ((Sh0 n).length, jsl (Sh0 n)) pX9_fits, Q, ((Sh0 n).length, jsl (Sh0 n))) 2 [some (.int l0), some (.int l1), some (.int l2), some (.int s)] [] (Sh0 n, A, L) := by
  unfold cX9_fits_2 at h
  refine y_mask <| x_iload rfl <| x_push <| y_cmp_ge (fun h1 => ?_) (fun h1 => ?_)
  · replace h := of_pos h h1
    refine jWP.intro (pr := pX9_fits) (pc := 36) ?_
    have hk := k2 _ (Option.some.inj h).symm
    exact hk
  · replace h := of_neg h h1
    refine jWP.intro (pr := pX9_fits) (pc := 7) ?_
    refine y_mask <| x_iload rfl <| x_iload rfl <| x_ishr <| x_push <| x_iand <| y_if_eq (fun h2 => ?_) (fun h2 => ?_)
    · replace h := of_pos h h2
      refine jWP.intro (pr := pX9_fits) (pc := 30) ?_
      refine y_mask <| x_iinc rfl rfl <| y_mask <| y_goto ?_
      refine jWP.intro (pr := pX9_fits) (pc := 2) ?_
      have hk := k1 _ (Option.some.inj h).symm
      exact hk
    · replace h := of_neg h h2
      refine jWP.intro (pr := pX9_fits) (pc := 15) ?_
      obtain ⟨r3, hc4, h⟩ := of_bind h
      obtain ⟨r5, hc6, h⟩ := of_bind h
      refine y_mask <| x_iload rfl <| x_iload rfl <| y_invS2 (Nat.le_of_ble_eq_true rfl) <| jEv.exI (kX9_figure _ _ _ _ _ _ hc4) <| x_iload rfl <| x_iload rfl <| y_invS2 (Nat.le_of_ble_eq_true rfl) <| jEv.exI (kX9_figure _ _ _ _ _ _ hc6) <| y_cmp_eq (fun h7 => ?_) (fun h7 => ?_)
      · replace h := of_pos h h7
        refine jWP.intro (pr := pX9_fits) (pc := 30) ?_
        refine y_mask <| x_iinc rfl rfl <| y_mask <| y_goto ?_
        refine jWP.intro (pr := pX9_fits) (pc := 2) ?_
        have hk := k1 _ (Option.some.inj h).symm
        exact hk
      · replace h := of_neg h h7
        refine jWP.intro (pr := pX9_fits) (pc := 28) ?_
        refine y_mpri (bs := []) (ls := []) ?_
        have hk := k3 _ (Option.some.inj h).symm
        exact hk (jnar_boolean (.inl rfl))
set_option maxRecDepth 20000 in
theorem tfX9_fits (d n : Nat) (A : Nat → Nat → Int32) (L : Nat → Nat → Int64) (l0 : Int32) (l1 : Int32) (l2 : Int32) {Q : Option Value → jM → Prop} {z : Int32} (h : fX9_fits l0 l1 l2 = some z) (k3 : (narrow .boolean (.int z) = .int z) → Q (some (.int z)) (Sh0 n, A, L)) : pX9_fits (jEv jtab (d + 1), jWP (jEv jtab (d + 1)) Q ((Sh0 n).length, jsl (Sh0 n)) pX9_fits, Q, ((Sh0 n).length, jsl (Sh0 n))) 0 [some (.int l0), some (.int l1), some (.int l2), none] [] (Sh0 n, A, L) := by
  unfold fX9_fits at h
  refine y_mask <| x_push <| x_istore rfl <| y_mask <| y_goto ?_
  obtain ⟨e1y, hw2, h⟩ := of_bind h
  refine jWP.intro (pr := pX9_fits) (pc := 2) ?_
  refine jwh_use2 (G := (fun s0 => pX9_fits (jEv jtab (d + 1), jWP (jEv jtab (d + 1)) Q ((Sh0 n).length, jsl (Sh0 n)) pX9_fits, Q, ((Sh0 n).length, jsl (Sh0 n))) 2 [some (.int l0), some (.int l1), some (.int l2), some (.int s0)] [] (Sh0 n, A, L))) (Gx := (fun s0 => pX9_fits (jEv jtab (d + 1), jWP (jEv jtab (d + 1)) Q ((Sh0 n).length, jsl (Sh0 n)) pX9_fits, Q, ((Sh0 n).length, jsl (Sh0 n))) 36 [none, none, none, none] [] (Sh0 n, A, L))) (Gr := (fun s0 => (narrow .boolean (.int s0) = .int s0) → Q (some (.int s0)) (Sh0 n, A, L))) (fun s1 z1 hz kk1 kk2 kk3 => tcX9_fits_2 d n A L l0 l1 l2 s1 hz kk1 kk2 kk3) hw2 ?_ ?_
  · intro e1 hy
    subst hy
    replace h : (some (1 : Int32)) = some z := h
    refine y_mpri (bs := []) (ls := []) ?_
    obtain rfl := Option.some.inj h
    exact k3 (jnar_boolean (.inr rfl))
  · intro s0 hy
    subst hy
    replace h : some s0 = some z := h
    obtain rfl := Option.some.inj h
    exact k3
theorem kX9_fits (d n : Nat) (A : Nat → Nat → Int32) (L : Nat → Nat → Int64) (l0 : Int32) (l1 : Int32) (l2 : Int32) {z : Int32} (h : fX9_fits l0 l1 l2 = some z) : jEv jtab (d + 2) 104 [.int l0, .int l1, .int l2] (Sh0 n, A, L) 0 0 (fun r M2 => r = some (.int z) ∧ M2 = (Sh0 n, A, L)) :=
  jEv.mk (mt := mX9_fits) rfl (Nat.le_of_ble_eq_true rfl) (jWP.intro (pr := pX9_fits) (pc := 0) (tfX9_fits d n A L l0 l1 l2 h (fun hz => ⟨hz, jCn.mk ⟨rfl, rfl⟩⟩)))
set_option maxRecDepth 20000 in
theorem tcX9_fitting_5 (d n : Nat) (A : Nat → Nat → Int32) (L : Nat → Nat → Int64) (l1 : Int32) (l2 : Int32) (s : (Int32 × Int32)) {Q : Option Value → jM → Prop} {z : ((Int32 × Int32) ⊕ Int32)} (h : cX9_fitting_5 A l1 l2 s = some z) (k1 : ∀ s0, z = .inl s0 → pX9_fitting (jEv jtab (d + 2), jWP (jEv jtab (d + 2)) Q ((Sh0 n).length, jsl (Sh0 n)) pX9_fitting, Q, ((Sh0 n).length, jsl (Sh0 n))) 5 [some (.ref 54), some (.int l1), some (.int l2), some (.int s0.1), some (.int s0.2)] [] (Sh0 n, A, L)) (k2 : ∀ s0, z = .inr s0 → pX9_fitting (jEv jtab (d + 2), jWP (jEv jtab (d + 2)) Q ((Sh0 n).length, jsl (Sh0 n)) pX9_fitting, Q, ((Sh0 n).length, jsl (Sh0 n))) 42 [none, none, none, some (.int s0), none] [] (Sh0 n, A, L)) : pX9_fitting (jEv jtab (d + 2), jWP (jEv jtab (d + 2)) Q ((Sh0 n).length, jsl (Sh0 n)) pX9_fitting, Q, ((Sh0 n).length, jsl (Sh0 n))) 5 [some (.ref 54), some (.int l1), some (.int l2), some (.int s.1), some (.int s.2)] [] (Sh0 n, A, L) := by
  unfold cX9_fitting_5 at h
  refine y_mask <| x_iload rfl <| x_aload rfl <| x_getI (Nat.le_of_ble_eq_true rfl) rfl rfl <| y_cmp_ge (fun h1 => ?_) (fun h1 => ?_)
  · replace h := of_pos h h1
    refine jWP.intro (pr := pX9_fitting) (pc := 42) ?_
    have hk := k2 _ (Option.some.inj h).symm
    exact hk
  · replace h := of_neg h h1
    refine jWP.intro (pr := pX9_fitting) (pc := 14) ?_
    obtain ⟨g2, h⟩ := of_guard h
    obtain ⟨r3, hc4, h⟩ := of_bind h
    refine y_mask <| x_aload rfl <| x_getR (Nat.le_of_ble_eq_true rfl) rfl rfl <| x_iload rfl <| x_iald rfl g2 <| x_iload rfl <| x_iload rfl <| y_invS3 (Nat.le_of_ble_eq_true rfl) <| jEv.exZ (q := 104) rfl (kX9_fits _ _ _ _ _ _ _ hc4) <| fun hz5 => y_if_eq (fun h6 => ?_) (fun h6 => ?_)
    · replace h := of_pos h h6
      refine jWP.intro (pr := pX9_fitting) (pc := 36) ?_
      refine y_mask <| x_iinc rfl rfl <| y_mask <| y_goto ?_
      refine jWP.intro (pr := pX9_fitting) (pc := 5) ?_
      have hk := k1 _ (Option.some.inj h).symm
      exact hk
    · replace h := of_neg h h6
      refine jWP.intro (pr := pX9_fitting) (pc := 29) ?_
      refine y_mask <| x_iload rfl <| x_push <| x_iload rfl <| x_ishl <| x_ior <| x_istore rfl <| y_mask <| y_goto ?_
      refine jWP.intro (pr := pX9_fitting) (pc := 36) ?_
      refine y_mask <| x_iinc rfl rfl <| y_mask <| y_goto ?_
      refine jWP.intro (pr := pX9_fitting) (pc := 5) ?_
      have hk := k1 _ (Option.some.inj h).symm
      exact hk
set_option maxRecDepth 20000 in
theorem tfX9_fitting (d n : Nat) (A : Nat → Nat → Int32) (L : Nat → Nat → Int64) (l1 : Int32) (l2 : Int32) {Q : Option Value → jM → Prop} {z : Int32} (h : fX9_fitting A l1 l2 = some z) (k3 : Q (some (.int z)) (Sh0 n, A, L)) : pX9_fitting (jEv jtab (d + 2), jWP (jEv jtab (d + 2)) Q ((Sh0 n).length, jsl (Sh0 n)) pX9_fitting, Q, ((Sh0 n).length, jsl (Sh0 n))) 0 [some (.ref 54), some (.int l1), some (.int l2), none, none] [] (Sh0 n, A, L) := by
  unfold fX9_fitting at h
  refine y_mask <| x_push <| x_istore rfl <| x_push <| x_istore rfl <| y_mask <| y_goto ?_
  obtain ⟨e1, hw2, h⟩ := of_bind h
  refine jWP.intro (pr := pX9_fitting) (pc := 5) ?_
  refine jwh_use (G := (fun s0 => pX9_fitting (jEv jtab (d + 2), jWP (jEv jtab (d + 2)) Q ((Sh0 n).length, jsl (Sh0 n)) pX9_fitting, Q, ((Sh0 n).length, jsl (Sh0 n))) 5 [some (.ref 54), some (.int l1), some (.int l2), some (.int s0.1), some (.int s0.2)] [] (Sh0 n, A, L))) (Gx := (fun s0 => pX9_fitting (jEv jtab (d + 2), jWP (jEv jtab (d + 2)) Q ((Sh0 n).length, jsl (Sh0 n)) pX9_fitting, Q, ((Sh0 n).length, jsl (Sh0 n))) 42 [none, none, none, some (.int s0), none] [] (Sh0 n, A, L))) (fun s1 z1 hz kk1 kk2 => tcX9_fitting_5 d n A L l1 l2 s1 hz kk1 kk2) hw2 ?_
  refine y_mask <| x_iload rfl <| y_ireturn (ls := [none, none, none, some (.int e1), none]) ?_
  obtain rfl := Option.some.inj h
  exact k3
theorem kX9_fitting (d n : Nat) (A : Nat → Nat → Int32) (L : Nat → Nat → Int64) (l1 : Int32) (l2 : Int32) {z : Int32} (h : fX9_fitting A l1 l2 = some z) : jEv jtab (d + 3) 103 [.ref 54, .int l1, .int l2] (Sh0 n, A, L) 0 0 (fun r M2 => r = some (.int z) ∧ M2 = (Sh0 n, A, L)) :=
  jEv.mk (mt := mX9_fitting) rfl (Nat.le_of_ble_eq_true rfl) (jWP.intro (pr := pX9_fitting) (pc := 0) (tfX9_fitting d n A L l1 l2 h ⟨trivial, jCn.mk ⟨rfl, rfl⟩⟩))
set_option maxRecDepth 20000 in
theorem tfX10_bits (d n : Nat) (A : Nat → Nat → Int32) (L : Nat → Nat → Int64) (l1 : Int32) (l2 : Int32) {Q : Option Value → jM → Prop} {z : Int32} (h : fX10_bits A l1 l2 = some z) (k3 : Q (some (.int z)) (Sh0 n, A, L)) : pX10_bits (jEv jtab (d + 3), jWP (jEv jtab (d + 3)) Q ((Sh0 n).length, jsl (Sh0 n)) pX10_bits, Q, ((Sh0 n).length, jsl (Sh0 n))) 0 [some (.ref 15), some (.int l1), some (.int l2)] [] (Sh0 n, A, L) := by
  unfold fX10_bits at h
  refine y_mask <| x_iload rfl <| x_push <| x_push <| y_invS3 (Nat.le_of_ble_eq_true rfl) <| jEv.exZ (q := 152) rfl (kX10_within _ _ _ _ _ _ _) <| fun hz1 => y_if_eq (fun h2 => ?_) (fun h2 => ?_)
  · replace h := of_pos h h2
    refine jWP.intro (pr := pX10_bits) (pc := 21) ?_
    refine y_mpri (bs := []) (ls := []) ?_
    obtain rfl := Option.some.inj h
    exact k3
  · replace h := of_neg h h2
    refine jWP.intro (pr := pX10_bits) (pc := 11) ?_
    refine y_mask <| x_iload rfl <| x_push <| x_push <| y_invS3 (Nat.le_of_ble_eq_true rfl) <| jEv.exZ (q := 152) rfl (kX10_within _ _ _ _ _ _ _) <| fun hz3 => y_if_ne (fun h4 => ?_) (fun h4 => ?_)
    · replace h := of_neg h h4
      refine jWP.intro (pr := pX10_bits) (pc := 24) ?_
      obtain ⟨r5, hc6, h⟩ := of_bind h
      refine y_mask <| x_aload rfl <| x_getR (Nat.le_of_ble_eq_true rfl) rfl rfl <| x_iload rfl <| x_iload rfl <| y_invV2 (Nat.le_of_ble_eq_true rfl) rfl (Nat.le_of_ble_eq_true rfl) <| jEv.exI (kX9_fitting _ _ _ _ _ _ hc6) <| y_ireturn (ls := [some (.ref 15), some (.int l1), some (.int l2)]) ?_
      obtain rfl := Option.some.inj h
      exact k3
    · replace h := of_pos h h4
      refine jWP.intro (pr := pX10_bits) (pc := 21) ?_
      refine y_mpri (bs := []) (ls := []) ?_
      obtain rfl := Option.some.inj h
      exact k3
theorem kX10_bits (d n : Nat) (A : Nat → Nat → Int32) (L : Nat → Nat → Int64) (l1 : Int32) (l2 : Int32) {z : Int32} (h : fX10_bits A l1 l2 = some z) : jEv jtab (d + 4) 129 [.ref 15, .int l1, .int l2] (Sh0 n, A, L) 0 0 (fun r M2 => r = some (.int z) ∧ M2 = (Sh0 n, A, L)) :=
  jEv.mk (mt := mX10_bits) rfl (Nat.le_of_ble_eq_true rfl) (jWP.intro (pr := pX10_bits) (pc := 0) (tfX10_bits d n A L l1 l2 h ⟨trivial, jCn.mk ⟨rfl, rfl⟩⟩))
set_option maxRecDepth 20000 in
theorem tcX9_mostAlike_18 (d n : Nat) (A : Nat → Nat → Int32) (L : Nat → Nat → Int64) (l1 : Int32) (l2 : Int32) (l3 : Int32) (l4 : Int32) (s : (Int32 × Int32)) {Q : Option Value → jM → Prop} {z : ((Int32 × Int32) ⊕ Int32)} (h : cX9_mostAlike_18 A l1 l2 l3 l4 s = some z) (k1 : ∀ s0, z = .inl s0 → pX9_mostAlike (jEv jtab (d + 1), jWP (jEv jtab (d + 1)) Q ((Sh0 n).length, jsl (Sh0 n)) pX9_mostAlike, Q, ((Sh0 n).length, jsl (Sh0 n))) 18 [some (.ref 54), some (.int l1), some (.int l2), some (.int l3), some (.int l4), some (.int s0.1), some (.int s0.2)] [] (Sh0 n, A, L)) (k2 : ∀ s0, z = .inr s0 → pX9_mostAlike (jEv jtab (d + 1), jWP (jEv jtab (d + 1)) Q ((Sh0 n).length, jsl (Sh0 n)) pX9_mostAlike, Q, ((Sh0 n).length, jsl (Sh0 n))) 61 [some (.ref 54), some (.int l1), some (.int l2), some (.int l3), some (.int l4), some (.int s0), none] [] (Sh0 n, A, L)) : pX9_mostAlike (jEv jtab (d + 1), jWP (jEv jtab (d + 1)) Q ((Sh0 n).length, jsl (Sh0 n)) pX9_mostAlike, Q, ((Sh0 n).length, jsl (Sh0 n))) 18 [some (.ref 54), some (.int l1), some (.int l2), some (.int l3), some (.int l4), some (.int s.1), some (.int s.2)] [] (Sh0 n, A, L) := by
  unfold cX9_mostAlike_18 at h
  refine y_mask <| x_iload rfl <| x_aload rfl <| x_getI (Nat.le_of_ble_eq_true rfl) rfl rfl <| y_cmp_ge (fun h1 => ?_) (fun h1 => ?_)
  · replace h := of_pos h h1
    refine jWP.intro (pr := pX9_mostAlike) (pc := 61) ?_
    have hk := k2 _ (Option.some.inj h).symm
    exact hk
  · replace h := of_neg h h1
    refine jWP.intro (pr := pX9_mostAlike) (pc := 27) ?_
    refine y_mask <| x_iload rfl <| x_iload rfl <| x_ishr <| x_push <| x_iand <| y_if_eq (fun h2 => ?_) (fun h2 => ?_)
    · replace h := of_pos h h2
      refine jWP.intro (pr := pX9_mostAlike) (pc := 55) ?_
      refine y_mask <| x_iinc rfl rfl <| y_mask <| y_goto ?_
      refine jWP.intro (pr := pX9_mostAlike) (pc := 18) ?_
      have hk := k1 _ (Option.some.inj h).symm
      exact hk
    · replace h := of_neg h h2
      refine jWP.intro (pr := pX9_mostAlike) (pc := 36) ?_
      obtain ⟨g3, h⟩ := of_guard h
      obtain ⟨r4, hc5, h⟩ := of_bind h
      refine y_mask <| x_aload rfl <| x_getR (Nat.le_of_ble_eq_true rfl) rfl rfl <| x_iload rfl <| x_iald rfl g3 <| x_iload rfl <| y_invS2 (Nat.le_of_ble_eq_true rfl) <| jEv.exI (kX9_figure _ _ _ _ _ _ hc5) <| x_iload rfl <| y_cmp_ne (fun h6 => ?_) (fun h6 => ?_)
      · replace h := of_neg h h6
        refine jWP.intro (pr := pX9_mostAlike) (pc := 55) ?_
        refine y_mask <| x_iinc rfl rfl <| y_mask <| y_goto ?_
        refine jWP.intro (pr := pX9_mostAlike) (pc := 18) ?_
        have hk := k1 _ (Option.some.inj h).symm
        exact hk
      · replace h := of_pos h h6
        refine jWP.intro (pr := pX9_mostAlike) (pc := 52) ?_
        refine y_mask <| x_iinc rfl rfl <| y_mask <| y_goto ?_
        refine jWP.intro (pr := pX9_mostAlike) (pc := 55) ?_
        refine y_mask <| x_iinc rfl rfl <| y_mask <| y_goto ?_
        refine jWP.intro (pr := pX9_mostAlike) (pc := 18) ?_
        have hk := k1 _ (Option.some.inj h).symm
        exact hk
set_option maxRecDepth 20000 in
theorem tcX9_mostAlike_5 (d n : Nat) (A : Nat → Nat → Int32) (L : Nat → Nat → Int64) (l1 : Int32) (l2 : Int32) (s : (Int32 × Int32)) {Q : Option Value → jM → Prop} {z : ((Int32 × Int32) ⊕ Int32)} (h : cX9_mostAlike_5 A l1 l2 s = some z) (k1 : ∀ s0, z = .inl s0 → pX9_mostAlike (jEv jtab (d + 1), jWP (jEv jtab (d + 1)) Q ((Sh0 n).length, jsl (Sh0 n)) pX9_mostAlike, Q, ((Sh0 n).length, jsl (Sh0 n))) 5 [some (.ref 54), some (.int l1), some (.int l2), some (.int s0.1), some (.int s0.2), none, none] [] (Sh0 n, A, L)) (k2 : ∀ s0, z = .inr s0 → pX9_mostAlike (jEv jtab (d + 1), jWP (jEv jtab (d + 1)) Q ((Sh0 n).length, jsl (Sh0 n)) pX9_mostAlike, Q, ((Sh0 n).length, jsl (Sh0 n))) 74 [none, none, none, some (.int s0), none, none, none] [] (Sh0 n, A, L)) : pX9_mostAlike (jEv jtab (d + 1), jWP (jEv jtab (d + 1)) Q ((Sh0 n).length, jsl (Sh0 n)) pX9_mostAlike, Q, ((Sh0 n).length, jsl (Sh0 n))) 5 [some (.ref 54), some (.int l1), some (.int l2), some (.int s.1), some (.int s.2), none, none] [] (Sh0 n, A, L) := by
  unfold cX9_mostAlike_5 at h
  refine y_mask <| x_iload rfl <| x_push <| y_cmp_ge (fun h1 => ?_) (fun h1 => ?_)
  · replace h := of_pos h h1
    refine jWP.intro (pr := pX9_mostAlike) (pc := 74) ?_
    have hk := k2 _ (Option.some.inj h).symm
    exact hk
  · replace h := of_neg h h1
    refine jWP.intro (pr := pX9_mostAlike) (pc := 12) ?_
    refine y_mask <| x_push <| x_istore rfl <| x_push <| x_istore rfl <| y_mask <| y_goto ?_
    obtain ⟨e2, hw3, h⟩ := of_bind h
    refine jWP.intro (pr := pX9_mostAlike) (pc := 18) ?_
    refine jwh_use (G := (fun s0 => pX9_mostAlike (jEv jtab (d + 1), jWP (jEv jtab (d + 1)) Q ((Sh0 n).length, jsl (Sh0 n)) pX9_mostAlike, Q, ((Sh0 n).length, jsl (Sh0 n))) 18 [some (.ref 54), some (.int l1), some (.int l2), some (.int s.1), some (.int s.2), some (.int s0.1), some (.int s0.2)] [] (Sh0 n, A, L))) (Gx := (fun s0 => pX9_mostAlike (jEv jtab (d + 1), jWP (jEv jtab (d + 1)) Q ((Sh0 n).length, jsl (Sh0 n)) pX9_mostAlike, Q, ((Sh0 n).length, jsl (Sh0 n))) 61 [some (.ref 54), some (.int l1), some (.int l2), some (.int s.1), some (.int s.2), some (.int s0), none] [] (Sh0 n, A, L))) (fun s1 z1 hz kk1 kk2 => tcX9_mostAlike_18 d n A L l1 l2 s.1 s.2 s1 hz kk1 kk2) hw3 ?_
    refine y_mask <| x_iload rfl <| x_iload rfl <| y_mmax (Nat.le_of_ble_eq_true rfl) <| x_istore rfl <| x_iinc rfl rfl <| y_mask <| y_goto ?_
    refine jWP.intro (pr := pX9_mostAlike) (pc := 5) ?_
    have hk := k1 _ (Option.some.inj h).symm
    exact hk
set_option maxRecDepth 20000 in
theorem tfX9_mostAlike (d n : Nat) (A : Nat → Nat → Int32) (L : Nat → Nat → Int64) (l1 : Int32) (l2 : Int32) {Q : Option Value → jM → Prop} {z : Int32} (h : fX9_mostAlike A l1 l2 = some z) (k3 : Q (some (.int z)) (Sh0 n, A, L)) : pX9_mostAlike (jEv jtab (d + 1), jWP (jEv jtab (d + 1)) Q ((Sh0 n).length, jsl (Sh0 n)) pX9_mostAlike, Q, ((Sh0 n).length, jsl (Sh0 n))) 0 [some (.ref 54), some (.int l1), some (.int l2), none, none, none, none] [] (Sh0 n, A, L) := by
  unfold fX9_mostAlike at h
  refine y_mask <| x_push <| x_istore rfl <| x_push <| x_istore rfl <| y_mask <| y_goto ?_
  obtain ⟨e1, hw2, h⟩ := of_bind h
  refine jWP.intro (pr := pX9_mostAlike) (pc := 5) ?_
  refine jwh_use (G := (fun s0 => pX9_mostAlike (jEv jtab (d + 1), jWP (jEv jtab (d + 1)) Q ((Sh0 n).length, jsl (Sh0 n)) pX9_mostAlike, Q, ((Sh0 n).length, jsl (Sh0 n))) 5 [some (.ref 54), some (.int l1), some (.int l2), some (.int s0.1), some (.int s0.2), none, none] [] (Sh0 n, A, L))) (Gx := (fun s0 => pX9_mostAlike (jEv jtab (d + 1), jWP (jEv jtab (d + 1)) Q ((Sh0 n).length, jsl (Sh0 n)) pX9_mostAlike, Q, ((Sh0 n).length, jsl (Sh0 n))) 74 [none, none, none, some (.int s0), none, none, none] [] (Sh0 n, A, L))) (fun s1 z1 hz kk1 kk2 => tcX9_mostAlike_5 d n A L l1 l2 s1 hz kk1 kk2) hw2 ?_
  refine y_mask <| x_iload rfl <| y_ireturn (ls := [none, none, none, some (.int e1), none, none, none]) ?_
  obtain rfl := Option.some.inj h
  exact k3
theorem kX9_mostAlike (d n : Nat) (A : Nat → Nat → Int32) (L : Nat → Nat → Int64) (l1 : Int32) (l2 : Int32) {z : Int32} (h : fX9_mostAlike A l1 l2 = some z) : jEv jtab (d + 2) 106 [.ref 54, .int l1, .int l2] (Sh0 n, A, L) 0 0 (fun r M2 => r = some (.int z) ∧ M2 = (Sh0 n, A, L)) :=
  jEv.mk (mt := mX9_mostAlike) rfl (Nat.le_of_ble_eq_true rfl) (jWP.intro (pr := pX9_mostAlike) (pc := 0) (tfX9_mostAlike d n A L l1 l2 h ⟨trivial, jCn.mk ⟨rfl, rfl⟩⟩))
set_option maxRecDepth 20000 in
theorem tjX10_ask_93_53 (d n : Nat) (A : Nat → Nat → Int32) (L : Nat → Nat → Int64) (l2 : Int32) (l3 : Int32) (l4 : Int32) (l7 : Int32) (l8 : Int32) {Q : Option Value → jM → Prop} {z : ((Int32 × Int32 × Int32) ⊕ (Int32 × Int32))} (h : jX10_ask_93_53 A l2 l3 l4 l7 l8 = some z) (k1 : ∀ s0, z = .inl s0 → pX10_ask (jEv jtab (d + 3), jWP (jEv jtab (d + 3)) Q ((Sh0 n).length, jsl (Sh0 n)) pX10_ask, Q, ((Sh0 n).length, jsl (Sh0 n))) 53 [some (.ref 15), none, some (.int l2), some (.int l3), some (.int l4), some (.int s0.1), some (.int s0.2.1), some (.int s0.2.2), none] [] (Sh0 n, A, L)) (k2 : ∀ s0, z = .inr s0 → pX10_ask (jEv jtab (d + 3), jWP (jEv jtab (d + 3)) Q ((Sh0 n).length, jsl (Sh0 n)) pX10_ask, Q, ((Sh0 n).length, jsl (Sh0 n))) 107 [none, none, none, some (.int l3), none, some (.int s0.1), some (.int s0.2), none, none] [] (Sh0 n, A, L)) : pX10_ask (jEv jtab (d + 3), jWP (jEv jtab (d + 3)) Q ((Sh0 n).length, jsl (Sh0 n)) pX10_ask, Q, ((Sh0 n).length, jsl (Sh0 n))) 93 [some (.ref 15), none, some (.int l2), some (.int l3), some (.int l4), none, none, some (.int l7), some (.int l8)] [] (Sh0 n, A, L) := by
  unfold jX10_ask_93_53 at h
  refine y_mask <| x_iload rfl <| x_istore rfl <| x_iload rfl <| x_istore rfl <| y_mask <| y_goto ?_
  refine jWP.intro (pr := pX10_ask) (pc := 101) ?_
  refine y_mask <| x_iinc rfl rfl <| y_mask <| y_goto ?_
  refine jWP.intro (pr := pX10_ask) (pc := 53) ?_
  have hk := k1 _ (Option.some.inj h).symm
  exact hk
set_option maxRecDepth 20000 in
theorem tcX10_ask_53 (d n : Nat) (A : Nat → Nat → Int32) (L : Nat → Nat → Int64) (l2 : Int32) (l3 : Int32) (l4 : Int32) (s : (Int32 × Int32 × Int32)) {Q : Option Value → jM → Prop} {z : ((Int32 × Int32 × Int32) ⊕ (Int32 × Int32))} (h : cX10_ask_53 A l2 l3 l4 s = some z) (k1 : ∀ s0, z = .inl s0 → pX10_ask (jEv jtab (d + 3), jWP (jEv jtab (d + 3)) Q ((Sh0 n).length, jsl (Sh0 n)) pX10_ask, Q, ((Sh0 n).length, jsl (Sh0 n))) 53 [some (.ref 15), none, some (.int l2), some (.int l3), some (.int l4), some (.int s0.1), some (.int s0.2.1), some (.int s0.2.2), none] [] (Sh0 n, A, L)) (k2 : ∀ s0, z = .inr s0 → pX10_ask (jEv jtab (d + 3), jWP (jEv jtab (d + 3)) Q ((Sh0 n).length, jsl (Sh0 n)) pX10_ask, Q, ((Sh0 n).length, jsl (Sh0 n))) 107 [none, none, none, some (.int l3), none, some (.int s0.1), some (.int s0.2), none, none] [] (Sh0 n, A, L)) : pX10_ask (jEv jtab (d + 3), jWP (jEv jtab (d + 3)) Q ((Sh0 n).length, jsl (Sh0 n)) pX10_ask, Q, ((Sh0 n).length, jsl (Sh0 n))) 53 [some (.ref 15), none, some (.int l2), some (.int l3), some (.int l4), some (.int s.1), some (.int s.2.1), some (.int s.2.2), none] [] (Sh0 n, A, L) := by
  unfold cX10_ask_53 at h
  refine y_mask <| x_iload rfl <| x_push <| y_cmp_ge (fun h1 => ?_) (fun h1 => ?_)
  · replace h := of_pos h h1
    refine jWP.intro (pr := pX10_ask) (pc := 107) ?_
    have hk := k2 _ (Option.some.inj h).symm
    exact hk
  · replace h := of_neg h h1
    refine jWP.intro (pr := pX10_ask) (pc := 59) ?_
    refine y_mask <| x_iload rfl <| x_iload rfl <| x_ishr <| x_push <| x_iand <| y_if_ne (fun h2 => ?_) (fun h2 => ?_)
    · replace h := of_neg h h2
      refine jWP.intro (pr := pX10_ask) (pc := 101) ?_
      refine y_mask <| x_iinc rfl rfl <| y_mask <| y_goto ?_
      refine jWP.intro (pr := pX10_ask) (pc := 53) ?_
      have hk := k1 _ (Option.some.inj h).symm
      exact hk
    · replace h := of_pos h h2
      refine jWP.intro (pr := pX10_ask) (pc := 68) ?_
      obtain ⟨r3, hc4, h⟩ := of_bind h
      refine y_mask <| x_aload rfl <| x_getR (Nat.le_of_ble_eq_true rfl) rfl rfl <| x_iload rfl <| x_iload rfl <| y_invV2 (Nat.le_of_ble_eq_true rfl) rfl (Nat.le_of_ble_eq_true rfl) <| jEv.exI (kX9_mostAlike _ _ _ _ _ _ hc4) <| x_istore rfl <| x_iload rfl <| y_if_lt (fun h5 => ?_) (fun h5 => ?_)
      · replace h := of_pos h h5
        refine jWP.intro (pr := pX10_ask) (pc := 93) ?_
        exact tjX10_ask_93_53 d n A L l2 l3 l4 s.2.2 r3 h k1 k2
      · replace h := of_neg h h5
        refine jWP.intro (pr := pX10_ask) (pc := 86) ?_
        refine y_mask <| x_iload rfl <| x_iload rfl <| y_cmp_ge (fun h6 => ?_) (fun h6 => ?_)
        · replace h := of_pos h h6
          refine jWP.intro (pr := pX10_ask) (pc := 101) ?_
          refine y_mask <| x_iinc rfl rfl <| y_mask <| y_goto ?_
          refine jWP.intro (pr := pX10_ask) (pc := 53) ?_
          have hk := k1 _ (Option.some.inj h).symm
          exact hk
        · replace h := of_neg h h6
          refine jWP.intro (pr := pX10_ask) (pc := 93) ?_
          exact tjX10_ask_93_53 d n A L l2 l3 l4 s.2.2 r3 h k1 k2
set_option maxRecDepth 20000 in
theorem tfX10_ask (d n : Nat) (A : Nat → Nat → Int32) (L : Nat → Nat → Int64) (l1 : Int32) (l2 : Int32) (l3 : Int32) {Q : Option Value → jM → Prop} {z : Int32} (h : fX10_ask A l1 l2 l3 = some z) (k3 : Q (some (.int z)) (Sh0 n, A, L)) : pX10_ask (jEv jtab (d + 3), jWP (jEv jtab (d + 3)) Q ((Sh0 n).length, jsl (Sh0 n)) pX10_ask, Q, ((Sh0 n).length, jsl (Sh0 n))) 0 [some (.ref 15), some (.int l1), some (.int l2), some (.int l3), none, none, none, none, none] [] (Sh0 n, A, L) := by
  unfold fX10_ask at h
  refine y_mask <| x_iload rfl <| x_push <| x_push <| y_invS3 (Nat.le_of_ble_eq_true rfl) <| jEv.exZ (q := 152) rfl (kX10_within _ _ _ _ _ _ _) <| fun hz1 => y_if_eq (fun h2 => ?_) (fun h2 => ?_)
  · replace h := of_pos h h2
    refine jWP.intro (pr := pX10_ask) (pc := 30) ?_
    refine y_mpri (bs := []) (ls := []) ?_
    obtain rfl := Option.some.inj h
    exact k3
  · replace h := of_neg h h2
    refine jWP.intro (pr := pX10_ask) (pc := 11) ?_
    refine y_mask <| x_iload rfl <| x_push <| x_push <| y_invS3 (Nat.le_of_ble_eq_true rfl) <| jEv.exZ (q := 152) rfl (kX10_within _ _ _ _ _ _ _) <| fun hz3 => y_if_eq (fun h4 => ?_) (fun h4 => ?_)
    · replace h := of_pos h h4
      refine jWP.intro (pr := pX10_ask) (pc := 30) ?_
      refine y_mpri (bs := []) (ls := []) ?_
      obtain rfl := Option.some.inj h
      exact k3
    · replace h := of_neg h h4
      refine jWP.intro (pr := pX10_ask) (pc := 21) ?_
      refine y_mask <| x_iload rfl <| x_push <| x_push <| y_invS3 (Nat.le_of_ble_eq_true rfl) <| jEv.exZ (q := 152) rfl (kX10_within _ _ _ _ _ _ _) <| fun hz5 => y_if_ne (fun h6 => ?_) (fun h6 => ?_)
      · replace h := of_neg h h6
        refine jWP.intro (pr := pX10_ask) (pc := 33) ?_
        obtain ⟨r7, hc8, h⟩ := of_bind h
        refine y_mask <| x_aload rfl <| x_getR (Nat.le_of_ble_eq_true rfl) rfl rfl <| x_iload rfl <| x_iload rfl <| y_invV2 (Nat.le_of_ble_eq_true rfl) rfl (Nat.le_of_ble_eq_true rfl) <| jEv.exI (kX9_fitting _ _ _ _ _ _ hc8) <| x_istore rfl <| x_push <| x_istore rfl <| x_push <| x_istore rfl <| x_push <| x_istore rfl <| y_mask <| y_goto ?_
        obtain ⟨e9, hw10, h⟩ := of_bind h
        refine jWP.intro (pr := pX10_ask) (pc := 53) ?_
        refine jwh_use (G := (fun s0 => pX10_ask (jEv jtab (d + 3), jWP (jEv jtab (d + 3)) Q ((Sh0 n).length, jsl (Sh0 n)) pX10_ask, Q, ((Sh0 n).length, jsl (Sh0 n))) 53 [some (.ref 15), none, some (.int l2), some (.int l3), some (.int r7), some (.int s0.1), some (.int s0.2.1), some (.int s0.2.2), none] [] (Sh0 n, A, L))) (Gx := (fun s0 => pX10_ask (jEv jtab (d + 3), jWP (jEv jtab (d + 3)) Q ((Sh0 n).length, jsl (Sh0 n)) pX10_ask, Q, ((Sh0 n).length, jsl (Sh0 n))) 107 [none, none, none, some (.int l3), none, some (.int s0.1), some (.int s0.2), none, none] [] (Sh0 n, A, L))) (fun s1 z1 hz kk1 kk2 => tcX10_ask_53 d n A L l2 l3 r7 s1 hz kk1 kk2) hw10 ?_
        refine y_mask <| x_iload rfl <| y_if_ne (fun h11 => ?_) (fun h11 => ?_)
        · replace h := of_neg h h11
          refine jWP.intro (pr := pX10_ask) (pc := 116) ?_
          refine y_mask <| x_iload rfl <| y_mask <| y_goto ?_
          refine jWP.intro (pr := pX10_ask) (pc := 118) ?_
          refine y_mri (bs := []) (ls := []) ?_
          obtain rfl := Option.some.inj h
          exact k3
        · replace h := of_pos h h11
          refine jWP.intro (pr := pX10_ask) (pc := 111) ?_
          refine y_mask <| x_iload rfl <| y_mask <| y_goto ?_
          refine jWP.intro (pr := pX10_ask) (pc := 118) ?_
          refine y_mri (bs := []) (ls := []) ?_
          obtain rfl := Option.some.inj h
          exact k3
      · replace h := of_pos h h6
        refine jWP.intro (pr := pX10_ask) (pc := 30) ?_
        refine y_mpri (bs := []) (ls := []) ?_
        obtain rfl := Option.some.inj h
        exact k3
theorem kX10_ask (d n : Nat) (A : Nat → Nat → Int32) (L : Nat → Nat → Int64) (l1 : Int32) (l2 : Int32) (l3 : Int32) {z : Int32} (h : fX10_ask A l1 l2 l3 = some z) : jEv jtab (d + 4) 130 [.ref 15, .int l1, .int l2, .int l3] (Sh0 n, A, L) 0 0 (fun r M2 => r = some (.int z) ∧ M2 = (Sh0 n, A, L)) :=
  jEv.mk (mt := mX10_ask) rfl (Nat.le_of_ble_eq_true rfl) (jWP.intro (pr := pX10_ask) (pc := 0) (tfX10_ask d n A L l1 l2 l3 h ⟨trivial, jCn.mk ⟨rfl, rfl⟩⟩))
set_option maxRecDepth 20000 in
theorem tfX10_clocks (d n : Nat) (A : Nat → Nat → Int32) (L : Nat → Nat → Int64) (l1 : Int32) (l2 : Int32) (l3 : Int32) (l4 : Int32) {Q : Option Value → jM → Prop} {z : Int64} (h : fX10_clocks l1 l2 l3 l4 = some z) (k3 : Q (some (.long z)) (Sh0 n, A, L)) : pX10_clocks (jEv jtab (d + 2), jWP (jEv jtab (d + 2)) Q ((Sh0 n).length, jsl (Sh0 n)) pX10_clocks, Q, ((Sh0 n).length, jsl (Sh0 n))) 0 [some (.ref 15), some (.int l1), some (.int l2), some (.int l3), some (.int l4), none, none] [] (Sh0 n, A, L) := by
  unfold fX10_clocks at h
  refine y_mask <| x_iload rfl <| x_push <| x_push <| y_invS3 (Nat.le_of_ble_eq_true rfl) <| jEv.exZ (q := 152) rfl (kX10_within _ _ _ _ _ _ _) <| fun hz1 => y_if_eq (fun h2 => ?_) (fun h2 => ?_)
  · replace h := of_pos h h2
    refine jWP.intro (pr := pX10_clocks) (pc := 47) ?_
    refine y_mprl (bs := []) (ls := []) ?_
    obtain rfl := Option.some.inj h
    exact k3
  · replace h := of_neg h h2
    refine jWP.intro (pr := pX10_clocks) (pc := 13) ?_
    refine y_mask <| x_iload rfl <| x_push <| x_push <| y_invS3 (Nat.le_of_ble_eq_true rfl) <| jEv.exZ (q := 152) rfl (kX10_within _ _ _ _ _ _ _) <| fun hz3 => y_if_eq (fun h4 => ?_) (fun h4 => ?_)
    · replace h := of_pos h h4
      refine jWP.intro (pr := pX10_clocks) (pc := 47) ?_
      refine y_mprl (bs := []) (ls := []) ?_
      obtain rfl := Option.some.inj h
      exact k3
    · replace h := of_neg h h4
      refine jWP.intro (pr := pX10_clocks) (pc := 26) ?_
      refine y_mask <| x_iload rfl <| x_push <| x_push <| y_invS3 (Nat.le_of_ble_eq_true rfl) <| jEv.exZ (q := 152) rfl (kX10_within _ _ _ _ _ _ _) <| fun hz5 => y_if_eq (fun h6 => ?_) (fun h6 => ?_)
      · replace h := of_pos h h6
        refine jWP.intro (pr := pX10_clocks) (pc := 47) ?_
        refine y_mprl (bs := []) (ls := []) ?_
        obtain rfl := Option.some.inj h
        exact k3
      · replace h := of_neg h h6
        refine jWP.intro (pr := pX10_clocks) (pc := 37) ?_
        refine y_mask <| x_iload rfl <| x_push <| x_push <| y_invS3 (Nat.le_of_ble_eq_true rfl) <| jEv.exZ (q := 152) rfl (kX10_within _ _ _ _ _ _ _) <| fun hz7 => y_if_ne (fun h8 => ?_) (fun h8 => ?_)
        · replace h := of_neg h h8
          refine jWP.intro (pr := pX10_clocks) (pc := 51) ?_
          refine y_mask <| x_iload rfl <| x_push <| x_idiv (by decide) <| x_istore rfl <| x_iload rfl <| x_push <| x_irem (by decide) <| x_istore rfl <| x_iload rfl <| x_push <| y_cmp_lt (fun h9 => ?_) (fun h9 => ?_)
          · replace h := of_pos h h9
            refine jWP.intro (pr := pX10_clocks) (pc := 75) ?_
            refine y_mprl (bs := []) (ls := []) ?_
            obtain rfl := Option.some.inj h
            exact k3
          · replace h := of_neg h h9
            refine jWP.intro (pr := pX10_clocks) (pc := 69) ?_
            refine y_mask <| x_iload rfl <| x_push <| y_cmp_ge (fun h10 => ?_) (fun h10 => ?_)
            · replace h := of_pos h h10
              refine jWP.intro (pr := pX10_clocks) (pc := 79) ?_
              refine y_mask <| x_iload rfl <| x_push <| y_cmp_ge (fun h11 => ?_) (fun h11 => ?_)
              · replace h := of_pos h h11
                refine jWP.intro (pr := pX10_clocks) (pc := 109) ?_
                obtain ⟨r12, hc13, h⟩ := of_bind h
                refine y_mask <| x_iload rfl <| x_iload rfl <| x_imul <| x_i2l <| x_iload rfl <| x_iload rfl <| x_iadd <| x_i2l <| x_iload rfl <| x_push <| x_isub <| y_invS3 (Nat.le_of_ble_eq_true rfl) <| jEv.exL (kX10_lowest _ _ _ _ _ _ _ hc13) <| y_mask <| y_goto ?_
                refine jWP.intro (pr := pX10_clocks) (pc := 128) ?_
                refine y_mrl (bs := []) (ls := []) ?_
                obtain rfl := Option.some.inj h
                exact k3
              · replace h := of_neg h h11
                refine jWP.intro (pr := pX10_clocks) (pc := 85) ?_
                obtain ⟨r14, hc15, h⟩ := of_bind h
                refine y_mask <| x_iload rfl <| x_iload rfl <| x_imul <| x_iload rfl <| x_iload rfl <| x_imul <| x_iadd <| x_i2l <| x_iload rfl <| x_iload rfl <| x_iadd <| x_i2l <| x_iload rfl <| y_invS3 (Nat.le_of_ble_eq_true rfl) <| jEv.exL (kX10_lowest _ _ _ _ _ _ _ hc15) <| y_mask <| y_goto ?_
                refine jWP.intro (pr := pX10_clocks) (pc := 128) ?_
                refine y_mrl (bs := []) (ls := []) ?_
                obtain rfl := Option.some.inj h
                exact k3
            · replace h := of_neg h h10
              refine jWP.intro (pr := pX10_clocks) (pc := 75) ?_
              refine y_mprl (bs := []) (ls := []) ?_
              obtain rfl := Option.some.inj h
              exact k3
        · replace h := of_pos h h8
          refine jWP.intro (pr := pX10_clocks) (pc := 47) ?_
          refine y_mprl (bs := []) (ls := []) ?_
          obtain rfl := Option.some.inj h
          exact k3
theorem kX10_clocks (d n : Nat) (A : Nat → Nat → Int32) (L : Nat → Nat → Int64) (l1 : Int32) (l2 : Int32) (l3 : Int32) (l4 : Int32) {z : Int64} (h : fX10_clocks l1 l2 l3 l4 = some z) : jEv jtab (d + 3) 131 [.ref 15, .int l1, .int l2, .int l3, .int l4] (Sh0 n, A, L) 0 0 (fun r M2 => r = some (.long z) ∧ M2 = (Sh0 n, A, L)) :=
  jEv.mk (mt := mX10_clocks) rfl (Nat.le_of_ble_eq_true rfl) (jWP.intro (pr := pX10_clocks) (pc := 0) (tfX10_clocks d n A L l1 l2 l3 l4 h ⟨trivial, jCn.mk ⟨rfl, rfl⟩⟩))
set_option maxRecDepth 20000 in
theorem tfX10_isShip (d n : Nat) (A : Nat → Nat → Int32) (L : Nat → Nat → Int64) (l0 : Int32) {Q : Option Value → jM → Prop} {z : Int32} (h : fX10_isShip l0 = z) (k3 : (narrow .boolean (.int z) = .int z) → Q (some (.int z)) (Sh0 n, A, L)) : pX10_isShip (jEv jtab (d + 1), jWP (jEv jtab (d + 1)) Q ((Sh0 n).length, jsl (Sh0 n)) pX10_isShip, Q, ((Sh0 n).length, jsl (Sh0 n))) 0 [some (.int l0)] [] (Sh0 n, A, L) := by
  unfold fX10_isShip at h
  refine y_mask <| x_iload rfl <| x_push <| x_push <| y_invS3 (Nat.le_of_ble_eq_true rfl) <| jEv.exZ (q := 152) rfl (kX10_within _ _ _ _ _ _ _) <| fun hz1 => y_ireturn (ls := [some (.int l0)]) ?_
  subst h
  exact k3 hz1
theorem kX10_isShip (d n : Nat) (A : Nat → Nat → Int32) (L : Nat → Nat → Int64) (l0 : Int32) : jEv jtab (d + 2) 153 [.int l0] (Sh0 n, A, L) 0 0 (fun r M2 => r = some (.int (fX10_isShip l0)) ∧ M2 = (Sh0 n, A, L)) :=
  jEv.mk (mt := mX10_isShip) rfl (Nat.le_of_ble_eq_true rfl) (jWP.intro (pr := pX10_isShip) (pc := 0) (tfX10_isShip d n A L l0 rfl (fun hz => ⟨hz, jCn.mk ⟨rfl, rfl⟩⟩)))
set_option maxRecDepth 20000 in
theorem tfX10_isDay (d n : Nat) (A : Nat → Nat → Int32) (L : Nat → Nat → Int64) (l0 : Int32) {Q : Option Value → jM → Prop} {z : Int32} (h : fX10_isDay l0 = z) (k3 : (narrow .boolean (.int z) = .int z) → Q (some (.int z)) (Sh0 n, A, L)) : pX10_isDay (jEv jtab (d + 1), jWP (jEv jtab (d + 1)) Q ((Sh0 n).length, jsl (Sh0 n)) pX10_isDay, Q, ((Sh0 n).length, jsl (Sh0 n))) 0 [some (.int l0)] [] (Sh0 n, A, L) := by
  unfold fX10_isDay at h
  refine y_mask <| x_iload rfl <| x_push <| x_push <| y_invS3 (Nat.le_of_ble_eq_true rfl) <| jEv.exZ (q := 152) rfl (kX10_within _ _ _ _ _ _ _) <| fun hz1 => y_ireturn (ls := [some (.int l0)]) ?_
  subst h
  exact k3 hz1
theorem kX10_isDay (d n : Nat) (A : Nat → Nat → Int32) (L : Nat → Nat → Int64) (l0 : Int32) : jEv jtab (d + 2) 154 [.int l0] (Sh0 n, A, L) 0 0 (fun r M2 => r = some (.int (fX10_isDay l0)) ∧ M2 = (Sh0 n, A, L)) :=
  jEv.mk (mt := mX10_isDay) rfl (Nat.le_of_ble_eq_true rfl) (jWP.intro (pr := pX10_isDay) (pc := 0) (tfX10_isDay d n A L l0 rfl (fun hz => ⟨hz, jCn.mk ⟨rfl, rfl⟩⟩)))
set_option maxRecDepth 20000 in
theorem tfX0_add (d n : Nat) (A : Nat → Nat → Int32) (L : Nat → Nat → Int64) (l1 : Int32) (l2 : Int32) (l3 : Int32) (l4 : Int32) {Q : Option Value → jM → Prop} {z : (Int32 × (Nat → Nat → Int32))} (h : fX0_add A l1 l2 l3 l4 = some z) (k3 : Q (some (.int z.1)) (Sh0 n, z.2, L)) : pX0_add (jEv jtab (d + 0), jWP (jEv jtab (d + 0)) Q ((Sh0 n).length, jsl (Sh0 n)) pX0_add, Q, ((Sh0 n).length, jsl (Sh0 n))) 0 [some (.ref 64), some (.int l1), some (.int l2), some (.int l3), some (.int l4)] [] (Sh0 n, A, L) := by
  unfold fX0_add at h
  obtain ⟨g1, h⟩ := of_guard h
  obtain ⟨m2, hm3, h⟩ := of_bind h
  obtain ⟨g4, h⟩ := of_guard h
  obtain ⟨m5, hm6, h⟩ := of_bind h
  obtain ⟨g7, h⟩ := of_guard h
  obtain ⟨m8, hm9, h⟩ := of_bind h
  obtain ⟨g10, h⟩ := of_guard h
  obtain ⟨m11, hm12, h⟩ := of_bind h
  refine y_mask <| x_aload rfl <| x_getR (Nat.le_of_ble_eq_true rfl) rfl rfl <| x_aload rfl <| x_getI (Nat.le_of_ble_eq_true rfl) rfl rfl <| x_iload rfl <| x_iast (Nat.le_of_ble_eq_true rfl) rfl g1 <| y_let (Option.some.inj hm3) <| x_aload rfl <| x_getR (Nat.le_of_ble_eq_true rfl) rfl rfl <| x_aload rfl <| x_getI (Nat.le_of_ble_eq_true rfl) rfl rfl <| x_iload rfl <| x_iast (Nat.le_of_ble_eq_true rfl) rfl g4 <| y_let (Option.some.inj hm6) <| x_aload rfl <| x_getR (Nat.le_of_ble_eq_true rfl) rfl rfl <| x_aload rfl <| x_getI (Nat.le_of_ble_eq_true rfl) rfl rfl <| x_iload rfl <| x_iast (Nat.le_of_ble_eq_true rfl) rfl g7 <| y_let (Option.some.inj hm9) <| x_aload rfl <| x_getR (Nat.le_of_ble_eq_true rfl) rfl rfl <| x_aload rfl <| x_getI (Nat.le_of_ble_eq_true rfl) rfl rfl <| x_iload rfl <| x_iast (Nat.le_of_ble_eq_true rfl) rfl g10 <| y_let (Option.some.inj hm12) <| x_aload rfl <| x_dup rfl <| x_getI (Nat.le_of_ble_eq_true rfl) rfl rfl <| x_push <| x_iadd <| x_putI (Nat.le_of_ble_eq_true rfl) rfl rfl <| x_aload rfl <| x_getI (Nat.le_of_ble_eq_true rfl) rfl rfl <| x_push <| x_isub <| y_ireturn (ls := [some (.ref 64), some (.int l1), some (.int l2), some (.int l3), some (.int l4)]) ?_
  obtain rfl := Option.some.inj h
  exact k3
theorem kX0_add (d n : Nat) (A : Nat → Nat → Int32) (L : Nat → Nat → Int64) (l1 : Int32) (l2 : Int32) (l3 : Int32) (l4 : Int32) {z : (Int32 × (Nat → Nat → Int32))} (h : fX0_add A l1 l2 l3 l4 = some z) : jEv jtab (d + 1) 1 [.ref 64, .int l1, .int l2, .int l3, .int l4] (Sh0 n, A, L) 0 0 (fun r M2 => r = some (.int z.1) ∧ M2 = (Sh0 n, z.2, L)) :=
  jEv.mk (mt := mX0_add) rfl (Nat.le_of_ble_eq_true rfl) (jWP.intro (pr := pX0_add) (pc := 0) (tfX0_add d n A L l1 l2 l3 l4 h ⟨trivial, jCn.mk ⟨rfl, rfl⟩⟩))
set_option maxRecDepth 20000 in
theorem tfX10_print (d n : Nat) (A : Nat → Nat → Int32) (L : Nat → Nat → Int64) (l1 : Int32) (l2 : Int32) (l3 : Int32) (l4 : Int32) {Q : Option Value → jM → Prop} {z : (Int32 × (Nat → Nat → Int32))} (h : fX10_print A l1 l2 l3 l4 = some z) (k3 : Q (some (.int z.1)) (Sh0 n, z.2, L)) : pX10_print (jEv jtab (d + 2), jWP (jEv jtab (d + 2)) Q ((Sh0 n).length, jsl (Sh0 n)) pX10_print, Q, ((Sh0 n).length, jsl (Sh0 n))) 0 [some (.ref 15), some (.int l1), some (.int l2), some (.int l3), some (.int l4)] [] (Sh0 n, A, L) := by
  unfold fX10_print at h
  refine y_mask <| x_iload rfl <| y_invS1 (Nat.le_of_ble_eq_true rfl) <| jEv.exZ (q := 153) rfl (kX10_isShip _ _ _ _ _) <| fun hz1 => y_if_eq (fun h2 => ?_) (fun h2 => ?_)
  · replace h := of_pos h h2
    refine jWP.intro (pr := pX10_print) (pc := 35) ?_
    refine y_mpri (bs := []) (ls := []) ?_
    obtain rfl := Option.some.inj h
    exact k3
  · replace h := of_neg h h2
    refine jWP.intro (pr := pX10_print) (pc := 7) ?_
    refine y_mask <| x_iload rfl <| y_invS1 (Nat.le_of_ble_eq_true rfl) <| jEv.exZ (q := 154) rfl (kX10_isDay _ _ _ _ _) <| fun hz3 => y_if_eq (fun h4 => ?_) (fun h4 => ?_)
    · replace h := of_pos h h4
      refine jWP.intro (pr := pX10_print) (pc := 35) ?_
      refine y_mpri (bs := []) (ls := []) ?_
      obtain rfl := Option.some.inj h
      exact k3
    · replace h := of_neg h h4
      refine jWP.intro (pr := pX10_print) (pc := 14) ?_
      refine y_mask <| x_iload rfl <| x_push <| x_push <| y_invS3 (Nat.le_of_ble_eq_true rfl) <| jEv.exZ (q := 152) rfl (kX10_within _ _ _ _ _ _ _) <| fun hz5 => y_if_eq (fun h6 => ?_) (fun h6 => ?_)
      · replace h := of_pos h h6
        refine jWP.intro (pr := pX10_print) (pc := 35) ?_
        refine y_mpri (bs := []) (ls := []) ?_
        obtain rfl := Option.some.inj h
        exact k3
      · replace h := of_neg h h6
        refine jWP.intro (pr := pX10_print) (pc := 24) ?_
        refine y_mask <| x_iload rfl <| x_push <| x_push <| y_invS3 (Nat.le_of_ble_eq_true rfl) <| jEv.exZ (q := 152) rfl (kX10_within _ _ _ _ _ _ _) <| fun hz7 => y_if_ne (fun h8 => ?_) (fun h8 => ?_)
        · replace h := of_neg h h8
          refine jWP.intro (pr := pX10_print) (pc := 38) ?_
          refine y_mask <| x_aload rfl <| x_getR (Nat.le_of_ble_eq_true rfl) rfl rfl <| x_getI (Nat.le_of_ble_eq_true rfl) rfl rfl <| x_push <| y_cmp_lt (fun h9 => ?_) (fun h9 => ?_)
          · replace h := of_pos h h9
            refine jWP.intro (pr := pX10_print) (pc := 55) ?_
            obtain ⟨r10, hc11, h⟩ := of_bind h
            refine y_mask <| x_aload rfl <| x_getR (Nat.le_of_ble_eq_true rfl) rfl rfl <| x_iload rfl <| x_iload rfl <| x_iload rfl <| x_iload rfl <| y_invV4 (Nat.le_of_ble_eq_true rfl) rfl (Nat.le_of_ble_eq_true rfl) <| jEv.exI (kX0_add _ _ _ _ _ _ _ _ hc11) <| y_mask <| y_goto ?_
            refine jWP.intro (pr := pX10_print) (pc := 67) ?_
            refine y_mri (bs := []) (ls := []) ?_
            obtain rfl := Option.some.inj h
            exact k3
          · replace h := of_neg h h9
            refine jWP.intro (pr := pX10_print) (pc := 50) ?_
            refine y_mask <| x_push <| y_mask <| y_goto ?_
            refine jWP.intro (pr := pX10_print) (pc := 67) ?_
            refine y_mri (bs := []) (ls := []) ?_
            obtain rfl := Option.some.inj h
            exact k3
        · replace h := of_pos h h8
          refine jWP.intro (pr := pX10_print) (pc := 35) ?_
          refine y_mpri (bs := []) (ls := []) ?_
          obtain rfl := Option.some.inj h
          exact k3
theorem kX10_print (d n : Nat) (A : Nat → Nat → Int32) (L : Nat → Nat → Int64) (l1 : Int32) (l2 : Int32) (l3 : Int32) (l4 : Int32) {z : (Int32 × (Nat → Nat → Int32))} (h : fX10_print A l1 l2 l3 l4 = some z) : jEv jtab (d + 3) 132 [.ref 15, .int l1, .int l2, .int l3, .int l4] (Sh0 n, A, L) 0 0 (fun r M2 => r = some (.int z.1) ∧ M2 = (Sh0 n, z.2, L)) :=
  jEv.mk (mt := mX10_print) rfl (Nat.le_of_ble_eq_true rfl) (jWP.intro (pr := pX10_print) (pc := 0) (tfX10_print d n A L l1 l2 l3 l4 h ⟨trivial, jCn.mk ⟨rfl, rfl⟩⟩))
set_option maxRecDepth 20000 in
theorem tfX10_printed (d n : Nat) (A : Nat → Nat → Int32) (L : Nat → Nat → Int64) (l1 : Int32) (l2 : Int32) {Q : Option Value → jM → Prop} {z : Int32} (h : fX10_printed A l1 l2 = some z) (k3 : Q (some (.int z)) (Sh0 n, A, L)) : pX10_printed (jEv jtab (d + 1), jWP (jEv jtab (d + 1)) Q ((Sh0 n).length, jsl (Sh0 n)) pX10_printed, Q, ((Sh0 n).length, jsl (Sh0 n))) 0 [some (.ref 15), some (.int l1), some (.int l2)] [] (Sh0 n, A, L) := by
  unfold fX10_printed at h
  refine y_mask <| x_iload rfl <| x_push <| x_aload rfl <| x_getR (Nat.le_of_ble_eq_true rfl) rfl rfl <| x_getI (Nat.le_of_ble_eq_true rfl) rfl rfl <| x_push <| x_isub <| y_invS3 (Nat.le_of_ble_eq_true rfl) <| jEv.exZ (q := 152) rfl (kX10_within _ _ _ _ _ _ _) <| fun hz1 => y_if_ne (fun h2 => ?_) (fun h2 => ?_)
  · replace h := of_neg h h2
    refine jWP.intro (pr := pX10_printed) (pc := 20) ?_
    refine y_mask <| x_iload rfl <| y_sw (y_case (fun h3 => ?_) (fun h3 => y_case (fun h4 => ?_) (fun h4 => y_case (fun h5 => ?_) (fun h5 => y_case (fun h6 => ?_) (fun h6 => y_dflt ?_)))))
    · replace h := of_pos h h3
      refine jWP.intro (pr := pX10_printed) (pc := 52) ?_
      obtain ⟨g7, h⟩ := of_guard h
      refine y_mask <| x_aload rfl <| x_getR (Nat.le_of_ble_eq_true rfl) rfl rfl <| x_getR (Nat.le_of_ble_eq_true rfl) rfl rfl <| x_iload rfl <| x_iald rfl g7 <| y_ireturn (ls := [some (.ref 15), some (.int l1), none]) ?_
      obtain rfl := Option.some.inj h
      exact k3
    · replace h := of_neg h h3
      replace h := of_pos h h4
      refine jWP.intro (pr := pX10_printed) (pc := 62) ?_
      obtain ⟨g8, h⟩ := of_guard h
      refine y_mask <| x_aload rfl <| x_getR (Nat.le_of_ble_eq_true rfl) rfl rfl <| x_getR (Nat.le_of_ble_eq_true rfl) rfl rfl <| x_iload rfl <| x_iald rfl g8 <| y_ireturn (ls := [some (.ref 15), some (.int l1), none]) ?_
      obtain rfl := Option.some.inj h
      exact k3
    · replace h := of_neg h h3
      replace h := of_neg h h4
      replace h := of_pos h h5
      refine jWP.intro (pr := pX10_printed) (pc := 72) ?_
      obtain ⟨g9, h⟩ := of_guard h
      refine y_mask <| x_aload rfl <| x_getR (Nat.le_of_ble_eq_true rfl) rfl rfl <| x_getR (Nat.le_of_ble_eq_true rfl) rfl rfl <| x_iload rfl <| x_iald rfl g9 <| y_ireturn (ls := [some (.ref 15), some (.int l1), none]) ?_
      obtain rfl := Option.some.inj h
      exact k3
    · replace h := of_neg h h3
      replace h := of_neg h h4
      replace h := of_neg h h5
      replace h := of_pos h h6
      refine jWP.intro (pr := pX10_printed) (pc := 82) ?_
      obtain ⟨g10, h⟩ := of_guard h
      refine y_mask <| x_aload rfl <| x_getR (Nat.le_of_ble_eq_true rfl) rfl rfl <| x_getR (Nat.le_of_ble_eq_true rfl) rfl rfl <| x_iload rfl <| x_iald rfl g10 <| y_ireturn (ls := [some (.ref 15), some (.int l1), none]) ?_
      obtain rfl := Option.some.inj h
      exact k3
    · replace h := of_neg h h3
      replace h := of_neg h h4
      replace h := of_neg h h5
      replace h := of_neg h h6
      skip
      refine jWP.intro (pr := pX10_printed) (pc := 92) ?_
      refine y_mpri (bs := []) (ls := []) ?_
      obtain rfl := Option.some.inj h
      exact k3
  · replace h := of_pos h h2
    refine jWP.intro (pr := pX10_printed) (pc := 17) ?_
    refine y_mpri (bs := []) (ls := []) ?_
    obtain rfl := Option.some.inj h
    exact k3
theorem kX10_printed (d n : Nat) (A : Nat → Nat → Int32) (L : Nat → Nat → Int64) (l1 : Int32) (l2 : Int32) {z : Int32} (h : fX10_printed A l1 l2 = some z) : jEv jtab (d + 2) 133 [.ref 15, .int l1, .int l2] (Sh0 n, A, L) 0 0 (fun r M2 => r = some (.int z) ∧ M2 = (Sh0 n, A, L)) :=
  jEv.mk (mt := mX10_printed) rfl (Nat.le_of_ble_eq_true rfl) (jWP.intro (pr := pX10_printed) (pc := 0) (tfX10_printed d n A L l1 l2 h ⟨trivial, jCn.mk ⟨rfl, rfl⟩⟩))
set_option maxRecDepth 20000 in
theorem tfX0_daysBetween (d n : Nat) (A : Nat → Nat → Int32) (L : Nat → Nat → Int64) (l1 : Int32) (l2 : Int32) {Q : Option Value → jM → Prop} {z : Int32} (h : fX0_daysBetween A l1 l2 = some z) (k3 : Q (some (.int z)) (Sh0 n, A, L)) : pX0_daysBetween (jEv jtab (d + 0), jWP (jEv jtab (d + 0)) Q ((Sh0 n).length, jsl (Sh0 n)) pX0_daysBetween, Q, ((Sh0 n).length, jsl (Sh0 n))) 0 [some (.ref 64), some (.int l1), some (.int l2)] [] (Sh0 n, A, L) := by
  unfold fX0_daysBetween at h
  obtain ⟨g1, h⟩ := of_guard h
  obtain ⟨g2, h⟩ := of_guard h
  refine y_mask <| x_aload rfl <| x_getR (Nat.le_of_ble_eq_true rfl) rfl rfl <| x_iload rfl <| x_iald rfl g1 <| x_aload rfl <| x_getR (Nat.le_of_ble_eq_true rfl) rfl rfl <| x_iload rfl <| x_iald rfl g2 <| x_isub <| y_mabs (Nat.le_of_ble_eq_true rfl) <| y_ireturn (ls := [some (.ref 64), some (.int l1), some (.int l2)]) ?_
  obtain rfl := Option.some.inj h
  exact k3
theorem kX0_daysBetween (d n : Nat) (A : Nat → Nat → Int32) (L : Nat → Nat → Int64) (l1 : Int32) (l2 : Int32) {z : Int32} (h : fX0_daysBetween A l1 l2 = some z) : jEv jtab (d + 1) 4 [.ref 64, .int l1, .int l2] (Sh0 n, A, L) 0 0 (fun r M2 => r = some (.int z) ∧ M2 = (Sh0 n, A, L)) :=
  jEv.mk (mt := mX0_daysBetween) rfl (Nat.le_of_ble_eq_true rfl) (jWP.intro (pr := pX0_daysBetween) (pc := 0) (tfX0_daysBetween d n A L l1 l2 h ⟨trivial, jCn.mk ⟨rfl, rfl⟩⟩))
set_option maxRecDepth 20000 in
theorem tfX0_cellsBetween (d n : Nat) (A : Nat → Nat → Int32) (L : Nat → Nat → Int64) (l1 : Int32) (l2 : Int32) {Q : Option Value → jM → Prop} {z : Int32} (h : fX0_cellsBetween A l1 l2 = some z) (k3 : Q (some (.int z)) (Sh0 n, A, L)) : pX0_cellsBetween (jEv jtab (d + 0), jWP (jEv jtab (d + 0)) Q ((Sh0 n).length, jsl (Sh0 n)) pX0_cellsBetween, Q, ((Sh0 n).length, jsl (Sh0 n))) 0 [some (.ref 64), some (.int l1), some (.int l2)] [] (Sh0 n, A, L) := by
  unfold fX0_cellsBetween at h
  obtain ⟨g1, h⟩ := of_guard h
  obtain ⟨g2, h⟩ := of_guard h
  refine y_mask <| x_aload rfl <| x_getR (Nat.le_of_ble_eq_true rfl) rfl rfl <| x_iload rfl <| x_iald rfl g1 <| x_aload rfl <| x_getR (Nat.le_of_ble_eq_true rfl) rfl rfl <| x_iload rfl <| x_iald rfl g2 <| x_isub <| y_mabs (Nat.le_of_ble_eq_true rfl) <| y_ireturn (ls := [some (.ref 64), some (.int l1), some (.int l2)]) ?_
  obtain rfl := Option.some.inj h
  exact k3
theorem kX0_cellsBetween (d n : Nat) (A : Nat → Nat → Int32) (L : Nat → Nat → Int64) (l1 : Int32) (l2 : Int32) {z : Int32} (h : fX0_cellsBetween A l1 l2 = some z) : jEv jtab (d + 1) 5 [.ref 64, .int l1, .int l2] (Sh0 n, A, L) 0 0 (fun r M2 => r = some (.int z) ∧ M2 = (Sh0 n, A, L)) :=
  jEv.mk (mt := mX0_cellsBetween) rfl (Nat.le_of_ble_eq_true rfl) (jWP.intro (pr := pX0_cellsBetween) (pc := 0) (tfX0_cellsBetween d n A L l1 l2 h ⟨trivial, jCn.mk ⟨rfl, rfl⟩⟩))
set_option maxRecDepth 20000 in
theorem tcX0_closeTo_4 (d n : Nat) (A : Nat → Nat → Int32) (L : Nat → Nat → Int64) (l1 : Int32) (s : (Int32 × Int32)) {Q : Option Value → jM → Prop} {z : ((Int32 × Int32) ⊕ Int32)} (h : cX0_closeTo_4 A l1 s = some z) (k1 : ∀ s0, z = .inl s0 → pX0_closeTo (jEv jtab (d + 1), jWP (jEv jtab (d + 1)) Q ((Sh0 n).length, jsl (Sh0 n)) pX0_closeTo, Q, ((Sh0 n).length, jsl (Sh0 n))) 4 [some (.ref 64), some (.int l1), some (.int s0.1), some (.int s0.2)] [] (Sh0 n, A, L)) (k2 : ∀ s0, z = .inr s0 → pX0_closeTo (jEv jtab (d + 1), jWP (jEv jtab (d + 1)) Q ((Sh0 n).length, jsl (Sh0 n)) pX0_closeTo, Q, ((Sh0 n).length, jsl (Sh0 n))) 59 [none, none, some (.int s0), none] [] (Sh0 n, A, L)) : pX0_closeTo (jEv jtab (d + 1), jWP (jEv jtab (d + 1)) Q ((Sh0 n).length, jsl (Sh0 n)) pX0_closeTo, Q, ((Sh0 n).length, jsl (Sh0 n))) 4 [some (.ref 64), some (.int l1), some (.int s.1), some (.int s.2)] [] (Sh0 n, A, L) := by
  unfold cX0_closeTo_4 at h
  refine y_mask <| x_iload rfl <| x_aload rfl <| x_getI (Nat.le_of_ble_eq_true rfl) rfl rfl <| y_cmp_ge (fun h1 => ?_) (fun h1 => ?_)
  · replace h := of_pos h h1
    refine jWP.intro (pr := pX0_closeTo) (pc := 59) ?_
    have hk := k2 _ (Option.some.inj h).symm
    exact hk
  · replace h := of_neg h h1
    refine jWP.intro (pr := pX0_closeTo) (pc := 12) ?_
    obtain ⟨g2, h⟩ := of_guard h
    obtain ⟨g3, h⟩ := of_guard h
    refine y_mask <| x_aload rfl <| x_getR (Nat.le_of_ble_eq_true rfl) rfl rfl <| x_iload rfl <| x_iald rfl g2 <| x_aload rfl <| x_getR (Nat.le_of_ble_eq_true rfl) rfl rfl <| x_iload rfl <| x_iald rfl g3 <| y_cmp_ne (fun h4 => ?_) (fun h4 => ?_)
    · replace h := of_neg h h4
      refine jWP.intro (pr := pX0_closeTo) (pc := 53) ?_
      refine y_mask <| x_iinc rfl rfl <| y_mask <| y_goto ?_
      refine jWP.intro (pr := pX0_closeTo) (pc := 4) ?_
      have hk := k1 _ (Option.some.inj h).symm
      exact hk
    · replace h := of_pos h h4
      refine jWP.intro (pr := pX0_closeTo) (pc := 27) ?_
      obtain ⟨r5, hc6, h⟩ := of_bind h
      refine y_mask <| x_aload rfl <| x_iload rfl <| x_iload rfl <| y_invV2 (Nat.le_of_ble_eq_true rfl) rfl (Nat.le_of_ble_eq_true rfl) <| jEv.exI (kX0_daysBetween _ _ _ _ _ _ hc6) <| x_push <| y_cmp_gt (fun h7 => ?_) (fun h7 => ?_)
      · replace h := of_pos h h7
        refine jWP.intro (pr := pX0_closeTo) (pc := 53) ?_
        refine y_mask <| x_iinc rfl rfl <| y_mask <| y_goto ?_
        refine jWP.intro (pr := pX0_closeTo) (pc := 4) ?_
        have hk := k1 _ (Option.some.inj h).symm
        exact hk
      · replace h := of_neg h h7
        refine jWP.intro (pr := pX0_closeTo) (pc := 37) ?_
        obtain ⟨r8, hc9, h⟩ := of_bind h
        refine y_mask <| x_aload rfl <| x_iload rfl <| x_iload rfl <| y_invV2 (Nat.le_of_ble_eq_true rfl) rfl (Nat.le_of_ble_eq_true rfl) <| jEv.exI (kX0_cellsBetween _ _ _ _ _ _ hc9) <| x_push <| y_cmp_gt (fun h10 => ?_) (fun h10 => ?_)
        · replace h := of_pos h h10
          refine jWP.intro (pr := pX0_closeTo) (pc := 53) ?_
          refine y_mask <| x_iinc rfl rfl <| y_mask <| y_goto ?_
          refine jWP.intro (pr := pX0_closeTo) (pc := 4) ?_
          have hk := k1 _ (Option.some.inj h).symm
          exact hk
        · replace h := of_neg h h10
          refine jWP.intro (pr := pX0_closeTo) (pc := 47) ?_
          refine y_mask <| x_iload rfl <| x_push <| x_iload rfl <| x_ishl <| x_ior <| x_istore rfl <| y_mask <| y_goto ?_
          refine jWP.intro (pr := pX0_closeTo) (pc := 53) ?_
          refine y_mask <| x_iinc rfl rfl <| y_mask <| y_goto ?_
          refine jWP.intro (pr := pX0_closeTo) (pc := 4) ?_
          have hk := k1 _ (Option.some.inj h).symm
          exact hk
set_option maxRecDepth 20000 in
theorem tfX0_closeTo (d n : Nat) (A : Nat → Nat → Int32) (L : Nat → Nat → Int64) (l1 : Int32) {Q : Option Value → jM → Prop} {z : Int32} (h : fX0_closeTo A l1 = some z) (k3 : Q (some (.int z)) (Sh0 n, A, L)) : pX0_closeTo (jEv jtab (d + 1), jWP (jEv jtab (d + 1)) Q ((Sh0 n).length, jsl (Sh0 n)) pX0_closeTo, Q, ((Sh0 n).length, jsl (Sh0 n))) 0 [some (.ref 64), some (.int l1), none, none] [] (Sh0 n, A, L) := by
  unfold fX0_closeTo at h
  refine y_mask <| x_push <| x_istore rfl <| x_push <| x_istore rfl <| y_mask <| y_goto ?_
  obtain ⟨e1, hw2, h⟩ := of_bind h
  refine jWP.intro (pr := pX0_closeTo) (pc := 4) ?_
  refine jwh_use (G := (fun s0 => pX0_closeTo (jEv jtab (d + 1), jWP (jEv jtab (d + 1)) Q ((Sh0 n).length, jsl (Sh0 n)) pX0_closeTo, Q, ((Sh0 n).length, jsl (Sh0 n))) 4 [some (.ref 64), some (.int l1), some (.int s0.1), some (.int s0.2)] [] (Sh0 n, A, L))) (Gx := (fun s0 => pX0_closeTo (jEv jtab (d + 1), jWP (jEv jtab (d + 1)) Q ((Sh0 n).length, jsl (Sh0 n)) pX0_closeTo, Q, ((Sh0 n).length, jsl (Sh0 n))) 59 [none, none, some (.int s0), none] [] (Sh0 n, A, L))) (fun s1 z1 hz kk1 kk2 => tcX0_closeTo_4 d n A L l1 s1 hz kk1 kk2) hw2 ?_
  refine y_mask <| x_iload rfl <| y_ireturn (ls := [none, none, some (.int e1), none]) ?_
  obtain rfl := Option.some.inj h
  exact k3
theorem kX0_closeTo (d n : Nat) (A : Nat → Nat → Int32) (L : Nat → Nat → Int64) (l1 : Int32) {z : Int32} (h : fX0_closeTo A l1 = some z) : jEv jtab (d + 2) 3 [.ref 64, .int l1] (Sh0 n, A, L) 0 0 (fun r M2 => r = some (.int z) ∧ M2 = (Sh0 n, A, L)) :=
  jEv.mk (mt := mX0_closeTo) rfl (Nat.le_of_ble_eq_true rfl) (jWP.intro (pr := pX0_closeTo) (pc := 0) (tfX0_closeTo d n A L l1 h ⟨trivial, jCn.mk ⟨rfl, rfl⟩⟩))
set_option maxRecDepth 20000 in
theorem tcX0_meetingOf_26 (d n : Nat) (A : Nat → Nat → Int32) (L : Nat → Nat → Int64) (l4 : Int32) (l5 : Int32) (s : (Int32 × Int32)) {Q : Option Value → jM → Prop} {z : ((Int32 × Int32) ⊕ Int32)} (h : cX0_meetingOf_26 A l4 l5 s = some z) (k1 : ∀ s0, z = .inl s0 → pX0_meetingOf (jEv jtab (d + 2), jWP (jEv jtab (d + 2)) Q ((Sh0 n).length, jsl (Sh0 n)) pX0_meetingOf, Q, ((Sh0 n).length, jsl (Sh0 n))) 26 [some (.ref 64), none, some (.int s0.1), none, some (.int l4), some (.int l5), some (.int s0.2)] [] (Sh0 n, A, L)) (k2 : ∀ s0, z = .inr s0 → pX0_meetingOf (jEv jtab (d + 2), jWP (jEv jtab (d + 2)) Q ((Sh0 n).length, jsl (Sh0 n)) pX0_meetingOf, Q, ((Sh0 n).length, jsl (Sh0 n))) 59 [some (.ref 64), none, some (.int s0), none, some (.int l4), some (.int l5), none] [] (Sh0 n, A, L)) : pX0_meetingOf (jEv jtab (d + 2), jWP (jEv jtab (d + 2)) Q ((Sh0 n).length, jsl (Sh0 n)) pX0_meetingOf, Q, ((Sh0 n).length, jsl (Sh0 n))) 26 [some (.ref 64), none, some (.int s.1), none, some (.int l4), some (.int l5), some (.int s.2)] [] (Sh0 n, A, L) := by
  unfold cX0_meetingOf_26 at h
  refine y_mask <| x_iload rfl <| x_aload rfl <| x_getI (Nat.le_of_ble_eq_true rfl) rfl rfl <| y_cmp_ge (fun h1 => ?_) (fun h1 => ?_)
  · replace h := of_pos h h1
    refine jWP.intro (pr := pX0_meetingOf) (pc := 59) ?_
    have hk := k2 _ (Option.some.inj h).symm
    exact hk
  · replace h := of_neg h h1
    refine jWP.intro (pr := pX0_meetingOf) (pc := 35) ?_
    refine y_mask <| x_iload rfl <| x_iload rfl <| x_ishr <| x_push <| x_iand <| y_if_eq (fun h2 => ?_) (fun h2 => ?_)
    · replace h := of_pos h h2
      refine jWP.intro (pr := pX0_meetingOf) (pc := 53) ?_
      refine y_mask <| x_iinc rfl rfl <| y_mask <| y_goto ?_
      refine jWP.intro (pr := pX0_meetingOf) (pc := 26) ?_
      have hk := k1 _ (Option.some.inj h).symm
      exact hk
    · replace h := of_neg h h2
      refine jWP.intro (pr := pX0_meetingOf) (pc := 44) ?_
      obtain ⟨r3, hc4, h⟩ := of_bind h
      refine y_mask <| x_iload rfl <| x_aload rfl <| x_iload rfl <| y_invV1 (Nat.le_of_ble_eq_true rfl) rfl (Nat.le_of_ble_eq_true rfl) <| jEv.exI (kX0_closeTo _ _ _ _ _ hc4) <| x_ior <| x_istore rfl <| y_mask <| y_goto ?_
      refine jWP.intro (pr := pX0_meetingOf) (pc := 53) ?_
      refine y_mask <| x_iinc rfl rfl <| y_mask <| y_goto ?_
      refine jWP.intro (pr := pX0_meetingOf) (pc := 26) ?_
      have hk := k1 _ (Option.some.inj h).symm
      exact hk
set_option maxRecDepth 20000 in
theorem tcX0_meetingOf_9 (d n : Nat) (A : Nat → Nat → Int32) (L : Nat → Nat → Int64) (s : (Int32 × Int32 × Int32)) {Q : Option Value → jM → Prop} {z : ((Int32 × Int32 × Int32) ⊕ Int32)} (h : cX0_meetingOf_9 A s = some z) (k1 : ∀ s0, z = .inl s0 → pX0_meetingOf (jEv jtab (d + 2), jWP (jEv jtab (d + 2)) Q ((Sh0 n).length, jsl (Sh0 n)) pX0_meetingOf, Q, ((Sh0 n).length, jsl (Sh0 n))) 9 [some (.ref 64), none, some (.int s0.1), some (.int s0.2.1), some (.int s0.2.2), none, none] [] (Sh0 n, A, L)) (k2 : ∀ s0, z = .inr s0 → pX0_meetingOf (jEv jtab (d + 2), jWP (jEv jtab (d + 2)) Q ((Sh0 n).length, jsl (Sh0 n)) pX0_meetingOf, Q, ((Sh0 n).length, jsl (Sh0 n))) 77 [none, none, some (.int s0), none, none, none, none] [] (Sh0 n, A, L)) : pX0_meetingOf (jEv jtab (d + 2), jWP (jEv jtab (d + 2)) Q ((Sh0 n).length, jsl (Sh0 n)) pX0_meetingOf, Q, ((Sh0 n).length, jsl (Sh0 n))) 9 [some (.ref 64), none, some (.int s.1), some (.int s.2.1), some (.int s.2.2), none, none] [] (Sh0 n, A, L) := by
  unfold cX0_meetingOf_9 at h
  refine y_mask <| x_iload rfl <| x_push <| y_cmp_ge (fun h1 => ?_) (fun h1 => ?_)
  · replace h := of_pos h h1
    refine jWP.intro (pr := pX0_meetingOf) (pc := 77) ?_
    have hk := k2 _ (Option.some.inj h).symm
    exact hk
  · replace h := of_neg h h1
    refine jWP.intro (pr := pX0_meetingOf) (pc := 16) ?_
    refine y_mask <| x_iload rfl <| y_if_eq (fun h2 => ?_) (fun h2 => ?_)
    · replace h := of_pos h h2
      refine jWP.intro (pr := pX0_meetingOf) (pc := 77) ?_
      have hk := k2 _ (Option.some.inj h).symm
      exact hk
    · replace h := of_neg h h2
      refine jWP.intro (pr := pX0_meetingOf) (pc := 20) ?_
      refine y_mask <| x_iload rfl <| x_istore rfl <| x_push <| x_istore rfl <| y_mask <| y_goto ?_
      obtain ⟨e3, hw4, h⟩ := of_bind h
      refine jWP.intro (pr := pX0_meetingOf) (pc := 26) ?_
      refine jwh_use (G := (fun s0 => pX0_meetingOf (jEv jtab (d + 2), jWP (jEv jtab (d + 2)) Q ((Sh0 n).length, jsl (Sh0 n)) pX0_meetingOf, Q, ((Sh0 n).length, jsl (Sh0 n))) 26 [some (.ref 64), none, some (.int s0.1), none, some (.int s.2.2), some (.int s.1), some (.int s0.2)] [] (Sh0 n, A, L))) (Gx := (fun s0 => pX0_meetingOf (jEv jtab (d + 2), jWP (jEv jtab (d + 2)) Q ((Sh0 n).length, jsl (Sh0 n)) pX0_meetingOf, Q, ((Sh0 n).length, jsl (Sh0 n))) 59 [some (.ref 64), none, some (.int s0), none, some (.int s.2.2), some (.int s.1), none] [] (Sh0 n, A, L))) (fun s1 z1 hz kk1 kk2 => tcX0_meetingOf_26 d n A L s.2.2 s.1 s1 hz kk1 kk2) hw4 ?_
      refine y_mask <| x_iload rfl <| x_iload rfl <| y_cmp_eq (fun h5 => ?_) (fun h5 => ?_)
      · replace h := of_pos h h5
        refine jWP.intro (pr := pX0_meetingOf) (pc := 69) ?_
        refine y_mask <| x_push <| y_mask <| y_goto ?_
        refine jWP.intro (pr := pX0_meetingOf) (pc := 70) ?_
        refine y_mask <| x_istore rfl <| x_iinc rfl rfl <| y_mask <| y_goto ?_
        refine jWP.intro (pr := pX0_meetingOf) (pc := 9) ?_
        have hk := k1 _ (Option.some.inj h).symm
        exact hk
      · replace h := of_neg h h5
        refine jWP.intro (pr := pX0_meetingOf) (pc := 65) ?_
        refine y_mask <| x_push <| y_mask <| y_goto ?_
        refine jWP.intro (pr := pX0_meetingOf) (pc := 70) ?_
        refine y_mask <| x_istore rfl <| x_iinc rfl rfl <| y_mask <| y_goto ?_
        refine jWP.intro (pr := pX0_meetingOf) (pc := 9) ?_
        have hk := k1 _ (Option.some.inj h).symm
        exact hk
set_option maxRecDepth 20000 in
theorem tfX0_meetingOf (d n : Nat) (A : Nat → Nat → Int32) (L : Nat → Nat → Int64) (l1 : Int32) {Q : Option Value → jM → Prop} {z : Int32} (h : fX0_meetingOf A l1 = some z) (k3 : Q (some (.int z)) (Sh0 n, A, L)) : pX0_meetingOf (jEv jtab (d + 2), jWP (jEv jtab (d + 2)) Q ((Sh0 n).length, jsl (Sh0 n)) pX0_meetingOf, Q, ((Sh0 n).length, jsl (Sh0 n))) 0 [some (.ref 64), some (.int l1), none, none, none, none, none] [] (Sh0 n, A, L) := by
  unfold fX0_meetingOf at h
  refine y_mask <| x_push <| x_iload rfl <| x_ishl <| x_istore rfl <| x_push <| x_istore rfl <| x_push <| x_istore rfl <| y_mask <| y_goto ?_
  obtain ⟨e1, hw2, h⟩ := of_bind h
  refine jWP.intro (pr := pX0_meetingOf) (pc := 9) ?_
  refine jwh_use (G := (fun s0 => pX0_meetingOf (jEv jtab (d + 2), jWP (jEv jtab (d + 2)) Q ((Sh0 n).length, jsl (Sh0 n)) pX0_meetingOf, Q, ((Sh0 n).length, jsl (Sh0 n))) 9 [some (.ref 64), none, some (.int s0.1), some (.int s0.2.1), some (.int s0.2.2), none, none] [] (Sh0 n, A, L))) (Gx := (fun s0 => pX0_meetingOf (jEv jtab (d + 2), jWP (jEv jtab (d + 2)) Q ((Sh0 n).length, jsl (Sh0 n)) pX0_meetingOf, Q, ((Sh0 n).length, jsl (Sh0 n))) 77 [none, none, some (.int s0), none, none, none, none] [] (Sh0 n, A, L))) (fun s1 z1 hz kk1 kk2 => tcX0_meetingOf_9 d n A L s1 hz kk1 kk2) hw2 ?_
  refine y_mask <| x_iload rfl <| y_ireturn (ls := [none, none, some (.int e1), none, none, none, none]) ?_
  obtain rfl := Option.some.inj h
  exact k3
theorem kX0_meetingOf (d n : Nat) (A : Nat → Nat → Int32) (L : Nat → Nat → Int64) (l1 : Int32) {z : Int32} (h : fX0_meetingOf A l1 = some z) : jEv jtab (d + 3) 2 [.ref 64, .int l1] (Sh0 n, A, L) 0 0 (fun r M2 => r = some (.int z) ∧ M2 = (Sh0 n, A, L)) :=
  jEv.mk (mt := mX0_meetingOf) rfl (Nat.le_of_ble_eq_true rfl) (jWP.intro (pr := pX0_meetingOf) (pc := 0) (tfX0_meetingOf d n A L l1 h ⟨trivial, jCn.mk ⟨rfl, rfl⟩⟩))
set_option maxRecDepth 20000 in
theorem tfX10_join (d n : Nat) (A : Nat → Nat → Int32) (L : Nat → Nat → Int64) (l1 : Int32) {Q : Option Value → jM → Prop} {z : Int32} (h : fX10_join A l1 = some z) (k3 : Q (some (.int z)) (Sh0 n, A, L)) : pX10_join (jEv jtab (d + 3), jWP (jEv jtab (d + 3)) Q ((Sh0 n).length, jsl (Sh0 n)) pX10_join, Q, ((Sh0 n).length, jsl (Sh0 n))) 0 [some (.ref 15), some (.int l1)] [] (Sh0 n, A, L) := by
  unfold fX10_join at h
  refine y_mask <| x_iload rfl <| x_push <| x_aload rfl <| x_getR (Nat.le_of_ble_eq_true rfl) rfl rfl <| x_getI (Nat.le_of_ble_eq_true rfl) rfl rfl <| x_push <| x_isub <| y_invS3 (Nat.le_of_ble_eq_true rfl) <| jEv.exZ (q := 152) rfl (kX10_within _ _ _ _ _ _ _) <| fun hz1 => y_if_eq (fun h2 => ?_) (fun h2 => ?_)
  · replace h := of_pos h h2
    refine jWP.intro (pr := pX10_join) (pc := 28) ?_
    refine y_mask <| x_push <| y_mask <| y_goto ?_
    refine jWP.intro (pr := pX10_join) (pc := 30) ?_
    refine y_mri (bs := []) (ls := []) ?_
    obtain rfl := Option.some.inj h
    exact k3
  · replace h := of_neg h h2
    refine jWP.intro (pr := pX10_join) (pc := 17) ?_
    obtain ⟨r3, hc4, h⟩ := of_bind h
    refine y_mask <| x_aload rfl <| x_getR (Nat.le_of_ble_eq_true rfl) rfl rfl <| x_iload rfl <| y_invV1 (Nat.le_of_ble_eq_true rfl) rfl (Nat.le_of_ble_eq_true rfl) <| jEv.exI (kX0_meetingOf _ _ _ _ _ hc4) <| y_mask <| y_goto ?_
    refine jWP.intro (pr := pX10_join) (pc := 30) ?_
    refine y_mri (bs := []) (ls := []) ?_
    obtain rfl := Option.some.inj h
    exact k3
theorem kX10_join (d n : Nat) (A : Nat → Nat → Int32) (L : Nat → Nat → Int64) (l1 : Int32) {z : Int32} (h : fX10_join A l1 = some z) : jEv jtab (d + 4) 134 [.ref 15, .int l1] (Sh0 n, A, L) 0 0 (fun r M2 => r = some (.int z) ∧ M2 = (Sh0 n, A, L)) :=
  jEv.mk (mt := mX10_join) rfl (Nat.le_of_ble_eq_true rfl) (jWP.intro (pr := pX10_join) (pc := 0) (tfX10_join d n A L l1 h ⟨trivial, jCn.mk ⟨rfl, rfl⟩⟩))
set_option maxRecDepth 20000 in
theorem tcX0_meetingsOf_7 (d n : Nat) (A : Nat → Nat → Int32) (L : Nat → Nat → Int64) (l1 : Int32) (s : (Int32 × Int32 × Int32)) {Q : Option Value → jM → Prop} {z : ((Int32 × Int32 × Int32) ⊕ Int32)} (h : cX0_meetingsOf_7 A l1 s = some z) (k1 : ∀ s0, z = .inl s0 → pX0_meetingsOf (jEv jtab (d + 3), jWP (jEv jtab (d + 3)) Q ((Sh0 n).length, jsl (Sh0 n)) pX0_meetingsOf, Q, ((Sh0 n).length, jsl (Sh0 n))) 7 [some (.ref 64), some (.int l1), some (.int s0.1), some (.int s0.2.1), some (.int s0.2.2)] [] (Sh0 n, A, L)) (k2 : ∀ s0, z = .inr s0 → pX0_meetingsOf (jEv jtab (d + 3), jWP (jEv jtab (d + 3)) Q ((Sh0 n).length, jsl (Sh0 n)) pX0_meetingsOf, Q, ((Sh0 n).length, jsl (Sh0 n))) 54 [none, none, none, some (.int s0), none] [] (Sh0 n, A, L)) : pX0_meetingsOf (jEv jtab (d + 3), jWP (jEv jtab (d + 3)) Q ((Sh0 n).length, jsl (Sh0 n)) pX0_meetingsOf, Q, ((Sh0 n).length, jsl (Sh0 n))) 7 [some (.ref 64), some (.int l1), some (.int s.1), some (.int s.2.1), some (.int s.2.2)] [] (Sh0 n, A, L) := by
  unfold cX0_meetingsOf_7 at h
  refine y_mask <| x_iload rfl <| x_aload rfl <| x_getI (Nat.le_of_ble_eq_true rfl) rfl rfl <| y_cmp_ge (fun h1 => ?_) (fun h1 => ?_)
  · replace h := of_pos h h1
    refine jWP.intro (pr := pX0_meetingsOf) (pc := 54) ?_
    have hk := k2 _ (Option.some.inj h).symm
    exact hk
  · replace h := of_neg h h1
    refine jWP.intro (pr := pX0_meetingsOf) (pc := 16) ?_
    obtain ⟨g2, h⟩ := of_guard h
    refine y_mask <| x_aload rfl <| x_getR (Nat.le_of_ble_eq_true rfl) rfl rfl <| x_iload rfl <| x_iald rfl g2 <| x_iload rfl <| y_cmp_ne (fun h3 => ?_) (fun h3 => ?_)
    · replace h := of_neg h h3
      refine jWP.intro (pr := pX0_meetingsOf) (pc := 48) ?_
      refine y_mask <| x_iinc rfl rfl <| y_mask <| y_goto ?_
      refine jWP.intro (pr := pX0_meetingsOf) (pc := 7) ?_
      have hk := k1 _ (Option.some.inj h).symm
      exact hk
    · replace h := of_pos h h3
      refine jWP.intro (pr := pX0_meetingsOf) (pc := 27) ?_
      refine y_mask <| x_iload rfl <| x_iload rfl <| x_ishr <| x_push <| x_iand <| y_if_ne (fun h4 => ?_) (fun h4 => ?_)
      · replace h := of_neg h h4
        refine jWP.intro (pr := pX0_meetingsOf) (pc := 48) ?_
        refine y_mask <| x_iinc rfl rfl <| y_mask <| y_goto ?_
        refine jWP.intro (pr := pX0_meetingsOf) (pc := 7) ?_
        have hk := k1 _ (Option.some.inj h).symm
        exact hk
      · replace h := of_pos h h4
        refine jWP.intro (pr := pX0_meetingsOf) (pc := 36) ?_
        obtain ⟨r5, hc6, h⟩ := of_bind h
        refine y_mask <| x_iload rfl <| x_aload rfl <| x_iload rfl <| y_invV1 (Nat.le_of_ble_eq_true rfl) rfl (Nat.le_of_ble_eq_true rfl) <| jEv.exI (kX0_meetingOf _ _ _ _ _ hc6) <| x_ior <| x_istore rfl <| x_iinc rfl rfl <| y_mask <| y_goto ?_
        refine jWP.intro (pr := pX0_meetingsOf) (pc := 48) ?_
        refine y_mask <| x_iinc rfl rfl <| y_mask <| y_goto ?_
        refine jWP.intro (pr := pX0_meetingsOf) (pc := 7) ?_
        have hk := k1 _ (Option.some.inj h).symm
        exact hk
set_option maxRecDepth 20000 in
theorem tfX0_meetingsOf (d n : Nat) (A : Nat → Nat → Int32) (L : Nat → Nat → Int64) (l1 : Int32) {Q : Option Value → jM → Prop} {z : Int32} (h : fX0_meetingsOf A l1 = some z) (k3 : Q (some (.int z)) (Sh0 n, A, L)) : pX0_meetingsOf (jEv jtab (d + 3), jWP (jEv jtab (d + 3)) Q ((Sh0 n).length, jsl (Sh0 n)) pX0_meetingsOf, Q, ((Sh0 n).length, jsl (Sh0 n))) 0 [some (.ref 64), some (.int l1), none, none, none] [] (Sh0 n, A, L) := by
  unfold fX0_meetingsOf at h
  refine y_mask <| x_push <| x_istore rfl <| x_push <| x_istore rfl <| x_push <| x_istore rfl <| y_mask <| y_goto ?_
  obtain ⟨e1, hw2, h⟩ := of_bind h
  refine jWP.intro (pr := pX0_meetingsOf) (pc := 7) ?_
  refine jwh_use (G := (fun s0 => pX0_meetingsOf (jEv jtab (d + 3), jWP (jEv jtab (d + 3)) Q ((Sh0 n).length, jsl (Sh0 n)) pX0_meetingsOf, Q, ((Sh0 n).length, jsl (Sh0 n))) 7 [some (.ref 64), some (.int l1), some (.int s0.1), some (.int s0.2.1), some (.int s0.2.2)] [] (Sh0 n, A, L))) (Gx := (fun s0 => pX0_meetingsOf (jEv jtab (d + 3), jWP (jEv jtab (d + 3)) Q ((Sh0 n).length, jsl (Sh0 n)) pX0_meetingsOf, Q, ((Sh0 n).length, jsl (Sh0 n))) 54 [none, none, none, some (.int s0), none] [] (Sh0 n, A, L))) (fun s1 z1 hz kk1 kk2 => tcX0_meetingsOf_7 d n A L l1 s1 hz kk1 kk2) hw2 ?_
  refine y_mask <| x_iload rfl <| y_ireturn (ls := [none, none, none, some (.int e1), none]) ?_
  obtain rfl := Option.some.inj h
  exact k3
theorem kX0_meetingsOf (d n : Nat) (A : Nat → Nat → Int32) (L : Nat → Nat → Int64) (l1 : Int32) {z : Int32} (h : fX0_meetingsOf A l1 = some z) : jEv jtab (d + 4) 6 [.ref 64, .int l1] (Sh0 n, A, L) 0 0 (fun r M2 => r = some (.int z) ∧ M2 = (Sh0 n, A, L)) :=
  jEv.mk (mt := mX0_meetingsOf) rfl (Nat.le_of_ble_eq_true rfl) (jWP.intro (pr := pX0_meetingsOf) (pc := 0) (tfX0_meetingsOf d n A L l1 h ⟨trivial, jCn.mk ⟨rfl, rfl⟩⟩))
set_option maxRecDepth 20000 in
theorem tfX10_met (d n : Nat) (A : Nat → Nat → Int32) (L : Nat → Nat → Int64) (l1 : Int32) {Q : Option Value → jM → Prop} {z : Int32} (h : fX10_met A l1 = some z) (k3 : Q (some (.int z)) (Sh0 n, A, L)) : pX10_met (jEv jtab (d + 4), jWP (jEv jtab (d + 4)) Q ((Sh0 n).length, jsl (Sh0 n)) pX10_met, Q, ((Sh0 n).length, jsl (Sh0 n))) 0 [some (.ref 15), some (.int l1)] [] (Sh0 n, A, L) := by
  unfold fX10_met at h
  refine y_mask <| x_iload rfl <| y_invS1 (Nat.le_of_ble_eq_true rfl) <| jEv.exZ (q := 153) rfl (kX10_isShip _ _ _ _ _) <| fun hz1 => y_if_eq (fun h2 => ?_) (fun h2 => ?_)
  · replace h := of_pos h h2
    refine jWP.intro (pr := pX10_met) (pc := 18) ?_
    refine y_mask <| x_push <| y_mask <| y_goto ?_
    refine jWP.intro (pr := pX10_met) (pc := 20) ?_
    refine y_mri (bs := []) (ls := []) ?_
    obtain rfl := Option.some.inj h
    exact k3
  · replace h := of_neg h h2
    refine jWP.intro (pr := pX10_met) (pc := 7) ?_
    obtain ⟨r3, hc4, h⟩ := of_bind h
    refine y_mask <| x_aload rfl <| x_getR (Nat.le_of_ble_eq_true rfl) rfl rfl <| x_iload rfl <| y_invV1 (Nat.le_of_ble_eq_true rfl) rfl (Nat.le_of_ble_eq_true rfl) <| jEv.exI (kX0_meetingsOf _ _ _ _ _ hc4) <| y_mask <| y_goto ?_
    refine jWP.intro (pr := pX10_met) (pc := 20) ?_
    refine y_mri (bs := []) (ls := []) ?_
    obtain rfl := Option.some.inj h
    exact k3
theorem kX10_met (d n : Nat) (A : Nat → Nat → Int32) (L : Nat → Nat → Int64) (l1 : Int32) {z : Int32} (h : fX10_met A l1 = some z) : jEv jtab (d + 5) 135 [.ref 15, .int l1] (Sh0 n, A, L) 0 0 (fun r M2 => r = some (.int z) ∧ M2 = (Sh0 n, A, L)) :=
  jEv.mk (mt := mX10_met) rfl (Nat.le_of_ble_eq_true rfl) (jWP.intro (pr := pX10_met) (pc := 0) (tfX10_met d n A L l1 h ⟨trivial, jCn.mk ⟨rfl, rfl⟩⟩))
set_option maxRecDepth 20000 in
theorem tfX10_isSpeed (d n : Nat) (A : Nat → Nat → Int32) (L : Nat → Nat → Int64) (l0 : Int32) {Q : Option Value → jM → Prop} {z : Int32} (h : fX10_isSpeed l0 = z) (k3 : (narrow .boolean (.int z) = .int z) → Q (some (.int z)) (Sh0 n, A, L)) : pX10_isSpeed (jEv jtab (d + 1), jWP (jEv jtab (d + 1)) Q ((Sh0 n).length, jsl (Sh0 n)) pX10_isSpeed, Q, ((Sh0 n).length, jsl (Sh0 n))) 0 [some (.int l0)] [] (Sh0 n, A, L) := by
  unfold fX10_isSpeed at h
  refine y_mask <| x_iload rfl <| x_push <| x_push <| y_invS3 (Nat.le_of_ble_eq_true rfl) <| jEv.exZ (q := 152) rfl (kX10_within _ _ _ _ _ _ _) <| fun hz1 => y_ireturn (ls := [some (.int l0)]) ?_
  subst h
  exact k3 hz1
theorem kX10_isSpeed (d n : Nat) (A : Nat → Nat → Int32) (L : Nat → Nat → Int64) (l0 : Int32) : jEv jtab (d + 2) 155 [.int l0] (Sh0 n, A, L) 0 0 (fun r M2 => r = some (.int (fX10_isSpeed l0)) ∧ M2 = (Sh0 n, A, L)) :=
  jEv.mk (mt := mX10_isSpeed) rfl (Nat.le_of_ble_eq_true rfl) (jWP.intro (pr := pX10_isSpeed) (pc := 0) (tfX10_isSpeed d n A L l0 rfl (fun hz => ⟨hz, jCn.mk ⟨rfl, rfl⟩⟩)))
