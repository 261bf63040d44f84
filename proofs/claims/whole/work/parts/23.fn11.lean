/-! METHODS AS FUNCTIONS, printed by dec.py -/
set_option maxRecDepth 20000 in
theorem tfX11_printed (d n : Nat) (A : Nat → Nat → Int32) (L : Nat → Nat → Int64) (l1 : Int32) (l2 : Int32) {Q : Option Value → jM → Prop} {z : Int32} (h : fX11_printed A l1 l2 = some z) (k3 : Q (some (.int z)) (Sh0 n, A, L)) : pX11_printed (jEv jtab (d + 2), jWP (jEv jtab (d + 2)) Q ((Sh0 n).length, jsl (Sh0 n)) pX11_printed, Q, ((Sh0 n).length, jsl (Sh0 n))) 0 [some (.ref 94), some (.int l1), some (.int l2)] [] (Sh0 n, A, L) := by
  unfold fX11_printed at h
  refine y_mask <| x_aload rfl <| x_iload rfl <| y_invV1 (Nat.le_of_ble_eq_true rfl) rfl (Nat.le_of_ble_eq_true rfl) <| jEv.exZ (q := 228) rfl (kX11_isReport _ _ _ _ _) <| fun hz1 => y_if_ne (fun h2 => ?_) (fun h2 => ?_)
  · replace h := of_neg h h2
    refine jWP.intro (pr := pX11_printed) (pc := 11) ?_
    refine y_mask <| x_iload rfl <| y_sw (y_case (fun h3 => ?_) (fun h3 => y_case (fun h4 => ?_) (fun h4 => y_case (fun h5 => ?_) (fun h5 => y_case (fun h6 => ?_) (fun h6 => y_dflt ?_)))))
    · replace h := of_pos h h3
      refine jWP.intro (pr := pX11_printed) (pc := 44) ?_
      obtain ⟨g7, h⟩ := of_guard h
      refine y_mask <| x_aload rfl <| x_getR (Nat.le_of_ble_eq_true rfl) rfl rfl <| x_iload rfl <| x_iald rfl g7 <| y_ireturn (ls := [some (.ref 94), some (.int l1), none]) ?_
      obtain rfl := Option.some.inj h
      exact k3
    · replace h := of_neg h h3
      replace h := of_pos h h4
      refine jWP.intro (pr := pX11_printed) (pc := 51) ?_
      obtain ⟨g8, h⟩ := of_guard h
      refine y_mask <| x_aload rfl <| x_getR (Nat.le_of_ble_eq_true rfl) rfl rfl <| x_iload rfl <| x_iald rfl g8 <| y_ireturn (ls := [some (.ref 94), some (.int l1), none]) ?_
      obtain rfl := Option.some.inj h
      exact k3
    · replace h := of_neg h h3
      replace h := of_neg h h4
      replace h := of_pos h h5
      refine jWP.intro (pr := pX11_printed) (pc := 58) ?_
      obtain ⟨g9, h⟩ := of_guard h
      refine y_mask <| x_aload rfl <| x_getR (Nat.le_of_ble_eq_true rfl) rfl rfl <| x_iload rfl <| x_iald rfl g9 <| y_ireturn (ls := [some (.ref 94), some (.int l1), none]) ?_
      obtain rfl := Option.some.inj h
      exact k3
    · replace h := of_neg h h3
      replace h := of_neg h h4
      replace h := of_neg h h5
      replace h := of_pos h h6
      refine jWP.intro (pr := pX11_printed) (pc := 65) ?_
      obtain ⟨g10, h⟩ := of_guard h
      refine y_mask <| x_aload rfl <| x_getR (Nat.le_of_ble_eq_true rfl) rfl rfl <| x_iload rfl <| x_iald rfl g10 <| y_ireturn (ls := [some (.ref 94), some (.int l1), none]) ?_
      obtain rfl := Option.some.inj h
      exact k3
    · replace h := of_neg h h3
      replace h := of_neg h h4
      replace h := of_neg h h5
      replace h := of_neg h h6
      skip
      refine jWP.intro (pr := pX11_printed) (pc := 72) ?_
      refine y_mpri (bs := []) (ls := []) ?_
      obtain rfl := Option.some.inj h
      exact k3
  · replace h := of_pos h h2
    refine jWP.intro (pr := pX11_printed) (pc := 8) ?_
    refine y_mpri (bs := []) (ls := []) ?_
    obtain rfl := Option.some.inj h
    exact k3
theorem kX11_printed (d n : Nat) (A : Nat → Nat → Int32) (L : Nat → Nat → Int64) (l1 : Int32) (l2 : Int32) {z : Int32} (h : fX11_printed A l1 l2 = some z) : jEv jtab (d + 3) 233 [.ref 94, .int l1, .int l2] (Sh0 n, A, L) 0 0 (fun r M2 => r = some (.int z) ∧ M2 = (Sh0 n, A, L)) :=
  jEv.mk (mt := mX11_printed) rfl (Nat.le_of_ble_eq_true rfl) (jWP.intro (pr := pX11_printed) (pc := 0) (tfX11_printed d n A L l1 l2 h ⟨trivial, jCn.mk ⟨rfl, rfl⟩⟩))
set_option maxRecDepth 20000 in
theorem tcX11_meetingOf_40 (d n : Nat) (A : Nat → Nat → Int32) (L : Nat → Nat → Int64) (l2 : Int32) (l5 : Int32) (s : (Int32 × Int32)) {Q : Option Value → jM → Prop} {z : ((Int32 × Int32) ⊕ Int32)} (h : cX11_meetingOf_40 A l2 l5 s = some z) (k1 : ∀ s0, z = .inl s0 → pX11_meetingOf (jEv jtab (d + 1), jWP (jEv jtab (d + 1)) Q ((Sh0 n).length, jsl (Sh0 n)) pX11_meetingOf, Q, ((Sh0 n).length, jsl (Sh0 n))) 40 [some (.ref 94), none, some (.int l2), none, some (.int s0.1), some (.int l5), some (.int s0.2)] [] (Sh0 n, A, L)) (k2 : ∀ s0, z = .inr s0 → pX11_meetingOf (jEv jtab (d + 1), jWP (jEv jtab (d + 1)) Q ((Sh0 n).length, jsl (Sh0 n)) pX11_meetingOf, Q, ((Sh0 n).length, jsl (Sh0 n))) 125 [some (.ref 94), none, some (.int l2), none, some (.int s0), some (.int l5), none] [] (Sh0 n, A, L)) : pX11_meetingOf (jEv jtab (d + 1), jWP (jEv jtab (d + 1)) Q ((Sh0 n).length, jsl (Sh0 n)) pX11_meetingOf, Q, ((Sh0 n).length, jsl (Sh0 n))) 40 [some (.ref 94), none, some (.int l2), none, some (.int s.1), some (.int l5), some (.int s.2)] [] (Sh0 n, A, L) := by
  unfold cX11_meetingOf_40 at h
  refine y_mask <| x_iload rfl <| x_aload rfl <| x_getI (Nat.le_of_ble_eq_true rfl) rfl rfl <| y_cmp_ge (fun h1 => ?_) (fun h1 => ?_)
  · replace h := of_pos h h1
    refine jWP.intro (pr := pX11_meetingOf) (pc := 125) ?_
    have hk := k2 _ (Option.some.inj h).symm
    exact hk
  · replace h := of_neg h h1
    refine jWP.intro (pr := pX11_meetingOf) (pc := 49) ?_
    obtain ⟨g2, h⟩ := of_guard h
    obtain ⟨g3, h⟩ := of_guard h
    show bX11_meetingOf_49 _ _ _ _
    unfold bX11_meetingOf_49
    refine y_mask ?_
    refine x_aload rfl ?_
    refine x_getR (Nat.le_of_ble_eq_true rfl) rfl rfl ?_
    refine x_iload rfl ?_
    refine x_iald rfl g2 ?_
    refine x_aload rfl ?_
    refine x_getR (Nat.le_of_ble_eq_true rfl) rfl rfl ?_
    refine x_iload rfl ?_
    refine x_iald rfl g3 ?_
    refine y_cmp_ne (fun h4 => ?_) (fun h4 => ?_)
    · replace h := of_neg h h4
      refine jWP.intro (pr := pX11_meetingOf) (pc := 119) ?_
      refine y_mask <| x_iinc rfl rfl <| y_mask <| y_goto ?_
      refine jWP.intro (pr := pX11_meetingOf) (pc := 40) ?_
      have hk := k1 _ (Option.some.inj h).symm
      exact hk
    · replace h := of_pos h h4
      refine jWP.intro (pr := pX11_meetingOf) (pc := 66) ?_
      obtain ⟨g5, h⟩ := of_guard h
      obtain ⟨g6, h⟩ := of_guard h
      show bX11_meetingOf_66 _ _ _ _
      unfold bX11_meetingOf_66
      refine y_mask ?_
      refine x_aload rfl ?_
      refine x_getR (Nat.le_of_ble_eq_true rfl) rfl rfl ?_
      refine x_iload rfl ?_
      refine x_iald rfl g5 ?_
      refine x_aload rfl ?_
      refine x_getR (Nat.le_of_ble_eq_true rfl) rfl rfl ?_
      refine x_iload rfl ?_
      refine x_iald rfl g6 ?_
      refine x_isub ?_
      refine y_invS1 (Nat.le_of_ble_eq_true rfl) ?_
      refine jEv.exI (kX11_sizeOf _ _ _ _ _) ?_
      refine x_push ?_
      refine y_cmp_gt (fun h7 => ?_) (fun h7 => ?_)
      · replace h := of_pos h h7
        refine jWP.intro (pr := pX11_meetingOf) (pc := 119) ?_
        refine y_mask <| x_iinc rfl rfl <| y_mask <| y_goto ?_
        refine jWP.intro (pr := pX11_meetingOf) (pc := 40) ?_
        have hk := k1 _ (Option.some.inj h).symm
        exact hk
      · replace h := of_neg h h7
        refine jWP.intro (pr := pX11_meetingOf) (pc := 88) ?_
        obtain ⟨g8, h⟩ := of_guard h
        obtain ⟨g9, h⟩ := of_guard h
        show bX11_meetingOf_88 _ _ _ _
        unfold bX11_meetingOf_88
        refine y_mask ?_
        refine x_aload rfl ?_
        refine x_getR (Nat.le_of_ble_eq_true rfl) rfl rfl ?_
        refine x_iload rfl ?_
        refine x_iald rfl g8 ?_
        refine x_aload rfl ?_
        refine x_getR (Nat.le_of_ble_eq_true rfl) rfl rfl ?_
        refine x_iload rfl ?_
        refine x_iald rfl g9 ?_
        refine x_isub ?_
        refine y_invS1 (Nat.le_of_ble_eq_true rfl) ?_
        refine jEv.exI (kX11_sizeOf _ _ _ _ _) ?_
        refine x_push ?_
        refine y_cmp_gt (fun h10 => ?_) (fun h10 => ?_)
        · replace h := of_pos h h10
          refine jWP.intro (pr := pX11_meetingOf) (pc := 119) ?_
          refine y_mask <| x_iinc rfl rfl <| y_mask <| y_goto ?_
          refine jWP.intro (pr := pX11_meetingOf) (pc := 40) ?_
          have hk := k1 _ (Option.some.inj h).symm
          exact hk
        · replace h := of_neg h h10
          refine jWP.intro (pr := pX11_meetingOf) (pc := 110) ?_
          refine y_mask <| x_iload rfl <| x_push <| x_iload rfl <| x_ishl <| x_ior <| x_istore rfl <| y_mask <| y_goto ?_
          refine jWP.intro (pr := pX11_meetingOf) (pc := 119) ?_
          refine y_mask <| x_iinc rfl rfl <| y_mask <| y_goto ?_
          refine jWP.intro (pr := pX11_meetingOf) (pc := 40) ?_
          have hk := k1 _ (Option.some.inj h).symm
          exact hk
set_option maxRecDepth 20000 in
theorem tcX11_meetingOf_16 (d n : Nat) (A : Nat → Nat → Int32) (L : Nat → Nat → Int64) (l2 : Int32) (s : (Int32 × Int32)) {Q : Option Value → jM → Prop} {z : ((Int32 × Int32) ⊕ Int32)} (h : cX11_meetingOf_16 A l2 s = some z) (k1 : ∀ s0, z = .inl s0 → pX11_meetingOf (jEv jtab (d + 1), jWP (jEv jtab (d + 1)) Q ((Sh0 n).length, jsl (Sh0 n)) pX11_meetingOf, Q, ((Sh0 n).length, jsl (Sh0 n))) 16 [some (.ref 94), none, some (.int l2), none, some (.int s0.1), some (.int s0.2), none] [] (Sh0 n, A, L)) (k2 : ∀ s0, z = .inr s0 → pX11_meetingOf (jEv jtab (d + 1), jWP (jEv jtab (d + 1)) Q ((Sh0 n).length, jsl (Sh0 n)) pX11_meetingOf, Q, ((Sh0 n).length, jsl (Sh0 n))) 131 [some (.ref 94), none, some (.int l2), none, some (.int s0), none, none] [] (Sh0 n, A, L)) : pX11_meetingOf (jEv jtab (d + 1), jWP (jEv jtab (d + 1)) Q ((Sh0 n).length, jsl (Sh0 n)) pX11_meetingOf, Q, ((Sh0 n).length, jsl (Sh0 n))) 16 [some (.ref 94), none, some (.int l2), none, some (.int s.1), some (.int s.2), none] [] (Sh0 n, A, L) := by
  unfold cX11_meetingOf_16 at h
  refine y_mask <| x_iload rfl <| x_aload rfl <| x_getI (Nat.le_of_ble_eq_true rfl) rfl rfl <| y_cmp_ge (fun h1 => ?_) (fun h1 => ?_)
  · replace h := of_pos h h1
    refine jWP.intro (pr := pX11_meetingOf) (pc := 131) ?_
    have hk := k2 _ (Option.some.inj h).symm
    exact hk
  · replace h := of_neg h h1
    refine jWP.intro (pr := pX11_meetingOf) (pc := 25) ?_
    refine y_mask <| x_iload rfl <| x_iload rfl <| x_ishr <| x_push <| x_iand <| y_if_ne (fun h2 => ?_) (fun h2 => ?_)
    · replace h := of_neg h h2
      refine jWP.intro (pr := pX11_meetingOf) (pc := 37) ?_
      refine y_mask <| x_push <| x_istore rfl <| y_mask <| y_goto ?_
      obtain ⟨e3, hw4, h⟩ := of_bind h
      refine jWP.intro (pr := pX11_meetingOf) (pc := 40) ?_
      refine jwh_use (G := (fun s0 => pX11_meetingOf (jEv jtab (d + 1), jWP (jEv jtab (d + 1)) Q ((Sh0 n).length, jsl (Sh0 n)) pX11_meetingOf, Q, ((Sh0 n).length, jsl (Sh0 n))) 40 [some (.ref 94), none, some (.int l2), none, some (.int s0.1), some (.int s.2), some (.int s0.2)] [] (Sh0 n, A, L))) (Gx := (fun s0 => pX11_meetingOf (jEv jtab (d + 1), jWP (jEv jtab (d + 1)) Q ((Sh0 n).length, jsl (Sh0 n)) pX11_meetingOf, Q, ((Sh0 n).length, jsl (Sh0 n))) 125 [some (.ref 94), none, some (.int l2), none, some (.int s0), some (.int s.2), none] [] (Sh0 n, A, L))) (fun s1 z1 hz kk1 kk2 => tcX11_meetingOf_40 d n A L l2 s.2 s1 hz kk1 kk2) hw4 ?_
      refine y_mask <| x_iinc rfl rfl <| y_mask <| y_goto ?_
      refine jWP.intro (pr := pX11_meetingOf) (pc := 16) ?_
      have hk := k1 _ (Option.some.inj h).symm
      exact hk
    · replace h := of_pos h h2
      refine jWP.intro (pr := pX11_meetingOf) (pc := 34) ?_
      refine y_mask <| y_mask <| y_goto ?_
      refine jWP.intro (pr := pX11_meetingOf) (pc := 125) ?_
      refine y_mask <| x_iinc rfl rfl <| y_mask <| y_goto ?_
      refine jWP.intro (pr := pX11_meetingOf) (pc := 16) ?_
      have hk := k1 _ (Option.some.inj h).symm
      exact hk
set_option maxRecDepth 20000 in
theorem tcX11_meetingOf_6 (d n : Nat) (A : Nat → Nat → Int32) (L : Nat → Nat → Int64) (s : (Int32 × Int32)) {Q : Option Value → jM → Prop} {z : ((Int32 × Int32) ⊕ Int32)} (h : cX11_meetingOf_6 A s = some z) (k1 : ∀ s0, z = .inl s0 → pX11_meetingOf (jEv jtab (d + 1), jWP (jEv jtab (d + 1)) Q ((Sh0 n).length, jsl (Sh0 n)) pX11_meetingOf, Q, ((Sh0 n).length, jsl (Sh0 n))) 6 [some (.ref 94), none, some (.int s0.1), some (.int s0.2), none, none, none] [] (Sh0 n, A, L)) (k2 : ∀ s0, z = .inr s0 → pX11_meetingOf (jEv jtab (d + 1), jWP (jEv jtab (d + 1)) Q ((Sh0 n).length, jsl (Sh0 n)) pX11_meetingOf, Q, ((Sh0 n).length, jsl (Sh0 n))) 149 [none, none, some (.int s0), none, none, none, none] [] (Sh0 n, A, L)) : pX11_meetingOf (jEv jtab (d + 1), jWP (jEv jtab (d + 1)) Q ((Sh0 n).length, jsl (Sh0 n)) pX11_meetingOf, Q, ((Sh0 n).length, jsl (Sh0 n))) 6 [some (.ref 94), none, some (.int s.1), some (.int s.2), none, none, none] [] (Sh0 n, A, L) := by
  unfold cX11_meetingOf_6 at h
  refine y_mask <| x_iload rfl <| y_if_eq (fun h1 => ?_) (fun h1 => ?_)
  · replace h := of_pos h h1
    refine jWP.intro (pr := pX11_meetingOf) (pc := 149) ?_
    have hk := k2 _ (Option.some.inj h).symm
    exact hk
  · replace h := of_neg h h1
    refine jWP.intro (pr := pX11_meetingOf) (pc := 10) ?_
    refine y_mask <| x_iload rfl <| x_istore rfl <| x_push <| x_istore rfl <| y_mask <| y_goto ?_
    obtain ⟨e2, hw3, h⟩ := of_bind h
    refine jWP.intro (pr := pX11_meetingOf) (pc := 16) ?_
    refine jwh_use (G := (fun s0 => pX11_meetingOf (jEv jtab (d + 1), jWP (jEv jtab (d + 1)) Q ((Sh0 n).length, jsl (Sh0 n)) pX11_meetingOf, Q, ((Sh0 n).length, jsl (Sh0 n))) 16 [some (.ref 94), none, some (.int s.1), none, some (.int s0.1), some (.int s0.2), none] [] (Sh0 n, A, L))) (Gx := (fun s0 => pX11_meetingOf (jEv jtab (d + 1), jWP (jEv jtab (d + 1)) Q ((Sh0 n).length, jsl (Sh0 n)) pX11_meetingOf, Q, ((Sh0 n).length, jsl (Sh0 n))) 131 [some (.ref 94), none, some (.int s.1), none, some (.int s0), none, none] [] (Sh0 n, A, L))) (fun s1 z1 hz kk1 kk2 => tcX11_meetingOf_16 d n A L s.1 s1 hz kk1 kk2) hw3 ?_
    refine y_mask <| x_iload rfl <| x_iload rfl <| y_cmp_eq (fun h4 => ?_) (fun h4 => ?_)
    · replace h := of_pos h h4
      refine jWP.intro (pr := pX11_meetingOf) (pc := 141) ?_
      refine y_mask <| x_push <| y_mask <| y_goto ?_
      refine jWP.intro (pr := pX11_meetingOf) (pc := 142) ?_
      refine y_mask <| x_istore rfl <| x_iload rfl <| x_istore rfl <| y_mask <| y_goto ?_
      refine jWP.intro (pr := pX11_meetingOf) (pc := 6) ?_
      have hk := k1 _ (Option.some.inj h).symm
      exact hk
    · replace h := of_neg h h4
      refine jWP.intro (pr := pX11_meetingOf) (pc := 137) ?_
      refine y_mask <| x_push <| y_mask <| y_goto ?_
      refine jWP.intro (pr := pX11_meetingOf) (pc := 142) ?_
      refine y_mask <| x_istore rfl <| x_iload rfl <| x_istore rfl <| y_mask <| y_goto ?_
      refine jWP.intro (pr := pX11_meetingOf) (pc := 6) ?_
      have hk := k1 _ (Option.some.inj h).symm
      exact hk
set_option maxRecDepth 20000 in
theorem tfX11_meetingOf (d n : Nat) (A : Nat → Nat → Int32) (L : Nat → Nat → Int64) (l1 : Int32) {Q : Option Value → jM → Prop} {z : Int32} (h : fX11_meetingOf A l1 = some z) (k3 : Q (some (.int z)) (Sh0 n, A, L)) : pX11_meetingOf (jEv jtab (d + 1), jWP (jEv jtab (d + 1)) Q ((Sh0 n).length, jsl (Sh0 n)) pX11_meetingOf, Q, ((Sh0 n).length, jsl (Sh0 n))) 0 [some (.ref 94), some (.int l1), none, none, none, none, none] [] (Sh0 n, A, L) := by
  unfold fX11_meetingOf at h
  refine y_mask <| x_push <| x_iload rfl <| x_ishl <| x_istore rfl <| x_push <| x_istore rfl <| y_mask <| y_goto ?_
  obtain ⟨e1, hw2, h⟩ := of_bind h
  refine jWP.intro (pr := pX11_meetingOf) (pc := 6) ?_
  refine jwh_use (G := (fun s0 => pX11_meetingOf (jEv jtab (d + 1), jWP (jEv jtab (d + 1)) Q ((Sh0 n).length, jsl (Sh0 n)) pX11_meetingOf, Q, ((Sh0 n).length, jsl (Sh0 n))) 6 [some (.ref 94), none, some (.int s0.1), some (.int s0.2), none, none, none] [] (Sh0 n, A, L))) (Gx := (fun s0 => pX11_meetingOf (jEv jtab (d + 1), jWP (jEv jtab (d + 1)) Q ((Sh0 n).length, jsl (Sh0 n)) pX11_meetingOf, Q, ((Sh0 n).length, jsl (Sh0 n))) 149 [none, none, some (.int s0), none, none, none, none] [] (Sh0 n, A, L))) (fun s1 z1 hz kk1 kk2 => tcX11_meetingOf_6 d n A L s1 hz kk1 kk2) hw2 ?_
  refine y_mask <| x_iload rfl <| y_ireturn (ls := [none, none, some (.int e1), none, none, none, none]) ?_
  obtain rfl := Option.some.inj h
  exact k3
theorem kX11_meetingOf (d n : Nat) (A : Nat → Nat → Int32) (L : Nat → Nat → Int64) (l1 : Int32) {z : Int32} (h : fX11_meetingOf A l1 = some z) : jEv jtab (d + 2) 234 [.ref 94, .int l1] (Sh0 n, A, L) 0 0 (fun r M2 => r = some (.int z) ∧ M2 = (Sh0 n, A, L)) :=
  jEv.mk (mt := mX11_meetingOf) rfl (Nat.le_of_ble_eq_true rfl) (jWP.intro (pr := pX11_meetingOf) (pc := 0) (tfX11_meetingOf d n A L l1 h ⟨trivial, jCn.mk ⟨rfl, rfl⟩⟩))
set_option maxRecDepth 20000 in
theorem tfX11_join (d n : Nat) (A : Nat → Nat → Int32) (L : Nat → Nat → Int64) (l1 : Int32) {Q : Option Value → jM → Prop} {z : Int32} (h : fX11_join A l1 = some z) (k3 : Q (some (.int z)) (Sh0 n, A, L)) : pX11_join (jEv jtab (d + 2), jWP (jEv jtab (d + 2)) Q ((Sh0 n).length, jsl (Sh0 n)) pX11_join, Q, ((Sh0 n).length, jsl (Sh0 n))) 0 [some (.ref 94), some (.int l1)] [] (Sh0 n, A, L) := by
  unfold fX11_join at h
  refine y_mask <| x_aload rfl <| x_iload rfl <| y_invV1 (Nat.le_of_ble_eq_true rfl) rfl (Nat.le_of_ble_eq_true rfl) <| jEv.exZ (q := 228) rfl (kX11_isReport _ _ _ _ _) <| fun hz1 => y_if_eq (fun h2 => ?_) (fun h2 => ?_)
  · replace h := of_pos h h2
    refine jWP.intro (pr := pX11_join) (pc := 16) ?_
    refine y_mask <| x_push <| y_mask <| y_goto ?_
    refine jWP.intro (pr := pX11_join) (pc := 18) ?_
    refine y_mri (bs := []) (ls := []) ?_
    obtain rfl := Option.some.inj h
    exact k3
  · replace h := of_neg h h2
    refine jWP.intro (pr := pX11_join) (pc := 8) ?_
    obtain ⟨r3, hc4, h⟩ := of_bind h
    refine y_mask <| x_aload rfl <| x_iload rfl <| y_invV1 (Nat.le_of_ble_eq_true rfl) rfl (Nat.le_of_ble_eq_true rfl) <| jEv.exI (kX11_meetingOf _ _ _ _ _ hc4) <| y_mask <| y_goto ?_
    refine jWP.intro (pr := pX11_join) (pc := 18) ?_
    refine y_mri (bs := []) (ls := []) ?_
    obtain rfl := Option.some.inj h
    exact k3
theorem kX11_join (d n : Nat) (A : Nat → Nat → Int32) (L : Nat → Nat → Int64) (l1 : Int32) {z : Int32} (h : fX11_join A l1 = some z) : jEv jtab (d + 3) 235 [.ref 94, .int l1] (Sh0 n, A, L) 0 0 (fun r M2 => r = some (.int z) ∧ M2 = (Sh0 n, A, L)) :=
  jEv.mk (mt := mX11_join) rfl (Nat.le_of_ble_eq_true rfl) (jWP.intro (pr := pX11_join) (pc := 0) (tfX11_join d n A L l1 h ⟨trivial, jCn.mk ⟨rfl, rfl⟩⟩))
set_option maxRecDepth 20000 in
theorem tcX11_met_17 (d n : Nat) (A : Nat → Nat → Int32) (L : Nat → Nat → Int64) (l1 : Int32) (s : (Int32 × Int32 × Int32)) {Q : Option Value → jM → Prop} {z : ((Int32 × Int32 × Int32) ⊕ Int32)} (h : cX11_met_17 A l1 s = some z) (k1 : ∀ s0, z = .inl s0 → pX11_met (jEv jtab (d + 2), jWP (jEv jtab (d + 2)) Q ((Sh0 n).length, jsl (Sh0 n)) pX11_met, Q, ((Sh0 n).length, jsl (Sh0 n))) 17 [some (.ref 94), some (.int l1), some (.int s0.1), some (.int s0.2.1), some (.int s0.2.2)] [] (Sh0 n, A, L)) (k2 : ∀ s0, z = .inr s0 → pX11_met (jEv jtab (d + 2), jWP (jEv jtab (d + 2)) Q ((Sh0 n).length, jsl (Sh0 n)) pX11_met, Q, ((Sh0 n).length, jsl (Sh0 n))) 68 [none, none, none, some (.int s0), none] [] (Sh0 n, A, L)) : pX11_met (jEv jtab (d + 2), jWP (jEv jtab (d + 2)) Q ((Sh0 n).length, jsl (Sh0 n)) pX11_met, Q, ((Sh0 n).length, jsl (Sh0 n))) 17 [some (.ref 94), some (.int l1), some (.int s.1), some (.int s.2.1), some (.int s.2.2)] [] (Sh0 n, A, L) := by
  unfold cX11_met_17 at h
  refine y_mask <| x_iload rfl <| x_aload rfl <| x_getI (Nat.le_of_ble_eq_true rfl) rfl rfl <| y_cmp_ge (fun h1 => ?_) (fun h1 => ?_)
  · replace h := of_pos h h1
    refine jWP.intro (pr := pX11_met) (pc := 68) ?_
    have hk := k2 _ (Option.some.inj h).symm
    exact hk
  · replace h := of_neg h h1
    refine jWP.intro (pr := pX11_met) (pc := 26) ?_
    obtain ⟨g2, h⟩ := of_guard h
    refine y_mask <| x_aload rfl <| x_getR (Nat.le_of_ble_eq_true rfl) rfl rfl <| x_iload rfl <| x_iald rfl g2 <| x_iload rfl <| y_cmp_ne (fun h3 => ?_) (fun h3 => ?_)
    · replace h := of_neg h h3
      refine jWP.intro (pr := pX11_met) (pc := 62) ?_
      refine y_mask <| x_iinc rfl rfl <| y_mask <| y_goto ?_
      refine jWP.intro (pr := pX11_met) (pc := 17) ?_
      have hk := k1 _ (Option.some.inj h).symm
      exact hk
    · replace h := of_pos h h3
      refine jWP.intro (pr := pX11_met) (pc := 37) ?_
      refine y_mask <| x_iload rfl <| x_iload rfl <| x_ishr <| x_push <| x_iand <| x_push <| y_cmp_ne (fun h4 => ?_) (fun h4 => ?_)
      · replace h := of_neg h h4
        refine jWP.intro (pr := pX11_met) (pc := 50) ?_
        obtain ⟨r5, hc6, h⟩ := of_bind h
        show bX11_met_50 _ _ _ _
        unfold bX11_met_50
        refine y_mask ?_
        refine x_iload rfl ?_
        refine x_aload rfl ?_
        refine x_iload rfl ?_
        refine y_invV1 (Nat.le_of_ble_eq_true rfl) rfl (Nat.le_of_ble_eq_true rfl) ?_
        refine jEv.exI (kX11_meetingOf _ _ _ _ _ hc6) ?_
        refine x_ior ?_
        refine x_istore rfl ?_
        refine x_iinc rfl rfl ?_
        refine y_mask ?_
        refine y_goto ?_
        refine jWP.intro (pr := pX11_met) (pc := 62) ?_
        refine y_mask <| x_iinc rfl rfl <| y_mask <| y_goto ?_
        refine jWP.intro (pr := pX11_met) (pc := 17) ?_
        have hk := k1 _ (Option.some.inj h).symm
        exact hk
      · replace h := of_pos h h4
        refine jWP.intro (pr := pX11_met) (pc := 47) ?_
        refine y_mask <| y_mask <| y_goto ?_
        refine jWP.intro (pr := pX11_met) (pc := 62) ?_
        refine y_mask <| x_iinc rfl rfl <| y_mask <| y_goto ?_
        refine jWP.intro (pr := pX11_met) (pc := 17) ?_
        have hk := k1 _ (Option.some.inj h).symm
        exact hk
set_option maxRecDepth 20000 in
theorem tfX11_met (d n : Nat) (A : Nat → Nat → Int32) (L : Nat → Nat → Int64) (l1 : Int32) {Q : Option Value → jM → Prop} {z : Int32} (h : fX11_met A l1 = some z) (k3 : Q (some (.int z)) (Sh0 n, A, L)) : pX11_met (jEv jtab (d + 2), jWP (jEv jtab (d + 2)) Q ((Sh0 n).length, jsl (Sh0 n)) pX11_met, Q, ((Sh0 n).length, jsl (Sh0 n))) 0 [some (.ref 94), some (.int l1), none, none, none] [] (Sh0 n, A, L) := by
  unfold fX11_met at h
  refine y_mask <| x_iload rfl <| y_invS1 (Nat.le_of_ble_eq_true rfl) <| jEv.exZ (q := 229) rfl (kX11_isShip _ _ _ _ _) <| fun hz1 => y_if_ne (fun h2 => ?_) (fun h2 => ?_)
  · replace h := of_neg h h2
    refine jWP.intro (pr := pX11_met) (pc := 10) ?_
    refine y_mask <| x_push <| x_istore rfl <| x_push <| x_istore rfl <| x_push <| x_istore rfl <| y_mask <| y_goto ?_
    obtain ⟨e3, hw4, h⟩ := of_bind h
    refine jWP.intro (pr := pX11_met) (pc := 17) ?_
    refine jwh_use (G := (fun s0 => pX11_met (jEv jtab (d + 2), jWP (jEv jtab (d + 2)) Q ((Sh0 n).length, jsl (Sh0 n)) pX11_met, Q, ((Sh0 n).length, jsl (Sh0 n))) 17 [some (.ref 94), some (.int l1), some (.int s0.1), some (.int s0.2.1), some (.int s0.2.2)] [] (Sh0 n, A, L))) (Gx := (fun s0 => pX11_met (jEv jtab (d + 2), jWP (jEv jtab (d + 2)) Q ((Sh0 n).length, jsl (Sh0 n)) pX11_met, Q, ((Sh0 n).length, jsl (Sh0 n))) 68 [none, none, none, some (.int s0), none] [] (Sh0 n, A, L))) (fun s1 z1 hz kk1 kk2 => tcX11_met_17 d n A L l1 s1 hz kk1 kk2) hw4 ?_
    refine y_mask <| x_iload rfl <| y_ireturn (ls := [none, none, none, some (.int e3), none]) ?_
    obtain rfl := Option.some.inj h
    exact k3
  · replace h := of_pos h h2
    refine jWP.intro (pr := pX11_met) (pc := 7) ?_
    refine y_mpri (bs := []) (ls := []) ?_
    obtain rfl := Option.some.inj h
    exact k3
theorem kX11_met (d n : Nat) (A : Nat → Nat → Int32) (L : Nat → Nat → Int64) (l1 : Int32) {z : Int32} (h : fX11_met A l1 = some z) : jEv jtab (d + 3) 236 [.ref 94, .int l1] (Sh0 n, A, L) 0 0 (fun r M2 => r = some (.int z) ∧ M2 = (Sh0 n, A, L)) :=
  jEv.mk (mt := mX11_met) rfl (Nat.le_of_ble_eq_true rfl) (jWP.intro (pr := pX11_met) (pc := 0) (tfX11_met d n A L l1 h ⟨trivial, jCn.mk ⟨rfl, rfl⟩⟩))
set_option maxRecDepth 20000 in
theorem tfX11_isSpeed (d n : Nat) (A : Nat → Nat → Int32) (L : Nat → Nat → Int64) (l0 : Int32) {Q : Option Value → jM → Prop} {z : Int32} (h : fX11_isSpeed l0 = z) (k3 : (narrow .boolean (.int z) = .int z) → Q (some (.int z)) (Sh0 n, A, L)) : pX11_isSpeed (jEv jtab (d + 1), jWP (jEv jtab (d + 1)) Q ((Sh0 n).length, jsl (Sh0 n)) pX11_isSpeed, Q, ((Sh0 n).length, jsl (Sh0 n))) 0 [some (.int l0)] [] (Sh0 n, A, L) := by
  unfold fX11_isSpeed at h
  refine y_mask <| x_iload rfl <| x_push <| x_push <| y_invS3 (Nat.le_of_ble_eq_true rfl) <| jEv.exZ (q := 159) rfl (kX11_in _ _ _ _ _ _ _) <| fun hz1 => y_ireturn (ls := [some (.int l0)]) ?_
  subst h
  exact k3 hz1
theorem kX11_isSpeed (d n : Nat) (A : Nat → Nat → Int32) (L : Nat → Nat → Int64) (l0 : Int32) : jEv jtab (d + 2) 231 [.int l0] (Sh0 n, A, L) 0 0 (fun r M2 => r = some (.int (fX11_isSpeed l0)) ∧ M2 = (Sh0 n, A, L)) :=
  jEv.mk (mt := mX11_isSpeed) rfl (Nat.le_of_ble_eq_true rfl) (jWP.intro (pr := pX11_isSpeed) (pc := 0) (tfX11_isSpeed d n A L l0 rfl (fun hz => ⟨hz, jCn.mk ⟨rfl, rfl⟩⟩)))
set_option maxRecDepth 20000 in
theorem tcX11_ofShip_4 (d n : Nat) (A : Nat → Nat → Int32) (L : Nat → Nat → Int64) (l1 : Int32) (s : (Int32 × Int32)) {Q : Option Value → jM → Prop} {z : ((Int32 × Int32) ⊕ Int32)} (h : cX11_ofShip_4 A l1 s = some z) (k1 : ∀ s0, z = .inl s0 → pX11_ofShip (jEv jtab (d + 0), jWP (jEv jtab (d + 0)) Q ((Sh0 n).length, jsl (Sh0 n)) pX11_ofShip, Q, ((Sh0 n).length, jsl (Sh0 n))) 4 [some (.ref 94), some (.int l1), some (.int s0.1), some (.int s0.2)] [] (Sh0 n, A, L)) (k2 : ∀ s0, z = .inr s0 → pX11_ofShip (jEv jtab (d + 0), jWP (jEv jtab (d + 0)) Q ((Sh0 n).length, jsl (Sh0 n)) pX11_ofShip, Q, ((Sh0 n).length, jsl (Sh0 n))) 34 [none, none, some (.int s0), none] [] (Sh0 n, A, L)) : pX11_ofShip (jEv jtab (d + 0), jWP (jEv jtab (d + 0)) Q ((Sh0 n).length, jsl (Sh0 n)) pX11_ofShip, Q, ((Sh0 n).length, jsl (Sh0 n))) 4 [some (.ref 94), some (.int l1), some (.int s.1), some (.int s.2)] [] (Sh0 n, A, L) := by
  unfold cX11_ofShip_4 at h
  refine y_mask <| x_iload rfl <| x_aload rfl <| x_getI (Nat.le_of_ble_eq_true rfl) rfl rfl <| y_cmp_ge (fun h1 => ?_) (fun h1 => ?_)
  · replace h := of_pos h h1
    refine jWP.intro (pr := pX11_ofShip) (pc := 34) ?_
    have hk := k2 _ (Option.some.inj h).symm
    exact hk
  · replace h := of_neg h h1
    refine jWP.intro (pr := pX11_ofShip) (pc := 12) ?_
    obtain ⟨g2, h⟩ := of_guard h
    refine y_mask <| x_aload rfl <| x_getR (Nat.le_of_ble_eq_true rfl) rfl rfl <| x_iload rfl <| x_iald rfl g2 <| x_iload rfl <| y_cmp_ne (fun h3 => ?_) (fun h3 => ?_)
    · replace h := of_neg h h3
      refine jWP.intro (pr := pX11_ofShip) (pc := 28) ?_
      refine y_mask <| x_iinc rfl rfl <| y_mask <| y_goto ?_
      refine jWP.intro (pr := pX11_ofShip) (pc := 4) ?_
      have hk := k1 _ (Option.some.inj h).symm
      exact hk
    · replace h := of_pos h h3
      refine jWP.intro (pr := pX11_ofShip) (pc := 22) ?_
      refine y_mask <| x_iload rfl <| x_push <| x_iload rfl <| x_ishl <| x_ior <| x_istore rfl <| y_mask <| y_goto ?_
      refine jWP.intro (pr := pX11_ofShip) (pc := 28) ?_
      refine y_mask <| x_iinc rfl rfl <| y_mask <| y_goto ?_
      refine jWP.intro (pr := pX11_ofShip) (pc := 4) ?_
      have hk := k1 _ (Option.some.inj h).symm
      exact hk
set_option maxRecDepth 20000 in
theorem tfX11_ofShip (d n : Nat) (A : Nat → Nat → Int32) (L : Nat → Nat → Int64) (l1 : Int32) {Q : Option Value → jM → Prop} {z : Int32} (h : fX11_ofShip A l1 = some z) (k3 : Q (some (.int z)) (Sh0 n, A, L)) : pX11_ofShip (jEv jtab (d + 0), jWP (jEv jtab (d + 0)) Q ((Sh0 n).length, jsl (Sh0 n)) pX11_ofShip, Q, ((Sh0 n).length, jsl (Sh0 n))) 0 [some (.ref 94), some (.int l1), none, none] [] (Sh0 n, A, L) := by
  unfold fX11_ofShip at h
  refine y_mask <| x_push <| x_istore rfl <| x_push <| x_istore rfl <| y_mask <| y_goto ?_
  obtain ⟨e1, hw2, h⟩ := of_bind h
  refine jWP.intro (pr := pX11_ofShip) (pc := 4) ?_
  refine jwh_use (G := (fun s0 => pX11_ofShip (jEv jtab (d + 0), jWP (jEv jtab (d + 0)) Q ((Sh0 n).length, jsl (Sh0 n)) pX11_ofShip, Q, ((Sh0 n).length, jsl (Sh0 n))) 4 [some (.ref 94), some (.int l1), some (.int s0.1), some (.int s0.2)] [] (Sh0 n, A, L))) (Gx := (fun s0 => pX11_ofShip (jEv jtab (d + 0), jWP (jEv jtab (d + 0)) Q ((Sh0 n).length, jsl (Sh0 n)) pX11_ofShip, Q, ((Sh0 n).length, jsl (Sh0 n))) 34 [none, none, some (.int s0), none] [] (Sh0 n, A, L))) (fun s1 z1 hz kk1 kk2 => tcX11_ofShip_4 d n A L l1 s1 hz kk1 kk2) hw2 ?_
  refine y_mask <| x_iload rfl <| y_ireturn (ls := [none, none, some (.int e1), none]) ?_
  obtain rfl := Option.some.inj h
  exact k3
theorem kX11_ofShip (d n : Nat) (A : Nat → Nat → Int32) (L : Nat → Nat → Int64) (l1 : Int32) {z : Int32} (h : fX11_ofShip A l1 = some z) : jEv jtab (d + 1) 239 [.ref 94, .int l1] (Sh0 n, A, L) 0 0 (fun r M2 => r = some (.int z) ∧ M2 = (Sh0 n, A, L)) :=
  jEv.mk (mt := mX11_ofShip) rfl (Nat.le_of_ble_eq_true rfl) (jWP.intro (pr := pX11_ofShip) (pc := 0) (tfX11_ofShip d n A L l1 h ⟨trivial, jCn.mk ⟨rfl, rfl⟩⟩))
set_option maxRecDepth 20000 in
theorem tfX11_canBoth (d n : Nat) (A : Nat → Nat → Int32) (L : Nat → Nat → Int64) (l1 : Int32) (l2 : Int32) (l3 : Int32) {Q : Option Value → jM → Prop} {z : Int32} (h : fX11_canBoth A l1 l2 l3 = some z) (k3 : (narrow .boolean (.int z) = .int z) → Q (some (.int z)) (Sh0 n, A, L)) : pX11_canBoth (jEv jtab (d + 1), jWP (jEv jtab (d + 1)) Q ((Sh0 n).length, jsl (Sh0 n)) pX11_canBoth, Q, ((Sh0 n).length, jsl (Sh0 n))) 0 [some (.ref 94), some (.int l1), some (.int l2), some (.int l3)] [] (Sh0 n, A, L) := by
  unfold fX11_canBoth at h
  obtain ⟨g1, h⟩ := of_guard h
  obtain ⟨g2, h⟩ := of_guard h
  obtain ⟨g3, h⟩ := of_guard h
  obtain ⟨g4, h⟩ := of_guard h
  show bX11_canBoth_0 _ _ _ _
  unfold bX11_canBoth_0
  refine y_mask ?_
  refine x_aload rfl ?_
  refine x_getR (Nat.le_of_ble_eq_true rfl) rfl rfl ?_
  refine x_iload rfl ?_
  refine x_iald rfl g1 ?_
  refine x_aload rfl ?_
  refine x_getR (Nat.le_of_ble_eq_true rfl) rfl rfl ?_
  refine x_iload rfl ?_
  refine x_iald rfl g2 ?_
  refine x_isub ?_
  refine y_invS1 (Nat.le_of_ble_eq_true rfl) ?_
  refine jEv.exI (kX11_sizeOf _ _ _ _ _) ?_
  refine x_iload rfl ?_
  refine x_aload rfl ?_
  refine x_getR (Nat.le_of_ble_eq_true rfl) rfl rfl ?_
  refine x_iload rfl ?_
  refine x_iald rfl g3 ?_
  refine x_aload rfl ?_
  refine x_getR (Nat.le_of_ble_eq_true rfl) rfl rfl ?_
  refine x_iload rfl ?_
  refine x_iald rfl g4 ?_
  refine x_isub ?_
  refine y_invS1 (Nat.le_of_ble_eq_true rfl) ?_
  refine jEv.exI (kX11_sizeOf _ _ _ _ _) ?_
  refine x_imul ?_
  refine y_cmp_gt (fun h5 => ?_) (fun h5 => ?_)
  · replace h := of_pos h h5
    refine jWP.intro (pr := pX11_canBoth) (pc := 41) ?_
    refine y_mask <| x_push <| y_mask <| y_goto ?_
    refine jWP.intro (pr := pX11_canBoth) (pc := 42) ?_
    refine y_mri (bs := []) (ls := []) ?_
    obtain rfl := Option.some.inj h
    exact k3 (jnar_boolean (.inl rfl))
  · replace h := of_neg h h5
    refine jWP.intro (pr := pX11_canBoth) (pc := 37) ?_
    refine y_mask <| x_push <| y_mask <| y_goto ?_
    refine jWP.intro (pr := pX11_canBoth) (pc := 42) ?_
    refine y_mri (bs := []) (ls := []) ?_
    obtain rfl := Option.some.inj h
    exact k3 (jnar_boolean (.inr rfl))
theorem kX11_canBoth (d n : Nat) (A : Nat → Nat → Int32) (L : Nat → Nat → Int64) (l1 : Int32) (l2 : Int32) (l3 : Int32) {z : Int32} (h : fX11_canBoth A l1 l2 l3 = some z) : jEv jtab (d + 2) 237 [.ref 94, .int l1, .int l2, .int l3] (Sh0 n, A, L) 0 0 (fun r M2 => r = some (.int z) ∧ M2 = (Sh0 n, A, L)) :=
  jEv.mk (mt := mX11_canBoth) rfl (Nat.le_of_ble_eq_true rfl) (jWP.intro (pr := pX11_canBoth) (pc := 0) (tfX11_canBoth d n A L l1 l2 l3 h (fun hz => ⟨hz, jCn.mk ⟨rfl, rfl⟩⟩)))
set_option maxRecDepth 20000 in
theorem tcX11_canAll_15 (d n : Nat) (A : Nat → Nat → Int32) (L : Nat → Nat → Int64) (l1 : Int32) (l2 : Int32) (l3 : Int32) (s : Int32) {Q : Option Value → jM → Prop} {z : (Int32 ⊕ (Unit ⊕ Int32))} (h : cX11_canAll_15 A l1 l2 l3 s = some z) (k1 : ∀ s0, z = .inl s0 → pX11_canAll (jEv jtab (d + 2), jWP (jEv jtab (d + 2)) Q ((Sh0 n).length, jsl (Sh0 n)) pX11_canAll, Q, ((Sh0 n).length, jsl (Sh0 n))) 15 [some (.ref 94), some (.int l1), some (.int l2), some (.int l3), some (.int s0)] [] (Sh0 n, A, L)) (k2 : ∀ s0, z = .inr (.inl s0) → pX11_canAll (jEv jtab (d + 2), jWP (jEv jtab (d + 2)) Q ((Sh0 n).length, jsl (Sh0 n)) pX11_canAll, Q, ((Sh0 n).length, jsl (Sh0 n))) 62 [some (.ref 94), some (.int l1), some (.int l2), some (.int l3), none] [] (Sh0 n, A, L)) (k3 : ∀ s0, z = .inr (.inr s0) → (narrow .boolean (.int s0) = .int s0) → Q (some (.int s0)) (Sh0 n, A, L)) : pX11_canAll (jEv jtab (d + 2), jWP (jEv jtab (d + 2)) Q ((Sh0 n).length, jsl (Sh0 n)) pX11_canAll, Q, ((Sh0 n).length, jsl (Sh0 n))) 15 [some (.ref 94), some (.int l1), some (.int l2), some (.int l3), some (.int s)] [] (Sh0 n, A, L) := by
  unfold cX11_canAll_15 at h
  refine y_mask <| x_iload rfl <| x_aload rfl <| x_getI (Nat.le_of_ble_eq_true rfl) rfl rfl <| y_cmp_ge (fun h1 => ?_) (fun h1 => ?_)
  · replace h := of_pos h h1
    refine jWP.intro (pr := pX11_canAll) (pc := 62) ?_
    have hk := k2 _ (Option.some.inj h).symm
    exact hk
  · replace h := of_neg h h1
    refine jWP.intro (pr := pX11_canAll) (pc := 24) ?_
    refine y_mask <| x_iload rfl <| x_iload rfl <| x_ishr <| x_push <| x_iand <| x_push <| y_cmp_ne (fun h2 => ?_) (fun h2 => ?_)
    · replace h := of_neg h h2
      refine jWP.intro (pr := pX11_canAll) (pc := 56) ?_
      refine y_mask <| x_iinc rfl rfl <| y_mask <| y_goto ?_
      refine jWP.intro (pr := pX11_canAll) (pc := 15) ?_
      have hk := k1 _ (Option.some.inj h).symm
      exact hk
    · replace h := of_pos h h2
      refine jWP.intro (pr := pX11_canAll) (pc := 33) ?_
      refine y_mask <| x_iload rfl <| x_iload rfl <| x_ishr <| x_push <| x_iand <| x_push <| y_cmp_ne (fun h3 => ?_) (fun h3 => ?_)
      · replace h := of_neg h h3
        refine jWP.intro (pr := pX11_canAll) (pc := 56) ?_
        refine y_mask <| x_iinc rfl rfl <| y_mask <| y_goto ?_
        refine jWP.intro (pr := pX11_canAll) (pc := 15) ?_
        have hk := k1 _ (Option.some.inj h).symm
        exact hk
      · replace h := of_pos h h3
        refine jWP.intro (pr := pX11_canAll) (pc := 43) ?_
        obtain ⟨r4, hc5, h⟩ := of_bind h
        refine y_mask <| x_aload rfl <| x_iload rfl <| x_iload rfl <| x_iload rfl <| y_invV3 (Nat.le_of_ble_eq_true rfl) rfl (Nat.le_of_ble_eq_true rfl) <| jEv.exZ (q := 237) rfl (kX11_canBoth _ _ _ _ _ _ _ hc5) <| fun hz6 => y_if_ne (fun h7 => ?_) (fun h7 => ?_)
        · replace h := of_neg h h7
          refine jWP.intro (pr := pX11_canAll) (pc := 56) ?_
          refine y_mask <| x_iinc rfl rfl <| y_mask <| y_goto ?_
          refine jWP.intro (pr := pX11_canAll) (pc := 15) ?_
          have hk := k1 _ (Option.some.inj h).symm
          exact hk
        · replace h := of_pos h h7
          refine jWP.intro (pr := pX11_canAll) (pc := 54) ?_
          refine y_mpri (bs := []) (ls := []) ?_
          have hk := k3 _ (Option.some.inj h).symm
          exact hk (jnar_boolean (.inl rfl))
set_option maxRecDepth 20000 in
theorem tcX11_canAll_2 (d n : Nat) (A : Nat → Nat → Int32) (L : Nat → Nat → Int64) (l1 : Int32) (l2 : Int32) (s : Int32) {Q : Option Value → jM → Prop} {z : (Int32 ⊕ (Unit ⊕ Int32))} (h : cX11_canAll_2 A l1 l2 s = some z) (k1 : ∀ s0, z = .inl s0 → pX11_canAll (jEv jtab (d + 2), jWP (jEv jtab (d + 2)) Q ((Sh0 n).length, jsl (Sh0 n)) pX11_canAll, Q, ((Sh0 n).length, jsl (Sh0 n))) 2 [some (.ref 94), some (.int l1), some (.int l2), some (.int s0), none] [] (Sh0 n, A, L)) (k2 : ∀ s0, z = .inr (.inl s0) → pX11_canAll (jEv jtab (d + 2), jWP (jEv jtab (d + 2)) Q ((Sh0 n).length, jsl (Sh0 n)) pX11_canAll, Q, ((Sh0 n).length, jsl (Sh0 n))) 68 [none, none, none, none, none] [] (Sh0 n, A, L)) (k3 : ∀ s0, z = .inr (.inr s0) → (narrow .boolean (.int s0) = .int s0) → Q (some (.int s0)) (Sh0 n, A, L)) : pX11_canAll (jEv jtab (d + 2), jWP (jEv jtab (d + 2)) Q ((Sh0 n).length, jsl (Sh0 n)) pX11_canAll, Q, ((Sh0 n).length, jsl (Sh0 n))) 2 [some (.ref 94), some (.int l1), some (.int l2), some (.int s), none] [] (Sh0 n, A, L) := by
  unfold cX11_canAll_2 at h
  refine y_mask <| x_iload rfl <| x_aload rfl <| x_getI (Nat.le_of_ble_eq_true rfl) rfl rfl <| y_cmp_ge (fun h1 => ?_) (fun h1 => ?_)
  · replace h := of_pos h h1
    refine jWP.intro (pr := pX11_canAll) (pc := 68) ?_
    have hk := k2 _ (Option.some.inj h).symm
    exact hk
  · replace h := of_neg h h1
    refine jWP.intro (pr := pX11_canAll) (pc := 10) ?_
    refine y_mask <| x_iload rfl <| x_push <| x_iadd <| x_istore rfl <| y_mask <| y_goto ?_
    obtain ⟨e2y, hw3, h⟩ := of_bind h
    refine jWP.intro (pr := pX11_canAll) (pc := 15) ?_
    refine jwh_use2 (G := (fun s0 => pX11_canAll (jEv jtab (d + 2), jWP (jEv jtab (d + 2)) Q ((Sh0 n).length, jsl (Sh0 n)) pX11_canAll, Q, ((Sh0 n).length, jsl (Sh0 n))) 15 [some (.ref 94), some (.int l1), some (.int l2), some (.int s), some (.int s0)] [] (Sh0 n, A, L))) (Gx := (fun s0 => pX11_canAll (jEv jtab (d + 2), jWP (jEv jtab (d + 2)) Q ((Sh0 n).length, jsl (Sh0 n)) pX11_canAll, Q, ((Sh0 n).length, jsl (Sh0 n))) 62 [some (.ref 94), some (.int l1), some (.int l2), some (.int s), none] [] (Sh0 n, A, L))) (Gr := (fun s0 => (narrow .boolean (.int s0) = .int s0) → Q (some (.int s0)) (Sh0 n, A, L))) (fun s1 z1 hz kk1 kk2 kk3 => tcX11_canAll_15 d n A L l1 l2 s s1 hz kk1 kk2 kk3) hw3 ?_ ?_
    · intro e2 hy
      subst hy
      replace h : (some (.inl (s + (1 : Int32)))) = some z := h
      refine y_mask <| x_iinc rfl rfl <| y_mask <| y_goto ?_
      refine jWP.intro (pr := pX11_canAll) (pc := 2) ?_
      have hk := k1 _ (Option.some.inj h).symm
      exact hk
    · intro s0 hy
      subst hy
      replace h : some (.inr (.inr s0)) = some z := h
      exact k3 _ (Option.some.inj h).symm
set_option maxRecDepth 20000 in
theorem tfX11_canAll (d n : Nat) (A : Nat → Nat → Int32) (L : Nat → Nat → Int64) (l1 : Int32) (l2 : Int32) {Q : Option Value → jM → Prop} {z : Int32} (h : fX11_canAll A l1 l2 = some z) (k3 : (narrow .boolean (.int z) = .int z) → Q (some (.int z)) (Sh0 n, A, L)) : pX11_canAll (jEv jtab (d + 2), jWP (jEv jtab (d + 2)) Q ((Sh0 n).length, jsl (Sh0 n)) pX11_canAll, Q, ((Sh0 n).length, jsl (Sh0 n))) 0 [some (.ref 94), some (.int l1), some (.int l2), none, none] [] (Sh0 n, A, L) := by
  unfold fX11_canAll at h
  refine y_mask <| x_push <| x_istore rfl <| y_mask <| y_goto ?_
  obtain ⟨e1y, hw2, h⟩ := of_bind h
  refine jWP.intro (pr := pX11_canAll) (pc := 2) ?_
  refine jwh_use2 (G := (fun s0 => pX11_canAll (jEv jtab (d + 2), jWP (jEv jtab (d + 2)) Q ((Sh0 n).length, jsl (Sh0 n)) pX11_canAll, Q, ((Sh0 n).length, jsl (Sh0 n))) 2 [some (.ref 94), some (.int l1), some (.int l2), some (.int s0), none] [] (Sh0 n, A, L))) (Gx := (fun s0 => pX11_canAll (jEv jtab (d + 2), jWP (jEv jtab (d + 2)) Q ((Sh0 n).length, jsl (Sh0 n)) pX11_canAll, Q, ((Sh0 n).length, jsl (Sh0 n))) 68 [none, none, none, none, none] [] (Sh0 n, A, L))) (Gr := (fun s0 => (narrow .boolean (.int s0) = .int s0) → Q (some (.int s0)) (Sh0 n, A, L))) (fun s1 z1 hz kk1 kk2 kk3 => tcX11_canAll_2 d n A L l1 l2 s1 hz kk1 kk2 kk3) hw2 ?_ ?_
  · intro e1 hy
    subst hy
    replace h : (some (1 : Int32)) = some z := h
    refine y_mpri (bs := []) (ls := []) ?_
    obtain rfl := Option.some.inj h
    exact k3 (jnar_boolean (.inr rfl))
  · intro s0 hy
    subst hy
    replace h : some s0 = some z := h
    obtain rfl := Option.some.inj h
    exact k3
theorem kX11_canAll (d n : Nat) (A : Nat → Nat → Int32) (L : Nat → Nat → Int64) (l1 : Int32) (l2 : Int32) {z : Int32} (h : fX11_canAll A l1 l2 = some z) : jEv jtab (d + 3) 238 [.ref 94, .int l1, .int l2] (Sh0 n, A, L) 0 0 (fun r M2 => r = some (.int z) ∧ M2 = (Sh0 n, A, L)) :=
  jEv.mk (mt := mX11_canAll) rfl (Nat.le_of_ble_eq_true rfl) (jWP.intro (pr := pX11_canAll) (pc := 0) (tfX11_canAll d n A L l1 l2 h (fun hz => ⟨hz, jCn.mk ⟨rfl, rfl⟩⟩)))
set_option maxRecDepth 20000 in
theorem tjX11_falseOf_48_12 (d n : Nat) (A : Nat → Nat → Int32) (L : Nat → Nat → Int64) (l2 : Int32) (l3 : Int32) (l4 : Int32) (l5 : Int32) {Q : Option Value → jM → Prop} {z : ((Int32 × Int32) ⊕ Int32)} (h : jX11_falseOf_48_12 A l2 l3 l4 l5 = some z) (k1 : ∀ s0, z = .inl s0 → pX11_falseOf (jEv jtab (d + 3), jWP (jEv jtab (d + 3)) Q ((Sh0 n).length, jsl (Sh0 n)) pX11_falseOf, Q, ((Sh0 n).length, jsl (Sh0 n))) 12 [some (.ref 94), none, some (.int l2), some (.int l3), some (.int s0.1), some (.int s0.2)] [] (Sh0 n, A, L)) (k2 : ∀ s0, z = .inr s0 → pX11_falseOf (jEv jtab (d + 3), jWP (jEv jtab (d + 3)) Q ((Sh0 n).length, jsl (Sh0 n)) pX11_falseOf, Q, ((Sh0 n).length, jsl (Sh0 n))) 72 [none, none, none, none, some (.int s0), none] [] (Sh0 n, A, L)) : pX11_falseOf (jEv jtab (d + 3), jWP (jEv jtab (d + 3)) Q ((Sh0 n).length, jsl (Sh0 n)) pX11_falseOf, Q, ((Sh0 n).length, jsl (Sh0 n))) 48 [some (.ref 94), none, some (.int l2), some (.int l3), some (.int l4), some (.int l5)] [] (Sh0 n, A, L) := by
  unfold jX11_falseOf_48_12 at h
  obtain ⟨r1, hc2, h⟩ := of_bind h
  show bX11_falseOf_48 _ _ _ _
  unfold bX11_falseOf_48
  refine y_mask ?_
  refine x_aload rfl ?_
  refine x_iload rfl ?_
  refine x_iload rfl ?_
  refine x_push ?_
  refine x_ixor ?_
  refine x_iand ?_
  refine x_iload rfl ?_
  refine y_invV2 (Nat.le_of_ble_eq_true rfl) rfl (Nat.le_of_ble_eq_true rfl) ?_
  refine jEv.exZ (q := 238) rfl (kX11_canAll _ _ _ _ _ _ hc2) (fun hz3 => ?_)
  refine y_if_eq (fun h4 => ?_) (fun h4 => ?_)
  · replace h := of_pos h h4
    refine jWP.intro (pr := pX11_falseOf) (pc := 66) ?_
    refine y_mask <| x_iinc rfl rfl <| y_mask <| y_goto ?_
    refine jWP.intro (pr := pX11_falseOf) (pc := 12) ?_
    have hk := k1 _ (Option.some.inj h).symm
    exact hk
  · replace h := of_neg h h4
    refine jWP.intro (pr := pX11_falseOf) (pc := 62) ?_
    refine y_mask <| x_iload rfl <| x_istore rfl <| y_mask <| y_goto ?_
    refine jWP.intro (pr := pX11_falseOf) (pc := 66) ?_
    refine y_mask <| x_iinc rfl rfl <| y_mask <| y_goto ?_
    refine jWP.intro (pr := pX11_falseOf) (pc := 12) ?_
    have hk := k1 _ (Option.some.inj h).symm
    exact hk
set_option maxRecDepth 20000 in
theorem tcX11_falseOf_12 (d n : Nat) (A : Nat → Nat → Int32) (L : Nat → Nat → Int64) (l2 : Int32) (l3 : Int32) (s : (Int32 × Int32)) {Q : Option Value → jM → Prop} {z : ((Int32 × Int32) ⊕ Int32)} (h : cX11_falseOf_12 A l2 l3 s = some z) (k1 : ∀ s0, z = .inl s0 → pX11_falseOf (jEv jtab (d + 3), jWP (jEv jtab (d + 3)) Q ((Sh0 n).length, jsl (Sh0 n)) pX11_falseOf, Q, ((Sh0 n).length, jsl (Sh0 n))) 12 [some (.ref 94), none, some (.int l2), some (.int l3), some (.int s0.1), some (.int s0.2)] [] (Sh0 n, A, L)) (k2 : ∀ s0, z = .inr s0 → pX11_falseOf (jEv jtab (d + 3), jWP (jEv jtab (d + 3)) Q ((Sh0 n).length, jsl (Sh0 n)) pX11_falseOf, Q, ((Sh0 n).length, jsl (Sh0 n))) 72 [none, none, none, none, some (.int s0), none] [] (Sh0 n, A, L)) : pX11_falseOf (jEv jtab (d + 3), jWP (jEv jtab (d + 3)) Q ((Sh0 n).length, jsl (Sh0 n)) pX11_falseOf, Q, ((Sh0 n).length, jsl (Sh0 n))) 12 [some (.ref 94), none, some (.int l2), some (.int l3), some (.int s.1), some (.int s.2)] [] (Sh0 n, A, L) := by
  unfold cX11_falseOf_12 at h
  refine y_mask <| x_iload rfl <| x_iload rfl <| y_cmp_gt (fun h1 => ?_) (fun h1 => ?_)
  · replace h := of_pos h h1
    refine jWP.intro (pr := pX11_falseOf) (pc := 72) ?_
    have hk := k2 _ (Option.some.inj h).symm
    exact hk
  · replace h := of_neg h h1
    refine jWP.intro (pr := pX11_falseOf) (pc := 18) ?_
    refine y_mask <| x_iload rfl <| x_iload rfl <| x_push <| x_ixor <| x_iand <| y_if_ne (fun h2 => ?_) (fun h2 => ?_)
    · replace h := of_neg h h2
      refine jWP.intro (pr := pX11_falseOf) (pc := 66) ?_
      refine y_mask <| x_iinc rfl rfl <| y_mask <| y_goto ?_
      refine jWP.intro (pr := pX11_falseOf) (pc := 12) ?_
      have hk := k1 _ (Option.some.inj h).symm
      exact hk
    · replace h := of_pos h h2
      refine jWP.intro (pr := pX11_falseOf) (pc := 27) ?_
      refine y_mask <| x_iload rfl <| y_if_lt (fun h3 => ?_) (fun h3 => ?_)
      · replace h := of_pos h h3
        refine jWP.intro (pr := pX11_falseOf) (pc := 48) ?_
        exact tjX11_falseOf_48_12 d n A L l2 l3 s.1 s.2 h k1 k2
      · replace h := of_neg h h3
        refine jWP.intro (pr := pX11_falseOf) (pc := 32) ?_
        obtain ⟨r4, hc5, h⟩ := of_bind h
        obtain ⟨r6, hc7, h⟩ := of_bind h
        refine y_mask <| x_iload rfl <| y_invS1 (Nat.le_of_ble_eq_true rfl) <| jEv.exI (kX11_bitsOf _ _ _ _ _ hc5) <| x_iload rfl <| y_invS1 (Nat.le_of_ble_eq_true rfl) <| jEv.exI (kX11_bitsOf _ _ _ _ _ hc7) <| y_cmp_lt (fun h8 => ?_) (fun h8 => ?_)
        · replace h := of_pos h h8
          refine jWP.intro (pr := pX11_falseOf) (pc := 48) ?_
          exact tjX11_falseOf_48_12 d n A L l2 l3 s.1 s.2 h k1 k2
        · replace h := of_neg h h8
          refine jWP.intro (pr := pX11_falseOf) (pc := 45) ?_
          refine y_mask <| y_mask <| y_goto ?_
          refine jWP.intro (pr := pX11_falseOf) (pc := 66) ?_
          refine y_mask <| x_iinc rfl rfl <| y_mask <| y_goto ?_
          refine jWP.intro (pr := pX11_falseOf) (pc := 12) ?_
          have hk := k1 _ (Option.some.inj h).symm
          exact hk
set_option maxRecDepth 20000 in
theorem tfX11_falseOf (d n : Nat) (A : Nat → Nat → Int32) (L : Nat → Nat → Int64) (l1 : Int32) (l2 : Int32) {Q : Option Value → jM → Prop} {z : Int32} (h : fX11_falseOf A l1 l2 = some z) (k3 : Q (some (.int z)) (Sh0 n, A, L)) : pX11_falseOf (jEv jtab (d + 3), jWP (jEv jtab (d + 3)) Q ((Sh0 n).length, jsl (Sh0 n)) pX11_falseOf, Q, ((Sh0 n).length, jsl (Sh0 n))) 0 [some (.ref 94), some (.int l1), some (.int l2), none, none, none] [] (Sh0 n, A, L) := by
  unfold fX11_falseOf at h
  obtain ⟨r1, hc2, h⟩ := of_bind h
  show bX11_falseOf_0 _ _ _ _
  unfold bX11_falseOf_0
  refine y_mask ?_
  refine x_aload rfl ?_
  refine x_iload rfl ?_
  refine y_invV1 (Nat.le_of_ble_eq_true rfl) rfl (Nat.le_of_ble_eq_true rfl) ?_
  refine jEv.exI (kX11_ofShip _ _ _ _ _ hc2) ?_
  refine x_istore rfl ?_
  refine x_push ?_
  refine x_istore rfl ?_
  refine x_push ?_
  refine x_istore rfl ?_
  refine y_mask ?_
  refine y_goto ?_
  obtain ⟨e3, hw4, h⟩ := of_bind h
  refine jWP.intro (pr := pX11_falseOf) (pc := 12) ?_
  refine jwh_use (G := (fun s0 => pX11_falseOf (jEv jtab (d + 3), jWP (jEv jtab (d + 3)) Q ((Sh0 n).length, jsl (Sh0 n)) pX11_falseOf, Q, ((Sh0 n).length, jsl (Sh0 n))) 12 [some (.ref 94), none, some (.int l2), some (.int r1), some (.int s0.1), some (.int s0.2)] [] (Sh0 n, A, L))) (Gx := (fun s0 => pX11_falseOf (jEv jtab (d + 3), jWP (jEv jtab (d + 3)) Q ((Sh0 n).length, jsl (Sh0 n)) pX11_falseOf, Q, ((Sh0 n).length, jsl (Sh0 n))) 72 [none, none, none, none, some (.int s0), none] [] (Sh0 n, A, L))) (fun s1 z1 hz kk1 kk2 => tcX11_falseOf_12 d n A L l2 r1 s1 hz kk1 kk2) hw4 ?_
  refine y_mask <| x_iload rfl <| y_ireturn (ls := [none, none, none, none, some (.int e3), none]) ?_
  obtain rfl := Option.some.inj h
  exact k3
theorem kX11_falseOf (d n : Nat) (A : Nat → Nat → Int32) (L : Nat → Nat → Int64) (l1 : Int32) (l2 : Int32) {z : Int32} (h : fX11_falseOf A l1 l2 = some z) : jEv jtab (d + 4) 240 [.ref 94, .int l1, .int l2] (Sh0 n, A, L) 0 0 (fun r M2 => r = some (.int z) ∧ M2 = (Sh0 n, A, L)) :=
  jEv.mk (mt := mX11_falseOf) rfl (Nat.le_of_ble_eq_true rfl) (jWP.intro (pr := pX11_falseOf) (pc := 0) (tfX11_falseOf d n A L l1 l2 h ⟨trivial, jCn.mk ⟨rfl, rfl⟩⟩))
set_option maxRecDepth 20000 in
theorem tfX11_falseOnes (d n : Nat) (A : Nat → Nat → Int32) (L : Nat → Nat → Int64) (l1 : Int32) (l2 : Int32) {Q : Option Value → jM → Prop} {z : Int32} (h : fX11_falseOnes A l1 l2 = some z) (k3 : Q (some (.int z)) (Sh0 n, A, L)) : pX11_falseOnes (jEv jtab (d + 4), jWP (jEv jtab (d + 4)) Q ((Sh0 n).length, jsl (Sh0 n)) pX11_falseOnes, Q, ((Sh0 n).length, jsl (Sh0 n))) 0 [some (.ref 94), some (.int l1), some (.int l2)] [] (Sh0 n, A, L) := by
  unfold fX11_falseOnes at h
  refine y_mask <| x_iload rfl <| y_invS1 (Nat.le_of_ble_eq_true rfl) <| jEv.exZ (q := 229) rfl (kX11_isShip _ _ _ _ _) <| fun hz1 => y_if_ne (fun h2 => ?_) (fun h2 => ?_)
  · replace h := of_neg h h2
    refine jWP.intro (pr := pX11_falseOnes) (pc := 12) ?_
    refine y_mask <| x_iload rfl <| y_invS1 (Nat.le_of_ble_eq_true rfl) <| jEv.exZ (q := 231) rfl (kX11_isSpeed _ _ _ _ _) <| fun hz3 => y_if_eq (fun h4 => ?_) (fun h4 => ?_)
    · replace h := of_pos h h4
      refine jWP.intro (pr := pX11_falseOnes) (pc := 28) ?_
      refine y_mask <| x_push <| y_mask <| y_goto ?_
      refine jWP.intro (pr := pX11_falseOnes) (pc := 30) ?_
      refine y_mri (bs := []) (ls := []) ?_
      obtain rfl := Option.some.inj h
      exact k3
    · replace h := of_neg h h4
      refine jWP.intro (pr := pX11_falseOnes) (pc := 19) ?_
      obtain ⟨r5, hc6, h⟩ := of_bind h
      refine y_mask <| x_aload rfl <| x_iload rfl <| x_iload rfl <| y_invV2 (Nat.le_of_ble_eq_true rfl) rfl (Nat.le_of_ble_eq_true rfl) <| jEv.exI (kX11_falseOf _ _ _ _ _ _ hc6) <| y_mask <| y_goto ?_
      refine jWP.intro (pr := pX11_falseOnes) (pc := 30) ?_
      refine y_mri (bs := []) (ls := []) ?_
      obtain rfl := Option.some.inj h
      exact k3
  · replace h := of_pos h h2
    refine jWP.intro (pr := pX11_falseOnes) (pc := 7) ?_
    refine y_mask <| x_push <| y_mask <| y_goto ?_
    refine jWP.intro (pr := pX11_falseOnes) (pc := 30) ?_
    refine y_mri (bs := []) (ls := []) ?_
    obtain rfl := Option.some.inj h
    exact k3
theorem kX11_falseOnes (d n : Nat) (A : Nat → Nat → Int32) (L : Nat → Nat → Int64) (l1 : Int32) (l2 : Int32) {z : Int32} (h : fX11_falseOnes A l1 l2 = some z) : jEv jtab (d + 5) 241 [.ref 94, .int l1, .int l2] (Sh0 n, A, L) 0 0 (fun r M2 => r = some (.int z) ∧ M2 = (Sh0 n, A, L)) :=
  jEv.mk (mt := mX11_falseOnes) rfl (Nat.le_of_ble_eq_true rfl) (jWP.intro (pr := pX11_falseOnes) (pc := 0) (tfX11_falseOnes d n A L l1 l2 h ⟨trivial, jCn.mk ⟨rfl, rfl⟩⟩))
set_option maxRecDepth 20000 in
theorem tcX11_mayBe_35 (d n : Nat) (A : Nat → Nat → Int32) (L : Nat → Nat → Int64) (l2 : Int32) (l3 : Int32) (l4 : Int32) (l5 : Int64) (l7 : Int32) (s : (Int32 × Int32)) {Q : Option Value → jM → Prop} {z : ((Int32 × Int32) ⊕ Int32)} (h : cX11_mayBe_35 A l2 l3 l4 l5 l7 s = some z) (k1 : ∀ s0, z = .inl s0 → pX11_mayBe (jEv jtab (d + 4), jWP (jEv jtab (d + 4)) Q ((Sh0 n).length, jsl (Sh0 n)) pX11_mayBe, Q, ((Sh0 n).length, jsl (Sh0 n))) 35 [some (.ref 94), none, some (.int l2), some (.int l3), some (.int l4), some (.long l5), none, some (.int l7), some (.int s0.1), some (.int s0.2)] [] (Sh0 n, A, L)) (k2 : ∀ s0, z = .inr s0 → pX11_mayBe (jEv jtab (d + 4), jWP (jEv jtab (d + 4)) Q ((Sh0 n).length, jsl (Sh0 n)) pX11_mayBe, Q, ((Sh0 n).length, jsl (Sh0 n))) 94 [some (.ref 94), none, some (.int l2), some (.int l3), some (.int l4), some (.long l5), none, some (.int l7), some (.int s0), none] [] (Sh0 n, A, L)) : pX11_mayBe (jEv jtab (d + 4), jWP (jEv jtab (d + 4)) Q ((Sh0 n).length, jsl (Sh0 n)) pX11_mayBe, Q, ((Sh0 n).length, jsl (Sh0 n))) 35 [some (.ref 94), none, some (.int l2), some (.int l3), some (.int l4), some (.long l5), none, some (.int l7), some (.int s.1), some (.int s.2)] [] (Sh0 n, A, L) := by
  unfold cX11_mayBe_35 at h
  refine y_mask <| x_iload rfl <| x_aload rfl <| x_getI (Nat.le_of_ble_eq_true rfl) rfl rfl <| y_cmp_ge (fun h1 => ?_) (fun h1 => ?_)
  · replace h := of_pos h h1
    refine jWP.intro (pr := pX11_mayBe) (pc := 94) ?_
    have hk := k2 _ (Option.some.inj h).symm
    exact hk
  · replace h := of_neg h h1
    refine jWP.intro (pr := pX11_mayBe) (pc := 44) ?_
    refine y_mask <| x_iload rfl <| x_iload rfl <| x_ishr <| x_push <| x_iand <| x_push <| y_cmp_ne (fun h2 => ?_) (fun h2 => ?_)
    · replace h := of_neg h h2
      refine jWP.intro (pr := pX11_mayBe) (pc := 88) ?_
      refine y_mask <| x_iinc rfl rfl <| y_mask <| y_goto ?_
      refine jWP.intro (pr := pX11_mayBe) (pc := 35) ?_
      have hk := k1 _ (Option.some.inj h).symm
      exact hk
    · replace h := of_pos h h2
      refine jWP.intro (pr := pX11_mayBe) (pc := 55) ?_
      obtain ⟨g3, h⟩ := of_guard h
      obtain ⟨g4, h⟩ := of_guard h
      show bX11_mayBe_55 _ _ _ _
      unfold bX11_mayBe_55
      refine y_mask ?_
      refine x_aload rfl ?_
      refine x_getR (Nat.le_of_ble_eq_true rfl) rfl rfl ?_
      refine x_iload rfl ?_
      refine x_iald rfl g3 ?_
      refine x_iload rfl ?_
      refine x_isub ?_
      refine y_invS1 (Nat.le_of_ble_eq_true rfl) ?_
      refine jEv.exI (kX11_sizeOf _ _ _ _ _) ?_
      refine x_iload rfl ?_
      refine x_aload rfl ?_
      refine x_getR (Nat.le_of_ble_eq_true rfl) rfl rfl ?_
      refine x_iload rfl ?_
      refine x_iald rfl g4 ?_
      refine x_iload rfl ?_
      refine x_isub ?_
      refine y_invS1 (Nat.le_of_ble_eq_true rfl) ?_
      refine jEv.exI (kX11_sizeOf _ _ _ _ _) ?_
      refine x_imul ?_
      refine y_cmp_le (fun h5 => ?_) (fun h5 => ?_)
      · replace h := of_pos h h5
        refine jWP.intro (pr := pX11_mayBe) (pc := 88) ?_
        refine y_mask <| x_iinc rfl rfl <| y_mask <| y_goto ?_
        refine jWP.intro (pr := pX11_mayBe) (pc := 35) ?_
        have hk := k1 _ (Option.some.inj h).symm
        exact hk
      · replace h := of_neg h h5
        refine jWP.intro (pr := pX11_mayBe) (pc := 85) ?_
        refine y_mask <| x_push <| x_istore rfl <| y_mask <| y_goto ?_
        refine jWP.intro (pr := pX11_mayBe) (pc := 88) ?_
        refine y_mask <| x_iinc rfl rfl <| y_mask <| y_goto ?_
        refine jWP.intro (pr := pX11_mayBe) (pc := 35) ?_
        have hk := k1 _ (Option.some.inj h).symm
        exact hk
set_option maxRecDepth 20000 in
theorem tcX11_mayBe_22 (d n : Nat) (A : Nat → Nat → Int32) (L : Nat → Nat → Int64) (l2 : Int32) (l3 : Int32) (l4 : Int32) (s : (Int64 × Int32)) {Q : Option Value → jM → Prop} {z : ((Int64 × Int32) ⊕ Int64)} (h : cX11_mayBe_22 A l2 l3 l4 s = some z) (k1 : ∀ s0, z = .inl s0 → pX11_mayBe (jEv jtab (d + 4), jWP (jEv jtab (d + 4)) Q ((Sh0 n).length, jsl (Sh0 n)) pX11_mayBe, Q, ((Sh0 n).length, jsl (Sh0 n))) 22 [some (.ref 94), none, some (.int l2), some (.int l3), some (.int l4), some (.long s0.1), none, some (.int s0.2), none, none] [] (Sh0 n, A, L)) (k2 : ∀ s0, z = .inr s0 → pX11_mayBe (jEv jtab (d + 4), jWP (jEv jtab (d + 4)) Q ((Sh0 n).length, jsl (Sh0 n)) pX11_mayBe, Q, ((Sh0 n).length, jsl (Sh0 n))) 114 [none, none, none, none, none, some (.long s0), none, none, none, none] [] (Sh0 n, A, L)) : pX11_mayBe (jEv jtab (d + 4), jWP (jEv jtab (d + 4)) Q ((Sh0 n).length, jsl (Sh0 n)) pX11_mayBe, Q, ((Sh0 n).length, jsl (Sh0 n))) 22 [some (.ref 94), none, some (.int l2), some (.int l3), some (.int l4), some (.long s.1), none, some (.int s.2), none, none] [] (Sh0 n, A, L) := by
  unfold cX11_mayBe_22 at h
  refine y_mask <| x_iload rfl <| x_push <| y_cmp_ge (fun h1 => ?_) (fun h1 => ?_)
  · replace h := of_pos h h1
    refine jWP.intro (pr := pX11_mayBe) (pc := 114) ?_
    have hk := k2 _ (Option.some.inj h).symm
    exact hk
  · replace h := of_neg h h1
    refine jWP.intro (pr := pX11_mayBe) (pc := 29) ?_
    refine y_mask <| x_push <| x_istore rfl <| x_push <| x_istore rfl <| y_mask <| y_goto ?_
    obtain ⟨e2, hw3, h⟩ := of_bind h
    refine jWP.intro (pr := pX11_mayBe) (pc := 35) ?_
    refine jwh_use (G := (fun s0 => pX11_mayBe (jEv jtab (d + 4), jWP (jEv jtab (d + 4)) Q ((Sh0 n).length, jsl (Sh0 n)) pX11_mayBe, Q, ((Sh0 n).length, jsl (Sh0 n))) 35 [some (.ref 94), none, some (.int l2), some (.int l3), some (.int l4), some (.long s.1), none, some (.int s.2), some (.int s0.1), some (.int s0.2)] [] (Sh0 n, A, L))) (Gx := (fun s0 => pX11_mayBe (jEv jtab (d + 4), jWP (jEv jtab (d + 4)) Q ((Sh0 n).length, jsl (Sh0 n)) pX11_mayBe, Q, ((Sh0 n).length, jsl (Sh0 n))) 94 [some (.ref 94), none, some (.int l2), some (.int l3), some (.int l4), some (.long s.1), none, some (.int s.2), some (.int s0), none] [] (Sh0 n, A, L))) (fun s1 z1 hz kk1 kk2 => tcX11_mayBe_35 d n A L l2 l3 l4 s.1 s.2 s1 hz kk1 kk2) hw3 ?_
    refine y_mask <| x_iload rfl <| y_if_eq (fun h4 => ?_) (fun h4 => ?_)
    · replace h := of_pos h h4
      refine jWP.intro (pr := pX11_mayBe) (pc := 108) ?_
      refine y_mask <| x_iinc rfl rfl <| y_mask <| y_goto ?_
      refine jWP.intro (pr := pX11_mayBe) (pc := 22) ?_
      have hk := k1 _ (Option.some.inj h).symm
      exact hk
    · replace h := of_neg h h4
      refine jWP.intro (pr := pX11_mayBe) (pc := 99) ?_
      refine y_mask <| x_lload rfl <| x_push <| x_iload rfl <| x_lshl <| x_lor <| x_lstore rfl <| y_mask <| y_goto ?_
      refine jWP.intro (pr := pX11_mayBe) (pc := 108) ?_
      refine y_mask <| x_iinc rfl rfl <| y_mask <| y_goto ?_
      refine jWP.intro (pr := pX11_mayBe) (pc := 22) ?_
      have hk := k1 _ (Option.some.inj h).symm
      exact hk
set_option maxRecDepth 20000 in
theorem tfX11_mayBe (d n : Nat) (A : Nat → Nat → Int32) (L : Nat → Nat → Int64) (l1 : Int32) (l2 : Int32) (l3 : Int32) {Q : Option Value → jM → Prop} {z : Int64} (h : fX11_mayBe A l1 l2 l3 = some z) (k3 : Q (some (.long z)) (Sh0 n, A, L)) : pX11_mayBe (jEv jtab (d + 4), jWP (jEv jtab (d + 4)) Q ((Sh0 n).length, jsl (Sh0 n)) pX11_mayBe, Q, ((Sh0 n).length, jsl (Sh0 n))) 0 [some (.ref 94), some (.int l1), some (.int l2), some (.int l3), none, none, none, none, none, none] [] (Sh0 n, A, L) := by
  unfold fX11_mayBe at h
  obtain ⟨r1, hc2, h⟩ := of_bind h
  obtain ⟨r3, hc4, h⟩ := of_bind h
  show bX11_mayBe_0 _ _ _ _
  unfold bX11_mayBe_0
  refine y_mask ?_
  refine x_aload rfl ?_
  refine x_iload rfl ?_
  refine y_invV1 (Nat.le_of_ble_eq_true rfl) rfl (Nat.le_of_ble_eq_true rfl) ?_
  refine jEv.exI (kX11_ofShip _ _ _ _ _ hc2) ?_
  refine x_aload rfl ?_
  refine x_iload rfl ?_
  refine x_iload rfl ?_
  refine y_invV2 (Nat.le_of_ble_eq_true rfl) rfl (Nat.le_of_ble_eq_true rfl) ?_
  refine jEv.exI (kX11_falseOf _ _ _ _ _ _ hc4) ?_
  refine x_push ?_
  refine x_ixor ?_
  refine x_iand ?_
  refine x_istore rfl ?_
  refine x_push ?_
  refine x_lstore rfl ?_
  refine x_push ?_
  refine x_istore rfl ?_
  refine y_mask ?_
  refine y_goto ?_
  obtain ⟨e5, hw6, h⟩ := of_bind h
  refine jWP.intro (pr := pX11_mayBe) (pc := 22) ?_
  refine jwh_use (G := (fun s0 => pX11_mayBe (jEv jtab (d + 4), jWP (jEv jtab (d + 4)) Q ((Sh0 n).length, jsl (Sh0 n)) pX11_mayBe, Q, ((Sh0 n).length, jsl (Sh0 n))) 22 [some (.ref 94), none, some (.int l2), some (.int l3), some (.int (r1 &&& (r3 ^^^ (-1 : Int32)))), some (.long s0.1), none, some (.int s0.2), none, none] [] (Sh0 n, A, L))) (Gx := (fun s0 => pX11_mayBe (jEv jtab (d + 4), jWP (jEv jtab (d + 4)) Q ((Sh0 n).length, jsl (Sh0 n)) pX11_mayBe, Q, ((Sh0 n).length, jsl (Sh0 n))) 114 [none, none, none, none, none, some (.long s0), none, none, none, none] [] (Sh0 n, A, L))) (fun s1 z1 hz kk1 kk2 => tcX11_mayBe_22 d n A L l2 l3 (r1 &&& (r3 ^^^ (-1 : Int32))) s1 hz kk1 kk2) hw6 ?_
  refine y_mask <| x_lload rfl <| y_lreturn (ls := [none, none, none, none, none, some (.long e5), none, none, none, none]) ?_
  obtain rfl := Option.some.inj h
  exact k3
theorem kX11_mayBe (d n : Nat) (A : Nat → Nat → Int32) (L : Nat → Nat → Int64) (l1 : Int32) (l2 : Int32) (l3 : Int32) {z : Int64} (h : fX11_mayBe A l1 l2 l3 = some z) : jEv jtab (d + 5) 242 [.ref 94, .int l1, .int l2, .int l3] (Sh0 n, A, L) 0 0 (fun r M2 => r = some (.long z) ∧ M2 = (Sh0 n, A, L)) :=
  jEv.mk (mt := mX11_mayBe) rfl (Nat.le_of_ble_eq_true rfl) (jWP.intro (pr := pX11_mayBe) (pc := 0) (tfX11_mayBe d n A L l1 l2 l3 h ⟨trivial, jCn.mk ⟨rfl, rfl⟩⟩))
set_option maxRecDepth 20000 in
theorem tfX11_there (d n : Nat) (A : Nat → Nat → Int32) (L : Nat → Nat → Int64) (l1 : Int32) (l2 : Int32) (l3 : Int32) {Q : Option Value → jM → Prop} {z : Int64} (h : fX11_there A l1 l2 l3 = some z) (k3 : Q (some (.long z)) (Sh0 n, A, L)) : pX11_there (jEv jtab (d + 5), jWP (jEv jtab (d + 5)) Q ((Sh0 n).length, jsl (Sh0 n)) pX11_there, Q, ((Sh0 n).length, jsl (Sh0 n))) 0 [some (.ref 94), some (.int l1), some (.int l2), some (.int l3)] [] (Sh0 n, A, L) := by
  unfold fX11_there at h
  refine y_mask <| x_iload rfl <| y_invS1 (Nat.le_of_ble_eq_true rfl) <| jEv.exZ (q := 229) rfl (kX11_isShip _ _ _ _ _) <| fun hz1 => y_if_eq (fun h2 => ?_) (fun h2 => ?_)
  · replace h := of_pos h h2
    refine jWP.intro (pr := pX11_there) (pc := 31) ?_
    refine y_mask <| x_push <| y_mask <| y_goto ?_
    refine jWP.intro (pr := pX11_there) (pc := 34) ?_
    refine y_mrl (bs := []) (ls := []) ?_
    obtain rfl := Option.some.inj h
    exact k3
  · replace h := of_neg h h2
    refine jWP.intro (pr := pX11_there) (pc := 7) ?_
    refine y_mask <| x_iload rfl <| y_invS1 (Nat.le_of_ble_eq_true rfl) <| jEv.exZ (q := 231) rfl (kX11_isSpeed _ _ _ _ _) <| fun hz3 => y_if_eq (fun h4 => ?_) (fun h4 => ?_)
    · replace h := of_pos h h4
      refine jWP.intro (pr := pX11_there) (pc := 31) ?_
      refine y_mask <| x_push <| y_mask <| y_goto ?_
      refine jWP.intro (pr := pX11_there) (pc := 34) ?_
      refine y_mrl (bs := []) (ls := []) ?_
      obtain rfl := Option.some.inj h
      exact k3
    · replace h := of_neg h h4
      refine jWP.intro (pr := pX11_there) (pc := 14) ?_
      refine y_mask <| x_iload rfl <| y_invS1 (Nat.le_of_ble_eq_true rfl) <| jEv.exZ (q := 230) rfl (kX11_isDay _ _ _ _ _) <| fun hz5 => y_if_eq (fun h6 => ?_) (fun h6 => ?_)
      · replace h := of_pos h h6
        refine jWP.intro (pr := pX11_there) (pc := 31) ?_
        refine y_mask <| x_push <| y_mask <| y_goto ?_
        refine jWP.intro (pr := pX11_there) (pc := 34) ?_
        refine y_mrl (bs := []) (ls := []) ?_
        obtain rfl := Option.some.inj h
        exact k3
      · replace h := of_neg h h6
        refine jWP.intro (pr := pX11_there) (pc := 21) ?_
        obtain ⟨r7, hc8, h⟩ := of_bind h
        refine y_mask <| x_aload rfl <| x_iload rfl <| x_iload rfl <| x_iload rfl <| y_invV3 (Nat.le_of_ble_eq_true rfl) rfl (Nat.le_of_ble_eq_true rfl) <| jEv.exL (kX11_mayBe _ _ _ _ _ _ _ hc8) <| y_mask <| y_goto ?_
        refine jWP.intro (pr := pX11_there) (pc := 34) ?_
        refine y_mrl (bs := []) (ls := []) ?_
        obtain rfl := Option.some.inj h
        exact k3
theorem kX11_there (d n : Nat) (A : Nat → Nat → Int32) (L : Nat → Nat → Int64) (l1 : Int32) (l2 : Int32) (l3 : Int32) {z : Int64} (h : fX11_there A l1 l2 l3 = some z) : jEv jtab (d + 6) 243 [.ref 94, .int l1, .int l2, .int l3] (Sh0 n, A, L) 0 0 (fun r M2 => r = some (.long z) ∧ M2 = (Sh0 n, A, L)) :=
  jEv.mk (mt := mX11_there) rfl (Nat.le_of_ble_eq_true rfl) (jWP.intro (pr := pX11_there) (pc := 0) (tfX11_there d n A L l1 l2 l3 h ⟨trivial, jCn.mk ⟨rfl, rfl⟩⟩))
set_option maxRecDepth 20000 in
theorem tcX11_last_51 (d n : Nat) (A : Nat → Nat → Int32) (L : Nat → Nat → Int64) (l3 : Int32) (l4 : Int32) (s : (Int32 × Int32)) {Q : Option Value → jM → Prop} {z : ((Int32 × Int32) ⊕ Int32)} (h : cX11_last_51 A l3 l4 s = some z) (k1 : ∀ s0, z = .inl s0 → pX11_last (jEv jtab (d + 4), jWP (jEv jtab (d + 4)) Q ((Sh0 n).length, jsl (Sh0 n)) pX11_last, Q, ((Sh0 n).length, jsl (Sh0 n))) 51 [some (.ref 94), none, none, some (.int l3), some (.int l4), some (.int s0.1), some (.int s0.2)] [] (Sh0 n, A, L)) (k2 : ∀ s0, z = .inr s0 → pX11_last (jEv jtab (d + 4), jWP (jEv jtab (d + 4)) Q ((Sh0 n).length, jsl (Sh0 n)) pX11_last, Q, ((Sh0 n).length, jsl (Sh0 n))) 103 [some (.ref 94), none, none, some (.int l3), none, some (.int s0), none] [] (Sh0 n, A, L)) : pX11_last (jEv jtab (d + 4), jWP (jEv jtab (d + 4)) Q ((Sh0 n).length, jsl (Sh0 n)) pX11_last, Q, ((Sh0 n).length, jsl (Sh0 n))) 51 [some (.ref 94), none, none, some (.int l3), some (.int l4), some (.int s.1), some (.int s.2)] [] (Sh0 n, A, L) := by
  unfold cX11_last_51 at h
  refine y_mask <| x_iload rfl <| x_aload rfl <| x_getI (Nat.le_of_ble_eq_true rfl) rfl rfl <| y_cmp_ge (fun h1 => ?_) (fun h1 => ?_)
  · replace h := of_pos h h1
    refine jWP.intro (pr := pX11_last) (pc := 103) ?_
    have hk := k2 _ (Option.some.inj h).symm
    exact hk
  · replace h := of_neg h h1
    refine jWP.intro (pr := pX11_last) (pc := 60) ?_
    refine y_mask <| x_iload rfl <| x_iload rfl <| x_ishr <| x_push <| x_iand <| x_push <| y_cmp_ne (fun h2 => ?_) (fun h2 => ?_)
    · replace h := of_neg h h2
      refine jWP.intro (pr := pX11_last) (pc := 97) ?_
      refine y_mask <| x_iinc rfl rfl <| y_mask <| y_goto ?_
      refine jWP.intro (pr := pX11_last) (pc := 51) ?_
      have hk := k1 _ (Option.some.inj h).symm
      exact hk
    · replace h := of_pos h h2
      refine jWP.intro (pr := pX11_last) (pc := 71) ?_
      refine y_mask <| x_iload rfl <| y_if_lt (fun h3 => ?_) (fun h3 => ?_)
      · replace h := of_pos h h3
        refine jWP.intro (pr := pX11_last) (pc := 93) ?_
        refine y_mask <| x_iload rfl <| x_istore rfl <| y_mask <| y_goto ?_
        refine jWP.intro (pr := pX11_last) (pc := 97) ?_
        refine y_mask <| x_iinc rfl rfl <| y_mask <| y_goto ?_
        refine jWP.intro (pr := pX11_last) (pc := 51) ?_
        have hk := k1 _ (Option.some.inj h).symm
        exact hk
      · replace h := of_neg h h3
        refine jWP.intro (pr := pX11_last) (pc := 76) ?_
        obtain ⟨g4, h⟩ := of_guard h
        obtain ⟨g5, h⟩ := of_guard h
        show bX11_last_76 _ _ _ _
        unfold bX11_last_76
        refine y_mask ?_
        refine x_aload rfl ?_
        refine x_getR (Nat.le_of_ble_eq_true rfl) rfl rfl ?_
        refine x_iload rfl ?_
        refine x_iald rfl g4 ?_
        refine x_aload rfl ?_
        refine x_getR (Nat.le_of_ble_eq_true rfl) rfl rfl ?_
        refine x_iload rfl ?_
        refine x_iald rfl g5 ?_
        refine y_cmp_le (fun h6 => ?_) (fun h6 => ?_)
        · replace h := of_pos h h6
          refine jWP.intro (pr := pX11_last) (pc := 97) ?_
          refine y_mask <| x_iinc rfl rfl <| y_mask <| y_goto ?_
          refine jWP.intro (pr := pX11_last) (pc := 51) ?_
          have hk := k1 _ (Option.some.inj h).symm
          exact hk
        · replace h := of_neg h h6
          refine jWP.intro (pr := pX11_last) (pc := 93) ?_
          refine y_mask <| x_iload rfl <| x_istore rfl <| y_mask <| y_goto ?_
          refine jWP.intro (pr := pX11_last) (pc := 97) ?_
          refine y_mask <| x_iinc rfl rfl <| y_mask <| y_goto ?_
          refine jWP.intro (pr := pX11_last) (pc := 51) ?_
          have hk := k1 _ (Option.some.inj h).symm
          exact hk
set_option maxRecDepth 20000 in
theorem tfX11_last (d n : Nat) (A : Nat → Nat → Int32) (L : Nat → Nat → Int64) (l1 : Int32) (l2 : Int32) (l3 : Int32) {Q : Option Value → jM → Prop} {z : Int32} (h : fX11_last A l1 l2 l3 = some z) (k3 : Q (some (.int z)) (Sh0 n, A, L)) : pX11_last (jEv jtab (d + 4), jWP (jEv jtab (d + 4)) Q ((Sh0 n).length, jsl (Sh0 n)) pX11_last, Q, ((Sh0 n).length, jsl (Sh0 n))) 0 [some (.ref 94), some (.int l1), some (.int l2), some (.int l3), none, none, none] [] (Sh0 n, A, L) := by
  unfold fX11_last at h
  refine y_mask <| x_iload rfl <| y_invS1 (Nat.le_of_ble_eq_true rfl) <| jEv.exZ (q := 229) rfl (kX11_isShip _ _ _ _ _) <| fun hz1 => y_if_ne (fun h2 => ?_) (fun h2 => ?_)
  · replace h := of_neg h h2
    refine jWP.intro (pr := pX11_last) (pc := 10) ?_
    refine y_mask <| x_iload rfl <| y_invS1 (Nat.le_of_ble_eq_true rfl) <| jEv.exZ (q := 231) rfl (kX11_isSpeed _ _ _ _ _) <| fun hz3 => y_if_eq (fun h4 => ?_) (fun h4 => ?_)
    · replace h := of_pos h h4
      refine jWP.intro (pr := pX11_last) (pc := 26) ?_
      refine y_mpri (bs := []) (ls := []) ?_
      obtain rfl := Option.some.inj h
      exact k3
    · replace h := of_neg h h4
      refine jWP.intro (pr := pX11_last) (pc := 17) ?_
      refine y_mask <| x_iload rfl <| x_push <| x_push <| y_invS3 (Nat.le_of_ble_eq_true rfl) <| jEv.exZ (q := 159) rfl (kX11_in _ _ _ _ _ _ _) <| fun hz5 => y_if_ne (fun h6 => ?_) (fun h6 => ?_)
      · replace h := of_neg h h6
        refine jWP.intro (pr := pX11_last) (pc := 29) ?_
        obtain ⟨r7, hc8, h⟩ := of_bind h
        obtain ⟨r9, hc10, h⟩ := of_bind h
        show bX11_last_29 _ _ _ _
        unfold bX11_last_29
        refine y_mask ?_
        refine x_aload rfl ?_
        refine x_iload rfl ?_
        refine y_invV1 (Nat.le_of_ble_eq_true rfl) rfl (Nat.le_of_ble_eq_true rfl) ?_
        refine jEv.exI (kX11_ofShip _ _ _ _ _ hc8) ?_
        refine x_aload rfl ?_
        refine x_iload rfl ?_
        refine x_iload rfl ?_
        refine y_invV2 (Nat.le_of_ble_eq_true rfl) rfl (Nat.le_of_ble_eq_true rfl) ?_
        refine jEv.exI (kX11_falseOf _ _ _ _ _ _ hc10) ?_
        refine x_push ?_
        refine x_ixor ?_
        refine x_iand ?_
        refine x_istore rfl ?_
        refine x_push ?_
        refine x_istore rfl ?_
        refine x_push ?_
        refine x_istore rfl ?_
        refine y_mask ?_
        refine y_goto ?_
        obtain ⟨e11, hw12, h⟩ := of_bind h
        refine jWP.intro (pr := pX11_last) (pc := 51) ?_
        refine jwh_use (G := (fun s0 => pX11_last (jEv jtab (d + 4), jWP (jEv jtab (d + 4)) Q ((Sh0 n).length, jsl (Sh0 n)) pX11_last, Q, ((Sh0 n).length, jsl (Sh0 n))) 51 [some (.ref 94), none, none, some (.int l3), some (.int (r7 &&& (r9 ^^^ (-1 : Int32)))), some (.int s0.1), some (.int s0.2)] [] (Sh0 n, A, L))) (Gx := (fun s0 => pX11_last (jEv jtab (d + 4), jWP (jEv jtab (d + 4)) Q ((Sh0 n).length, jsl (Sh0 n)) pX11_last, Q, ((Sh0 n).length, jsl (Sh0 n))) 103 [some (.ref 94), none, none, some (.int l3), none, some (.int s0), none] [] (Sh0 n, A, L))) (fun s1 z1 hz kk1 kk2 => tcX11_last_51 d n A L l3 (r7 &&& (r9 ^^^ (-1 : Int32))) s1 hz kk1 kk2) hw12 ?_
        refine y_mask <| x_iload rfl <| y_if_ge (fun h13 => ?_) (fun h13 => ?_)
        · replace h := of_pos h h13
          refine jWP.intro (pr := pX11_last) (pc := 112) ?_
          refine y_mask <| x_iload rfl <| y_if_ne (fun h14 => ?_) (fun h14 => ?_)
          · replace h := of_neg h h14
            refine jWP.intro (pr := pX11_last) (pc := 126) ?_
            obtain ⟨g15, h⟩ := of_guard h
            refine y_mask <| x_aload rfl <| x_getR (Nat.le_of_ble_eq_true rfl) rfl rfl <| x_iload rfl <| x_iald rfl g15 <| y_mask <| y_goto ?_
            refine jWP.intro (pr := pX11_last) (pc := 133) ?_
            refine y_mri (bs := []) (ls := []) ?_
            obtain rfl := Option.some.inj h
            exact k3
          · replace h := of_pos h h14
            refine jWP.intro (pr := pX11_last) (pc := 116) ?_
            obtain ⟨g16, h⟩ := of_guard h
            refine y_mask <| x_aload rfl <| x_getR (Nat.le_of_ble_eq_true rfl) rfl rfl <| x_iload rfl <| x_iald rfl g16 <| y_mask <| y_goto ?_
            refine jWP.intro (pr := pX11_last) (pc := 133) ?_
            refine y_mri (bs := []) (ls := []) ?_
            obtain rfl := Option.some.inj h
            exact k3
        · replace h := of_neg h h13
          refine jWP.intro (pr := pX11_last) (pc := 108) ?_
          refine y_mask <| x_push <| y_mask <| y_goto ?_
          refine jWP.intro (pr := pX11_last) (pc := 133) ?_
          refine y_mri (bs := []) (ls := []) ?_
          obtain rfl := Option.some.inj h
          exact k3
      · replace h := of_pos h h6
        refine jWP.intro (pr := pX11_last) (pc := 26) ?_
        refine y_mpri (bs := []) (ls := []) ?_
        obtain rfl := Option.some.inj h
        exact k3
  · replace h := of_pos h h2
    refine jWP.intro (pr := pX11_last) (pc := 7) ?_
    refine y_mpri (bs := []) (ls := []) ?_
    obtain rfl := Option.some.inj h
    exact k3
theorem kX11_last (d n : Nat) (A : Nat → Nat → Int32) (L : Nat → Nat → Int64) (l1 : Int32) (l2 : Int32) (l3 : Int32) {z : Int32} (h : fX11_last A l1 l2 l3 = some z) : jEv jtab (d + 5) 244 [.ref 94, .int l1, .int l2, .int l3] (Sh0 n, A, L) 0 0 (fun r M2 => r = some (.int z) ∧ M2 = (Sh0 n, A, L)) :=
  jEv.mk (mt := mX11_last) rfl (Nat.le_of_ble_eq_true rfl) (jWP.intro (pr := pX11_last) (pc := 0) (tfX11_last d n A L l1 l2 l3 h ⟨trivial, jCn.mk ⟨rfl, rfl⟩⟩))
set_option maxRecDepth 20000 in
theorem tcX11_cellOdds_88 (d n : Nat) (A : Nat → Nat → Int32) (L : Nat → Nat → Int64) (l3 : Int32) (l6 : Int32) (l7 : Int64) (s : (Int64 × Int64)) {Q : Option Value → jM → Prop} {z : ((Int64 × Int64) ⊕ Int64)} (h : cX11_cellOdds_88 A l3 l6 l7 s = some z) (k1 : ∀ s0, z = .inl s0 → pX11_cellOdds (jEv jtab (d + 5), jWP (jEv jtab (d + 5)) Q ((Sh0 n).length, jsl (Sh0 n)) pX11_cellOdds, Q, ((Sh0 n).length, jsl (Sh0 n))) 88 [none, none, none, some (.int l3), none, none, some (.int l6), some (.long l7), none, some (.long s0.1), none, some (.long s0.2), none] [] (Sh0 n, A, L)) (k2 : ∀ s0, z = .inr s0 → pX11_cellOdds (jEv jtab (d + 5), jWP (jEv jtab (d + 5)) Q ((Sh0 n).length, jsl (Sh0 n)) pX11_cellOdds, Q, ((Sh0 n).length, jsl (Sh0 n))) 113 [none, none, none, some (.int l3), none, none, some (.int l6), some (.long l7), none, some (.long s0), none, none, none] [] (Sh0 n, A, L)) : pX11_cellOdds (jEv jtab (d + 5), jWP (jEv jtab (d + 5)) Q ((Sh0 n).length, jsl (Sh0 n)) pX11_cellOdds, Q, ((Sh0 n).length, jsl (Sh0 n))) 88 [none, none, none, some (.int l3), none, none, some (.int l6), some (.long l7), none, some (.long s.1), none, some (.long s.2), none] [] (Sh0 n, A, L) := by
  unfold cX11_cellOdds_88 at h
  refine y_mask <| x_lload rfl <| x_push <| x_lcmp <| y_if_eq (fun h1 => ?_) (fun h1 => ?_)
  · replace h := of_pos h h1
    refine jWP.intro (pr := pX11_cellOdds) (pc := 113) ?_
    have hk := k2 _ (Option.some.inj h).symm
    exact hk
  · replace h := of_neg h h1
    refine jWP.intro (pr := pX11_cellOdds) (pc := 95) ?_
    show bX11_cellOdds_95 _ _ _ _
    unfold bX11_cellOdds_95
    refine y_mask ?_
    refine x_lload rfl ?_
    refine x_push ?_
    refine x_ladd ?_
    refine x_lstore rfl ?_
    refine x_lload rfl ?_
    refine x_lload rfl ?_
    refine x_push ?_
    refine x_lsub ?_
    refine x_land ?_
    refine x_lstore rfl ?_
    refine y_mask ?_
    refine y_goto ?_
    refine jWP.intro (pr := pX11_cellOdds) (pc := 88) ?_
    have hk := k1 _ (Option.some.inj h).symm
    exact hk
set_option maxRecDepth 20000 in
theorem tfX11_cellOdds (d n : Nat) (A : Nat → Nat → Int32) (L : Nat → Nat → Int64) (l1 : Int32) (l2 : Int32) (l3 : Int32) (l4 : Int64) (l6 : Int32) {Q : Option Value → jM → Prop} {z : Int64} (h : fX11_cellOdds A l1 l2 l3 l4 l6 = some z) (k3 : Q (some (.long z)) (Sh0 n, A, L)) : pX11_cellOdds (jEv jtab (d + 5), jWP (jEv jtab (d + 5)) Q ((Sh0 n).length, jsl (Sh0 n)) pX11_cellOdds, Q, ((Sh0 n).length, jsl (Sh0 n))) 0 [some (.ref 94), some (.int l1), some (.int l2), some (.int l3), some (.long l4), none, some (.int l6), none, none, none, none, none, none] [] (Sh0 n, A, L) := by
  unfold fX11_cellOdds at h
  refine y_mask <| x_iload rfl <| y_invS1 (Nat.le_of_ble_eq_true rfl) <| jEv.exZ (q := 229) rfl (kX11_isShip _ _ _ _ _) <| fun hz1 => y_if_eq (fun h2 => ?_) (fun h2 => ?_)
  · replace h := of_pos h h2
    refine jWP.intro (pr := pX11_cellOdds) (pc := 53) ?_
    refine y_mprl (bs := []) (ls := []) ?_
    obtain rfl := Option.some.inj h
    exact k3
  · replace h := of_neg h h2
    refine jWP.intro (pr := pX11_cellOdds) (pc := 7) ?_
    refine y_mask <| x_iload rfl <| y_if_lt (fun h3 => ?_) (fun h3 => ?_)
    · replace h := of_pos h h3
      refine jWP.intro (pr := pX11_cellOdds) (pc := 53) ?_
      refine y_mprl (bs := []) (ls := []) ?_
      obtain rfl := Option.some.inj h
      exact k3
    · replace h := of_neg h h3
      refine jWP.intro (pr := pX11_cellOdds) (pc := 11) ?_
      refine y_mask <| x_iload rfl <| x_push <| x_idiv (by decide) <| y_invS1 (Nat.le_of_ble_eq_true rfl) <| jEv.exZ (q := 231) rfl (kX11_isSpeed _ _ _ _ _) <| fun hz4 => y_if_eq (fun h5 => ?_) (fun h5 => ?_)
      · replace h := of_pos h h5
        refine jWP.intro (pr := pX11_cellOdds) (pc := 53) ?_
        refine y_mprl (bs := []) (ls := []) ?_
        obtain rfl := Option.some.inj h
        exact k3
      · replace h := of_neg h h5
        refine jWP.intro (pr := pX11_cellOdds) (pc := 22) ?_
        refine y_mask <| x_iload rfl <| x_push <| x_irem (by decide) <| y_invS1 (Nat.le_of_ble_eq_true rfl) <| jEv.exZ (q := 230) rfl (kX11_isDay _ _ _ _ _) <| fun hz6 => y_if_eq (fun h7 => ?_) (fun h7 => ?_)
        · replace h := of_pos h h7
          refine jWP.intro (pr := pX11_cellOdds) (pc := 53) ?_
          refine y_mprl (bs := []) (ls := []) ?_
          obtain rfl := Option.some.inj h
          exact k3
        · replace h := of_neg h h7
          refine jWP.intro (pr := pX11_cellOdds) (pc := 33) ?_
          refine y_mask <| x_iload rfl <| x_push <| x_push <| y_invS3 (Nat.le_of_ble_eq_true rfl) <| jEv.exZ (q := 159) rfl (kX11_in _ _ _ _ _ _ _) <| fun hz8 => y_if_eq (fun h9 => ?_) (fun h9 => ?_)
          · replace h := of_pos h h9
            refine jWP.intro (pr := pX11_cellOdds) (pc := 53) ?_
            refine y_mprl (bs := []) (ls := []) ?_
            obtain rfl := Option.some.inj h
            exact k3
          · replace h := of_neg h h9
            refine jWP.intro (pr := pX11_cellOdds) (pc := 43) ?_
            refine y_mask <| x_iload rfl <| x_push <| x_push <| y_invS3 (Nat.le_of_ble_eq_true rfl) <| jEv.exZ (q := 159) rfl (kX11_in _ _ _ _ _ _ _) <| fun hz10 => y_if_ne (fun h11 => ?_) (fun h11 => ?_)
            · replace h := of_neg h h11
              refine jWP.intro (pr := pX11_cellOdds) (pc := 57) ?_
              obtain ⟨r12, hc13, h⟩ := of_bind h
              show bX11_cellOdds_57 _ _ _ _
              unfold bX11_cellOdds_57
              refine y_mask ?_
              refine x_aload rfl ?_
              refine x_iload rfl ?_
              refine x_iload rfl ?_
              refine x_push ?_
              refine x_idiv (by decide) ?_
              refine x_iload rfl ?_
              refine x_push ?_
              refine x_irem (by decide) ?_
              refine y_invV3 (Nat.le_of_ble_eq_true rfl) rfl (Nat.le_of_ble_eq_true rfl) ?_
              refine jEv.exL (kX11_mayBe _ _ _ _ _ _ _ hc13) ?_
              refine x_lload rfl ?_
              refine x_push ?_
              refine x_lxor ?_
              refine x_land ?_
              refine x_lstore rfl ?_
              refine x_push ?_
              refine x_lstore rfl ?_
              refine x_lload rfl ?_
              refine x_lstore rfl ?_
              refine y_mask ?_
              refine y_goto ?_
              obtain ⟨e14, hw15, h⟩ := of_bind h
              refine jWP.intro (pr := pX11_cellOdds) (pc := 88) ?_
              refine jwh_use (G := (fun s0 => pX11_cellOdds (jEv jtab (d + 5), jWP (jEv jtab (d + 5)) Q ((Sh0 n).length, jsl (Sh0 n)) pX11_cellOdds, Q, ((Sh0 n).length, jsl (Sh0 n))) 88 [none, none, none, some (.int l3), none, none, some (.int l6), some (.long (r12 &&& (l4 ^^^ (-1 : Int64)))), none, some (.long s0.1), none, some (.long s0.2), none] [] (Sh0 n, A, L))) (Gx := (fun s0 => pX11_cellOdds (jEv jtab (d + 5), jWP (jEv jtab (d + 5)) Q ((Sh0 n).length, jsl (Sh0 n)) pX11_cellOdds, Q, ((Sh0 n).length, jsl (Sh0 n))) 113 [none, none, none, some (.int l3), none, none, some (.int l6), some (.long (r12 &&& (l4 ^^^ (-1 : Int64)))), none, some (.long s0), none, none, none] [] (Sh0 n, A, L))) (fun s1 z1 hz kk1 kk2 => tcX11_cellOdds_88 d n A L l3 l6 (r12 &&& (l4 ^^^ (-1 : Int64))) s1 hz kk1 kk2) hw15 ?_
              refine y_mask <| x_lload rfl <| x_iload rfl <| x_lshr <| x_push <| x_land <| x_lload rfl <| x_iload rfl <| y_if_ne (fun h16 => ?_) (fun h16 => ?_)
              · replace h := of_neg h h16
                refine jWP.intro (pr := pX11_cellOdds) (pc := 130) ?_
                refine y_mask <| x_push <| y_mask <| y_goto ?_
                refine jWP.intro (pr := pX11_cellOdds) (pc := 131) ?_
                obtain ⟨r17, hc18, h⟩ := of_bind h
                refine y_mask <| y_invS3 (Nat.le_of_ble_eq_true rfl) <| jEv.exL (kX11_part _ _ _ _ _ _ _ hc18) <| y_lreturn (ls := [none, none, none, none, none, none, none, none, none, none, none, none, none]) ?_
                obtain rfl := Option.some.inj h
                exact k3
              · replace h := of_pos h h16
                refine jWP.intro (pr := pX11_cellOdds) (pc := 126) ?_
                refine y_mask <| x_push <| y_mask <| y_goto ?_
                refine jWP.intro (pr := pX11_cellOdds) (pc := 131) ?_
                obtain ⟨r19, hc20, h⟩ := of_bind h
                refine y_mask <| y_invS3 (Nat.le_of_ble_eq_true rfl) <| jEv.exL (kX11_part _ _ _ _ _ _ _ hc20) <| y_lreturn (ls := [none, none, none, none, none, none, none, none, none, none, none, none, none]) ?_
                obtain rfl := Option.some.inj h
                exact k3
            · replace h := of_pos h h11
              refine jWP.intro (pr := pX11_cellOdds) (pc := 53) ?_
              refine y_mprl (bs := []) (ls := []) ?_
              obtain rfl := Option.some.inj h
              exact k3
theorem kX11_cellOdds (d n : Nat) (A : Nat → Nat → Int32) (L : Nat → Nat → Int64) (l1 : Int32) (l2 : Int32) (l3 : Int32) (l4 : Int64) (l6 : Int32) {z : Int64} (h : fX11_cellOdds A l1 l2 l3 l4 l6 = some z) : jEv jtab (d + 6) 245 [.ref 94, .int l1, .int l2, .int l3, .long l4, .int l6] (Sh0 n, A, L) 0 0 (fun r M2 => r = some (.long z) ∧ M2 = (Sh0 n, A, L)) :=
  jEv.mk (mt := mX11_cellOdds) rfl (Nat.le_of_ble_eq_true rfl) (jWP.intro (pr := pX11_cellOdds) (pc := 0) (tfX11_cellOdds d n A L l1 l2 l3 l4 l6 h ⟨trivial, jCn.mk ⟨rfl, rfl⟩⟩))
set_option maxRecDepth 20000 in
theorem tjX11_meet_54 (d n : Nat) (A : Nat → Nat → Int32) (L : Nat → Nat → Int64) (l1 : Int32) (l2 : Int32) (l3 : Int32) {Q : Option Value → jM → Prop} {z : (Int32 × (Nat → Nat → Int32))} (h : jX11_meet_54 A l1 l2 l3 = some z) (k3 : Q (some (.int z.1)) (Sh0 n, z.2, L)) : pX11_meet (jEv jtab (d + 2), jWP (jEv jtab (d + 2)) Q ((Sh0 n).length, jsl (Sh0 n)) pX11_meet, Q, ((Sh0 n).length, jsl (Sh0 n))) 54 [some (.ref 94), some (.int l1), some (.int l2), some (.int l3)] [] (Sh0 n, A, L) := by
  unfold jX11_meet_54 at h
  refine y_mask <| x_aload rfl <| x_getI (Nat.le_of_ble_eq_true rfl) rfl rfl <| x_push <| y_cmp_ne (fun h1 => ?_) (fun h1 => ?_)
  · replace h := of_neg h h1
    refine jWP.intro (pr := pX11_meet) (pc := 66) ?_
    obtain ⟨g2, h⟩ := of_guard h
    obtain ⟨m3, hm4, h⟩ := of_bind h
    obtain ⟨g5, h⟩ := of_guard h
    obtain ⟨m6, hm7, h⟩ := of_bind h
    obtain ⟨g8, h⟩ := of_guard h
    obtain ⟨m9, hm10, h⟩ := of_bind h
    show bX11_meet_66 _ _ _ _
    unfold bX11_meet_66
    refine y_mask ?_
    refine x_aload rfl ?_
    refine x_getR (Nat.le_of_ble_eq_true rfl) rfl rfl ?_
    refine x_aload rfl ?_
    refine x_getI (Nat.le_of_ble_eq_true rfl) rfl rfl ?_
    refine x_iload rfl ?_
    refine x_iast (Nat.le_of_ble_eq_true rfl) rfl g2 ?_
    refine y_let (Option.some.inj hm4) ?_
    refine x_aload rfl ?_
    refine x_getR (Nat.le_of_ble_eq_true rfl) rfl rfl ?_
    refine x_aload rfl ?_
    refine x_getI (Nat.le_of_ble_eq_true rfl) rfl rfl ?_
    refine x_iload rfl ?_
    refine x_iast (Nat.le_of_ble_eq_true rfl) rfl g5 ?_
    refine y_let (Option.some.inj hm7) ?_
    refine x_aload rfl ?_
    refine x_getR (Nat.le_of_ble_eq_true rfl) rfl rfl ?_
    refine x_aload rfl ?_
    refine x_getI (Nat.le_of_ble_eq_true rfl) rfl rfl ?_
    refine x_iload rfl ?_
    refine x_iast (Nat.le_of_ble_eq_true rfl) rfl g8 ?_
    refine y_let (Option.some.inj hm10) ?_
    refine x_aload rfl ?_
    refine x_dup rfl ?_
    refine x_getI (Nat.le_of_ble_eq_true rfl) rfl rfl ?_
    refine x_push ?_
    refine x_iadd ?_
    refine x_putI (Nat.le_of_ble_eq_true rfl) rfl rfl ?_
    refine x_aload rfl ?_
    refine x_getI (Nat.le_of_ble_eq_true rfl) rfl rfl ?_
    refine x_push ?_
    refine x_isub ?_
    refine y_ireturn (ls := [some (.ref 94), some (.int l1), some (.int l2), some (.int l3)]) ?_
    obtain rfl := Option.some.inj h
    exact k3
  · replace h := of_pos h h1
    refine jWP.intro (pr := pX11_meet) (pc := 63) ?_
    refine y_mpri (bs := []) (ls := []) ?_
    obtain rfl := Option.some.inj h
    exact k3
set_option maxRecDepth 20000 in
theorem tfX11_meet (d n : Nat) (A : Nat → Nat → Int32) (L : Nat → Nat → Int64) (l1 : Int32) (l2 : Int32) (l3 : Int32) {Q : Option Value → jM → Prop} {z : (Int32 × (Nat → Nat → Int32))} (h : fX11_meet A l1 l2 l3 = some z) (k3 : Q (some (.int z.1)) (Sh0 n, z.2, L)) : pX11_meet (jEv jtab (d + 2), jWP (jEv jtab (d + 2)) Q ((Sh0 n).length, jsl (Sh0 n)) pX11_meet, Q, ((Sh0 n).length, jsl (Sh0 n))) 0 [some (.ref 94), some (.int l1), some (.int l2), some (.int l3)] [] (Sh0 n, A, L) := by
  unfold fX11_meet at h
  refine y_mask <| x_iload rfl <| y_invS1 (Nat.le_of_ble_eq_true rfl) <| jEv.exZ (q := 230) rfl (kX11_isDay _ _ _ _ _) <| fun hz1 => y_if_eq (fun h2 => ?_) (fun h2 => ?_)
  · replace h := of_pos h h2
    refine jWP.intro (pr := pX11_meet) (pc := 26) ?_
    refine y_mpri (bs := []) (ls := []) ?_
    obtain rfl := Option.some.inj h
    exact k3
  · replace h := of_neg h h2
    refine jWP.intro (pr := pX11_meet) (pc := 7) ?_
    refine y_mask <| x_iload rfl <| y_invS1 (Nat.le_of_ble_eq_true rfl) <| jEv.exZ (q := 229) rfl (kX11_isShip _ _ _ _ _) <| fun hz3 => y_if_eq (fun h4 => ?_) (fun h4 => ?_)
    · replace h := of_pos h h4
      refine jWP.intro (pr := pX11_meet) (pc := 26) ?_
      refine y_mpri (bs := []) (ls := []) ?_
      obtain rfl := Option.some.inj h
      exact k3
    · replace h := of_neg h h4
      refine jWP.intro (pr := pX11_meet) (pc := 14) ?_
      refine y_mask <| x_iload rfl <| y_invS1 (Nat.le_of_ble_eq_true rfl) <| jEv.exZ (q := 229) rfl (kX11_isShip _ _ _ _ _) <| fun hz5 => y_if_eq (fun h6 => ?_) (fun h6 => ?_)
      · replace h := of_pos h h6
        refine jWP.intro (pr := pX11_meet) (pc := 26) ?_
        refine y_mpri (bs := []) (ls := []) ?_
        obtain rfl := Option.some.inj h
        exact k3
      · replace h := of_neg h h6
        refine jWP.intro (pr := pX11_meet) (pc := 21) ?_
        refine y_mask <| x_iload rfl <| x_iload rfl <| y_cmp_ne (fun h7 => ?_) (fun h7 => ?_)
        · replace h := of_neg h h7
          refine jWP.intro (pr := pX11_meet) (pc := 29) ?_
          refine y_mask <| x_aload rfl <| x_getI (Nat.le_of_ble_eq_true rfl) rfl rfl <| y_if_le (fun h8 => ?_) (fun h8 => ?_)
          · replace h := of_pos h h8
            refine jWP.intro (pr := pX11_meet) (pc := 54) ?_
            exact tjX11_meet_54 d n A L l1 l2 l3 h k3
          · replace h := of_neg h h8
            refine jWP.intro (pr := pX11_meet) (pc := 36) ?_
            obtain ⟨g9, h⟩ := of_guard h
            show bX11_meet_36 _ _ _ _
            unfold bX11_meet_36
            refine y_mask ?_
            refine x_iload rfl ?_
            refine x_aload rfl ?_
            refine x_getR (Nat.le_of_ble_eq_true rfl) rfl rfl ?_
            refine x_aload rfl ?_
            refine x_getI (Nat.le_of_ble_eq_true rfl) rfl rfl ?_
            refine x_push ?_
            refine x_isub ?_
            refine x_iald rfl g9 ?_
            refine y_cmp_ge (fun h10 => ?_) (fun h10 => ?_)
            · replace h := of_pos h h10
              refine jWP.intro (pr := pX11_meet) (pc := 54) ?_
              exact tjX11_meet_54 d n A L l1 l2 l3 h k3
            · replace h := of_neg h h10
              refine jWP.intro (pr := pX11_meet) (pc := 51) ?_
              refine y_mpri (bs := []) (ls := []) ?_
              obtain rfl := Option.some.inj h
              exact k3
        · replace h := of_pos h h7
          refine jWP.intro (pr := pX11_meet) (pc := 26) ?_
          refine y_mpri (bs := []) (ls := []) ?_
          obtain rfl := Option.some.inj h
          exact k3
theorem kX11_meet (d n : Nat) (A : Nat → Nat → Int32) (L : Nat → Nat → Int64) (l1 : Int32) (l2 : Int32) (l3 : Int32) {z : (Int32 × (Nat → Nat → Int32))} (h : fX11_meet A l1 l2 l3 = some z) : jEv jtab (d + 3) 246 [.ref 94, .int l1, .int l2, .int l3] (Sh0 n, A, L) 0 0 (fun r M2 => r = some (.int z.1) ∧ M2 = (Sh0 n, z.2, L)) :=
  jEv.mk (mt := mX11_meet) rfl (Nat.le_of_ble_eq_true rfl) (jWP.intro (pr := pX11_meet) (pc := 0) (tfX11_meet d n A L l1 l2 l3 h ⟨trivial, jCn.mk ⟨rfl, rfl⟩⟩))
