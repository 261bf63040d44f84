/-! METHODS AS FUNCTIONS, printed by dec.py -/
set_option maxRecDepth 20000 in
theorem tjX11_isUnder_19 (d n : Nat) (A : Nat → Nat → Int32) (L : Nat → Nat → Int64) (l0 : Int32) (l1 : Int32) {Q : Option Value → jM → Prop} {z : Int32} (h : jX11_isUnder_19 l0 l1 = z) (k3 : (narrow .boolean (.int z) = .int z) → Q (some (.int z)) (Sh0 n, A, L)) : pX11_isUnder (jEv jtab (d + 0), jWP (jEv jtab (d + 0)) Q ((Sh0 n).length, jsl (Sh0 n)) pX11_isUnder, Q, ((Sh0 n).length, jsl (Sh0 n))) 19 [some (.int l0), some (.int l1)] [] (Sh0 n, A, L) := by
  unfold jX11_isUnder_19 at h
  refine y_mask <| x_iload rfl <| x_push <| y_cmp_ne (fun h1 => ?_) (fun h1 => ?_)
  · replace h := of_neg h h1
    refine jWP.intro (pr := pX11_isUnder) (pc := 33) ?_
    refine y_mask <| x_push <| y_mask <| y_goto ?_
    refine jWP.intro (pr := pX11_isUnder) (pc := 34) ?_
    refine y_mri (bs := []) (ls := []) ?_
    subst h
    exact k3 (jnar_boolean (.inl rfl))
  · replace h := of_pos h h1
    refine jWP.intro (pr := pX11_isUnder) (pc := 24) ?_
    refine y_mask <| x_iload rfl <| x_push <| y_cmp_ne (fun h2 => ?_) (fun h2 => ?_)
    · replace h := of_neg h h2
      refine jWP.intro (pr := pX11_isUnder) (pc := 33) ?_
      refine y_mask <| x_push <| y_mask <| y_goto ?_
      refine jWP.intro (pr := pX11_isUnder) (pc := 34) ?_
      refine y_mri (bs := []) (ls := []) ?_
      subst h
      exact k3 (jnar_boolean (.inl rfl))
    · replace h := of_pos h h2
      refine jWP.intro (pr := pX11_isUnder) (pc := 29) ?_
      refine y_mask <| x_push <| y_mask <| y_goto ?_
      refine jWP.intro (pr := pX11_isUnder) (pc := 34) ?_
      refine y_mri (bs := []) (ls := []) ?_
      subst h
      exact k3 (jnar_boolean (.inr rfl))
set_option maxRecDepth 20000 in
theorem tfX11_isUnder (d n : Nat) (A : Nat → Nat → Int32) (L : Nat → Nat → Int64) (l0 : Int32) (l1 : Int32) {Q : Option Value → jM → Prop} {z : Int32} (h : fX11_isUnder l0 l1 = z) (k3 : (narrow .boolean (.int z) = .int z) → Q (some (.int z)) (Sh0 n, A, L)) : pX11_isUnder (jEv jtab (d + 0), jWP (jEv jtab (d + 0)) Q ((Sh0 n).length, jsl (Sh0 n)) pX11_isUnder, Q, ((Sh0 n).length, jsl (Sh0 n))) 0 [some (.int l0), some (.int l1)] [] (Sh0 n, A, L) := by
  unfold fX11_isUnder at h
  refine y_mask <| x_iload rfl <| y_if_eq (fun h1 => ?_) (fun h1 => ?_)
  · replace h := of_pos h h1
    refine jWP.intro (pr := pX11_isUnder) (pc := 29) ?_
    refine y_mask <| x_push <| y_mask <| y_goto ?_
    refine jWP.intro (pr := pX11_isUnder) (pc := 34) ?_
    refine y_mri (bs := []) (ls := []) ?_
    subst h
    exact k3 (jnar_boolean (.inr rfl))
  · replace h := of_neg h h1
    refine jWP.intro (pr := pX11_isUnder) (pc := 4) ?_
    refine y_mask <| x_iload rfl <| x_iload rfl <| y_cmp_eq (fun h2 => ?_) (fun h2 => ?_)
    · replace h := of_pos h h2
      refine jWP.intro (pr := pX11_isUnder) (pc := 29) ?_
      refine y_mask <| x_push <| y_mask <| y_goto ?_
      refine jWP.intro (pr := pX11_isUnder) (pc := 34) ?_
      refine y_mri (bs := []) (ls := []) ?_
      subst h
      exact k3 (jnar_boolean (.inr rfl))
    · replace h := of_neg h h2
      refine jWP.intro (pr := pX11_isUnder) (pc := 9) ?_
      refine y_mask <| x_iload rfl <| x_push <| y_cmp_ne (fun h3 => ?_) (fun h3 => ?_)
      · replace h := of_neg h h3
        refine jWP.intro (pr := pX11_isUnder) (pc := 19) ?_
        exact tjX11_isUnder_19 d n A L l0 l1 h k3
      · replace h := of_pos h h3
        refine jWP.intro (pr := pX11_isUnder) (pc := 14) ?_
        refine y_mask <| x_iload rfl <| x_push <| y_cmp_eq (fun h4 => ?_) (fun h4 => ?_)
        · replace h := of_pos h h4
          refine jWP.intro (pr := pX11_isUnder) (pc := 29) ?_
          refine y_mask <| x_push <| y_mask <| y_goto ?_
          refine jWP.intro (pr := pX11_isUnder) (pc := 34) ?_
          refine y_mri (bs := []) (ls := []) ?_
          subst h
          exact k3 (jnar_boolean (.inr rfl))
        · replace h := of_neg h h4
          refine jWP.intro (pr := pX11_isUnder) (pc := 19) ?_
          exact tjX11_isUnder_19 d n A L l0 l1 h k3
theorem kX11_isUnder (d n : Nat) (A : Nat → Nat → Int32) (L : Nat → Nat → Int64) (l0 : Int32) (l1 : Int32) : jEv jtab (d + 1) 259 [.int l0, .int l1] (Sh0 n, A, L) 0 0 (fun r M2 => r = some (.int (fX11_isUnder l0 l1)) ∧ M2 = (Sh0 n, A, L)) :=
  jEv.mk (mt := mX11_isUnder) rfl (Nat.le_of_ble_eq_true rfl) (jWP.intro (pr := pX11_isUnder) (pc := 0) (tfX11_isUnder d n A L l0 l1 rfl (fun hz => ⟨hz, jCn.mk ⟨rfl, rfl⟩⟩)))
set_option maxRecDepth 20000 in
theorem tfX11_taken (d n : Nat) (A : Nat → Nat → Int32) (L : Nat → Nat → Int64) (l1 : Int32) (l2 : Int32) {Q : Option Value → jM → Prop} {z : Int32} (h : fX11_taken A l1 l2 = some z) (k3 : Q (some (.int z)) (Sh0 n, A, L)) : pX11_taken (jEv jtab (d + 2), jWP (jEv jtab (d + 2)) Q ((Sh0 n).length, jsl (Sh0 n)) pX11_taken, Q, ((Sh0 n).length, jsl (Sh0 n))) 0 [some (.ref 94), some (.int l1), some (.int l2)] [] (Sh0 n, A, L) := by
  unfold fX11_taken at h
  refine y_mask <| x_iload rfl <| x_push <| x_push <| y_invS3 (Nat.le_of_ble_eq_true rfl) <| jEv.exZ (q := 159) rfl (kX11_in _ _ _ _ _ _ _) <| fun hz1 => y_if_ne (fun h2 => ?_) (fun h2 => ?_)
  · replace h := of_neg h h2
    refine jWP.intro (pr := pX11_taken) (pc := 13) ?_
    refine y_mask <| x_iload rfl <| x_push <| x_push <| y_invS3 (Nat.le_of_ble_eq_true rfl) <| jEv.exZ (q := 159) rfl (kX11_in _ _ _ _ _ _ _) <| fun hz3 => y_if_ne (fun h4 => ?_) (fun h4 => ?_)
    · replace h := of_neg h h4
      refine jWP.intro (pr := pX11_taken) (pc := 26) ?_
      refine y_mask <| x_iload rfl <| x_push <| y_cmp_ge (fun h5 => ?_) (fun h5 => ?_)
      · replace h := of_pos h h5
        refine jWP.intro (pr := pX11_taken) (pc := 61) ?_
        refine y_mask <| x_aload rfl <| x_iload rfl <| x_push <| x_isub <| y_invV1 (Nat.le_of_ble_eq_true rfl) rfl (Nat.le_of_ble_eq_true rfl) <| jEv.exZ (q := 193) rfl (kX11_isSaying _ _ _ _ _) <| fun hz6 => y_if_ne (fun h7 => ?_) (fun h7 => ?_)
        · replace h := of_neg h h7
          refine jWP.intro (pr := pX11_taken) (pc := 75) ?_
          refine y_mask <| x_iload rfl <| x_push <| y_cmp_ge (fun h8 => ?_) (fun h8 => ?_)
          · replace h := of_pos h h8
            refine jWP.intro (pr := pX11_taken) (pc := 104) ?_
            refine y_mask <| x_push <| y_mask <| y_goto ?_
            refine jWP.intro (pr := pX11_taken) (pc := 106) ?_
            refine y_mri (bs := []) (ls := []) ?_
            obtain rfl := Option.some.inj h
            exact k3
          · replace h := of_neg h h8
            refine jWP.intro (pr := pX11_taken) (pc := 81) ?_
            obtain ⟨g9, h⟩ := of_guard h
            show bX11_taken_81 _ _ _ _
            unfold bX11_taken_81
            refine y_mask ?_
            refine x_aload rfl ?_
            refine x_getR (Nat.le_of_ble_eq_true rfl) rfl rfl ?_
            refine x_iload rfl ?_
            refine x_push ?_
            refine x_isub ?_
            refine x_iald rfl g9 ?_
            refine x_iload rfl ?_
            refine y_invS2 (Nat.le_of_ble_eq_true rfl) ?_
            refine jEv.exZ (q := 259) rfl (kX11_isUnder _ _ _ _ _ _) (fun hz10 => ?_)
            refine y_if_eq (fun h11 => ?_) (fun h11 => ?_)
            · replace h := of_pos h h11
              refine jWP.intro (pr := pX11_taken) (pc := 104) ?_
              refine y_mask <| x_push <| y_mask <| y_goto ?_
              refine jWP.intro (pr := pX11_taken) (pc := 106) ?_
              refine y_mri (bs := []) (ls := []) ?_
              obtain rfl := Option.some.inj h
              exact k3
            · replace h := of_neg h h11
              refine jWP.intro (pr := pX11_taken) (pc := 97) ?_
              refine y_mask <| x_iload rfl <| x_push <| x_isub <| y_mask <| y_goto ?_
              refine jWP.intro (pr := pX11_taken) (pc := 106) ?_
              refine y_mri (bs := []) (ls := []) ?_
              obtain rfl := Option.some.inj h
              exact k3
        · replace h := of_pos h h7
          refine jWP.intro (pr := pX11_taken) (pc := 72) ?_
          refine y_mpri (bs := []) (ls := []) ?_
          obtain rfl := Option.some.inj h
          exact k3
      · replace h := of_neg h h5
        refine jWP.intro (pr := pX11_taken) (pc := 32) ?_
        refine y_mask <| x_aload rfl <| x_iload rfl <| y_invV1 (Nat.le_of_ble_eq_true rfl) rfl (Nat.le_of_ble_eq_true rfl) <| jEv.exZ (q := 212) rfl (kX11_isWord _ _ _ _ _) <| fun hz12 => y_if_ne (fun h13 => ?_) (fun h13 => ?_)
        · replace h := of_neg h h13
          refine jWP.intro (pr := pX11_taken) (pc := 43) ?_
          refine y_mask <| x_iload rfl <| x_push <| y_cmp_ne (fun h14 => ?_) (fun h14 => ?_)
          · replace h := of_neg h h14
            refine jWP.intro (pr := pX11_taken) (pc := 58) ?_
            refine y_mask <| x_push <| y_mask <| y_goto ?_
            refine jWP.intro (pr := pX11_taken) (pc := 60) ?_
            refine y_mri (bs := []) (ls := []) ?_
            obtain rfl := Option.some.inj h
            exact k3
          · replace h := of_pos h h14
            refine jWP.intro (pr := pX11_taken) (pc := 49) ?_
            obtain ⟨g15, h⟩ := of_guard h
            refine y_mask <| x_aload rfl <| x_getR (Nat.le_of_ble_eq_true rfl) rfl rfl <| x_iload rfl <| x_iald rfl g15 <| y_mask <| y_goto ?_
            refine jWP.intro (pr := pX11_taken) (pc := 60) ?_
            refine y_mri (bs := []) (ls := []) ?_
            obtain rfl := Option.some.inj h
            exact k3
        · replace h := of_pos h h13
          refine jWP.intro (pr := pX11_taken) (pc := 40) ?_
          refine y_mpri (bs := []) (ls := []) ?_
          obtain rfl := Option.some.inj h
          exact k3
    · replace h := of_pos h h4
      refine jWP.intro (pr := pX11_taken) (pc := 23) ?_
      refine y_mpri (bs := []) (ls := []) ?_
      obtain rfl := Option.some.inj h
      exact k3
  · replace h := of_pos h h2
    refine jWP.intro (pr := pX11_taken) (pc := 10) ?_
    refine y_mpri (bs := []) (ls := []) ?_
    obtain rfl := Option.some.inj h
    exact k3
theorem kX11_taken (d n : Nat) (A : Nat → Nat → Int32) (L : Nat → Nat → Int64) (l1 : Int32) (l2 : Int32) {z : Int32} (h : fX11_taken A l1 l2 = some z) : jEv jtab (d + 3) 260 [.ref 94, .int l1, .int l2] (Sh0 n, A, L) 0 0 (fun r M2 => r = some (.int z) ∧ M2 = (Sh0 n, A, L)) :=
  jEv.mk (mt := mX11_taken) rfl (Nat.le_of_ble_eq_true rfl) (jWP.intro (pr := pX11_taken) (pc := 0) (tfX11_taken d n A L l1 l2 h ⟨trivial, jCn.mk ⟨rfl, rfl⟩⟩))
