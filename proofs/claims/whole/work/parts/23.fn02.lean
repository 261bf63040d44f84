/-! METHODS AS FUNCTIONS, printed by dec.py -/
set_option maxRecDepth 20000 in
theorem tjX2_says_104_20 (d n : Nat) (A : Nat → Nat → Int32) (L : Nat → Nat → Int64) (l1 : Int32) (l2 : Int32) (cl3 : Nat) (hsl3 : jn (Sh0 n) cl3 = some (.inl (.int, 160))) (hll3 : jR ≤ cl3) (l4 : Int32) (l5 : Int32) (l6 : Int32) {Q : Option Value → jM → Prop} {z : ((Int32 × Int32 × (Nat → Nat → Int32)) ⊕ (Nat → Nat → Int32))} (h : jX2_says_104_20 A l1 l2 cl3 l4 l5 l6 = some z) (k1 : ∀ s0, z = .inl s0 → pX2_says (jEv jtab (d + 1), jWP (jEv jtab (d + 1)) Q ((Sh0 n).length, jsl (Sh0 n)) pX2_says, Q, ((Sh0 n).length, jsl (Sh0 n))) 20 [some (.ref 20), some (.int l1), some (.int l2), some (.ref cl3), some (.int s0.1), some (.int s0.2.1), none] [] (Sh0 n, s0.2.2, L)) (k2 : ∀ s0, z = .inr s0 → pX2_says (jEv jtab (d + 1), jWP (jEv jtab (d + 1)) Q ((Sh0 n).length, jsl (Sh0 n)) pX2_says, Q, ((Sh0 n).length, jsl (Sh0 n))) 162 [some (.ref 20), none, some (.int l2), none, none, none, none] [] (Sh0 n, s0, L)) : pX2_says (jEv jtab (d + 1), jWP (jEv jtab (d + 1)) Q ((Sh0 n).length, jsl (Sh0 n)) pX2_says, Q, ((Sh0 n).length, jsl (Sh0 n))) 104 [some (.ref 20), some (.int l1), some (.int l2), some (.ref cl3), some (.int l4), some (.int l5), some (.int l6)] [] (Sh0 n, A, L) := by
  unfold jX2_says_104_20 at h
  obtain ⟨r1, hc2, h⟩ := of_bind h
  refine y_mask <| x_aload rfl <| x_iload rfl <| x_iload rfl <| x_push <| x_isub <| y_invV2 (Nat.le_of_ble_eq_true rfl) rfl (Nat.le_of_ble_eq_true rfl) <| jEv.exV (kX2_turnTop _ _ _ _ _ _ hc2) <| y_mask <| y_goto ?_
  refine jWP.intro (pr := pX2_says) (pc := 156) ?_
  refine y_mask <| x_iinc rfl rfl <| y_mask <| y_goto ?_
  refine jWP.intro (pr := pX2_says) (pc := 20) ?_
  have hk := k1 _ (Option.some.inj h).symm
  exact hk
set_option maxRecDepth 20000 in
theorem tjX2_says_90_20 (d n : Nat) (A : Nat → Nat → Int32) (L : Nat → Nat → Int64) (l1 : Int32) (l2 : Int32) (cl3 : Nat) (hsl3 : jn (Sh0 n) cl3 = some (.inl (.int, 160))) (hll3 : jR ≤ cl3) (l4 : Int32) (l5 : Int32) (l6 : Int32) {Q : Option Value → jM → Prop} {z : ((Int32 × Int32 × (Nat → Nat → Int32)) ⊕ (Nat → Nat → Int32))} (h : jX2_says_90_20 A l1 l2 cl3 l4 l5 l6 = some z) (k1 : ∀ s0, z = .inl s0 → pX2_says (jEv jtab (d + 1), jWP (jEv jtab (d + 1)) Q ((Sh0 n).length, jsl (Sh0 n)) pX2_says, Q, ((Sh0 n).length, jsl (Sh0 n))) 20 [some (.ref 20), some (.int l1), some (.int l2), some (.ref cl3), some (.int s0.1), some (.int s0.2.1), none] [] (Sh0 n, s0.2.2, L)) (k2 : ∀ s0, z = .inr s0 → pX2_says (jEv jtab (d + 1), jWP (jEv jtab (d + 1)) Q ((Sh0 n).length, jsl (Sh0 n)) pX2_says, Q, ((Sh0 n).length, jsl (Sh0 n))) 162 [some (.ref 20), none, some (.int l2), none, none, none, none] [] (Sh0 n, s0, L)) : pX2_says (jEv jtab (d + 1), jWP (jEv jtab (d + 1)) Q ((Sh0 n).length, jsl (Sh0 n)) pX2_says, Q, ((Sh0 n).length, jsl (Sh0 n))) 90 [some (.ref 20), some (.int l1), some (.int l2), some (.ref cl3), some (.int l4), some (.int l5), some (.int l6)] [] (Sh0 n, A, L) := by
  unfold jX2_says_90_20 at h
  refine y_mask <| x_iload rfl <| x_push <| y_cmp_eq (fun h1 => ?_) (fun h1 => ?_)
  · replace h := of_pos h h1
    refine jWP.intro (pr := pX2_says) (pc := 104) ?_
    exact tjX2_says_104_20 d n A L l1 l2 cl3 hsl3 hll3 l4 l5 l6 h k1 k2
  · replace h := of_neg h h1
    refine jWP.intro (pr := pX2_says) (pc := 97) ?_
    refine y_mask <| x_iload rfl <| x_push <| y_cmp_ne (fun h2 => ?_) (fun h2 => ?_)
    · replace h := of_neg h h2
      refine jWP.intro (pr := pX2_says) (pc := 117) ?_
      refine y_mask <| x_iload rfl <| x_push <| y_cmp_lt (fun h3 => ?_) (fun h3 => ?_)
      · replace h := of_pos h h3
        refine jWP.intro (pr := pX2_says) (pc := 156) ?_
        refine y_mask <| x_iinc rfl rfl <| y_mask <| y_goto ?_
        refine jWP.intro (pr := pX2_says) (pc := 20) ?_
        have hk := k1 _ (Option.some.inj h).symm
        exact hk
      · replace h := of_neg h h3
        refine jWP.intro (pr := pX2_says) (pc := 123) ?_
        obtain ⟨g4, h⟩ := of_guard h
        obtain ⟨g5, h⟩ := of_guard h
        obtain ⟨g6, h⟩ := of_guard h
        obtain ⟨m7, hm8, h⟩ := of_bind h
        refine y_mask <| x_iinc rfl rfl <| x_aload rfl <| x_getR (Nat.le_of_ble_eq_true rfl) rfl rfl <| x_iload rfl <| x_push <| x_isub <| x_iload rfl <| x_aload rfl <| x_getR (Nat.le_of_ble_eq_true rfl) rfl rfl <| x_iload rfl <| x_push <| x_isub <| x_iald rfl g4 <| x_aload rfl <| x_getR (Nat.le_of_ble_eq_true rfl) rfl rfl <| x_iload rfl <| x_iald rfl g5 <| y_invS3 (Nat.le_of_ble_eq_true rfl) <| jEv.exI (kX2_ofTwo _ _ _ _ _ _ _) <| x_iast (Nat.le_of_ble_eq_true rfl) rfl g6 <| y_let (Option.some.inj hm8) <| y_mask <| y_goto ?_
        refine jWP.intro (pr := pX2_says) (pc := 156) ?_
        refine y_mask <| x_iinc rfl rfl <| y_mask <| y_goto ?_
        refine jWP.intro (pr := pX2_says) (pc := 20) ?_
        have hk := k1 _ (Option.some.inj h).symm
        exact hk
    · replace h := of_pos h h2
      refine jWP.intro (pr := pX2_says) (pc := 104) ?_
      exact tjX2_says_104_20 d n A L l1 l2 cl3 hsl3 hll3 l4 l5 l6 h k1 k2
set_option maxRecDepth 20000 in
theorem tjX2_says_83_20 (d n : Nat) (A : Nat → Nat → Int32) (L : Nat → Nat → Int64) (l1 : Int32) (l2 : Int32) (cl3 : Nat) (hsl3 : jn (Sh0 n) cl3 = some (.inl (.int, 160))) (hll3 : jR ≤ cl3) (l4 : Int32) (l5 : Int32) (s1 : Int32) (s2 : Int32) {Q : Option Value → jM → Prop} {z : ((Int32 × Int32 × (Nat → Nat → Int32)) ⊕ (Nat → Nat → Int32))} (h : jX2_says_83_20 A l1 l2 cl3 l4 l5 s1 s2 = some z) (k1 : ∀ s0, z = .inl s0 → pX2_says (jEv jtab (d + 1), jWP (jEv jtab (d + 1)) Q ((Sh0 n).length, jsl (Sh0 n)) pX2_says, Q, ((Sh0 n).length, jsl (Sh0 n))) 20 [some (.ref 20), some (.int l1), some (.int l2), some (.ref cl3), some (.int s0.1), some (.int s0.2.1), none] [] (Sh0 n, s0.2.2, L)) (k2 : ∀ s0, z = .inr s0 → pX2_says (jEv jtab (d + 1), jWP (jEv jtab (d + 1)) Q ((Sh0 n).length, jsl (Sh0 n)) pX2_says, Q, ((Sh0 n).length, jsl (Sh0 n))) 162 [some (.ref 20), none, some (.int l2), none, none, none, none] [] (Sh0 n, s0, L)) : pX2_says (jEv jtab (d + 1), jWP (jEv jtab (d + 1)) Q ((Sh0 n).length, jsl (Sh0 n)) pX2_says, Q, ((Sh0 n).length, jsl (Sh0 n))) 83 [some (.ref 20), some (.int l1), some (.int l2), some (.ref cl3), some (.int l4), some (.int l5), none] [.int s2, .int s1, .ref 43] (Sh0 n, A, L) := by
  unfold jX2_says_83_20 at h
  obtain ⟨g1, h⟩ := of_guard h
  obtain ⟨m2, hm3, h⟩ := of_bind h
  refine y_mask <| x_iast (Nat.le_of_ble_eq_true rfl) rfl g1 <| y_let (Option.some.inj hm3) <| x_iinc rfl rfl <| y_mask <| y_goto ?_
  refine jWP.intro (pr := pX2_says) (pc := 156) ?_
  refine y_mask <| x_iinc rfl rfl <| y_mask <| y_goto ?_
  refine jWP.intro (pr := pX2_says) (pc := 20) ?_
  have hk := k1 _ (Option.some.inj h).symm
  exact hk
set_option maxRecDepth 20000 in
theorem tcX2_says_20 (d n : Nat) (A : Nat → Nat → Int32) (L : Nat → Nat → Int64) (l1 : Int32) (l2 : Int32) (cl3 : Nat) (hsl3 : jn (Sh0 n) cl3 = some (.inl (.int, 160))) (hll3 : jR ≤ cl3) (s : (Int32 × Int32 × (Nat → Nat → Int32))) {Q : Option Value → jM → Prop} {z : ((Int32 × Int32 × (Nat → Nat → Int32)) ⊕ (Nat → Nat → Int32))} (h : cX2_says_20 l1 l2 cl3 s = some z) (k1 : ∀ s0, z = .inl s0 → pX2_says (jEv jtab (d + 1), jWP (jEv jtab (d + 1)) Q ((Sh0 n).length, jsl (Sh0 n)) pX2_says, Q, ((Sh0 n).length, jsl (Sh0 n))) 20 [some (.ref 20), some (.int l1), some (.int l2), some (.ref cl3), some (.int s0.1), some (.int s0.2.1), none] [] (Sh0 n, s0.2.2, L)) (k2 : ∀ s0, z = .inr s0 → pX2_says (jEv jtab (d + 1), jWP (jEv jtab (d + 1)) Q ((Sh0 n).length, jsl (Sh0 n)) pX2_says, Q, ((Sh0 n).length, jsl (Sh0 n))) 162 [some (.ref 20), none, some (.int l2), none, none, none, none] [] (Sh0 n, s0, L)) : pX2_says (jEv jtab (d + 1), jWP (jEv jtab (d + 1)) Q ((Sh0 n).length, jsl (Sh0 n)) pX2_says, Q, ((Sh0 n).length, jsl (Sh0 n))) 20 [some (.ref 20), some (.int l1), some (.int l2), some (.ref cl3), some (.int s.1), some (.int s.2.1), none] [] (Sh0 n, s.2.2, L) := by
  unfold cX2_says_20 at h
  obtain ⟨g1, h⟩ := of_guard h
  obtain ⟨g3, h⟩ := of_guard h
  refine y_mask <| x_iload rfl <| x_aload rfl <| x_getR (Nat.le_of_ble_eq_true rfl) rfl rfl <| x_iload rfl <| x_row (Nat.le_of_ble_eq_true rfl) rfl g1 <| fun hr2 => x_iload rfl <| x_push <| x_iadd <| x_iald (rows_36 (vp_lt g1)) g3 <| y_cmp_ge (fun h4 => ?_) (fun h4 => ?_)
  · replace h := of_pos h h4
    refine jWP.intro (pr := pX2_says) (pc := 162) ?_
    have hk := k2 _ (Option.some.inj h).symm
    exact hk
  · replace h := of_neg h h4
    refine jWP.intro (pr := pX2_says) (pc := 35) ?_
    obtain ⟨g5, h⟩ := of_guard h
    refine y_mask <| x_aload rfl <| x_iload rfl <| x_iald hsl3 g5 <| x_istore rfl <| x_iload rfl <| x_push <| y_cmp_lt (fun h6 => ?_) (fun h6 => ?_)
    · replace h := of_pos h h6
      refine jWP.intro (pr := pX2_says) (pc := 90) ?_
      exact tjX2_says_90_20 d n s.2.2 L l1 l2 cl3 hsl3 hll3 s.1 s.2.1 (s.2.2 cl3 (jx s.2.1)) h k1 k2
    · replace h := of_neg h h6
      refine jWP.intro (pr := pX2_says) (pc := 48) ?_
      refine y_mask <| x_iload rfl <| x_aload rfl <| x_getR (Nat.le_of_ble_eq_true rfl) rfl rfl <| x_alen rfl (by simp) <| y_cmp_ge (fun h7 => ?_) (fun h7 => ?_)
      · replace h := of_pos h h7
        refine jWP.intro (pr := pX2_says) (pc := 90) ?_
        exact tjX2_says_90_20 d n s.2.2 L l1 l2 cl3 hsl3 hll3 s.1 s.2.1 (s.2.2 cl3 (jx s.2.1)) h k1 k2
      · replace h := of_neg h h7
        refine jWP.intro (pr := pX2_says) (pc := 58) ?_
        refine y_mask <| x_aload rfl <| x_getR (Nat.le_of_ble_eq_true rfl) rfl rfl <| x_iload rfl <| x_iload rfl <| y_if_lt (fun h8 => ?_) (fun h8 => ?_)
        · replace h := of_pos h h8
          refine jWP.intro (pr := pX2_says) (pc := 74) ?_
          obtain ⟨g9, h⟩ := of_guard h
          refine y_mask <| x_aload rfl <| x_getR (Nat.le_of_ble_eq_true rfl) rfl rfl <| x_push <| x_iload rfl <| x_isub <| x_iald rfl g9 <| y_mask <| y_goto ?_
          refine jWP.intro (pr := pX2_says) (pc := 83) ?_
          exact tjX2_says_83_20 d n s.2.2 L l1 l2 cl3 hsl3 hll3 s.1 s.2.1 s.1 (s.2.2 28 (jx ((-1 : Int32) - (s.2.2 cl3 (jx s.2.1))))) h k1 k2
        · replace h := of_neg h h8
          refine jWP.intro (pr := pX2_says) (pc := 69) ?_
          refine y_mask <| x_iload rfl <| y_mask <| y_goto ?_
          refine jWP.intro (pr := pX2_says) (pc := 83) ?_
          exact tjX2_says_83_20 d n s.2.2 L l1 l2 cl3 hsl3 hll3 s.1 s.2.1 s.1 (s.2.2 cl3 (jx s.2.1)) h k1 k2
set_option maxRecDepth 20000 in
theorem tfX2_says (d n : Nat) (A : Nat → Nat → Int32) (L : Nat → Nat → Int64) (l1 : Int32) (l2 : Int32) {Q : Option Value → jM → Prop} {z : (Int32 × (Nat → Nat → Int32))} (h : fX2_says A l1 l2 = some z) (k3 : Q (some (.int z.1)) (Sh0 n, z.2, L)) : pX2_says (jEv jtab (d + 1), jWP (jEv jtab (d + 1)) Q ((Sh0 n).length, jsl (Sh0 n)) pX2_says, Q, ((Sh0 n).length, jsl (Sh0 n))) 0 [some (.ref 20), some (.int l1), some (.int l2), none, none, none, none] [] (Sh0 n, A, L) := by
  unfold fX2_says at h
  obtain ⟨g1, h⟩ := of_guard h
  obtain ⟨g3, h⟩ := of_guard h
  obtain ⟨g5, h⟩ := of_guard h
  refine y_mask <| x_aload rfl <| x_getR (Nat.le_of_ble_eq_true rfl) rfl rfl <| x_iload rfl <| x_row (Nat.le_of_ble_eq_true rfl) rfl g1 <| fun hr2 => x_astore rfl <| x_push <| x_istore rfl <| x_aload rfl <| x_getR (Nat.le_of_ble_eq_true rfl) rfl rfl <| x_iload rfl <| x_row (Nat.le_of_ble_eq_true rfl) rfl g3 <| fun hr4 => x_iload rfl <| x_iald (rows_36 (vp_lt g3)) g5 <| x_istore rfl <| y_mask <| y_goto ?_
  obtain ⟨e6, hw7, h⟩ := of_bind h
  refine jWP.intro (pr := pX2_says) (pc := 20) ?_
  refine jwh_use (G := (fun s0 => pX2_says (jEv jtab (d + 1), jWP (jEv jtab (d + 1)) Q ((Sh0 n).length, jsl (Sh0 n)) pX2_says, Q, ((Sh0 n).length, jsl (Sh0 n))) 20 [some (.ref 20), some (.int l1), some (.int l2), some (.ref (30 + (jx l1))), some (.int s0.1), some (.int s0.2.1), none] [] (Sh0 n, s0.2.2, L))) (Gx := (fun s0 => pX2_says (jEv jtab (d + 1), jWP (jEv jtab (d + 1)) Q ((Sh0 n).length, jsl (Sh0 n)) pX2_says, Q, ((Sh0 n).length, jsl (Sh0 n))) 162 [some (.ref 20), none, some (.int l2), none, none, none, none] [] (Sh0 n, s0, L))) (fun s1 z1 hz kk1 kk2 => tcX2_says_20 d n A L l1 l2 (30 + (jx l1)) (rows_29 (vp_lt g1)) (rowle (Nat.le_of_ble_eq_true rfl)) s1 hz kk1 kk2) hw7 ?_
  obtain ⟨g8, h⟩ := of_guard h
  obtain ⟨g9, h⟩ := of_guard h
  refine y_mask <| x_push <| x_iload rfl <| x_iald rfl g8 <| x_push <| x_iload rfl <| x_iald rfl g9 <| x_aload rfl <| x_getR (Nat.le_of_ble_eq_true rfl) rfl rfl <| x_push <| x_iald rfl (by unfold vp_in; decide) <| y_mmin (Nat.le_of_ble_eq_true rfl) <| y_mmax (Nat.le_of_ble_eq_true rfl) <| y_ireturn (ls := [some (.ref 20), none, some (.int l2), none, none, none, none]) ?_
  obtain rfl := Option.some.inj h
  exact k3
theorem kX2_says (d n : Nat) (A : Nat → Nat → Int32) (L : Nat → Nat → Int64) (l1 : Int32) (l2 : Int32) {z : (Int32 × (Nat → Nat → Int32))} (h : fX2_says A l1 l2 = some z) : jEv jtab (d + 2) 21 [.ref 20, .int l1, .int l2] (Sh0 n, A, L) 0 0 (fun r M2 => r = some (.int z.1) ∧ M2 = (Sh0 n, z.2, L)) :=
  jEv.mk (mt := mX2_says) rfl (Nat.le_of_ble_eq_true rfl) (jWP.intro (pr := pX2_says) (pc := 0) (tfX2_says d n A L l1 l2 h ⟨trivial, jCn.mk ⟨rfl, rfl⟩⟩))
set_option maxRecDepth 20000 in
theorem tfX6_lawSays (d n : Nat) (A : Nat → Nat → Int32) (L : Nat → Nat → Int64) (l1 : Int32) (l2 : Int32) (l3 : Int32) {Q : Option Value → jM → Prop} {z : (Int32 × (Nat → Nat → Int32))} (h : fX6_lawSays A l1 l2 l3 = some z) (k3 : Q (some (.int z.1)) (Sh0 n, z.2, L)) : pX6_lawSays (jEv jtab (d + 2), jWP (jEv jtab (d + 2)) Q ((Sh0 n).length, jsl (Sh0 n)) pX6_lawSays, Q, ((Sh0 n).length, jsl (Sh0 n))) 0 [some (.ref 16), some (.int l1), some (.int l2), some (.int l3)] [] (Sh0 n, A, L) := by
  unfold fX6_lawSays at h
  obtain ⟨m1, hm2, h⟩ := of_bind h
  obtain ⟨m3, hm4, h⟩ := of_bind h
  obtain ⟨m5, hm6, h⟩ := of_bind h
  obtain ⟨m7, hm8, h⟩ := of_bind h
  refine y_mask <| x_aload rfl <| x_getR (Nat.le_of_ble_eq_true rfl) rfl rfl <| x_getR (Nat.le_of_ble_eq_true rfl) rfl rfl <| x_push <| x_aload rfl <| x_getR (Nat.le_of_ble_eq_true rfl) rfl rfl <| x_aload rfl <| x_getI (Nat.le_of_ble_eq_true rfl) rfl rfl <| x_iload rfl <| y_invV2 (Nat.le_of_ble_eq_true rfl) rfl (Nat.le_of_ble_eq_true rfl) <| jEv.exI (kX4_far _ _ _ _ _ _) <| x_iast (Nat.le_of_ble_eq_true rfl) rfl (by unfold vp_in; decide) <| y_let (Option.some.inj hm2) <| x_aload rfl <| x_getR (Nat.le_of_ble_eq_true rfl) rfl rfl <| x_getR (Nat.le_of_ble_eq_true rfl) rfl rfl <| x_push <| x_aload rfl <| x_getR (Nat.le_of_ble_eq_true rfl) rfl rfl <| y_invV0 (Nat.le_of_ble_eq_true rfl) rfl (Nat.le_of_ble_eq_true rfl) <| jEv.exI (kX4_wind _ _ _ _) <| x_iast (Nat.le_of_ble_eq_true rfl) rfl (by unfold vp_in; decide) <| y_let (Option.some.inj hm4) <| x_aload rfl <| x_getR (Nat.le_of_ble_eq_true rfl) rfl rfl <| x_getR (Nat.le_of_ble_eq_true rfl) rfl rfl <| x_push <| x_aload rfl <| x_getR (Nat.le_of_ble_eq_true rfl) rfl rfl <| y_invV0 (Nat.le_of_ble_eq_true rfl) rfl (Nat.le_of_ble_eq_true rfl) <| jEv.exI (kX4_noise _ _ _ _) <| x_iast (Nat.le_of_ble_eq_true rfl) rfl (by unfold vp_in; decide) <| y_let (Option.some.inj hm6) <| x_aload rfl <| x_getR (Nat.le_of_ble_eq_true rfl) rfl rfl <| x_getR (Nat.le_of_ble_eq_true rfl) rfl rfl <| x_push <| x_iload rfl <| x_iast (Nat.le_of_ble_eq_true rfl) rfl (by unfold vp_in; decide) <| y_let (Option.some.inj hm8) <| x_aload rfl <| x_getR (Nat.le_of_ble_eq_true rfl) rfl rfl <| x_getR (Nat.le_of_ble_eq_true rfl) rfl rfl <| x_push <| x_aload rfl <| x_getR (Nat.le_of_ble_eq_true rfl) rfl rfl <| x_iload rfl <| y_mask <| y_goto ?_
  refine jWP.intro (pr := pX6_lawSays) (pc := 76) ?_
  obtain ⟨m9, hm10, h⟩ := of_bind h
  obtain ⟨m11, hm12, h⟩ := of_bind h
  obtain ⟨r13, hc14, h⟩ := of_bind h
  refine y_mask <| y_invV1 (Nat.le_of_ble_eq_true rfl) rfl (Nat.le_of_ble_eq_true rfl) <| jEv.exI (kX4_sailIn _ _ _ _ _) <| x_iast (Nat.le_of_ble_eq_true rfl) rfl (by unfold vp_in; decide) <| y_let (Option.some.inj hm10) <| x_aload rfl <| x_getR (Nat.le_of_ble_eq_true rfl) rfl rfl <| x_getR (Nat.le_of_ble_eq_true rfl) rfl rfl <| x_push <| x_iload rfl <| x_iast (Nat.le_of_ble_eq_true rfl) rfl (by unfold vp_in; decide) <| y_let (Option.some.inj hm12) <| x_aload rfl <| x_getR (Nat.le_of_ble_eq_true rfl) rfl rfl <| x_aload rfl <| x_getR (Nat.le_of_ble_eq_true rfl) rfl rfl <| x_getI (Nat.le_of_ble_eq_true rfl) rfl rfl <| x_iload rfl <| y_invV2 (Nat.le_of_ble_eq_true rfl) rfl (Nat.le_of_ble_eq_true rfl) <| jEv.exI (kX2_says _ _ _ _ _ _ hc14) <| y_ireturn (ls := [some (.ref 16), some (.int l1), some (.int l2), none]) ?_
  obtain rfl := Option.some.inj h
  exact k3
theorem kX6_lawSays (d n : Nat) (A : Nat → Nat → Int32) (L : Nat → Nat → Int64) (l1 : Int32) (l2 : Int32) (l3 : Int32) {z : (Int32 × (Nat → Nat → Int32))} (h : fX6_lawSays A l1 l2 l3 = some z) : jEv jtab (d + 3) 59 [.ref 16, .int l1, .int l2, .int l3] (Sh0 n, A, L) 0 0 (fun r M2 => r = some (.int z.1) ∧ M2 = (Sh0 n, z.2, L)) :=
  jEv.mk (mt := mX6_lawSays) rfl (Nat.le_of_ble_eq_true rfl) (jWP.intro (pr := pX6_lawSays) (pc := 0) (tfX6_lawSays d n A L l1 l2 l3 h ⟨trivial, jCn.mk ⟨rfl, rfl⟩⟩))
set_option maxRecDepth 20000 in
theorem tfX10_asks (d n : Nat) (A : Nat → Nat → Int32) (L : Nat → Nat → Int64) (l1 : Int32) (l2 : Int32) (l3 : Int32) {Q : Option Value → jM → Prop} {z : (Int32 × (Nat → Nat → Int32))} (h : fX10_asks A l1 l2 l3 = some z) (k3 : Q (some (.int z.1)) (Sh0 n, z.2, L)) : pX10_asks (jEv jtab (d + 3), jWP (jEv jtab (d + 3)) Q ((Sh0 n).length, jsl (Sh0 n)) pX10_asks, Q, ((Sh0 n).length, jsl (Sh0 n))) 0 [some (.ref 15), some (.int l1), some (.int l2), some (.int l3)] [] (Sh0 n, A, L) := by
  unfold fX10_asks at h
  refine y_mask <| x_iload rfl <| x_push <| x_push <| y_invS3 (Nat.le_of_ble_eq_true rfl) <| jEv.exZ (q := 152) rfl (kX10_within _ _ _ _ _ _ _) <| fun hz1 => y_if_eq (fun h2 => ?_) (fun h2 => ?_)
  · replace h := of_pos h h2
    refine jWP.intro (pr := pX10_asks) (pc := 32) ?_
    refine y_mpri (bs := []) (ls := []) ?_
    obtain rfl := Option.some.inj h
    exact k3
  · replace h := of_neg h h2
    refine jWP.intro (pr := pX10_asks) (pc := 9) ?_
    refine y_mask <| x_aload rfl <| x_getR (Nat.le_of_ble_eq_true rfl) rfl rfl <| x_getR (Nat.le_of_ble_eq_true rfl) rfl rfl <| x_iload rfl <| y_invV1 (Nat.le_of_ble_eq_true rfl) rfl (Nat.le_of_ble_eq_true rfl) <| jEv.exZ (q := 37) rfl (kX4_hasMinute _ _ _ _ _) <| fun hz3 => y_if_eq (fun h4 => ?_) (fun h4 => ?_)
    · replace h := of_pos h h4
      refine jWP.intro (pr := pX10_asks) (pc := 32) ?_
      refine y_mpri (bs := []) (ls := []) ?_
      obtain rfl := Option.some.inj h
      exact k3
    · replace h := of_neg h h4
      refine jWP.intro (pr := pX10_asks) (pc := 23) ?_
      refine y_mask <| x_iload rfl <| x_push <| x_push <| y_invS3 (Nat.le_of_ble_eq_true rfl) <| jEv.exZ (q := 152) rfl (kX10_within _ _ _ _ _ _ _) <| fun hz5 => y_if_ne (fun h6 => ?_) (fun h6 => ?_)
      · replace h := of_neg h h6
        refine jWP.intro (pr := pX10_asks) (pc := 35) ?_
        obtain ⟨r7, hc8, h⟩ := of_bind h
        obtain ⟨r9, hc10, h⟩ := of_bind h
        refine y_mask <| x_aload rfl <| x_getR (Nat.le_of_ble_eq_true rfl) rfl rfl <| x_aload rfl <| x_getR (Nat.le_of_ble_eq_true rfl) rfl rfl <| x_getR (Nat.le_of_ble_eq_true rfl) rfl rfl <| y_invV0 (Nat.le_of_ble_eq_true rfl) rfl (Nat.le_of_ble_eq_true rfl) <| jEv.exI (kX4_near _ _ _ _) <| y_invV1 (Nat.le_of_ble_eq_true rfl) rfl (Nat.le_of_ble_eq_true rfl) <| jEv.exV (kX6_sailBy _ _ _ _ _ hc8) <| x_aload rfl <| x_getR (Nat.le_of_ble_eq_true rfl) rfl rfl <| x_iload rfl <| x_iload rfl <| x_iload rfl <| y_invV3 (Nat.le_of_ble_eq_true rfl) rfl (Nat.le_of_ble_eq_true rfl) <| jEv.exI (kX6_lawSays _ _ _ _ _ _ _ hc10) <| y_ireturn (ls := [some (.ref 15), some (.int l1), some (.int l2), some (.int l3)]) ?_
        obtain rfl := Option.some.inj h
        exact k3
      · replace h := of_pos h h6
        refine jWP.intro (pr := pX10_asks) (pc := 32) ?_
        refine y_mpri (bs := []) (ls := []) ?_
        obtain rfl := Option.some.inj h
        exact k3
theorem kX10_asks (d n : Nat) (A : Nat → Nat → Int32) (L : Nat → Nat → Int64) (l1 : Int32) (l2 : Int32) (l3 : Int32) {z : (Int32 × (Nat → Nat → Int32))} (h : fX10_asks A l1 l2 l3 = some z) : jEv jtab (d + 4) 115 [.ref 15, .int l1, .int l2, .int l3] (Sh0 n, A, L) 0 0 (fun r M2 => r = some (.int z.1) ∧ M2 = (Sh0 n, z.2, L)) :=
  jEv.mk (mt := mX10_asks) rfl (Nat.le_of_ble_eq_true rfl) (jWP.intro (pr := pX10_asks) (pc := 0) (tfX10_asks d n A L l1 l2 l3 h ⟨trivial, jCn.mk ⟨rfl, rfl⟩⟩))
set_option maxRecDepth 20000 in
theorem tfX6_add (d n : Nat) (A : Nat → Nat → Int32) (L : Nat → Nat → Int64) (l1 : Int32) (l2 : Int32) (l3 : Int32) {Q : Option Value → jM → Prop} {z : (Int32 × (Nat → Nat → Int32))} (h : fX6_add A l1 l2 l3 = some z) (k3 : Q (some (.int z.1)) (Sh0 n, z.2, L)) : pX6_add (jEv jtab (d + 0), jWP (jEv jtab (d + 0)) Q ((Sh0 n).length, jsl (Sh0 n)) pX6_add, Q, ((Sh0 n).length, jsl (Sh0 n))) 0 [some (.ref 16), some (.int l1), some (.int l2), some (.int l3)] [] (Sh0 n, A, L) := by
  unfold fX6_add at h
  obtain ⟨g1, h⟩ := of_guard h
  obtain ⟨m2, hm3, h⟩ := of_bind h
  obtain ⟨g4, h⟩ := of_guard h
  obtain ⟨m5, hm6, h⟩ := of_bind h
  obtain ⟨g7, h⟩ := of_guard h
  obtain ⟨m8, hm9, h⟩ := of_bind h
  refine y_mask <| x_aload rfl <| x_getR (Nat.le_of_ble_eq_true rfl) rfl rfl <| x_aload rfl <| x_getI (Nat.le_of_ble_eq_true rfl) rfl rfl <| x_iload rfl <| x_iast (Nat.le_of_ble_eq_true rfl) rfl g1 <| y_let (Option.some.inj hm3) <| x_aload rfl <| x_getR (Nat.le_of_ble_eq_true rfl) rfl rfl <| x_aload rfl <| x_getI (Nat.le_of_ble_eq_true rfl) rfl rfl <| x_iload rfl <| x_iast (Nat.le_of_ble_eq_true rfl) rfl g4 <| y_let (Option.some.inj hm6) <| x_aload rfl <| x_getR (Nat.le_of_ble_eq_true rfl) rfl rfl <| x_aload rfl <| x_getI (Nat.le_of_ble_eq_true rfl) rfl rfl <| x_iload rfl <| x_iast (Nat.le_of_ble_eq_true rfl) rfl g7 <| y_let (Option.some.inj hm9) <| x_aload rfl <| x_dup rfl <| x_getI (Nat.le_of_ble_eq_true rfl) rfl rfl <| x_push <| x_iadd <| x_putI (Nat.le_of_ble_eq_true rfl) rfl rfl <| x_aload rfl <| x_getI (Nat.le_of_ble_eq_true rfl) rfl rfl <| x_push <| x_isub <| y_ireturn (ls := [some (.ref 16), some (.int l1), some (.int l2), some (.int l3)]) ?_
  obtain rfl := Option.some.inj h
  exact k3
theorem kX6_add (d n : Nat) (A : Nat → Nat → Int32) (L : Nat → Nat → Int64) (l1 : Int32) (l2 : Int32) (l3 : Int32) {z : (Int32 × (Nat → Nat → Int32))} (h : fX6_add A l1 l2 l3 = some z) : jEv jtab (d + 1) 55 [.ref 16, .int l1, .int l2, .int l3] (Sh0 n, A, L) 0 0 (fun r M2 => r = some (.int z.1) ∧ M2 = (Sh0 n, z.2, L)) :=
  jEv.mk (mt := mX6_add) rfl (Nat.le_of_ble_eq_true rfl) (jWP.intro (pr := pX6_add) (pc := 0) (tfX6_add d n A L l1 l2 l3 h ⟨trivial, jCn.mk ⟨rfl, rfl⟩⟩))
set_option maxRecDepth 20000 in
theorem tfX10_say (d n : Nat) (A : Nat → Nat → Int32) (L : Nat → Nat → Int64) (l1 : Int32) (l2 : Int32) (l3 : Int32) {Q : Option Value → jM → Prop} {z : (Int32 × (Nat → Nat → Int32))} (h : fX10_say A l1 l2 l3 = some z) (k3 : Q (some (.int z.1)) (Sh0 n, z.2, L)) : pX10_say (jEv jtab (d + 1), jWP (jEv jtab (d + 1)) Q ((Sh0 n).length, jsl (Sh0 n)) pX10_say, Q, ((Sh0 n).length, jsl (Sh0 n))) 0 [some (.ref 15), some (.int l1), some (.int l2), some (.int l3)] [] (Sh0 n, A, L) := by
  unfold fX10_say at h
  refine y_mask <| x_iload rfl <| x_push <| x_push <| y_invS3 (Nat.le_of_ble_eq_true rfl) <| jEv.exZ (q := 152) rfl (kX10_within _ _ _ _ _ _ _) <| fun hz1 => y_if_eq (fun h2 => ?_) (fun h2 => ?_)
  · replace h := of_pos h h2
    refine jWP.intro (pr := pX10_say) (pc := 28) ?_
    refine y_mpri (bs := []) (ls := []) ?_
    obtain rfl := Option.some.inj h
    exact k3
  · replace h := of_neg h h2
    refine jWP.intro (pr := pX10_say) (pc := 9) ?_
    refine y_mask <| x_iload rfl <| x_push <| x_push <| y_invS3 (Nat.le_of_ble_eq_true rfl) <| jEv.exZ (q := 152) rfl (kX10_within _ _ _ _ _ _ _) <| fun hz3 => y_if_eq (fun h4 => ?_) (fun h4 => ?_)
    · replace h := of_pos h h4
      refine jWP.intro (pr := pX10_say) (pc := 28) ?_
      refine y_mpri (bs := []) (ls := []) ?_
      obtain rfl := Option.some.inj h
      exact k3
    · replace h := of_neg h h4
      refine jWP.intro (pr := pX10_say) (pc := 18) ?_
      refine y_mask <| x_iload rfl <| x_push <| x_push <| y_invS3 (Nat.le_of_ble_eq_true rfl) <| jEv.exZ (q := 152) rfl (kX10_within _ _ _ _ _ _ _) <| fun hz5 => y_if_ne (fun h6 => ?_) (fun h6 => ?_)
      · replace h := of_neg h h6
        refine jWP.intro (pr := pX10_say) (pc := 31) ?_
        refine y_mask <| x_aload rfl <| x_getR (Nat.le_of_ble_eq_true rfl) rfl rfl <| x_getI (Nat.le_of_ble_eq_true rfl) rfl rfl <| x_push <| y_cmp_lt (fun h7 => ?_) (fun h7 => ?_)
        · replace h := of_pos h h7
          refine jWP.intro (pr := pX10_say) (pc := 48) ?_
          obtain ⟨r8, hc9, h⟩ := of_bind h
          refine y_mask <| x_aload rfl <| x_getR (Nat.le_of_ble_eq_true rfl) rfl rfl <| x_iload rfl <| x_iload rfl <| x_iload rfl <| y_invV3 (Nat.le_of_ble_eq_true rfl) rfl (Nat.le_of_ble_eq_true rfl) <| jEv.exI (kX6_add _ _ _ _ _ _ _ hc9) <| y_mask <| y_goto ?_
          refine jWP.intro (pr := pX10_say) (pc := 58) ?_
          refine y_mri (bs := []) (ls := []) ?_
          obtain rfl := Option.some.inj h
          exact k3
        · replace h := of_neg h h7
          refine jWP.intro (pr := pX10_say) (pc := 43) ?_
          refine y_mask <| x_push <| y_mask <| y_goto ?_
          refine jWP.intro (pr := pX10_say) (pc := 58) ?_
          refine y_mri (bs := []) (ls := []) ?_
          obtain rfl := Option.some.inj h
          exact k3
      · replace h := of_pos h h6
        refine jWP.intro (pr := pX10_say) (pc := 28) ?_
        refine y_mpri (bs := []) (ls := []) ?_
        obtain rfl := Option.some.inj h
        exact k3
theorem kX10_say (d n : Nat) (A : Nat → Nat → Int32) (L : Nat → Nat → Int64) (l1 : Int32) (l2 : Int32) (l3 : Int32) {z : (Int32 × (Nat → Nat → Int32))} (h : fX10_say A l1 l2 l3 = some z) : jEv jtab (d + 2) 116 [.ref 15, .int l1, .int l2, .int l3] (Sh0 n, A, L) 0 0 (fun r M2 => r = some (.int z.1) ∧ M2 = (Sh0 n, z.2, L)) :=
  jEv.mk (mt := mX10_say) rfl (Nat.le_of_ble_eq_true rfl) (jWP.intro (pr := pX10_say) (pc := 0) (tfX10_say d n A L l1 l2 l3 h ⟨trivial, jCn.mk ⟨rfl, rfl⟩⟩))
set_option maxRecDepth 20000 in
theorem tfX6_takesBy (d n : Nat) (A : Nat → Nat → Int32) (L : Nat → Nat → Int64) (l1 : Int32) (l2 : Int32) {Q : Option Value → jM → Prop} {z : Int32} (h : fX6_takesBy A l1 l2 = some z) (k3 : Q (some (.int z)) (Sh0 n, A, L)) : pX6_takesBy (jEv jtab (d + 0), jWP (jEv jtab (d + 0)) Q ((Sh0 n).length, jsl (Sh0 n)) pX6_takesBy, Q, ((Sh0 n).length, jsl (Sh0 n))) 0 [some (.ref 16), some (.int l1), some (.int l2)] [] (Sh0 n, A, L) := by
  unfold fX6_takesBy at h
  obtain ⟨g1, h⟩ := of_guard h
  refine y_mask <| x_aload rfl <| x_getR (Nat.le_of_ble_eq_true rfl) rfl rfl <| x_iload rfl <| x_iald rfl g1 <| y_sw (y_case (fun h2 => ?_) (fun h2 => y_case (fun h3 => ?_) (fun h3 => y_case (fun h4 => ?_) (fun h4 => y_case (fun h5 => ?_) (fun h5 => y_dflt ?_)))))
  · replace h := of_pos h h2
    refine jWP.intro (pr := pX6_takesBy) (pc := 36) ?_
    obtain ⟨g6, h⟩ := of_guard h
    refine y_mask <| x_iload rfl <| x_aload rfl <| x_getR (Nat.le_of_ble_eq_true rfl) rfl rfl <| x_iload rfl <| x_iald rfl g6 <| x_push <| x_idiv (by decide) <| x_iadd <| y_ireturn (ls := [some (.ref 16), some (.int l1), some (.int l2)]) ?_
    obtain rfl := Option.some.inj h
    exact k3
  · replace h := of_neg h h2
    replace h := of_pos h h3
    refine jWP.intro (pr := pX6_takesBy) (pc := 47) ?_
    refine y_mask <| x_push <| x_iload rfl <| x_imul <| y_ireturn (ls := [none, some (.int l1), none]) ?_
    obtain rfl := Option.some.inj h
    exact k3
  · replace h := of_neg h h2
    replace h := of_neg h h3
    replace h := of_pos h h4
    refine jWP.intro (pr := pX6_takesBy) (pc := 55) ?_
    refine y_mask <| x_iload rfl <| y_ireturn (ls := [none, some (.int l1), none]) ?_
    obtain rfl := Option.some.inj h
    exact k3
  · replace h := of_neg h h2
    replace h := of_neg h h3
    replace h := of_neg h h4
    replace h := of_pos h h5
    refine jWP.intro (pr := pX6_takesBy) (pc := 51) ?_
    refine y_mask <| x_iload rfl <| x_push <| x_iadd <| y_ireturn (ls := [none, some (.int l1), none]) ?_
    obtain rfl := Option.some.inj h
    exact k3
  · replace h := of_neg h h2
    replace h := of_neg h h3
    replace h := of_neg h h4
    replace h := of_neg h h5
    skip
    refine jWP.intro (pr := pX6_takesBy) (pc := 55) ?_
    refine y_mask <| x_iload rfl <| y_ireturn (ls := [none, some (.int l1), none]) ?_
    obtain rfl := Option.some.inj h
    exact k3
theorem kX6_takesBy (d n : Nat) (A : Nat → Nat → Int32) (L : Nat → Nat → Int64) (l1 : Int32) (l2 : Int32) {z : Int32} (h : fX6_takesBy A l1 l2 = some z) : jEv jtab (d + 1) 65 [.ref 16, .int l1, .int l2] (Sh0 n, A, L) 0 0 (fun r M2 => r = some (.int z) ∧ M2 = (Sh0 n, A, L)) :=
  jEv.mk (mt := mX6_takesBy) rfl (Nat.le_of_ble_eq_true rfl) (jWP.intro (pr := pX6_takesBy) (pc := 0) (tfX6_takesBy d n A L l1 l2 h ⟨trivial, jCn.mk ⟨rfl, rfl⟩⟩))
set_option maxRecDepth 20000 in
theorem tfX6_isOf (d n : Nat) (A : Nat → Nat → Int32) (L : Nat → Nat → Int64) (l1 : Int32) (l2 : Int32) {Q : Option Value → jM → Prop} {z : Int32} (h : fX6_isOf A l1 l2 = some z) (k3 : (narrow .boolean (.int z) = .int z) → Q (some (.int z)) (Sh0 n, A, L)) : pX6_isOf (jEv jtab (d + 0), jWP (jEv jtab (d + 0)) Q ((Sh0 n).length, jsl (Sh0 n)) pX6_isOf, Q, ((Sh0 n).length, jsl (Sh0 n))) 0 [some (.ref 16), some (.int l1), some (.int l2)] [] (Sh0 n, A, L) := by
  unfold fX6_isOf at h
  refine y_mask <| x_iload rfl <| y_if_eq (fun h1 => ?_) (fun h1 => ?_)
  · replace h := of_pos h h1
    refine jWP.intro (pr := pX6_isOf) (pc := 28) ?_
    refine y_mask <| x_push <| y_mask <| y_goto ?_
    refine jWP.intro (pr := pX6_isOf) (pc := 33) ?_
    refine y_mri (bs := []) (ls := []) ?_
    obtain rfl := Option.some.inj h
    exact k3 (jnar_boolean (.inr rfl))
  · replace h := of_neg h h1
    refine jWP.intro (pr := pX6_isOf) (pc := 4) ?_
    obtain ⟨g2, h⟩ := of_guard h
    refine y_mask <| x_aload rfl <| x_getR (Nat.le_of_ble_eq_true rfl) rfl rfl <| x_iload rfl <| x_iald rfl g2 <| x_iload rfl <| y_cmp_eq (fun h3 => ?_) (fun h3 => ?_)
    · replace h := of_pos h h3
      refine jWP.intro (pr := pX6_isOf) (pc := 28) ?_
      refine y_mask <| x_push <| y_mask <| y_goto ?_
      refine jWP.intro (pr := pX6_isOf) (pc := 33) ?_
      refine y_mri (bs := []) (ls := []) ?_
      obtain rfl := Option.some.inj h
      exact k3 (jnar_boolean (.inr rfl))
    · replace h := of_neg h h3
      refine jWP.intro (pr := pX6_isOf) (pc := 14) ?_
      obtain ⟨g4, h⟩ := of_guard h
      obtain ⟨g5, h⟩ := of_guard h
      refine y_mask <| x_push <| x_aload rfl <| x_getR (Nat.le_of_ble_eq_true rfl) rfl rfl <| x_iload rfl <| x_iald rfl g4 <| x_iald rfl g5 <| x_iload rfl <| y_cmp_ne (fun h6 => ?_) (fun h6 => ?_)
      · replace h := of_neg h h6
        refine jWP.intro (pr := pX6_isOf) (pc := 32) ?_
        refine y_mask <| x_push <| y_mask <| y_goto ?_
        refine jWP.intro (pr := pX6_isOf) (pc := 33) ?_
        refine y_mri (bs := []) (ls := []) ?_
        obtain rfl := Option.some.inj h
        exact k3 (jnar_boolean (.inl rfl))
      · replace h := of_pos h h6
        refine jWP.intro (pr := pX6_isOf) (pc := 28) ?_
        refine y_mask <| x_push <| y_mask <| y_goto ?_
        refine jWP.intro (pr := pX6_isOf) (pc := 33) ?_
        refine y_mri (bs := []) (ls := []) ?_
        obtain rfl := Option.some.inj h
        exact k3 (jnar_boolean (.inr rfl))
theorem kX6_isOf (d n : Nat) (A : Nat → Nat → Int32) (L : Nat → Nat → Int64) (l1 : Int32) (l2 : Int32) {z : Int32} (h : fX6_isOf A l1 l2 = some z) : jEv jtab (d + 1) 56 [.ref 16, .int l1, .int l2] (Sh0 n, A, L) 0 0 (fun r M2 => r = some (.int z) ∧ M2 = (Sh0 n, A, L)) :=
  jEv.mk (mt := mX6_isOf) rfl (Nat.le_of_ble_eq_true rfl) (jWP.intro (pr := pX6_isOf) (pc := 0) (tfX6_isOf d n A L l1 l2 h (fun hz => ⟨hz, jCn.mk ⟨rfl, rfl⟩⟩)))
set_option maxRecDepth 20000 in
theorem tfX6_byMouth (d n : Nat) (A : Nat → Nat → Int32) (L : Nat → Nat → Int64) (l1 : Int32) {Q : Option Value → jM → Prop} {z : Int32} (h : fX6_byMouth A l1 = some z) (k3 : (narrow .boolean (.int z) = .int z) → Q (some (.int z)) (Sh0 n, A, L)) : pX6_byMouth (jEv jtab (d + 1), jWP (jEv jtab (d + 1)) Q ((Sh0 n).length, jsl (Sh0 n)) pX6_byMouth, Q, ((Sh0 n).length, jsl (Sh0 n))) 0 [some (.ref 16), some (.int l1)] [] (Sh0 n, A, L) := by
  unfold fX6_byMouth at h
  obtain ⟨r1, hc2, h⟩ := of_bind h
  refine y_mask <| x_aload rfl <| x_iload rfl <| x_push <| y_invV2 (Nat.le_of_ble_eq_true rfl) rfl (Nat.le_of_ble_eq_true rfl) <| jEv.exZ (q := 56) rfl (kX6_isOf _ _ _ _ _ _ hc2) <| fun hz3 => y_if_ne (fun h4 => ?_) (fun h4 => ?_)
  · replace h := of_neg h h4
    refine jWP.intro (pr := pX6_byMouth) (pc := 13) ?_
    refine y_mask <| x_push <| y_mask <| y_goto ?_
    refine jWP.intro (pr := pX6_byMouth) (pc := 14) ?_
    refine y_mri (bs := []) (ls := []) ?_
    obtain rfl := Option.some.inj h
    exact k3 (jnar_boolean (.inl rfl))
  · replace h := of_pos h h4
    refine jWP.intro (pr := pX6_byMouth) (pc := 9) ?_
    refine y_mask <| x_push <| y_mask <| y_goto ?_
    refine jWP.intro (pr := pX6_byMouth) (pc := 14) ?_
    refine y_mri (bs := []) (ls := []) ?_
    obtain rfl := Option.some.inj h
    exact k3 (jnar_boolean (.inr rfl))
theorem kX6_byMouth (d n : Nat) (A : Nat → Nat → Int32) (L : Nat → Nat → Int64) (l1 : Int32) {z : Int32} (h : fX6_byMouth A l1 = some z) : jEv jtab (d + 2) 57 [.ref 16, .int l1] (Sh0 n, A, L) 0 0 (fun r M2 => r = some (.int z) ∧ M2 = (Sh0 n, A, L)) :=
  jEv.mk (mt := mX6_byMouth) rfl (Nat.le_of_ble_eq_true rfl) (jWP.intro (pr := pX6_byMouth) (pc := 0) (tfX6_byMouth d n A L l1 h (fun hz => ⟨hz, jCn.mk ⟨rfl, rfl⟩⟩)))
set_option maxRecDepth 20000 in
theorem tfX6_rowed (d n : Nat) (A : Nat → Nat → Int32) (L : Nat → Nat → Int64) (l0 : Int32) (l1 : Int32) {Q : Option Value → jM → Prop} {z : Int32} (h : fX6_rowed l0 l1 = z) (k3 : Q (some (.int z)) (Sh0 n, A, L)) : pX6_rowed (jEv jtab (d + 0), jWP (jEv jtab (d + 0)) Q ((Sh0 n).length, jsl (Sh0 n)) pX6_rowed, Q, ((Sh0 n).length, jsl (Sh0 n))) 0 [some (.int l0), some (.int l1)] [] (Sh0 n, A, L) := by
  unfold fX6_rowed at h
  refine y_mask <| x_push <| x_iload rfl <| x_push <| x_iload rfl <| x_imul <| x_iadd <| y_mmin (Nat.le_of_ble_eq_true rfl) <| y_ireturn (ls := [some (.int l0), some (.int l1)]) ?_
  subst h
  exact k3
theorem kX6_rowed (d n : Nat) (A : Nat → Nat → Int32) (L : Nat → Nat → Int64) (l0 : Int32) (l1 : Int32) : jEv jtab (d + 1) 62 [.int l0, .int l1] (Sh0 n, A, L) 0 0 (fun r M2 => r = some (.int (fX6_rowed l0 l1)) ∧ M2 = (Sh0 n, A, L)) :=
  jEv.mk (mt := mX6_rowed) rfl (Nat.le_of_ble_eq_true rfl) (jWP.intro (pr := pX6_rowed) (pc := 0) (tfX6_rowed d n A L l0 l1 rfl ⟨trivial, jCn.mk ⟨rfl, rfl⟩⟩))
set_option maxRecDepth 20000 in
theorem tcX6_figured_16 (d n : Nat) (A : Nat → Nat → Int32) (L : Nat → Nat → Int64) (l1 : Int32) (l2 : Int32) (s : (Int32 × Int32)) {Q : Option Value → jM → Prop} {z : ((Int32 × Int32) ⊕ Int32)} (h : cX6_figured_16 l1 l2 s = some z) (k1 : ∀ s0, z = .inl s0 → pX6_figured (jEv jtab (d + 0), jWP (jEv jtab (d + 0)) Q ((Sh0 n).length, jsl (Sh0 n)) pX6_figured, Q, ((Sh0 n).length, jsl (Sh0 n))) 16 [none, some (.int l1), some (.int l2), some (.int s0.1), some (.int s0.2)] [] (Sh0 n, A, L)) (k2 : ∀ s0, z = .inr s0 → pX6_figured (jEv jtab (d + 0), jWP (jEv jtab (d + 0)) Q ((Sh0 n).length, jsl (Sh0 n)) pX6_figured, Q, ((Sh0 n).length, jsl (Sh0 n))) 35 [none, none, none, some (.int s0), none] [] (Sh0 n, A, L)) : pX6_figured (jEv jtab (d + 0), jWP (jEv jtab (d + 0)) Q ((Sh0 n).length, jsl (Sh0 n)) pX6_figured, Q, ((Sh0 n).length, jsl (Sh0 n))) 16 [none, some (.int l1), some (.int l2), some (.int s.1), some (.int s.2)] [] (Sh0 n, A, L) := by
  unfold cX6_figured_16 at h
  refine y_mask <| x_iload rfl <| x_iload rfl <| y_cmp_gt (fun h1 => ?_) (fun h1 => ?_)
  · replace h := of_pos h h1
    refine jWP.intro (pr := pX6_figured) (pc := 35) ?_
    have hk := k2 _ (Option.some.inj h).symm
    exact hk
  · replace h := of_neg h h1
    refine jWP.intro (pr := pX6_figured) (pc := 22) ?_
    refine y_mask <| x_iload rfl <| x_iload rfl <| x_imul <| x_push <| x_idiv (by decide) <| x_istore rfl <| x_iinc rfl rfl <| y_mask <| y_goto ?_
    refine jWP.intro (pr := pX6_figured) (pc := 16) ?_
    have hk := k1 _ (Option.some.inj h).symm
    exact hk
set_option maxRecDepth 20000 in
theorem tfX6_figured (d n : Nat) (A : Nat → Nat → Int32) (L : Nat → Nat → Int64) (l0 : Int32) (l1 : Int32) {Q : Option Value → jM → Prop} {z : Int32} (h : fX6_figured l0 l1 = some z) (k3 : Q (some (.int z)) (Sh0 n, A, L)) : pX6_figured (jEv jtab (d + 0), jWP (jEv jtab (d + 0)) Q ((Sh0 n).length, jsl (Sh0 n)) pX6_figured, Q, ((Sh0 n).length, jsl (Sh0 n))) 0 [some (.int l0), some (.int l1), none, none, none] [] (Sh0 n, A, L) := by
  unfold fX6_figured at h
  refine y_mask <| x_push <| x_iload rfl <| x_push <| x_iadd <| y_mmin (Nat.le_of_ble_eq_true rfl) <| x_istore rfl <| x_push <| x_istore rfl <| x_push <| x_istore rfl <| y_mask <| y_goto ?_
  obtain ⟨e1, hw2, h⟩ := of_bind h
  refine jWP.intro (pr := pX6_figured) (pc := 16) ?_
  refine jwh_use (G := (fun s0 => pX6_figured (jEv jtab (d + 0), jWP (jEv jtab (d + 0)) Q ((Sh0 n).length, jsl (Sh0 n)) pX6_figured, Q, ((Sh0 n).length, jsl (Sh0 n))) 16 [none, some (.int l1), some (.int (jmin (100 : Int32) (l0 + (10 : Int32)))), some (.int s0.1), some (.int s0.2)] [] (Sh0 n, A, L))) (Gx := (fun s0 => pX6_figured (jEv jtab (d + 0), jWP (jEv jtab (d + 0)) Q ((Sh0 n).length, jsl (Sh0 n)) pX6_figured, Q, ((Sh0 n).length, jsl (Sh0 n))) 35 [none, none, none, some (.int s0), none] [] (Sh0 n, A, L))) (fun s1 z1 hz kk1 kk2 => tcX6_figured_16 d n A L l1 (jmin (100 : Int32) (l0 + (10 : Int32))) s1 hz kk1 kk2) hw2 ?_
  refine y_mask <| x_iload rfl <| y_ireturn (ls := [none, none, none, some (.int e1), none]) ?_
  obtain rfl := Option.some.inj h
  exact k3
theorem kX6_figured (d n : Nat) (A : Nat → Nat → Int32) (L : Nat → Nat → Int64) (l0 : Int32) (l1 : Int32) {z : Int32} (h : fX6_figured l0 l1 = some z) : jEv jtab (d + 1) 63 [.int l0, .int l1] (Sh0 n, A, L) 0 0 (fun r M2 => r = some (.int z) ∧ M2 = (Sh0 n, A, L)) :=
  jEv.mk (mt := mX6_figured) rfl (Nat.le_of_ble_eq_true rfl) (jWP.intro (pr := pX6_figured) (pc := 0) (tfX6_figured d n A L l0 l1 h ⟨trivial, jCn.mk ⟨rfl, rfl⟩⟩))
set_option maxRecDepth 20000 in
theorem tfX6_twice (d n : Nat) (A : Nat → Nat → Int32) (L : Nat → Nat → Int64) (l0 : Int32) {Q : Option Value → jM → Prop} {z : Int32} (h : fX6_twice l0 = z) (k3 : Q (some (.int z)) (Sh0 n, A, L)) : pX6_twice (jEv jtab (d + 0), jWP (jEv jtab (d + 0)) Q ((Sh0 n).length, jsl (Sh0 n)) pX6_twice, Q, ((Sh0 n).length, jsl (Sh0 n))) 0 [some (.int l0)] [] (Sh0 n, A, L) := by
  unfold fX6_twice at h
  refine y_mask <| x_iload rfl <| x_push <| x_iload rfl <| x_isub <| x_iload rfl <| x_imul <| x_push <| x_idiv (by decide) <| x_iadd <| y_ireturn (ls := [some (.int l0)]) ?_
  subst h
  exact k3
theorem kX6_twice (d n : Nat) (A : Nat → Nat → Int32) (L : Nat → Nat → Int64) (l0 : Int32) : jEv jtab (d + 1) 64 [.int l0] (Sh0 n, A, L) 0 0 (fun r M2 => r = some (.int (fX6_twice l0)) ∧ M2 = (Sh0 n, A, L)) :=
  jEv.mk (mt := mX6_twice) rfl (Nat.le_of_ble_eq_true rfl) (jWP.intro (pr := pX6_twice) (pc := 0) (tfX6_twice d n A L l0 rfl ⟨trivial, jCn.mk ⟨rfl, rfl⟩⟩))
set_option maxRecDepth 20000 in
theorem tfX6_likelyBy (d n : Nat) (A : Nat → Nat → Int32) (L : Nat → Nat → Int64) (l1 : Int32) (l2 : Int32) (l3 : Int32) {Q : Option Value → jM → Prop} {z : Int32} (h : fX6_likelyBy A l1 l2 l3 = some z) (k3 : Q (some (.int z)) (Sh0 n, A, L)) : pX6_likelyBy (jEv jtab (d + 2), jWP (jEv jtab (d + 2)) Q ((Sh0 n).length, jsl (Sh0 n)) pX6_likelyBy, Q, ((Sh0 n).length, jsl (Sh0 n))) 0 [some (.ref 16), some (.int l1), some (.int l2), some (.int l3)] [] (Sh0 n, A, L) := by
  unfold fX6_likelyBy at h
  obtain ⟨g1, h⟩ := of_guard h
  refine y_mask <| x_aload rfl <| x_getR (Nat.le_of_ble_eq_true rfl) rfl rfl <| x_iload rfl <| x_iald rfl g1 <| y_sw (y_case (fun h2 => ?_) (fun h2 => y_case (fun h3 => ?_) (fun h3 => y_case (fun h4 => ?_) (fun h4 => y_case (fun h5 => ?_) (fun h5 => y_case (fun h6 => ?_) (fun h6 => y_dflt ?_))))))
  · replace h := of_pos h h2
    refine jWP.intro (pr := pX6_likelyBy) (pc := 40) ?_
    obtain ⟨g7, h⟩ := of_guard h
    refine y_mask <| x_iload rfl <| x_aload rfl <| x_getR (Nat.le_of_ble_eq_true rfl) rfl rfl <| x_iload rfl <| x_iald rfl g7 <| y_invS2 (Nat.le_of_ble_eq_true rfl) <| jEv.exI (kX6_rowed _ _ _ _ _ _) <| y_ireturn (ls := [some (.ref 16), some (.int l1), some (.int l2), none]) ?_
    obtain rfl := Option.some.inj h
    exact k3
  · replace h := of_neg h h2
    replace h := of_pos h h3
    refine jWP.intro (pr := pX6_likelyBy) (pc := 51) ?_
    obtain ⟨g8, h⟩ := of_guard h
    obtain ⟨r9, hc10, h⟩ := of_bind h
    refine y_mask <| x_iload rfl <| x_aload rfl <| x_getR (Nat.le_of_ble_eq_true rfl) rfl rfl <| x_iload rfl <| x_iald rfl g8 <| y_invS2 (Nat.le_of_ble_eq_true rfl) <| jEv.exI (kX6_figured _ _ _ _ _ _ hc10) <| y_ireturn (ls := [some (.ref 16), some (.int l1), some (.int l2), none]) ?_
    obtain rfl := Option.some.inj h
    exact k3
  · replace h := of_neg h h2
    replace h := of_neg h h3
    replace h := of_pos h h4
    refine jWP.intro (pr := pX6_likelyBy) (pc := 62) ?_
    obtain ⟨g11, h⟩ := of_guard h
    refine y_mask <| x_iload rfl <| x_aload rfl <| x_getR (Nat.le_of_ble_eq_true rfl) rfl rfl <| x_iload rfl <| x_iald rfl g11 <| y_invS2 (Nat.le_of_ble_eq_true rfl) <| jEv.exI (kX6_rowed _ _ _ _ _ _) <| y_invS1 (Nat.le_of_ble_eq_true rfl) <| jEv.exI (kX6_twice _ _ _ _ _) <| y_ireturn (ls := [some (.ref 16), some (.int l1), some (.int l2), none]) ?_
    obtain rfl := Option.some.inj h
    exact k3
  · replace h := of_neg h h2
    replace h := of_neg h h3
    replace h := of_neg h h4
    replace h := of_pos h h5
    refine jWP.intro (pr := pX6_likelyBy) (pc := 108) ?_
    refine y_mask <| x_iload rfl <| y_ireturn (ls := [none, some (.int l1), none, none]) ?_
    obtain rfl := Option.some.inj h
    exact k3
  · replace h := of_neg h h2
    replace h := of_neg h h3
    replace h := of_neg h h4
    replace h := of_neg h h5
    replace h := of_pos h h6
    refine jWP.intro (pr := pX6_likelyBy) (pc := 76) ?_
    obtain ⟨g12, h⟩ := of_guard h
    refine y_mask <| x_aload rfl <| x_getR (Nat.le_of_ble_eq_true rfl) rfl rfl <| x_aload rfl <| x_getI (Nat.le_of_ble_eq_true rfl) rfl rfl <| x_iload rfl <| y_invV2 (Nat.le_of_ble_eq_true rfl) rfl (Nat.le_of_ble_eq_true rfl) <| jEv.exI (kX4_far _ _ _ _ _ _) <| x_push <| x_aload rfl <| x_getR (Nat.le_of_ble_eq_true rfl) rfl rfl <| x_iload rfl <| x_iald rfl g12 <| x_imul <| y_cmp_gt (fun h13 => ?_) (fun h13 => ?_)
    · replace h := of_pos h h13
      refine jWP.intro (pr := pX6_likelyBy) (pc := 104) ?_
      refine y_mask <| x_iload rfl <| x_push <| x_idiv (by decide) <| y_mask <| y_goto ?_
      refine jWP.intro (pr := pX6_likelyBy) (pc := 107) ?_
      refine y_mri (bs := []) (ls := []) ?_
      obtain rfl := Option.some.inj h
      exact k3
    · replace h := of_neg h h13
      refine jWP.intro (pr := pX6_likelyBy) (pc := 99) ?_
      refine y_mask <| x_push <| y_mask <| y_goto ?_
      refine jWP.intro (pr := pX6_likelyBy) (pc := 107) ?_
      refine y_mri (bs := []) (ls := []) ?_
      obtain rfl := Option.some.inj h
      exact k3
  · replace h := of_neg h h2
    replace h := of_neg h h3
    replace h := of_neg h h4
    replace h := of_neg h h5
    replace h := of_neg h h6
    skip
    refine jWP.intro (pr := pX6_likelyBy) (pc := 108) ?_
    refine y_mask <| x_iload rfl <| y_ireturn (ls := [none, some (.int l1), none, none]) ?_
    obtain rfl := Option.some.inj h
    exact k3
theorem kX6_likelyBy (d n : Nat) (A : Nat → Nat → Int32) (L : Nat → Nat → Int64) (l1 : Int32) (l2 : Int32) (l3 : Int32) {z : Int32} (h : fX6_likelyBy A l1 l2 l3 = some z) : jEv jtab (d + 3) 61 [.ref 16, .int l1, .int l2, .int l3] (Sh0 n, A, L) 0 0 (fun r M2 => r = some (.int z) ∧ M2 = (Sh0 n, A, L)) :=
  jEv.mk (mt := mX6_likelyBy) rfl (Nat.le_of_ble_eq_true rfl) (jWP.intro (pr := pX6_likelyBy) (pc := 0) (tfX6_likelyBy d n A L l1 l2 l3 h ⟨trivial, jCn.mk ⟨rfl, rfl⟩⟩))
set_option maxRecDepth 20000 in
theorem tjX6_learn_59 (d n : Nat) (A : Nat → Nat → Int32) (L : Nat → Nat → Int64) (l1 : Int32) (l2 : Int32) (l3 : Int32) (s1 : Int32) (s4 : Int32) {Q : Option Value → jM → Prop} {z : (Int32 × (Nat → Nat → Int32))} (h : jX6_learn_59 A l1 l2 l3 s1 s4 = some z) (k3 : Q (some (.int z.1)) (Sh0 n, z.2, L)) : pX6_learn (jEv jtab (d + 3), jWP (jEv jtab (d + 3)) Q ((Sh0 n).length, jsl (Sh0 n)) pX6_learn, Q, ((Sh0 n).length, jsl (Sh0 n))) 59 [some (.ref 16), some (.int l1), some (.int l2), some (.int l3)] [.int s4, .ref 16, .ref 16, .int s1, .ref 52] (Sh0 n, A, L) := by
  unfold jX6_learn_59 at h
  obtain ⟨g1, h⟩ := of_guard h
  obtain ⟨r2, hc3, h⟩ := of_bind h
  obtain ⟨r4, hc5, h⟩ := of_bind h
  obtain ⟨g6, h⟩ := of_guard h
  obtain ⟨m7, hm8, h⟩ := of_bind h
  refine y_mask <| x_iload rfl <| x_aload rfl <| x_getR (Nat.le_of_ble_eq_true rfl) rfl rfl <| x_iload rfl <| x_iald rfl g1 <| y_invV3 (Nat.le_of_ble_eq_true rfl) rfl (Nat.le_of_ble_eq_true rfl) <| jEv.exI (kX6_lawSays _ _ _ _ _ _ _ hc3) <| x_iload rfl <| x_iload rfl <| y_invV3 (Nat.le_of_ble_eq_true rfl) rfl (Nat.le_of_ble_eq_true rfl) <| jEv.exI (kX6_likelyBy _ _ _ _ _ _ _ hc5) <| x_iast (Nat.le_of_ble_eq_true rfl) rfl g6 <| y_let (Option.some.inj hm8) <| y_mask <| y_goto ?_
  refine jWP.intro (pr := pX6_learn) (pc := 75) ?_
  refine y_mask <| x_iload rfl <| y_ireturn (ls := [none, none, none, some (.int l3)]) ?_
  obtain rfl := Option.some.inj h
  exact k3
set_option maxRecDepth 20000 in
theorem tfX6_learn (d n : Nat) (A : Nat → Nat → Int32) (L : Nat → Nat → Int64) (l1 : Int32) (l2 : Int32) {Q : Option Value → jM → Prop} {z : (Int32 × (Nat → Nat → Int32))} (h : fX6_learn A l1 l2 = some z) (k3 : Q (some (.int z.1)) (Sh0 n, z.2, L)) : pX6_learn (jEv jtab (d + 3), jWP (jEv jtab (d + 3)) Q ((Sh0 n).length, jsl (Sh0 n)) pX6_learn, Q, ((Sh0 n).length, jsl (Sh0 n))) 0 [some (.ref 16), some (.int l1), some (.int l2), none] [] (Sh0 n, A, L) := by
  unfold fX6_learn at h
  obtain ⟨g1, h⟩ := of_guard h
  refine y_mask <| x_iload rfl <| x_push <| x_imul <| x_iload rfl <| x_iadd <| x_istore rfl <| x_aload rfl <| x_getR (Nat.le_of_ble_eq_true rfl) rfl rfl <| x_iload rfl <| x_iald rfl g1 <| y_if_ne (fun h2 => ?_) (fun h2 => ?_)
  · replace h := of_neg h h2
    refine jWP.intro (pr := pX6_learn) (pc := 75) ?_
    refine y_mask <| x_iload rfl <| y_ireturn (ls := [none, none, none, some (.int ((l1 * (12 : Int32)) + l2))]) ?_
    obtain rfl := Option.some.inj h
    exact k3
  · replace h := of_pos h h2
    refine jWP.intro (pr := pX6_learn) (pc := 16) ?_
    obtain ⟨g3, h⟩ := of_guard h
    obtain ⟨r4, hc5, h⟩ := of_bind h
    obtain ⟨r6, hc7, h⟩ := of_bind h
    obtain ⟨g8, h⟩ := of_guard h
    obtain ⟨m9, hm10, h⟩ := of_bind h
    obtain ⟨r11, hc12, h⟩ := of_bind h
    refine y_mask <| x_aload rfl <| x_getR (Nat.le_of_ble_eq_true rfl) rfl rfl <| x_iload rfl <| x_aload rfl <| x_aload rfl <| x_push <| x_iload rfl <| x_aload rfl <| x_getR (Nat.le_of_ble_eq_true rfl) rfl rfl <| x_iload rfl <| x_iald rfl g3 <| y_invV3 (Nat.le_of_ble_eq_true rfl) rfl (Nat.le_of_ble_eq_true rfl) <| jEv.exI (kX6_lawSays _ _ _ _ _ _ _ hc5) <| x_iload rfl <| y_invV2 (Nat.le_of_ble_eq_true rfl) rfl (Nat.le_of_ble_eq_true rfl) <| jEv.exI (kX6_takesBy _ _ _ _ _ _ hc7) <| x_iast (Nat.le_of_ble_eq_true rfl) rfl g8 <| y_let (Option.some.inj hm10) <| x_aload rfl <| x_getR (Nat.le_of_ble_eq_true rfl) rfl rfl <| x_iload rfl <| x_aload rfl <| x_aload rfl <| x_aload rfl <| x_iload rfl <| y_invV1 (Nat.le_of_ble_eq_true rfl) rfl (Nat.le_of_ble_eq_true rfl) <| jEv.exZ (q := 57) rfl (kX6_byMouth _ _ _ _ _ hc12) <| fun hz13 => y_if_eq (fun h14 => ?_) (fun h14 => ?_)
    · replace h := of_pos h h14
      refine jWP.intro (pr := pX6_learn) (pc := 58) ?_
      refine y_mask <| x_push <| y_mask <| y_goto ?_
      refine jWP.intro (pr := pX6_learn) (pc := 59) ?_
      exact tjX6_learn_59 d n m9 L l1 l2 ((l1 * (12 : Int32)) + l2) ((l1 * (12 : Int32)) + l2) (1 : Int32) h k3
    · replace h := of_neg h h14
      refine jWP.intro (pr := pX6_learn) (pc := 54) ?_
      refine y_mask <| x_push <| y_mask <| y_goto ?_
      refine jWP.intro (pr := pX6_learn) (pc := 59) ?_
      exact tjX6_learn_59 d n m9 L l1 l2 ((l1 * (12 : Int32)) + l2) ((l1 * (12 : Int32)) + l2) (0 : Int32) h k3
theorem kX6_learn (d n : Nat) (A : Nat → Nat → Int32) (L : Nat → Nat → Int64) (l1 : Int32) (l2 : Int32) {z : (Int32 × (Nat → Nat → Int32))} (h : fX6_learn A l1 l2 = some z) : jEv jtab (d + 4) 60 [.ref 16, .int l1, .int l2] (Sh0 n, A, L) 0 0 (fun r M2 => r = some (.int z.1) ∧ M2 = (Sh0 n, z.2, L)) :=
  jEv.mk (mt := mX6_learn) rfl (Nat.le_of_ble_eq_true rfl) (jWP.intro (pr := pX6_learn) (pc := 0) (tfX6_learn d n A L l1 l2 h ⟨trivial, jCn.mk ⟨rfl, rfl⟩⟩))
set_option maxRecDepth 20000 in
theorem tfX10_told (d n : Nat) (A : Nat → Nat → Int32) (L : Nat → Nat → Int64) (l1 : Int32) (l2 : Int32) (l3 : Int32) {Q : Option Value → jM → Prop} {z : (Int32 × (Nat → Nat → Int32))} (h : fX10_told A l1 l2 l3 = some z) (k3 : Q (some (.int z.1)) (Sh0 n, z.2, L)) : pX10_told (jEv jtab (d + 4), jWP (jEv jtab (d + 4)) Q ((Sh0 n).length, jsl (Sh0 n)) pX10_told, Q, ((Sh0 n).length, jsl (Sh0 n))) 0 [some (.ref 15), some (.int l1), some (.int l2), some (.int l3)] [] (Sh0 n, A, L) := by
  unfold fX10_told at h
  refine y_mask <| x_iload rfl <| x_push <| x_aload rfl <| x_getR (Nat.le_of_ble_eq_true rfl) rfl rfl <| x_getI (Nat.le_of_ble_eq_true rfl) rfl rfl <| x_push <| x_isub <| y_invS3 (Nat.le_of_ble_eq_true rfl) <| jEv.exZ (q := 152) rfl (kX10_within _ _ _ _ _ _ _) <| fun hz1 => y_if_ne (fun h2 => ?_) (fun h2 => ?_)
  · replace h := of_neg h h2
    refine jWP.intro (pr := pX10_told) (pc := 20) ?_
    refine y_mask <| x_aload rfl <| x_getR (Nat.le_of_ble_eq_true rfl) rfl rfl <| x_getR (Nat.le_of_ble_eq_true rfl) rfl rfl <| x_iload rfl <| y_invV1 (Nat.le_of_ble_eq_true rfl) rfl (Nat.le_of_ble_eq_true rfl) <| jEv.exZ (q := 37) rfl (kX4_hasMinute _ _ _ _ _) <| fun hz3 => y_if_ne (fun h4 => ?_) (fun h4 => ?_)
    · replace h := of_neg h h4
      refine jWP.intro (pr := pX10_told) (pc := 37) ?_
      obtain ⟨r5, hc6, h⟩ := of_bind h
      refine y_mask <| x_aload rfl <| x_getR (Nat.le_of_ble_eq_true rfl) rfl rfl <| x_aload rfl <| x_getR (Nat.le_of_ble_eq_true rfl) rfl rfl <| x_getR (Nat.le_of_ble_eq_true rfl) rfl rfl <| y_invV0 (Nat.le_of_ble_eq_true rfl) rfl (Nat.le_of_ble_eq_true rfl) <| jEv.exI (kX4_near _ _ _ _) <| y_invV1 (Nat.le_of_ble_eq_true rfl) rfl (Nat.le_of_ble_eq_true rfl) <| jEv.exV (kX6_sailBy _ _ _ _ _ hc6) <| x_iload rfl <| y_sw (y_case (fun h7 => ?_) (fun h7 => y_case (fun h8 => ?_) (fun h8 => y_case (fun h9 => ?_) (fun h9 => y_case (fun h10 => ?_) (fun h10 => y_case (fun h11 => ?_) (fun h11 => y_case (fun h12 => ?_) (fun h12 => y_dflt ?_)))))))
      · replace h := of_pos h h7
        refine jWP.intro (pr := pX10_told) (pc := 92) ?_
        obtain ⟨g13, h⟩ := of_guard h
        refine y_mask <| x_aload rfl <| x_getR (Nat.le_of_ble_eq_true rfl) rfl rfl <| x_getR (Nat.le_of_ble_eq_true rfl) rfl rfl <| x_iload rfl <| x_iald rfl g13 <| y_ireturn (ls := [some (.ref 15), some (.int l1), none, none]) ?_
        obtain rfl := Option.some.inj h
        exact k3
      · replace h := of_neg h h7
        replace h := of_pos h h8
        refine jWP.intro (pr := pX10_told) (pc := 102) ?_
        obtain ⟨g14, h⟩ := of_guard h
        refine y_mask <| x_aload rfl <| x_getR (Nat.le_of_ble_eq_true rfl) rfl rfl <| x_getR (Nat.le_of_ble_eq_true rfl) rfl rfl <| x_iload rfl <| x_iald rfl g14 <| y_ireturn (ls := [some (.ref 15), some (.int l1), none, none]) ?_
        obtain rfl := Option.some.inj h
        exact k3
      · replace h := of_neg h h7
        replace h := of_neg h h8
        replace h := of_pos h h9
        refine jWP.intro (pr := pX10_told) (pc := 112) ?_
        obtain ⟨g15, h⟩ := of_guard h
        refine y_mask <| x_aload rfl <| x_getR (Nat.le_of_ble_eq_true rfl) rfl rfl <| x_getR (Nat.le_of_ble_eq_true rfl) rfl rfl <| x_iload rfl <| x_iald rfl g15 <| y_ireturn (ls := [some (.ref 15), some (.int l1), none, none]) ?_
        obtain rfl := Option.some.inj h
        exact k3
      · replace h := of_neg h h7
        replace h := of_neg h h8
        replace h := of_neg h h9
        replace h := of_pos h h10
        refine jWP.intro (pr := pX10_told) (pc := 122) ?_
        obtain ⟨r16, hc17, h⟩ := of_bind h
        obtain ⟨g18, h⟩ := of_guard h
        refine y_mask <| x_aload rfl <| x_getR (Nat.le_of_ble_eq_true rfl) rfl rfl <| x_getR (Nat.le_of_ble_eq_true rfl) rfl rfl <| x_aload rfl <| x_getR (Nat.le_of_ble_eq_true rfl) rfl rfl <| x_iload rfl <| x_iload rfl <| y_invV2 (Nat.le_of_ble_eq_true rfl) rfl (Nat.le_of_ble_eq_true rfl) <| jEv.exI (kX6_learn _ _ _ _ _ _ hc17) <| x_iald rfl g18 <| y_ireturn (ls := [some (.ref 15), some (.int l1), some (.int l2), none]) ?_
        obtain rfl := Option.some.inj h
        exact k3
      · replace h := of_neg h h7
        replace h := of_neg h h8
        replace h := of_neg h h9
        replace h := of_neg h h10
        replace h := of_pos h h11
        refine jWP.intro (pr := pX10_told) (pc := 140) ?_
        obtain ⟨r19, hc20, h⟩ := of_bind h
        obtain ⟨g21, h⟩ := of_guard h
        refine y_mask <| x_aload rfl <| x_getR (Nat.le_of_ble_eq_true rfl) rfl rfl <| x_getR (Nat.le_of_ble_eq_true rfl) rfl rfl <| x_aload rfl <| x_getR (Nat.le_of_ble_eq_true rfl) rfl rfl <| x_iload rfl <| x_iload rfl <| y_invV2 (Nat.le_of_ble_eq_true rfl) rfl (Nat.le_of_ble_eq_true rfl) <| jEv.exI (kX6_learn _ _ _ _ _ _ hc20) <| x_iald rfl g21 <| y_ireturn (ls := [some (.ref 15), some (.int l1), some (.int l2), none]) ?_
        obtain rfl := Option.some.inj h
        exact k3
      · replace h := of_neg h h7
        replace h := of_neg h h8
        replace h := of_neg h h9
        replace h := of_neg h h10
        replace h := of_neg h h11
        replace h := of_pos h h12
        refine jWP.intro (pr := pX10_told) (pc := 158) ?_
        obtain ⟨r22, hc23, h⟩ := of_bind h
        refine y_mask <| x_aload rfl <| x_getR (Nat.le_of_ble_eq_true rfl) rfl rfl <| x_iload rfl <| y_invV1 (Nat.le_of_ble_eq_true rfl) rfl (Nat.le_of_ble_eq_true rfl) <| jEv.exZ (q := 57) rfl (kX6_byMouth _ _ _ _ _ hc23) <| fun hz24 => y_if_eq (fun h25 => ?_) (fun h25 => ?_)
        · replace h := of_pos h h25
          refine jWP.intro (pr := pX10_told) (pc := 173) ?_
          refine y_mask <| x_push <| y_mask <| y_goto ?_
          refine jWP.intro (pr := pX10_told) (pc := 174) ?_
          refine y_mri (bs := []) (ls := []) ?_
          obtain rfl := Option.some.inj h
          exact k3
        · replace h := of_neg h h25
          refine jWP.intro (pr := pX10_told) (pc := 169) ?_
          refine y_mask <| x_push <| y_mask <| y_goto ?_
          refine jWP.intro (pr := pX10_told) (pc := 174) ?_
          refine y_mri (bs := []) (ls := []) ?_
          obtain rfl := Option.some.inj h
          exact k3
      · replace h := of_neg h h7
        replace h := of_neg h h8
        replace h := of_neg h h9
        replace h := of_neg h h10
        replace h := of_neg h h11
        replace h := of_neg h h12
        skip
        refine jWP.intro (pr := pX10_told) (pc := 175) ?_
        refine y_mpri (bs := []) (ls := []) ?_
        obtain rfl := Option.some.inj h
        exact k3
    · replace h := of_pos h h4
      refine jWP.intro (pr := pX10_told) (pc := 34) ?_
      refine y_mpri (bs := []) (ls := []) ?_
      obtain rfl := Option.some.inj h
      exact k3
  · replace h := of_pos h h2
    refine jWP.intro (pr := pX10_told) (pc := 17) ?_
    refine y_mpri (bs := []) (ls := []) ?_
    obtain rfl := Option.some.inj h
    exact k3
theorem kX10_told (d n : Nat) (A : Nat → Nat → Int32) (L : Nat → Nat → Int64) (l1 : Int32) (l2 : Int32) (l3 : Int32) {z : (Int32 × (Nat → Nat → Int32))} (h : fX10_told A l1 l2 l3 = some z) : jEv jtab (d + 5) 117 [.ref 15, .int l1, .int l2, .int l3] (Sh0 n, A, L) 0 0 (fun r M2 => r = some (.int z.1) ∧ M2 = (Sh0 n, z.2, L)) :=
  jEv.mk (mt := mX10_told) rfl (Nat.le_of_ble_eq_true rfl) (jWP.intro (pr := pX10_told) (pc := 0) (tfX10_told d n A L l1 l2 l3 h ⟨trivial, jCn.mk ⟨rfl, rfl⟩⟩))
set_option maxRecDepth 20000 in
theorem tcX6_orderWithout_4 (d n : Nat) (A : Nat → Nat → Int32) (L : Nat → Nat → Int64) (l1 : Int32) (s : (Int32 × Int32 × (Nat → Nat → Int32))) {Q : Option Value → jM → Prop} {z : ((Int32 × Int32 × (Nat → Nat → Int32)) ⊕ (Int32 × (Nat → Nat → Int32)))} (h : cX6_orderWithout_4 l1 s = some z) (k1 : ∀ s0, z = .inl s0 → pX6_orderWithout (jEv jtab (d + 0), jWP (jEv jtab (d + 0)) Q ((Sh0 n).length, jsl (Sh0 n)) pX6_orderWithout, Q, ((Sh0 n).length, jsl (Sh0 n))) 4 [some (.ref 16), some (.int l1), some (.int s0.1), some (.int s0.2.1)] [] (Sh0 n, s0.2.2, L)) (k2 : ∀ s0, z = .inr s0 → pX6_orderWithout (jEv jtab (d + 0), jWP (jEv jtab (d + 0)) Q ((Sh0 n).length, jsl (Sh0 n)) pX6_orderWithout, Q, ((Sh0 n).length, jsl (Sh0 n))) 33 [none, none, some (.int s0.1), none] [] (Sh0 n, s0.2, L)) : pX6_orderWithout (jEv jtab (d + 0), jWP (jEv jtab (d + 0)) Q ((Sh0 n).length, jsl (Sh0 n)) pX6_orderWithout, Q, ((Sh0 n).length, jsl (Sh0 n))) 4 [some (.ref 16), some (.int l1), some (.int s.1), some (.int s.2.1)] [] (Sh0 n, s.2.2, L) := by
  unfold cX6_orderWithout_4 at h
  refine y_mask <| x_iload rfl <| x_aload rfl <| x_getI (Nat.le_of_ble_eq_true rfl) rfl rfl <| y_cmp_ge (fun h1 => ?_) (fun h1 => ?_)
  · replace h := of_pos h h1
    refine jWP.intro (pr := pX6_orderWithout) (pc := 33) ?_
    have hk := k2 _ (Option.some.inj h).symm
    exact hk
  · replace h := of_neg h h1
    refine jWP.intro (pr := pX6_orderWithout) (pc := 12) ?_
    refine y_mask <| x_iload rfl <| x_iload rfl <| y_cmp_eq (fun h2 => ?_) (fun h2 => ?_)
    · replace h := of_pos h h2
      refine jWP.intro (pr := pX6_orderWithout) (pc := 27) ?_
      refine y_mask <| x_iinc rfl rfl <| y_mask <| y_goto ?_
      refine jWP.intro (pr := pX6_orderWithout) (pc := 4) ?_
      have hk := k1 _ (Option.some.inj h).symm
      exact hk
    · replace h := of_neg h h2
      refine jWP.intro (pr := pX6_orderWithout) (pc := 17) ?_
      obtain ⟨g3, h⟩ := of_guard h
      obtain ⟨m4, hm5, h⟩ := of_bind h
      refine y_mask <| x_aload rfl <| x_getR (Nat.le_of_ble_eq_true rfl) rfl rfl <| x_iload rfl <| x_iload rfl <| x_iast (Nat.le_of_ble_eq_true rfl) rfl g3 <| y_let (Option.some.inj hm5) <| x_iinc rfl rfl <| y_mask <| y_goto ?_
      refine jWP.intro (pr := pX6_orderWithout) (pc := 27) ?_
      refine y_mask <| x_iinc rfl rfl <| y_mask <| y_goto ?_
      refine jWP.intro (pr := pX6_orderWithout) (pc := 4) ?_
      have hk := k1 _ (Option.some.inj h).symm
      exact hk
set_option maxRecDepth 20000 in
theorem tfX6_orderWithout (d n : Nat) (A : Nat → Nat → Int32) (L : Nat → Nat → Int64) (l1 : Int32) {Q : Option Value → jM → Prop} {z : (Int32 × (Nat → Nat → Int32))} (h : fX6_orderWithout A l1 = some z) (k3 : Q (some (.int z.1)) (Sh0 n, z.2, L)) : pX6_orderWithout (jEv jtab (d + 0), jWP (jEv jtab (d + 0)) Q ((Sh0 n).length, jsl (Sh0 n)) pX6_orderWithout, Q, ((Sh0 n).length, jsl (Sh0 n))) 0 [some (.ref 16), some (.int l1), none, none] [] (Sh0 n, A, L) := by
  unfold fX6_orderWithout at h
  refine y_mask <| x_push <| x_istore rfl <| x_push <| x_istore rfl <| y_mask <| y_goto ?_
  obtain ⟨e1, hw2, h⟩ := of_bind h
  refine jWP.intro (pr := pX6_orderWithout) (pc := 4) ?_
  refine jwh_use (G := (fun s0 => pX6_orderWithout (jEv jtab (d + 0), jWP (jEv jtab (d + 0)) Q ((Sh0 n).length, jsl (Sh0 n)) pX6_orderWithout, Q, ((Sh0 n).length, jsl (Sh0 n))) 4 [some (.ref 16), some (.int l1), some (.int s0.1), some (.int s0.2.1)] [] (Sh0 n, s0.2.2, L))) (Gx := (fun s0 => pX6_orderWithout (jEv jtab (d + 0), jWP (jEv jtab (d + 0)) Q ((Sh0 n).length, jsl (Sh0 n)) pX6_orderWithout, Q, ((Sh0 n).length, jsl (Sh0 n))) 33 [none, none, some (.int s0.1), none] [] (Sh0 n, s0.2, L))) (fun s1 z1 hz kk1 kk2 => tcX6_orderWithout_4 d n A L l1 s1 hz kk1 kk2) hw2 ?_
  refine y_mask <| x_iload rfl <| y_ireturn (ls := [none, none, some (.int e1.1), none]) ?_
  obtain rfl := Option.some.inj h
  exact k3
theorem kX6_orderWithout (d n : Nat) (A : Nat → Nat → Int32) (L : Nat → Nat → Int64) (l1 : Int32) {z : (Int32 × (Nat → Nat → Int32))} (h : fX6_orderWithout A l1 = some z) : jEv jtab (d + 1) 68 [.ref 16, .int l1] (Sh0 n, A, L) 0 0 (fun r M2 => r = some (.int z.1) ∧ M2 = (Sh0 n, z.2, L)) :=
  jEv.mk (mt := mX6_orderWithout) rfl (Nat.le_of_ble_eq_true rfl) (jWP.intro (pr := pX6_orderWithout) (pc := 0) (tfX6_orderWithout d n A L l1 h ⟨trivial, jCn.mk ⟨rfl, rfl⟩⟩))
set_option maxRecDepth 20000 in
theorem tcX6_worthHad_4 (d n : Nat) (A : Nat → Nat → Int32) (L : Nat → Nat → Int64) (s : (Int64 × Int32)) {Q : Option Value → jM → Prop} {z : ((Int64 × Int32) ⊕ Int64)} (h : cX6_worthHad_4 A s = some z) (k1 : ∀ s0, z = .inl s0 → pX6_worthHad (jEv jtab (d + 0), jWP (jEv jtab (d + 0)) Q ((Sh0 n).length, jsl (Sh0 n)) pX6_worthHad, Q, ((Sh0 n).length, jsl (Sh0 n))) 4 [some (.ref 16), some (.long s0.1), none, some (.int s0.2)] [] (Sh0 n, A, L)) (k2 : ∀ s0, z = .inr s0 → pX6_worthHad (jEv jtab (d + 0), jWP (jEv jtab (d + 0)) Q ((Sh0 n).length, jsl (Sh0 n)) pX6_worthHad, Q, ((Sh0 n).length, jsl (Sh0 n))) 40 [none, some (.long s0), none, none] [] (Sh0 n, A, L)) : pX6_worthHad (jEv jtab (d + 0), jWP (jEv jtab (d + 0)) Q ((Sh0 n).length, jsl (Sh0 n)) pX6_worthHad, Q, ((Sh0 n).length, jsl (Sh0 n))) 4 [some (.ref 16), some (.long s.1), none, some (.int s.2)] [] (Sh0 n, A, L) := by
  unfold cX6_worthHad_4 at h
  refine y_mask <| x_iload rfl <| x_push <| y_cmp_ge (fun h1 => ?_) (fun h1 => ?_)
  · replace h := of_pos h h1
    refine jWP.intro (pr := pX6_worthHad) (pc := 40) ?_
    have hk := k2 _ (Option.some.inj h).symm
    exact hk
  · replace h := of_neg h h1
    refine jWP.intro (pr := pX6_worthHad) (pc := 10) ?_
    obtain ⟨g2, h⟩ := of_guard h
    obtain ⟨g3, h⟩ := of_guard h
    refine y_mask <| x_lload rfl <| x_push <| x_aload rfl <| x_getR (Nat.le_of_ble_eq_true rfl) rfl rfl <| x_iload rfl <| x_iald rfl g2 <| x_isub <| x_i2l <| x_aload rfl <| x_getR (Nat.le_of_ble_eq_true rfl) rfl rfl <| x_getR (Nat.le_of_ble_eq_true rfl) rfl rfl <| x_iload rfl <| x_iald rfl g3 <| x_i2l <| x_lmul <| x_ladd <| x_lstore rfl <| x_iinc rfl rfl <| y_mask <| y_goto ?_
    refine jWP.intro (pr := pX6_worthHad) (pc := 4) ?_
    have hk := k1 _ (Option.some.inj h).symm
    exact hk
set_option maxRecDepth 20000 in
theorem tfX6_worthHad (d n : Nat) (A : Nat → Nat → Int32) (L : Nat → Nat → Int64) {Q : Option Value → jM → Prop} {z : Int64} (h : fX6_worthHad A = some z) (k3 : Q (some (.long z)) (Sh0 n, A, L)) : pX6_worthHad (jEv jtab (d + 0), jWP (jEv jtab (d + 0)) Q ((Sh0 n).length, jsl (Sh0 n)) pX6_worthHad, Q, ((Sh0 n).length, jsl (Sh0 n))) 0 [some (.ref 16), none, none, none] [] (Sh0 n, A, L) := by
  unfold fX6_worthHad at h
  refine y_mask <| x_push <| x_lstore rfl <| x_push <| x_istore rfl <| y_mask <| y_goto ?_
  obtain ⟨e1, hw2, h⟩ := of_bind h
  refine jWP.intro (pr := pX6_worthHad) (pc := 4) ?_
  refine jwh_use (G := (fun s0 => pX6_worthHad (jEv jtab (d + 0), jWP (jEv jtab (d + 0)) Q ((Sh0 n).length, jsl (Sh0 n)) pX6_worthHad, Q, ((Sh0 n).length, jsl (Sh0 n))) 4 [some (.ref 16), some (.long s0.1), none, some (.int s0.2)] [] (Sh0 n, A, L))) (Gx := (fun s0 => pX6_worthHad (jEv jtab (d + 0), jWP (jEv jtab (d + 0)) Q ((Sh0 n).length, jsl (Sh0 n)) pX6_worthHad, Q, ((Sh0 n).length, jsl (Sh0 n))) 40 [none, some (.long s0), none, none] [] (Sh0 n, A, L))) (fun s1 z1 hz kk1 kk2 => tcX6_worthHad_4 d n A L s1 hz kk1 kk2) hw2 ?_
  refine y_mask <| x_lload rfl <| y_lreturn (ls := [none, some (.long e1), none, none]) ?_
  obtain rfl := Option.some.inj h
  exact k3
theorem kX6_worthHad (d n : Nat) (A : Nat → Nat → Int32) (L : Nat → Nat → Int64) {z : Int64} (h : fX6_worthHad A = some z) : jEv jtab (d + 1) 71 [.ref 16] (Sh0 n, A, L) 0 0 (fun r M2 => r = some (.long z) ∧ M2 = (Sh0 n, A, L)) :=
  jEv.mk (mt := mX6_worthHad) rfl (Nat.le_of_ble_eq_true rfl) (jWP.intro (pr := pX6_worthHad) (pc := 0) (tfX6_worthHad d n A L h ⟨trivial, jCn.mk ⟨rfl, rfl⟩⟩))
set_option maxRecDepth 20000 in
theorem tcX6_walk_43 (d n : Nat) (A : Nat → Nat → Int32) (L : Nat → Nat → Int64) (l1 : Int32) (l2 : Int32) (s : (Int32 × Int32 × (Nat → Nat → Int32))) {Q : Option Value → jM → Prop} {z : ((Int32 × Int32 × (Nat → Nat → Int32)) ⊕ (Nat → Nat → Int32))} (h : cX6_walk_43 l1 l2 s = some z) (k1 : ∀ s0, z = .inl s0 → pX6_walk (jEv jtab (d + 4), jWP (jEv jtab (d + 4)) Q ((Sh0 n).length, jsl (Sh0 n)) pX6_walk, Q, ((Sh0 n).length, jsl (Sh0 n))) 43 [some (.ref 16), some (.int l1), some (.int l2), some (.int s0.1), some (.int s0.2.1), none, none, none] [] (Sh0 n, s0.2.2, L)) (k2 : ∀ s0, z = .inr s0 → pX6_walk (jEv jtab (d + 4), jWP (jEv jtab (d + 4)) Q ((Sh0 n).length, jsl (Sh0 n)) pX6_walk, Q, ((Sh0 n).length, jsl (Sh0 n))) 168 [some (.ref 16), none, none, none, none, none, none, none] [] (Sh0 n, s0, L)) : pX6_walk (jEv jtab (d + 4), jWP (jEv jtab (d + 4)) Q ((Sh0 n).length, jsl (Sh0 n)) pX6_walk, Q, ((Sh0 n).length, jsl (Sh0 n))) 43 [some (.ref 16), some (.int l1), some (.int l2), some (.int s.1), some (.int s.2.1), none, none, none] [] (Sh0 n, s.2.2, L) := by
  unfold cX6_walk_43 at h
  refine y_mask <| x_iload rfl <| x_iload rfl <| y_cmp_ge (fun h1 => ?_) (fun h1 => ?_)
  · replace h := of_pos h h1
    refine jWP.intro (pr := pX6_walk) (pc := 168) ?_
    have hk := k2 _ (Option.some.inj h).symm
    exact hk
  · replace h := of_neg h h1
    refine jWP.intro (pr := pX6_walk) (pc := 49) ?_
    refine y_mask <| x_iload rfl <| x_iload rfl <| y_cmp_ge (fun h2 => ?_) (fun h2 => ?_)
    · replace h := of_pos h h2
      refine jWP.intro (pr := pX6_walk) (pc := 168) ?_
      have hk := k2 _ (Option.some.inj h).symm
      exact hk
    · replace h := of_neg h h2
      refine jWP.intro (pr := pX6_walk) (pc := 54) ?_
      obtain ⟨g3, h⟩ := of_guard h
      obtain ⟨g4, h⟩ := of_guard h
      obtain ⟨m5, hm6, h⟩ := of_bind h
      obtain ⟨r7, hc8, h⟩ := of_bind h
      obtain ⟨g9, h⟩ := of_guard h
      refine y_mask <| x_aload rfl <| x_getR (Nat.le_of_ble_eq_true rfl) rfl rfl <| x_iload rfl <| x_iald rfl g3 <| x_istore rfl <| x_aload rfl <| x_getR (Nat.le_of_ble_eq_true rfl) rfl rfl <| x_iload rfl <| x_iload rfl <| x_iast (Nat.le_of_ble_eq_true rfl) rfl g4 <| y_let (Option.some.inj hm6) <| x_aload rfl <| x_iload rfl <| x_iload rfl <| y_invV2 (Nat.le_of_ble_eq_true rfl) rfl (Nat.le_of_ble_eq_true rfl) <| jEv.exI (kX6_learn _ _ _ _ _ _ hc8) <| x_istore rfl <| x_iload rfl <| x_aload rfl <| x_getR (Nat.le_of_ble_eq_true rfl) rfl rfl <| x_iload rfl <| x_iald rfl g9 <| x_iadd <| x_istore rfl <| x_iload rfl <| x_iload rfl <| y_cmp_gt (fun h10 => ?_) (fun h10 => ?_)
      · replace h := of_pos h h10
        refine jWP.intro (pr := pX6_walk) (pc := 159) ?_
        refine y_mask <| x_iload rfl <| x_istore rfl <| x_iinc rfl rfl <| y_mask <| y_goto ?_
        refine jWP.intro (pr := pX6_walk) (pc := 43) ?_
        have hk := k1 _ (Option.some.inj h).symm
        exact hk
      · replace h := of_neg h h10
        refine jWP.intro (pr := pX6_walk) (pc := 97) ?_
        obtain ⟨g11, h⟩ := of_guard h
        obtain ⟨g12, h⟩ := of_guard h
        obtain ⟨m13, hm14, h⟩ := of_bind h
        obtain ⟨g15, h⟩ := of_guard h
        obtain ⟨g16, h⟩ := of_guard h
        obtain ⟨g17, h⟩ := of_guard h
        obtain ⟨g18, h⟩ := of_guard h
        obtain ⟨g19, h⟩ := of_guard h
        obtain ⟨m20, hm21, h⟩ := of_bind h
        refine y_mask <| x_aload rfl <| x_getR (Nat.le_of_ble_eq_true rfl) rfl rfl <| x_iload rfl <| x_aload rfl <| x_getR (Nat.le_of_ble_eq_true rfl) rfl rfl <| x_iload rfl <| x_iald rfl g11 <| x_iast (Nat.le_of_ble_eq_true rfl) rfl g12 <| y_let (Option.some.inj hm14) <| x_aload rfl <| x_getR (Nat.le_of_ble_eq_true rfl) rfl rfl <| x_aload rfl <| x_getR (Nat.le_of_ble_eq_true rfl) rfl rfl <| x_iload rfl <| x_iald rfl g15 <| x_aload rfl <| x_getR (Nat.le_of_ble_eq_true rfl) rfl rfl <| x_aload rfl <| x_getR (Nat.le_of_ble_eq_true rfl) rfl rfl <| x_iload rfl <| x_iald rfl g16 <| x_iald rfl g17 <| x_push <| x_aload rfl <| x_getR (Nat.le_of_ble_eq_true rfl) rfl rfl <| x_iload rfl <| x_iald rfl g18 <| x_isub <| x_imul <| x_push <| x_idiv (by decide) <| x_iast (Nat.le_of_ble_eq_true rfl) rfl g19 <| y_let (Option.some.inj hm21) <| x_aload rfl <| x_dup rfl <| x_getI (Nat.le_of_ble_eq_true rfl) rfl rfl <| x_push <| x_iadd <| x_putI (Nat.le_of_ble_eq_true rfl) rfl rfl <| y_mask <| y_goto ?_
        refine jWP.intro (pr := pX6_walk) (pc := 159) ?_
        refine y_mask <| x_iload rfl <| x_istore rfl <| x_iinc rfl rfl <| y_mask <| y_goto ?_
        refine jWP.intro (pr := pX6_walk) (pc := 43) ?_
        have hk := k1 _ (Option.some.inj h).symm
        exact hk
set_option maxRecDepth 20000 in
theorem tfX6_walk (d n : Nat) (A : Nat → Nat → Int32) (L : Nat → Nat → Int64) (l1 : Int32) {Q : Option Value → jM → Prop} {z : (Int64 × (Nat → Nat → Int32))} (h : fX6_walk A l1 = some z) (k3 : Q (some (.long z.1)) (Sh0 n, z.2, L)) : pX6_walk (jEv jtab (d + 4), jWP (jEv jtab (d + 4)) Q ((Sh0 n).length, jsl (Sh0 n)) pX6_walk, Q, ((Sh0 n).length, jsl (Sh0 n))) 0 [some (.ref 16), some (.int l1), none, none, none, none, none, none] [] (Sh0 n, A, L) := by
  unfold fX6_walk at h
  obtain ⟨r1, hc2, h⟩ := of_bind h
  obtain ⟨r3, hc4, h⟩ := of_bind h
  obtain ⟨r5, hc6, h⟩ := of_bind h
  refine y_mask <| x_aload rfl <| x_getR (Nat.le_of_ble_eq_true rfl) rfl rfl <| x_push <| y_invS2 (Nat.le_of_ble_eq_true rfl) <| jEv.exV (kJ7_fill_53178 _ _ _ _ 47 8 rfl (Nat.le_of_ble_eq_true rfl) _ hc2) <| x_aload rfl <| x_getR (Nat.le_of_ble_eq_true rfl) rfl rfl <| x_push <| y_invS2 (Nat.le_of_ble_eq_true rfl) <| jEv.exV (kJ7_fill_53178 _ _ _ _ 48 8 rfl (Nat.le_of_ble_eq_true rfl) _ hc4) <| x_aload rfl <| x_getR (Nat.le_of_ble_eq_true rfl) rfl rfl <| x_push <| y_invS2 (Nat.le_of_ble_eq_true rfl) <| jEv.exV (kJ7_fill_53178 _ _ _ _ 49 6 rfl (Nat.le_of_ble_eq_true rfl) _ hc6) <| x_aload rfl <| x_push <| x_putI (Nat.le_of_ble_eq_true rfl) rfl rfl <| x_aload rfl <| x_getR (Nat.le_of_ble_eq_true rfl) rfl rfl <| y_invV0 (Nat.le_of_ble_eq_true rfl) rfl (Nat.le_of_ble_eq_true rfl) <| jEv.exI (kX4_minutes _ _ _ _) <| x_istore rfl <| x_push <| x_istore rfl <| x_push <| x_istore rfl <| y_mask <| y_goto ?_
  obtain ⟨e7, hw8, h⟩ := of_bind h
  refine jWP.intro (pr := pX6_walk) (pc := 43) ?_
  refine jwh_use (G := (fun s0 => pX6_walk (jEv jtab (d + 4), jWP (jEv jtab (d + 4)) Q ((Sh0 n).length, jsl (Sh0 n)) pX6_walk, Q, ((Sh0 n).length, jsl (Sh0 n))) 43 [some (.ref 16), some (.int l1), some (.int (fX4_minutes (va_up r5 16 (upd (r5 16) 9 (0 : Int32))))), some (.int s0.1), some (.int s0.2.1), none, none, none] [] (Sh0 n, s0.2.2, L))) (Gx := (fun s0 => pX6_walk (jEv jtab (d + 4), jWP (jEv jtab (d + 4)) Q ((Sh0 n).length, jsl (Sh0 n)) pX6_walk, Q, ((Sh0 n).length, jsl (Sh0 n))) 168 [some (.ref 16), none, none, none, none, none, none, none] [] (Sh0 n, s0, L))) (fun s1 z1 hz kk1 kk2 => tcX6_walk_43 d n (va_up r5 16 (upd (r5 16) 9 (0 : Int32))) L l1 (fX4_minutes (va_up r5 16 (upd (r5 16) 9 (0 : Int32)))) s1 hz kk1 kk2) hw8 ?_
  obtain ⟨r9, hc10, h⟩ := of_bind h
  refine y_mask <| x_aload rfl <| y_invV0 (Nat.le_of_ble_eq_true rfl) rfl (Nat.le_of_ble_eq_true rfl) <| jEv.exL (kX6_worthHad _ _ _ _ hc10) <| y_lreturn (ls := [some (.ref 16), none, none, none, none, none, none, none]) ?_
  obtain rfl := Option.some.inj h
  exact k3
theorem kX6_walk (d n : Nat) (A : Nat → Nat → Int32) (L : Nat → Nat → Int64) (l1 : Int32) {z : (Int64 × (Nat → Nat → Int32))} (h : fX6_walk A l1 = some z) : jEv jtab (d + 5) 70 [.ref 16, .int l1] (Sh0 n, A, L) 0 0 (fun r M2 => r = some (.long z.1) ∧ M2 = (Sh0 n, z.2, L)) :=
  jEv.mk (mt := mX6_walk) rfl (Nat.le_of_ble_eq_true rfl) (jWP.intro (pr := pX6_walk) (pc := 0) (tfX6_walk d n A L l1 h ⟨trivial, jCn.mk ⟨rfl, rfl⟩⟩))
set_option maxRecDepth 20000 in
theorem tfX6_worthAsTheyCame (d n : Nat) (A : Nat → Nat → Int32) (L : Nat → Nat → Int64) (l1 : Int32) {Q : Option Value → jM → Prop} {z : (Int64 × (Nat → Nat → Int32))} (h : fX6_worthAsTheyCame A l1 = some z) (k3 : Q (some (.long z.1)) (Sh0 n, z.2, L)) : pX6_worthAsTheyCame (jEv jtab (d + 5), jWP (jEv jtab (d + 5)) Q ((Sh0 n).length, jsl (Sh0 n)) pX6_worthAsTheyCame, Q, ((Sh0 n).length, jsl (Sh0 n))) 0 [some (.ref 16), some (.int l1)] [] (Sh0 n, A, L) := by
  unfold fX6_worthAsTheyCame at h
  obtain ⟨r1, hc2, h⟩ := of_bind h
  obtain ⟨r3, hc4, h⟩ := of_bind h
  obtain ⟨r5, hc6, h⟩ := of_bind h
  refine y_mask <| x_aload rfl <| x_iload rfl <| y_invV1 (Nat.le_of_ble_eq_true rfl) rfl (Nat.le_of_ble_eq_true rfl) <| jEv.exV (kX6_sailBy _ _ _ _ _ hc2) <| x_aload rfl <| x_aload rfl <| x_push <| y_invV1 (Nat.le_of_ble_eq_true rfl) rfl (Nat.le_of_ble_eq_true rfl) <| jEv.exI (kX6_orderWithout _ _ _ _ _ hc4) <| y_invV1 (Nat.le_of_ble_eq_true rfl) rfl (Nat.le_of_ble_eq_true rfl) <| jEv.exL (kX6_walk _ _ _ _ _ hc6) <| y_lreturn (ls := [some (.ref 16), some (.int l1)]) ?_
  obtain rfl := Option.some.inj h
  exact k3
theorem kX6_worthAsTheyCame (d n : Nat) (A : Nat → Nat → Int32) (L : Nat → Nat → Int64) (l1 : Int32) {z : (Int64 × (Nat → Nat → Int32))} (h : fX6_worthAsTheyCame A l1 = some z) : jEv jtab (d + 6) 66 [.ref 16, .int l1] (Sh0 n, A, L) 0 0 (fun r M2 => r = some (.long z.1) ∧ M2 = (Sh0 n, z.2, L)) :=
  jEv.mk (mt := mX6_worthAsTheyCame) rfl (Nat.le_of_ble_eq_true rfl) (jWP.intro (pr := pX6_worthAsTheyCame) (pc := 0) (tfX6_worthAsTheyCame d n A L l1 h ⟨trivial, jCn.mk ⟨rfl, rfl⟩⟩))
set_option maxRecDepth 20000 in
theorem tfX10_run (d n : Nat) (A : Nat → Nat → Int32) (L : Nat → Nat → Int64) (l1 : Int32) {Q : Option Value → jM → Prop} {z : (Int64 × (Nat → Nat → Int32))} (h : fX10_run A l1 = some z) (k3 : Q (some (.long z.1)) (Sh0 n, z.2, L)) : pX10_run (jEv jtab (d + 6), jWP (jEv jtab (d + 6)) Q ((Sh0 n).length, jsl (Sh0 n)) pX10_run, Q, ((Sh0 n).length, jsl (Sh0 n))) 0 [some (.ref 15), some (.int l1), none, none] [] (Sh0 n, A, L) := by
  unfold fX10_run at h
  refine y_mask <| x_iload rfl <| x_push <| x_push <| y_invS3 (Nat.le_of_ble_eq_true rfl) <| jEv.exZ (q := 152) rfl (kX10_within _ _ _ _ _ _ _) <| fun hz1 => y_if_ne (fun h2 => ?_) (fun h2 => ?_)
  · replace h := of_neg h h2
    refine jWP.intro (pr := pX10_run) (pc := 14) ?_
    obtain ⟨r3, hc4, h⟩ := of_bind h
    refine y_mask <| x_aload rfl <| x_getR (Nat.le_of_ble_eq_true rfl) rfl rfl <| x_aload rfl <| x_getR (Nat.le_of_ble_eq_true rfl) rfl rfl <| x_getR (Nat.le_of_ble_eq_true rfl) rfl rfl <| y_invV0 (Nat.le_of_ble_eq_true rfl) rfl (Nat.le_of_ble_eq_true rfl) <| jEv.exI (kX4_near _ _ _ _) <| y_invV1 (Nat.le_of_ble_eq_true rfl) rfl (Nat.le_of_ble_eq_true rfl) <| jEv.exL (kX6_worthAsTheyCame _ _ _ _ _ hc4) <| x_lstore rfl <| x_iload rfl <| y_if_ne (fun h5 => ?_) (fun h5 => ?_)
    · replace h := of_neg h h5
      refine jWP.intro (pr := pX10_run) (pc := 38) ?_
      refine y_mask <| x_iload rfl <| x_push <| y_cmp_ne (fun h6 => ?_) (fun h6 => ?_)
      · replace h := of_neg h h6
        refine jWP.intro (pr := pX10_run) (pc := 54) ?_
        obtain ⟨g7, h⟩ := of_guard h
        refine y_mask <| x_push <| x_aload rfl <| x_getR (Nat.le_of_ble_eq_true rfl) rfl rfl <| x_getR (Nat.le_of_ble_eq_true rfl) rfl rfl <| x_iload rfl <| x_push <| x_isub <| x_iald rfl g7 <| x_isub <| x_i2l <| y_mask <| y_goto ?_
        refine jWP.intro (pr := pX10_run) (pc := 69) ?_
        refine y_mrl (bs := []) (ls := []) ?_
        obtain rfl := Option.some.inj h
        exact k3
      · replace h := of_pos h h6
        refine jWP.intro (pr := pX10_run) (pc := 43) ?_
        refine y_mask <| x_aload rfl <| x_getR (Nat.le_of_ble_eq_true rfl) rfl rfl <| x_getI (Nat.le_of_ble_eq_true rfl) rfl rfl <| x_i2l <| y_mask <| y_goto ?_
        refine jWP.intro (pr := pX10_run) (pc := 69) ?_
        refine y_mrl (bs := []) (ls := []) ?_
        obtain rfl := Option.some.inj h
        exact k3
    · replace h := of_pos h h5
      refine jWP.intro (pr := pX10_run) (pc := 36) ?_
      refine y_mask <| x_lload rfl <| y_lreturn (ls := [none, none, some (.long r3.1), none]) ?_
      obtain rfl := Option.some.inj h
      exact k3
  · replace h := of_pos h h2
    refine jWP.intro (pr := pX10_run) (pc := 10) ?_
    refine y_mprl (bs := []) (ls := []) ?_
    obtain rfl := Option.some.inj h
    exact k3
theorem kX10_run (d n : Nat) (A : Nat → Nat → Int32) (L : Nat → Nat → Int64) (l1 : Int32) {z : (Int64 × (Nat → Nat → Int32))} (h : fX10_run A l1 = some z) : jEv jtab (d + 7) 118 [.ref 15, .int l1] (Sh0 n, A, L) 0 0 (fun r M2 => r = some (.long z.1) ∧ M2 = (Sh0 n, z.2, L)) :=
  jEv.mk (mt := mX10_run) rfl (Nat.le_of_ble_eq_true rfl) (jWP.intro (pr := pX10_run) (pc := 0) (tfX10_run d n A L l1 h ⟨trivial, jCn.mk ⟨rfl, rfl⟩⟩))
set_option maxRecDepth 20000 in
theorem tfX10_minute (d n : Nat) (A : Nat → Nat → Int32) (L : Nat → Nat → Int64) (l1 : Int32) (l2 : Int32) {Q : Option Value → jM → Prop} {z : (Int32 × (Nat → Nat → Int32))} (h : fX10_minute A l1 l2 = some z) (k3 : Q (some (.int z.1)) (Sh0 n, z.2, L)) : pX10_minute (jEv jtab (d + 6), jWP (jEv jtab (d + 6)) Q ((Sh0 n).length, jsl (Sh0 n)) pX10_minute, Q, ((Sh0 n).length, jsl (Sh0 n))) 0 [some (.ref 15), some (.int l1), some (.int l2)] [] (Sh0 n, A, L) := by
  unfold fX10_minute at h
  refine y_mask <| x_iload rfl <| x_push <| x_aload rfl <| x_getR (Nat.le_of_ble_eq_true rfl) rfl rfl <| x_getI (Nat.le_of_ble_eq_true rfl) rfl rfl <| x_push <| x_isub <| y_invS3 (Nat.le_of_ble_eq_true rfl) <| jEv.exZ (q := 152) rfl (kX10_within _ _ _ _ _ _ _) <| fun hz1 => y_if_ne (fun h2 => ?_) (fun h2 => ?_)
  · replace h := of_neg h h2
    refine jWP.intro (pr := pX10_minute) (pc := 20) ?_
    refine y_mask <| x_iload rfl <| x_push <| x_push <| y_invS3 (Nat.le_of_ble_eq_true rfl) <| jEv.exZ (q := 152) rfl (kX10_within _ _ _ _ _ _ _) <| fun hz3 => y_if_ne (fun h4 => ?_) (fun h4 => ?_)
    · replace h := of_neg h h4
      refine jWP.intro (pr := pX10_minute) (pc := 32) ?_
      obtain ⟨r5, hc6, h⟩ := of_bind h
      refine y_mask <| x_aload rfl <| x_getR (Nat.le_of_ble_eq_true rfl) rfl rfl <| x_aload rfl <| x_getR (Nat.le_of_ble_eq_true rfl) rfl rfl <| x_getR (Nat.le_of_ble_eq_true rfl) rfl rfl <| y_invV0 (Nat.le_of_ble_eq_true rfl) rfl (Nat.le_of_ble_eq_true rfl) <| jEv.exI (kX4_near _ _ _ _) <| y_invV1 (Nat.le_of_ble_eq_true rfl) rfl (Nat.le_of_ble_eq_true rfl) <| jEv.exL (kX6_worthAsTheyCame _ _ _ _ _ hc6) <| x_pop2 rfl <| x_iload rfl <| y_if_ne (fun h7 => ?_) (fun h7 => ?_)
      · replace h := of_neg h h7
        refine jWP.intro (pr := pX10_minute) (pc := 66) ?_
        obtain ⟨g8, h⟩ := of_guard h
        refine y_mask <| x_aload rfl <| x_getR (Nat.le_of_ble_eq_true rfl) rfl rfl <| x_getR (Nat.le_of_ble_eq_true rfl) rfl rfl <| x_iload rfl <| x_iald rfl g8 <| y_mask <| y_goto ?_
        refine jWP.intro (pr := pX10_minute) (pc := 75) ?_
        refine y_mri (bs := []) (ls := []) ?_
        obtain rfl := Option.some.inj h
        exact k3
      · replace h := of_pos h h7
        refine jWP.intro (pr := pX10_minute) (pc := 54) ?_
        obtain ⟨g9, h⟩ := of_guard h
        refine y_mask <| x_aload rfl <| x_getR (Nat.le_of_ble_eq_true rfl) rfl rfl <| x_getR (Nat.le_of_ble_eq_true rfl) rfl rfl <| x_iload rfl <| x_iald rfl g9 <| y_mask <| y_goto ?_
        refine jWP.intro (pr := pX10_minute) (pc := 75) ?_
        refine y_mri (bs := []) (ls := []) ?_
        obtain rfl := Option.some.inj h
        exact k3
    · replace h := of_pos h h4
      refine jWP.intro (pr := pX10_minute) (pc := 29) ?_
      refine y_mpri (bs := []) (ls := []) ?_
      obtain rfl := Option.some.inj h
      exact k3
  · replace h := of_pos h h2
    refine jWP.intro (pr := pX10_minute) (pc := 17) ?_
    refine y_mpri (bs := []) (ls := []) ?_
    obtain rfl := Option.some.inj h
    exact k3
theorem kX10_minute (d n : Nat) (A : Nat → Nat → Int32) (L : Nat → Nat → Int64) (l1 : Int32) (l2 : Int32) {z : (Int32 × (Nat → Nat → Int32))} (h : fX10_minute A l1 l2 = some z) : jEv jtab (d + 7) 119 [.ref 15, .int l1, .int l2] (Sh0 n, A, L) 0 0 (fun r M2 => r = some (.int z.1) ∧ M2 = (Sh0 n, z.2, L)) :=
  jEv.mk (mt := mX10_minute) rfl (Nat.le_of_ble_eq_true rfl) (jWP.intro (pr := pX10_minute) (pc := 0) (tfX10_minute d n A L l1 l2 h ⟨trivial, jCn.mk ⟨rfl, rfl⟩⟩))
set_option maxRecDepth 20000 in
theorem tcX6_worthByNumbers_17 (d n : Nat) (A : Nat → Nat → Int32) (L : Nat → Nat → Int64) (cl1 : Nat) (nl1 : Nat) (hsl1 : jn (Sh0 n) cl1 = some (.inl (.int, nl1))) (hll1 : jR ≤ cl1) (l2 : Int32) (s : (Int32 × Int32 × (Nat → Nat → Int32))) {Q : Option Value → jM → Prop} {z : ((Int32 × Int32 × (Nat → Nat → Int32)) ⊕ ((Nat → Nat → Int32) ⊕ (Int64 × (Nat → Nat → Int32))))} (h : cX6_worthByNumbers_17 cl1 nl1 l2 s = some z) (k1 : ∀ s0, z = .inl s0 → pX6_worthByNumbers (jEv jtab (d + 5), jWP (jEv jtab (d + 5)) Q ((Sh0 n).length, jsl (Sh0 n)) pX6_worthByNumbers, Q, ((Sh0 n).length, jsl (Sh0 n))) 17 [some (.ref 16), some (.ref cl1), some (.int l2), some (.int s0.1), some (.int s0.2.1), none] [] (Sh0 n, s0.2.2, L)) (k2 : ∀ s0, z = .inr (.inl s0) → pX6_worthByNumbers (jEv jtab (d + 5), jWP (jEv jtab (d + 5)) Q ((Sh0 n).length, jsl (Sh0 n)) pX6_worthByNumbers, Q, ((Sh0 n).length, jsl (Sh0 n))) 79 [some (.ref 16), none, some (.int l2), none, none, none] [] (Sh0 n, s0, L)) (k3 : ∀ s0, z = .inr (.inr s0) → Q (some (.long s0.1)) (Sh0 n, s0.2, L)) : pX6_worthByNumbers (jEv jtab (d + 5), jWP (jEv jtab (d + 5)) Q ((Sh0 n).length, jsl (Sh0 n)) pX6_worthByNumbers, Q, ((Sh0 n).length, jsl (Sh0 n))) 17 [some (.ref 16), some (.ref cl1), some (.int l2), some (.int s.1), some (.int s.2.1), none] [] (Sh0 n, s.2.2, L) := by
  unfold cX6_worthByNumbers_17 at h
  refine y_mask <| x_iload rfl <| x_iload rfl <| y_cmp_ge (fun h1 => ?_) (fun h1 => ?_)
  · replace h := of_pos h h1
    refine jWP.intro (pr := pX6_worthByNumbers) (pc := 79) ?_
    have hk := k2 _ (Option.some.inj h).symm
    exact hk
  · replace h := of_neg h h1
    refine jWP.intro (pr := pX6_worthByNumbers) (pc := 23) ?_
    obtain ⟨g2, h⟩ := of_guard h
    refine y_mask <| x_aload rfl <| x_iload rfl <| x_iald hsl1 g2 <| x_istore rfl <| x_iload rfl <| x_push <| x_aload rfl <| x_getI (Nat.le_of_ble_eq_true rfl) rfl rfl <| x_push <| x_isub <| y_invS3 (Nat.le_of_ble_eq_true rfl) <| jEv.exZ (q := 152) rfl (kX10_within _ _ _ _ _ _ _) <| fun hz3 => y_if_eq (fun h4 => ?_) (fun h4 => ?_)
    · replace h := of_pos h h4
      refine jWP.intro (pr := pX6_worthByNumbers) (pc := 53) ?_
      refine y_mprl (bs := []) (ls := []) ?_
      have hk := k3 _ (Option.some.inj h).symm
      exact hk
    · replace h := of_neg h h4
      refine jWP.intro (pr := pX6_worthByNumbers) (pc := 44) ?_
      refine y_mask <| x_iload rfl <| x_iload rfl <| x_ishr <| x_push <| x_iand <| y_if_eq (fun h5 => ?_) (fun h5 => ?_)
      · replace h := of_pos h h5
        refine jWP.intro (pr := pX6_worthByNumbers) (pc := 57) ?_
        obtain ⟨g6, h⟩ := of_guard h
        obtain ⟨m7, hm8, h⟩ := of_bind h
        refine y_mask <| x_iload rfl <| x_push <| x_iload rfl <| x_ishl <| x_ior <| x_istore rfl <| x_aload rfl <| x_getR (Nat.le_of_ble_eq_true rfl) rfl rfl <| x_iload rfl <| x_iload rfl <| x_iast (Nat.le_of_ble_eq_true rfl) rfl g6 <| y_let (Option.some.inj hm8) <| x_iinc rfl rfl <| y_mask <| y_goto ?_
        refine jWP.intro (pr := pX6_worthByNumbers) (pc := 17) ?_
        have hk := k1 _ (Option.some.inj h).symm
        exact hk
      · replace h := of_neg h h5
        refine jWP.intro (pr := pX6_worthByNumbers) (pc := 53) ?_
        refine y_mprl (bs := []) (ls := []) ?_
        have hk := k3 _ (Option.some.inj h).symm
        exact hk
set_option maxRecDepth 20000 in
theorem tfX6_worthByNumbers (d n : Nat) (A : Nat → Nat → Int32) (L : Nat → Nat → Int64) (cl1 nl1 : Nat) (hsl1 : jn (Sh0 n) cl1 = some (.inl (.int, nl1))) (hll1 : jR ≤ cl1) (l2 : Int32) {Q : Option Value → jM → Prop} {z : (Int64 × (Nat → Nat → Int32))} (h : fX6_worthByNumbers A cl1 nl1 l2 = some z) (k3 : Q (some (.long z.1)) (Sh0 n, z.2, L)) : pX6_worthByNumbers (jEv jtab (d + 5), jWP (jEv jtab (d + 5)) Q ((Sh0 n).length, jsl (Sh0 n)) pX6_worthByNumbers, Q, ((Sh0 n).length, jsl (Sh0 n))) 0 [some (.ref 16), some (.ref cl1), some (.int l2), none, none, none] [] (Sh0 n, A, L) := by
  unfold fX6_worthByNumbers at h
  refine y_mask <| x_iload rfl <| x_aload rfl <| x_getI (Nat.le_of_ble_eq_true rfl) rfl rfl <| y_cmp_le (fun h1 => ?_) (fun h1 => ?_)
  · replace h := of_pos h h1
    refine jWP.intro (pr := pX6_worthByNumbers) (pc := 12) ?_
    refine y_mask <| x_push <| x_istore rfl <| x_push <| x_istore rfl <| y_mask <| y_goto ?_
    obtain ⟨e2y, hw3, h⟩ := of_bind h
    refine jWP.intro (pr := pX6_worthByNumbers) (pc := 17) ?_
    refine jwh_use2 (G := (fun s0 => pX6_worthByNumbers (jEv jtab (d + 5), jWP (jEv jtab (d + 5)) Q ((Sh0 n).length, jsl (Sh0 n)) pX6_worthByNumbers, Q, ((Sh0 n).length, jsl (Sh0 n))) 17 [some (.ref 16), some (.ref cl1), some (.int l2), some (.int s0.1), some (.int s0.2.1), none] [] (Sh0 n, s0.2.2, L))) (Gx := (fun s0 => pX6_worthByNumbers (jEv jtab (d + 5), jWP (jEv jtab (d + 5)) Q ((Sh0 n).length, jsl (Sh0 n)) pX6_worthByNumbers, Q, ((Sh0 n).length, jsl (Sh0 n))) 79 [some (.ref 16), none, some (.int l2), none, none, none] [] (Sh0 n, s0, L))) (Gr := (fun s0 => Q (some (.long s0.1)) (Sh0 n, s0.2, L))) (fun s1 z1 hz kk1 kk2 kk3 => tcX6_worthByNumbers_17 d n A L cl1 nl1 hsl1 hll1 l2 s1 hz kk1 kk2 kk3) hw3 ?_ ?_
    · intro e2 hy
      subst hy
      replace h : (Option.bind (fX6_sailBy e2 (fX4_near e2)) fun r4 => Option.bind (fX6_walk r4 l2) fun r6 => some (r6.1, r6.2)) = some z := h
      obtain ⟨r4, hc5, h⟩ := of_bind h
      obtain ⟨r6, hc7, h⟩ := of_bind h
      refine y_mask <| x_aload rfl <| x_aload rfl <| x_getR (Nat.le_of_ble_eq_true rfl) rfl rfl <| y_invV0 (Nat.le_of_ble_eq_true rfl) rfl (Nat.le_of_ble_eq_true rfl) <| jEv.exI (kX4_near _ _ _ _) <| y_invV1 (Nat.le_of_ble_eq_true rfl) rfl (Nat.le_of_ble_eq_true rfl) <| jEv.exV (kX6_sailBy _ _ _ _ _ hc5) <| x_aload rfl <| x_iload rfl <| y_invV1 (Nat.le_of_ble_eq_true rfl) rfl (Nat.le_of_ble_eq_true rfl) <| jEv.exL (kX6_walk _ _ _ _ _ hc7) <| y_lreturn (ls := [some (.ref 16), none, some (.int l2), none, none, none]) ?_
      obtain rfl := Option.some.inj h
      exact k3
    · intro s0 hy
      subst hy
      replace h : some s0 = some z := h
      obtain rfl := Option.some.inj h
      exact k3
  · replace h := of_neg h h1
    refine jWP.intro (pr := pX6_worthByNumbers) (pc := 8) ?_
    refine y_mprl (bs := []) (ls := []) ?_
    obtain rfl := Option.some.inj h
    exact k3
theorem kX6_worthByNumbers (d n : Nat) (A : Nat → Nat → Int32) (L : Nat → Nat → Int64) (cl1 nl1 : Nat) (hsl1 : jn (Sh0 n) cl1 = some (.inl (.int, nl1))) (hll1 : jR ≤ cl1) (l2 : Int32) {z : (Int64 × (Nat → Nat → Int32))} (h : fX6_worthByNumbers A cl1 nl1 l2 = some z) : jEv jtab (d + 6) 69 [.ref 16, .ref cl1, .int l2] (Sh0 n, A, L) 0 0 (fun r M2 => r = some (.long z.1) ∧ M2 = (Sh0 n, z.2, L)) :=
  jEv.mk (mt := mX6_worthByNumbers) rfl (Nat.le_of_ble_eq_true rfl) (jWP.intro (pr := pX6_worthByNumbers) (pc := 0) (tfX6_worthByNumbers d n A L cl1 nl1 hsl1 hll1 l2 h ⟨trivial, jCn.mk ⟨rfl, rfl⟩⟩))
set_option maxRecDepth 20000 in
theorem tfX10_judge (d n : Nat) (A : Nat → Nat → Int32) (L : Nat → Nat → Int64) (l1 : Int32) {Q : Option Value → jM → Prop} {z : (Int64 × (Nat → Nat → Int32))} (h : fX10_judge A l1 = some z) (k3 : Q (some (.long z.1)) (Sh0 n, z.2, L)) : pX10_judge (jEv jtab (d + 6), jWP (jEv jtab (d + 6)) Q ((Sh0 n).length, jsl (Sh0 n)) pX10_judge, Q, ((Sh0 n).length, jsl (Sh0 n))) 0 [some (.ref 15), some (.int l1)] [] (Sh0 n, A, L) := by
  unfold fX10_judge at h
  refine y_mask <| x_iload rfl <| x_push <| x_push <| y_invS3 (Nat.le_of_ble_eq_true rfl) <| jEv.exZ (q := 152) rfl (kX10_within _ _ _ _ _ _ _) <| fun hz1 => y_if_eq (fun h2 => ?_) (fun h2 => ?_)
  · replace h := of_pos h h2
    refine jWP.intro (pr := pX10_judge) (pc := 22) ?_
    refine y_mprl (bs := []) (ls := []) ?_
    obtain rfl := Option.some.inj h
    exact k3
  · replace h := of_neg h h2
    refine jWP.intro (pr := pX10_judge) (pc := 9) ?_
    obtain ⟨g3, h⟩ := of_guard h
    refine y_mask <| x_aload rfl <| x_getR (Nat.le_of_ble_eq_true rfl) rfl rfl <| x_getR (Nat.le_of_ble_eq_true rfl) rfl rfl <| x_iload rfl <| x_iald rfl g3 <| x_push <| y_cmp_ne (fun h4 => ?_) (fun h4 => ?_)
    · replace h := of_neg h h4
      refine jWP.intro (pr := pX10_judge) (pc := 26) ?_
      obtain ⟨g5, h⟩ := of_guard h
      obtain ⟨g7, h⟩ := of_guard h
      obtain ⟨r8, hc9, h⟩ := of_bind h
      refine y_mask <| x_aload rfl <| x_getR (Nat.le_of_ble_eq_true rfl) rfl rfl <| x_aload rfl <| x_getR (Nat.le_of_ble_eq_true rfl) rfl rfl <| x_getR (Nat.le_of_ble_eq_true rfl) rfl rfl <| x_iload rfl <| x_row (Nat.le_of_ble_eq_true rfl) rfl g5 <| fun hr6 => x_aload rfl <| x_getR (Nat.le_of_ble_eq_true rfl) rfl rfl <| x_getR (Nat.le_of_ble_eq_true rfl) rfl rfl <| x_iload rfl <| x_iald rfl g7 <| y_invV2 (Nat.le_of_ble_eq_true rfl) rfl (Nat.le_of_ble_eq_true rfl) <| jEv.exL (kX6_worthByNumbers _ _ _ _ (77 + (jx l1)) 40 (rows_76 (vp_lt g5)) (rowle (Nat.le_of_ble_eq_true rfl)) _ hc9) <| y_lreturn (ls := [some (.ref 15), some (.int l1)]) ?_
      obtain rfl := Option.some.inj h
      exact k3
    · replace h := of_pos h h4
      refine jWP.intro (pr := pX10_judge) (pc := 22) ?_
      refine y_mprl (bs := []) (ls := []) ?_
      obtain rfl := Option.some.inj h
      exact k3
theorem kX10_judge (d n : Nat) (A : Nat → Nat → Int32) (L : Nat → Nat → Int64) (l1 : Int32) {z : (Int64 × (Nat → Nat → Int32))} (h : fX10_judge A l1 = some z) : jEv jtab (d + 7) 120 [.ref 15, .int l1] (Sh0 n, A, L) 0 0 (fun r M2 => r = some (.long z.1) ∧ M2 = (Sh0 n, z.2, L)) :=
  jEv.mk (mt := mX10_judge) rfl (Nat.le_of_ble_eq_true rfl) (jWP.intro (pr := pX10_judge) (pc := 0) (tfX10_judge d n A L l1 h ⟨trivial, jCn.mk ⟨rfl, rfl⟩⟩))
set_option maxRecDepth 20000 in
theorem tfX6_exchange (d n : Nat) (A : Nat → Nat → Int32) (L : Nat → Nat → Int64) (l1 : Int32) (l2 : Int32) {Q : Option Value → jM → Prop} {z : (Nat → Nat → Int32)} (h : fX6_exchange A l1 l2 = some z) (k3 : Q (none) (Sh0 n, z, L)) : pX6_exchange (jEv jtab (d + 0), jWP (jEv jtab (d + 0)) Q ((Sh0 n).length, jsl (Sh0 n)) pX6_exchange, Q, ((Sh0 n).length, jsl (Sh0 n))) 0 [some (.ref 16), some (.int l1), some (.int l2), none] [] (Sh0 n, A, L) := by
  unfold fX6_exchange at h
  obtain ⟨g1, h⟩ := of_guard h
  obtain ⟨g2, h⟩ := of_guard h
  obtain ⟨g3, h⟩ := of_guard h
  obtain ⟨m4, hm5, h⟩ := of_bind h
  obtain ⟨g6, h⟩ := of_guard h
  obtain ⟨m7, hm8, h⟩ := of_bind h
  refine y_mask <| x_aload rfl <| x_getR (Nat.le_of_ble_eq_true rfl) rfl rfl <| x_iload rfl <| x_iald rfl g1 <| x_istore rfl <| x_aload rfl <| x_getR (Nat.le_of_ble_eq_true rfl) rfl rfl <| x_iload rfl <| x_aload rfl <| x_getR (Nat.le_of_ble_eq_true rfl) rfl rfl <| x_iload rfl <| x_iald rfl g2 <| x_iast (Nat.le_of_ble_eq_true rfl) rfl g3 <| y_let (Option.some.inj hm5) <| x_aload rfl <| x_getR (Nat.le_of_ble_eq_true rfl) rfl rfl <| x_iload rfl <| x_iload rfl <| x_iast (Nat.le_of_ble_eq_true rfl) rfl g6 <| y_let (Option.some.inj hm8) <| y_return (ls := [some (.ref 16), some (.int l1), some (.int l2), some (.int (A 50 (jx l1)))]) ?_
  obtain rfl := Option.some.inj h
  exact k3
theorem kX6_exchange (d n : Nat) (A : Nat → Nat → Int32) (L : Nat → Nat → Int64) (l1 : Int32) (l2 : Int32) {z : (Nat → Nat → Int32)} (h : fX6_exchange A l1 l2 = some z) : jEv jtab (d + 1) 75 [.ref 16, .int l1, .int l2] (Sh0 n, A, L) 0 0 (fun r M2 => r = none ∧ M2 = (Sh0 n, z, L)) :=
  jEv.mk (mt := mX6_exchange) rfl (Nat.le_of_ble_eq_true rfl) (jWP.intro (pr := pX6_exchange) (pc := 0) (tfX6_exchange d n A L l1 l2 h ⟨trivial, jCn.mk ⟨rfl, rfl⟩⟩))
