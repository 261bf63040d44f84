noncomputable def fX0_daysBetween (A : Nat → Nat → Int32) (l1 : Int32) (l2 : Int32) : Option Int32 :=
  jgd (vp_in l1 10) <| jgd (vp_in l2 10) <| some (jab ((A 66 (jx l1)) - (A 66 (jx l2))))
theorem tfX0_daysBetween (d n : Nat) (A : Nat → Nat → Int32) (L : Nat → Nat → Int64) (l1 : Int32) (l2 : Int32) {Q : Option Value → jM → Prop} {z : Int32} (h : fX0_daysBetween A l1 l2 = some z) (k3 : Q (some (.int z)) (Sh0 n, A, L)) : pX0_daysBetween (jEv jtab (d + 0), jWP (jEv jtab (d + 0)) Q ((Sh0 n).length, jsl (Sh0 n)) pX0_daysBetween, Q, ((Sh0 n).length, jsl (Sh0 n))) 0 [some (.ref 64), some (.int l1), some (.int l2)] [] (Sh0 n, A, L) := by
  unfold fX0_daysBetween at h
  obtain ⟨g1, h⟩ := of_guard h
  obtain ⟨g2, h⟩ := of_guard h
  refine y_mask <| x_aload rfl <| x_getR (Nat.le_of_ble_eq_true rfl) rfl rfl <| x_iload rfl <| x_iald rfl g1 <| x_aload rfl <| x_getR (Nat.le_of_ble_eq_true rfl) rfl rfl <| x_iload rfl <| x_iald rfl g2 <| x_isub <| y_mabs (Nat.le_of_ble_eq_true rfl) <| y_ireturn (ls := []) ?_
  obtain rfl := Option.some.inj h
  exact k3

theorem kX0_daysBetween (d n : Nat) (A : Nat → Nat → Int32) (L : Nat → Nat → Int64) (l1 : Int32) (l2 : Int32) {z : Int32} (h : fX0_daysBetween A l1 l2 = some z) : jEv jtab (d + 1) 4 [.ref 64, .int l1, .int l2] (Sh0 n, A, L) 0 0 (fun r M2 => r = some (.int z) ∧ M2 = (Sh0 n, A, L)) :=
  jEv.mk (mt := mX0_daysBetween) rfl (Nat.le_of_ble_eq_true rfl) (jWP.intro (pr := pX0_daysBetween) (pc := 0) (tfX0_daysBetween d n A L l1 l2 h ⟨trivial, jCn.mk ⟨rfl, rfl⟩⟩))
noncomputable def fX0_cellsBetween (A : Nat → Nat → Int32) (l1 : Int32) (l2 : Int32) : Option Int32 :=
  jgd (vp_in l1 10) <| jgd (vp_in l2 10) <| some (jab ((A 67 (jx l1)) - (A 67 (jx l2))))
theorem tfX0_cellsBetween (d n : Nat) (A : Nat → Nat → Int32) (L : Nat → Nat → Int64) (l1 : Int32) (l2 : Int32) {Q : Option Value → jM → Prop} {z : Int32} (h : fX0_cellsBetween A l1 l2 = some z) (k3 : Q (some (.int z)) (Sh0 n, A, L)) : pX0_cellsBetween (jEv jtab (d + 0), jWP (jEv jtab (d + 0)) Q ((Sh0 n).length, jsl (Sh0 n)) pX0_cellsBetween, Q, ((Sh0 n).length, jsl (Sh0 n))) 0 [some (.ref 64), some (.int l1), some (.int l2)] [] (Sh0 n, A, L) := by
  unfold fX0_cellsBetween at h
  obtain ⟨g1, h⟩ := of_guard h
  obtain ⟨g2, h⟩ := of_guard h
  refine y_mask <| x_aload rfl <| x_getR (Nat.le_of_ble_eq_true rfl) rfl rfl <| x_iload rfl <| x_iald rfl g1 <| x_aload rfl <| x_getR (Nat.le_of_ble_eq_true rfl) rfl rfl <| x_iload rfl <| x_iald rfl g2 <| x_isub <| y_mabs (Nat.le_of_ble_eq_true rfl) <| y_ireturn (ls := []) ?_
  obtain rfl := Option.some.inj h
  exact k3

theorem kX0_cellsBetween (d n : Nat) (A : Nat → Nat → Int32) (L : Nat → Nat → Int64) (l1 : Int32) (l2 : Int32) {z : Int32} (h : fX0_cellsBetween A l1 l2 = some z) : jEv jtab (d + 1) 5 [.ref 64, .int l1, .int l2] (Sh0 n, A, L) 0 0 (fun r M2 => r = some (.int z) ∧ M2 = (Sh0 n, A, L)) :=
  jEv.mk (mt := mX0_cellsBetween) rfl (Nat.le_of_ble_eq_true rfl) (jWP.intro (pr := pX0_cellsBetween) (pc := 0) (tfX0_cellsBetween d n A L l1 l2 h ⟨trivial, jCn.mk ⟨rfl, rfl⟩⟩))
noncomputable def cX0_closeTo_4 (A : Nat → Nat → Int32) (l1 : Int32) (s : (Int32 × Int32)) : Option ((Int32 × Int32) ⊕ Int32) :=
  (if (A 64 4) ≤ s.2 then some (.inr s.1) else jgd (vp_in s.2 10) <| jgd (vp_in l1 10) <| (if (A 65 (jx s.2)) = (A 65 (jx l1)) then Option.bind (fX0_daysBetween A s.2 l1) fun r5 => (if (1 : Int32) < r5 then some (.inl (s.1, s.2 + (1 : Int32))) else Option.bind (fX0_cellsBetween A s.2 l1) fun r8 => (if (2 : Int32) < r8 then some (.inl (s.1, s.2 + (1 : Int32))) else some (.inl (s.1 ||| (jshl (1 : Int32) s.2), s.2 + (1 : Int32))))) else some (.inl (s.1, s.2 + (1 : Int32)))))
theorem tcX0_closeTo_4 (d n : Nat) (A : Nat → Nat → Int32) (L : Nat → Nat → Int64) (l1 : Int32) (s : (Int32 × Int32)) {Q : Option Value → jM → Prop} {z : ((Int32 × Int32) ⊕ Int32)} (h : cX0_closeTo_4 A l1 s = some z) (k1 : ∀ s0, z = .inl s0 → pX0_closeTo (jEv jtab (d + 1), jWP (jEv jtab (d + 1)) Q ((Sh0 n).length, jsl (Sh0 n)) pX0_closeTo, Q, ((Sh0 n).length, jsl (Sh0 n))) 4 [some (.ref 64), some (.int l1), some (.int s0.1), some (.int s0.2)] [] (Sh0 n, A, L)) (k2 : ∀ s0, z = .inr s0 → pX0_closeTo (jEv jtab (d + 1), jWP (jEv jtab (d + 1)) Q ((Sh0 n).length, jsl (Sh0 n)) pX0_closeTo, Q, ((Sh0 n).length, jsl (Sh0 n))) 59 [none, none, some (.int s0), none] [] (Sh0 n, A, L)) : pX0_closeTo (jEv jtab (d + 1), jWP (jEv jtab (d + 1)) Q ((Sh0 n).length, jsl (Sh0 n)) pX0_closeTo, Q, ((Sh0 n).length, jsl (Sh0 n))) 4 [some (.ref 64), some (.int l1), some (.int s.1), some (.int s.2)] [] (Sh0 n, A, L) := by
  unfold cX0_closeTo_4 at h
  refine y_mask <| x_iload rfl <| x_aload rfl <| x_getI (Nat.le_of_ble_eq_true rfl) rfl rfl <| y_cmp_ge (fun h1 => ?_) (fun h1 => ?_)
  · replace h := of_pos h h1
    exact jWP.intro (k2 _ (Option.some.inj h).symm)
  · replace h := of_neg h h1
    refine jWP.intro (pr := pX0_closeTo) (pc := 12) ?_
    obtain ⟨g2, h⟩ := of_guard h
    obtain ⟨g3, h⟩ := of_guard h
    refine y_mask <| x_aload rfl <| x_getR (Nat.le_of_ble_eq_true rfl) rfl rfl <| x_iload rfl <| x_iald rfl g2 <| x_aload rfl <| x_getR (Nat.le_of_ble_eq_true rfl) rfl rfl <| x_iload rfl <| x_iald rfl g3 <| y_cmp_ne (fun h4 => ?_) (fun h4 => ?_)
    · replace h := of_neg h h4
      refine jWP.intro (pr := pX0_closeTo) (pc := 53) ?_
      refine y_mask <| x_iinc rfl rfl <| y_mask <| y_goto ?_
      exact jWP.intro (k1 _ (Option.some.inj h).symm)
    · replace h := of_pos h h4
      refine jWP.intro (pr := pX0_closeTo) (pc := 27) ?_
      obtain ⟨r5, hc6, h⟩ := of_bind h
      refine y_mask <| x_aload rfl <| x_iload rfl <| x_iload rfl <| y_invV2 (Nat.le_of_ble_eq_true rfl) rfl (Nat.le_of_ble_eq_true rfl) <| jEv.exI (kX0_daysBetween _ _ _ _ _ _ hc6) <| x_push <| y_cmp_gt (fun h7 => ?_) (fun h7 => ?_)
      · replace h := of_pos h h7
        refine jWP.intro (pr := pX0_closeTo) (pc := 53) ?_
        refine y_mask <| x_iinc rfl rfl <| y_mask <| y_goto ?_
        exact jWP.intro (k1 _ (Option.some.inj h).symm)
      · replace h := of_neg h h7
        refine jWP.intro (pr := pX0_closeTo) (pc := 37) ?_
        obtain ⟨r8, hc9, h⟩ := of_bind h
        refine y_mask <| x_aload rfl <| x_iload rfl <| x_iload rfl <| y_invV2 (Nat.le_of_ble_eq_true rfl) rfl (Nat.le_of_ble_eq_true rfl) <| jEv.exI (kX0_cellsBetween _ _ _ _ _ _ hc9) <| x_push <| y_cmp_gt (fun h10 => ?_) (fun h10 => ?_)
        · replace h := of_pos h h10
          refine jWP.intro (pr := pX0_closeTo) (pc := 53) ?_
          refine y_mask <| x_iinc rfl rfl <| y_mask <| y_goto ?_
          exact jWP.intro (k1 _ (Option.some.inj h).symm)
        · replace h := of_neg h h10
          refine jWP.intro (pr := pX0_closeTo) (pc := 47) ?_
          refine y_mask <| x_iload rfl <| x_push <| x_iload rfl <| x_ishl <| x_ior <| x_istore rfl <| y_mask <| y_goto ?_
          refine jWP.intro (pr := pX0_closeTo) (pc := 53) ?_
          refine y_mask <| x_iinc rfl rfl <| y_mask <| y_goto ?_
          exact jWP.intro (k1 _ (Option.some.inj h).symm)

noncomputable def fX0_closeTo (A : Nat → Nat → Int32) (l1 : Int32) : Option Int32 :=
  Option.bind (jwh (cX0_closeTo_4 A l1) ((0 : Int32), (0 : Int32))) fun e1 => some e1
theorem tfX0_closeTo (d n : Nat) (A : Nat → Nat → Int32) (L : Nat → Nat → Int64) (l1 : Int32) {Q : Option Value → jM → Prop} {z : Int32} (h : fX0_closeTo A l1 = some z) (k3 : Q (some (.int z)) (Sh0 n, A, L)) : pX0_closeTo (jEv jtab (d + 1), jWP (jEv jtab (d + 1)) Q ((Sh0 n).length, jsl (Sh0 n)) pX0_closeTo, Q, ((Sh0 n).length, jsl (Sh0 n))) 0 [some (.ref 64), some (.int l1), none, none] [] (Sh0 n, A, L) := by
  unfold fX0_closeTo at h
  refine y_mask <| x_push <| x_istore rfl <| x_push <| x_istore rfl <| y_mask <| y_goto ?_
  obtain ⟨e1, hw2, h⟩ := of_bind h
  refine jWP.intro (pr := pX0_closeTo) (pc := 4) ?_
  refine jwh_use (G := (fun s0 => pX0_closeTo (jEv jtab (d + 1), jWP (jEv jtab (d + 1)) Q ((Sh0 n).length, jsl (Sh0 n)) pX0_closeTo, Q, ((Sh0 n).length, jsl (Sh0 n))) 4 [some (.ref 64), some (.int l1), some (.int s0.1), some (.int s0.2)] [] (Sh0 n, A, L))) (Gx := (fun s0 => pX0_closeTo (jEv jtab (d + 1), jWP (jEv jtab (d + 1)) Q ((Sh0 n).length, jsl (Sh0 n)) pX0_closeTo, Q, ((Sh0 n).length, jsl (Sh0 n))) 59 [none, none, some (.int s0), none] [] (Sh0 n, A, L))) (fun s1 z1 hz kk1 kk2 => tcX0_closeTo_4 d n A L l1 s1 hz kk1 kk2) hw2 ?_
  refine y_mask <| x_iload rfl <| y_ireturn (ls := []) ?_
  obtain rfl := Option.some.inj h
  exact k3

theorem kX0_closeTo (d n : Nat) (A : Nat → Nat → Int32) (L : Nat → Nat → Int64) (l1 : Int32) {z : Int32} (h : fX0_closeTo A l1 = some z) : jEv jtab (d + 2) 3 [.ref 64, .int l1] (Sh0 n, A, L) 0 0 (fun r M2 => r = some (.int z) ∧ M2 = (Sh0 n, A, L)) :=
  jEv.mk (mt := mX0_closeTo) rfl (Nat.le_of_ble_eq_true rfl) (jWP.intro (pr := pX0_closeTo) (pc := 0) (tfX0_closeTo d n A L l1 h ⟨trivial, jCn.mk ⟨rfl, rfl⟩⟩))
