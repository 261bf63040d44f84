/-! METHODS AS FUNCTIONS, printed by dec.py -/
set_option maxRecDepth 20000 in
theorem tjX11_one_65 (rc : Nat → (Nat → Nat → Int32) → Option (Nat → Nat → Int32)) (D : Nat) (hrc0 : ∀ (d n : Nat) (A : Nat → Nat → Int32) (L : Nat → Nat → Int64) (z : Nat → Nat → Int32), rc 0 A = some z → jEv jtab (D + d) 180 [.ref 94] (Sh0 n, A, L) 0 0 (fun r M2 => r = none ∧ M2 = (Sh0 n, z, L))) (hrc1 : ∀ (d n : Nat) (A : Nat → Nat → Int32) (L : Nat → Nat → Int64) (z : Nat → Nat → Int32), rc 1 A = some z → jEv jtab (D + d) 182 [.ref 94] (Sh0 n, A, L) 0 0 (fun r M2 => r = none ∧ M2 = (Sh0 n, z, L))) (hrc2 : ∀ (d n : Nat) (A : Nat → Nat → Int32) (L : Nat → Nat → Int64) (z : Nat → Nat → Int32), rc 2 A = some z → jEv jtab (D + d) 185 [.ref 94] (Sh0 n, A, L) 0 0 (fun r M2 => r = none ∧ M2 = (Sh0 n, z, L))) (d n : Nat) (A : Nat → Nat → Int32) (L : Nat → Nat → Int64) {Q : Option Value → jM → Prop} {z : (Nat → Nat → Int32)} (h : jX11_one_65 rc A = some z) (k3 : Q (none) (Sh0 n, z, L)) : pX11_one (jEv jtab (D + d + 4), jWP (jEv jtab (D + d + 4)) Q ((Sh0 n).length, jsl (Sh0 n)) pX11_one, Q, ((Sh0 n).length, jsl (Sh0 n))) 65 [some (.ref 94)] [] (Sh0 n, A, L) := by
  unfold jX11_one_65 at h
  refine y_mask <| x_aload rfl <| x_push <| y_invV1 (Nat.le_of_ble_eq_true rfl) rfl (Nat.le_of_ble_eq_true rfl) <| jEv.exZ (q := 176) rfl (kX11_isSign _ _ _ _ _) <| fun hz1 => y_if_eq (fun h2 => ?_) (fun h2 => ?_)
  · replace h := of_pos h h2
    refine jWP.intro (pr := pX11_one) (pc := 105) ?_
    refine y_mask <| x_aload rfl <| x_push <| y_invV1 (Nat.le_of_ble_eq_true rfl) rfl (Nat.le_of_ble_eq_true rfl) <| jEv.exZ (q := 176) rfl (kX11_isSign _ _ _ _ _) <| fun hz3 => y_if_eq (fun h4 => ?_) (fun h4 => ?_)
    · replace h := of_pos h h4
      refine jWP.intro (pr := pX11_one) (pc := 157) ?_
      obtain ⟨r5, hc6, h⟩ := of_bind h
      refine y_mask <| x_aload rfl <| y_invV0 (Nat.le_of_ble_eq_true rfl) rfl (Nat.le_of_ble_eq_true rfl) <| jEv.exV (kX11_faulty _ _ _ _ hc6) <| y_mask <| y_goto ?_
      refine jWP.intro (pr := pX11_one) (pc := 161) ?_
      refine y_mrv (bs := []) (ls := []) ?_
      obtain rfl := Option.some.inj h
      exact k3
    · replace h := of_neg h h4
      refine jWP.intro (pr := pX11_one) (pc := 114) ?_
      obtain ⟨r7, hc8, h⟩ := of_bind h
      refine y_mask <| x_aload rfl <| y_invV0 (Nat.le_of_ble_eq_true rfl) rfl (Nat.le_of_ble_eq_true rfl) <| jEv.exZ (q := 179) rfl (kX11_opens _ _ _ _ hc8) <| fun hz9 => y_if_ne (fun h10 => ?_) (fun h10 => ?_)
      · replace h := of_neg h h10
        refine jWP.intro (pr := pX11_one) (pc := 122) ?_
        obtain ⟨r11, hc12, h⟩ := of_bind h
        refine y_mask <| x_aload rfl <| y_invV0 (Nat.le_of_ble_eq_true rfl) rfl (Nat.le_of_ble_eq_true rfl) <| jEv.exV (hrc0 (d + (4)) n r7.2 L _ hc12) <| x_aload rfl <| x_push <| y_invV1 (Nat.le_of_ble_eq_true rfl) rfl (Nat.le_of_ble_eq_true rfl) <| jEv.exZ (q := 176) rfl (kX11_isSign _ _ _ _ _) <| fun hz13 => y_if_ne (fun h14 => ?_) (fun h14 => ?_)
        · replace h := of_neg h h14
          refine jWP.intro (pr := pX11_one) (pc := 140) ?_
          obtain ⟨r15, hc16, h⟩ := of_bind h
          show bX11_one_140 _ _ _ _
          unfold bX11_one_140
          refine y_mask ?_
          refine x_aload rfl ?_
          refine x_dup rfl ?_
          refine x_getI (Nat.le_of_ble_eq_true rfl) rfl rfl ?_
          refine x_push ?_
          refine x_isub ?_
          refine x_putI (Nat.le_of_ble_eq_true rfl) rfl rfl ?_
          refine x_aload rfl ?_
          refine y_invV0 (Nat.le_of_ble_eq_true rfl) rfl (Nat.le_of_ble_eq_true rfl) ?_
          refine jEv.exV (kX11_next _ _ _ _ hc16) ?_
          refine y_mask ?_
          refine y_goto ?_
          refine jWP.intro (pr := pX11_one) (pc := 161) ?_
          refine y_mrv (bs := []) (ls := []) ?_
          obtain rfl := Option.some.inj h
          exact k3
        · replace h := of_pos h h14
          refine jWP.intro (pr := pX11_one) (pc := 135) ?_
          obtain ⟨r17, hc18, h⟩ := of_bind h
          refine y_mask <| x_aload rfl <| y_invV0 (Nat.le_of_ble_eq_true rfl) rfl (Nat.le_of_ble_eq_true rfl) <| jEv.exV (kX11_faulty _ _ _ _ hc18) <| y_return (ls := [some (.ref 94)]) ?_
          obtain rfl := Option.some.inj h
          exact k3
      · replace h := of_pos h h10
        refine jWP.intro (pr := pX11_one) (pc := 121) ?_
        refine y_mrv (bs := []) (ls := []) ?_
        obtain rfl := Option.some.inj h
        exact k3
  · replace h := of_neg h h2
    refine jWP.intro (pr := pX11_one) (pc := 74) ?_
    obtain ⟨r19, hc20, h⟩ := of_bind h
    refine y_mask <| x_aload rfl <| y_invV0 (Nat.le_of_ble_eq_true rfl) rfl (Nat.le_of_ble_eq_true rfl) <| jEv.exZ (q := 179) rfl (kX11_opens _ _ _ _ hc20) <| fun hz21 => y_if_ne (fun h22 => ?_) (fun h22 => ?_)
    · replace h := of_neg h h22
      refine jWP.intro (pr := pX11_one) (pc := 82) ?_
      obtain ⟨r23, hc24, h⟩ := of_bind h
      obtain ⟨r25, hc26, h⟩ := of_bind h
      show bX11_one_82 _ _ _ _
      unfold bX11_one_82
      refine y_mask ?_
      refine x_aload rfl ?_
      refine y_invV0 (Nat.le_of_ble_eq_true rfl) rfl (Nat.le_of_ble_eq_true rfl) ?_
      refine jEv.exV (hrc2 (d + (4)) n r19.2 L _ hc24) ?_
      refine x_aload rfl ?_
      refine x_dup rfl ?_
      refine x_getI (Nat.le_of_ble_eq_true rfl) rfl rfl ?_
      refine x_push ?_
      refine x_isub ?_
      refine x_putI (Nat.le_of_ble_eq_true rfl) rfl rfl ?_
      refine x_aload rfl ?_
      refine x_push ?_
      refine x_push ?_
      refine y_invV2 (Nat.le_of_ble_eq_true rfl) rfl (Nat.le_of_ble_eq_true rfl) ?_
      refine jEv.exV (kX11_addStep _ _ _ _ _ _ hc26) ?_
      refine y_mask ?_
      refine y_goto ?_
      refine jWP.intro (pr := pX11_one) (pc := 161) ?_
      refine y_mrv (bs := []) (ls := []) ?_
      obtain rfl := Option.some.inj h
      exact k3
    · replace h := of_pos h h22
      refine jWP.intro (pr := pX11_one) (pc := 81) ?_
      refine y_mrv (bs := []) (ls := []) ?_
      obtain rfl := Option.some.inj h
      exact k3
set_option maxRecDepth 20000 in
theorem tgX11_one (rc : Nat → (Nat → Nat → Int32) → Option (Nat → Nat → Int32)) (D : Nat) (hrc0 : ∀ (d n : Nat) (A : Nat → Nat → Int32) (L : Nat → Nat → Int64) (z : Nat → Nat → Int32), rc 0 A = some z → jEv jtab (D + d) 180 [.ref 94] (Sh0 n, A, L) 0 0 (fun r M2 => r = none ∧ M2 = (Sh0 n, z, L))) (hrc1 : ∀ (d n : Nat) (A : Nat → Nat → Int32) (L : Nat → Nat → Int64) (z : Nat → Nat → Int32), rc 1 A = some z → jEv jtab (D + d) 182 [.ref 94] (Sh0 n, A, L) 0 0 (fun r M2 => r = none ∧ M2 = (Sh0 n, z, L))) (hrc2 : ∀ (d n : Nat) (A : Nat → Nat → Int32) (L : Nat → Nat → Int64) (z : Nat → Nat → Int32), rc 2 A = some z → jEv jtab (D + d) 185 [.ref 94] (Sh0 n, A, L) 0 0 (fun r M2 => r = none ∧ M2 = (Sh0 n, z, L))) (d n : Nat) (A : Nat → Nat → Int32) (L : Nat → Nat → Int64) {Q : Option Value → jM → Prop} {z : (Nat → Nat → Int32)} (h : gX11_one rc A = some z) (k3 : Q (none) (Sh0 n, z, L)) : pX11_one (jEv jtab (D + d + 4), jWP (jEv jtab (D + d + 4)) Q ((Sh0 n).length, jsl (Sh0 n)) pX11_one, Q, ((Sh0 n).length, jsl (Sh0 n))) 0 [some (.ref 94)] [] (Sh0 n, A, L) := by
  unfold gX11_one at h
  refine y_mask <| x_aload rfl <| x_getI (Nat.le_of_ble_eq_true rfl) rfl rfl <| y_if_lt (fun h1 => ?_) (fun h1 => ?_)
  · replace h := of_pos h h1
    refine jWP.intro (pr := pX11_one) (pc := 8) ?_
    refine y_mask <| x_aload rfl <| x_getI (Nat.le_of_ble_eq_true rfl) rfl rfl <| x_push <| y_cmp_ne (fun h2 => ?_) (fun h2 => ?_)
    · replace h := of_neg h h2
      refine jWP.intro (pr := pX11_one) (pc := 32) ?_
      refine y_mask <| x_aload rfl <| x_getI (Nat.le_of_ble_eq_true rfl) rfl rfl <| x_push <| y_cmp_ne (fun h3 => ?_) (fun h3 => ?_)
      · replace h := of_neg h h3
        refine jWP.intro (pr := pX11_one) (pc := 65) ?_
        exact tjX11_one_65 rc D hrc0 hrc1 hrc2 d n A L h k3
      · replace h := of_pos h h3
        refine jWP.intro (pr := pX11_one) (pc := 40) ?_
        refine y_mask <| x_aload rfl <| x_getI (Nat.le_of_ble_eq_true rfl) rfl rfl <| x_push <| y_cmp_ge (fun h4 => ?_) (fun h4 => ?_)
        · replace h := of_pos h h4
          refine jWP.intro (pr := pX11_one) (pc := 65) ?_
          exact tjX11_one_65 rc D hrc0 hrc1 hrc2 d n A L h k3
        · replace h := of_neg h h4
          refine jWP.intro (pr := pX11_one) (pc := 49) ?_
          obtain ⟨r5, hc6, h⟩ := of_bind h
          obtain ⟨r7, hc8, h⟩ := of_bind h
          show bX11_one_49 _ _ _ _
          unfold bX11_one_49
          refine y_mask ?_
          refine x_aload rfl ?_
          refine x_push ?_
          refine x_aload rfl ?_
          refine x_getI (Nat.le_of_ble_eq_true rfl) rfl rfl ?_
          refine y_invV2 (Nat.le_of_ble_eq_true rfl) rfl (Nat.le_of_ble_eq_true rfl) ?_
          refine jEv.exV (kX11_addStep _ _ _ _ _ _ hc6) ?_
          refine x_aload rfl ?_
          refine y_invV0 (Nat.le_of_ble_eq_true rfl) rfl (Nat.le_of_ble_eq_true rfl) ?_
          refine jEv.exV (kX11_next _ _ _ _ hc8) ?_
          refine y_mask ?_
          refine y_goto ?_
          refine jWP.intro (pr := pX11_one) (pc := 161) ?_
          refine y_mrv (bs := []) (ls := []) ?_
          obtain rfl := Option.some.inj h
          exact k3
    · replace h := of_pos h h2
      refine jWP.intro (pr := pX11_one) (pc := 16) ?_
      obtain ⟨r9, hc10, h⟩ := of_bind h
      obtain ⟨r11, hc12, h⟩ := of_bind h
      show bX11_one_16 _ _ _ _
      unfold bX11_one_16
      refine y_mask ?_
      refine x_aload rfl ?_
      refine x_push ?_
      refine x_aload rfl ?_
      refine x_getI (Nat.le_of_ble_eq_true rfl) rfl rfl ?_
      refine y_invV2 (Nat.le_of_ble_eq_true rfl) rfl (Nat.le_of_ble_eq_true rfl) ?_
      refine jEv.exV (kX11_addStep _ _ _ _ _ _ hc10) ?_
      refine x_aload rfl ?_
      refine y_invV0 (Nat.le_of_ble_eq_true rfl) rfl (Nat.le_of_ble_eq_true rfl) ?_
      refine jEv.exV (kX11_next _ _ _ _ hc12) ?_
      refine y_mask ?_
      refine y_goto ?_
      refine jWP.intro (pr := pX11_one) (pc := 161) ?_
      refine y_mrv (bs := []) (ls := []) ?_
      obtain rfl := Option.some.inj h
      exact k3
  · replace h := of_neg h h1
    refine jWP.intro (pr := pX11_one) (pc := 7) ?_
    refine y_mrv (bs := []) (ls := []) ?_
    obtain rfl := Option.some.inj h
    exact k3
theorem qX11_one (rc : Nat → (Nat → Nat → Int32) → Option (Nat → Nat → Int32)) (D : Nat) (hrc0 : ∀ (d n : Nat) (A : Nat → Nat → Int32) (L : Nat → Nat → Int64) (z : Nat → Nat → Int32), rc 0 A = some z → jEv jtab (D + d) 180 [.ref 94] (Sh0 n, A, L) 0 0 (fun r M2 => r = none ∧ M2 = (Sh0 n, z, L))) (hrc1 : ∀ (d n : Nat) (A : Nat → Nat → Int32) (L : Nat → Nat → Int64) (z : Nat → Nat → Int32), rc 1 A = some z → jEv jtab (D + d) 182 [.ref 94] (Sh0 n, A, L) 0 0 (fun r M2 => r = none ∧ M2 = (Sh0 n, z, L))) (hrc2 : ∀ (d n : Nat) (A : Nat → Nat → Int32) (L : Nat → Nat → Int64) (z : Nat → Nat → Int32), rc 2 A = some z → jEv jtab (D + d) 185 [.ref 94] (Sh0 n, A, L) 0 0 (fun r M2 => r = none ∧ M2 = (Sh0 n, z, L))) (d n : Nat) (A : Nat → Nat → Int32) (L : Nat → Nat → Int64) {z : (Nat → Nat → Int32)} (h : gX11_one rc A = some z) : jEv jtab (D + d + 5) 185 [.ref 94] (Sh0 n, A, L) 0 0 (fun r M2 => r = none ∧ M2 = (Sh0 n, z, L)) :=
  jEv.mk (mt := mX11_one) rfl (Nat.le_of_ble_eq_true rfl) (jWP.intro (pr := pX11_one) (pc := 0) (tgX11_one rc D hrc0 hrc1 hrc2 d n A L h ⟨trivial, jCn.mk ⟨rfl, rfl⟩⟩))
theorem rX11_k (k : Nat) : (∀ (d n : Nat) (A : Nat → Nat → Int32) (L : Nat → Nat → Int64) (z : Nat → Nat → Int32), rX11 k 0 A = some z → jEv jtab (k * 8 + d) 180 [.ref 94] (Sh0 n, A, L) 0 0 (fun r M2 => r = none ∧ M2 = (Sh0 n, z, L))) ∧ (∀ (d n : Nat) (A : Nat → Nat → Int32) (L : Nat → Nat → Int64) (z : Nat → Nat → Int32), rX11 k 1 A = some z → jEv jtab (k * 8 + d) 182 [.ref 94] (Sh0 n, A, L) 0 0 (fun r M2 => r = none ∧ M2 = (Sh0 n, z, L))) ∧ (∀ (d n : Nat) (A : Nat → Nat → Int32) (L : Nat → Nat → Int64) (z : Nat → Nat → Int32), rX11 k 2 A = some z → jEv jtab (k * 8 + d) 185 [.ref 94] (Sh0 n, A, L) 0 0 (fun r M2 => r = none ∧ M2 = (Sh0 n, z, L))) := by
  induction k with
  | zero => exact ⟨fun _ _ _ _ _ h => absurd h (by simp [rX11]), fun _ _ _ _ _ h => absurd h (by simp [rX11]), fun _ _ _ _ _ h => absurd h (by simp [rX11])⟩
  | succ k ih =>
    obtain ⟨i0, i1, i2⟩ := ih
    refine ⟨fun d n A L z h => ?_, fun d n A L z h => ?_, fun d n A L z h => ?_⟩
    · exact jEv.le (by rw [Nat.succ_mul]; omega) (qX11_either (rX11 k) (k * 8) i0 i1 i2 d n A L (by rw [rX11] at h; exact h))
    · exact jEv.le (by rw [Nat.succ_mul]; omega) (qX11_denied (rX11 k) (k * 8) i0 i1 i2 d n A L (by rw [rX11] at h; exact h))
    · exact jEv.le (by rw [Nat.succ_mul]; omega) (qX11_one (rX11 k) (k * 8) i0 i1 i2 d n A L (by rw [rX11] at h; exact h))
theorem kX11_either (d n : Nat) (A : Nat → Nat → Int32) (L : Nat → Nat → Int64) {z : Nat → Nat → Int32} (h : fX11_either 64 A = some z) : jEv jtab (d + 512) 180 [.ref 94] (Sh0 n, A, L) 0 0 (fun r M2 => r = none ∧ M2 = (Sh0 n, z, L)) := jEv.le (by omega) ((rX11_k 64).1 d n A L z h)
theorem kX11_denied (d n : Nat) (A : Nat → Nat → Int32) (L : Nat → Nat → Int64) {z : Nat → Nat → Int32} (h : fX11_denied 64 A = some z) : jEv jtab (d + 512) 182 [.ref 94] (Sh0 n, A, L) 0 0 (fun r M2 => r = none ∧ M2 = (Sh0 n, z, L)) := jEv.le (by omega) ((rX11_k 64).2.1 d n A L z h)
theorem kX11_one (d n : Nat) (A : Nat → Nat → Int32) (L : Nat → Nat → Int64) {z : Nat → Nat → Int32} (h : fX11_one 64 A = some z) : jEv jtab (d + 512) 185 [.ref 94] (Sh0 n, A, L) 0 0 (fun r M2 => r = none ∧ M2 = (Sh0 n, z, L)) := jEv.le (by omega) ((rX11_k 64).2.2 d n A L z h)
set_option maxRecDepth 20000 in
theorem tfX11_rule (d n : Nat) (A : Nat → Nat → Int32) (L : Nat → Nat → Int64) (l1 : Int32) {Q : Option Value → jM → Prop} {z : (Nat → Nat → Int32)} (h : fX11_rule A l1 = some z) (k3 : Q (none) (Sh0 n, z, L)) : pX11_rule (jEv jtab (d + 512), jWP (jEv jtab (d + 512)) Q ((Sh0 n).length, jsl (Sh0 n)) pX11_rule, Q, ((Sh0 n).length, jsl (Sh0 n))) 0 [some (.ref 94), some (.int l1)] [] (Sh0 n, A, L) := by
  unfold fX11_rule at h
  refine y_mask <| x_aload rfl <| x_push <| x_iload rfl <| x_iadd <| y_invV1 (Nat.le_of_ble_eq_true rfl) rfl (Nat.le_of_ble_eq_true rfl) <| jEv.exZ (q := 177) rfl (kX11_isKey _ _ _ _ _) <| fun hz1 => y_if_ne (fun h2 => ?_) (fun h2 => ?_)
  · replace h := of_neg h h2
    refine jWP.intro (pr := pX11_rule) (pc := 16) ?_
    obtain ⟨r3, hc4, h⟩ := of_bind h
    obtain ⟨r5, hc6, h⟩ := of_bind h
    show bX11_rule_16 _ _ _ _
    unfold bX11_rule_16
    refine y_mask ?_
    refine x_aload rfl ?_
    refine y_invV0 (Nat.le_of_ble_eq_true rfl) rfl (Nat.le_of_ble_eq_true rfl) ?_
    refine jEv.exV (kX11_next _ _ _ _ hc4) ?_
    refine x_aload rfl ?_
    refine y_invV0 (Nat.le_of_ble_eq_true rfl) rfl (Nat.le_of_ble_eq_true rfl) ?_
    refine jEv.exV (kX11_either _ _ _ _ hc6) ?_
    refine x_aload rfl ?_
    refine x_push ?_
    refine y_invV1 (Nat.le_of_ble_eq_true rfl) rfl (Nat.le_of_ble_eq_true rfl) ?_
    refine jEv.exZ (q := 176) rfl (kX11_isSign _ _ _ _ _) (fun hz7 => ?_)
    refine y_if_ne (fun h8 => ?_) (fun h8 => ?_)
    · replace h := of_neg h h8
      refine jWP.intro (pr := pX11_rule) (pc := 38) ?_
      obtain ⟨r9, hc10, h⟩ := of_bind h
      obtain ⟨g11, h⟩ := of_guard h
      obtain ⟨m12, hm13, h⟩ := of_bind h
      show bX11_rule_38 _ _ _ _
      unfold bX11_rule_38
      refine y_mask ?_
      refine x_aload rfl ?_
      refine y_invV0 (Nat.le_of_ble_eq_true rfl) rfl (Nat.le_of_ble_eq_true rfl) ?_
      refine jEv.exV (kX11_next _ _ _ _ hc10) ?_
      refine x_aload rfl ?_
      refine x_getR (Nat.le_of_ble_eq_true rfl) rfl rfl ?_
      refine x_push ?_
      refine x_iload rfl ?_
      refine x_iadd ?_
      refine x_aload rfl ?_
      refine x_getI (Nat.le_of_ble_eq_true rfl) rfl rfl ?_
      refine x_iast (Nat.le_of_ble_eq_true rfl) rfl g11 ?_
      refine y_let (Option.some.inj hm13) ?_
      refine y_return (ls := [some (.ref 94), some (.int l1)]) ?_
      obtain rfl := Option.some.inj h
      exact k3
    · replace h := of_pos h h8
      refine jWP.intro (pr := pX11_rule) (pc := 33) ?_
      obtain ⟨r14, hc15, h⟩ := of_bind h
      refine y_mask <| x_aload rfl <| y_invV0 (Nat.le_of_ble_eq_true rfl) rfl (Nat.le_of_ble_eq_true rfl) <| jEv.exV (kX11_faulty _ _ _ _ hc15) <| y_return (ls := [some (.ref 94), none]) ?_
      obtain rfl := Option.some.inj h
      exact k3
  · replace h := of_pos h h2
    refine jWP.intro (pr := pX11_rule) (pc := 11) ?_
    obtain ⟨r16, hc17, h⟩ := of_bind h
    refine y_mask <| x_aload rfl <| y_invV0 (Nat.le_of_ble_eq_true rfl) rfl (Nat.le_of_ble_eq_true rfl) <| jEv.exV (kX11_faulty _ _ _ _ hc17) <| y_return (ls := [some (.ref 94), none]) ?_
    obtain rfl := Option.some.inj h
    exact k3
theorem kX11_rule (d n : Nat) (A : Nat → Nat → Int32) (L : Nat → Nat → Int64) (l1 : Int32) {z : (Nat → Nat → Int32)} (h : fX11_rule A l1 = some z) : jEv jtab (d + 513) 186 [.ref 94, .int l1] (Sh0 n, A, L) 0 0 (fun r M2 => r = none ∧ M2 = (Sh0 n, z, L)) :=
  jEv.mk (mt := mX11_rule) rfl (Nat.le_of_ble_eq_true rfl) (jWP.intro (pr := pX11_rule) (pc := 0) (tfX11_rule d n A L l1 h ⟨trivial, jCn.mk ⟨rfl, rfl⟩⟩))
set_option maxRecDepth 20000 in
theorem tcX11_text_38 (d n : Nat) (A : Nat → Nat → Int32) (L : Nat → Nat → Int64) (s : (Int32 × (Nat → Nat → Int32))) {Q : Option Value → jM → Prop} {z : ((Int32 × (Nat → Nat → Int32)) ⊕ (Nat → Nat → Int32))} (h : cX11_text_38 s = some z) (k1 : ∀ s0, z = .inl s0 → pX11_text (jEv jtab (d + 513), jWP (jEv jtab (d + 513)) Q ((Sh0 n).length, jsl (Sh0 n)) pX11_text, Q, ((Sh0 n).length, jsl (Sh0 n))) 38 [some (.ref 94), some (.int s0.1)] [] (Sh0 n, s0.2, L)) (k2 : ∀ s0, z = .inr s0 → pX11_text (jEv jtab (d + 513), jWP (jEv jtab (d + 513)) Q ((Sh0 n).length, jsl (Sh0 n)) pX11_text, Q, ((Sh0 n).length, jsl (Sh0 n))) 61 [some (.ref 94), none] [] (Sh0 n, s0, L)) : pX11_text (jEv jtab (d + 513), jWP (jEv jtab (d + 513)) Q ((Sh0 n).length, jsl (Sh0 n)) pX11_text, Q, ((Sh0 n).length, jsl (Sh0 n))) 38 [some (.ref 94), some (.int s.1)] [] (Sh0 n, s.2, L) := by
  unfold cX11_text_38 at h
  refine y_mask <| x_iload rfl <| x_push <| y_cmp_gt (fun h1 => ?_) (fun h1 => ?_)
  · replace h := of_pos h h1
    refine jWP.intro (pr := pX11_text) (pc := 61) ?_
    have hk := k2 _ (Option.some.inj h).symm
    exact hk
  · replace h := of_neg h h1
    refine jWP.intro (pr := pX11_text) (pc := 43) ?_
    refine y_mask <| x_aload rfl <| x_getI (Nat.le_of_ble_eq_true rfl) rfl rfl <| y_if_ge (fun h2 => ?_) (fun h2 => ?_)
    · replace h := of_pos h h2
      refine jWP.intro (pr := pX11_text) (pc := 61) ?_
      have hk := k2 _ (Option.some.inj h).symm
      exact hk
    · replace h := of_neg h h2
      refine jWP.intro (pr := pX11_text) (pc := 50) ?_
      obtain ⟨r3, hc4, h⟩ := of_bind h
      refine y_mask <| x_aload rfl <| x_iload rfl <| y_invV1 (Nat.le_of_ble_eq_true rfl) rfl (Nat.le_of_ble_eq_true rfl) <| jEv.exV (kX11_rule _ _ _ _ _ hc4) <| x_iinc rfl rfl <| y_mask <| y_goto ?_
      refine jWP.intro (pr := pX11_text) (pc := 38) ?_
      have hk := k1 _ (Option.some.inj h).symm
      exact hk
set_option maxRecDepth 20000 in
theorem tcX11_text_102 (d n : Nat) (A : Nat → Nat → Int32) (L : Nat → Nat → Int64) (s : (Int32 × (Nat → Nat → Int32))) {Q : Option Value → jM → Prop} {z : ((Int32 × (Nat → Nat → Int32)) ⊕ (Nat → Nat → Int32))} (h : cX11_text_102 s = some z) (k1 : ∀ s0, z = .inl s0 → pX11_text (jEv jtab (d + 513), jWP (jEv jtab (d + 513)) Q ((Sh0 n).length, jsl (Sh0 n)) pX11_text, Q, ((Sh0 n).length, jsl (Sh0 n))) 102 [some (.ref 94), some (.int s0.1)] [] (Sh0 n, s0.2, L)) (k2 : ∀ s0, z = .inr s0 → pX11_text (jEv jtab (d + 513), jWP (jEv jtab (d + 513)) Q ((Sh0 n).length, jsl (Sh0 n)) pX11_text, Q, ((Sh0 n).length, jsl (Sh0 n))) 166 [some (.ref 94), none] [] (Sh0 n, s0, L)) : pX11_text (jEv jtab (d + 513), jWP (jEv jtab (d + 513)) Q ((Sh0 n).length, jsl (Sh0 n)) pX11_text, Q, ((Sh0 n).length, jsl (Sh0 n))) 102 [some (.ref 94), some (.int s.1)] [] (Sh0 n, s.2, L) := by
  unfold cX11_text_102 at h
  refine y_mask <| x_iload rfl <| x_aload rfl <| x_getI (Nat.le_of_ble_eq_true rfl) rfl rfl <| y_cmp_ge (fun h1 => ?_) (fun h1 => ?_)
  · replace h := of_pos h h1
    refine jWP.intro (pr := pX11_text) (pc := 166) ?_
    have hk := k2 _ (Option.some.inj h).symm
    exact hk
  · replace h := of_neg h h1
    refine jWP.intro (pr := pX11_text) (pc := 110) ?_
    obtain ⟨g2, h⟩ := of_guard h
    obtain ⟨g3, h⟩ := of_guard h
    obtain ⟨m4, hm5, h⟩ := of_bind h
    obtain ⟨g6, h⟩ := of_guard h
    obtain ⟨g7, h⟩ := of_guard h
    obtain ⟨m8, hm9, h⟩ := of_bind h
    show bX11_text_110 _ _ _ _
    unfold bX11_text_110
    refine y_mask ?_
    refine x_aload rfl ?_
    refine x_getR (Nat.le_of_ble_eq_true rfl) rfl rfl ?_
    refine x_push ?_
    refine x_aload rfl ?_
    refine x_getI (Nat.le_of_ble_eq_true rfl) rfl rfl ?_
    refine x_imul ?_
    refine x_iload rfl ?_
    refine x_iadd ?_
    refine x_aload rfl ?_
    refine x_getR (Nat.le_of_ble_eq_true rfl) rfl rfl ?_
    refine x_push ?_
    refine x_iload rfl ?_
    refine x_iadd ?_
    refine x_iald rfl g2 ?_
    refine x_iast (Nat.le_of_ble_eq_true rfl) rfl g3 ?_
    refine y_let (Option.some.inj hm5) ?_
    refine x_aload rfl ?_
    refine x_getR (Nat.le_of_ble_eq_true rfl) rfl rfl ?_
    refine x_push ?_
    refine x_aload rfl ?_
    refine x_getI (Nat.le_of_ble_eq_true rfl) rfl rfl ?_
    refine x_imul ?_
    refine x_iload rfl ?_
    refine x_iadd ?_
    refine x_aload rfl ?_
    refine x_getR (Nat.le_of_ble_eq_true rfl) rfl rfl ?_
    refine x_push ?_
    refine x_iload rfl ?_
    refine x_iadd ?_
    refine x_iald rfl g6 ?_
    refine x_iast (Nat.le_of_ble_eq_true rfl) rfl g7 ?_
    refine y_let (Option.some.inj hm9) ?_
    refine x_iinc rfl rfl ?_
    refine y_mask ?_
    refine y_goto ?_
    refine jWP.intro (pr := pX11_text) (pc := 102) ?_
    have hk := k1 _ (Option.some.inj h).symm
    exact hk
set_option maxRecDepth 20000 in
theorem tcX11_text_168 (d n : Nat) (A : Nat → Nat → Int32) (L : Nat → Nat → Int64) (s : (Int32 × (Nat → Nat → Int32))) {Q : Option Value → jM → Prop} {z : ((Int32 × (Nat → Nat → Int32)) ⊕ (Nat → Nat → Int32))} (h : cX11_text_168 s = some z) (k1 : ∀ s0, z = .inl s0 → pX11_text (jEv jtab (d + 513), jWP (jEv jtab (d + 513)) Q ((Sh0 n).length, jsl (Sh0 n)) pX11_text, Q, ((Sh0 n).length, jsl (Sh0 n))) 168 [some (.ref 94), some (.int s0.1)] [] (Sh0 n, s0.2, L)) (k2 : ∀ s0, z = .inr s0 → pX11_text (jEv jtab (d + 513), jWP (jEv jtab (d + 513)) Q ((Sh0 n).length, jsl (Sh0 n)) pX11_text, Q, ((Sh0 n).length, jsl (Sh0 n))) 201 [some (.ref 94), none] [] (Sh0 n, s0, L)) : pX11_text (jEv jtab (d + 513), jWP (jEv jtab (d + 513)) Q ((Sh0 n).length, jsl (Sh0 n)) pX11_text, Q, ((Sh0 n).length, jsl (Sh0 n))) 168 [some (.ref 94), some (.int s.1)] [] (Sh0 n, s.2, L) := by
  unfold cX11_text_168 at h
  refine y_mask <| x_iload rfl <| x_push <| y_cmp_ge (fun h1 => ?_) (fun h1 => ?_)
  · replace h := of_pos h h1
    refine jWP.intro (pr := pX11_text) (pc := 201) ?_
    have hk := k2 _ (Option.some.inj h).symm
    exact hk
  · replace h := of_neg h h1
    refine jWP.intro (pr := pX11_text) (pc := 173) ?_
    obtain ⟨g2, h⟩ := of_guard h
    obtain ⟨g3, h⟩ := of_guard h
    obtain ⟨m4, hm5, h⟩ := of_bind h
    show bX11_text_173 _ _ _ _
    unfold bX11_text_173
    refine y_mask ?_
    refine x_aload rfl ?_
    refine x_getR (Nat.le_of_ble_eq_true rfl) rfl rfl ?_
    refine x_push ?_
    refine x_aload rfl ?_
    refine x_getI (Nat.le_of_ble_eq_true rfl) rfl rfl ?_
    refine x_imul ?_
    refine x_iload rfl ?_
    refine x_iadd ?_
    refine x_aload rfl ?_
    refine x_getR (Nat.le_of_ble_eq_true rfl) rfl rfl ?_
    refine x_push ?_
    refine x_iload rfl ?_
    refine x_iadd ?_
    refine x_iald rfl g2 ?_
    refine x_iast (Nat.le_of_ble_eq_true rfl) rfl g3 ?_
    refine y_let (Option.some.inj hm5) ?_
    refine x_iinc rfl rfl ?_
    refine y_mask ?_
    refine y_goto ?_
    refine jWP.intro (pr := pX11_text) (pc := 168) ?_
    have hk := k1 _ (Option.some.inj h).symm
    exact hk
set_option maxRecDepth 20000 in
theorem tjX11_text_80 (d n : Nat) (A : Nat → Nat → Int32) (L : Nat → Nat → Int64) {Q : Option Value → jM → Prop} {z : (Int32 × (Nat → Nat → Int32))} (h : jX11_text_80 A = some z) (k3 : Q (some (.int z.1)) (Sh0 n, z.2, L)) : pX11_text (jEv jtab (d + 513), jWP (jEv jtab (d + 513)) Q ((Sh0 n).length, jsl (Sh0 n)) pX11_text, Q, ((Sh0 n).length, jsl (Sh0 n))) 80 [some (.ref 94), none] [] (Sh0 n, A, L) := by
  unfold jX11_text_80 at h
  refine y_mask <| x_aload rfl <| x_push <| x_putI (Nat.le_of_ble_eq_true rfl) rfl rfl <| x_aload rfl <| x_getI (Nat.le_of_ble_eq_true rfl) rfl rfl <| y_if_lt (fun h1 => ?_) (fun h1 => ?_)
  · replace h := of_pos h h1
    refine jWP.intro (pr := pX11_text) (pc := 100) ?_
    refine y_mask <| x_push <| x_istore rfl <| y_mask <| y_goto ?_
    obtain ⟨e2, hw3, h⟩ := of_bind h
    refine jWP.intro (pr := pX11_text) (pc := 102) ?_
    refine jwh_use (G := (fun s0 => pX11_text (jEv jtab (d + 513), jWP (jEv jtab (d + 513)) Q ((Sh0 n).length, jsl (Sh0 n)) pX11_text, Q, ((Sh0 n).length, jsl (Sh0 n))) 102 [some (.ref 94), some (.int s0.1)] [] (Sh0 n, s0.2, L))) (Gx := (fun s0 => pX11_text (jEv jtab (d + 513), jWP (jEv jtab (d + 513)) Q ((Sh0 n).length, jsl (Sh0 n)) pX11_text, Q, ((Sh0 n).length, jsl (Sh0 n))) 166 [some (.ref 94), none] [] (Sh0 n, s0, L))) (fun s1 z1 hz kk1 kk2 => tcX11_text_102 d n (va_up A 94 (upd (A 94) 4 (0 : Int32))) L s1 hz kk1 kk2) hw3 ?_
    refine y_mask <| x_push <| x_istore rfl <| y_mask <| y_goto ?_
    obtain ⟨e4, hw5, h⟩ := of_bind h
    refine jWP.intro (pr := pX11_text) (pc := 168) ?_
    refine jwh_use (G := (fun s0 => pX11_text (jEv jtab (d + 513), jWP (jEv jtab (d + 513)) Q ((Sh0 n).length, jsl (Sh0 n)) pX11_text, Q, ((Sh0 n).length, jsl (Sh0 n))) 168 [some (.ref 94), some (.int s0.1)] [] (Sh0 n, s0.2, L))) (Gx := (fun s0 => pX11_text (jEv jtab (d + 513), jWP (jEv jtab (d + 513)) Q ((Sh0 n).length, jsl (Sh0 n)) pX11_text, Q, ((Sh0 n).length, jsl (Sh0 n))) 201 [some (.ref 94), none] [] (Sh0 n, s0, L))) (fun s1 z1 hz kk1 kk2 => tcX11_text_168 d n e2 L s1 hz kk1 kk2) hw5 ?_
    show bX11_text_201 _ _ _ _
    unfold bX11_text_201
    refine y_mask ?_
    refine x_aload rfl ?_
    refine x_dup rfl ?_
    refine x_getI (Nat.le_of_ble_eq_true rfl) rfl rfl ?_
    refine x_push ?_
    refine x_iadd ?_
    refine x_putI (Nat.le_of_ble_eq_true rfl) rfl rfl ?_
    refine x_aload rfl ?_
    refine x_getI (Nat.le_of_ble_eq_true rfl) rfl rfl ?_
    refine x_push ?_
    refine x_isub ?_
    refine y_ireturn (ls := [some (.ref 94), none]) ?_
    obtain rfl := Option.some.inj h
    exact k3
  · replace h := of_neg h h1
    refine jWP.intro (pr := pX11_text) (pc := 92) ?_
    refine y_mask <| x_push <| x_aload rfl <| x_getI (Nat.le_of_ble_eq_true rfl) rfl rfl <| x_isub <| y_ireturn (ls := [some (.ref 94), none]) ?_
    obtain rfl := Option.some.inj h
    exact k3
set_option maxRecDepth 20000 in
theorem tjX11_text_61 (d n : Nat) (A : Nat → Nat → Int32) (L : Nat → Nat → Int64) {Q : Option Value → jM → Prop} {z : (Int32 × (Nat → Nat → Int32))} (h : jX11_text_61 A = some z) (k3 : Q (some (.int z.1)) (Sh0 n, z.2, L)) : pX11_text (jEv jtab (d + 513), jWP (jEv jtab (d + 513)) Q ((Sh0 n).length, jsl (Sh0 n)) pX11_text, Q, ((Sh0 n).length, jsl (Sh0 n))) 61 [some (.ref 94), none] [] (Sh0 n, A, L) := by
  unfold jX11_text_61 at h
  refine y_mask <| x_aload rfl <| x_getI (Nat.le_of_ble_eq_true rfl) rfl rfl <| y_if_ge (fun h1 => ?_) (fun h1 => ?_)
  · replace h := of_pos h h1
    refine jWP.intro (pr := pX11_text) (pc := 80) ?_
    exact tjX11_text_80 d n A L h k3
  · replace h := of_neg h h1
    refine jWP.intro (pr := pX11_text) (pc := 68) ?_
    refine y_mask <| x_aload rfl <| x_getI (Nat.le_of_ble_eq_true rfl) rfl rfl <| x_push <| y_cmp_eq (fun h2 => ?_) (fun h2 => ?_)
    · replace h := of_pos h h2
      refine jWP.intro (pr := pX11_text) (pc := 80) ?_
      exact tjX11_text_80 d n A L h k3
    · replace h := of_neg h h2
      refine jWP.intro (pr := pX11_text) (pc := 76) ?_
      obtain ⟨r3, hc4, h⟩ := of_bind h
      refine y_mask <| x_aload rfl <| y_invV0 (Nat.le_of_ble_eq_true rfl) rfl (Nat.le_of_ble_eq_true rfl) <| jEv.exV (kX11_faulty _ _ _ _ hc4) <| y_mask <| y_goto ?_
      refine jWP.intro (pr := pX11_text) (pc := 80) ?_
      exact tjX11_text_80 d n r3 L h k3
set_option maxRecDepth 20000 in
theorem tfX11_text (d n : Nat) (A : Nat → Nat → Int32) (L : Nat → Nat → Int64) {Q : Option Value → jM → Prop} {z : (Int32 × (Nat → Nat → Int32))} (h : fX11_text A = some z) (k3 : Q (some (.int z.1)) (Sh0 n, z.2, L)) : pX11_text (jEv jtab (d + 513), jWP (jEv jtab (d + 513)) Q ((Sh0 n).length, jsl (Sh0 n)) pX11_text, Q, ((Sh0 n).length, jsl (Sh0 n))) 0 [some (.ref 94), none] [] (Sh0 n, A, L) := by
  unfold fX11_text at h
  refine y_mask <| x_aload rfl <| x_getI (Nat.le_of_ble_eq_true rfl) rfl rfl <| x_push <| y_cmp_ne (fun h1 => ?_) (fun h1 => ?_)
  · replace h := of_neg h h1
    refine jWP.intro (pr := pX11_text) (pc := 12) ?_
    obtain ⟨m2, hm3, h⟩ := of_bind h
    obtain ⟨m4, hm5, h⟩ := of_bind h
    obtain ⟨r6, hc7, h⟩ := of_bind h
    show bX11_text_12 _ _ _ _
    unfold bX11_text_12
    refine y_mask ?_
    refine x_aload rfl ?_
    refine x_push ?_
    refine x_putI (Nat.le_of_ble_eq_true rfl) rfl rfl ?_
    refine x_aload rfl ?_
    refine x_push ?_
    refine x_putI (Nat.le_of_ble_eq_true rfl) rfl rfl ?_
    refine y_let (Option.some.inj hm3) ?_
    refine x_aload rfl ?_
    refine x_push ?_
    refine x_putI (Nat.le_of_ble_eq_true rfl) rfl rfl ?_
    refine x_aload rfl ?_
    refine x_push ?_
    refine x_putI (Nat.le_of_ble_eq_true rfl) rfl rfl ?_
    refine y_let (Option.some.inj hm5) ?_
    refine x_aload rfl ?_
    refine y_invV0 (Nat.le_of_ble_eq_true rfl) rfl (Nat.le_of_ble_eq_true rfl) ?_
    refine jEv.exV (kX11_next _ _ _ _ hc7) ?_
    refine x_push ?_
    refine x_istore rfl ?_
    refine y_mask ?_
    refine y_goto ?_
    obtain ⟨e8, hw9, h⟩ := of_bind h
    refine jWP.intro (pr := pX11_text) (pc := 38) ?_
    refine jwh_use (G := (fun s0 => pX11_text (jEv jtab (d + 513), jWP (jEv jtab (d + 513)) Q ((Sh0 n).length, jsl (Sh0 n)) pX11_text, Q, ((Sh0 n).length, jsl (Sh0 n))) 38 [some (.ref 94), some (.int s0.1)] [] (Sh0 n, s0.2, L))) (Gx := (fun s0 => pX11_text (jEv jtab (d + 513), jWP (jEv jtab (d + 513)) Q ((Sh0 n).length, jsl (Sh0 n)) pX11_text, Q, ((Sh0 n).length, jsl (Sh0 n))) 61 [some (.ref 94), none] [] (Sh0 n, s0, L))) (fun s1 z1 hz kk1 kk2 => tcX11_text_38 d n r6 L s1 hz kk1 kk2) hw9 ?_
    exact tjX11_text_61 d n e8 L h k3
  · replace h := of_pos h h1
    refine jWP.intro (pr := pX11_text) (pc := 9) ?_
    refine y_mpri (bs := []) (ls := []) ?_
    obtain rfl := Option.some.inj h
    exact k3
theorem kX11_text (d n : Nat) (A : Nat → Nat → Int32) (L : Nat → Nat → Int64) {z : (Int32 × (Nat → Nat → Int32))} (h : fX11_text A = some z) : jEv jtab (d + 514) 187 [.ref 94] (Sh0 n, A, L) 0 0 (fun r M2 => r = some (.int z.1) ∧ M2 = (Sh0 n, z.2, L)) :=
  jEv.mk (mt := mX11_text) rfl (Nat.le_of_ble_eq_true rfl) (jWP.intro (pr := pX11_text) (pc := 0) (tfX11_text d n A L h ⟨trivial, jCn.mk ⟨rfl, rfl⟩⟩))
set_option maxRecDepth 20000 in
theorem tfX11_force (d n : Nat) (A : Nat → Nat → Int32) (L : Nat → Nat → Int64) (l1 : Int32) {Q : Option Value → jM → Prop} {z : (Int32 × (Nat → Nat → Int32))} (h : fX11_force A l1 = some z) (k3 : Q (some (.int z.1)) (Sh0 n, z.2, L)) : pX11_force (jEv jtab (d + 1), jWP (jEv jtab (d + 1)) Q ((Sh0 n).length, jsl (Sh0 n)) pX11_force, Q, ((Sh0 n).length, jsl (Sh0 n))) 0 [some (.ref 94), some (.int l1), none] [] (Sh0 n, A, L) := by
  unfold fX11_force at h
  show bX11_force_0 _ _ _ _
  unfold bX11_force_0
  refine y_mask ?_
  refine x_iload rfl ?_
  refine x_push ?_
  refine x_aload rfl ?_
  refine x_getI (Nat.le_of_ble_eq_true rfl) rfl rfl ?_
  refine x_push ?_
  refine x_isub ?_
  refine y_invS3 (Nat.le_of_ble_eq_true rfl) ?_
  refine jEv.exZ (q := 159) rfl (kX11_in _ _ _ _ _ _ _) (fun hz1 => ?_)
  refine y_if_ne (fun h2 => ?_) (fun h2 => ?_)
  · replace h := of_neg h h2
    refine jWP.intro (pr := pX11_force) (pc := 17) ?_
    refine y_mask <| x_aload rfl <| x_getI (Nat.le_of_ble_eq_true rfl) rfl rfl <| x_istore rfl <| x_aload rfl <| x_iload rfl <| x_putI (Nat.le_of_ble_eq_true rfl) rfl rfl <| x_iload rfl <| y_ireturn (ls := [some (.ref 94), some (.int l1), some (.int (A 94 6))]) ?_
    obtain rfl := Option.some.inj h
    exact k3
  · replace h := of_pos h h2
    refine jWP.intro (pr := pX11_force) (pc := 14) ?_
    refine y_mpri (bs := []) (ls := []) ?_
    obtain rfl := Option.some.inj h
    exact k3
theorem kX11_force (d n : Nat) (A : Nat → Nat → Int32) (L : Nat → Nat → Int64) (l1 : Int32) {z : (Int32 × (Nat → Nat → Int32))} (h : fX11_force A l1 = some z) : jEv jtab (d + 2) 188 [.ref 94, .int l1] (Sh0 n, A, L) 0 0 (fun r M2 => r = some (.int z.1) ∧ M2 = (Sh0 n, z.2, L)) :=
  jEv.mk (mt := mX11_force) rfl (Nat.le_of_ble_eq_true rfl) (jWP.intro (pr := pX11_force) (pc := 0) (tfX11_force d n A L l1 h ⟨trivial, jCn.mk ⟨rfl, rfl⟩⟩))
set_option maxRecDepth 20000 in
theorem tfX11_twoOf (d n : Nat) (A : Nat → Nat → Int32) (L : Nat → Nat → Int64) (l0 : Int32) (l1 : Int32) (l2 : Int32) {Q : Option Value → jM → Prop} {z : Int32} (h : fX11_twoOf l0 l1 l2 = z) (k3 : Q (some (.int z)) (Sh0 n, A, L)) : pX11_twoOf (jEv jtab (d + 0), jWP (jEv jtab (d + 0)) Q ((Sh0 n).length, jsl (Sh0 n)) pX11_twoOf, Q, ((Sh0 n).length, jsl (Sh0 n))) 0 [some (.int l0), some (.int l1), some (.int l2)] [] (Sh0 n, A, L) := by
  unfold fX11_twoOf at h
  refine y_mask <| x_iload rfl <| y_sw (y_case (fun h1 => ?_) (fun h1 => y_case (fun h2 => ?_) (fun h2 => y_case (fun h3 => ?_) (fun h3 => y_case (fun h4 => ?_) (fun h4 => y_case (fun h5 => ?_) (fun h5 => y_case (fun h6 => ?_) (fun h6 => y_dflt ?_)))))))
  · replace h := of_pos h h1
    refine jWP.intro (pr := pX11_twoOf) (pc := 60) ?_
    refine y_mask <| x_iload rfl <| y_if_ne (fun h7 => ?_) (fun h7 => ?_)
    · replace h := of_neg h h7
      refine jWP.intro (pr := pX11_twoOf) (pc := 68) ?_
      refine y_mask <| x_push <| y_mask <| y_goto ?_
      refine jWP.intro (pr := pX11_twoOf) (pc := 73) ?_
      refine y_mri (bs := []) (ls := []) ?_
      subst h
      exact k3
    · replace h := of_pos h h7
      refine jWP.intro (pr := pX11_twoOf) (pc := 64) ?_
      refine y_mask <| x_iload rfl <| y_if_eq (fun h8 => ?_) (fun h8 => ?_)
      · replace h := of_pos h h8
        refine jWP.intro (pr := pX11_twoOf) (pc := 72) ?_
        refine y_mask <| x_push <| y_mask <| y_goto ?_
        refine jWP.intro (pr := pX11_twoOf) (pc := 73) ?_
        refine y_mri (bs := []) (ls := []) ?_
        subst h
        exact k3
      · replace h := of_neg h h8
        refine jWP.intro (pr := pX11_twoOf) (pc := 68) ?_
        refine y_mask <| x_push <| y_mask <| y_goto ?_
        refine jWP.intro (pr := pX11_twoOf) (pc := 73) ?_
        refine y_mri (bs := []) (ls := []) ?_
        subst h
        exact k3
  · replace h := of_neg h h1
    replace h := of_pos h h2
    refine jWP.intro (pr := pX11_twoOf) (pc := 74) ?_
    refine y_mask <| x_iload rfl <| y_if_eq (fun h9 => ?_) (fun h9 => ?_)
    · replace h := of_pos h h9
      refine jWP.intro (pr := pX11_twoOf) (pc := 86) ?_
      refine y_mask <| x_push <| y_mask <| y_goto ?_
      refine jWP.intro (pr := pX11_twoOf) (pc := 87) ?_
      refine y_mri (bs := []) (ls := []) ?_
      subst h
      exact k3
    · replace h := of_neg h h9
      refine jWP.intro (pr := pX11_twoOf) (pc := 78) ?_
      refine y_mask <| x_iload rfl <| y_if_eq (fun h10 => ?_) (fun h10 => ?_)
      · replace h := of_pos h h10
        refine jWP.intro (pr := pX11_twoOf) (pc := 86) ?_
        refine y_mask <| x_push <| y_mask <| y_goto ?_
        refine jWP.intro (pr := pX11_twoOf) (pc := 87) ?_
        refine y_mri (bs := []) (ls := []) ?_
        subst h
        exact k3
      · replace h := of_neg h h10
        refine jWP.intro (pr := pX11_twoOf) (pc := 82) ?_
        refine y_mask <| x_push <| y_mask <| y_goto ?_
        refine jWP.intro (pr := pX11_twoOf) (pc := 87) ?_
        refine y_mri (bs := []) (ls := []) ?_
        subst h
        exact k3
  · replace h := of_neg h h1
    replace h := of_neg h h2
    replace h := of_pos h h3
    refine jWP.intro (pr := pX11_twoOf) (pc := 110) ?_
    refine y_mask <| x_iload rfl <| x_iload rfl <| x_iadd <| y_ireturn (ls := [none, some (.int l1), some (.int l2)]) ?_
    subst h
    exact k3
  · replace h := of_neg h h1
    replace h := of_neg h h2
    replace h := of_neg h h3
    replace h := of_pos h h4
    refine jWP.intro (pr := pX11_twoOf) (pc := 114) ?_
    refine y_mask <| x_iload rfl <| x_iload rfl <| x_isub <| y_ireturn (ls := [none, some (.int l1), some (.int l2)]) ?_
    subst h
    exact k3
  · replace h := of_neg h h1
    replace h := of_neg h h2
    replace h := of_neg h h3
    replace h := of_neg h h4
    replace h := of_pos h h5
    refine jWP.intro (pr := pX11_twoOf) (pc := 88) ?_
    refine y_mask <| x_iload rfl <| x_iload rfl <| y_cmp_ge (fun h11 => ?_) (fun h11 => ?_)
    · replace h := of_pos h h11
      refine jWP.intro (pr := pX11_twoOf) (pc := 97) ?_
      refine y_mask <| x_push <| y_mask <| y_goto ?_
      refine jWP.intro (pr := pX11_twoOf) (pc := 98) ?_
      refine y_mri (bs := []) (ls := []) ?_
      subst h
      exact k3
    · replace h := of_neg h h11
      refine jWP.intro (pr := pX11_twoOf) (pc := 93) ?_
      refine y_mask <| x_push <| y_mask <| y_goto ?_
      refine jWP.intro (pr := pX11_twoOf) (pc := 98) ?_
      refine y_mri (bs := []) (ls := []) ?_
      subst h
      exact k3
  · replace h := of_neg h h1
    replace h := of_neg h h2
    replace h := of_neg h h3
    replace h := of_neg h h4
    replace h := of_neg h h5
    replace h := of_pos h h6
    refine jWP.intro (pr := pX11_twoOf) (pc := 99) ?_
    refine y_mask <| x_iload rfl <| x_iload rfl <| y_cmp_ne (fun h12 => ?_) (fun h12 => ?_)
    · replace h := of_neg h h12
      refine jWP.intro (pr := pX11_twoOf) (pc := 108) ?_
      refine y_mask <| x_push <| y_mask <| y_goto ?_
      refine jWP.intro (pr := pX11_twoOf) (pc := 109) ?_
      refine y_mri (bs := []) (ls := []) ?_
      subst h
      exact k3
    · replace h := of_pos h h12
      refine jWP.intro (pr := pX11_twoOf) (pc := 104) ?_
      refine y_mask <| x_push <| y_mask <| y_goto ?_
      refine jWP.intro (pr := pX11_twoOf) (pc := 109) ?_
      refine y_mri (bs := []) (ls := []) ?_
      subst h
      exact k3
  · replace h := of_neg h h1
    replace h := of_neg h h2
    replace h := of_neg h h3
    replace h := of_neg h h4
    replace h := of_neg h h5
    replace h := of_neg h h6
    skip
    refine jWP.intro (pr := pX11_twoOf) (pc := 118) ?_
    refine y_mask <| x_iload rfl <| x_iload rfl <| x_imul <| y_ireturn (ls := [none, some (.int l1), some (.int l2)]) ?_
    subst h
    exact k3
theorem kX11_twoOf (d n : Nat) (A : Nat → Nat → Int32) (L : Nat → Nat → Int64) (l0 : Int32) (l1 : Int32) (l2 : Int32) : jEv jtab (d + 1) 189 [.int l0, .int l1, .int l2] (Sh0 n, A, L) 0 0 (fun r M2 => r = some (.int (fX11_twoOf l0 l1 l2)) ∧ M2 = (Sh0 n, A, L)) :=
  jEv.mk (mt := mX11_twoOf) rfl (Nat.le_of_ble_eq_true rfl) (jWP.intro (pr := pX11_twoOf) (pc := 0) (tfX11_twoOf d n A L l0 l1 l2 rfl ⟨trivial, jCn.mk ⟨rfl, rfl⟩⟩))
set_option maxRecDepth 20000 in
theorem tcX11_gives_112 (d n : Nat) (A : Nat → Nat → Int32) (L : Nat → Nat → Int64) (l1 : Int32) (s : (Int32 × Int32 × (Nat → Nat → Int32))) {Q : Option Value → jM → Prop} {z : ((Int32 × Int32 × (Nat → Nat → Int32)) ⊕ (Nat → Nat → Int32))} (h : cX11_gives_112 l1 s = some z) (k1 : ∀ s0, z = .inl s0 → pX11_gives (jEv jtab (d + 1), jWP (jEv jtab (d + 1)) Q ((Sh0 n).length, jsl (Sh0 n)) pX11_gives, Q, ((Sh0 n).length, jsl (Sh0 n))) 112 [some (.ref 94), some (.int l1), some (.int s0.1), none, some (.int s0.2.1)] [] (Sh0 n, s0.2.2, L)) (k2 : ∀ s0, z = .inr s0 → pX11_gives (jEv jtab (d + 1), jWP (jEv jtab (d + 1)) Q ((Sh0 n).length, jsl (Sh0 n)) pX11_gives, Q, ((Sh0 n).length, jsl (Sh0 n))) 309 [some (.ref 94), none, none, none, none] [] (Sh0 n, s0, L)) : pX11_gives (jEv jtab (d + 1), jWP (jEv jtab (d + 1)) Q ((Sh0 n).length, jsl (Sh0 n)) pX11_gives, Q, ((Sh0 n).length, jsl (Sh0 n))) 112 [some (.ref 94), some (.int l1), some (.int s.1), none, some (.int s.2.1)] [] (Sh0 n, s.2.2, L) := by
  unfold cX11_gives_112 at h
  obtain ⟨g1, h⟩ := of_guard h
  show bX11_gives_112 _ _ _ _
  unfold bX11_gives_112
  refine y_mask ?_
  refine x_iload rfl ?_
  refine x_push ?_
  refine x_aload rfl ?_
  refine x_getI (Nat.le_of_ble_eq_true rfl) rfl rfl ?_
  refine x_imul ?_
  refine x_aload rfl ?_
  refine x_getR (Nat.le_of_ble_eq_true rfl) rfl rfl ?_
  refine x_push ?_
  refine x_aload rfl ?_
  refine x_getI (Nat.le_of_ble_eq_true rfl) rfl rfl ?_
  refine x_imul ?_
  refine x_iload rfl ?_
  refine x_iadd ?_
  refine x_iald rfl g1 ?_
  refine x_iadd ?_
  refine y_cmp_ge (fun h2 => ?_) (fun h2 => ?_)
  · replace h := of_pos h h2
    refine jWP.intro (pr := pX11_gives) (pc := 309) ?_
    have hk := k2 _ (Option.some.inj h).symm
    exact hk
  · replace h := of_neg h h2
    refine jWP.intro (pr := pX11_gives) (pc := 139) ?_
    obtain ⟨g3, h⟩ := of_guard h
    refine y_mask <| x_aload rfl <| x_getR (Nat.le_of_ble_eq_true rfl) rfl rfl <| x_iload rfl <| x_iald rfl g3 <| y_sw (y_case (fun h4 => ?_) (fun h4 => y_case (fun h5 => ?_) (fun h5 => y_case (fun h6 => ?_) (fun h6 => y_case (fun h7 => ?_) (fun h7 => y_dflt ?_)))))
    · replace h := of_pos h h4
      refine jWP.intro (pr := pX11_gives) (pc := 176) ?_
      obtain ⟨g8, h⟩ := of_guard h
      obtain ⟨g9, h⟩ := of_guard h
      obtain ⟨m10, hm11, h⟩ := of_bind h
      show bX11_gives_176 _ _ _ _
      unfold bX11_gives_176
      refine y_mask ?_
      refine x_aload rfl ?_
      refine x_getR (Nat.le_of_ble_eq_true rfl) rfl rfl ?_
      refine x_iload rfl ?_
      refine x_aload rfl ?_
      refine x_getR (Nat.le_of_ble_eq_true rfl) rfl rfl ?_
      refine x_iload rfl ?_
      refine x_iald rfl g8 ?_
      refine x_iast (Nat.le_of_ble_eq_true rfl) rfl g9 ?_
      refine y_let (Option.some.inj hm11) ?_
      refine x_iinc rfl rfl ?_
      refine y_mask ?_
      refine y_goto ?_
      refine jWP.intro (pr := pX11_gives) (pc := 303) ?_
      refine y_mask <| x_iinc rfl rfl <| y_mask <| y_goto ?_
      refine jWP.intro (pr := pX11_gives) (pc := 112) ?_
      have hk := k1 _ (Option.some.inj h).symm
      exact hk
    · replace h := of_neg h h4
      replace h := of_pos h h5
      refine jWP.intro (pr := pX11_gives) (pc := 195) ?_
      obtain ⟨g12, h⟩ := of_guard h
      obtain ⟨g13, h⟩ := of_guard h
      obtain ⟨g14, h⟩ := of_guard h
      obtain ⟨m15, hm16, h⟩ := of_bind h
      show bX11_gives_195 _ _ _ _
      unfold bX11_gives_195
      refine y_mask ?_
      refine x_aload rfl ?_
      refine x_getR (Nat.le_of_ble_eq_true rfl) rfl rfl ?_
      refine x_iload rfl ?_
      refine x_aload rfl ?_
      refine x_getR (Nat.le_of_ble_eq_true rfl) rfl rfl ?_
      refine x_aload rfl ?_
      refine x_getR (Nat.le_of_ble_eq_true rfl) rfl rfl ?_
      refine x_iload rfl ?_
      refine x_iald rfl g12 ?_
      refine x_iald rfl g13 ?_
      refine x_iast (Nat.le_of_ble_eq_true rfl) rfl g14 ?_
      refine y_let (Option.some.inj hm16) ?_
      refine x_iinc rfl rfl ?_
      refine y_mask ?_
      refine y_goto ?_
      refine jWP.intro (pr := pX11_gives) (pc := 303) ?_
      refine y_mask <| x_iinc rfl rfl <| y_mask <| y_goto ?_
      refine jWP.intro (pr := pX11_gives) (pc := 112) ?_
      have hk := k1 _ (Option.some.inj h).symm
      exact hk
    · replace h := of_neg h h4
      replace h := of_neg h h5
      replace h := of_pos h h6
      refine jWP.intro (pr := pX11_gives) (pc := 219) ?_
      obtain ⟨g17, h⟩ := of_guard h
      show bX11_gives_219 _ _ _ _
      unfold bX11_gives_219
      refine y_mask ?_
      refine x_aload rfl ?_
      refine x_getR (Nat.le_of_ble_eq_true rfl) rfl rfl ?_
      refine x_iload rfl ?_
      refine x_push ?_
      refine x_isub ?_
      refine x_aload rfl ?_
      refine x_getR (Nat.le_of_ble_eq_true rfl) rfl rfl ?_
      refine x_iload rfl ?_
      refine x_push ?_
      refine x_isub ?_
      refine x_iald rfl g17 ?_
      refine y_if_ne (fun h18 => ?_) (fun h18 => ?_)
      · replace h := of_neg h h18
        refine jWP.intro (pr := pX11_gives) (pc := 241) ?_
        refine y_mask <| x_push <| y_mask <| y_goto ?_
        refine jWP.intro (pr := pX11_gives) (pc := 242) ?_
        obtain ⟨g19, h⟩ := of_guard h
        obtain ⟨m20, hm21, h⟩ := of_bind h
        refine y_mask <| x_iast (Nat.le_of_ble_eq_true rfl) rfl g19 <| y_let (Option.some.inj hm21) <| y_mask <| y_goto ?_
        refine jWP.intro (pr := pX11_gives) (pc := 303) ?_
        refine y_mask <| x_iinc rfl rfl <| y_mask <| y_goto ?_
        refine jWP.intro (pr := pX11_gives) (pc := 112) ?_
        have hk := k1 _ (Option.some.inj h).symm
        exact hk
      · replace h := of_pos h h18
        refine jWP.intro (pr := pX11_gives) (pc := 237) ?_
        refine y_mask <| x_push <| y_mask <| y_goto ?_
        refine jWP.intro (pr := pX11_gives) (pc := 242) ?_
        obtain ⟨g22, h⟩ := of_guard h
        obtain ⟨m23, hm24, h⟩ := of_bind h
        refine y_mask <| x_iast (Nat.le_of_ble_eq_true rfl) rfl g22 <| y_let (Option.some.inj hm24) <| y_mask <| y_goto ?_
        refine jWP.intro (pr := pX11_gives) (pc := 303) ?_
        refine y_mask <| x_iinc rfl rfl <| y_mask <| y_goto ?_
        refine jWP.intro (pr := pX11_gives) (pc := 112) ?_
        have hk := k1 _ (Option.some.inj h).symm
        exact hk
    · replace h := of_neg h h4
      replace h := of_neg h h5
      replace h := of_neg h h6
      replace h := of_pos h h7
      refine jWP.intro (pr := pX11_gives) (pc := 246) ?_
      obtain ⟨g25, h⟩ := of_guard h
      obtain ⟨g26, h⟩ := of_guard h
      obtain ⟨m27, hm28, h⟩ := of_bind h
      show bX11_gives_246 _ _ _ _
      unfold bX11_gives_246
      refine y_mask ?_
      refine x_aload rfl ?_
      refine x_getR (Nat.le_of_ble_eq_true rfl) rfl rfl ?_
      refine x_iload rfl ?_
      refine x_push ?_
      refine x_isub ?_
      refine x_aload rfl ?_
      refine x_getR (Nat.le_of_ble_eq_true rfl) rfl rfl ?_
      refine x_iload rfl ?_
      refine x_push ?_
      refine x_isub ?_
      refine x_iald rfl g25 ?_
      refine x_ineg ?_
      refine x_iast (Nat.le_of_ble_eq_true rfl) rfl g26 ?_
      refine y_let (Option.some.inj hm28) ?_
      refine y_mask ?_
      refine y_goto ?_
      refine jWP.intro (pr := pX11_gives) (pc := 303) ?_
      refine y_mask <| x_iinc rfl rfl <| y_mask <| y_goto ?_
      refine jWP.intro (pr := pX11_gives) (pc := 112) ?_
      have hk := k1 _ (Option.some.inj h).symm
      exact hk
    · replace h := of_neg h h4
      replace h := of_neg h h5
      replace h := of_neg h h6
      replace h := of_neg h h7
      skip
      refine jWP.intro (pr := pX11_gives) (pc := 266) ?_
      obtain ⟨g29, h⟩ := of_guard h
      obtain ⟨g30, h⟩ := of_guard h
      obtain ⟨g31, h⟩ := of_guard h
      obtain ⟨g32, h⟩ := of_guard h
      obtain ⟨m33, hm34, h⟩ := of_bind h
      show bX11_gives_266 _ _ _ _
      unfold bX11_gives_266
      refine y_mask ?_
      refine x_aload rfl ?_
      refine x_getR (Nat.le_of_ble_eq_true rfl) rfl rfl ?_
      refine x_iload rfl ?_
      refine x_push ?_
      refine x_isub ?_
      refine x_aload rfl ?_
      refine x_getR (Nat.le_of_ble_eq_true rfl) rfl rfl ?_
      refine x_iload rfl ?_
      refine x_iald rfl g29 ?_
      refine x_aload rfl ?_
      refine x_getR (Nat.le_of_ble_eq_true rfl) rfl rfl ?_
      refine x_iload rfl ?_
      refine x_push ?_
      refine x_isub ?_
      refine x_iald rfl g30 ?_
      refine x_aload rfl ?_
      refine x_getR (Nat.le_of_ble_eq_true rfl) rfl rfl ?_
      refine x_iload rfl ?_
      refine x_push ?_
      refine x_isub ?_
      refine x_iald rfl g31 ?_
      refine y_invS3 (Nat.le_of_ble_eq_true rfl) ?_
      refine jEv.exI (kX11_twoOf _ _ _ _ _ _ _) ?_
      refine x_iast (Nat.le_of_ble_eq_true rfl) rfl g32 ?_
      refine y_let (Option.some.inj hm34) ?_
      refine x_iinc rfl rfl ?_
      refine y_mask ?_
      refine y_goto ?_
      refine jWP.intro (pr := pX11_gives) (pc := 303) ?_
      refine y_mask <| x_iinc rfl rfl <| y_mask <| y_goto ?_
      refine jWP.intro (pr := pX11_gives) (pc := 112) ?_
      have hk := k1 _ (Option.some.inj h).symm
      exact hk
set_option maxRecDepth 20000 in
theorem tjX11_gives_99 (d n : Nat) (A : Nat → Nat → Int32) (L : Nat → Nat → Int64) (l1 : Int32) (l2 : Int32) (s0 : Int32) {Q : Option Value → jM → Prop} {z : (Int32 × (Nat → Nat → Int32))} (h : jX11_gives_99 A l1 l2 s0 = some z) (k3 : Q (some (.int z.1)) (Sh0 n, z.2, L)) : pX11_gives (jEv jtab (d + 1), jWP (jEv jtab (d + 1)) Q ((Sh0 n).length, jsl (Sh0 n)) pX11_gives, Q, ((Sh0 n).length, jsl (Sh0 n))) 99 [some (.ref 94), some (.int l1), some (.int l2), none, none] [.int s0] (Sh0 n, A, L) := by
  unfold jX11_gives_99 at h
  show bX11_gives_99 _ _ _ _
  unfold bX11_gives_99
  refine y_mask ?_
  refine x_istore rfl ?_
  refine x_push ?_
  refine x_aload rfl ?_
  refine x_getI (Nat.le_of_ble_eq_true rfl) rfl rfl ?_
  refine x_imul ?_
  refine x_iload rfl ?_
  refine x_iadd ?_
  refine x_istore rfl ?_
  refine y_mask ?_
  refine y_goto ?_
  obtain ⟨e1, hw2, h⟩ := of_bind h
  refine jWP.intro (pr := pX11_gives) (pc := 112) ?_
  refine jwh_use (G := (fun s0 => pX11_gives (jEv jtab (d + 1), jWP (jEv jtab (d + 1)) Q ((Sh0 n).length, jsl (Sh0 n)) pX11_gives, Q, ((Sh0 n).length, jsl (Sh0 n))) 112 [some (.ref 94), some (.int l1), some (.int s0.1), none, some (.int s0.2.1)] [] (Sh0 n, s0.2.2, L))) (Gx := (fun s0 => pX11_gives (jEv jtab (d + 1), jWP (jEv jtab (d + 1)) Q ((Sh0 n).length, jsl (Sh0 n)) pX11_gives, Q, ((Sh0 n).length, jsl (Sh0 n))) 309 [some (.ref 94), none, none, none, none] [] (Sh0 n, s0, L))) (fun s1 z1 hz kk1 kk2 => tcX11_gives_112 d n A L l1 s1 hz kk1 kk2) hw2 ?_
  refine y_mask <| x_aload rfl <| x_getR (Nat.le_of_ble_eq_true rfl) rfl rfl <| x_push <| x_iald rfl (by unfold vp_in; decide) <| y_ireturn (ls := [some (.ref 94), none, none, none, none]) ?_
  obtain rfl := Option.some.inj h
  exact k3
set_option maxRecDepth 20000 in
theorem tfX11_gives (d n : Nat) (A : Nat → Nat → Int32) (L : Nat → Nat → Int64) (l1 : Int32) {Q : Option Value → jM → Prop} {z : (Int32 × (Nat → Nat → Int32))} (h : fX11_gives A l1 = some z) (k3 : Q (some (.int z.1)) (Sh0 n, z.2, L)) : pX11_gives (jEv jtab (d + 1), jWP (jEv jtab (d + 1)) Q ((Sh0 n).length, jsl (Sh0 n)) pX11_gives, Q, ((Sh0 n).length, jsl (Sh0 n))) 0 [some (.ref 94), some (.int l1), none, none, none] [] (Sh0 n, A, L) := by
  unfold fX11_gives at h
  refine y_mask <| x_aload rfl <| x_getI (Nat.le_of_ble_eq_true rfl) rfl rfl <| y_if_ne (fun h1 => ?_) (fun h1 => ?_)
  · replace h := of_neg h h1
    refine jWP.intro (pr := pX11_gives) (pc := 74) ?_
    refine y_mask <| x_push <| x_istore rfl <| x_iload rfl <| y_if_ne (fun h2 => ?_) (fun h2 => ?_)
    · replace h := of_neg h h2
      refine jWP.intro (pr := pX11_gives) (pc := 84) ?_
      obtain ⟨g3, h⟩ := of_guard h
      show bX11_gives_84 _ _ _ _
      unfold bX11_gives_84
      refine y_mask ?_
      refine x_aload rfl ?_
      refine x_getR (Nat.le_of_ble_eq_true rfl) rfl rfl ?_
      refine x_push ?_
      refine x_aload rfl ?_
      refine x_getI (Nat.le_of_ble_eq_true rfl) rfl rfl ?_
      refine x_imul ?_
      refine x_iload rfl ?_
      refine x_iadd ?_
      refine x_push ?_
      refine x_isub ?_
      refine x_iald rfl g3 ?_
      refine y_mask ?_
      refine y_goto ?_
      refine jWP.intro (pr := pX11_gives) (pc := 99) ?_
      exact tjX11_gives_99 d n A L l1 (0 : Int32) (A 100 (jx ((((3 : Int32) * (A 94 6)) + l1) - (1 : Int32)))) h k3
    · replace h := of_pos h h2
      refine jWP.intro (pr := pX11_gives) (pc := 80) ?_
      refine y_mask <| x_push <| y_mask <| y_goto ?_
      refine jWP.intro (pr := pX11_gives) (pc := 99) ?_
      exact tjX11_gives_99 d n A L l1 (0 : Int32) (0 : Int32) h k3
  · replace h := of_pos h h1
    refine jWP.intro (pr := pX11_gives) (pc := 7) ?_
    refine y_mask <| x_iload rfl <| y_if_ne (fun h4 => ?_) (fun h4 => ?_)
    · replace h := of_neg h h4
      refine jWP.intro (pr := pX11_gives) (pc := 53) ?_
      refine y_mask <| x_iload rfl <| x_push <| y_cmp_ne (fun h5 => ?_) (fun h5 => ?_)
      · replace h := of_neg h h5
        refine jWP.intro (pr := pX11_gives) (pc := 72) ?_
        refine y_mask <| x_push <| y_mask <| y_goto ?_
        refine jWP.intro (pr := pX11_gives) (pc := 73) ?_
        refine y_mri (bs := []) (ls := []) ?_
        obtain rfl := Option.some.inj h
        exact k3
      · replace h := of_pos h h5
        refine jWP.intro (pr := pX11_gives) (pc := 58) ?_
        show bX11_gives_58 _ _ _ _
        unfold bX11_gives_58
        refine y_mask ?_
        refine x_push ?_
        refine x_aload rfl ?_
        refine x_getR (Nat.le_of_ble_eq_true rfl) rfl rfl ?_
        refine x_push ?_
        refine x_iald rfl (by unfold vp_in; decide) ?_
        refine x_push ?_
        refine x_imul ?_
        refine x_isub ?_
        refine y_mask ?_
        refine y_goto ?_
        refine jWP.intro (pr := pX11_gives) (pc := 73) ?_
        refine y_mri (bs := []) (ls := []) ?_
        obtain rfl := Option.some.inj h
        exact k3
    · replace h := of_pos h h4
      refine jWP.intro (pr := pX11_gives) (pc := 11) ?_
      show bX11_gives_11 _ _ _ _
      unfold bX11_gives_11
      refine y_mask ?_
      refine x_push ?_
      refine x_aload rfl ?_
      refine x_getR (Nat.le_of_ble_eq_true rfl) rfl rfl ?_
      refine x_push ?_
      refine x_iald rfl (by unfold vp_in; decide) ?_
      refine x_push ?_
      refine x_imul ?_
      refine x_isub ?_
      refine x_aload rfl ?_
      refine x_getR (Nat.le_of_ble_eq_true rfl) rfl rfl ?_
      refine x_push ?_
      refine x_iald rfl (by unfold vp_in; decide) ?_
      refine x_push ?_
      refine x_imul ?_
      refine x_iadd ?_
      refine x_aload rfl ?_
      refine x_getR (Nat.le_of_ble_eq_true rfl) rfl rfl ?_
      refine x_push ?_
      refine x_iald rfl (by unfold vp_in; decide) ?_
      refine x_push ?_
      refine x_imul ?_
      refine x_isub ?_
      refine x_aload rfl ?_
      refine x_getR (Nat.le_of_ble_eq_true rfl) rfl rfl ?_
      refine x_push ?_
      refine x_iald rfl (by unfold vp_in; decide) ?_
      refine x_push ?_
      refine x_imul ?_
      refine x_isub ?_
      refine y_mask ?_
      refine y_goto ?_
      refine jWP.intro (pr := pX11_gives) (pc := 73) ?_
      refine y_mri (bs := []) (ls := []) ?_
      obtain rfl := Option.some.inj h
      exact k3
theorem kX11_gives (d n : Nat) (A : Nat → Nat → Int32) (L : Nat → Nat → Int64) (l1 : Int32) {z : (Int32 × (Nat → Nat → Int32))} (h : fX11_gives A l1 = some z) : jEv jtab (d + 2) 190 [.ref 94, .int l1] (Sh0 n, A, L) 0 0 (fun r M2 => r = some (.int z.1) ∧ M2 = (Sh0 n, z.2, L)) :=
  jEv.mk (mt := mX11_gives) rfl (Nat.le_of_ble_eq_true rfl) (jWP.intro (pr := pX11_gives) (pc := 0) (tfX11_gives d n A L l1 h ⟨trivial, jCn.mk ⟨rfl, rfl⟩⟩))
set_option maxRecDepth 20000 in
theorem tfX11_held (d n : Nat) (A : Nat → Nat → Int32) (L : Nat → Nat → Int64) (l0 : Int32) (l1 : Int32) (l2 : Int32) {Q : Option Value → jM → Prop} {z : Int32} (h : fX11_held l0 l1 l2 = z) (k3 : Q (some (.int z)) (Sh0 n, A, L)) : pX11_held (jEv jtab (d + 0), jWP (jEv jtab (d + 0)) Q ((Sh0 n).length, jsl (Sh0 n)) pX11_held, Q, ((Sh0 n).length, jsl (Sh0 n))) 0 [some (.int l0), some (.int l1), some (.int l2)] [] (Sh0 n, A, L) := by
  unfold fX11_held at h
  refine y_mask <| x_iload rfl <| x_iload rfl <| y_cmp_ge (fun h1 => ?_) (fun h1 => ?_)
  · replace h := of_pos h h1
    refine jWP.intro (pr := pX11_held) (pc := 9) ?_
    refine y_mask <| x_iload rfl <| x_iload rfl <| y_cmp_le (fun h2 => ?_) (fun h2 => ?_)
    · replace h := of_pos h h2
      refine jWP.intro (pr := pX11_held) (pc := 18) ?_
      refine y_mask <| x_iload rfl <| y_mask <| y_goto ?_
      refine jWP.intro (pr := pX11_held) (pc := 19) ?_
      refine y_mri (bs := []) (ls := []) ?_
      subst h
      exact k3
    · replace h := of_neg h h2
      refine jWP.intro (pr := pX11_held) (pc := 14) ?_
      refine y_mask <| x_iload rfl <| y_mask <| y_goto ?_
      refine jWP.intro (pr := pX11_held) (pc := 19) ?_
      refine y_mri (bs := []) (ls := []) ?_
      subst h
      exact k3
  · replace h := of_neg h h1
    refine jWP.intro (pr := pX11_held) (pc := 5) ?_
    refine y_mask <| x_iload rfl <| y_mask <| y_goto ?_
    refine jWP.intro (pr := pX11_held) (pc := 19) ?_
    refine y_mri (bs := []) (ls := []) ?_
    subst h
    exact k3
theorem kX11_held (d n : Nat) (A : Nat → Nat → Int32) (L : Nat → Nat → Int64) (l0 : Int32) (l1 : Int32) (l2 : Int32) : jEv jtab (d + 1) 160 [.int l0, .int l1, .int l2] (Sh0 n, A, L) 0 0 (fun r M2 => r = some (.int (fX11_held l0 l1 l2)) ∧ M2 = (Sh0 n, A, L)) :=
  jEv.mk (mt := mX11_held) rfl (Nat.le_of_ble_eq_true rfl) (jWP.intro (pr := pX11_held) (pc := 0) (tfX11_held d n A L l0 l1 l2 rfl ⟨trivial, jCn.mk ⟨rfl, rfl⟩⟩))
set_option maxRecDepth 20000 in
theorem tfX11_says (d n : Nat) (A : Nat → Nat → Int32) (L : Nat → Nat → Int64) (l1 : Int32) (l2 : Int32) (l3 : Int32) {Q : Option Value → jM → Prop} {z : (Int32 × (Nat → Nat → Int32))} (h : fX11_says A l1 l2 l3 = some z) (k3 : Q (some (.int z.1)) (Sh0 n, z.2, L)) : pX11_says (jEv jtab (d + 2), jWP (jEv jtab (d + 2)) Q ((Sh0 n).length, jsl (Sh0 n)) pX11_says, Q, ((Sh0 n).length, jsl (Sh0 n))) 0 [some (.ref 94), some (.int l1), some (.int l2), some (.int l3)] [] (Sh0 n, A, L) := by
  unfold fX11_says at h
  obtain ⟨m1, hm2, h⟩ := of_bind h
  obtain ⟨m3, hm4, h⟩ := of_bind h
  obtain ⟨m5, hm6, h⟩ := of_bind h
  obtain ⟨m7, hm8, h⟩ := of_bind h
  obtain ⟨m9, hm10, h⟩ := of_bind h
  show bX11_says_0 _ _ _ _
  unfold bX11_says_0
  refine y_mask ?_
  refine x_aload rfl ?_
  refine x_getR (Nat.le_of_ble_eq_true rfl) rfl rfl ?_
  refine x_push ?_
  refine x_aload rfl ?_
  refine x_iload rfl ?_
  refine y_invV1 (Nat.le_of_ble_eq_true rfl) rfl (Nat.le_of_ble_eq_true rfl) ?_
  refine jEv.exI (kX11_farIn _ _ _ _ _) ?_
  refine x_iast (Nat.le_of_ble_eq_true rfl) rfl (by unfold vp_in; decide) ?_
  refine y_let (Option.some.inj hm2) ?_
  refine x_aload rfl ?_
  refine x_getR (Nat.le_of_ble_eq_true rfl) rfl rfl ?_
  refine x_push ?_
  refine x_aload rfl ?_
  refine x_getR (Nat.le_of_ble_eq_true rfl) rfl rfl ?_
  refine x_push ?_
  refine x_iald rfl (by unfold vp_in; decide) ?_
  refine x_iast (Nat.le_of_ble_eq_true rfl) rfl (by unfold vp_in; decide) ?_
  refine y_let (Option.some.inj hm4) ?_
  refine x_aload rfl ?_
  refine x_getR (Nat.le_of_ble_eq_true rfl) rfl rfl ?_
  refine x_push ?_
  refine x_aload rfl ?_
  refine x_getR (Nat.le_of_ble_eq_true rfl) rfl rfl ?_
  refine x_push ?_
  refine x_iald rfl (by unfold vp_in; decide) ?_
  refine x_iast (Nat.le_of_ble_eq_true rfl) rfl (by unfold vp_in; decide) ?_
  refine y_let (Option.some.inj hm6) ?_
  refine x_aload rfl ?_
  refine x_getR (Nat.le_of_ble_eq_true rfl) rfl rfl ?_
  refine x_push ?_
  refine x_iload rfl ?_
  refine x_iast (Nat.le_of_ble_eq_true rfl) rfl (by unfold vp_in; decide) ?_
  refine y_let (Option.some.inj hm8) ?_
  refine x_aload rfl ?_
  refine x_getR (Nat.le_of_ble_eq_true rfl) rfl rfl ?_
  refine x_push ?_
  refine x_aload rfl ?_
  refine x_getR (Nat.le_of_ble_eq_true rfl) rfl rfl ?_
  refine x_push ?_
  refine x_iald rfl (by unfold vp_in; decide) ?_
  refine x_iload rfl ?_
  refine x_ishr ?_
  refine x_push ?_
  refine x_iand ?_
  refine x_iast (Nat.le_of_ble_eq_true rfl) rfl (by unfold vp_in; decide) ?_
  refine y_let (Option.some.inj hm10) ?_
  refine y_mask ?_
  refine y_goto ?_
  refine jWP.intro (pr := pX11_says) (pc := 58) ?_
  obtain ⟨m11, hm12, h⟩ := of_bind h
  show bX11_says_58 _ _ _ _
  unfold bX11_says_58
  refine y_mask ?_
  refine x_aload rfl ?_
  refine x_getR (Nat.le_of_ble_eq_true rfl) rfl rfl ?_
  refine x_push ?_
  refine x_iload rfl ?_
  refine x_iast (Nat.le_of_ble_eq_true rfl) rfl (by unfold vp_in; decide) ?_
  refine y_let (Option.some.inj hm12) ?_
  refine x_iload rfl ?_
  refine x_push ?_
  refine y_cmp_ne (fun h13 => ?_) (fun h13 => ?_)
  · replace h := of_neg h h13
    refine jWP.intro (pr := pX11_says) (pc := 84) ?_
    obtain ⟨r14, hc15, h⟩ := of_bind h
    show bX11_says_84 _ _ _ _
    unfold bX11_says_84
    refine y_mask ?_
    refine x_aload rfl ?_
    refine x_iload rfl ?_
    refine y_invV1 (Nat.le_of_ble_eq_true rfl) rfl (Nat.le_of_ble_eq_true rfl) ?_
    refine jEv.exI (kX11_gives _ _ _ _ _ hc15) ?_
    refine x_push ?_
    refine x_push ?_
    refine y_invS3 (Nat.le_of_ble_eq_true rfl) ?_
    refine jEv.exI (kX11_held _ _ _ _ _ _ _) ?_
    refine y_mask ?_
    refine y_goto ?_
    refine jWP.intro (pr := pX11_says) (pc := 95) ?_
    refine y_mri (bs := []) (ls := []) ?_
    obtain rfl := Option.some.inj h
    exact k3
  · replace h := of_pos h h13
    refine jWP.intro (pr := pX11_says) (pc := 70) ?_
    obtain ⟨r16, hc17, h⟩ := of_bind h
    show bX11_says_70 _ _ _ _
    unfold bX11_says_70
    refine y_mask ?_
    refine x_aload rfl ?_
    refine x_iload rfl ?_
    refine y_invV1 (Nat.le_of_ble_eq_true rfl) rfl (Nat.le_of_ble_eq_true rfl) ?_
    refine jEv.exI (kX11_gives _ _ _ _ _ hc17) ?_
    refine x_push ?_
    refine x_push ?_
    refine y_invS3 (Nat.le_of_ble_eq_true rfl) ?_
    refine jEv.exI (kX11_held _ _ _ _ _ _ _) ?_
    refine y_mask ?_
    refine y_goto ?_
    refine jWP.intro (pr := pX11_says) (pc := 95) ?_
    refine y_mri (bs := []) (ls := []) ?_
    obtain rfl := Option.some.inj h
    exact k3
theorem kX11_says (d n : Nat) (A : Nat → Nat → Int32) (L : Nat → Nat → Int64) (l1 : Int32) (l2 : Int32) (l3 : Int32) {z : (Int32 × (Nat → Nat → Int32))} (h : fX11_says A l1 l2 l3 = some z) : jEv jtab (d + 3) 191 [.ref 94, .int l1, .int l2, .int l3] (Sh0 n, A, L) 0 0 (fun r M2 => r = some (.int z.1) ∧ M2 = (Sh0 n, z.2, L)) :=
  jEv.mk (mt := mX11_says) rfl (Nat.le_of_ble_eq_true rfl) (jWP.intro (pr := pX11_says) (pc := 0) (tfX11_says d n A L l1 l2 l3 h ⟨trivial, jCn.mk ⟨rfl, rfl⟩⟩))
set_option maxRecDepth 20000 in
theorem tfX11_asks (d n : Nat) (A : Nat → Nat → Int32) (L : Nat → Nat → Int64) (l1 : Int32) (l2 : Int32) (l3 : Int32) {Q : Option Value → jM → Prop} {z : (Int32 × (Nat → Nat → Int32))} (h : fX11_asks A l1 l2 l3 = some z) (k3 : Q (some (.int z.1)) (Sh0 n, z.2, L)) : pX11_asks (jEv jtab (d + 3), jWP (jEv jtab (d + 3)) Q ((Sh0 n).length, jsl (Sh0 n)) pX11_asks, Q, ((Sh0 n).length, jsl (Sh0 n))) 0 [some (.ref 94), some (.int l1), some (.int l2), some (.int l3)] [] (Sh0 n, A, L) := by
  unfold fX11_asks at h
  refine y_mask <| x_iload rfl <| x_push <| x_push <| y_invS3 (Nat.le_of_ble_eq_true rfl) <| jEv.exZ (q := 159) rfl (kX11_in _ _ _ _ _ _ _) <| fun hz1 => y_if_eq (fun h2 => ?_) (fun h2 => ?_)
  · replace h := of_pos h h2
    refine jWP.intro (pr := pX11_asks) (pc := 36) ?_
    refine y_mask <| x_push <| y_mask <| y_goto ?_
    refine jWP.intro (pr := pX11_asks) (pc := 38) ?_
    refine y_mri (bs := []) (ls := []) ?_
    obtain rfl := Option.some.inj h
    exact k3
  · replace h := of_neg h h2
    refine jWP.intro (pr := pX11_asks) (pc := 9) ?_
    refine y_mask <| x_aload rfl <| x_iload rfl <| y_invV1 (Nat.le_of_ble_eq_true rfl) rfl (Nat.le_of_ble_eq_true rfl) <| jEv.exZ (q := 167) rfl (kX11_isMinute _ _ _ _ _) <| fun hz3 => y_if_eq (fun h4 => ?_) (fun h4 => ?_)
    · replace h := of_pos h h4
      refine jWP.intro (pr := pX11_asks) (pc := 36) ?_
      refine y_mask <| x_push <| y_mask <| y_goto ?_
      refine jWP.intro (pr := pX11_asks) (pc := 38) ?_
      refine y_mri (bs := []) (ls := []) ?_
      obtain rfl := Option.some.inj h
      exact k3
    · replace h := of_neg h h4
      refine jWP.intro (pr := pX11_asks) (pc := 17) ?_
      refine y_mask <| x_iload rfl <| x_push <| x_push <| y_invS3 (Nat.le_of_ble_eq_true rfl) <| jEv.exZ (q := 159) rfl (kX11_in _ _ _ _ _ _ _) <| fun hz5 => y_if_eq (fun h6 => ?_) (fun h6 => ?_)
      · replace h := of_pos h h6
        refine jWP.intro (pr := pX11_asks) (pc := 36) ?_
        refine y_mask <| x_push <| y_mask <| y_goto ?_
        refine jWP.intro (pr := pX11_asks) (pc := 38) ?_
        refine y_mri (bs := []) (ls := []) ?_
        obtain rfl := Option.some.inj h
        exact k3
      · replace h := of_neg h h6
        refine jWP.intro (pr := pX11_asks) (pc := 26) ?_
        obtain ⟨r7, hc8, h⟩ := of_bind h
        refine y_mask <| x_aload rfl <| x_iload rfl <| x_iload rfl <| x_iload rfl <| y_invV3 (Nat.le_of_ble_eq_true rfl) rfl (Nat.le_of_ble_eq_true rfl) <| jEv.exI (kX11_says _ _ _ _ _ _ _ hc8) <| y_mask <| y_goto ?_
        refine jWP.intro (pr := pX11_asks) (pc := 38) ?_
        refine y_mri (bs := []) (ls := []) ?_
        obtain rfl := Option.some.inj h
        exact k3
theorem kX11_asks (d n : Nat) (A : Nat → Nat → Int32) (L : Nat → Nat → Int64) (l1 : Int32) (l2 : Int32) (l3 : Int32) {z : (Int32 × (Nat → Nat → Int32))} (h : fX11_asks A l1 l2 l3 = some z) : jEv jtab (d + 4) 192 [.ref 94, .int l1, .int l2, .int l3] (Sh0 n, A, L) 0 0 (fun r M2 => r = some (.int z.1) ∧ M2 = (Sh0 n, z.2, L)) :=
  jEv.mk (mt := mX11_asks) rfl (Nat.le_of_ble_eq_true rfl) (jWP.intro (pr := pX11_asks) (pc := 0) (tfX11_asks d n A L l1 l2 l3 h ⟨trivial, jCn.mk ⟨rfl, rfl⟩⟩))
set_option maxRecDepth 20000 in
theorem tfX11_say (d n : Nat) (A : Nat → Nat → Int32) (L : Nat → Nat → Int64) (l1 : Int32) (l2 : Int32) (l3 : Int32) {Q : Option Value → jM → Prop} {z : (Int32 × (Nat → Nat → Int32))} (h : fX11_say A l1 l2 l3 = some z) (k3 : Q (some (.int z.1)) (Sh0 n, z.2, L)) : pX11_say (jEv jtab (d + 1), jWP (jEv jtab (d + 1)) Q ((Sh0 n).length, jsl (Sh0 n)) pX11_say, Q, ((Sh0 n).length, jsl (Sh0 n))) 0 [some (.ref 94), some (.int l1), some (.int l2), some (.int l3)] [] (Sh0 n, A, L) := by
  unfold fX11_say at h
  refine y_mask <| x_iload rfl <| x_push <| x_push <| y_invS3 (Nat.le_of_ble_eq_true rfl) <| jEv.exZ (q := 159) rfl (kX11_in _ _ _ _ _ _ _) <| fun hz1 => y_if_eq (fun h2 => ?_) (fun h2 => ?_)
  · replace h := of_pos h h2
    refine jWP.intro (pr := pX11_say) (pc := 28) ?_
    refine y_mpri (bs := []) (ls := []) ?_
    obtain rfl := Option.some.inj h
    exact k3
  · replace h := of_neg h h2
    refine jWP.intro (pr := pX11_say) (pc := 9) ?_
    refine y_mask <| x_iload rfl <| x_push <| x_push <| y_invS3 (Nat.le_of_ble_eq_true rfl) <| jEv.exZ (q := 159) rfl (kX11_in _ _ _ _ _ _ _) <| fun hz3 => y_if_eq (fun h4 => ?_) (fun h4 => ?_)
    · replace h := of_pos h h4
      refine jWP.intro (pr := pX11_say) (pc := 28) ?_
      refine y_mpri (bs := []) (ls := []) ?_
      obtain rfl := Option.some.inj h
      exact k3
    · replace h := of_neg h h4
      refine jWP.intro (pr := pX11_say) (pc := 18) ?_
      refine y_mask <| x_iload rfl <| x_push <| x_push <| y_invS3 (Nat.le_of_ble_eq_true rfl) <| jEv.exZ (q := 159) rfl (kX11_in _ _ _ _ _ _ _) <| fun hz5 => y_if_ne (fun h6 => ?_) (fun h6 => ?_)
      · replace h := of_neg h h6
        refine jWP.intro (pr := pX11_say) (pc := 31) ?_
        refine y_mask <| x_aload rfl <| x_getI (Nat.le_of_ble_eq_true rfl) rfl rfl <| x_push <| y_cmp_ne (fun h7 => ?_) (fun h7 => ?_)
        · replace h := of_neg h h7
          refine jWP.intro (pr := pX11_say) (pc := 43) ?_
          obtain ⟨g8, h⟩ := of_guard h
          obtain ⟨m9, hm10, h⟩ := of_bind h
          obtain ⟨g11, h⟩ := of_guard h
          obtain ⟨m12, hm13, h⟩ := of_bind h
          obtain ⟨g14, h⟩ := of_guard h
          obtain ⟨m15, hm16, h⟩ := of_bind h
          show bX11_say_43 _ _ _ _
          unfold bX11_say_43
          refine y_mask ?_
          refine x_aload rfl ?_
          refine x_getR (Nat.le_of_ble_eq_true rfl) rfl rfl ?_
          refine x_aload rfl ?_
          refine x_getI (Nat.le_of_ble_eq_true rfl) rfl rfl ?_
          refine x_iload rfl ?_
          refine x_iast (Nat.le_of_ble_eq_true rfl) rfl g8 ?_
          refine y_let (Option.some.inj hm10) ?_
          refine x_aload rfl ?_
          refine x_getR (Nat.le_of_ble_eq_true rfl) rfl rfl ?_
          refine x_aload rfl ?_
          refine x_getI (Nat.le_of_ble_eq_true rfl) rfl rfl ?_
          refine x_iload rfl ?_
          refine x_iast (Nat.le_of_ble_eq_true rfl) rfl g11 ?_
          refine y_let (Option.some.inj hm13) ?_
          refine x_aload rfl ?_
          refine x_getR (Nat.le_of_ble_eq_true rfl) rfl rfl ?_
          refine x_aload rfl ?_
          refine x_getI (Nat.le_of_ble_eq_true rfl) rfl rfl ?_
          refine x_iload rfl ?_
          refine x_iast (Nat.le_of_ble_eq_true rfl) rfl g14 ?_
          refine y_let (Option.some.inj hm16) ?_
          refine x_aload rfl ?_
          refine x_dup rfl ?_
          refine x_getI (Nat.le_of_ble_eq_true rfl) rfl rfl ?_
          refine x_push ?_
          refine x_iadd ?_
          refine x_putI (Nat.le_of_ble_eq_true rfl) rfl rfl ?_
          refine x_aload rfl ?_
          refine x_getI (Nat.le_of_ble_eq_true rfl) rfl rfl ?_
          refine x_push ?_
          refine x_isub ?_
          refine y_ireturn (ls := [some (.ref 94), some (.int l1), some (.int l2), some (.int l3)]) ?_
          obtain rfl := Option.some.inj h
          exact k3
        · replace h := of_pos h h7
          refine jWP.intro (pr := pX11_say) (pc := 40) ?_
          refine y_mpri (bs := []) (ls := []) ?_
          obtain rfl := Option.some.inj h
          exact k3
      · replace h := of_pos h h6
        refine jWP.intro (pr := pX11_say) (pc := 28) ?_
        refine y_mpri (bs := []) (ls := []) ?_
        obtain rfl := Option.some.inj h
        exact k3
theorem kX11_say (d n : Nat) (A : Nat → Nat → Int32) (L : Nat → Nat → Int64) (l1 : Int32) (l2 : Int32) (l3 : Int32) {z : (Int32 × (Nat → Nat → Int32))} (h : fX11_say A l1 l2 l3 = some z) : jEv jtab (d + 2) 194 [.ref 94, .int l1, .int l2, .int l3] (Sh0 n, A, L) 0 0 (fun r M2 => r = some (.int z.1) ∧ M2 = (Sh0 n, z.2, L)) :=
  jEv.mk (mt := mX11_say) rfl (Nat.le_of_ble_eq_true rfl) (jWP.intro (pr := pX11_say) (pc := 0) (tfX11_say d n A L l1 l2 l3 h ⟨trivial, jCn.mk ⟨rfl, rfl⟩⟩))
set_option maxRecDepth 20000 in
theorem tfX11_isSaying (d n : Nat) (A : Nat → Nat → Int32) (L : Nat → Nat → Int64) (l1 : Int32) {Q : Option Value → jM → Prop} {z : Int32} (h : fX11_isSaying A l1 = z) (k3 : (narrow .boolean (.int z) = .int z) → Q (some (.int z)) (Sh0 n, A, L)) : pX11_isSaying (jEv jtab (d + 1), jWP (jEv jtab (d + 1)) Q ((Sh0 n).length, jsl (Sh0 n)) pX11_isSaying, Q, ((Sh0 n).length, jsl (Sh0 n))) 0 [some (.ref 94), some (.int l1)] [] (Sh0 n, A, L) := by
  unfold fX11_isSaying at h
  show bX11_isSaying_0 _ _ _ _
  unfold bX11_isSaying_0
  refine y_mask ?_
  refine x_iload rfl ?_
  refine x_push ?_
  refine x_aload rfl ?_
  refine x_getI (Nat.le_of_ble_eq_true rfl) rfl rfl ?_
  refine x_push ?_
  refine x_isub ?_
  refine y_invS3 (Nat.le_of_ble_eq_true rfl) ?_
  refine jEv.exZ (q := 159) rfl (kX11_in _ _ _ _ _ _ _) (fun hz1 => ?_)
  refine y_ireturn (ls := [some (.ref 94), some (.int l1)]) ?_
  subst h
  exact k3 hz1
theorem kX11_isSaying (d n : Nat) (A : Nat → Nat → Int32) (L : Nat → Nat → Int64) (l1 : Int32) : jEv jtab (d + 2) 193 [.ref 94, .int l1] (Sh0 n, A, L) 0 0 (fun r M2 => r = some (.int (fX11_isSaying A l1)) ∧ M2 = (Sh0 n, A, L)) :=
  jEv.mk (mt := mX11_isSaying) rfl (Nat.le_of_ble_eq_true rfl) (jWP.intro (pr := pX11_isSaying) (pc := 0) (tfX11_isSaying d n A L l1 rfl (fun hz => ⟨hz, jCn.mk ⟨rfl, rfl⟩⟩)))
set_option maxRecDepth 20000 in
theorem tcX11_figured_5 (d n : Nat) (A : Nat → Nat → Int32) (L : Nat → Nat → Int64) (l0 : Int32) (l1 : Int32) (s : (Int32 × Int32)) {Q : Option Value → jM → Prop} {z : ((Int32 × Int32) ⊕ Int32)} (h : cX11_figured_5 l0 l1 s = some z) (k1 : ∀ s0, z = .inl s0 → pX11_figured (jEv jtab (d + 1), jWP (jEv jtab (d + 1)) Q ((Sh0 n).length, jsl (Sh0 n)) pX11_figured, Q, ((Sh0 n).length, jsl (Sh0 n))) 5 [some (.int l0), some (.int l1), some (.int s0.1), some (.int s0.2)] [] (Sh0 n, A, L)) (k2 : ∀ s0, z = .inr s0 → pX11_figured (jEv jtab (d + 1), jWP (jEv jtab (d + 1)) Q ((Sh0 n).length, jsl (Sh0 n)) pX11_figured, Q, ((Sh0 n).length, jsl (Sh0 n))) 32 [none, none, some (.int s0), none] [] (Sh0 n, A, L)) : pX11_figured (jEv jtab (d + 1), jWP (jEv jtab (d + 1)) Q ((Sh0 n).length, jsl (Sh0 n)) pX11_figured, Q, ((Sh0 n).length, jsl (Sh0 n))) 5 [some (.int l0), some (.int l1), some (.int s.1), some (.int s.2)] [] (Sh0 n, A, L) := by
  unfold cX11_figured_5 at h
  refine y_mask <| x_iload rfl <| x_iload rfl <| y_cmp_gt (fun h1 => ?_) (fun h1 => ?_)
  · replace h := of_pos h h1
    refine jWP.intro (pr := pX11_figured) (pc := 32) ?_
    have hk := k2 _ (Option.some.inj h).symm
    exact hk
  · replace h := of_neg h h1
    refine jWP.intro (pr := pX11_figured) (pc := 10) ?_
    show bX11_figured_10 _ _ _ _
    unfold bX11_figured_10
    refine y_mask ?_
    refine x_iload rfl ?_
    refine x_iload rfl ?_
    refine x_push ?_
    refine x_iadd ?_
    refine x_push ?_
    refine x_push ?_
    refine y_invS3 (Nat.le_of_ble_eq_true rfl) ?_
    refine jEv.exI (kX11_held _ _ _ _ _ _ _) ?_
    refine x_imul ?_
    refine x_push ?_
    refine x_idiv (by decide) ?_
    refine x_istore rfl ?_
    refine x_iinc rfl rfl ?_
    refine y_mask ?_
    refine y_goto ?_
    refine jWP.intro (pr := pX11_figured) (pc := 5) ?_
    have hk := k1 _ (Option.some.inj h).symm
    exact hk
set_option maxRecDepth 20000 in
theorem tfX11_figured (d n : Nat) (A : Nat → Nat → Int32) (L : Nat → Nat → Int64) (l0 : Int32) (l1 : Int32) {Q : Option Value → jM → Prop} {z : Int32} (h : fX11_figured l0 l1 = some z) (k3 : Q (some (.int z)) (Sh0 n, A, L)) : pX11_figured (jEv jtab (d + 1), jWP (jEv jtab (d + 1)) Q ((Sh0 n).length, jsl (Sh0 n)) pX11_figured, Q, ((Sh0 n).length, jsl (Sh0 n))) 0 [some (.int l0), some (.int l1), none, none] [] (Sh0 n, A, L) := by
  unfold fX11_figured at h
  refine y_mask <| x_push <| x_istore rfl <| x_push <| x_istore rfl <| y_mask <| y_goto ?_
  obtain ⟨e1, hw2, h⟩ := of_bind h
  refine jWP.intro (pr := pX11_figured) (pc := 5) ?_
  refine jwh_use (G := (fun s0 => pX11_figured (jEv jtab (d + 1), jWP (jEv jtab (d + 1)) Q ((Sh0 n).length, jsl (Sh0 n)) pX11_figured, Q, ((Sh0 n).length, jsl (Sh0 n))) 5 [some (.int l0), some (.int l1), some (.int s0.1), some (.int s0.2)] [] (Sh0 n, A, L))) (Gx := (fun s0 => pX11_figured (jEv jtab (d + 1), jWP (jEv jtab (d + 1)) Q ((Sh0 n).length, jsl (Sh0 n)) pX11_figured, Q, ((Sh0 n).length, jsl (Sh0 n))) 32 [none, none, some (.int s0), none] [] (Sh0 n, A, L))) (fun s1 z1 hz kk1 kk2 => tcX11_figured_5 d n A L l0 l1 s1 hz kk1 kk2) hw2 ?_
  refine y_mask <| x_iload rfl <| y_ireturn (ls := [none, none, some (.int e1), none]) ?_
  obtain rfl := Option.some.inj h
  exact k3
theorem kX11_figured (d n : Nat) (A : Nat → Nat → Int32) (L : Nat → Nat → Int64) (l0 : Int32) (l1 : Int32) {z : Int32} (h : fX11_figured l0 l1 = some z) : jEv jtab (d + 2) 195 [.int l0, .int l1] (Sh0 n, A, L) 0 0 (fun r M2 => r = some (.int z) ∧ M2 = (Sh0 n, A, L)) :=
  jEv.mk (mt := mX11_figured) rfl (Nat.le_of_ble_eq_true rfl) (jWP.intro (pr := pX11_figured) (pc := 0) (tfX11_figured d n A L l0 l1 h ⟨trivial, jCn.mk ⟨rfl, rfl⟩⟩))
set_option maxRecDepth 20000 in
theorem tfX11_likely (d n : Nat) (A : Nat → Nat → Int32) (L : Nat → Nat → Int64) (l1 : Int32) (l2 : Int32) {Q : Option Value → jM → Prop} {z : (Int32 × (Nat → Nat → Int32))} (h : fX11_likely A l1 l2 = some z) (k3 : Q (some (.int z.1)) (Sh0 n, z.2, L)) : pX11_likely (jEv jtab (d + 3), jWP (jEv jtab (d + 3)) Q ((Sh0 n).length, jsl (Sh0 n)) pX11_likely, Q, ((Sh0 n).length, jsl (Sh0 n))) 0 [some (.ref 94), some (.int l1), some (.int l2), none, none] [] (Sh0 n, A, L) := by
  unfold fX11_likely at h
  obtain ⟨g1, h⟩ := of_guard h
  obtain ⟨r2, hc3, h⟩ := of_bind h
  obtain ⟨g4, h⟩ := of_guard h
  obtain ⟨g5, h⟩ := of_guard h
  show bX11_likely_0 _ _ _ _
  unfold bX11_likely_0
  refine y_mask ?_
  refine x_aload rfl ?_
  refine x_push ?_
  refine x_iload rfl ?_
  refine x_aload rfl ?_
  refine x_getR (Nat.le_of_ble_eq_true rfl) rfl rfl ?_
  refine x_iload rfl ?_
  refine x_iald rfl g1 ?_
  refine y_invV3 (Nat.le_of_ble_eq_true rfl) rfl (Nat.le_of_ble_eq_true rfl) ?_
  refine jEv.exI (kX11_says _ _ _ _ _ _ _ hc3) ?_
  refine x_istore rfl ?_
  refine x_iload rfl ?_
  refine x_push ?_
  refine x_aload rfl ?_
  refine x_getR (Nat.le_of_ble_eq_true rfl) rfl rfl ?_
  refine x_iload rfl ?_
  refine x_iald rfl g4 ?_
  refine x_imul ?_
  refine x_iadd ?_
  refine x_push ?_
  refine x_push ?_
  refine y_invS3 (Nat.le_of_ble_eq_true rfl) ?_
  refine jEv.exI (kX11_held _ _ _ _ _ _ _) ?_
  refine x_istore rfl ?_
  refine x_aload rfl ?_
  refine x_getR (Nat.le_of_ble_eq_true rfl) rfl rfl ?_
  refine x_iload rfl ?_
  refine x_iald rfl g5 ?_
  refine y_sw (y_case (fun h6 => ?_) (fun h6 => y_case (fun h7 => ?_) (fun h7 => y_case (fun h8 => ?_) (fun h8 => y_case (fun h9 => ?_) (fun h9 => y_case (fun h10 => ?_) (fun h10 => y_dflt ?_))))))
  · replace h := of_pos h h6
    refine jWP.intro (pr := pX11_likely) (pc := 72) ?_
    refine y_mask <| x_iload rfl <| y_ireturn (ls := [none, none, none, none, some (.int (fX11_held (r2.1 + ((3 : Int32) * (r2.2 107 (jx l1)))) (0 : Int32) (100 : Int32)))]) ?_
    obtain rfl := Option.some.inj h
    exact k3
  · replace h := of_neg h h6
    replace h := of_pos h h7
    refine jWP.intro (pr := pX11_likely) (pc := 75) ?_
    obtain ⟨g11, h⟩ := of_guard h
    obtain ⟨r12, hc13, h⟩ := of_bind h
    refine y_mask <| x_iload rfl <| x_aload rfl <| x_getR (Nat.le_of_ble_eq_true rfl) rfl rfl <| x_iload rfl <| x_iald rfl g11 <| y_invS2 (Nat.le_of_ble_eq_true rfl) <| jEv.exI (kX11_figured _ _ _ _ _ _ hc13) <| y_ireturn (ls := [some (.ref 94), some (.int l1), none, some (.int r2.1), none]) ?_
    obtain rfl := Option.some.inj h
    exact k3
  · replace h := of_neg h h6
    replace h := of_neg h h7
    replace h := of_pos h h8
    refine jWP.intro (pr := pX11_likely) (pc := 86) ?_
    show bX11_likely_86 _ _ _ _
    unfold bX11_likely_86
    refine y_mask ?_
    refine x_iload rfl ?_
    refine x_push ?_
    refine x_iload rfl ?_
    refine x_isub ?_
    refine x_iload rfl ?_
    refine x_imul ?_
    refine x_push ?_
    refine x_idiv (by decide) ?_
    refine x_iadd ?_
    refine y_ireturn (ls := [none, none, none, none, some (.int (fX11_held (r2.1 + ((3 : Int32) * (r2.2 107 (jx l1)))) (0 : Int32) (100 : Int32)))]) ?_
    obtain rfl := Option.some.inj h
    exact k3
  · replace h := of_neg h h6
    replace h := of_neg h h7
    replace h := of_neg h h8
    replace h := of_pos h h9
    refine jWP.intro (pr := pX11_likely) (pc := 101) ?_
    obtain ⟨g14, h⟩ := of_guard h
    obtain ⟨r15, hc16, h⟩ := of_bind h
    show bX11_likely_101 _ _ _ _
    unfold bX11_likely_101
    refine y_mask ?_
    refine x_aload rfl ?_
    refine x_push ?_
    refine x_iload rfl ?_
    refine x_aload rfl ?_
    refine x_getR (Nat.le_of_ble_eq_true rfl) rfl rfl ?_
    refine x_iload rfl ?_
    refine x_iald rfl g14 ?_
    refine y_invV3 (Nat.le_of_ble_eq_true rfl) rfl (Nat.le_of_ble_eq_true rfl) ?_
    refine jEv.exI (kX11_says _ _ _ _ _ _ _ hc16) ?_
    refine y_ireturn (ls := [some (.ref 94), some (.int l1), some (.int l2), none, none]) ?_
    obtain rfl := Option.some.inj h
    exact k3
  · replace h := of_neg h h6
    replace h := of_neg h h7
    replace h := of_neg h h8
    replace h := of_neg h h9
    replace h := of_pos h h10
    refine jWP.intro (pr := pX11_likely) (pc := 114) ?_
    obtain ⟨g17, h⟩ := of_guard h
    show bX11_likely_114 _ _ _ _
    unfold bX11_likely_114
    refine y_mask ?_
    refine x_aload rfl ?_
    refine x_iload rfl ?_
    refine y_invV1 (Nat.le_of_ble_eq_true rfl) rfl (Nat.le_of_ble_eq_true rfl) ?_
    refine jEv.exI (kX11_farIn _ _ _ _ _) ?_
    refine x_push ?_
    refine x_aload rfl ?_
    refine x_getR (Nat.le_of_ble_eq_true rfl) rfl rfl ?_
    refine x_iload rfl ?_
    refine x_iald rfl g17 ?_
    refine x_imul ?_
    refine y_cmp_gt (fun h18 => ?_) (fun h18 => ?_)
    · replace h := of_pos h h18
      refine jWP.intro (pr := pX11_likely) (pc := 135) ?_
      obtain ⟨g19, h⟩ := of_guard h
      obtain ⟨r20, hc21, h⟩ := of_bind h
      show bX11_likely_135 _ _ _ _
      unfold bX11_likely_135
      refine y_mask ?_
      refine x_aload rfl ?_
      refine x_push ?_
      refine x_iload rfl ?_
      refine x_aload rfl ?_
      refine x_getR (Nat.le_of_ble_eq_true rfl) rfl rfl ?_
      refine x_iload rfl ?_
      refine x_iald rfl g19 ?_
      refine y_invV3 (Nat.le_of_ble_eq_true rfl) rfl (Nat.le_of_ble_eq_true rfl) ?_
      refine jEv.exI (kX11_says _ _ _ _ _ _ _ hc21) ?_
      refine x_push ?_
      refine x_idiv (by decide) ?_
      refine y_mask ?_
      refine y_goto ?_
      refine jWP.intro (pr := pX11_likely) (pc := 149) ?_
      refine y_mri (bs := []) (ls := []) ?_
      obtain rfl := Option.some.inj h
      exact k3
    · replace h := of_neg h h18
      refine jWP.intro (pr := pX11_likely) (pc := 130) ?_
      refine y_mask <| x_push <| y_mask <| y_goto ?_
      refine jWP.intro (pr := pX11_likely) (pc := 149) ?_
      refine y_mri (bs := []) (ls := []) ?_
      obtain rfl := Option.some.inj h
      exact k3
  · replace h := of_neg h h6
    replace h := of_neg h h7
    replace h := of_neg h h8
    replace h := of_neg h h9
    replace h := of_neg h h10
    skip
    refine jWP.intro (pr := pX11_likely) (pc := 150) ?_
    refine y_mask <| x_iload rfl <| y_ireturn (ls := [none, none, none, some (.int r2.1), none]) ?_
    obtain rfl := Option.some.inj h
    exact k3
theorem kX11_likely (d n : Nat) (A : Nat → Nat → Int32) (L : Nat → Nat → Int64) (l1 : Int32) (l2 : Int32) {z : (Int32 × (Nat → Nat → Int32))} (h : fX11_likely A l1 l2 = some z) : jEv jtab (d + 4) 196 [.ref 94, .int l1, .int l2] (Sh0 n, A, L) 0 0 (fun r M2 => r = some (.int z.1) ∧ M2 = (Sh0 n, z.2, L)) :=
  jEv.mk (mt := mX11_likely) rfl (Nat.le_of_ble_eq_true rfl) (jWP.intro (pr := pX11_likely) (pc := 0) (tfX11_likely d n A L l1 l2 h ⟨trivial, jCn.mk ⟨rfl, rfl⟩⟩))
set_option maxRecDepth 20000 in
theorem tfX11_takesIn (d n : Nat) (A : Nat → Nat → Int32) (L : Nat → Nat → Int64) (l1 : Int32) (l2 : Int32) {Q : Option Value → jM → Prop} {z : (Int32 × (Nat → Nat → Int32))} (h : fX11_takesIn A l1 l2 = some z) (k3 : Q (some (.int z.1)) (Sh0 n, z.2, L)) : pX11_takesIn (jEv jtab (d + 3), jWP (jEv jtab (d + 3)) Q ((Sh0 n).length, jsl (Sh0 n)) pX11_takesIn, Q, ((Sh0 n).length, jsl (Sh0 n))) 0 [some (.ref 94), some (.int l1), some (.int l2), none] [] (Sh0 n, A, L) := by
  unfold fX11_takesIn at h
  obtain ⟨g1, h⟩ := of_guard h
  obtain ⟨r2, hc3, h⟩ := of_bind h
  obtain ⟨g4, h⟩ := of_guard h
  show bX11_takesIn_0 _ _ _ _
  unfold bX11_takesIn_0
  refine y_mask ?_
  refine x_aload rfl ?_
  refine x_push ?_
  refine x_iload rfl ?_
  refine x_aload rfl ?_
  refine x_getR (Nat.le_of_ble_eq_true rfl) rfl rfl ?_
  refine x_iload rfl ?_
  refine x_iald rfl g1 ?_
  refine y_invV3 (Nat.le_of_ble_eq_true rfl) rfl (Nat.le_of_ble_eq_true rfl) ?_
  refine jEv.exI (kX11_says _ _ _ _ _ _ _ hc3) ?_
  refine x_istore rfl ?_
  refine x_aload rfl ?_
  refine x_getR (Nat.le_of_ble_eq_true rfl) rfl rfl ?_
  refine x_iload rfl ?_
  refine x_iald rfl g4 ?_
  refine y_sw (y_case (fun h5 => ?_) (fun h5 => y_case (fun h6 => ?_) (fun h6 => y_case (fun h7 => ?_) (fun h7 => y_case (fun h8 => ?_) (fun h8 => y_dflt ?_)))))
  · replace h := of_pos h h5
    refine jWP.intro (pr := pX11_takesIn) (pc := 48) ?_
    obtain ⟨g9, h⟩ := of_guard h
    show bX11_takesIn_48 _ _ _ _
    unfold bX11_takesIn_48
    refine y_mask ?_
    refine x_iload rfl ?_
    refine x_aload rfl ?_
    refine x_getR (Nat.le_of_ble_eq_true rfl) rfl rfl ?_
    refine x_iload rfl ?_
    refine x_iald rfl g9 ?_
    refine x_push ?_
    refine x_idiv (by decide) ?_
    refine x_iadd ?_
    refine y_ireturn (ls := [some (.ref 94), some (.int l1), none, some (.int r2.1)]) ?_
    obtain rfl := Option.some.inj h
    exact k3
  · replace h := of_neg h h5
    replace h := of_pos h h6
    refine jWP.intro (pr := pX11_takesIn) (pc := 59) ?_
    refine y_mask <| x_push <| x_iload rfl <| x_imul <| y_ireturn (ls := [none, none, none, some (.int r2.1)]) ?_
    obtain rfl := Option.some.inj h
    exact k3
  · replace h := of_neg h h5
    replace h := of_neg h h6
    replace h := of_pos h h7
    refine jWP.intro (pr := pX11_takesIn) (pc := 67) ?_
    refine y_mask <| x_iload rfl <| y_ireturn (ls := [none, none, none, some (.int r2.1)]) ?_
    obtain rfl := Option.some.inj h
    exact k3
  · replace h := of_neg h h5
    replace h := of_neg h h6
    replace h := of_neg h h7
    replace h := of_pos h h8
    refine jWP.intro (pr := pX11_takesIn) (pc := 63) ?_
    refine y_mask <| x_iload rfl <| x_push <| x_iadd <| y_ireturn (ls := [none, none, none, some (.int r2.1)]) ?_
    obtain rfl := Option.some.inj h
    exact k3
  · replace h := of_neg h h5
    replace h := of_neg h h6
    replace h := of_neg h h7
    replace h := of_neg h h8
    skip
    refine jWP.intro (pr := pX11_takesIn) (pc := 67) ?_
    refine y_mask <| x_iload rfl <| y_ireturn (ls := [none, none, none, some (.int r2.1)]) ?_
    obtain rfl := Option.some.inj h
    exact k3
theorem kX11_takesIn (d n : Nat) (A : Nat → Nat → Int32) (L : Nat → Nat → Int64) (l1 : Int32) (l2 : Int32) {z : (Int32 × (Nat → Nat → Int32))} (h : fX11_takesIn A l1 l2 = some z) : jEv jtab (d + 4) 197 [.ref 94, .int l1, .int l2] (Sh0 n, A, L) 0 0 (fun r M2 => r = some (.int z.1) ∧ M2 = (Sh0 n, z.2, L)) :=
  jEv.mk (mt := mX11_takesIn) rfl (Nat.le_of_ble_eq_true rfl) (jWP.intro (pr := pX11_takesIn) (pc := 0) (tfX11_takesIn d n A L l1 l2 h ⟨trivial, jCn.mk ⟨rfl, rfl⟩⟩))
set_option maxRecDepth 20000 in
theorem tfX11_told (d n : Nat) (A : Nat → Nat → Int32) (L : Nat → Nat → Int64) (l1 : Int32) (l2 : Int32) (l3 : Int32) {Q : Option Value → jM → Prop} {z : (Int32 × (Nat → Nat → Int32))} (h : fX11_told A l1 l2 l3 = some z) (k3 : Q (some (.int z.1)) (Sh0 n, z.2, L)) : pX11_told (jEv jtab (d + 4), jWP (jEv jtab (d + 4)) Q ((Sh0 n).length, jsl (Sh0 n)) pX11_told, Q, ((Sh0 n).length, jsl (Sh0 n))) 0 [some (.ref 94), some (.int l1), some (.int l2), some (.int l3)] [] (Sh0 n, A, L) := by
  unfold fX11_told at h
  refine y_mask <| x_aload rfl <| x_iload rfl <| y_invV1 (Nat.le_of_ble_eq_true rfl) rfl (Nat.le_of_ble_eq_true rfl) <| jEv.exZ (q := 193) rfl (kX11_isSaying _ _ _ _ _) <| fun hz1 => y_if_ne (fun h2 => ?_) (fun h2 => ?_)
  · replace h := of_neg h h2
    refine jWP.intro (pr := pX11_told) (pc := 11) ?_
    refine y_mask <| x_aload rfl <| x_iload rfl <| y_invV1 (Nat.le_of_ble_eq_true rfl) rfl (Nat.le_of_ble_eq_true rfl) <| jEv.exZ (q := 167) rfl (kX11_isMinute _ _ _ _ _) <| fun hz3 => y_if_ne (fun h4 => ?_) (fun h4 => ?_)
    · replace h := of_neg h h4
      refine jWP.intro (pr := pX11_told) (pc := 22) ?_
      refine y_mask <| x_iload rfl <| y_sw (y_case (fun h5 => ?_) (fun h5 => y_case (fun h6 => ?_) (fun h6 => y_case (fun h7 => ?_) (fun h7 => y_case (fun h8 => ?_) (fun h8 => y_case (fun h9 => ?_) (fun h9 => y_case (fun h10 => ?_) (fun h10 => y_dflt ?_)))))))
      · replace h := of_pos h h5
        refine jWP.intro (pr := pX11_told) (pc := 60) ?_
        obtain ⟨g11, h⟩ := of_guard h
        refine y_mask <| x_aload rfl <| x_getR (Nat.le_of_ble_eq_true rfl) rfl rfl <| x_iload rfl <| x_iald rfl g11 <| y_ireturn (ls := [some (.ref 94), some (.int l1), none, none]) ?_
        obtain rfl := Option.some.inj h
        exact k3
      · replace h := of_neg h h5
        replace h := of_pos h h6
        refine jWP.intro (pr := pX11_told) (pc := 67) ?_
        obtain ⟨g12, h⟩ := of_guard h
        refine y_mask <| x_aload rfl <| x_getR (Nat.le_of_ble_eq_true rfl) rfl rfl <| x_iload rfl <| x_iald rfl g12 <| y_ireturn (ls := [some (.ref 94), some (.int l1), none, none]) ?_
        obtain rfl := Option.some.inj h
        exact k3
      · replace h := of_neg h h5
        replace h := of_neg h h6
        replace h := of_pos h h7
        refine jWP.intro (pr := pX11_told) (pc := 74) ?_
        obtain ⟨g13, h⟩ := of_guard h
        refine y_mask <| x_aload rfl <| x_getR (Nat.le_of_ble_eq_true rfl) rfl rfl <| x_iload rfl <| x_iald rfl g13 <| y_ireturn (ls := [some (.ref 94), some (.int l1), none, none]) ?_
        obtain rfl := Option.some.inj h
        exact k3
      · replace h := of_neg h h5
        replace h := of_neg h h6
        replace h := of_neg h h7
        replace h := of_pos h h8
        refine jWP.intro (pr := pX11_told) (pc := 81) ?_
        obtain ⟨r14, hc15, h⟩ := of_bind h
        refine y_mask <| x_aload rfl <| x_iload rfl <| x_iload rfl <| y_invV2 (Nat.le_of_ble_eq_true rfl) rfl (Nat.le_of_ble_eq_true rfl) <| jEv.exI (kX11_likely _ _ _ _ _ _ hc15) <| y_ireturn (ls := [some (.ref 94), some (.int l1), some (.int l2), none]) ?_
        obtain rfl := Option.some.inj h
        exact k3
      · replace h := of_neg h h5
        replace h := of_neg h h6
        replace h := of_neg h h7
        replace h := of_neg h h8
        replace h := of_pos h h9
        refine jWP.intro (pr := pX11_told) (pc := 88) ?_
        obtain ⟨r16, hc17, h⟩ := of_bind h
        refine y_mask <| x_aload rfl <| x_iload rfl <| x_iload rfl <| y_invV2 (Nat.le_of_ble_eq_true rfl) rfl (Nat.le_of_ble_eq_true rfl) <| jEv.exI (kX11_takesIn _ _ _ _ _ _ hc17) <| y_ireturn (ls := [some (.ref 94), some (.int l1), some (.int l2), none]) ?_
        obtain rfl := Option.some.inj h
        exact k3
      · replace h := of_neg h h5
        replace h := of_neg h h6
        replace h := of_neg h h7
        replace h := of_neg h h8
        replace h := of_neg h h9
        replace h := of_pos h h10
        refine jWP.intro (pr := pX11_told) (pc := 95) ?_
        obtain ⟨g18, h⟩ := of_guard h
        refine y_mask <| x_aload rfl <| x_getR (Nat.le_of_ble_eq_true rfl) rfl rfl <| x_iload rfl <| x_iald rfl g18 <| x_push <| y_cmp_eq (fun h19 => ?_) (fun h19 => ?_)
        · replace h := of_pos h h19
          refine jWP.intro (pr := pX11_told) (pc := 115) ?_
          refine y_mask <| x_push <| y_mask <| y_goto ?_
          refine jWP.intro (pr := pX11_told) (pc := 120) ?_
          refine y_mri (bs := []) (ls := []) ?_
          obtain rfl := Option.some.inj h
          exact k3
        · replace h := of_neg h h19
          refine jWP.intro (pr := pX11_told) (pc := 105) ?_
          obtain ⟨g20, h⟩ := of_guard h
          refine y_mask <| x_aload rfl <| x_getR (Nat.le_of_ble_eq_true rfl) rfl rfl <| x_iload rfl <| x_iald rfl g20 <| x_push <| y_cmp_ne (fun h21 => ?_) (fun h21 => ?_)
          · replace h := of_neg h h21
            refine jWP.intro (pr := pX11_told) (pc := 119) ?_
            refine y_mask <| x_push <| y_mask <| y_goto ?_
            refine jWP.intro (pr := pX11_told) (pc := 120) ?_
            refine y_mri (bs := []) (ls := []) ?_
            obtain rfl := Option.some.inj h
            exact k3
          · replace h := of_pos h h21
            refine jWP.intro (pr := pX11_told) (pc := 115) ?_
            refine y_mask <| x_push <| y_mask <| y_goto ?_
            refine jWP.intro (pr := pX11_told) (pc := 120) ?_
            refine y_mri (bs := []) (ls := []) ?_
            obtain rfl := Option.some.inj h
            exact k3
      · replace h := of_neg h h5
        replace h := of_neg h h6
        replace h := of_neg h h7
        replace h := of_neg h h8
        replace h := of_neg h h9
        replace h := of_neg h h10
        skip
        refine jWP.intro (pr := pX11_told) (pc := 121) ?_
        refine y_mpri (bs := []) (ls := []) ?_
        obtain rfl := Option.some.inj h
        exact k3
    · replace h := of_pos h h4
      refine jWP.intro (pr := pX11_told) (pc := 19) ?_
      refine y_mpri (bs := []) (ls := []) ?_
      obtain rfl := Option.some.inj h
      exact k3
  · replace h := of_pos h h2
    refine jWP.intro (pr := pX11_told) (pc := 8) ?_
    refine y_mpri (bs := []) (ls := []) ?_
    obtain rfl := Option.some.inj h
    exact k3
theorem kX11_told (d n : Nat) (A : Nat → Nat → Int32) (L : Nat → Nat → Int64) (l1 : Int32) (l2 : Int32) (l3 : Int32) {z : (Int32 × (Nat → Nat → Int32))} (h : fX11_told A l1 l2 l3 = some z) : jEv jtab (d + 5) 198 [.ref 94, .int l1, .int l2, .int l3] (Sh0 n, A, L) 0 0 (fun r M2 => r = some (.int z.1) ∧ M2 = (Sh0 n, z.2, L)) :=
  jEv.mk (mt := mX11_told) rfl (Nat.le_of_ble_eq_true rfl) (jWP.intro (pr := pX11_told) (pc := 0) (tfX11_told d n A L l1 l2 l3 h ⟨trivial, jCn.mk ⟨rfl, rfl⟩⟩))
set_option maxRecDepth 20000 in
theorem tcX11_theRow_10 (d n : Nat) (A : Nat → Nat → Int32) (L : Nat → Nat → Int64) (s : (Int32 × (Nat → Nat → Int32))) {Q : Option Value → jM → Prop} {z : ((Int32 × (Nat → Nat → Int32)) ⊕ (Nat → Nat → Int32))} (h : cX11_theRow_10 s = some z) (k1 : ∀ s0, z = .inl s0 → pX11_theRow (jEv jtab (d + 0), jWP (jEv jtab (d + 0)) Q ((Sh0 n).length, jsl (Sh0 n)) pX11_theRow, Q, ((Sh0 n).length, jsl (Sh0 n))) 10 [some (.ref 94), some (.int s0.1)] [] (Sh0 n, s0.2, L)) (k2 : ∀ s0, z = .inr s0 → pX11_theRow (jEv jtab (d + 0), jWP (jEv jtab (d + 0)) Q ((Sh0 n).length, jsl (Sh0 n)) pX11_theRow, Q, ((Sh0 n).length, jsl (Sh0 n))) 31 [none, none] [] (Sh0 n, s0, L)) : pX11_theRow (jEv jtab (d + 0), jWP (jEv jtab (d + 0)) Q ((Sh0 n).length, jsl (Sh0 n)) pX11_theRow, Q, ((Sh0 n).length, jsl (Sh0 n))) 10 [some (.ref 94), some (.int s.1)] [] (Sh0 n, s.2, L) := by
  unfold cX11_theRow_10 at h
  refine y_mask <| x_iload rfl <| x_aload rfl <| x_getI (Nat.le_of_ble_eq_true rfl) rfl rfl <| y_cmp_ge (fun h1 => ?_) (fun h1 => ?_)
  · replace h := of_pos h h1
    refine jWP.intro (pr := pX11_theRow) (pc := 31) ?_
    have hk := k2 _ (Option.some.inj h).symm
    exact hk
  · replace h := of_neg h h1
    refine jWP.intro (pr := pX11_theRow) (pc := 18) ?_
    obtain ⟨g2, h⟩ := of_guard h
    obtain ⟨m3, hm4, h⟩ := of_bind h
    show bX11_theRow_18 _ _ _ _
    unfold bX11_theRow_18
    refine y_mask ?_
    refine x_aload rfl ?_
    refine x_getR (Nat.le_of_ble_eq_true rfl) rfl rfl ?_
    refine x_iload rfl ?_
    refine x_iload rfl ?_
    refine x_iast (Nat.le_of_ble_eq_true rfl) rfl g2 ?_
    refine y_let (Option.some.inj hm4) ?_
    refine x_iinc rfl rfl ?_
    refine y_mask ?_
    refine y_goto ?_
    refine jWP.intro (pr := pX11_theRow) (pc := 10) ?_
    have hk := k1 _ (Option.some.inj h).symm
    exact hk
set_option maxRecDepth 20000 in
theorem tfX11_theRow (d n : Nat) (A : Nat → Nat → Int32) (L : Nat → Nat → Int64) {Q : Option Value → jM → Prop} {z : (Nat → Nat → Int32)} (h : fX11_theRow A = some z) (k3 : Q (none) (Sh0 n, z, L)) : pX11_theRow (jEv jtab (d + 0), jWP (jEv jtab (d + 0)) Q ((Sh0 n).length, jsl (Sh0 n)) pX11_theRow, Q, ((Sh0 n).length, jsl (Sh0 n))) 0 [some (.ref 94), none] [] (Sh0 n, A, L) := by
  unfold fX11_theRow at h
  refine y_mask <| x_aload rfl <| x_aload rfl <| x_getI (Nat.le_of_ble_eq_true rfl) rfl rfl <| x_putI (Nat.le_of_ble_eq_true rfl) rfl rfl <| x_push <| x_istore rfl <| y_mask <| y_goto ?_
  obtain ⟨e1, hw2, h⟩ := of_bind h
  refine jWP.intro (pr := pX11_theRow) (pc := 10) ?_
  refine jwh_use (G := (fun s0 => pX11_theRow (jEv jtab (d + 0), jWP (jEv jtab (d + 0)) Q ((Sh0 n).length, jsl (Sh0 n)) pX11_theRow, Q, ((Sh0 n).length, jsl (Sh0 n))) 10 [some (.ref 94), some (.int s0.1)] [] (Sh0 n, s0.2, L))) (Gx := (fun s0 => pX11_theRow (jEv jtab (d + 0), jWP (jEv jtab (d + 0)) Q ((Sh0 n).length, jsl (Sh0 n)) pX11_theRow, Q, ((Sh0 n).length, jsl (Sh0 n))) 31 [none, none] [] (Sh0 n, s0, L))) (fun s1 z1 hz kk1 kk2 => tcX11_theRow_10 d n (va_up A 94 (upd (A 94) 25 (A 94 21))) L s1 hz kk1 kk2) hw2 ?_
  refine y_mrv (bs := []) (ls := []) ?_
  obtain rfl := Option.some.inj h
  exact k3
theorem kX11_theRow (d n : Nat) (A : Nat → Nat → Int32) (L : Nat → Nat → Int64) {z : (Nat → Nat → Int32)} (h : fX11_theRow A = some z) : jEv jtab (d + 1) 200 [.ref 94] (Sh0 n, A, L) 0 0 (fun r M2 => r = none ∧ M2 = (Sh0 n, z, L)) :=
  jEv.mk (mt := mX11_theRow) rfl (Nat.le_of_ble_eq_true rfl) (jWP.intro (pr := pX11_theRow) (pc := 0) (tfX11_theRow d n A L h ⟨trivial, jCn.mk ⟨rfl, rfl⟩⟩))
