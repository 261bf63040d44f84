/-! CONTRACTS: books -/
theorem kX0_daysBetween (d n : Nat) (A : Nat → Nat → Int32) (L : Nat → Nat → Int64) (i j : Int32) (hi : vp_in i 10) (hj : vp_in j 10) : jEv jtab (d + 1) 4 [.ref 64, .int i, .int j] (Sh0 n, A, L) 0 0 (fun r M2 => r = some (.int (jab (A 66 i.toNatClampNeg - A 66 j.toNatClampNeg))) ∧ M2 = (Sh0 n, A, L)) := by
  refine jEv.mk (mt := mX0_daysBetween) rfl (Nat.le_of_ble_eq_true rfl) ?_
  refine jWP.intro (pr := pX0_daysBetween) (pc := 0) ?_
  refine y_mask <| x_aload rfl <| x_getR (Nat.le_of_ble_eq_true rfl) rfl rfl <| x_iload rfl <| x_iald rfl ?_ <| x_aload rfl <| x_getR (Nat.le_of_ble_eq_true rfl) rfl rfl <| x_iload rfl <| x_iald rfl ?_ <| x_isub <| y_mabs (Nat.le_of_ble_eq_true rfl) <| y_ireturn (ls := []) ?_
  · exact hi -- index 5 of ('r', 66) 
  · exact hj -- index 11 of ('r', 66) 
  · exact ⟨trivial, jCn.mk ⟨rfl, rfl⟩⟩ -- return 

theorem kX0_cellsBetween (d n : Nat) (A : Nat → Nat → Int32) (L : Nat → Nat → Int64) (i j : Int32) (hi : vp_in i 10) (hj : vp_in j 10) : jEv jtab (d + 1) 5 [.ref 64, .int i, .int j] (Sh0 n, A, L) 0 0 (fun r M2 => r = some (.int (jab (A 67 i.toNatClampNeg - A 67 j.toNatClampNeg))) ∧ M2 = (Sh0 n, A, L)) := by
  refine jEv.mk (mt := mX0_cellsBetween) rfl (Nat.le_of_ble_eq_true rfl) ?_
  refine jWP.intro (pr := pX0_cellsBetween) (pc := 0) ?_
  refine y_mask <| x_aload rfl <| x_getR (Nat.le_of_ble_eq_true rfl) rfl rfl <| x_iload rfl <| x_iald rfl ?_ <| x_aload rfl <| x_getR (Nat.le_of_ble_eq_true rfl) rfl rfl <| x_iload rfl <| x_iald rfl ?_ <| x_isub <| y_mabs (Nat.le_of_ble_eq_true rfl) <| y_ireturn (ls := []) ?_
  · exact hi -- index 5 of ('r', 67) 
  · exact hj -- index 11 of ('r', 67) 
  · exact ⟨trivial, jCn.mk ⟨rfl, rfl⟩⟩ -- return 

abbrev jdb (A : Nat → Nat → Int32) (i j : Nat) : Int32 := jab (A 66 i - A 66 j)
abbrev jcb (A : Nat → Nat → Int32) (i j : Nat) : Int32 := jab (A 67 i - A 67 j)
abbrev jbit (i : Nat) : Int32 := (1 : Int32) <<< (nI i &&& 31)
abbrev jhas (x : Int32) (i : Nat) : Int32 := (x >>> (nI i &&& 31)) &&& 1
def g_clo (A : Nat → Nat → Int32) (r : Nat) (i : Nat) (a : Int32) : Int32 := if ¬ A 65 i = A 65 r then a else if 1 < jdb A i r then a else if 2 < jcb A i r then a else a ||| jbit i
def f_clo (A : Nat → Nat → Int32) (r N : Nat) : Int32 := jit (g_clo A r) N 0
theorem kX0_closeTo (d n : Nat) (A : Nat → Nat → Int32) (L : Nat → Nat → Int64) (r : Int32) (N : Nat) (hN : jnat (A 64 4) N) (hN10 : N ≤ 10) (hr : vp_in r 10) : jEv jtab (d + 2) 3 [.ref 64, .int r] (Sh0 n, A, L) 0 0 (fun r M2 => r = some (.int (f_clo A r.toNatClampNeg N)) ∧ M2 = (Sh0 n, A, L)) := by
  refine jEv.mk (mt := mX0_closeTo) rfl (Nat.le_of_ble_eq_true rfl) ?_
  refine jWP.intro (pr := pX0_closeTo) (pc := 0) ?_
  refine y_mask <| x_push <| x_istore rfl <| x_push <| x_istore rfl <| y_mask <| y_goto ?_
  refine jfor (fun i a => [some (.ref 64), some (.int r), some (.int a), some (.int i)]) (fun a => (Sh0 n, A, L)) (g_clo A r.toNatClampNeg) N 0 ?_ (fun i a hi hn => ?_)
  · -- end
    refine jWP.intro (pr := pX0_closeTo) (pc := 4) ?_
    refine y_mask <| x_iload rfl <| x_aload rfl <| x_getI (Nat.le_of_ble_eq_true rfl) rfl rfl <| y_cmp_ge (fun h1 => ?_) (fun h1 => ?_)
    · refine jWP.intro (pr := pX0_closeTo) (pc := 59) ?_
      refine y_mask <| x_iload rfl <| y_ireturn (ls := []) ?_
      exact ⟨trivial, jCn.mk ⟨rfl, rfl⟩⟩ -- return  h1+
    · exact absurd hN.le h1
  · -- step
    have hci : (nI i).toNatClampNeg = i := nI_clamp (by have := hN.2; omega)
    refine jWP.intro (pr := pX0_closeTo) (pc := 4) ?_
    refine y_mask <| x_iload rfl <| x_aload rfl <| x_getI (Nat.le_of_ble_eq_true rfl) rfl rfl <| y_cmp_ge (fun h1 => ?_) (fun h1 => ?_)
    · exact absurd h1 (hN.ge hi)
    · refine jWP.intro (pr := pX0_closeTo) (pc := 12) ?_
      refine y_mask <| x_aload rfl <| x_getR (Nat.le_of_ble_eq_true rfl) rfl rfl <| x_iload rfl <| x_iald rfl ?_ <| x_aload rfl <| x_getR (Nat.le_of_ble_eq_true rfl) rfl rfl <| x_iload rfl <| x_iald rfl ?_ <| y_cmp_ne (fun h2 => ?_) (fun h2 => ?_)
      · exact vpn2 hN hi hN10 -- index 17 of ('r', 65)  h1-
      · exact hr -- index 23 of ('r', 65)  h1-
      · refine jWP.intro (pr := pX0_closeTo) (pc := 53) ?_
        refine y_mask <| x_iinc rfl rfl <| y_mask <| y_goto ?_
        rw [hci] at h2
        rw [show g_clo A r.toNatClampNeg i a = a from if_pos h2] at hn
        exact hn
      · refine jWP.intro (pr := pX0_closeTo) (pc := 27) ?_
        refine y_mask <| x_aload rfl <| x_iload rfl <| x_iload rfl <| y_invV2 (Nat.le_of_ble_eq_true rfl) rfl (Nat.le_of_ble_eq_true rfl) <| jEv.exI (kX0_daysBetween _ _ _ _ _ _ ?_ ?_) <| x_push <| y_cmp_gt (fun h3 => ?_) (fun h3 => ?_)
        · exact vpn2 hN hi hN10 -- hyp0 of kX0_daysBetween 30  h1- h2-
        · exact hr -- hyp1 of kX0_daysBetween 30  h1- h2-
        · refine jWP.intro (pr := pX0_closeTo) (pc := 53) ?_
          refine y_mask <| x_iinc rfl rfl <| y_mask <| y_goto ?_
          rw [hci] at h2 h3
          rw [show g_clo A r.toNatClampNeg i a = a from (if_neg (fun z => z h2)).trans (if_pos h3)] at hn
          exact hn
        · refine jWP.intro (pr := pX0_closeTo) (pc := 37) ?_
          refine y_mask <| x_aload rfl <| x_iload rfl <| x_iload rfl <| y_invV2 (Nat.le_of_ble_eq_true rfl) rfl (Nat.le_of_ble_eq_true rfl) <| jEv.exI (kX0_cellsBetween _ _ _ _ _ _ ?_ ?_) <| x_push <| y_cmp_gt (fun h4 => ?_) (fun h4 => ?_)
          · exact vpn2 hN hi hN10 -- hyp0 of kX0_cellsBetween 40  h1- h2- h3-
          · exact hr -- hyp1 of kX0_cellsBetween 40  h1- h2- h3-
          · refine jWP.intro (pr := pX0_closeTo) (pc := 53) ?_
            refine y_mask <| x_iinc rfl rfl <| y_mask <| y_goto ?_
            rw [hci] at h2 h3 h4
            rw [show g_clo A r.toNatClampNeg i a = a from (if_neg (fun z => z h2)).trans ((if_neg h3).trans (if_pos h4))] at hn
            exact hn
          · refine jWP.intro (pr := pX0_closeTo) (pc := 47) ?_
            refine y_mask <| x_iload rfl <| x_push <| x_iload rfl <| x_ishl <| x_ior <| x_istore rfl <| y_mask <| y_goto ?_
            refine jWP.intro (pr := pX0_closeTo) (pc := 53) ?_
            refine y_mask <| x_iinc rfl rfl <| y_mask <| y_goto ?_
            rw [hci] at h2 h3 h4
            rw [show g_clo A r.toNatClampNeg i a = a ||| jbit i from (if_neg (fun z => z h2)).trans ((if_neg h3).trans (if_neg h4))] at hn
            exact hn

def g_mee (A : Nat → Nat → Int32) (N : Nat) (i : Nat) (a : Int32) : Int32 := if jhas a i = 0 then a else a ||| f_clo A i N
/-- once over all reports -/
def f_onc (A : Nat → Nat → Int32) (N : Nat) (a : Int32) : Int32 := jit (g_mee A N) N a
def f_mee (A : Nat → Nat → Int32) (r : Int32) (N : Nat) : Int32 := jit (fun _ a => f_onc A N a) 10 ((1 : Int32) <<< (r &&& 31))
theorem jit_fix {α : Type} {f : α → α} {a : α} (h : f a = a) : ∀ n, jit (fun _ a => f a) n a = a
  | 0 => rfl
  | n + 1 => by simp only [jit]; rw [jit_fix h n, h]
theorem jit_add {α : Type} {f : α → α} {a : α} (m : Nat) : ∀ n, jit (fun _ a => f a) (m + n) a = jit (fun _ a => f a) n (jit (fun _ a => f a) m a)
  | 0 => rfl
  | n + 1 => by
    rw [← Nat.add_assoc]
    simp only [jit]
    rw [jit_add m n]
theorem kX0_meetingOf (d n : Nat) (A : Nat → Nat → Int32) (L : Nat → Nat → Int64) (r : Int32) (N : Nat) (hN : jnat (A 64 4) N) (hN10 : N ≤ 10) : jEv jtab (d + 3) 2 [.ref 64, .int r] (Sh0 n, A, L) 0 0 (fun r M2 => r = some (.int (f_mee A r N)) ∧ M2 = (Sh0 n, A, L)) := by
  refine jEv.mk (mt := mX0_meetingOf) rfl (Nat.le_of_ble_eq_true rfl) ?_
  refine jWP.intro (pr := pX0_meetingOf) (pc := 0) ?_
  refine y_mask <| x_push <| x_iload rfl <| x_ishl <| x_istore rfl <| x_push <| x_istore rfl <| x_push <| x_istore rfl <| y_mask <| y_goto ?_
  have key : ∀ (m k : Nat) (b gr : Int32), k + m = 10 → (gr = 0 → f_onc A N b = b) → b = jit (fun _ a => f_onc A N a) k ((1 : Int32) <<< (r &&& 31)) → jWP (jEv jtab (d + 2)) (fun r_1 M2 => jrok mX0_meetingOf.2.2.2.1 r_1 ∧ jCn (Sh0 n, A, L) 0 0 (fun r_1 M2 => r_1 = some (Value.int (f_mee A r N)) ∧ M2 = (Sh0 n, A, L)) r_1 M2) ((Sh0 n).length, jsl (Sh0 n)) pX0_meetingOf 9 [some (.ref 64), none, some (.int b), some (.int gr), some (.int (nI k)), none, none] [] (Sh0 n, A, L) := by
    intro m
    induction m with
    | zero =>
      intro k b gr hk hg hb
      have hk10 : k = 10 := by omega
      subst hk10
      refine jWP.intro (pr := pX0_meetingOf) (pc := 9) ?_
      refine y_mask <| x_iload rfl <| x_push <| y_cmp_ge (fun h1 => ?_) (fun h1 => ?_)
      · refine jWP.intro (pr := pX0_meetingOf) (pc := 77) ?_
        refine y_mask <| x_iload rfl <| y_ireturn (ls := []) ?_
        exact ⟨trivial, jCn.mk ⟨by rw [hb]; rfl, rfl⟩⟩ -- return  h1+
      · exact absurd (Int32.le_refl _) h1
    | succ m ih =>
      intro k b gr hk hg hb
      refine jWP.intro (pr := pX0_meetingOf) (pc := 9) ?_
      refine y_mask <| x_iload rfl <| x_push <| y_cmp_ge (fun h1 => ?_) (fun h1 => ?_)
      · exact absurd h1 ((jnc (N := 10) (by decide)).ge (by omega))
      · refine jWP.intro (pr := pX0_meetingOf) (pc := 16) ?_
        refine y_mask <| x_iload rfl <| y_if_eq (fun h2 => ?_) (fun h2 => ?_)
        · refine jWP.intro (pr := pX0_meetingOf) (pc := 77) ?_
          refine y_mask <| x_iload rfl <| y_ireturn (ls := []) ?_
          exact ⟨trivial, jCn.mk ⟨by
            have e : f_mee A r N = b := by
              unfold f_mee
              rw [show 10 = k + (m + 1) by omega, jit_add, ← hb]
              exact jit_fix (hg h2) _
            rw [e], rfl⟩⟩
        · refine jWP.intro (pr := pX0_meetingOf) (pc := 20) ?_
          refine y_mask <| x_iload rfl <| x_istore rfl <| x_push <| x_istore rfl <| y_mask <| y_goto ?_
          refine jfor (fun j c => [some (.ref 64), none, some (.int c), none, some (.int (nI k)), some (.int b), some (.int j)]) (fun c => (Sh0 n, A, L)) (g_mee A N) N b ?_ (fun j c hj hm => ?_)
          · -- end
            refine jWP.intro (pr := pX0_meetingOf) (pc := 26) ?_
            refine y_mask <| x_iload rfl <| x_aload rfl <| x_getI (Nat.le_of_ble_eq_true rfl) rfl rfl <| y_cmp_ge (fun h3 => ?_) (fun h3 => ?_)
            · refine jWP.intro (pr := pX0_meetingOf) (pc := 59) ?_
              refine y_mask <| x_iload rfl <| x_iload rfl <| y_cmp_eq (fun h4 => ?_) (fun h4 => ?_)
              · refine jWP.intro (pr := pX0_meetingOf) (pc := 69) ?_
                refine y_mask <| x_push <| y_mask <| y_goto ?_
                refine jWP.intro (pr := pX0_meetingOf) (pc := 70) ?_
                refine y_mask <| x_istore rfl <| x_iinc rfl rfl <| y_mask <| y_goto ?_
                have hst : f_onc A N b = b := h4
                have hgo := ih (k + 1) (f_onc A N b) 0 (by omega) (fun _ => by rw [hst]; exact hst) (by rw [hb]; rfl)
                rw [← nI_1 k] at hgo
                exact hgo -- goto 9  h3+ h4+
              · refine jWP.intro (pr := pX0_meetingOf) (pc := 65) ?_
                refine y_mask <| x_push <| y_mask <| y_goto ?_
                refine jWP.intro (pr := pX0_meetingOf) (pc := 70) ?_
                refine y_mask <| x_istore rfl <| x_iinc rfl rfl <| y_mask <| y_goto ?_
                have hgo := ih (k + 1) (f_onc A N b) 1 (by omega) (fun z => absurd z (by decide)) (by rw [hb]; rfl)
                rw [← nI_1 k] at hgo
                exact hgo -- goto 9  h3+ h4-
            · exact absurd hN.le h3
          · -- step
            have hcj : (nI j).toNatClampNeg = j := nI_clamp (by have := hN.2; omega)
            refine jWP.intro (pr := pX0_meetingOf) (pc := 26) ?_
            refine y_mask <| x_iload rfl <| x_aload rfl <| x_getI (Nat.le_of_ble_eq_true rfl) rfl rfl <| y_cmp_ge (fun h3 => ?_) (fun h3 => ?_)
            · exact absurd h3 (hN.ge hj)
            · refine jWP.intro (pr := pX0_meetingOf) (pc := 35) ?_
              refine y_mask <| x_iload rfl <| x_iload rfl <| x_ishr <| x_push <| x_iand <| y_if_eq (fun h4 => ?_) (fun h4 => ?_)
              · refine jWP.intro (pr := pX0_meetingOf) (pc := 53) ?_
                refine y_mask <| x_iinc rfl rfl <| y_mask <| y_goto ?_
                rw [show g_mee A N j c = c from if_pos h4] at hm
                exact hm
              · refine jWP.intro (pr := pX0_meetingOf) (pc := 44) ?_
                refine y_mask <| x_iload rfl <| x_aload rfl <| x_iload rfl <| y_invV1 (Nat.le_of_ble_eq_true rfl) rfl (Nat.le_of_ble_eq_true rfl) <| jEv.exI (kX0_closeTo _ _ _ _ _ N ?_ ?_ ?_) <| x_ior <| x_istore rfl <| y_mask <| y_goto ?_
                · exact hN -- hyp0 of kX0_closeTo 48  h3- h4-
                · exact hN10 -- hyp1 of kX0_closeTo 48  h3- h4-
                · exact vpn2 hN hj hN10 -- hyp2 of kX0_closeTo 48  h3- h4-
                · refine jWP.intro (pr := pX0_meetingOf) (pc := 53) ?_
                  refine y_mask <| x_iinc rfl rfl <| y_mask <| y_goto ?_
                  rw [hcj]
                  rw [show g_mee A N j c = c ||| f_clo A j N from if_neg h4] at hm
                  exact hm
  exact key 10 0 _ 1 rfl (fun z => absurd z (by decide)) rfl

def g_mof (A : Nat → Nat → Int32) (s : Int32) (N : Nat) (i : Nat) (a : Int32 × Int32) : Int32 × Int32 := if ¬ A 65 i = s then a else if ¬ jhas a.1 i = 0 then a else (a.1 ||| f_mee A (nI i) N, a.2 + 1)
def f_mof (A : Nat → Nat → Int32) (s : Int32) (N : Nat) : Int32 := (jit (g_mof A s N) N (0, 0)).2
theorem kX0_meetingsOf (d n : Nat) (A : Nat → Nat → Int32) (L : Nat → Nat → Int64) (s : Int32) (N : Nat) (hN : jnat (A 64 4) N) (hN10 : N ≤ 10) : jEv jtab (d + 4) 6 [.ref 64, .int s] (Sh0 n, A, L) 0 0 (fun r M2 => r = some (.int (f_mof A s N)) ∧ M2 = (Sh0 n, A, L)) := by
  refine jEv.mk (mt := mX0_meetingsOf) rfl (Nat.le_of_ble_eq_true rfl) ?_
  refine jWP.intro (pr := pX0_meetingsOf) (pc := 0) ?_
  refine y_mask <| x_push <| x_istore rfl <| x_push <| x_istore rfl <| x_push <| x_istore rfl <| y_mask <| y_goto ?_
  refine jfor (fun i a => [some (.ref 64), some (.int s), some (.int a.1), some (.int a.2), some (.int i)]) (fun a => (Sh0 n, A, L)) (g_mof A s N) N (0, 0) ?_ (fun i a hi hn => ?_)
  · -- end
    refine jWP.intro (pr := pX0_meetingsOf) (pc := 7) ?_
    refine y_mask <| x_iload rfl <| x_aload rfl <| x_getI (Nat.le_of_ble_eq_true rfl) rfl rfl <| y_cmp_ge (fun h1 => ?_) (fun h1 => ?_)
    · refine jWP.intro (pr := pX0_meetingsOf) (pc := 54) ?_
      refine y_mask <| x_iload rfl <| y_ireturn (ls := []) ?_
      exact ⟨trivial, jCn.mk ⟨rfl, rfl⟩⟩ -- return  h1+
    · exact absurd hN.le h1
  · -- step
    have hci : (nI i).toNatClampNeg = i := nI_clamp (by have := hN.2; omega)
    refine jWP.intro (pr := pX0_meetingsOf) (pc := 7) ?_
    refine y_mask <| x_iload rfl <| x_aload rfl <| x_getI (Nat.le_of_ble_eq_true rfl) rfl rfl <| y_cmp_ge (fun h1 => ?_) (fun h1 => ?_)
    · exact absurd h1 (hN.ge hi)
    · refine jWP.intro (pr := pX0_meetingsOf) (pc := 16) ?_
      refine y_mask <| x_aload rfl <| x_getR (Nat.le_of_ble_eq_true rfl) rfl rfl <| x_iload rfl <| x_iald rfl ?_ <| x_iload rfl <| y_cmp_ne (fun h2 => ?_) (fun h2 => ?_)
      · exact vpn2 hN hi hN10 -- index 22 of ('r', 65)  h1-
      · refine jWP.intro (pr := pX0_meetingsOf) (pc := 48) ?_
        refine y_mask <| x_iinc rfl rfl <| y_mask <| y_goto ?_
        rw [hci] at h2
        rw [show g_mof A s N i a = a from if_pos h2] at hn
        exact hn
      · refine jWP.intro (pr := pX0_meetingsOf) (pc := 27) ?_
        refine y_mask <| x_iload rfl <| x_iload rfl <| x_ishr <| x_push <| x_iand <| y_if_ne (fun h3 => ?_) (fun h3 => ?_)
        · refine jWP.intro (pr := pX0_meetingsOf) (pc := 48) ?_
          refine y_mask <| x_iinc rfl rfl <| y_mask <| y_goto ?_
          rw [hci] at h2
          rw [show g_mof A s N i a = a from (if_neg (fun z => z h2)).trans (if_pos h3)] at hn
          exact hn
        · refine jWP.intro (pr := pX0_meetingsOf) (pc := 36) ?_
          refine y_mask <| x_iload rfl <| x_aload rfl <| x_iload rfl <| y_invV1 (Nat.le_of_ble_eq_true rfl) rfl (Nat.le_of_ble_eq_true rfl) <| jEv.exI (kX0_meetingOf _ _ _ _ _ N ?_ ?_) <| x_ior <| x_istore rfl <| x_iinc rfl rfl <| y_mask <| y_goto ?_
          · exact hN -- hyp0 of kX0_meetingOf 40  h1- h2- h3-
          · exact hN10 -- hyp1 of kX0_meetingOf 40  h1- h2- h3-
          · refine jWP.intro (pr := pX0_meetingsOf) (pc := 48) ?_
            refine y_mask <| x_iinc rfl rfl <| y_mask <| y_goto ?_
            rw [hci] at h2
            rw [show g_mof A s N i a = (a.1 ||| f_mee A (nI i) N, a.2 + 1) from (if_neg (fun z => z h2)).trans (if_neg (fun z => z h3))] at hn
            exact hn

def g_rep (A : Nat → Nat → Int32) (s : Int32) (i : Nat) (a : Int32) : Int32 := if ¬ A 65 i = s then a else a ||| jbit i
def f_rep (A : Nat → Nat → Int32) (s : Int32) (N : Nat) : Int32 := jit (g_rep A s) N 0
theorem kX0_reportsOf (d n : Nat) (A : Nat → Nat → Int32) (L : Nat → Nat → Int64) (s : Int32) (N : Nat) (hN : jnat (A 64 4) N) (hN10 : N ≤ 10) : jEv jtab (d + 1) 7 [.ref 64, .int s] (Sh0 n, A, L) 0 0 (fun r M2 => r = some (.int (f_rep A s N)) ∧ M2 = (Sh0 n, A, L)) := by
  refine jEv.mk (mt := mX0_reportsOf) rfl (Nat.le_of_ble_eq_true rfl) ?_
  refine jWP.intro (pr := pX0_reportsOf) (pc := 0) ?_
  refine y_mask <| x_push <| x_istore rfl <| x_push <| x_istore rfl <| y_mask <| y_goto ?_
  refine jfor (fun i a => [some (.ref 64), some (.int s), some (.int a), some (.int i)]) (fun a => (Sh0 n, A, L)) (g_rep A s) N 0 ?_ (fun i a hi hn => ?_)
  · -- end
    refine jWP.intro (pr := pX0_reportsOf) (pc := 4) ?_
    refine y_mask <| x_iload rfl <| x_aload rfl <| x_getI (Nat.le_of_ble_eq_true rfl) rfl rfl <| y_cmp_ge (fun h1 => ?_) (fun h1 => ?_)
    · refine jWP.intro (pr := pX0_reportsOf) (pc := 34) ?_
      refine y_mask <| x_iload rfl <| y_ireturn (ls := []) ?_
      exact ⟨trivial, jCn.mk ⟨rfl, rfl⟩⟩ -- return  h1+
    · exact absurd hN.le h1
  · -- step
    have hci : (nI i).toNatClampNeg = i := nI_clamp (by have := hN.2; omega)
    refine jWP.intro (pr := pX0_reportsOf) (pc := 4) ?_
    refine y_mask <| x_iload rfl <| x_aload rfl <| x_getI (Nat.le_of_ble_eq_true rfl) rfl rfl <| y_cmp_ge (fun h1 => ?_) (fun h1 => ?_)
    · exact absurd h1 (hN.ge hi)
    · refine jWP.intro (pr := pX0_reportsOf) (pc := 12) ?_
      refine y_mask <| x_aload rfl <| x_getR (Nat.le_of_ble_eq_true rfl) rfl rfl <| x_iload rfl <| x_iald rfl ?_ <| x_iload rfl <| y_cmp_ne (fun h2 => ?_) (fun h2 => ?_)
      · exact vpn2 hN hi hN10 -- index 17 of ('r', 65)  h1-
      · refine jWP.intro (pr := pX0_reportsOf) (pc := 28) ?_
        refine y_mask <| x_iinc rfl rfl <| y_mask <| y_goto ?_
        rw [hci] at h2
        rw [show g_rep A s i a = a from if_pos h2] at hn
        exact hn
      · refine jWP.intro (pr := pX0_reportsOf) (pc := 22) ?_
        refine y_mask <| x_iload rfl <| x_push <| x_iload rfl <| x_ishl <| x_ior <| x_istore rfl <| y_mask <| y_goto ?_
        refine jWP.intro (pr := pX0_reportsOf) (pc := 28) ?_
        refine y_mask <| x_iinc rfl rfl <| y_mask <| y_goto ?_
        rw [hci] at h2
        rw [show g_rep A s i a = a ||| jbit i from if_neg (fun z => z h2)] at hn
        exact hn

