/-! METHODS AS FUNCTIONS, printed by dec.py -/
set_option maxRecDepth 20000 in
theorem tcX11_spread_3 (d n : Nat) (A : Nat → Nat → Int32) (L : Nat → Nat → Int64) (l1 : Int32) (l2 : Int32) (l3 : Int32) (s : (Int32 × (Nat → Nat → Int32))) {Q : Option Value → jM → Prop} {z : ((Int32 × (Nat → Nat → Int32)) ⊕ (Nat → Nat → Int32))} (h : cX11_spread_3 l1 l2 l3 s = some z) (k1 : ∀ s0, z = .inl s0 → pX11_spread (jEv jtab (d + 0), jWP (jEv jtab (d + 0)) Q ((Sh0 n).length, jsl (Sh0 n)) pX11_spread, Q, ((Sh0 n).length, jsl (Sh0 n))) 3 [some (.ref 94), some (.int l1), some (.int l2), some (.int l3), some (.int s0.1), none, none] [] (Sh0 n, s0.2, L)) (k2 : ∀ s0, z = .inr s0 → pX11_spread (jEv jtab (d + 0), jWP (jEv jtab (d + 0)) Q ((Sh0 n).length, jsl (Sh0 n)) pX11_spread, Q, ((Sh0 n).length, jsl (Sh0 n))) 33 [some (.ref 94), none, some (.int l2), some (.int l3), none, none, none] [] (Sh0 n, s0, L)) : pX11_spread (jEv jtab (d + 0), jWP (jEv jtab (d + 0)) Q ((Sh0 n).length, jsl (Sh0 n)) pX11_spread, Q, ((Sh0 n).length, jsl (Sh0 n))) 3 [some (.ref 94), some (.int l1), some (.int l2), some (.int l3), some (.int s.1), none, none] [] (Sh0 n, s.2, L) := by
  unfold cX11_spread_3 at h
  refine y_mask <| x_iload rfl <| x_push <| y_cmp_ge (fun h1 => ?_) (fun h1 => ?_)
  · replace h := of_pos h h1
    refine jWP.intro (pr := pX11_spread) (pc := 33) ?_
    have hk := k2 _ (Option.some.inj h).symm
    exact hk
  · replace h := of_neg h h1
    refine jWP.intro (pr := pX11_spread) (pc := 9) ?_
    refine y_mask <| x_aload rfl <| x_getR (Nat.le_of_ble_eq_true rfl) rfl rfl <| x_iload rfl <| x_iload rfl <| x_iload rfl <| y_cmp_ne (fun h2 => ?_) (fun h2 => ?_)
    · replace h := of_neg h h2
      refine jWP.intro (pr := pX11_spread) (pc := 25) ?_
      refine y_mask <| x_push <| y_mask <| y_goto ?_
      refine jWP.intro (pr := pX11_spread) (pc := 26) ?_
      obtain ⟨g3, h⟩ := of_guard h
      obtain ⟨m4, hm5, h⟩ := of_bind h
      refine y_mask <| x_iast (Nat.le_of_ble_eq_true rfl) rfl g3 <| y_let (Option.some.inj hm5) <| x_iinc rfl rfl <| y_mask <| y_goto ?_
      refine jWP.intro (pr := pX11_spread) (pc := 3) ?_
      have hk := k1 _ (Option.some.inj h).symm
      exact hk
    · replace h := of_pos h h2
      refine jWP.intro (pr := pX11_spread) (pc := 21) ?_
      refine y_mask <| x_iload rfl <| y_mask <| y_goto ?_
      refine jWP.intro (pr := pX11_spread) (pc := 26) ?_
      obtain ⟨g6, h⟩ := of_guard h
      obtain ⟨m7, hm8, h⟩ := of_bind h
      refine y_mask <| x_iast (Nat.le_of_ble_eq_true rfl) rfl g6 <| y_let (Option.some.inj hm8) <| x_iinc rfl rfl <| y_mask <| y_goto ?_
      refine jWP.intro (pr := pX11_spread) (pc := 3) ?_
      have hk := k1 _ (Option.some.inj h).symm
      exact hk
set_option maxRecDepth 20000 in
theorem tjX11_spread_138_36 (d n : Nat) (A : Nat → Nat → Int32) (L : Nat → Nat → Int64) (l2 : Int32) (l3 : Int32) (l4 : Int32) (l5 : Int32) (l6 : Int32) {Q : Option Value → jM → Prop} {z : ((Int32 × (Nat → Nat → Int32)) ⊕ (Nat → Nat → Int32))} (h : jX11_spread_138_36 A l2 l3 l4 l5 l6 = some z) (k1 : ∀ s0, z = .inl s0 → pX11_spread (jEv jtab (d + 0), jWP (jEv jtab (d + 0)) Q ((Sh0 n).length, jsl (Sh0 n)) pX11_spread, Q, ((Sh0 n).length, jsl (Sh0 n))) 36 [some (.ref 94), none, some (.int l2), some (.int l3), some (.int s0.1), none, none] [] (Sh0 n, s0.2, L)) (k2 : ∀ s0, z = .inr s0 → pX11_spread (jEv jtab (d + 0), jWP (jEv jtab (d + 0)) Q ((Sh0 n).length, jsl (Sh0 n)) pX11_spread, Q, ((Sh0 n).length, jsl (Sh0 n))) 173 [none, none, none, none, none, none, none] [] (Sh0 n, s0, L)) : pX11_spread (jEv jtab (d + 0), jWP (jEv jtab (d + 0)) Q ((Sh0 n).length, jsl (Sh0 n)) pX11_spread, Q, ((Sh0 n).length, jsl (Sh0 n))) 138 [some (.ref 94), none, some (.int l2), some (.int l3), some (.int l4), some (.int l5), some (.int l6)] [] (Sh0 n, A, L) := by
  unfold jX11_spread_138_36 at h
  refine y_mask <| x_iload rfl <| y_if_eq (fun h1 => ?_) (fun h1 => ?_)
  · replace h := of_pos h h1
    refine jWP.intro (pr := pX11_spread) (pc := 167) ?_
    refine y_mask <| x_iinc rfl rfl <| y_mask <| y_goto ?_
    refine jWP.intro (pr := pX11_spread) (pc := 36) ?_
    have hk := k1 _ (Option.some.inj h).symm
    exact hk
  · replace h := of_neg h h1
    refine jWP.intro (pr := pX11_spread) (pc := 143) ?_
    refine y_mask <| x_iload rfl <| y_if_ne (fun h2 => ?_) (fun h2 => ?_)
    · replace h := of_neg h h2
      refine jWP.intro (pr := pX11_spread) (pc := 167) ?_
      refine y_mask <| x_iinc rfl rfl <| y_mask <| y_goto ?_
      refine jWP.intro (pr := pX11_spread) (pc := 36) ?_
      have hk := k1 _ (Option.some.inj h).symm
      exact hk
    · replace h := of_pos h h2
      refine jWP.intro (pr := pX11_spread) (pc := 148) ?_
      obtain ⟨g3, h⟩ := of_guard h
      obtain ⟨g4, h⟩ := of_guard h
      obtain ⟨g5, h⟩ := of_guard h
      obtain ⟨m6, hm7, h⟩ := of_bind h
      show bX11_spread_148 _ _ _ _
      unfold bX11_spread_148
      refine y_mask ?_
      refine x_aload rfl ?_
      refine x_getR (Nat.le_of_ble_eq_true rfl) rfl rfl ?_
      refine x_aload rfl ?_
      refine x_getR (Nat.le_of_ble_eq_true rfl) rfl rfl ?_
      refine x_iload rfl ?_
      refine x_iald rfl g3 ?_
      refine x_aload rfl ?_
      refine x_getR (Nat.le_of_ble_eq_true rfl) rfl rfl ?_
      refine x_iload rfl ?_
      refine x_iald rfl g4 ?_
      refine x_iast (Nat.le_of_ble_eq_true rfl) rfl g5 ?_
      refine y_let (Option.some.inj hm7) ?_
      refine y_mask ?_
      refine y_goto ?_
      refine jWP.intro (pr := pX11_spread) (pc := 167) ?_
      refine y_mask <| x_iinc rfl rfl <| y_mask <| y_goto ?_
      refine jWP.intro (pr := pX11_spread) (pc := 36) ?_
      have hk := k1 _ (Option.some.inj h).symm
      exact hk
set_option maxRecDepth 20000 in
theorem tjX11_spread_107_36 (d n : Nat) (A : Nat → Nat → Int32) (L : Nat → Nat → Int64) (l2 : Int32) (l3 : Int32) (l4 : Int32) (l5 : Int32) (s0 : Int32) {Q : Option Value → jM → Prop} {z : ((Int32 × (Nat → Nat → Int32)) ⊕ (Nat → Nat → Int32))} (h : jX11_spread_107_36 A l2 l3 l4 l5 s0 = some z) (k1 : ∀ s0, z = .inl s0 → pX11_spread (jEv jtab (d + 0), jWP (jEv jtab (d + 0)) Q ((Sh0 n).length, jsl (Sh0 n)) pX11_spread, Q, ((Sh0 n).length, jsl (Sh0 n))) 36 [some (.ref 94), none, some (.int l2), some (.int l3), some (.int s0.1), none, none] [] (Sh0 n, s0.2, L)) (k2 : ∀ s0, z = .inr s0 → pX11_spread (jEv jtab (d + 0), jWP (jEv jtab (d + 0)) Q ((Sh0 n).length, jsl (Sh0 n)) pX11_spread, Q, ((Sh0 n).length, jsl (Sh0 n))) 173 [none, none, none, none, none, none, none] [] (Sh0 n, s0, L)) : pX11_spread (jEv jtab (d + 0), jWP (jEv jtab (d + 0)) Q ((Sh0 n).length, jsl (Sh0 n)) pX11_spread, Q, ((Sh0 n).length, jsl (Sh0 n))) 107 [some (.ref 94), none, some (.int l2), some (.int l3), some (.int l4), some (.int l5), none] [.int s0] (Sh0 n, A, L) := by
  unfold jX11_spread_107_36 at h
  refine y_mask <| x_istore rfl <| x_iload rfl <| y_if_eq (fun h1 => ?_) (fun h1 => ?_)
  · replace h := of_pos h h1
    refine jWP.intro (pr := pX11_spread) (pc := 138) ?_
    exact tjX11_spread_138_36 d n A L l2 l3 l4 l5 s0 h k1 k2
  · replace h := of_neg h h1
    refine jWP.intro (pr := pX11_spread) (pc := 114) ?_
    refine y_mask <| x_iload rfl <| y_if_ne (fun h2 => ?_) (fun h2 => ?_)
    · replace h := of_neg h h2
      refine jWP.intro (pr := pX11_spread) (pc := 138) ?_
      exact tjX11_spread_138_36 d n A L l2 l3 l4 l5 s0 h k1 k2
    · replace h := of_pos h h2
      refine jWP.intro (pr := pX11_spread) (pc := 119) ?_
      obtain ⟨g3, h⟩ := of_guard h
      obtain ⟨g4, h⟩ := of_guard h
      obtain ⟨g5, h⟩ := of_guard h
      obtain ⟨m6, hm7, h⟩ := of_bind h
      show bX11_spread_119 _ _ _ _
      unfold bX11_spread_119
      refine y_mask ?_
      refine x_aload rfl ?_
      refine x_getR (Nat.le_of_ble_eq_true rfl) rfl rfl ?_
      refine x_aload rfl ?_
      refine x_getR (Nat.le_of_ble_eq_true rfl) rfl rfl ?_
      refine x_iload rfl ?_
      refine x_iald rfl g3 ?_
      refine x_aload rfl ?_
      refine x_getR (Nat.le_of_ble_eq_true rfl) rfl rfl ?_
      refine x_iload rfl ?_
      refine x_iald rfl g4 ?_
      refine x_iast (Nat.le_of_ble_eq_true rfl) rfl g5 ?_
      refine y_let (Option.some.inj hm7) ?_
      refine y_mask ?_
      refine y_goto ?_
      refine jWP.intro (pr := pX11_spread) (pc := 138) ?_
      exact tjX11_spread_138_36 d n m6 L l2 l3 l4 l5 s0 h k1 k2
set_option maxRecDepth 20000 in
theorem tjX11_spread_85_36 (d n : Nat) (A : Nat → Nat → Int32) (L : Nat → Nat → Int64) (l2 : Int32) (l3 : Int32) (l4 : Int32) (s0 : Int32) {Q : Option Value → jM → Prop} {z : ((Int32 × (Nat → Nat → Int32)) ⊕ (Nat → Nat → Int32))} (h : jX11_spread_85_36 A l2 l3 l4 s0 = some z) (k1 : ∀ s0, z = .inl s0 → pX11_spread (jEv jtab (d + 0), jWP (jEv jtab (d + 0)) Q ((Sh0 n).length, jsl (Sh0 n)) pX11_spread, Q, ((Sh0 n).length, jsl (Sh0 n))) 36 [some (.ref 94), none, some (.int l2), some (.int l3), some (.int s0.1), none, none] [] (Sh0 n, s0.2, L)) (k2 : ∀ s0, z = .inr s0 → pX11_spread (jEv jtab (d + 0), jWP (jEv jtab (d + 0)) Q ((Sh0 n).length, jsl (Sh0 n)) pX11_spread, Q, ((Sh0 n).length, jsl (Sh0 n))) 173 [none, none, none, none, none, none, none] [] (Sh0 n, s0, L)) : pX11_spread (jEv jtab (d + 0), jWP (jEv jtab (d + 0)) Q ((Sh0 n).length, jsl (Sh0 n)) pX11_spread, Q, ((Sh0 n).length, jsl (Sh0 n))) 85 [some (.ref 94), none, some (.int l2), some (.int l3), some (.int l4), none, none] [.int s0] (Sh0 n, A, L) := by
  unfold jX11_spread_85_36 at h
  obtain ⟨g1, h⟩ := of_guard h
  obtain ⟨g2, h⟩ := of_guard h
  show bX11_spread_85 _ _ _ _
  unfold bX11_spread_85
  refine y_mask ?_
  refine x_istore rfl ?_
  refine x_aload rfl ?_
  refine x_getR (Nat.le_of_ble_eq_true rfl) rfl rfl ?_
  refine x_aload rfl ?_
  refine x_getR (Nat.le_of_ble_eq_true rfl) rfl rfl ?_
  refine x_iload rfl ?_
  refine x_iald rfl g1 ?_
  refine x_iald rfl g2 ?_
  refine y_if_lt (fun h3 => ?_) (fun h3 => ?_)
  · replace h := of_pos h h3
    refine jWP.intro (pr := pX11_spread) (pc := 106) ?_
    refine y_mask <| x_push <| y_mask <| y_goto ?_
    refine jWP.intro (pr := pX11_spread) (pc := 107) ?_
    exact tjX11_spread_107_36 d n A L l2 l3 l4 s0 (0 : Int32) h k1 k2
  · replace h := of_neg h h3
    refine jWP.intro (pr := pX11_spread) (pc := 102) ?_
    refine y_mask <| x_push <| y_mask <| y_goto ?_
    refine jWP.intro (pr := pX11_spread) (pc := 107) ?_
    exact tjX11_spread_107_36 d n A L l2 l3 l4 s0 (1 : Int32) h k1 k2
set_option maxRecDepth 20000 in
theorem tcX11_spread_36 (d n : Nat) (A : Nat → Nat → Int32) (L : Nat → Nat → Int64) (l2 : Int32) (l3 : Int32) (s : (Int32 × (Nat → Nat → Int32))) {Q : Option Value → jM → Prop} {z : ((Int32 × (Nat → Nat → Int32)) ⊕ (Nat → Nat → Int32))} (h : cX11_spread_36 l2 l3 s = some z) (k1 : ∀ s0, z = .inl s0 → pX11_spread (jEv jtab (d + 0), jWP (jEv jtab (d + 0)) Q ((Sh0 n).length, jsl (Sh0 n)) pX11_spread, Q, ((Sh0 n).length, jsl (Sh0 n))) 36 [some (.ref 94), none, some (.int l2), some (.int l3), some (.int s0.1), none, none] [] (Sh0 n, s0.2, L)) (k2 : ∀ s0, z = .inr s0 → pX11_spread (jEv jtab (d + 0), jWP (jEv jtab (d + 0)) Q ((Sh0 n).length, jsl (Sh0 n)) pX11_spread, Q, ((Sh0 n).length, jsl (Sh0 n))) 173 [none, none, none, none, none, none, none] [] (Sh0 n, s0, L)) : pX11_spread (jEv jtab (d + 0), jWP (jEv jtab (d + 0)) Q ((Sh0 n).length, jsl (Sh0 n)) pX11_spread, Q, ((Sh0 n).length, jsl (Sh0 n))) 36 [some (.ref 94), none, some (.int l2), some (.int l3), some (.int s.1), none, none] [] (Sh0 n, s.2, L) := by
  unfold cX11_spread_36 at h
  refine y_mask <| x_iload rfl <| x_aload rfl <| x_getI (Nat.le_of_ble_eq_true rfl) rfl rfl <| y_cmp_ge (fun h1 => ?_) (fun h1 => ?_)
  · replace h := of_pos h h1
    refine jWP.intro (pr := pX11_spread) (pc := 173) ?_
    have hk := k2 _ (Option.some.inj h).symm
    exact hk
  · replace h := of_neg h h1
    refine jWP.intro (pr := pX11_spread) (pc := 45) ?_
    refine y_mask <| x_iload rfl <| x_iload rfl <| y_cmp_eq (fun h2 => ?_) (fun h2 => ?_)
    · replace h := of_pos h h2
      refine jWP.intro (pr := pX11_spread) (pc := 167) ?_
      refine y_mask <| x_iinc rfl rfl <| y_mask <| y_goto ?_
      refine jWP.intro (pr := pX11_spread) (pc := 36) ?_
      have hk := k1 _ (Option.some.inj h).symm
      exact hk
    · replace h := of_neg h h2
      refine jWP.intro (pr := pX11_spread) (pc := 51) ?_
      obtain ⟨g3, h⟩ := of_guard h
      refine y_mask <| x_aload rfl <| x_getR (Nat.le_of_ble_eq_true rfl) rfl rfl <| x_iload rfl <| x_iald rfl g3 <| x_iload rfl <| y_cmp_ge (fun h4 => ?_) (fun h4 => ?_)
      · replace h := of_pos h h4
        refine jWP.intro (pr := pX11_spread) (pc := 65) ?_
        obtain ⟨g5, h⟩ := of_guard h
        obtain ⟨g6, h⟩ := of_guard h
        refine y_mask <| x_aload rfl <| x_getR (Nat.le_of_ble_eq_true rfl) rfl rfl <| x_aload rfl <| x_getR (Nat.le_of_ble_eq_true rfl) rfl rfl <| x_iload rfl <| x_iald rfl g5 <| x_iald rfl g6 <| y_if_lt (fun h7 => ?_) (fun h7 => ?_)
        · replace h := of_pos h h7
          refine jWP.intro (pr := pX11_spread) (pc := 84) ?_
          refine y_mask <| x_push <| y_mask <| y_goto ?_
          refine jWP.intro (pr := pX11_spread) (pc := 85) ?_
          exact tjX11_spread_85_36 d n s.2 L l2 l3 s.1 (0 : Int32) h k1 k2
        · replace h := of_neg h h7
          refine jWP.intro (pr := pX11_spread) (pc := 80) ?_
          refine y_mask <| x_push <| y_mask <| y_goto ?_
          refine jWP.intro (pr := pX11_spread) (pc := 85) ?_
          exact tjX11_spread_85_36 d n s.2 L l2 l3 s.1 (1 : Int32) h k1 k2
      · replace h := of_neg h h4
        refine jWP.intro (pr := pX11_spread) (pc := 62) ?_
        refine y_mask <| y_mask <| y_goto ?_
        refine jWP.intro (pr := pX11_spread) (pc := 167) ?_
        refine y_mask <| x_iinc rfl rfl <| y_mask <| y_goto ?_
        refine jWP.intro (pr := pX11_spread) (pc := 36) ?_
        have hk := k1 _ (Option.some.inj h).symm
        exact hk
set_option maxRecDepth 20000 in
theorem tfX11_spread (d n : Nat) (A : Nat → Nat → Int32) (L : Nat → Nat → Int64) (l1 : Int32) (l2 : Int32) (l3 : Int32) {Q : Option Value → jM → Prop} {z : (Nat → Nat → Int32)} (h : fX11_spread A l1 l2 l3 = some z) (k3 : Q (none) (Sh0 n, z, L)) : pX11_spread (jEv jtab (d + 0), jWP (jEv jtab (d + 0)) Q ((Sh0 n).length, jsl (Sh0 n)) pX11_spread, Q, ((Sh0 n).length, jsl (Sh0 n))) 0 [some (.ref 94), some (.int l1), some (.int l2), some (.int l3), none, none, none] [] (Sh0 n, A, L) := by
  unfold fX11_spread at h
  refine y_mask <| x_push <| x_istore rfl <| y_mask <| y_goto ?_
  obtain ⟨e1, hw2, h⟩ := of_bind h
  refine jWP.intro (pr := pX11_spread) (pc := 3) ?_
  refine jwh_use (G := (fun s0 => pX11_spread (jEv jtab (d + 0), jWP (jEv jtab (d + 0)) Q ((Sh0 n).length, jsl (Sh0 n)) pX11_spread, Q, ((Sh0 n).length, jsl (Sh0 n))) 3 [some (.ref 94), some (.int l1), some (.int l2), some (.int l3), some (.int s0.1), none, none] [] (Sh0 n, s0.2, L))) (Gx := (fun s0 => pX11_spread (jEv jtab (d + 0), jWP (jEv jtab (d + 0)) Q ((Sh0 n).length, jsl (Sh0 n)) pX11_spread, Q, ((Sh0 n).length, jsl (Sh0 n))) 33 [some (.ref 94), none, some (.int l2), some (.int l3), none, none, none] [] (Sh0 n, s0, L))) (fun s1 z1 hz kk1 kk2 => tcX11_spread_3 d n A L l1 l2 l3 s1 hz kk1 kk2) hw2 ?_
  refine y_mask <| x_push <| x_istore rfl <| y_mask <| y_goto ?_
  obtain ⟨e3, hw4, h⟩ := of_bind h
  refine jWP.intro (pr := pX11_spread) (pc := 36) ?_
  refine jwh_use (G := (fun s0 => pX11_spread (jEv jtab (d + 0), jWP (jEv jtab (d + 0)) Q ((Sh0 n).length, jsl (Sh0 n)) pX11_spread, Q, ((Sh0 n).length, jsl (Sh0 n))) 36 [some (.ref 94), none, some (.int l2), some (.int l3), some (.int s0.1), none, none] [] (Sh0 n, s0.2, L))) (Gx := (fun s0 => pX11_spread (jEv jtab (d + 0), jWP (jEv jtab (d + 0)) Q ((Sh0 n).length, jsl (Sh0 n)) pX11_spread, Q, ((Sh0 n).length, jsl (Sh0 n))) 173 [none, none, none, none, none, none, none] [] (Sh0 n, s0, L))) (fun s1 z1 hz kk1 kk2 => tcX11_spread_36 d n e1 L l2 l3 s1 hz kk1 kk2) hw4 ?_
  refine y_mrv (bs := []) (ls := []) ?_
  obtain rfl := Option.some.inj h
  exact k3
theorem kX11_spread (d n : Nat) (A : Nat → Nat → Int32) (L : Nat → Nat → Int64) (l1 : Int32) (l2 : Int32) (l3 : Int32) {z : (Nat → Nat → Int32)} (h : fX11_spread A l1 l2 l3 = some z) : jEv jtab (d + 1) 247 [.ref 94, .int l1, .int l2, .int l3] (Sh0 n, A, L) 0 0 (fun r M2 => r = none ∧ M2 = (Sh0 n, z, L)) :=
  jEv.mk (mt := mX11_spread) rfl (Nat.le_of_ble_eq_true rfl) (jWP.intro (pr := pX11_spread) (pc := 0) (tfX11_spread d n A L l1 l2 l3 h ⟨trivial, jCn.mk ⟨rfl, rfl⟩⟩))
set_option maxRecDepth 20000 in
theorem tfX11_news (d n : Nat) (A : Nat → Nat → Int32) (L : Nat → Nat → Int64) (l1 : Int32) (l2 : Int32) (l3 : Int32) {Q : Option Value → jM → Prop} {z : (Int32 × (Nat → Nat → Int32))} (h : fX11_news A l1 l2 l3 = some z) (k3 : Q (some (.int z.1)) (Sh0 n, z.2, L)) : pX11_news (jEv jtab (d + 2), jWP (jEv jtab (d + 2)) Q ((Sh0 n).length, jsl (Sh0 n)) pX11_news, Q, ((Sh0 n).length, jsl (Sh0 n))) 0 [some (.ref 94), some (.int l1), some (.int l2), some (.int l3)] [] (Sh0 n, A, L) := by
  unfold fX11_news at h
  refine y_mask <| x_iload rfl <| y_invS1 (Nat.le_of_ble_eq_true rfl) <| jEv.exZ (q := 229) rfl (kX11_isShip _ _ _ _ _) <| fun hz1 => y_if_eq (fun h2 => ?_) (fun h2 => ?_)
  · replace h := of_pos h h2
    refine jWP.intro (pr := pX11_news) (pc := 14) ?_
    refine y_mpri (bs := []) (ls := []) ?_
    obtain rfl := Option.some.inj h
    exact k3
  · replace h := of_neg h h2
    refine jWP.intro (pr := pX11_news) (pc := 7) ?_
    refine y_mask <| x_iload rfl <| y_invS1 (Nat.le_of_ble_eq_true rfl) <| jEv.exZ (q := 229) rfl (kX11_isShip _ _ _ _ _) <| fun hz3 => y_if_ne (fun h4 => ?_) (fun h4 => ?_)
    · replace h := of_neg h h4
      refine jWP.intro (pr := pX11_news) (pc := 17) ?_
      refine y_mask <| x_iload rfl <| y_invS1 (Nat.le_of_ble_eq_true rfl) <| jEv.exZ (q := 230) rfl (kX11_isDay _ _ _ _ _) <| fun hz5 => y_if_ne (fun h6 => ?_) (fun h6 => ?_)
      · replace h := of_neg h h6
        refine jWP.intro (pr := pX11_news) (pc := 27) ?_
        obtain ⟨r7, hc8, h⟩ := of_bind h
        obtain ⟨g9, h⟩ := of_guard h
        show bX11_news_27 _ _ _ _
        unfold bX11_news_27
        refine y_mask ?_
        refine x_aload rfl ?_
        refine x_iload rfl ?_
        refine x_iload rfl ?_
        refine x_push ?_
        refine y_invV3 (Nat.le_of_ble_eq_true rfl) rfl (Nat.le_of_ble_eq_true rfl) ?_
        refine jEv.exV (kX11_spread _ _ _ _ _ _ _ hc8) ?_
        refine x_aload rfl ?_
        refine x_getR (Nat.le_of_ble_eq_true rfl) rfl rfl ?_
        refine x_iload rfl ?_
        refine x_iald rfl g9 ?_
        refine y_ireturn (ls := [some (.ref 94), some (.int l1), some (.int l2), some (.int l3)]) ?_
        obtain rfl := Option.some.inj h
        exact k3
      · replace h := of_pos h h6
        refine jWP.intro (pr := pX11_news) (pc := 24) ?_
        refine y_mpri (bs := []) (ls := []) ?_
        obtain rfl := Option.some.inj h
        exact k3
    · replace h := of_pos h h4
      refine jWP.intro (pr := pX11_news) (pc := 14) ?_
      refine y_mpri (bs := []) (ls := []) ?_
      obtain rfl := Option.some.inj h
      exact k3
theorem kX11_news (d n : Nat) (A : Nat → Nat → Int32) (L : Nat → Nat → Int64) (l1 : Int32) (l2 : Int32) (l3 : Int32) {z : (Int32 × (Nat → Nat → Int32))} (h : fX11_news A l1 l2 l3 = some z) : jEv jtab (d + 3) 248 [.ref 94, .int l1, .int l2, .int l3] (Sh0 n, A, L) 0 0 (fun r M2 => r = some (.int z.1) ∧ M2 = (Sh0 n, z.2, L)) :=
  jEv.mk (mt := mX11_news) rfl (Nat.le_of_ble_eq_true rfl) (jWP.intro (pr := pX11_news) (pc := 0) (tfX11_news d n A L l1 l2 l3 h ⟨trivial, jCn.mk ⟨rfl, rfl⟩⟩))
set_option maxRecDepth 20000 in
theorem tjX11_peace_73_40 (d n : Nat) (A : Nat → Nat → Int32) (L : Nat → Nat → Int64) (l3 : Int32) (l5 : Int32) (s0 : Int32) {Q : Option Value → jM → Prop} {z : ((Int32 × Int32) ⊕ Int32)} (h : jX11_peace_73_40 A l3 l5 s0 = some z) (k1 : ∀ s0, z = .inl s0 → pX11_peace (jEv jtab (d + 2), jWP (jEv jtab (d + 2)) Q ((Sh0 n).length, jsl (Sh0 n)) pX11_peace, Q, ((Sh0 n).length, jsl (Sh0 n))) 40 [some (.ref 94), none, none, some (.int l3), some (.int s0.1), some (.int s0.2)] [] (Sh0 n, A, L)) (k2 : ∀ s0, z = .inr s0 → pX11_peace (jEv jtab (d + 2), jWP (jEv jtab (d + 2)) Q ((Sh0 n).length, jsl (Sh0 n)) pX11_peace, Q, ((Sh0 n).length, jsl (Sh0 n))) 83 [none, none, none, none, some (.int s0), none] [] (Sh0 n, A, L)) : pX11_peace (jEv jtab (d + 2), jWP (jEv jtab (d + 2)) Q ((Sh0 n).length, jsl (Sh0 n)) pX11_peace, Q, ((Sh0 n).length, jsl (Sh0 n))) 73 [some (.ref 94), none, none, some (.int l3), none, some (.int l5)] [.int s0] (Sh0 n, A, L) := by
  unfold jX11_peace_73_40 at h
  refine y_mask <| x_push <| y_mask <| y_goto ?_
  refine jWP.intro (pr := pX11_peace) (pc := 74) ?_
  refine y_mask <| x_iadd <| x_istore rfl <| x_iinc rfl rfl <| y_mask <| y_goto ?_
  refine jWP.intro (pr := pX11_peace) (pc := 40) ?_
  have hk := k1 _ (Option.some.inj h).symm
  exact hk
set_option maxRecDepth 20000 in
theorem tcX11_peace_40 (d n : Nat) (A : Nat → Nat → Int32) (L : Nat → Nat → Int64) (l3 : Int32) (s : (Int32 × Int32)) {Q : Option Value → jM → Prop} {z : ((Int32 × Int32) ⊕ Int32)} (h : cX11_peace_40 A l3 s = some z) (k1 : ∀ s0, z = .inl s0 → pX11_peace (jEv jtab (d + 2), jWP (jEv jtab (d + 2)) Q ((Sh0 n).length, jsl (Sh0 n)) pX11_peace, Q, ((Sh0 n).length, jsl (Sh0 n))) 40 [some (.ref 94), none, none, some (.int l3), some (.int s0.1), some (.int s0.2)] [] (Sh0 n, A, L)) (k2 : ∀ s0, z = .inr s0 → pX11_peace (jEv jtab (d + 2), jWP (jEv jtab (d + 2)) Q ((Sh0 n).length, jsl (Sh0 n)) pX11_peace, Q, ((Sh0 n).length, jsl (Sh0 n))) 83 [none, none, none, none, some (.int s0), none] [] (Sh0 n, A, L)) : pX11_peace (jEv jtab (d + 2), jWP (jEv jtab (d + 2)) Q ((Sh0 n).length, jsl (Sh0 n)) pX11_peace, Q, ((Sh0 n).length, jsl (Sh0 n))) 40 [some (.ref 94), none, none, some (.int l3), some (.int s.1), some (.int s.2)] [] (Sh0 n, A, L) := by
  unfold cX11_peace_40 at h
  refine y_mask <| x_iload rfl <| x_push <| y_cmp_ge (fun h1 => ?_) (fun h1 => ?_)
  · replace h := of_pos h h1
    refine jWP.intro (pr := pX11_peace) (pc := 83) ?_
    have hk := k2 _ (Option.some.inj h).symm
    exact hk
  · replace h := of_neg h h1
    refine jWP.intro (pr := pX11_peace) (pc := 46) ?_
    obtain ⟨g2, h⟩ := of_guard h
    refine y_mask <| x_iload rfl <| x_aload rfl <| x_getR (Nat.le_of_ble_eq_true rfl) rfl rfl <| x_iload rfl <| x_iald rfl g2 <| y_if_lt (fun h3 => ?_) (fun h3 => ?_)
    · replace h := of_pos h h3
      refine jWP.intro (pr := pX11_peace) (pc := 73) ?_
      exact tjX11_peace_73_40 d n A L l3 s.2 s.1 h k1 k2
    · replace h := of_neg h h3
      refine jWP.intro (pr := pX11_peace) (pc := 58) ?_
      obtain ⟨g4, h⟩ := of_guard h
      refine y_mask <| x_aload rfl <| x_getR (Nat.le_of_ble_eq_true rfl) rfl rfl <| x_iload rfl <| x_iald rfl g4 <| x_iload rfl <| y_cmp_gt (fun h5 => ?_) (fun h5 => ?_)
      · replace h := of_pos h h5
        refine jWP.intro (pr := pX11_peace) (pc := 73) ?_
        exact tjX11_peace_73_40 d n A L l3 s.2 s.1 h k1 k2
      · replace h := of_neg h h5
        refine jWP.intro (pr := pX11_peace) (pc := 69) ?_
        refine y_mask <| x_push <| y_mask <| y_goto ?_
        refine jWP.intro (pr := pX11_peace) (pc := 74) ?_
        refine y_mask <| x_iadd <| x_istore rfl <| x_iinc rfl rfl <| y_mask <| y_goto ?_
        refine jWP.intro (pr := pX11_peace) (pc := 40) ?_
        have hk := k1 _ (Option.some.inj h).symm
        exact hk
set_option maxRecDepth 20000 in
theorem tfX11_peace (d n : Nat) (A : Nat → Nat → Int32) (L : Nat → Nat → Int64) (l1 : Int32) (l2 : Int32) (l3 : Int32) {Q : Option Value → jM → Prop} {z : (Int32 × (Nat → Nat → Int32))} (h : fX11_peace A l1 l2 l3 = some z) (k3 : Q (some (.int z.1)) (Sh0 n, z.2, L)) : pX11_peace (jEv jtab (d + 2), jWP (jEv jtab (d + 2)) Q ((Sh0 n).length, jsl (Sh0 n)) pX11_peace, Q, ((Sh0 n).length, jsl (Sh0 n))) 0 [some (.ref 94), some (.int l1), some (.int l2), some (.int l3), none, none] [] (Sh0 n, A, L) := by
  unfold fX11_peace at h
  refine y_mask <| x_iload rfl <| y_invS1 (Nat.le_of_ble_eq_true rfl) <| jEv.exZ (q := 229) rfl (kX11_isShip _ _ _ _ _) <| fun hz1 => y_if_ne (fun h2 => ?_) (fun h2 => ?_)
  · replace h := of_neg h h2
    refine jWP.intro (pr := pX11_peace) (pc := 10) ?_
    refine y_mask <| x_iload rfl <| y_invS1 (Nat.le_of_ble_eq_true rfl) <| jEv.exZ (q := 230) rfl (kX11_isDay _ _ _ _ _) <| fun hz3 => y_if_eq (fun h4 => ?_) (fun h4 => ?_)
    · replace h := of_pos h h4
      refine jWP.intro (pr := pX11_peace) (pc := 24) ?_
      refine y_mpri (bs := []) (ls := []) ?_
      obtain rfl := Option.some.inj h
      exact k3
    · replace h := of_neg h h4
      refine jWP.intro (pr := pX11_peace) (pc := 17) ?_
      refine y_mask <| x_iload rfl <| y_invS1 (Nat.le_of_ble_eq_true rfl) <| jEv.exZ (q := 230) rfl (kX11_isDay _ _ _ _ _) <| fun hz5 => y_if_ne (fun h6 => ?_) (fun h6 => ?_)
      · replace h := of_neg h h6
        refine jWP.intro (pr := pX11_peace) (pc := 27) ?_
        obtain ⟨r7, hc8, h⟩ := of_bind h
        show bX11_peace_27 _ _ _ _
        unfold bX11_peace_27
        refine y_mask ?_
        refine x_aload rfl ?_
        refine x_iload rfl ?_
        refine x_iload rfl ?_
        refine x_push ?_
        refine y_invV3 (Nat.le_of_ble_eq_true rfl) rfl (Nat.le_of_ble_eq_true rfl) ?_
        refine jEv.exV (kX11_spread _ _ _ _ _ _ _ hc8) ?_
        refine x_push ?_
        refine x_istore rfl ?_
        refine x_push ?_
        refine x_istore rfl ?_
        refine y_mask ?_
        refine y_goto ?_
        obtain ⟨e9, hw10, h⟩ := of_bind h
        refine jWP.intro (pr := pX11_peace) (pc := 40) ?_
        refine jwh_use (G := (fun s0 => pX11_peace (jEv jtab (d + 2), jWP (jEv jtab (d + 2)) Q ((Sh0 n).length, jsl (Sh0 n)) pX11_peace, Q, ((Sh0 n).length, jsl (Sh0 n))) 40 [some (.ref 94), none, none, some (.int l3), some (.int s0.1), some (.int s0.2)] [] (Sh0 n, r7, L))) (Gx := (fun s0 => pX11_peace (jEv jtab (d + 2), jWP (jEv jtab (d + 2)) Q ((Sh0 n).length, jsl (Sh0 n)) pX11_peace, Q, ((Sh0 n).length, jsl (Sh0 n))) 83 [none, none, none, none, some (.int s0), none] [] (Sh0 n, r7, L))) (fun s1 z1 hz kk1 kk2 => tcX11_peace_40 d n r7 L l3 s1 hz kk1 kk2) hw10 ?_
        refine y_mask <| x_iload rfl <| y_ireturn (ls := [none, none, none, none, some (.int e9), none]) ?_
        obtain rfl := Option.some.inj h
        exact k3
      · replace h := of_pos h h6
        refine jWP.intro (pr := pX11_peace) (pc := 24) ?_
        refine y_mpri (bs := []) (ls := []) ?_
        obtain rfl := Option.some.inj h
        exact k3
  · replace h := of_pos h h2
    refine jWP.intro (pr := pX11_peace) (pc := 7) ?_
    refine y_mpri (bs := []) (ls := []) ?_
    obtain rfl := Option.some.inj h
    exact k3
theorem kX11_peace (d n : Nat) (A : Nat → Nat → Int32) (L : Nat → Nat → Int64) (l1 : Int32) (l2 : Int32) (l3 : Int32) {z : (Int32 × (Nat → Nat → Int32))} (h : fX11_peace A l1 l2 l3 = some z) : jEv jtab (d + 3) 249 [.ref 94, .int l1, .int l2, .int l3] (Sh0 n, A, L) 0 0 (fun r M2 => r = some (.int z.1) ∧ M2 = (Sh0 n, z.2, L)) :=
  jEv.mk (mt := mX11_peace) rfl (Nat.le_of_ble_eq_true rfl) (jWP.intro (pr := pX11_peace) (pc := 0) (tfX11_peace d n A L l1 l2 l3 h ⟨trivial, jCn.mk ⟨rfl, rfl⟩⟩))
set_option maxRecDepth 20000 in
theorem tcX11_key_52 (d n : Nat) (A : Nat → Nat → Int32) (L : Nat → Nat → Int64) (l1 : Int32) (l2 : Int32) (l3 : Int32) (l4 : Int32) (s : (Int32 × (Nat → Nat → Int32))) {Q : Option Value → jM → Prop} {z : ((Int32 × (Nat → Nat → Int32)) ⊕ ((Nat → Nat → Int32) ⊕ (Int32 × (Nat → Nat → Int32))))} (h : cX11_key_52 l1 l2 l3 l4 s = some z) (k1 : ∀ s0, z = .inl s0 → pX11_key (jEv jtab (d + 2), jWP (jEv jtab (d + 2)) Q ((Sh0 n).length, jsl (Sh0 n)) pX11_key, Q, ((Sh0 n).length, jsl (Sh0 n))) 52 [some (.ref 94), some (.int l1), some (.int l2), some (.int l3), some (.int l4), some (.int s0.1)] [] (Sh0 n, s0.2, L)) (k2 : ∀ s0, z = .inr (.inl s0) → pX11_key (jEv jtab (d + 2), jWP (jEv jtab (d + 2)) Q ((Sh0 n).length, jsl (Sh0 n)) pX11_key, Q, ((Sh0 n).length, jsl (Sh0 n))) 98 [none, none, none, none, none, none] [] (Sh0 n, s0, L)) (k3 : ∀ s0, z = .inr (.inr s0) → Q (some (.int s0.1)) (Sh0 n, s0.2, L)) : pX11_key (jEv jtab (d + 2), jWP (jEv jtab (d + 2)) Q ((Sh0 n).length, jsl (Sh0 n)) pX11_key, Q, ((Sh0 n).length, jsl (Sh0 n))) 52 [some (.ref 94), some (.int l1), some (.int l2), some (.int l3), some (.int l4), some (.int s.1)] [] (Sh0 n, s.2, L) := by
  unfold cX11_key_52 at h
  refine y_mask <| x_iload rfl <| x_aload rfl <| x_getI (Nat.le_of_ble_eq_true rfl) rfl rfl <| y_cmp_ge (fun h1 => ?_) (fun h1 => ?_)
  · replace h := of_pos h h1
    refine jWP.intro (pr := pX11_key) (pc := 98) ?_
    have hk := k2 _ (Option.some.inj h).symm
    exact hk
  · replace h := of_neg h h1
    refine jWP.intro (pr := pX11_key) (pc := 61) ?_
    obtain ⟨r2, hc3, h⟩ := of_bind h
    obtain ⟨g4, h⟩ := of_guard h
    show bX11_key_61 _ _ _ _
    unfold bX11_key_61
    refine y_mask ?_
    refine x_aload rfl ?_
    refine x_iload rfl ?_
    refine x_iload rfl ?_
    refine x_iload rfl ?_
    refine y_invV3 (Nat.le_of_ble_eq_true rfl) rfl (Nat.le_of_ble_eq_true rfl) ?_
    refine jEv.exV (kX11_spread _ _ _ _ _ _ _ hc3) ?_
    refine x_aload rfl ?_
    refine x_getR (Nat.le_of_ble_eq_true rfl) rfl rfl ?_
    refine x_iload rfl ?_
    refine x_iald rfl g4 ?_
    refine y_if_lt (fun h5 => ?_) (fun h5 => ?_)
    · replace h := of_pos h h5
      refine jWP.intro (pr := pX11_key) (pc := 89) ?_
      refine y_mask <| x_iload rfl <| y_ireturn (ls := [none, none, none, none, none, some (.int s.1)]) ?_
      have hk := k3 _ (Option.some.inj h).symm
      exact hk
    · replace h := of_neg h h5
      refine jWP.intro (pr := pX11_key) (pc := 78) ?_
      obtain ⟨g6, h⟩ := of_guard h
      refine y_mask <| x_aload rfl <| x_getR (Nat.le_of_ble_eq_true rfl) rfl rfl <| x_iload rfl <| x_iald rfl g6 <| x_iload rfl <| y_cmp_le (fun h7 => ?_) (fun h7 => ?_)
      · replace h := of_pos h h7
        refine jWP.intro (pr := pX11_key) (pc := 92) ?_
        refine y_mask <| x_iinc rfl rfl <| y_mask <| y_goto ?_
        refine jWP.intro (pr := pX11_key) (pc := 52) ?_
        have hk := k1 _ (Option.some.inj h).symm
        exact hk
      · replace h := of_neg h h7
        refine jWP.intro (pr := pX11_key) (pc := 89) ?_
        refine y_mask <| x_iload rfl <| y_ireturn (ls := [none, none, none, none, none, some (.int s.1)]) ?_
        have hk := k3 _ (Option.some.inj h).symm
        exact hk
set_option maxRecDepth 20000 in
theorem tfX11_key (d n : Nat) (A : Nat → Nat → Int32) (L : Nat → Nat → Int64) (l1 : Int32) (l2 : Int32) (l3 : Int32) {Q : Option Value → jM → Prop} {z : (Int32 × (Nat → Nat → Int32))} (h : fX11_key A l1 l2 l3 = some z) (k3 : Q (some (.int z.1)) (Sh0 n, z.2, L)) : pX11_key (jEv jtab (d + 2), jWP (jEv jtab (d + 2)) Q ((Sh0 n).length, jsl (Sh0 n)) pX11_key, Q, ((Sh0 n).length, jsl (Sh0 n))) 0 [some (.ref 94), some (.int l1), some (.int l2), some (.int l3), none, none] [] (Sh0 n, A, L) := by
  unfold fX11_key at h
  refine y_mask <| x_iload rfl <| y_invS1 (Nat.le_of_ble_eq_true rfl) <| jEv.exZ (q := 229) rfl (kX11_isShip _ _ _ _ _) <| fun hz1 => y_if_eq (fun h2 => ?_) (fun h2 => ?_)
  · replace h := of_pos h h2
    refine jWP.intro (pr := pX11_key) (pc := 14) ?_
    refine y_mpri (bs := []) (ls := []) ?_
    obtain rfl := Option.some.inj h
    exact k3
  · replace h := of_neg h h2
    refine jWP.intro (pr := pX11_key) (pc := 7) ?_
    refine y_mask <| x_iload rfl <| y_invS1 (Nat.le_of_ble_eq_true rfl) <| jEv.exZ (q := 229) rfl (kX11_isShip _ _ _ _ _) <| fun hz3 => y_if_ne (fun h4 => ?_) (fun h4 => ?_)
    · replace h := of_neg h h4
      refine jWP.intro (pr := pX11_key) (pc := 17) ?_
      refine y_mask <| x_iload rfl <| y_invS1 (Nat.le_of_ble_eq_true rfl) <| jEv.exZ (q := 230) rfl (kX11_isDay _ _ _ _ _) <| fun hz5 => y_if_ne (fun h6 => ?_) (fun h6 => ?_)
      · replace h := of_neg h h6
        refine jWP.intro (pr := pX11_key) (pc := 27) ?_
        obtain ⟨r7, hc8, h⟩ := of_bind h
        obtain ⟨g9, h⟩ := of_guard h
        show bX11_key_27 _ _ _ _
        unfold bX11_key_27
        refine y_mask ?_
        refine x_aload rfl ?_
        refine x_iload rfl ?_
        refine x_iload rfl ?_
        refine x_push ?_
        refine y_invV3 (Nat.le_of_ble_eq_true rfl) rfl (Nat.le_of_ble_eq_true rfl) ?_
        refine jEv.exV (kX11_spread _ _ _ _ _ _ _ hc8) ?_
        refine x_aload rfl ?_
        refine x_getR (Nat.le_of_ble_eq_true rfl) rfl rfl ?_
        refine x_iload rfl ?_
        refine x_iald rfl g9 ?_
        refine x_istore rfl ?_
        refine x_iload rfl ?_
        refine y_if_ge (fun h10 => ?_) (fun h10 => ?_)
        · replace h := of_pos h h10
          refine jWP.intro (pr := pX11_key) (pc := 49) ?_
          refine y_mask <| x_push <| x_istore rfl <| y_mask <| y_goto ?_
          obtain ⟨e11y, hw12, h⟩ := of_bind h
          refine jWP.intro (pr := pX11_key) (pc := 52) ?_
          refine jwh_use2 (G := (fun s0 => pX11_key (jEv jtab (d + 2), jWP (jEv jtab (d + 2)) Q ((Sh0 n).length, jsl (Sh0 n)) pX11_key, Q, ((Sh0 n).length, jsl (Sh0 n))) 52 [some (.ref 94), some (.int l1), some (.int l2), some (.int l3), some (.int (r7 123 (jx l3))), some (.int s0.1)] [] (Sh0 n, s0.2, L))) (Gx := (fun s0 => pX11_key (jEv jtab (d + 2), jWP (jEv jtab (d + 2)) Q ((Sh0 n).length, jsl (Sh0 n)) pX11_key, Q, ((Sh0 n).length, jsl (Sh0 n))) 98 [none, none, none, none, none, none] [] (Sh0 n, s0, L))) (Gr := (fun s0 => Q (some (.int s0.1)) (Sh0 n, s0.2, L))) (fun s1 z1 hz kk1 kk2 kk3 => tcX11_key_52 d n r7 L l1 l2 l3 (r7 123 (jx l3)) s1 hz kk1 kk2 kk3) hw12 ?_ ?_
          · intro e11 hy
            subst hy
            replace h : (some ((-1 : Int32), e11)) = some z := h
            refine y_mpri (bs := []) (ls := []) ?_
            obtain rfl := Option.some.inj h
            exact k3
          · intro s0 hy
            subst hy
            replace h : some s0 = some z := h
            obtain rfl := Option.some.inj h
            exact k3
        · replace h := of_neg h h10
          refine jWP.intro (pr := pX11_key) (pc := 47) ?_
          refine y_mpri (bs := []) (ls := []) ?_
          obtain rfl := Option.some.inj h
          exact k3
      · replace h := of_pos h h6
        refine jWP.intro (pr := pX11_key) (pc := 24) ?_
        refine y_mpri (bs := []) (ls := []) ?_
        obtain rfl := Option.some.inj h
        exact k3
    · replace h := of_pos h h4
      refine jWP.intro (pr := pX11_key) (pc := 14) ?_
      refine y_mpri (bs := []) (ls := []) ?_
      obtain rfl := Option.some.inj h
      exact k3
theorem kX11_key (d n : Nat) (A : Nat → Nat → Int32) (L : Nat → Nat → Int64) (l1 : Int32) (l2 : Int32) (l3 : Int32) {z : (Int32 × (Nat → Nat → Int32))} (h : fX11_key A l1 l2 l3 = some z) : jEv jtab (d + 3) 250 [.ref 94, .int l1, .int l2, .int l3] (Sh0 n, A, L) 0 0 (fun r M2 => r = some (.int z.1) ∧ M2 = (Sh0 n, z.2, L)) :=
  jEv.mk (mt := mX11_key) rfl (Nat.le_of_ble_eq_true rfl) (jWP.intro (pr := pX11_key) (pc := 0) (tfX11_key d n A L l1 l2 l3 h ⟨trivial, jCn.mk ⟨rfl, rfl⟩⟩))
set_option maxRecDepth 20000 in
theorem tcX11_drawn_42 (d n : Nat) (A : Nat → Nat → Int32) (L : Nat → Nat → Int64) (l2 : Int32) (s : (Int64 × Int32 × Int32 × Int32)) {Q : Option Value → jM → Prop} {z : ((Int64 × Int32 × Int32 × Int32) ⊕ (Int32 × Int32))} (h : cX11_drawn_42 A L l2 s = some z) (k1 : ∀ s0, z = .inl s0 → pX11_drawn (jEv jtab (d + 6), jWP (jEv jtab (d + 6)) Q ((Sh0 n).length, jsl (Sh0 n)) pX11_drawn, Q, ((Sh0 n).length, jsl (Sh0 n))) 42 [some (.ref 94), none, some (.int l2), some (.long s0.1), none, some (.int s0.2.1), some (.int s0.2.2.1), some (.int s0.2.2.2), none] [] (Sh0 n, A, L)) (k2 : ∀ s0, z = .inr s0 → pX11_drawn (jEv jtab (d + 6), jWP (jEv jtab (d + 6)) Q ((Sh0 n).length, jsl (Sh0 n)) pX11_drawn, Q, ((Sh0 n).length, jsl (Sh0 n))) 134 [some (.ref 94), none, some (.int l2), none, none, some (.int s0.1), some (.int s0.2), none, none] [] (Sh0 n, A, L)) : pX11_drawn (jEv jtab (d + 6), jWP (jEv jtab (d + 6)) Q ((Sh0 n).length, jsl (Sh0 n)) pX11_drawn, Q, ((Sh0 n).length, jsl (Sh0 n))) 42 [some (.ref 94), none, some (.int l2), some (.long s.1), none, some (.int s.2.1), some (.int s.2.2.1), some (.int s.2.2.2), none] [] (Sh0 n, A, L) := by
  unfold cX11_drawn_42 at h
  refine y_mask <| x_iload rfl <| x_aload rfl <| x_getI (Nat.le_of_ble_eq_true rfl) rfl rfl <| y_cmp_ge (fun h1 => ?_) (fun h1 => ?_)
  · replace h := of_pos h h1
    refine jWP.intro (pr := pX11_drawn) (pc := 134) ?_
    have hk := k2 _ (Option.some.inj h).symm
    exact hk
  · replace h := of_neg h h1
    refine jWP.intro (pr := pX11_drawn) (pc := 51) ?_
    obtain ⟨g2, h⟩ := of_guard h
    refine y_mask <| x_aload rfl <| x_getR (Nat.le_of_ble_eq_true rfl) rfl rfl <| x_iload rfl <| x_iald rfl g2 <| x_push <| y_cmp_ge (fun h3 => ?_) (fun h3 => ?_)
    · replace h := of_pos h h3
      refine jWP.intro (pr := pX11_drawn) (pc := 65) ?_
      obtain ⟨g4, h⟩ := of_guard h
      show bX11_drawn_65 _ _ _ _
      unfold bX11_drawn_65
      refine y_mask ?_
      refine x_lload rfl ?_
      refine x_push ?_
      refine x_lmul ?_
      refine x_push ?_
      refine x_lrem (by decide) ?_
      refine x_lstore rfl ?_
      refine x_lload rfl ?_
      refine x_push ?_
      refine x_lrem (by decide) ?_
      refine x_aload rfl ?_
      refine x_getR (Nat.le_of_ble_eq_true rfl) rfl rfl ?_
      refine x_iload rfl ?_
      refine x_iald rfl g4 ?_
      refine x_i2l ?_
      refine x_lcmp ?_
      refine y_if_lt (fun h5 => ?_) (fun h5 => ?_)
      · replace h := of_pos h h5
        refine jWP.intro (pr := pX11_drawn) (pc := 95) ?_
        obtain ⟨g6, h⟩ := of_guard h
        obtain ⟨g7, h⟩ := of_guard h
        obtain ⟨g8, h⟩ := of_guard h
        show bX11_drawn_95 _ _ _ _
        unfold bX11_drawn_95
        refine y_mask ?_
        refine x_iload rfl ?_
        refine x_push ?_
        refine x_aload rfl ?_
        refine x_getR (Nat.le_of_ble_eq_true rfl) rfl rfl ?_
        refine x_aload rfl ?_
        refine x_getR (Nat.le_of_ble_eq_true rfl) rfl rfl ?_
        refine x_iload rfl ?_
        refine x_iald rfl g6 ?_
        refine x_iald rfl g7 ?_
        refine x_ishl ?_
        refine x_ior ?_
        refine x_istore rfl ?_
        refine x_iload rfl ?_
        refine x_push ?_
        refine x_aload rfl ?_
        refine x_getR (Nat.le_of_ble_eq_true rfl) rfl rfl ?_
        refine x_iload rfl ?_
        refine x_iald rfl g8 ?_
        refine x_ishl ?_
        refine x_ior ?_
        refine x_istore rfl ?_
        refine y_mask ?_
        refine y_goto ?_
        refine jWP.intro (pr := pX11_drawn) (pc := 128) ?_
        refine y_mask <| x_iinc rfl rfl <| y_mask <| y_goto ?_
        refine jWP.intro (pr := pX11_drawn) (pc := 42) ?_
        have hk := k1 _ (Option.some.inj h).symm
        exact hk
      · replace h := of_neg h h5
        refine jWP.intro (pr := pX11_drawn) (pc := 92) ?_
        refine y_mask <| y_mask <| y_goto ?_
        refine jWP.intro (pr := pX11_drawn) (pc := 128) ?_
        refine y_mask <| x_iinc rfl rfl <| y_mask <| y_goto ?_
        refine jWP.intro (pr := pX11_drawn) (pc := 42) ?_
        have hk := k1 _ (Option.some.inj h).symm
        exact hk
    · replace h := of_neg h h3
      refine jWP.intro (pr := pX11_drawn) (pc := 62) ?_
      refine y_mask <| y_mask <| y_goto ?_
      refine jWP.intro (pr := pX11_drawn) (pc := 128) ?_
      refine y_mask <| x_iinc rfl rfl <| y_mask <| y_goto ?_
      refine jWP.intro (pr := pX11_drawn) (pc := 42) ?_
      have hk := k1 _ (Option.some.inj h).symm
      exact hk
set_option maxRecDepth 20000 in
theorem tcX11_drawn_157 (d n : Nat) (A : Nat → Nat → Int32) (L : Nat → Nat → Int64) (l5 : Int32) (s : (Int32 × Int32)) {Q : Option Value → jM → Prop} {z : ((Int32 × Int32) ⊕ Int32)} (h : cX11_drawn_157 A L l5 s = some z) (k1 : ∀ s0, z = .inl s0 → pX11_drawn (jEv jtab (d + 6), jWP (jEv jtab (d + 6)) Q ((Sh0 n).length, jsl (Sh0 n)) pX11_drawn, Q, ((Sh0 n).length, jsl (Sh0 n))) 157 [some (.ref 94), none, none, none, none, some (.int l5), none, some (.int s0.1), some (.int s0.2)] [] (Sh0 n, A, L)) (k2 : ∀ s0, z = .inr s0 → pX11_drawn (jEv jtab (d + 6), jWP (jEv jtab (d + 6)) Q ((Sh0 n).length, jsl (Sh0 n)) pX11_drawn, Q, ((Sh0 n).length, jsl (Sh0 n))) 190 [none, none, none, none, none, none, none, some (.int s0), none] [] (Sh0 n, A, L)) : pX11_drawn (jEv jtab (d + 6), jWP (jEv jtab (d + 6)) Q ((Sh0 n).length, jsl (Sh0 n)) pX11_drawn, Q, ((Sh0 n).length, jsl (Sh0 n))) 157 [some (.ref 94), none, none, none, none, some (.int l5), none, some (.int s.1), some (.int s.2)] [] (Sh0 n, A, L) := by
  unfold cX11_drawn_157 at h
  refine y_mask <| x_iload rfl <| x_push <| y_cmp_ge (fun h1 => ?_) (fun h1 => ?_)
  · replace h := of_pos h h1
    refine jWP.intro (pr := pX11_drawn) (pc := 190) ?_
    have hk := k2 _ (Option.some.inj h).symm
    exact hk
  · replace h := of_neg h h1
    refine jWP.intro (pr := pX11_drawn) (pc := 164) ?_
    obtain ⟨g2, h⟩ := of_guard h
    show bX11_drawn_164 _ _ _ _
    unfold bX11_drawn_164
    refine y_mask ?_
    refine x_iload rfl ?_
    refine x_iload rfl ?_
    refine x_iload rfl ?_
    refine x_ishr ?_
    refine x_push ?_
    refine x_iand ?_
    refine x_aload rfl ?_
    refine x_getR (Nat.le_of_ble_eq_true rfl) rfl rfl ?_
    refine x_iload rfl ?_
    refine x_iald rfl g2 ?_
    refine x_imul ?_
    refine x_iadd ?_
    refine x_istore rfl ?_
    refine x_iinc rfl rfl ?_
    refine y_mask ?_
    refine y_goto ?_
    refine jWP.intro (pr := pX11_drawn) (pc := 157) ?_
    have hk := k1 _ (Option.some.inj h).symm
    exact hk
set_option maxRecDepth 20000 in
theorem tfX11_drawn (d n : Nat) (A : Nat → Nat → Int32) (L : Nat → Nat → Int64) (l1 : Int32) (l2 : Int32) {Q : Option Value → jM → Prop} {z : (Int32 × (Nat → Nat → Int32) × (Nat → Nat → Int64))} (h : fX11_drawn A L l1 l2 = some z) (k3 : Q (some (.int z.1)) (Sh0 n, z.2.1, z.2.2)) : pX11_drawn (jEv jtab (d + 6), jWP (jEv jtab (d + 6)) Q ((Sh0 n).length, jsl (Sh0 n)) pX11_drawn, Q, ((Sh0 n).length, jsl (Sh0 n))) 0 [some (.ref 94), some (.int l1), some (.int l2), none, none, none, none, none, none] [] (Sh0 n, A, L) := by
  unfold fX11_drawn at h
  refine y_mask <| x_iload rfl <| x_push <| x_push <| y_invS3 (Nat.le_of_ble_eq_true rfl) <| jEv.exZ (q := 159) rfl (kX11_in _ _ _ _ _ _ _) <| fun hz1 => y_if_eq (fun h2 => ?_) (fun h2 => ?_)
  · replace h := of_pos h h2
    refine jWP.intro (pr := pX11_drawn) (pc := 20) ?_
    refine y_mpri (bs := []) (ls := []) ?_
    obtain rfl := Option.some.inj h
    exact k3
  · replace h := of_neg h h2
    refine jWP.intro (pr := pX11_drawn) (pc := 11) ?_
    refine y_mask <| x_iload rfl <| x_push <| x_push <| y_invS3 (Nat.le_of_ble_eq_true rfl) <| jEv.exZ (q := 159) rfl (kX11_in _ _ _ _ _ _ _) <| fun hz3 => y_if_ne (fun h4 => ?_) (fun h4 => ?_)
    · replace h := of_neg h h4
      refine jWP.intro (pr := pX11_drawn) (pc := 23) ?_
      obtain ⟨r5, hc6, h⟩ := of_bind h
      show bX11_drawn_23 _ _ _ _
      unfold bX11_drawn_23
      refine y_mask ?_
      refine x_aload rfl ?_
      refine y_invV0 (Nat.le_of_ble_eq_true rfl) rfl (Nat.le_of_ble_eq_true rfl) ?_
      refine jEv.exL (kX11_worthOfAll _ _ _ _ hc6) ?_
      refine x_pop2 rfl ?_
      refine x_iload rfl ?_
      refine x_i2l ?_
      refine x_push ?_
      refine x_ladd ?_
      refine x_lstore rfl ?_
      refine x_push ?_
      refine x_istore rfl ?_
      refine x_push ?_
      refine x_istore rfl ?_
      refine x_push ?_
      refine x_istore rfl ?_
      refine y_mask ?_
      refine y_goto ?_
      obtain ⟨e7, hw8, h⟩ := of_bind h
      refine jWP.intro (pr := pX11_drawn) (pc := 42) ?_
      refine jwh_use (G := (fun s0 => pX11_drawn (jEv jtab (d + 6), jWP (jEv jtab (d + 6)) Q ((Sh0 n).length, jsl (Sh0 n)) pX11_drawn, Q, ((Sh0 n).length, jsl (Sh0 n))) 42 [some (.ref 94), none, some (.int l2), some (.long s0.1), none, some (.int s0.2.1), some (.int s0.2.2.1), some (.int s0.2.2.2), none] [] (Sh0 n, r5.2.1, r5.2.2))) (Gx := (fun s0 => pX11_drawn (jEv jtab (d + 6), jWP (jEv jtab (d + 6)) Q ((Sh0 n).length, jsl (Sh0 n)) pX11_drawn, Q, ((Sh0 n).length, jsl (Sh0 n))) 134 [some (.ref 94), none, some (.int l2), none, none, some (.int s0.1), some (.int s0.2), none, none] [] (Sh0 n, r5.2.1, r5.2.2))) (fun s1 z1 hz kk1 kk2 => tcX11_drawn_42 d n r5.2.1 r5.2.2 l2 s1 hz kk1 kk2) hw8 ?_
      refine y_mask <| x_iload rfl <| x_push <| y_cmp_ge (fun h9 => ?_) (fun h9 => ?_)
      · replace h := of_pos h h9
        refine jWP.intro (pr := pX11_drawn) (pc := 151) ?_
        refine y_mask <| x_push <| x_istore rfl <| x_push <| x_istore rfl <| y_mask <| y_goto ?_
        obtain ⟨e10, hw11, h⟩ := of_bind h
        refine jWP.intro (pr := pX11_drawn) (pc := 157) ?_
        refine jwh_use (G := (fun s0 => pX11_drawn (jEv jtab (d + 6), jWP (jEv jtab (d + 6)) Q ((Sh0 n).length, jsl (Sh0 n)) pX11_drawn, Q, ((Sh0 n).length, jsl (Sh0 n))) 157 [some (.ref 94), none, none, none, none, some (.int e7.1), none, some (.int s0.1), some (.int s0.2)] [] (Sh0 n, r5.2.1, r5.2.2))) (Gx := (fun s0 => pX11_drawn (jEv jtab (d + 6), jWP (jEv jtab (d + 6)) Q ((Sh0 n).length, jsl (Sh0 n)) pX11_drawn, Q, ((Sh0 n).length, jsl (Sh0 n))) 190 [none, none, none, none, none, none, none, some (.int s0), none] [] (Sh0 n, r5.2.1, r5.2.2))) (fun s1 z1 hz kk1 kk2 => tcX11_drawn_157 d n r5.2.1 r5.2.2 e7.1 s1 hz kk1 kk2) hw11 ?_
        refine y_mask <| x_iload rfl <| y_ireturn (ls := [none, none, none, none, none, none, none, some (.int e10), none]) ?_
        obtain rfl := Option.some.inj h
        exact k3
      · replace h := of_neg h h9
        refine jWP.intro (pr := pX11_drawn) (pc := 139) ?_
        refine y_mask <| x_iload rfl <| y_if_ne (fun h12 => ?_) (fun h12 => ?_)
        · replace h := of_neg h h12
          refine jWP.intro (pr := pX11_drawn) (pc := 148) ?_
          refine y_mask <| x_iload rfl <| y_mask <| y_goto ?_
          refine jWP.intro (pr := pX11_drawn) (pc := 150) ?_
          refine y_mri (bs := []) (ls := []) ?_
          obtain rfl := Option.some.inj h
          exact k3
        · replace h := of_pos h h12
          refine jWP.intro (pr := pX11_drawn) (pc := 143) ?_
          refine y_mask <| x_iload rfl <| y_mask <| y_goto ?_
          refine jWP.intro (pr := pX11_drawn) (pc := 150) ?_
          refine y_mri (bs := []) (ls := []) ?_
          obtain rfl := Option.some.inj h
          exact k3
    · replace h := of_pos h h4
      refine jWP.intro (pr := pX11_drawn) (pc := 20) ?_
      refine y_mpri (bs := []) (ls := []) ?_
      obtain rfl := Option.some.inj h
      exact k3
theorem kX11_drawn (d n : Nat) (A : Nat → Nat → Int32) (L : Nat → Nat → Int64) (l1 : Int32) (l2 : Int32) {z : (Int32 × (Nat → Nat → Int32) × (Nat → Nat → Int64))} (h : fX11_drawn A L l1 l2 = some z) : jEv jtab (d + 7) 251 [.ref 94, .int l1, .int l2] (Sh0 n, A, L) 0 0 (fun r M2 => r = some (.int z.1) ∧ M2 = (Sh0 n, z.2.1, z.2.2)) :=
  jEv.mk (mt := mX11_drawn) rfl (Nat.le_of_ble_eq_true rfl) (jWP.intro (pr := pX11_drawn) (pc := 0) (tfX11_drawn d n A L l1 l2 h ⟨trivial, jCn.mk ⟨rfl, rfl⟩⟩))
set_option maxRecDepth 20000 in
theorem tcX11_image_23 (d n : Nat) (A : Nat → Nat → Int32) (L : Nat → Nat → Int64) (s : (Int32 × (Nat → Nat → Int32))) {Q : Option Value → jM → Prop} {z : ((Int32 × (Nat → Nat → Int32)) ⊕ (Nat → Nat → Int32))} (h : cX11_image_23 s = some z) (k1 : ∀ s0, z = .inl s0 → pX11_image (jEv jtab (d + 0), jWP (jEv jtab (d + 0)) Q ((Sh0 n).length, jsl (Sh0 n)) pX11_image, Q, ((Sh0 n).length, jsl (Sh0 n))) 23 [some (.ref 94), some (.int s0.1)] [] (Sh0 n, s0.2, L)) (k2 : ∀ s0, z = .inr s0 → pX11_image (jEv jtab (d + 0), jWP (jEv jtab (d + 0)) Q ((Sh0 n).length, jsl (Sh0 n)) pX11_image, Q, ((Sh0 n).length, jsl (Sh0 n))) 59 [some (.ref 94), none] [] (Sh0 n, s0, L)) : pX11_image (jEv jtab (d + 0), jWP (jEv jtab (d + 0)) Q ((Sh0 n).length, jsl (Sh0 n)) pX11_image, Q, ((Sh0 n).length, jsl (Sh0 n))) 23 [some (.ref 94), some (.int s.1)] [] (Sh0 n, s.2, L) := by
  unfold cX11_image_23 at h
  refine y_mask <| x_iload rfl <| x_push <| y_cmp_ge (fun h1 => ?_) (fun h1 => ?_)
  · replace h := of_pos h h1
    refine jWP.intro (pr := pX11_image) (pc := 59) ?_
    have hk := k2 _ (Option.some.inj h).symm
    exact hk
  · replace h := of_neg h h1
    refine jWP.intro (pr := pX11_image) (pc := 29) ?_
    obtain ⟨g2, h⟩ := of_guard h
    obtain ⟨g3, h⟩ := of_guard h
    obtain ⟨m4, hm5, h⟩ := of_bind h
    obtain ⟨g6, h⟩ := of_guard h
    obtain ⟨g7, h⟩ := of_guard h
    obtain ⟨m8, hm9, h⟩ := of_bind h
    show bX11_image_29 _ _ _ _
    unfold bX11_image_29
    refine y_mask ?_
    refine x_aload rfl ?_
    refine x_getR (Nat.le_of_ble_eq_true rfl) rfl rfl ?_
    refine x_iload rfl ?_
    refine x_aload rfl ?_
    refine x_getR (Nat.le_of_ble_eq_true rfl) rfl rfl ?_
    refine x_iload rfl ?_
    refine x_iald rfl g2 ?_
    refine x_iast (Nat.le_of_ble_eq_true rfl) rfl g3 ?_
    refine y_let (Option.some.inj hm5) ?_
    refine x_aload rfl ?_
    refine x_getR (Nat.le_of_ble_eq_true rfl) rfl rfl ?_
    refine x_iload rfl ?_
    refine x_aload rfl ?_
    refine x_getR (Nat.le_of_ble_eq_true rfl) rfl rfl ?_
    refine x_iload rfl ?_
    refine x_iald rfl g6 ?_
    refine x_iast (Nat.le_of_ble_eq_true rfl) rfl g7 ?_
    refine y_let (Option.some.inj hm9) ?_
    refine x_iinc rfl rfl ?_
    refine y_mask ?_
    refine y_goto ?_
    refine jWP.intro (pr := pX11_image) (pc := 23) ?_
    have hk := k1 _ (Option.some.inj h).symm
    exact hk
set_option maxRecDepth 20000 in
theorem tcX11_image_61 (d n : Nat) (A : Nat → Nat → Int32) (L : Nat → Nat → Int64) (s : (Int32 × (Nat → Nat → Int32))) {Q : Option Value → jM → Prop} {z : ((Int32 × (Nat → Nat → Int32)) ⊕ (Nat → Nat → Int32))} (h : cX11_image_61 s = some z) (k1 : ∀ s0, z = .inl s0 → pX11_image (jEv jtab (d + 0), jWP (jEv jtab (d + 0)) Q ((Sh0 n).length, jsl (Sh0 n)) pX11_image, Q, ((Sh0 n).length, jsl (Sh0 n))) 61 [some (.ref 94), some (.int s0.1)] [] (Sh0 n, s0.2, L)) (k2 : ∀ s0, z = .inr s0 → pX11_image (jEv jtab (d + 0), jWP (jEv jtab (d + 0)) Q ((Sh0 n).length, jsl (Sh0 n)) pX11_image, Q, ((Sh0 n).length, jsl (Sh0 n))) 85 [some (.ref 94), none] [] (Sh0 n, s0, L)) : pX11_image (jEv jtab (d + 0), jWP (jEv jtab (d + 0)) Q ((Sh0 n).length, jsl (Sh0 n)) pX11_image, Q, ((Sh0 n).length, jsl (Sh0 n))) 61 [some (.ref 94), some (.int s.1)] [] (Sh0 n, s.2, L) := by
  unfold cX11_image_61 at h
  refine y_mask <| x_iload rfl <| x_push <| y_cmp_ge (fun h1 => ?_) (fun h1 => ?_)
  · replace h := of_pos h h1
    refine jWP.intro (pr := pX11_image) (pc := 85) ?_
    have hk := k2 _ (Option.some.inj h).symm
    exact hk
  · replace h := of_neg h h1
    refine jWP.intro (pr := pX11_image) (pc := 67) ?_
    obtain ⟨g2, h⟩ := of_guard h
    obtain ⟨g3, h⟩ := of_guard h
    obtain ⟨m4, hm5, h⟩ := of_bind h
    show bX11_image_67 _ _ _ _
    unfold bX11_image_67
    refine y_mask ?_
    refine x_aload rfl ?_
    refine x_getR (Nat.le_of_ble_eq_true rfl) rfl rfl ?_
    refine x_iload rfl ?_
    refine x_aload rfl ?_
    refine x_getR (Nat.le_of_ble_eq_true rfl) rfl rfl ?_
    refine x_iload rfl ?_
    refine x_iald rfl g2 ?_
    refine x_iast (Nat.le_of_ble_eq_true rfl) rfl g3 ?_
    refine y_let (Option.some.inj hm5) ?_
    refine x_iinc rfl rfl ?_
    refine y_mask ?_
    refine y_goto ?_
    refine jWP.intro (pr := pX11_image) (pc := 61) ?_
    have hk := k1 _ (Option.some.inj h).symm
    exact hk
set_option maxRecDepth 20000 in
theorem tfX11_image (d n : Nat) (A : Nat → Nat → Int32) (L : Nat → Nat → Int64) {Q : Option Value → jM → Prop} {z : (Int32 × (Nat → Nat → Int32))} (h : fX11_image A = some z) (k3 : Q (some (.int z.1)) (Sh0 n, z.2, L)) : pX11_image (jEv jtab (d + 0), jWP (jEv jtab (d + 0)) Q ((Sh0 n).length, jsl (Sh0 n)) pX11_image, Q, ((Sh0 n).length, jsl (Sh0 n))) 0 [some (.ref 94), none] [] (Sh0 n, A, L) := by
  unfold fX11_image at h
  obtain ⟨m1, hm2, h⟩ := of_bind h
  show bX11_image_0 _ _ _ _
  unfold bX11_image_0
  refine y_mask ?_
  refine x_aload rfl ?_
  refine x_push ?_
  refine x_putZ (Nat.le_of_ble_eq_true rfl) rfl rfl (by decide) ?_
  refine x_aload rfl ?_
  refine x_aload rfl ?_
  refine x_getI (Nat.le_of_ble_eq_true rfl) rfl rfl ?_
  refine x_putI (Nat.le_of_ble_eq_true rfl) rfl rfl ?_
  refine y_let (Option.some.inj hm2) ?_
  refine x_aload rfl ?_
  refine x_aload rfl ?_
  refine x_getI (Nat.le_of_ble_eq_true rfl) rfl rfl ?_
  refine x_putI (Nat.le_of_ble_eq_true rfl) rfl rfl ?_
  refine x_push ?_
  refine x_istore rfl ?_
  refine y_mask ?_
  refine y_goto ?_
  obtain ⟨e3, hw4, h⟩ := of_bind h
  refine jWP.intro (pr := pX11_image) (pc := 23) ?_
  refine jwh_use (G := (fun s0 => pX11_image (jEv jtab (d + 0), jWP (jEv jtab (d + 0)) Q ((Sh0 n).length, jsl (Sh0 n)) pX11_image, Q, ((Sh0 n).length, jsl (Sh0 n))) 23 [some (.ref 94), some (.int s0.1)] [] (Sh0 n, s0.2, L))) (Gx := (fun s0 => pX11_image (jEv jtab (d + 0), jWP (jEv jtab (d + 0)) Q ((Sh0 n).length, jsl (Sh0 n)) pX11_image, Q, ((Sh0 n).length, jsl (Sh0 n))) 59 [some (.ref 94), none] [] (Sh0 n, s0, L))) (fun s1 z1 hz kk1 kk2 => tcX11_image_23 d n (va_up m1 94 (upd (m1 94) 49 (m1 94 33))) L s1 hz kk1 kk2) hw4 ?_
  refine y_mask <| x_push <| x_istore rfl <| y_mask <| y_goto ?_
  obtain ⟨e5, hw6, h⟩ := of_bind h
  refine jWP.intro (pr := pX11_image) (pc := 61) ?_
  refine jwh_use (G := (fun s0 => pX11_image (jEv jtab (d + 0), jWP (jEv jtab (d + 0)) Q ((Sh0 n).length, jsl (Sh0 n)) pX11_image, Q, ((Sh0 n).length, jsl (Sh0 n))) 61 [some (.ref 94), some (.int s0.1)] [] (Sh0 n, s0.2, L))) (Gx := (fun s0 => pX11_image (jEv jtab (d + 0), jWP (jEv jtab (d + 0)) Q ((Sh0 n).length, jsl (Sh0 n)) pX11_image, Q, ((Sh0 n).length, jsl (Sh0 n))) 85 [some (.ref 94), none] [] (Sh0 n, s0, L))) (fun s1 z1 hz kk1 kk2 => tcX11_image_61 d n e3 L s1 hz kk1 kk2) hw6 ?_
  refine y_mask <| x_aload rfl <| x_getI (Nat.le_of_ble_eq_true rfl) rfl rfl <| y_ireturn (ls := [some (.ref 94), none]) ?_
  obtain rfl := Option.some.inj h
  exact k3
theorem kX11_image (d n : Nat) (A : Nat → Nat → Int32) (L : Nat → Nat → Int64) {z : (Int32 × (Nat → Nat → Int32))} (h : fX11_image A = some z) : jEv jtab (d + 1) 252 [.ref 94] (Sh0 n, A, L) 0 0 (fun r M2 => r = some (.int z.1) ∧ M2 = (Sh0 n, z.2, L)) :=
  jEv.mk (mt := mX11_image) rfl (Nat.le_of_ble_eq_true rfl) (jWP.intro (pr := pX11_image) (pc := 0) (tfX11_image d n A L h ⟨trivial, jCn.mk ⟨rfl, rfl⟩⟩))
set_option maxRecDepth 20000 in
theorem tcX11_back_20 (d n : Nat) (A : Nat → Nat → Int32) (L : Nat → Nat → Int64) (s : (Int32 × (Nat → Nat → Int32))) {Q : Option Value → jM → Prop} {z : ((Int32 × (Nat → Nat → Int32)) ⊕ (Nat → Nat → Int32))} (h : cX11_back_20 s = some z) (k1 : ∀ s0, z = .inl s0 → pX11_back (jEv jtab (d + 0), jWP (jEv jtab (d + 0)) Q ((Sh0 n).length, jsl (Sh0 n)) pX11_back, Q, ((Sh0 n).length, jsl (Sh0 n))) 20 [some (.ref 94), some (.int s0.1), none] [] (Sh0 n, s0.2, L)) (k2 : ∀ s0, z = .inr s0 → pX11_back (jEv jtab (d + 0), jWP (jEv jtab (d + 0)) Q ((Sh0 n).length, jsl (Sh0 n)) pX11_back, Q, ((Sh0 n).length, jsl (Sh0 n))) 56 [some (.ref 94), none, none] [] (Sh0 n, s0, L)) : pX11_back (jEv jtab (d + 0), jWP (jEv jtab (d + 0)) Q ((Sh0 n).length, jsl (Sh0 n)) pX11_back, Q, ((Sh0 n).length, jsl (Sh0 n))) 20 [some (.ref 94), some (.int s.1), none] [] (Sh0 n, s.2, L) := by
  unfold cX11_back_20 at h
  refine y_mask <| x_iload rfl <| x_push <| y_cmp_ge (fun h1 => ?_) (fun h1 => ?_)
  · replace h := of_pos h h1
    refine jWP.intro (pr := pX11_back) (pc := 56) ?_
    have hk := k2 _ (Option.some.inj h).symm
    exact hk
  · replace h := of_neg h h1
    refine jWP.intro (pr := pX11_back) (pc := 26) ?_
    obtain ⟨g2, h⟩ := of_guard h
    obtain ⟨g3, h⟩ := of_guard h
    obtain ⟨m4, hm5, h⟩ := of_bind h
    obtain ⟨g6, h⟩ := of_guard h
    obtain ⟨g7, h⟩ := of_guard h
    obtain ⟨m8, hm9, h⟩ := of_bind h
    show bX11_back_26 _ _ _ _
    unfold bX11_back_26
    refine y_mask ?_
    refine x_aload rfl ?_
    refine x_getR (Nat.le_of_ble_eq_true rfl) rfl rfl ?_
    refine x_iload rfl ?_
    refine x_aload rfl ?_
    refine x_getR (Nat.le_of_ble_eq_true rfl) rfl rfl ?_
    refine x_iload rfl ?_
    refine x_iald rfl g2 ?_
    refine x_iast (Nat.le_of_ble_eq_true rfl) rfl g3 ?_
    refine y_let (Option.some.inj hm5) ?_
    refine x_aload rfl ?_
    refine x_getR (Nat.le_of_ble_eq_true rfl) rfl rfl ?_
    refine x_iload rfl ?_
    refine x_aload rfl ?_
    refine x_getR (Nat.le_of_ble_eq_true rfl) rfl rfl ?_
    refine x_iload rfl ?_
    refine x_iald rfl g6 ?_
    refine x_iast (Nat.le_of_ble_eq_true rfl) rfl g7 ?_
    refine y_let (Option.some.inj hm9) ?_
    refine x_iinc rfl rfl ?_
    refine y_mask ?_
    refine y_goto ?_
    refine jWP.intro (pr := pX11_back) (pc := 20) ?_
    have hk := k1 _ (Option.some.inj h).symm
    exact hk
set_option maxRecDepth 20000 in
theorem tcX11_back_68 (d n : Nat) (A : Nat → Nat → Int32) (L : Nat → Nat → Int64) (l1 : Int32) (s : (Int32 × (Nat → Nat → Int32))) {Q : Option Value → jM → Prop} {z : ((Int32 × (Nat → Nat → Int32)) ⊕ (Nat → Nat → Int32))} (h : cX11_back_68 l1 s = some z) (k1 : ∀ s0, z = .inl s0 → pX11_back (jEv jtab (d + 0), jWP (jEv jtab (d + 0)) Q ((Sh0 n).length, jsl (Sh0 n)) pX11_back, Q, ((Sh0 n).length, jsl (Sh0 n))) 68 [some (.ref 94), some (.int l1), some (.int s0.1)] [] (Sh0 n, s0.2, L)) (k2 : ∀ s0, z = .inr s0 → pX11_back (jEv jtab (d + 0), jWP (jEv jtab (d + 0)) Q ((Sh0 n).length, jsl (Sh0 n)) pX11_back, Q, ((Sh0 n).length, jsl (Sh0 n))) 104 [some (.ref 94), some (.int l1), none] [] (Sh0 n, s0, L)) : pX11_back (jEv jtab (d + 0), jWP (jEv jtab (d + 0)) Q ((Sh0 n).length, jsl (Sh0 n)) pX11_back, Q, ((Sh0 n).length, jsl (Sh0 n))) 68 [some (.ref 94), some (.int l1), some (.int s.1)] [] (Sh0 n, s.2, L) := by
  unfold cX11_back_68 at h
  refine y_mask <| x_iload rfl <| x_aload rfl <| x_getI (Nat.le_of_ble_eq_true rfl) rfl rfl <| y_cmp_ge (fun h1 => ?_) (fun h1 => ?_)
  · replace h := of_pos h h1
    refine jWP.intro (pr := pX11_back) (pc := 104) ?_
    have hk := k2 _ (Option.some.inj h).symm
    exact hk
  · replace h := of_neg h h1
    refine jWP.intro (pr := pX11_back) (pc := 76) ?_
    obtain ⟨g2, h⟩ := of_guard h
    obtain ⟨g3, h⟩ := of_guard h
    obtain ⟨m4, hm5, h⟩ := of_bind h
    show bX11_back_76 _ _ _ _
    unfold bX11_back_76
    refine y_mask ?_
    refine x_aload rfl ?_
    refine x_getR (Nat.le_of_ble_eq_true rfl) rfl rfl ?_
    refine x_push ?_
    refine x_iload rfl ?_
    refine x_imul ?_
    refine x_iload rfl ?_
    refine x_iadd ?_
    refine x_aload rfl ?_
    refine x_getR (Nat.le_of_ble_eq_true rfl) rfl rfl ?_
    refine x_push ?_
    refine x_iload rfl ?_
    refine x_imul ?_
    refine x_iload rfl ?_
    refine x_iadd ?_
    refine x_iald rfl g2 ?_
    refine x_iast (Nat.le_of_ble_eq_true rfl) rfl g3 ?_
    refine y_let (Option.some.inj hm5) ?_
    refine x_iinc rfl rfl ?_
    refine y_mask ?_
    refine y_goto ?_
    refine jWP.intro (pr := pX11_back) (pc := 68) ?_
    have hk := k1 _ (Option.some.inj h).symm
    exact hk
set_option maxRecDepth 20000 in
theorem tcX11_back_58 (d n : Nat) (A : Nat → Nat → Int32) (L : Nat → Nat → Int64) (s : (Int32 × (Nat → Nat → Int32))) {Q : Option Value → jM → Prop} {z : ((Int32 × (Nat → Nat → Int32)) ⊕ (Nat → Nat → Int32))} (h : cX11_back_58 s = some z) (k1 : ∀ s0, z = .inl s0 → pX11_back (jEv jtab (d + 0), jWP (jEv jtab (d + 0)) Q ((Sh0 n).length, jsl (Sh0 n)) pX11_back, Q, ((Sh0 n).length, jsl (Sh0 n))) 58 [some (.ref 94), some (.int s0.1), none] [] (Sh0 n, s0.2, L)) (k2 : ∀ s0, z = .inr s0 → pX11_back (jEv jtab (d + 0), jWP (jEv jtab (d + 0)) Q ((Sh0 n).length, jsl (Sh0 n)) pX11_back, Q, ((Sh0 n).length, jsl (Sh0 n))) 110 [some (.ref 94), none, none] [] (Sh0 n, s0, L)) : pX11_back (jEv jtab (d + 0), jWP (jEv jtab (d + 0)) Q ((Sh0 n).length, jsl (Sh0 n)) pX11_back, Q, ((Sh0 n).length, jsl (Sh0 n))) 58 [some (.ref 94), some (.int s.1), none] [] (Sh0 n, s.2, L) := by
  unfold cX11_back_58 at h
  refine y_mask <| x_iload rfl <| x_aload rfl <| x_getI (Nat.le_of_ble_eq_true rfl) rfl rfl <| y_cmp_ge (fun h1 => ?_) (fun h1 => ?_)
  · replace h := of_pos h h1
    refine jWP.intro (pr := pX11_back) (pc := 110) ?_
    have hk := k2 _ (Option.some.inj h).symm
    exact hk
  · replace h := of_neg h h1
    refine jWP.intro (pr := pX11_back) (pc := 66) ?_
    refine y_mask <| x_push <| x_istore rfl <| y_mask <| y_goto ?_
    obtain ⟨e2, hw3, h⟩ := of_bind h
    refine jWP.intro (pr := pX11_back) (pc := 68) ?_
    refine jwh_use (G := (fun s0 => pX11_back (jEv jtab (d + 0), jWP (jEv jtab (d + 0)) Q ((Sh0 n).length, jsl (Sh0 n)) pX11_back, Q, ((Sh0 n).length, jsl (Sh0 n))) 68 [some (.ref 94), some (.int s.1), some (.int s0.1)] [] (Sh0 n, s0.2, L))) (Gx := (fun s0 => pX11_back (jEv jtab (d + 0), jWP (jEv jtab (d + 0)) Q ((Sh0 n).length, jsl (Sh0 n)) pX11_back, Q, ((Sh0 n).length, jsl (Sh0 n))) 104 [some (.ref 94), some (.int s.1), none] [] (Sh0 n, s0, L))) (fun s1 z1 hz kk1 kk2 => tcX11_back_68 d n s.2 L s.1 s1 hz kk1 kk2) hw3 ?_
    refine y_mask <| x_iinc rfl rfl <| y_mask <| y_goto ?_
    refine jWP.intro (pr := pX11_back) (pc := 58) ?_
    have hk := k1 _ (Option.some.inj h).symm
    exact hk
set_option maxRecDepth 20000 in
theorem tfX11_back (d n : Nat) (A : Nat → Nat → Int32) (L : Nat → Nat → Int64) {Q : Option Value → jM → Prop} {z : (Int32 × (Nat → Nat → Int32))} (h : fX11_back A = some z) (k3 : Q (some (.int z.1)) (Sh0 n, z.2, L)) : pX11_back (jEv jtab (d + 0), jWP (jEv jtab (d + 0)) Q ((Sh0 n).length, jsl (Sh0 n)) pX11_back, Q, ((Sh0 n).length, jsl (Sh0 n))) 0 [some (.ref 94), none, none] [] (Sh0 n, A, L) := by
  unfold fX11_back at h
  refine y_mask <| x_aload rfl <| x_getI (Nat.le_of_ble_eq_true rfl) rfl rfl <| y_if_ne (fun h1 => ?_) (fun h1 => ?_)
  · replace h := of_neg h h1
    refine jWP.intro (pr := pX11_back) (pc := 10) ?_
    refine y_mask <| x_aload rfl <| x_aload rfl <| x_getI (Nat.le_of_ble_eq_true rfl) rfl rfl <| x_putI (Nat.le_of_ble_eq_true rfl) rfl rfl <| x_push <| x_istore rfl <| y_mask <| y_goto ?_
    obtain ⟨e2, hw3, h⟩ := of_bind h
    refine jWP.intro (pr := pX11_back) (pc := 20) ?_
    refine jwh_use (G := (fun s0 => pX11_back (jEv jtab (d + 0), jWP (jEv jtab (d + 0)) Q ((Sh0 n).length, jsl (Sh0 n)) pX11_back, Q, ((Sh0 n).length, jsl (Sh0 n))) 20 [some (.ref 94), some (.int s0.1), none] [] (Sh0 n, s0.2, L))) (Gx := (fun s0 => pX11_back (jEv jtab (d + 0), jWP (jEv jtab (d + 0)) Q ((Sh0 n).length, jsl (Sh0 n)) pX11_back, Q, ((Sh0 n).length, jsl (Sh0 n))) 56 [some (.ref 94), none, none] [] (Sh0 n, s0, L))) (fun s1 z1 hz kk1 kk2 => tcX11_back_20 d n (va_up A 94 (upd (A 94) 6 (A 94 48))) L s1 hz kk1 kk2) hw3 ?_
    refine y_mask <| x_push <| x_istore rfl <| y_mask <| y_goto ?_
    obtain ⟨e4, hw5, h⟩ := of_bind h
    refine jWP.intro (pr := pX11_back) (pc := 58) ?_
    refine jwh_use (G := (fun s0 => pX11_back (jEv jtab (d + 0), jWP (jEv jtab (d + 0)) Q ((Sh0 n).length, jsl (Sh0 n)) pX11_back, Q, ((Sh0 n).length, jsl (Sh0 n))) 58 [some (.ref 94), some (.int s0.1), none] [] (Sh0 n, s0.2, L))) (Gx := (fun s0 => pX11_back (jEv jtab (d + 0), jWP (jEv jtab (d + 0)) Q ((Sh0 n).length, jsl (Sh0 n)) pX11_back, Q, ((Sh0 n).length, jsl (Sh0 n))) 110 [some (.ref 94), none, none] [] (Sh0 n, s0, L))) (fun s1 z1 hz kk1 kk2 => tcX11_back_58 d n e2 L s1 hz kk1 kk2) hw5 ?_
    refine y_mask <| x_aload rfl <| x_getI (Nat.le_of_ble_eq_true rfl) rfl rfl <| y_ireturn (ls := [some (.ref 94), none, none]) ?_
    obtain rfl := Option.some.inj h
    exact k3
  · replace h := of_pos h h1
    refine jWP.intro (pr := pX11_back) (pc := 7) ?_
    refine y_mpri (bs := []) (ls := []) ?_
    obtain rfl := Option.some.inj h
    exact k3
theorem kX11_back (d n : Nat) (A : Nat → Nat → Int32) (L : Nat → Nat → Int64) {z : (Int32 × (Nat → Nat → Int32))} (h : fX11_back A = some z) : jEv jtab (d + 1) 253 [.ref 94] (Sh0 n, A, L) 0 0 (fun r M2 => r = some (.int z.1) ∧ M2 = (Sh0 n, z.2, L)) :=
  jEv.mk (mt := mX11_back) rfl (Nat.le_of_ble_eq_true rfl) (jWP.intro (pr := pX11_back) (pc := 0) (tfX11_back d n A L h ⟨trivial, jCn.mk ⟨rfl, rfl⟩⟩))
set_option maxRecDepth 20000 in
theorem tcX11_sheet_66 (d n : Nat) (A : Nat → Nat → Int32) (L : Nat → Nat → Int64) (l1 : Int32) (l3 : Int32) (s : (Int32 × (Nat → Nat → Int32))) {Q : Option Value → jM → Prop} {z : ((Int32 × (Nat → Nat → Int32)) ⊕ (Nat → Nat → Int32))} (h : cX11_sheet_66 l1 l3 s = some z) (k1 : ∀ s0, z = .inl s0 → pX11_sheet (jEv jtab (d + 2), jWP (jEv jtab (d + 2)) Q ((Sh0 n).length, jsl (Sh0 n)) pX11_sheet, Q, ((Sh0 n).length, jsl (Sh0 n))) 66 [some (.ref 94), some (.int l1), none, some (.int l3), some (.int s0.1)] [] (Sh0 n, s0.2, L)) (k2 : ∀ s0, z = .inr s0 → pX11_sheet (jEv jtab (d + 2), jWP (jEv jtab (d + 2)) Q ((Sh0 n).length, jsl (Sh0 n)) pX11_sheet, Q, ((Sh0 n).length, jsl (Sh0 n))) 91 [none, none, none, none, none] [] (Sh0 n, s0, L)) : pX11_sheet (jEv jtab (d + 2), jWP (jEv jtab (d + 2)) Q ((Sh0 n).length, jsl (Sh0 n)) pX11_sheet, Q, ((Sh0 n).length, jsl (Sh0 n))) 66 [some (.ref 94), some (.int l1), none, some (.int l3), some (.int s.1)] [] (Sh0 n, s.2, L) := by
  unfold cX11_sheet_66 at h
  refine y_mask <| x_iload rfl <| x_iload rfl <| y_cmp_ge (fun h1 => ?_) (fun h1 => ?_)
  · replace h := of_pos h h1
    refine jWP.intro (pr := pX11_sheet) (pc := 91) ?_
    have hk := k2 _ (Option.some.inj h).symm
    exact hk
  · replace h := of_neg h h1
    refine jWP.intro (pr := pX11_sheet) (pc := 72) ?_
    obtain ⟨g2, h⟩ := of_guard h
    obtain ⟨m3, hm4, h⟩ := of_bind h
    show bX11_sheet_72 _ _ _ _
    unfold bX11_sheet_72
    refine y_mask ?_
    refine x_aload rfl ?_
    refine x_getR (Nat.le_of_ble_eq_true rfl) rfl rfl ?_
    refine x_push ?_
    refine x_iload rfl ?_
    refine x_imul ?_
    refine x_iload rfl ?_
    refine x_iadd ?_
    refine x_push ?_
    refine x_iast (Nat.le_of_ble_eq_true rfl) rfl g2 ?_
    refine y_let (Option.some.inj hm4) ?_
    refine x_iinc rfl rfl ?_
    refine y_mask ?_
    refine y_goto ?_
    refine jWP.intro (pr := pX11_sheet) (pc := 66) ?_
    have hk := k1 _ (Option.some.inj h).symm
    exact hk
set_option maxRecDepth 20000 in
theorem tfX11_sheet (d n : Nat) (A : Nat → Nat → Int32) (L : Nat → Nat → Int64) (l1 : Int32) (l2 : Int32) (l3 : Int32) {Q : Option Value → jM → Prop} {z : (Int32 × (Nat → Nat → Int32))} (h : fX11_sheet A l1 l2 l3 = some z) (k3 : Q (some (.int z.1)) (Sh0 n, z.2, L)) : pX11_sheet (jEv jtab (d + 2), jWP (jEv jtab (d + 2)) Q ((Sh0 n).length, jsl (Sh0 n)) pX11_sheet, Q, ((Sh0 n).length, jsl (Sh0 n))) 0 [some (.ref 94), some (.int l1), some (.int l2), some (.int l3), none] [] (Sh0 n, A, L) := by
  unfold fX11_sheet at h
  refine y_mask <| x_iload rfl <| y_invS1 (Nat.le_of_ble_eq_true rfl) <| jEv.exZ (q := 254) rfl (kX11_isSheet _ _ _ _ _) <| fun hz1 => y_if_eq (fun h2 => ?_) (fun h2 => ?_)
  · replace h := of_pos h h2
    refine jWP.intro (pr := pX11_sheet) (pc := 16) ?_
    refine y_mpri (bs := []) (ls := []) ?_
    obtain rfl := Option.some.inj h
    exact k3
  · replace h := of_neg h h2
    refine jWP.intro (pr := pX11_sheet) (pc := 7) ?_
    refine y_mask <| x_iload rfl <| x_push <| x_push <| y_invS3 (Nat.le_of_ble_eq_true rfl) <| jEv.exZ (q := 159) rfl (kX11_in _ _ _ _ _ _ _) <| fun hz3 => y_if_ne (fun h4 => ?_) (fun h4 => ?_)
    · replace h := of_neg h h4
      refine jWP.intro (pr := pX11_sheet) (pc := 19) ?_
      refine y_mask <| x_iload rfl <| x_push <| y_cmp_ne (fun h5 => ?_) (fun h5 => ?_)
      · replace h := of_neg h h5
        refine jWP.intro (pr := pX11_sheet) (pc := 33) ?_
        refine y_mask <| x_iload rfl <| x_push <| y_cmp_le (fun h6 => ?_) (fun h6 => ?_)
        · replace h := of_pos h h6
          refine jWP.intro (pr := pX11_sheet) (pc := 42) ?_
          refine y_mask <| x_iload rfl <| y_if_ge (fun h7 => ?_) (fun h7 => ?_)
          · replace h := of_pos h h7
            refine jWP.intro (pr := pX11_sheet) (pc := 49) ?_
            obtain ⟨g8, h⟩ := of_guard h
            obtain ⟨m9, hm10, h⟩ := of_bind h
            obtain ⟨g11, h⟩ := of_guard h
            obtain ⟨m12, hm13, h⟩ := of_bind h
            show bX11_sheet_49 _ _ _ _
            unfold bX11_sheet_49
            refine y_mask ?_
            refine x_aload rfl ?_
            refine x_getR (Nat.le_of_ble_eq_true rfl) rfl rfl ?_
            refine x_iload rfl ?_
            refine x_iload rfl ?_
            refine x_iast (Nat.le_of_ble_eq_true rfl) rfl g8 ?_
            refine y_let (Option.some.inj hm10) ?_
            refine x_aload rfl ?_
            refine x_getR (Nat.le_of_ble_eq_true rfl) rfl rfl ?_
            refine x_iload rfl ?_
            refine x_iload rfl ?_
            refine x_iast (Nat.le_of_ble_eq_true rfl) rfl g11 ?_
            refine y_let (Option.some.inj hm13) ?_
            refine x_push ?_
            refine x_istore rfl ?_
            refine y_mask ?_
            refine y_goto ?_
            obtain ⟨e14, hw15, h⟩ := of_bind h
            refine jWP.intro (pr := pX11_sheet) (pc := 66) ?_
            refine jwh_use (G := (fun s0 => pX11_sheet (jEv jtab (d + 2), jWP (jEv jtab (d + 2)) Q ((Sh0 n).length, jsl (Sh0 n)) pX11_sheet, Q, ((Sh0 n).length, jsl (Sh0 n))) 66 [some (.ref 94), some (.int l1), none, some (.int l3), some (.int s0.1)] [] (Sh0 n, s0.2, L))) (Gx := (fun s0 => pX11_sheet (jEv jtab (d + 2), jWP (jEv jtab (d + 2)) Q ((Sh0 n).length, jsl (Sh0 n)) pX11_sheet, Q, ((Sh0 n).length, jsl (Sh0 n))) 91 [none, none, none, none, none] [] (Sh0 n, s0, L))) (fun s1 z1 hz kk1 kk2 => tcX11_sheet_66 d n m12 L l1 l3 s1 hz kk1 kk2) hw15 ?_
            refine y_mpri (bs := []) (ls := []) ?_
            obtain rfl := Option.some.inj h
            exact k3
          · replace h := of_neg h h7
            refine jWP.intro (pr := pX11_sheet) (pc := 46) ?_
            refine y_mpri (bs := []) (ls := []) ?_
            obtain rfl := Option.some.inj h
            exact k3
        · replace h := of_neg h h6
          refine jWP.intro (pr := pX11_sheet) (pc := 39) ?_
          refine y_mpri (bs := []) (ls := []) ?_
          obtain rfl := Option.some.inj h
          exact k3
      · replace h := of_pos h h5
        refine jWP.intro (pr := pX11_sheet) (pc := 24) ?_
        obtain ⟨g16, h⟩ := of_guard h
        obtain ⟨m17, hm18, h⟩ := of_bind h
        refine y_mask <| x_aload rfl <| x_getR (Nat.le_of_ble_eq_true rfl) rfl rfl <| x_iload rfl <| x_push <| x_iast (Nat.le_of_ble_eq_true rfl) rfl g16 <| y_let (Option.some.inj hm18) <| x_push <| y_ireturn (ls := [some (.ref 94), some (.int l1), none, none, none]) ?_
        obtain rfl := Option.some.inj h
        exact k3
    · replace h := of_pos h h4
      refine jWP.intro (pr := pX11_sheet) (pc := 16) ?_
      refine y_mpri (bs := []) (ls := []) ?_
      obtain rfl := Option.some.inj h
      exact k3
theorem kX11_sheet (d n : Nat) (A : Nat → Nat → Int32) (L : Nat → Nat → Int64) (l1 : Int32) (l2 : Int32) (l3 : Int32) {z : (Int32 × (Nat → Nat → Int32))} (h : fX11_sheet A l1 l2 l3 = some z) : jEv jtab (d + 3) 255 [.ref 94, .int l1, .int l2, .int l3] (Sh0 n, A, L) 0 0 (fun r M2 => r = some (.int z.1) ∧ M2 = (Sh0 n, z.2, L)) :=
  jEv.mk (mt := mX11_sheet) rfl (Nat.le_of_ble_eq_true rfl) (jWP.intro (pr := pX11_sheet) (pc := 0) (tfX11_sheet d n A L l1 l2 l3 h ⟨trivial, jCn.mk ⟨rfl, rfl⟩⟩))
set_option maxRecDepth 20000 in
theorem tfX11_cell (d n : Nat) (A : Nat → Nat → Int32) (L : Nat → Nat → Int64) (l1 : Int32) (l2 : Int32) (l3 : Int32) {Q : Option Value → jM → Prop} {z : (Int32 × (Nat → Nat → Int32))} (h : fX11_cell A l1 l2 l3 = some z) (k3 : Q (some (.int z.1)) (Sh0 n, z.2, L)) : pX11_cell (jEv jtab (d + 2), jWP (jEv jtab (d + 2)) Q ((Sh0 n).length, jsl (Sh0 n)) pX11_cell, Q, ((Sh0 n).length, jsl (Sh0 n))) 0 [some (.ref 94), some (.int l1), some (.int l2), some (.int l3)] [] (Sh0 n, A, L) := by
  unfold fX11_cell at h
  refine y_mask <| x_iload rfl <| y_invS1 (Nat.le_of_ble_eq_true rfl) <| jEv.exZ (q := 254) rfl (kX11_isSheet _ _ _ _ _) <| fun hz1 => y_if_ne (fun h2 => ?_) (fun h2 => ?_)
  · replace h := of_neg h h2
    refine jWP.intro (pr := pX11_cell) (pc := 10) ?_
    obtain ⟨g3, h⟩ := of_guard h
    refine y_mask <| x_aload rfl <| x_getR (Nat.le_of_ble_eq_true rfl) rfl rfl <| x_iload rfl <| x_iald rfl g3 <| y_if_ge (fun h4 => ?_) (fun h4 => ?_)
    · replace h := of_pos h h4
      refine jWP.intro (pr := pX11_cell) (pc := 22) ?_
      obtain ⟨g5, h⟩ := of_guard h
      show bX11_cell_22 _ _ _ _
      unfold bX11_cell_22
      refine y_mask ?_
      refine x_iload rfl ?_
      refine x_push ?_
      refine x_aload rfl ?_
      refine x_getR (Nat.le_of_ble_eq_true rfl) rfl rfl ?_
      refine x_iload rfl ?_
      refine x_iald rfl g5 ?_
      refine x_push ?_
      refine x_isub ?_
      refine y_invS3 (Nat.le_of_ble_eq_true rfl) ?_
      refine jEv.exZ (q := 159) rfl (kX11_in _ _ _ _ _ _ _) (fun hz6 => ?_)
      refine y_if_ne (fun h7 => ?_) (fun h7 => ?_)
      · replace h := of_neg h h7
        refine jWP.intro (pr := pX11_cell) (pc := 41) ?_
        obtain ⟨g8, h⟩ := of_guard h
        show bX11_cell_41 _ _ _ _
        unfold bX11_cell_41
        refine y_mask ?_
        refine x_aload rfl ?_
        refine x_getR (Nat.le_of_ble_eq_true rfl) rfl rfl ?_
        refine x_push ?_
        refine x_iload rfl ?_
        refine x_imul ?_
        refine x_iload rfl ?_
        refine x_iadd ?_
        refine x_aload rfl ?_
        refine x_getR (Nat.le_of_ble_eq_true rfl) rfl rfl ?_
        refine x_iload rfl ?_
        refine x_iald rfl g8 ?_
        refine y_if_ne (fun h9 => ?_) (fun h9 => ?_)
        · replace h := of_neg h h9
          refine jWP.intro (pr := pX11_cell) (pc := 65) ?_
          obtain ⟨g10, h⟩ := of_guard h
          refine y_mask <| x_aload rfl <| x_getR (Nat.le_of_ble_eq_true rfl) rfl rfl <| x_iload rfl <| x_iald rfl g10 <| x_push <| y_cmp_ne (fun h11 => ?_) (fun h11 => ?_)
          · replace h := of_neg h h11
            refine jWP.intro (pr := pX11_cell) (pc := 80) ?_
            refine y_mask <| x_iload rfl <| y_mask <| y_goto ?_
            refine jWP.intro (pr := pX11_cell) (pc := 81) ?_
            obtain ⟨g12, h⟩ := of_guard h
            obtain ⟨m13, hm14, h⟩ := of_bind h
            refine y_mask <| x_iast (Nat.le_of_ble_eq_true rfl) rfl g12 <| y_let (Option.some.inj hm14) <| x_push <| y_ireturn (ls := [none, none, none, none]) ?_
            obtain rfl := Option.some.inj h
            exact k3
          · replace h := of_pos h h11
            refine jWP.intro (pr := pX11_cell) (pc := 75) ?_
            refine y_mask <| x_iload rfl <| x_i2s <| y_mask <| y_goto ?_
            refine jWP.intro (pr := pX11_cell) (pc := 81) ?_
            obtain ⟨g15, h⟩ := of_guard h
            obtain ⟨m16, hm17, h⟩ := of_bind h
            refine y_mask <| x_iast (Nat.le_of_ble_eq_true rfl) rfl g15 <| y_let (Option.some.inj hm17) <| x_push <| y_ireturn (ls := [none, none, none, none]) ?_
            obtain rfl := Option.some.inj h
            exact k3
        · replace h := of_pos h h9
          refine jWP.intro (pr := pX11_cell) (pc := 60) ?_
          refine y_mask <| x_iload rfl <| x_i2b <| y_mask <| y_goto ?_
          refine jWP.intro (pr := pX11_cell) (pc := 81) ?_
          obtain ⟨g18, h⟩ := of_guard h
          obtain ⟨m19, hm20, h⟩ := of_bind h
          refine y_mask <| x_iast (Nat.le_of_ble_eq_true rfl) rfl g18 <| y_let (Option.some.inj hm20) <| x_push <| y_ireturn (ls := [none, none, none, none]) ?_
          obtain rfl := Option.some.inj h
          exact k3
      · replace h := of_pos h h7
        refine jWP.intro (pr := pX11_cell) (pc := 38) ?_
        refine y_mpri (bs := []) (ls := []) ?_
        obtain rfl := Option.some.inj h
        exact k3
    · replace h := of_neg h h4
      refine jWP.intro (pr := pX11_cell) (pc := 19) ?_
      refine y_mpri (bs := []) (ls := []) ?_
      obtain rfl := Option.some.inj h
      exact k3
  · replace h := of_pos h h2
    refine jWP.intro (pr := pX11_cell) (pc := 7) ?_
    refine y_mpri (bs := []) (ls := []) ?_
    obtain rfl := Option.some.inj h
    exact k3
theorem kX11_cell (d n : Nat) (A : Nat → Nat → Int32) (L : Nat → Nat → Int64) (l1 : Int32) (l2 : Int32) (l3 : Int32) {z : (Int32 × (Nat → Nat → Int32))} (h : fX11_cell A l1 l2 l3 = some z) : jEv jtab (d + 3) 256 [.ref 94, .int l1, .int l2, .int l3] (Sh0 n, A, L) 0 0 (fun r M2 => r = some (.int z.1) ∧ M2 = (Sh0 n, z.2, L)) :=
  jEv.mk (mt := mX11_cell) rfl (Nat.le_of_ble_eq_true rfl) (jWP.intro (pr := pX11_cell) (pc := 0) (tfX11_cell d n A L l1 l2 l3 h ⟨trivial, jCn.mk ⟨rfl, rfl⟩⟩))
set_option maxRecDepth 20000 in
theorem tcX11_copy_111 (d n : Nat) (A : Nat → Nat → Int32) (L : Nat → Nat → Int64) (l1 : Int32) (l2 : Int32) (l3 : Int32) (l4 : Int32) (l5 : Int32) (s : (Int32 × (Nat → Nat → Int32))) {Q : Option Value → jM → Prop} {z : ((Int32 × (Nat → Nat → Int32)) ⊕ (Nat → Nat → Int32))} (h : cX11_copy_111 l1 l2 l3 l4 l5 s = some z) (k1 : ∀ s0, z = .inl s0 → pX11_copy (jEv jtab (d + 2), jWP (jEv jtab (d + 2)) Q ((Sh0 n).length, jsl (Sh0 n)) pX11_copy, Q, ((Sh0 n).length, jsl (Sh0 n))) 111 [some (.ref 94), some (.int l1), some (.int l2), some (.int l3), some (.int l4), some (.int l5), some (.int s0.1)] [] (Sh0 n, s0.2, L)) (k2 : ∀ s0, z = .inr s0 → pX11_copy (jEv jtab (d + 2), jWP (jEv jtab (d + 2)) Q ((Sh0 n).length, jsl (Sh0 n)) pX11_copy, Q, ((Sh0 n).length, jsl (Sh0 n))) 145 [some (.ref 94), none, none, some (.int l3), some (.int l4), some (.int l5), none] [] (Sh0 n, s0, L)) : pX11_copy (jEv jtab (d + 2), jWP (jEv jtab (d + 2)) Q ((Sh0 n).length, jsl (Sh0 n)) pX11_copy, Q, ((Sh0 n).length, jsl (Sh0 n))) 111 [some (.ref 94), some (.int l1), some (.int l2), some (.int l3), some (.int l4), some (.int l5), some (.int s.1)] [] (Sh0 n, s.2, L) := by
  unfold cX11_copy_111 at h
  refine y_mask <| x_iload rfl <| x_iload rfl <| y_cmp_ge (fun h1 => ?_) (fun h1 => ?_)
  · replace h := of_pos h h1
    refine jWP.intro (pr := pX11_copy) (pc := 145) ?_
    have hk := k2 _ (Option.some.inj h).symm
    exact hk
  · replace h := of_neg h h1
    refine jWP.intro (pr := pX11_copy) (pc := 118) ?_
    obtain ⟨g2, h⟩ := of_guard h
    obtain ⟨g3, h⟩ := of_guard h
    obtain ⟨m4, hm5, h⟩ := of_bind h
    show bX11_copy_118 _ _ _ _
    unfold bX11_copy_118
    refine y_mask ?_
    refine x_aload rfl ?_
    refine x_getR (Nat.le_of_ble_eq_true rfl) rfl rfl ?_
    refine x_iload rfl ?_
    refine x_aload rfl ?_
    refine x_getR (Nat.le_of_ble_eq_true rfl) rfl rfl ?_
    refine x_push ?_
    refine x_iload rfl ?_
    refine x_imul ?_
    refine x_iload rfl ?_
    refine x_iadd ?_
    refine x_iload rfl ?_
    refine x_iadd ?_
    refine x_iald rfl g2 ?_
    refine x_iast (Nat.le_of_ble_eq_true rfl) rfl g3 ?_
    refine y_let (Option.some.inj hm5) ?_
    refine x_iinc rfl rfl ?_
    refine y_mask ?_
    refine y_goto ?_
    refine jWP.intro (pr := pX11_copy) (pc := 111) ?_
    have hk := k1 _ (Option.some.inj h).symm
    exact hk
set_option maxRecDepth 20000 in
theorem tcX11_copy_148 (d n : Nat) (A : Nat → Nat → Int32) (L : Nat → Nat → Int64) (l3 : Int32) (l4 : Int32) (l5 : Int32) (s : (Int32 × (Nat → Nat → Int32))) {Q : Option Value → jM → Prop} {z : ((Int32 × (Nat → Nat → Int32)) ⊕ (Nat → Nat → Int32))} (h : cX11_copy_148 l3 l4 l5 s = some z) (k1 : ∀ s0, z = .inl s0 → pX11_copy (jEv jtab (d + 2), jWP (jEv jtab (d + 2)) Q ((Sh0 n).length, jsl (Sh0 n)) pX11_copy, Q, ((Sh0 n).length, jsl (Sh0 n))) 148 [some (.ref 94), none, none, some (.int l3), some (.int l4), some (.int l5), some (.int s0.1)] [] (Sh0 n, s0.2, L)) (k2 : ∀ s0, z = .inr s0 → pX11_copy (jEv jtab (d + 2), jWP (jEv jtab (d + 2)) Q ((Sh0 n).length, jsl (Sh0 n)) pX11_copy, Q, ((Sh0 n).length, jsl (Sh0 n))) 183 [none, none, none, none, none, some (.int l5), none] [] (Sh0 n, s0, L)) : pX11_copy (jEv jtab (d + 2), jWP (jEv jtab (d + 2)) Q ((Sh0 n).length, jsl (Sh0 n)) pX11_copy, Q, ((Sh0 n).length, jsl (Sh0 n))) 148 [some (.ref 94), none, none, some (.int l3), some (.int l4), some (.int l5), some (.int s.1)] [] (Sh0 n, s.2, L) := by
  unfold cX11_copy_148 at h
  refine y_mask <| x_iload rfl <| x_iload rfl <| y_cmp_ge (fun h1 => ?_) (fun h1 => ?_)
  · replace h := of_pos h h1
    refine jWP.intro (pr := pX11_copy) (pc := 183) ?_
    have hk := k2 _ (Option.some.inj h).symm
    exact hk
  · replace h := of_neg h h1
    refine jWP.intro (pr := pX11_copy) (pc := 155) ?_
    obtain ⟨g2, h⟩ := of_guard h
    obtain ⟨g3, h⟩ := of_guard h
    obtain ⟨m4, hm5, h⟩ := of_bind h
    show bX11_copy_155 _ _ _ _
    unfold bX11_copy_155
    refine y_mask ?_
    refine x_aload rfl ?_
    refine x_getR (Nat.le_of_ble_eq_true rfl) rfl rfl ?_
    refine x_push ?_
    refine x_iload rfl ?_
    refine x_imul ?_
    refine x_iload rfl ?_
    refine x_iadd ?_
    refine x_iload rfl ?_
    refine x_iadd ?_
    refine x_aload rfl ?_
    refine x_getR (Nat.le_of_ble_eq_true rfl) rfl rfl ?_
    refine x_iload rfl ?_
    refine x_iald rfl g2 ?_
    refine x_iast (Nat.le_of_ble_eq_true rfl) rfl g3 ?_
    refine y_let (Option.some.inj hm5) ?_
    refine x_iinc rfl rfl ?_
    refine y_mask ?_
    refine y_goto ?_
    refine jWP.intro (pr := pX11_copy) (pc := 148) ?_
    have hk := k1 _ (Option.some.inj h).symm
    exact hk
set_option maxRecDepth 20000 in
theorem tfX11_copy (d n : Nat) (A : Nat → Nat → Int32) (L : Nat → Nat → Int64) (l1 : Int32) (l2 : Int32) (l3 : Int32) (l4 : Int32) (l5 : Int32) {Q : Option Value → jM → Prop} {z : (Int32 × (Nat → Nat → Int32))} (h : fX11_copy A l1 l2 l3 l4 l5 = some z) (k3 : Q (some (.int z.1)) (Sh0 n, z.2, L)) : pX11_copy (jEv jtab (d + 2), jWP (jEv jtab (d + 2)) Q ((Sh0 n).length, jsl (Sh0 n)) pX11_copy, Q, ((Sh0 n).length, jsl (Sh0 n))) 0 [some (.ref 94), some (.int l1), some (.int l2), some (.int l3), some (.int l4), some (.int l5), none] [] (Sh0 n, A, L) := by
  unfold fX11_copy at h
  refine y_mask <| x_iload rfl <| y_invS1 (Nat.le_of_ble_eq_true rfl) <| jEv.exZ (q := 254) rfl (kX11_isSheet _ _ _ _ _) <| fun hz1 => y_if_eq (fun h2 => ?_) (fun h2 => ?_)
  · replace h := of_pos h h2
    refine jWP.intro (pr := pX11_copy) (pc := 14) ?_
    refine y_mpri (bs := []) (ls := []) ?_
    obtain rfl := Option.some.inj h
    exact k3
  · replace h := of_neg h h2
    refine jWP.intro (pr := pX11_copy) (pc := 7) ?_
    refine y_mask <| x_iload rfl <| y_invS1 (Nat.le_of_ble_eq_true rfl) <| jEv.exZ (q := 254) rfl (kX11_isSheet _ _ _ _ _) <| fun hz3 => y_if_ne (fun h4 => ?_) (fun h4 => ?_)
    · replace h := of_neg h h4
      refine jWP.intro (pr := pX11_copy) (pc := 17) ?_
      obtain ⟨g5, h⟩ := of_guard h
      refine y_mask <| x_aload rfl <| x_getR (Nat.le_of_ble_eq_true rfl) rfl rfl <| x_iload rfl <| x_iald rfl g5 <| y_if_lt (fun h6 => ?_) (fun h6 => ?_)
      · replace h := of_pos h h6
        refine jWP.intro (pr := pX11_copy) (pc := 35) ?_
        refine y_mpri (bs := []) (ls := []) ?_
        obtain rfl := Option.some.inj h
        exact k3
      · replace h := of_neg h h6
        refine jWP.intro (pr := pX11_copy) (pc := 26) ?_
        obtain ⟨g7, h⟩ := of_guard h
        refine y_mask <| x_aload rfl <| x_getR (Nat.le_of_ble_eq_true rfl) rfl rfl <| x_iload rfl <| x_iald rfl g7 <| y_if_ge (fun h8 => ?_) (fun h8 => ?_)
        · replace h := of_pos h h8
          refine jWP.intro (pr := pX11_copy) (pc := 38) ?_
          obtain ⟨g9, h⟩ := of_guard h
          obtain ⟨g10, h⟩ := of_guard h
          show bX11_copy_38 _ _ _ _
          unfold bX11_copy_38
          refine y_mask ?_
          refine x_aload rfl ?_
          refine x_getR (Nat.le_of_ble_eq_true rfl) rfl rfl ?_
          refine x_iload rfl ?_
          refine x_iald rfl g9 ?_
          refine x_aload rfl ?_
          refine x_getR (Nat.le_of_ble_eq_true rfl) rfl rfl ?_
          refine x_iload rfl ?_
          refine x_iald rfl g10 ?_
          refine y_cmp_eq (fun h11 => ?_) (fun h11 => ?_)
          · replace h := of_pos h h11
            refine jWP.intro (pr := pX11_copy) (pc := 56) ?_
            refine y_mask <| x_iload rfl <| y_if_lt (fun h12 => ?_) (fun h12 => ?_)
            · replace h := of_pos h h12
              refine jWP.intro (pr := pX11_copy) (pc := 105) ?_
              refine y_mpri (bs := []) (ls := []) ?_
              obtain rfl := Option.some.inj h
              exact k3
            · replace h := of_neg h h12
              refine jWP.intro (pr := pX11_copy) (pc := 61) ?_
              refine y_mask <| x_iload rfl <| y_if_lt (fun h13 => ?_) (fun h13 => ?_)
              · replace h := of_pos h h13
                refine jWP.intro (pr := pX11_copy) (pc := 105) ?_
                refine y_mpri (bs := []) (ls := []) ?_
                obtain rfl := Option.some.inj h
                exact k3
              · replace h := of_neg h h13
                refine jWP.intro (pr := pX11_copy) (pc := 65) ?_
                refine y_mask <| x_iload rfl <| y_if_lt (fun h14 => ?_) (fun h14 => ?_)
                · replace h := of_pos h h14
                  refine jWP.intro (pr := pX11_copy) (pc := 105) ?_
                  refine y_mpri (bs := []) (ls := []) ?_
                  obtain rfl := Option.some.inj h
                  exact k3
                · replace h := of_neg h h14
                  refine jWP.intro (pr := pX11_copy) (pc := 70) ?_
                  obtain ⟨g15, h⟩ := of_guard h
                  show bX11_copy_70 _ _ _ _
                  unfold bX11_copy_70
                  refine y_mask ?_
                  refine x_iload rfl ?_
                  refine x_i2l ?_
                  refine x_iload rfl ?_
                  refine x_i2l ?_
                  refine x_ladd ?_
                  refine x_aload rfl ?_
                  refine x_getR (Nat.le_of_ble_eq_true rfl) rfl rfl ?_
                  refine x_iload rfl ?_
                  refine x_iald rfl g15 ?_
                  refine x_i2l ?_
                  refine x_lcmp ?_
                  refine y_if_gt (fun h16 => ?_) (fun h16 => ?_)
                  · replace h := of_pos h h16
                    refine jWP.intro (pr := pX11_copy) (pc := 105) ?_
                    refine y_mpri (bs := []) (ls := []) ?_
                    obtain rfl := Option.some.inj h
                    exact k3
                  · replace h := of_neg h h16
                    refine jWP.intro (pr := pX11_copy) (pc := 87) ?_
                    obtain ⟨g17, h⟩ := of_guard h
                    show bX11_copy_87 _ _ _ _
                    unfold bX11_copy_87
                    refine y_mask ?_
                    refine x_iload rfl ?_
                    refine x_i2l ?_
                    refine x_iload rfl ?_
                    refine x_i2l ?_
                    refine x_ladd ?_
                    refine x_aload rfl ?_
                    refine x_getR (Nat.le_of_ble_eq_true rfl) rfl rfl ?_
                    refine x_iload rfl ?_
                    refine x_iald rfl g17 ?_
                    refine x_i2l ?_
                    refine x_lcmp ?_
                    refine y_if_le (fun h18 => ?_) (fun h18 => ?_)
                    · replace h := of_pos h h18
                      refine jWP.intro (pr := pX11_copy) (pc := 108) ?_
                      refine y_mask <| x_push <| x_istore rfl <| y_mask <| y_goto ?_
                      obtain ⟨e19, hw20, h⟩ := of_bind h
                      refine jWP.intro (pr := pX11_copy) (pc := 111) ?_
                      refine jwh_use (G := (fun s0 => pX11_copy (jEv jtab (d + 2), jWP (jEv jtab (d + 2)) Q ((Sh0 n).length, jsl (Sh0 n)) pX11_copy, Q, ((Sh0 n).length, jsl (Sh0 n))) 111 [some (.ref 94), some (.int l1), some (.int l2), some (.int l3), some (.int l4), some (.int l5), some (.int s0.1)] [] (Sh0 n, s0.2, L))) (Gx := (fun s0 => pX11_copy (jEv jtab (d + 2), jWP (jEv jtab (d + 2)) Q ((Sh0 n).length, jsl (Sh0 n)) pX11_copy, Q, ((Sh0 n).length, jsl (Sh0 n))) 145 [some (.ref 94), none, none, some (.int l3), some (.int l4), some (.int l5), none] [] (Sh0 n, s0, L))) (fun s1 z1 hz kk1 kk2 => tcX11_copy_111 d n A L l1 l2 l3 l4 l5 s1 hz kk1 kk2) hw20 ?_
                      refine y_mask <| x_push <| x_istore rfl <| y_mask <| y_goto ?_
                      obtain ⟨e21, hw22, h⟩ := of_bind h
                      refine jWP.intro (pr := pX11_copy) (pc := 148) ?_
                      refine jwh_use (G := (fun s0 => pX11_copy (jEv jtab (d + 2), jWP (jEv jtab (d + 2)) Q ((Sh0 n).length, jsl (Sh0 n)) pX11_copy, Q, ((Sh0 n).length, jsl (Sh0 n))) 148 [some (.ref 94), none, none, some (.int l3), some (.int l4), some (.int l5), some (.int s0.1)] [] (Sh0 n, s0.2, L))) (Gx := (fun s0 => pX11_copy (jEv jtab (d + 2), jWP (jEv jtab (d + 2)) Q ((Sh0 n).length, jsl (Sh0 n)) pX11_copy, Q, ((Sh0 n).length, jsl (Sh0 n))) 183 [none, none, none, none, none, some (.int l5), none] [] (Sh0 n, s0, L))) (fun s1 z1 hz kk1 kk2 => tcX11_copy_148 d n e19 L l3 l4 l5 s1 hz kk1 kk2) hw22 ?_
                      refine y_mask <| x_iload rfl <| y_ireturn (ls := [none, none, none, none, none, some (.int l5), none]) ?_
                      obtain rfl := Option.some.inj h
                      exact k3
                    · replace h := of_neg h h18
                      refine jWP.intro (pr := pX11_copy) (pc := 105) ?_
                      refine y_mpri (bs := []) (ls := []) ?_
                      obtain rfl := Option.some.inj h
                      exact k3
          · replace h := of_neg h h11
            refine jWP.intro (pr := pX11_copy) (pc := 53) ?_
            refine y_mpri (bs := []) (ls := []) ?_
            obtain rfl := Option.some.inj h
            exact k3
        · replace h := of_neg h h8
          refine jWP.intro (pr := pX11_copy) (pc := 35) ?_
          refine y_mpri (bs := []) (ls := []) ?_
          obtain rfl := Option.some.inj h
          exact k3
    · replace h := of_pos h h4
      refine jWP.intro (pr := pX11_copy) (pc := 14) ?_
      refine y_mpri (bs := []) (ls := []) ?_
      obtain rfl := Option.some.inj h
      exact k3
theorem kX11_copy (d n : Nat) (A : Nat → Nat → Int32) (L : Nat → Nat → Int64) (l1 : Int32) (l2 : Int32) (l3 : Int32) (l4 : Int32) (l5 : Int32) {z : (Int32 × (Nat → Nat → Int32))} (h : fX11_copy A l1 l2 l3 l4 l5 = some z) : jEv jtab (d + 3) 257 [.ref 94, .int l1, .int l2, .int l3, .int l4, .int l5] (Sh0 n, A, L) 0 0 (fun r M2 => r = some (.int z.1) ∧ M2 = (Sh0 n, z.2, L)) :=
  jEv.mk (mt := mX11_copy) rfl (Nat.le_of_ble_eq_true rfl) (jWP.intro (pr := pX11_copy) (pc := 0) (tfX11_copy d n A L l1 l2 l3 l4 l5 h ⟨trivial, jCn.mk ⟨rfl, rfl⟩⟩))
set_option maxRecDepth 20000 in
theorem tcX11_sayingsBy_61 (d n : Nat) (A : Nat → Nat → Int32) (L : Nat → Nat → Int64) (l1 : Int32) (l3 : Int32) (l4 : Int32) (s : (Int32 × Int32 × (Nat → Nat → Int32))) {Q : Option Value → jM → Prop} {z : ((Int32 × Int32 × (Nat → Nat → Int32)) ⊕ ((Int32 × (Nat → Nat → Int32)) ⊕ (Int32 × (Nat → Nat → Int32))))} (h : cX11_sayingsBy_61 l1 l3 l4 s = some z) (k1 : ∀ s0, z = .inl s0 → pX11_sayingsBy (jEv jtab (d + 2), jWP (jEv jtab (d + 2)) Q ((Sh0 n).length, jsl (Sh0 n)) pX11_sayingsBy, Q, ((Sh0 n).length, jsl (Sh0 n))) 61 [some (.ref 94), some (.int l1), none, some (.int l3), some (.int l4), some (.int s0.1), some (.int s0.2.1), none, none, none] [] (Sh0 n, s0.2.2, L)) (k2 : ∀ s0, z = .inr (.inl s0) → pX11_sayingsBy (jEv jtab (d + 2), jWP (jEv jtab (d + 2)) Q ((Sh0 n).length, jsl (Sh0 n)) pX11_sayingsBy, Q, ((Sh0 n).length, jsl (Sh0 n))) 156 [none, none, none, none, none, some (.int s0.1), none, none, none, none] [] (Sh0 n, s0.2, L)) (k3 : ∀ s0, z = .inr (.inr s0) → Q (some (.int s0.1)) (Sh0 n, s0.2, L)) : pX11_sayingsBy (jEv jtab (d + 2), jWP (jEv jtab (d + 2)) Q ((Sh0 n).length, jsl (Sh0 n)) pX11_sayingsBy, Q, ((Sh0 n).length, jsl (Sh0 n))) 61 [some (.ref 94), some (.int l1), none, some (.int l3), some (.int l4), some (.int s.1), some (.int s.2.1), none, none, none] [] (Sh0 n, s.2.2, L) := by
  unfold cX11_sayingsBy_61 at h
  refine y_mask <| x_iload rfl <| x_iload rfl <| y_cmp_ge (fun h1 => ?_) (fun h1 => ?_)
  · replace h := of_pos h h1
    refine jWP.intro (pr := pX11_sayingsBy) (pc := 156) ?_
    have hk := k2 _ (Option.some.inj h).symm
    exact hk
  · replace h := of_neg h h1
    refine jWP.intro (pr := pX11_sayingsBy) (pc := 68) ?_
    show bX11_sayingsBy_68 _ _ _ _
    unfold bX11_sayingsBy_68
    refine y_mask ?_
    refine x_iload rfl ?_
    refine x_i2l ?_
    refine x_push ?_
    refine x_iload rfl ?_
    refine x_imul ?_
    refine x_i2l ?_
    refine x_ladd ?_
    refine x_lstore rfl ?_
    refine x_lload rfl ?_
    refine x_push ?_
    refine x_lcmp ?_
    refine y_if_lt (fun h2 => ?_) (fun h2 => ?_)
    · replace h := of_pos h h2
      refine jWP.intro (pr := pX11_sayingsBy) (pc := 102) ?_
      refine y_mpri (bs := []) (ls := []) ?_
      have hk := k3 _ (Option.some.inj h).symm
      exact hk
    · replace h := of_neg h h2
      refine jWP.intro (pr := pX11_sayingsBy) (pc := 85) ?_
      obtain ⟨g3, h⟩ := of_guard h
      show bX11_sayingsBy_85 _ _ _ _
      unfold bX11_sayingsBy_85
      refine y_mask ?_
      refine x_lload rfl ?_
      refine x_push ?_
      refine x_ladd ?_
      refine x_aload rfl ?_
      refine x_getR (Nat.le_of_ble_eq_true rfl) rfl rfl ?_
      refine x_iload rfl ?_
      refine x_iald rfl g3 ?_
      refine x_i2l ?_
      refine x_lcmp ?_
      refine y_if_lt (fun h4 => ?_) (fun h4 => ?_)
      · replace h := of_pos h h4
        refine jWP.intro (pr := pX11_sayingsBy) (pc := 105) ?_
        obtain ⟨g5, h⟩ := of_guard h
        obtain ⟨g6, h⟩ := of_guard h
        obtain ⟨g7, h⟩ := of_guard h
        obtain ⟨r8, hc9, h⟩ := of_bind h
        show bX11_sayingsBy_105 _ _ _ _
        unfold bX11_sayingsBy_105
        refine y_mask ?_
        refine x_push ?_
        refine x_iload rfl ?_
        refine x_imul ?_
        refine x_lload rfl ?_
        refine x_l2i ?_
        refine x_iadd ?_
        refine x_istore rfl ?_
        refine x_aload rfl ?_
        refine x_aload rfl ?_
        refine x_getR (Nat.le_of_ble_eq_true rfl) rfl rfl ?_
        refine x_iload rfl ?_
        refine x_iald rfl g5 ?_
        refine x_aload rfl ?_
        refine x_getR (Nat.le_of_ble_eq_true rfl) rfl rfl ?_
        refine x_iload rfl ?_
        refine x_push ?_
        refine x_iadd ?_
        refine x_iald rfl g6 ?_
        refine x_aload rfl ?_
        refine x_getR (Nat.le_of_ble_eq_true rfl) rfl rfl ?_
        refine x_iload rfl ?_
        refine x_push ?_
        refine x_iadd ?_
        refine x_iald rfl g7 ?_
        refine y_invV3 (Nat.le_of_ble_eq_true rfl) rfl (Nat.le_of_ble_eq_true rfl) ?_
        refine jEv.exI (kX11_say _ _ _ _ _ _ _ hc9) ?_
        refine y_if_lt (fun h10 => ?_) (fun h10 => ?_)
        · replace h := of_pos h h10
          refine jWP.intro (pr := pX11_sayingsBy) (pc := 150) ?_
          refine y_mask <| x_iinc rfl rfl <| y_mask <| y_goto ?_
          refine jWP.intro (pr := pX11_sayingsBy) (pc := 61) ?_
          have hk := k1 _ (Option.some.inj h).symm
          exact hk
        · replace h := of_neg h h10
          refine jWP.intro (pr := pX11_sayingsBy) (pc := 147) ?_
          refine y_mask <| x_iinc rfl rfl <| y_mask <| y_goto ?_
          refine jWP.intro (pr := pX11_sayingsBy) (pc := 150) ?_
          refine y_mask <| x_iinc rfl rfl <| y_mask <| y_goto ?_
          refine jWP.intro (pr := pX11_sayingsBy) (pc := 61) ?_
          have hk := k1 _ (Option.some.inj h).symm
          exact hk
      · replace h := of_neg h h4
        refine jWP.intro (pr := pX11_sayingsBy) (pc := 102) ?_
        refine y_mpri (bs := []) (ls := []) ?_
        have hk := k3 _ (Option.some.inj h).symm
        exact hk
set_option maxRecDepth 20000 in
theorem tfX11_sayingsBy (d n : Nat) (A : Nat → Nat → Int32) (L : Nat → Nat → Int64) (l1 : Int32) (l2 : Int32) (l3 : Int32) (l4 : Int32) {Q : Option Value → jM → Prop} {z : (Int32 × (Nat → Nat → Int32))} (h : fX11_sayingsBy A l1 l2 l3 l4 = some z) (k3 : Q (some (.int z.1)) (Sh0 n, z.2, L)) : pX11_sayingsBy (jEv jtab (d + 2), jWP (jEv jtab (d + 2)) Q ((Sh0 n).length, jsl (Sh0 n)) pX11_sayingsBy, Q, ((Sh0 n).length, jsl (Sh0 n))) 0 [some (.ref 94), some (.int l1), some (.int l2), some (.int l3), some (.int l4), none, none, none, none, none] [] (Sh0 n, A, L) := by
  unfold fX11_sayingsBy at h
  refine y_mask <| x_iload rfl <| y_invS1 (Nat.le_of_ble_eq_true rfl) <| jEv.exZ (q := 254) rfl (kX11_isSheet _ _ _ _ _) <| fun hz1 => y_if_eq (fun h2 => ?_) (fun h2 => ?_)
  · replace h := of_pos h h2
    refine jWP.intro (pr := pX11_sayingsBy) (pc := 27) ?_
    refine y_mpri (bs := []) (ls := []) ?_
    obtain rfl := Option.some.inj h
    exact k3
  · replace h := of_neg h h2
    refine jWP.intro (pr := pX11_sayingsBy) (pc := 7) ?_
    refine y_mask <| x_iload rfl <| x_push <| x_push <| y_invS3 (Nat.le_of_ble_eq_true rfl) <| jEv.exZ (q := 159) rfl (kX11_in _ _ _ _ _ _ _) <| fun hz3 => y_if_eq (fun h4 => ?_) (fun h4 => ?_)
    · replace h := of_pos h h4
      refine jWP.intro (pr := pX11_sayingsBy) (pc := 27) ?_
      refine y_mpri (bs := []) (ls := []) ?_
      obtain rfl := Option.some.inj h
      exact k3
    · replace h := of_neg h h4
      refine jWP.intro (pr := pX11_sayingsBy) (pc := 16) ?_
      refine y_mask <| x_iload rfl <| x_push <| x_push <| y_invS3 (Nat.le_of_ble_eq_true rfl) <| jEv.exZ (q := 159) rfl (kX11_in _ _ _ _ _ _ _) <| fun hz5 => y_if_ne (fun h6 => ?_) (fun h6 => ?_)
      · replace h := of_neg h h6
        refine jWP.intro (pr := pX11_sayingsBy) (pc := 30) ?_
        obtain ⟨g7, h⟩ := of_guard h
        refine y_mask <| x_aload rfl <| x_getR (Nat.le_of_ble_eq_true rfl) rfl rfl <| x_iload rfl <| x_iald rfl g7 <| y_if_ge (fun h8 => ?_) (fun h8 => ?_)
        · replace h := of_pos h h8
          refine jWP.intro (pr := pX11_sayingsBy) (pc := 42) ?_
          obtain ⟨g9, h⟩ := of_guard h
          refine y_mask <| x_aload rfl <| x_getR (Nat.le_of_ble_eq_true rfl) rfl rfl <| x_iload rfl <| x_iald rfl g9 <| x_iload rfl <| y_cmp_eq (fun h10 => ?_) (fun h10 => ?_)
          · replace h := of_pos h h10
            refine jWP.intro (pr := pX11_sayingsBy) (pc := 55) ?_
            refine y_mask <| x_push <| x_istore rfl <| x_push <| x_istore rfl <| y_mask <| y_goto ?_
            obtain ⟨e11y, hw12, h⟩ := of_bind h
            refine jWP.intro (pr := pX11_sayingsBy) (pc := 61) ?_
            refine jwh_use2 (G := (fun s0 => pX11_sayingsBy (jEv jtab (d + 2), jWP (jEv jtab (d + 2)) Q ((Sh0 n).length, jsl (Sh0 n)) pX11_sayingsBy, Q, ((Sh0 n).length, jsl (Sh0 n))) 61 [some (.ref 94), some (.int l1), none, some (.int l3), some (.int l4), some (.int s0.1), some (.int s0.2.1), none, none, none] [] (Sh0 n, s0.2.2, L))) (Gx := (fun s0 => pX11_sayingsBy (jEv jtab (d + 2), jWP (jEv jtab (d + 2)) Q ((Sh0 n).length, jsl (Sh0 n)) pX11_sayingsBy, Q, ((Sh0 n).length, jsl (Sh0 n))) 156 [none, none, none, none, none, some (.int s0.1), none, none, none, none] [] (Sh0 n, s0.2, L))) (Gr := (fun s0 => Q (some (.int s0.1)) (Sh0 n, s0.2, L))) (fun s1 z1 hz kk1 kk2 kk3 => tcX11_sayingsBy_61 d n A L l1 l3 l4 s1 hz kk1 kk2 kk3) hw12 ?_ ?_
            · intro e11 hy
              subst hy
              replace h : (some (e11.1, e11.2)) = some z := h
              refine y_mask <| x_iload rfl <| y_ireturn (ls := [none, none, none, none, none, some (.int e11.1), none, none, none, none]) ?_
              obtain rfl := Option.some.inj h
              exact k3
            · intro s0 hy
              subst hy
              replace h : some s0 = some z := h
              obtain rfl := Option.some.inj h
              exact k3
          · replace h := of_neg h h10
            refine jWP.intro (pr := pX11_sayingsBy) (pc := 52) ?_
            refine y_mpri (bs := []) (ls := []) ?_
            obtain rfl := Option.some.inj h
            exact k3
        · replace h := of_neg h h8
          refine jWP.intro (pr := pX11_sayingsBy) (pc := 39) ?_
          refine y_mpri (bs := []) (ls := []) ?_
          obtain rfl := Option.some.inj h
          exact k3
      · replace h := of_pos h h6
        refine jWP.intro (pr := pX11_sayingsBy) (pc := 27) ?_
        refine y_mpri (bs := []) (ls := []) ?_
        obtain rfl := Option.some.inj h
        exact k3
theorem kX11_sayingsBy (d n : Nat) (A : Nat → Nat → Int32) (L : Nat → Nat → Int64) (l1 : Int32) (l2 : Int32) (l3 : Int32) (l4 : Int32) {z : (Int32 × (Nat → Nat → Int32))} (h : fX11_sayingsBy A l1 l2 l3 l4 = some z) : jEv jtab (d + 3) 258 [.ref 94, .int l1, .int l2, .int l3, .int l4] (Sh0 n, A, L) 0 0 (fun r M2 => r = some (.int z.1) ∧ M2 = (Sh0 n, z.2, L)) :=
  jEv.mk (mt := mX11_sayingsBy) rfl (Nat.le_of_ble_eq_true rfl) (jWP.intro (pr := pX11_sayingsBy) (pc := 0) (tfX11_sayingsBy d n A L l1 l2 l3 l4 h ⟨trivial, jCn.mk ⟨rfl, rfl⟩⟩))
