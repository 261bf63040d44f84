/-! THE LAW: cases -/
theorem lg_same {a b : Int64} (h : a = b) : lg_cmp a b = 0 := by
  subst h
  unfold lg_cmp
  rw [if_neg (by simp), if_pos rfl]
set_option maxRecDepth 20000 in
theorem law_224 {n i : Nat} {A : jA3} {L : jL3} (hn : n ≤ 3584) (hi : i + 7 ≤ n) (h : Rel A A) (next : ∀ A2 L2, Rel A2 A2 → WL n 1815 i A2 L2) : WL n 224 i A L := by
  have v1 : vp_in (nI i + 1) n := vi (lit_n 1) (by omega) hn
  have v2 : vp_in (nI i + 2) n := vi (lit_n 2) (by omega) hn
  obtain ⟨x, y, e1, e2, e3, e4, e5⟩ := pair_mut (fv := fun z => z.1) (gv := fun z => z.1) (f := fX10_set A (A 0 (jx (nI i + 1))) (A 0 (jx (nI i + 2)))) (g := fun C => fX11_set C (A 0 (jx (nI i + 1))) (A 0 (jx (nI i + 2)))) (fun z => z.2) (fun _ z => z.2) h (fun C hC => m_set hC (A 0 (jx (nI i + 1))) (A 0 (jx (nI i + 2)))) (fun z e => (w_fX10_set e).wd rfl) (fun C z e => (w_fX11_set e).wd rfl)
  have e3 : x.1 = y.1 := e3
  have e4 : Rel y.2 y.2 := e4
  have k1 := kX10_set 998 n A L (A 0 (jx (nI i + 1))) (A 0 (jx (nI i + 2))) e1
  have e5 : x.2 0 = A 0 := e5
  have k2 : jEv jtab 1000 164 [.ref 94, .int (x.2 0 (jx (nI i + 1))), .int (x.2 0 (jx (nI i + 2)))] (Sh0 n, x.2, L) 0 0 (fun r M2 => r = some (.int y.1) ∧ M2 = (Sh0 n, y.2, L)) := by
    rw [e5]
    exact kX11_set 997 n x.2 L (A 0 (jx (nI i + 1))) (A 0 (jx (nI i + 2))) e2
  refine jWP.intro (pr := pL_law) (pc := 224) ?_
  refine y_mask <| x_aload rfl <| x_aload rfl <| x_iload rfl <| x_push <| x_iadd <| x_iald rfl v1 <| x_aload rfl <| x_iload rfl <| x_push <| x_iadd <| x_iald rfl v2 <| y_invV2 (Nat.le_of_ble_eq_true rfl) rfl (Nat.le_of_ble_eq_true rfl) <| jEv.exI k1 <| x_aload rfl <| x_aload rfl <| x_iload rfl <| x_push <| x_iadd <| x_iald rfl v1 <| x_aload rfl <| x_iload rfl <| x_push <| x_iadd <| x_iald rfl v2 <| y_invV2 (Nat.le_of_ble_eq_true rfl) rfl (Nat.le_of_ble_eq_true rfl) <| jEv.exI k2 <| y_cmp_eq (fun _ => ?_) (fun q => absurd e3 q)
  exact next y.2 L e4
set_option maxRecDepth 20000 in
theorem law_257 {n i : Nat} {A : jA3} {L : jL3} (hn : n ≤ 3584) (hi : i + 7 ≤ n) (h : Rel A A) (next : ∀ A2 L2, Rel A2 A2 → WL n 1815 i A2 L2) : WL n 257 i A L := by
  have v1 : vp_in (nI i + 1) n := vi (lit_n 1) (by omega) hn
  have v2 : vp_in (nI i + 2) n := vi (lit_n 2) (by omega) hn
  obtain ⟨x, y, e1, e2, e3, e4, e5⟩ := pair_mut (fv := fun z => z.1) (gv := fun z => z.1) (f := fX10_want A (A 0 (jx (nI i + 1))) (A 0 (jx (nI i + 2)))) (g := fun C => fX11_want C (A 0 (jx (nI i + 1))) (A 0 (jx (nI i + 2)))) (fun z => z.2) (fun _ z => z.2) h (fun C hC => m_want hC (A 0 (jx (nI i + 1))) (A 0 (jx (nI i + 2)))) (fun z e => (w_fX10_want e).wd rfl) (fun C z e => (w_fX11_want e).wd rfl)
  have e3 : x.1 = y.1 := e3
  have e4 : Rel y.2 y.2 := e4
  have k1 := kX10_want 998 n A L (A 0 (jx (nI i + 1))) (A 0 (jx (nI i + 2))) e1
  have e5 : x.2 0 = A 0 := e5
  have k2 : jEv jtab 1000 165 [.ref 94, .int (x.2 0 (jx (nI i + 1))), .int (x.2 0 (jx (nI i + 2)))] (Sh0 n, x.2, L) 0 0 (fun r M2 => r = some (.int y.1) ∧ M2 = (Sh0 n, y.2, L)) := by
    rw [e5]
    exact kX11_want 998 n x.2 L (A 0 (jx (nI i + 1))) (A 0 (jx (nI i + 2))) e2
  refine jWP.intro (pr := pL_law) (pc := 257) ?_
  refine y_mask <| x_aload rfl <| x_aload rfl <| x_iload rfl <| x_push <| x_iadd <| x_iald rfl v1 <| x_aload rfl <| x_iload rfl <| x_push <| x_iadd <| x_iald rfl v2 <| y_invV2 (Nat.le_of_ble_eq_true rfl) rfl (Nat.le_of_ble_eq_true rfl) <| jEv.exI k1 <| x_aload rfl <| x_aload rfl <| x_iload rfl <| x_push <| x_iadd <| x_iald rfl v1 <| x_aload rfl <| x_iload rfl <| x_push <| x_iadd <| x_iald rfl v2 <| y_invV2 (Nat.le_of_ble_eq_true rfl) rfl (Nat.le_of_ble_eq_true rfl) <| jEv.exI k2 <| y_cmp_eq (fun _ => ?_) (fun q => absurd e3 q)
  exact next y.2 L e4
set_option maxRecDepth 20000 in
theorem law_290 {n i : Nat} {A : jA3} {L : jL3} (hn : n ≤ 3584) (hi : i + 7 ≤ n) (h : Rel A A) (next : ∀ A2 L2, Rel A2 A2 → WL n 1815 i A2 L2) : WL n 290 i A L := by
  have v1 : vp_in (nI i + 1) n := vi (lit_n 1) (by omega) hn
  obtain ⟨x, y, e1, e2, e3, e4, e5⟩ := pair_scr (fv := fun z => z) (gv := fun z => z) (f := fX10_count A (A 0 (jx (nI i + 1)))) (g := fun C => fX11_count C (A 0 (jx (nI i + 1)))) (fun _ => A) (fun C _ => C) h (fun C hC => m_count hC (A 0 (jx (nI i + 1)))) (fun _ _ => Fr.rf) (fun _ _ _ => Fr.rf)
  have e3 : x = y := e3
  have e4 : Rel A A := e4
  have k1 := kX10_count 998 n A L (A 0 (jx (nI i + 1))) e1
  have k2 := kX11_count 998 n A L (A 0 (jx (nI i + 1))) e2
  refine jWP.intro (pr := pL_law) (pc := 290) ?_
  refine y_mask <| x_aload rfl <| x_aload rfl <| x_iload rfl <| x_push <| x_iadd <| x_iald rfl v1 <| y_invV1 (Nat.le_of_ble_eq_true rfl) rfl (Nat.le_of_ble_eq_true rfl) <| jEv.exI k1 <| x_aload rfl <| x_aload rfl <| x_iload rfl <| x_push <| x_iadd <| x_iald rfl v1 <| y_invV1 (Nat.le_of_ble_eq_true rfl) rfl (Nat.le_of_ble_eq_true rfl) <| jEv.exI k2 <| y_cmp_eq (fun _ => ?_) (fun q => absurd e3 q)
  exact next A L e4
set_option maxRecDepth 20000 in
theorem law_313 {n i : Nat} {A : jA3} {L : jL3} (hn : n ≤ 3584) (hi : i + 7 ≤ n) (h : Rel A A) (next : ∀ A2 L2, Rel A2 A2 → WL n 1815 i A2 L2) : WL n 313 i A L := by
  have v1 : vp_in (nI i + 1) n := vi (lit_n 1) (by omega) hn
  have k1 := kX10_pass 997 n A L (A 0 (jx (nI i + 1)))
  have k2 := kX11_pass 997 n A L (A 0 (jx (nI i + 1)))
  have e3 := m_pass h (A 0 (jx (nI i + 1)))
  refine jWP.intro (pr := pL_law) (pc := 313) ?_
  refine y_mask <| x_aload rfl <| x_aload rfl <| x_iload rfl <| x_push <| x_iadd <| x_iald rfl v1 <| y_invV1 (Nat.le_of_ble_eq_true rfl) rfl (Nat.le_of_ble_eq_true rfl) <| jEv.exI k1 <| x_aload rfl <| x_aload rfl <| x_iload rfl <| x_push <| x_iadd <| x_iald rfl v1 <| y_invV1 (Nat.le_of_ble_eq_true rfl) rfl (Nat.le_of_ble_eq_true rfl) <| jEv.exI k2 <| y_cmp_eq (fun _ => ?_) (fun q => absurd e3 q)
  exact next A L h
set_option maxRecDepth 20000 in
theorem law_336 {n i : Nat} {A : jA3} {L : jL3} (hn : n ≤ 3584) (hi : i + 7 ≤ n) (h : Rel A A) (next : ∀ A2 L2, Rel A2 A2 → WL n 1815 i A2 L2) : WL n 336 i A L := by
  have v1 : vp_in (nI i + 1) n := vi (lit_n 1) (by omega) hn
  have v2 : vp_in (nI i + 2) n := vi (lit_n 2) (by omega) hn
  have v3 : vp_in (nI i + 3) n := vi (lit_n 3) (by omega) hn
  obtain ⟨x, y, e1, e2, e3, e4, e5⟩ := pair_mut (fv := fun z => z.1) (gv := fun z => z.1) (f := fX10_feed A (((A 0 (jx (nI i + 1))).toInt64 <<< ((32 : Int32).toInt64 &&& 63)) ||| ((A 0 (jx (nI i + 2))).toInt64 &&& 4294967295)) (A 0 (jx (nI i + 3)))) (g := fun C => fX11_feed C (((A 0 (jx (nI i + 1))).toInt64 <<< ((32 : Int32).toInt64 &&& 63)) ||| ((A 0 (jx (nI i + 2))).toInt64 &&& 4294967295)) (A 0 (jx (nI i + 3)))) (fun z => z.2) (fun _ z => z.2) h (fun C hC => m_feed hC (((A 0 (jx (nI i + 1))).toInt64 <<< ((32 : Int32).toInt64 &&& 63)) ||| ((A 0 (jx (nI i + 2))).toInt64 &&& 4294967295)) (A 0 (jx (nI i + 3)))) (fun z e => (w_fX10_feed e).wd rfl) (fun C z e => (w_fX11_feed e).wd rfl)
  have e3 : x.1 = y.1 := e3
  have e4 : Rel y.2 y.2 := e4
  have k1 := kX10_feed 998 n A L (((A 0 (jx (nI i + 1))).toInt64 <<< ((32 : Int32).toInt64 &&& 63)) ||| ((A 0 (jx (nI i + 2))).toInt64 &&& 4294967295)) (A 0 (jx (nI i + 3))) e1
  have e5 : x.2 0 = A 0 := e5
  have k2 : jEv jtab 1000 170 [.ref 94, .long (((x.2 0 (jx (nI i + 1))).toInt64 <<< ((32 : Int32).toInt64 &&& 63)) ||| ((x.2 0 (jx (nI i + 2))).toInt64 &&& 4294967295)), .int (x.2 0 (jx (nI i + 3)))] (Sh0 n, x.2, L) 0 0 (fun r M2 => r = some (.int y.1) ∧ M2 = (Sh0 n, y.2, L)) := by
    rw [e5]
    exact kX11_feed 998 n x.2 L (((A 0 (jx (nI i + 1))).toInt64 <<< ((32 : Int32).toInt64 &&& 63)) ||| ((A 0 (jx (nI i + 2))).toInt64 &&& 4294967295)) (A 0 (jx (nI i + 3))) e2
  refine jWP.intro (pr := pL_law) (pc := 336) ?_
  refine y_mask <| x_aload rfl <| x_aload rfl <| x_iload rfl <| x_push <| x_iadd <| x_iald rfl v1 <| x_i2l <| x_push <| x_lshl <| x_aload rfl <| x_iload rfl <| x_push <| x_iadd <| x_iald rfl v2 <| x_i2l <| x_push <| x_land <| x_lor <| x_aload rfl <| x_iload rfl <| x_push <| x_iadd <| x_iald rfl v3 <| y_invV2 (Nat.le_of_ble_eq_true rfl) rfl (Nat.le_of_ble_eq_true rfl) <| jEv.exI k1 <| x_aload rfl <| x_aload rfl <| x_iload rfl <| x_push <| x_iadd <| x_iald rfl v1 <| x_i2l <| x_push <| x_lshl <| x_aload rfl <| x_iload rfl <| x_push <| x_iadd <| x_iald rfl v2 <| x_i2l <| x_push <| y_mask <| y_goto ?_
  refine jWP.intro (pr := pL_law) (pc := 384) ?_
  refine y_mask <| x_land <| x_lor <| x_aload rfl <| x_iload rfl <| x_push <| x_iadd <| x_iald rfl v3 <| y_invV2 (Nat.le_of_ble_eq_true rfl) rfl (Nat.le_of_ble_eq_true rfl) <| jEv.exI k2 <| y_cmp_eq (fun _ => ?_) (fun q => absurd e3 q)
  exact next y.2 L e4
set_option maxRecDepth 20000 in
theorem law_399 {n i : Nat} {A : jA3} {L : jL3} (hn : n ≤ 3584) (hi : i + 7 ≤ n) (h : Rel A A) (next : ∀ A2 L2, Rel A2 A2 → WL n 1815 i A2 L2) : WL n 399 i A L := by
  obtain ⟨x, y, e1, e2, e3, e4, e5⟩ := pair_mut (fv := fun z => z.1) (gv := fun z => z.1) (f := fX10_text A) (g := fun C => fX11_text C) (fun z => z.2) (fun _ z => z.2) h (fun C hC => (m_text hC).mono fun _ _ q => ⟨q.1, q.2.1⟩) (fun z e => by obtain ⟨a, b, e1, -, q⟩ := m_text h; rw [e] at e1; obtain rfl := Option.some.inj e1; exact q.2.2.wd rfl) (fun C z e => (w_fX11_text e).wd rfl)
  have e3 : x.1 = y.1 := e3
  have e4 : Rel y.2 y.2 := e4
  have k1 := kX10_text 486 n A L  e1
  have k2 := kX11_text 486 n x.2 L  e2
  refine jWP.intro (pr := pL_law) (pc := 399) ?_
  refine y_mask <| x_aload rfl <| y_invV0 (Nat.le_of_ble_eq_true rfl) rfl (Nat.le_of_ble_eq_true rfl) <| jEv.exI k1 <| x_aload rfl <| y_invV0 (Nat.le_of_ble_eq_true rfl) rfl (Nat.le_of_ble_eq_true rfl) <| jEv.exI k2 <| y_cmp_eq (fun _ => ?_) (fun q => absurd e3 q)
  exact next y.2 L e4
set_option maxRecDepth 20000 in
theorem law_412 {n i : Nat} {A : jA3} {L : jL3} (hn : n ≤ 3584) (hi : i + 7 ≤ n) (h : Rel A A) (next : ∀ A2 L2, Rel A2 A2 → WL n 1815 i A2 L2) : WL n 412 i A L := by
  have v1 : vp_in (nI i + 1) n := vi (lit_n 1) (by omega) hn
  obtain ⟨x, y, e1, e2, e3, e4, e5⟩ := pair_mut (fv := fun z => z.1) (gv := fun z => z.1) (f := fX10_force A (A 0 (jx (nI i + 1)))) (g := fun C => fX11_force C (A 0 (jx (nI i + 1)))) (fun z => z.2) (fun _ z => z.2) h (fun C hC => m_force hC (A 0 (jx (nI i + 1)))) (fun z e => (w_fX10_force e).wd rfl) (fun C z e => (w_fX11_force e).wd rfl)
  have e3 : x.1 = y.1 := e3
  have e4 : Rel y.2 y.2 := e4
  have k1 := kX10_force 998 n A L (A 0 (jx (nI i + 1))) e1
  have e5 : x.2 0 = A 0 := e5
  have k2 : jEv jtab 1000 188 [.ref 94, .int (x.2 0 (jx (nI i + 1)))] (Sh0 n, x.2, L) 0 0 (fun r M2 => r = some (.int y.1) ∧ M2 = (Sh0 n, y.2, L)) := by
    rw [e5]
    exact kX11_force 998 n x.2 L (A 0 (jx (nI i + 1))) e2
  refine jWP.intro (pr := pL_law) (pc := 412) ?_
  refine y_mask <| x_aload rfl <| x_aload rfl <| x_iload rfl <| x_push <| x_iadd <| x_iald rfl v1 <| y_invV1 (Nat.le_of_ble_eq_true rfl) rfl (Nat.le_of_ble_eq_true rfl) <| jEv.exI k1 <| x_aload rfl <| x_aload rfl <| x_iload rfl <| x_push <| x_iadd <| x_iald rfl v1 <| y_invV1 (Nat.le_of_ble_eq_true rfl) rfl (Nat.le_of_ble_eq_true rfl) <| jEv.exI k2 <| y_cmp_eq (fun _ => ?_) (fun q => absurd e3 q)
  exact next y.2 L e4
set_option maxRecDepth 20000 in
theorem law_435 {n i : Nat} {A : jA3} {L : jL3} (hn : n ≤ 3584) (hi : i + 7 ≤ n) (h : Rel A A) (next : ∀ A2 L2, Rel A2 A2 → WL n 1815 i A2 L2) : WL n 435 i A L := by
  have v1 : vp_in (nI i + 1) n := vi (lit_n 1) (by omega) hn
  have v2 : vp_in (nI i + 2) n := vi (lit_n 2) (by omega) hn
  have v3 : vp_in (nI i + 3) n := vi (lit_n 3) (by omega) hn
  obtain ⟨x, y, e1, e2, e3, e4, e5⟩ := pair_scr (fv := fun z => z.1) (gv := fun z => z.1) (f := fX10_asks A (A 0 (jx (nI i + 1))) (A 0 (jx (nI i + 2))) (A 0 (jx (nI i + 3)))) (g := fun C => fX11_asks C (A 0 (jx (nI i + 1))) (A 0 (jx (nI i + 2))) (A 0 (jx (nI i + 3)))) (fun z => z.2) (fun _ z => z.2) h (fun C hC => m_asks hC (A 0 (jx (nI i + 1))) (A 0 (jx (nI i + 2))) (A 0 (jx (nI i + 3)))) (fun z e => (w_fX10_asks e).wd rfl) (fun C z e => (w_fX11_asks e).wd rfl)
  have e3 : x.1 = y.1 := e3
  have e4 : Rel y.2 y.2 := e4
  have k1 := kX10_asks 996 n A L (A 0 (jx (nI i + 1))) (A 0 (jx (nI i + 2))) (A 0 (jx (nI i + 3))) e1
  have e5 : x.2 0 = A 0 := e5
  have k2 : jEv jtab 1000 192 [.ref 94, .int (x.2 0 (jx (nI i + 1))), .int (x.2 0 (jx (nI i + 2))), .int (x.2 0 (jx (nI i + 3)))] (Sh0 n, x.2, L) 0 0 (fun r M2 => r = some (.int y.1) ∧ M2 = (Sh0 n, y.2, L)) := by
    rw [e5]
    exact kX11_asks 996 n x.2 L (A 0 (jx (nI i + 1))) (A 0 (jx (nI i + 2))) (A 0 (jx (nI i + 3))) e2
  refine jWP.intro (pr := pL_law) (pc := 435) ?_
  refine y_mask <| x_aload rfl <| x_aload rfl <| x_iload rfl <| x_push <| x_iadd <| x_iald rfl v1 <| x_aload rfl <| x_iload rfl <| x_push <| x_iadd <| x_iald rfl v2 <| x_aload rfl <| x_iload rfl <| x_push <| x_iadd <| x_iald rfl v3 <| y_invV3 (Nat.le_of_ble_eq_true rfl) rfl (Nat.le_of_ble_eq_true rfl) <| jEv.exI k1 <| x_aload rfl <| x_aload rfl <| x_iload rfl <| x_push <| x_iadd <| x_iald rfl v1 <| x_aload rfl <| x_iload rfl <| x_push <| x_iadd <| x_iald rfl v2 <| x_aload rfl <| x_iload rfl <| x_push <| x_iadd <| x_iald rfl v3 <| y_invV3 (Nat.le_of_ble_eq_true rfl) rfl (Nat.le_of_ble_eq_true rfl) <| jEv.exI k2 <| y_cmp_eq (fun _ => ?_) (fun q => absurd e3 q)
  exact next y.2 L e4
set_option maxRecDepth 20000 in
theorem law_478 {n i : Nat} {A : jA3} {L : jL3} (hn : n ≤ 3584) (hi : i + 7 ≤ n) (h : Rel A A) (next : ∀ A2 L2, Rel A2 A2 → WL n 1815 i A2 L2) : WL n 478 i A L := by
  have v1 : vp_in (nI i + 1) n := vi (lit_n 1) (by omega) hn
  have v2 : vp_in (nI i + 2) n := vi (lit_n 2) (by omega) hn
  have v3 : vp_in (nI i + 3) n := vi (lit_n 3) (by omega) hn
  obtain ⟨x, y, e1, e2, e3, e4, e5⟩ := pair_mut (fv := fun z => z.1) (gv := fun z => z.1) (f := fX10_say A (A 0 (jx (nI i + 1))) (A 0 (jx (nI i + 2))) (A 0 (jx (nI i + 3)))) (g := fun C => fX11_say C (A 0 (jx (nI i + 1))) (A 0 (jx (nI i + 2))) (A 0 (jx (nI i + 3)))) (fun z => z.2) (fun _ z => z.2) h (fun C hC => m_say hC (A 0 (jx (nI i + 1))) (A 0 (jx (nI i + 2))) (A 0 (jx (nI i + 3)))) (fun z e => (w_fX10_say e).wd rfl) (fun C z e => (w_fX11_say e).wd rfl)
  have e3 : x.1 = y.1 := e3
  have e4 : Rel y.2 y.2 := e4
  have k1 := kX10_say 998 n A L (A 0 (jx (nI i + 1))) (A 0 (jx (nI i + 2))) (A 0 (jx (nI i + 3))) e1
  have e5 : x.2 0 = A 0 := e5
  have k2 : jEv jtab 1000 194 [.ref 94, .int (x.2 0 (jx (nI i + 1))), .int (x.2 0 (jx (nI i + 2))), .int (x.2 0 (jx (nI i + 3)))] (Sh0 n, x.2, L) 0 0 (fun r M2 => r = some (.int y.1) ∧ M2 = (Sh0 n, y.2, L)) := by
    rw [e5]
    exact kX11_say 998 n x.2 L (A 0 (jx (nI i + 1))) (A 0 (jx (nI i + 2))) (A 0 (jx (nI i + 3))) e2
  refine jWP.intro (pr := pL_law) (pc := 478) ?_
  refine y_mask <| x_aload rfl <| x_aload rfl <| x_iload rfl <| x_push <| x_iadd <| x_iald rfl v1 <| x_aload rfl <| x_iload rfl <| x_push <| x_iadd <| x_iald rfl v2 <| x_aload rfl <| x_iload rfl <| x_push <| x_iadd <| x_iald rfl v3 <| y_invV3 (Nat.le_of_ble_eq_true rfl) rfl (Nat.le_of_ble_eq_true rfl) <| jEv.exI k1 <| x_aload rfl <| x_aload rfl <| x_iload rfl <| x_push <| x_iadd <| x_iald rfl v1 <| x_aload rfl <| x_iload rfl <| x_push <| x_iadd <| x_iald rfl v2 <| x_aload rfl <| x_iload rfl <| x_push <| x_iadd <| x_iald rfl v3 <| y_invV3 (Nat.le_of_ble_eq_true rfl) rfl (Nat.le_of_ble_eq_true rfl) <| jEv.exI k2 <| y_cmp_eq (fun _ => ?_) (fun q => absurd e3 q)
  exact next y.2 L e4
set_option maxRecDepth 20000 in
theorem law_521 {n i : Nat} {A : jA3} {L : jL3} (hn : n ≤ 3584) (hi : i + 7 ≤ n) (h : Rel A A) (next : ∀ A2 L2, Rel A2 A2 → WL n 1815 i A2 L2) : WL n 521 i A L := by
  have v1 : vp_in (nI i + 1) n := vi (lit_n 1) (by omega) hn
  have v2 : vp_in (nI i + 2) n := vi (lit_n 2) (by omega) hn
  have v3 : vp_in (nI i + 3) n := vi (lit_n 3) (by omega) hn
  obtain ⟨x, y, e1, e2, e3, e4, e5⟩ := pair_scr (fv := fun z => z.1) (gv := fun z => z.1) (f := fX10_told A (A 0 (jx (nI i + 1))) (A 0 (jx (nI i + 2))) (A 0 (jx (nI i + 3)))) (g := fun C => fX11_told C (A 0 (jx (nI i + 1))) (A 0 (jx (nI i + 2))) (A 0 (jx (nI i + 3)))) (fun z => z.2) (fun _ z => z.2) h (fun C hC => m_told hC (A 0 (jx (nI i + 1))) (A 0 (jx (nI i + 2))) (A 0 (jx (nI i + 3)))) (fun z e => (w_fX10_told e).wd rfl) (fun C z e => (w_fX11_told e).wd rfl)
  have e3 : x.1 = y.1 := e3
  have e4 : Rel y.2 y.2 := e4
  have k1 := kX10_told 995 n A L (A 0 (jx (nI i + 1))) (A 0 (jx (nI i + 2))) (A 0 (jx (nI i + 3))) e1
  have e5 : x.2 0 = A 0 := e5
  have k2 : jEv jtab 1000 198 [.ref 94, .int (x.2 0 (jx (nI i + 1))), .int (x.2 0 (jx (nI i + 2))), .int (x.2 0 (jx (nI i + 3)))] (Sh0 n, x.2, L) 0 0 (fun r M2 => r = some (.int y.1) ∧ M2 = (Sh0 n, y.2, L)) := by
    rw [e5]
    exact kX11_told 995 n x.2 L (A 0 (jx (nI i + 1))) (A 0 (jx (nI i + 2))) (A 0 (jx (nI i + 3))) e2
  refine jWP.intro (pr := pL_law) (pc := 521) ?_
  refine y_mask <| x_aload rfl <| x_aload rfl <| x_iload rfl <| x_push <| x_iadd <| x_iald rfl v1 <| x_aload rfl <| x_iload rfl <| x_push <| x_iadd <| x_iald rfl v2 <| x_aload rfl <| x_iload rfl <| x_push <| x_iadd <| x_iald rfl v3 <| y_invV3 (Nat.le_of_ble_eq_true rfl) rfl (Nat.le_of_ble_eq_true rfl) <| jEv.exI k1 <| x_aload rfl <| x_aload rfl <| x_iload rfl <| x_push <| x_iadd <| x_iald rfl v1 <| x_aload rfl <| x_iload rfl <| x_push <| x_iadd <| x_iald rfl v2 <| x_aload rfl <| x_iload rfl <| x_push <| x_iadd <| x_iald rfl v3 <| y_invV3 (Nat.le_of_ble_eq_true rfl) rfl (Nat.le_of_ble_eq_true rfl) <| jEv.exI k2 <| y_cmp_eq (fun _ => ?_) (fun q => absurd e3 q)
  exact next y.2 L e4
set_option maxRecDepth 20000 in
theorem law_564 {n i : Nat} {A : jA3} {L : jL3} (hn : n ≤ 3584) (hi : i + 7 ≤ n) (h : Rel A A) (next : ∀ A2 L2, Rel A2 A2 → WL n 1815 i A2 L2) : WL n 564 i A L := by
  have v1 : vp_in (nI i + 1) n := vi (lit_n 1) (by omega) hn
  obtain ⟨x, y, e1, e2, e3, e4, e5⟩ := pair_scr (fv := fun z => z.1) (gv := fun z => z.1) (f := fX10_run A (A 0 (jx (nI i + 1)))) (g := fun C => fX11_run C L (A 0 (jx (nI i + 1)))) (fun z => z.2) (fun _ z => z.2.1) h (fun C hC => m_run hC (A 0 (jx (nI i + 1)))) (fun z e => (w_fX10_run e).wd rfl) (fun C z e => (w_fX11_run e).wd rfl)
  have e3 : x.1 = y.1 := e3
  have e4 : Rel y.2.1 y.2.1 := e4
  have k1 := kX10_run 993 n A L (A 0 (jx (nI i + 1))) e1
  have e5 : x.2 0 = A 0 := e5
  have k2 : jEv jtab 1000 202 [.ref 94, .int (x.2 0 (jx (nI i + 1)))] (Sh0 n, x.2, L) 0 0 (fun r M2 => r = some (.long y.1) ∧ M2 = (Sh0 n, y.2.1, y.2.2)) := by
    rw [e5]
    exact kX11_run 993 n x.2 L (A 0 (jx (nI i + 1))) e2
  refine jWP.intro (pr := pL_law) (pc := 564) ?_
  refine y_mask <| x_aload rfl <| x_aload rfl <| x_iload rfl <| x_push <| x_iadd <| x_iald rfl v1 <| y_invV1 (Nat.le_of_ble_eq_true rfl) rfl (Nat.le_of_ble_eq_true rfl) <| jEv.exL k1 <| x_aload rfl <| x_aload rfl <| x_iload rfl <| x_push <| x_iadd <| x_iald rfl v1 <| y_invV1 (Nat.le_of_ble_eq_true rfl) rfl (Nat.le_of_ble_eq_true rfl) <| jEv.exL k2 <| x_lcmp <| y_if_eq (fun _ => ?_) (fun q => absurd (lg_same e3) q)
  exact next y.2.1 y.2.2 e4
