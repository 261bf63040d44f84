/-! THE LAW: cases -/
set_option maxRecDepth 20000 in
theorem law_904 {n i : Nat} {A : jA3} {L : jL3} (hn : n ≤ 3584) (hi : i + 7 ≤ n) (h : Rel A A) (next : ∀ A2 L2, Rel A2 A2 → WL n 1815 i A2 L2) : WL n 904 i A L := by
  have v1 : vp_in (nI i + 1) n := vi (lit_n 1) (by omega) hn
  have v2 : vp_in (nI i + 2) n := vi (lit_n 2) (by omega) hn
  have v3 : vp_in (nI i + 3) n := vi (lit_n 3) (by omega) hn
  obtain ⟨x, y, e1, e2, e3, e4, e5⟩ := pair_scr (fv := fun z => z) (gv := fun z => z) (f := fX10_ask A (A 0 (jx (nI i + 1))) (A 0 (jx (nI i + 2))) (A 0 (jx (nI i + 3)))) (g := fun C => fX11_ask C (A 0 (jx (nI i + 1))) (A 0 (jx (nI i + 2))) (A 0 (jx (nI i + 3)))) (fun _ => A) (fun C _ => C) h (fun C hC => m_ask hC (A 0 (jx (nI i + 1))) (A 0 (jx (nI i + 2))) (A 0 (jx (nI i + 3)))) (fun _ _ => Fr.rf) (fun _ _ _ => Fr.rf)
  have e3 : x = y := e3
  have e4 : Rel A A := e4
  have k1 := kX10_ask 996 n A L (A 0 (jx (nI i + 1))) (A 0 (jx (nI i + 2))) (A 0 (jx (nI i + 3))) e1
  have k2 := kX11_ask 997 n A L (A 0 (jx (nI i + 1))) (A 0 (jx (nI i + 2))) (A 0 (jx (nI i + 3))) e2
  refine jWP.intro (pr := pL_law) (pc := 904) ?_
  refine y_mask <| x_aload rfl <| x_aload rfl <| x_iload rfl <| x_push <| x_iadd <| x_iald rfl v1 <| x_aload rfl <| x_iload rfl <| x_push <| x_iadd <| x_iald rfl v2 <| x_aload rfl <| x_iload rfl <| x_push <| x_iadd <| x_iald rfl v3 <| y_invV3 (Nat.le_of_ble_eq_true rfl) rfl (Nat.le_of_ble_eq_true rfl) <| jEv.exI k1 <| x_aload rfl <| x_aload rfl <| x_iload rfl <| x_push <| x_iadd <| x_iald rfl v1 <| x_aload rfl <| x_iload rfl <| x_push <| x_iadd <| x_iald rfl v2 <| x_aload rfl <| x_iload rfl <| x_push <| x_iadd <| x_iald rfl v3 <| y_invV3 (Nat.le_of_ble_eq_true rfl) rfl (Nat.le_of_ble_eq_true rfl) <| jEv.exI k2 <| y_cmp_eq (fun _ => ?_) (fun q => absurd e3 q)
  exact next A L e4
set_option maxRecDepth 20000 in
theorem law_947 {n i : Nat} {A : jA3} {L : jL3} (hn : n ≤ 3584) (hi : i + 7 ≤ n) (h : Rel A A) (next : ∀ A2 L2, Rel A2 A2 → WL n 1815 i A2 L2) : WL n 947 i A L := by
  have v1 : vp_in (nI i + 1) n := vi (lit_n 1) (by omega) hn
  have v2 : vp_in (nI i + 2) n := vi (lit_n 2) (by omega) hn
  have v3 : vp_in (nI i + 3) n := vi (lit_n 3) (by omega) hn
  have v4 : vp_in (nI i + 4) n := vi (lit_n 4) (by omega) hn
  obtain ⟨x, y, e1, e2, e3, e4, e5⟩ := pair_scr (fv := fun z => z) (gv := fun z => z) (f := fX10_clocks (A 0 (jx (nI i + 1))) (A 0 (jx (nI i + 2))) (A 0 (jx (nI i + 3))) (A 0 (jx (nI i + 4)))) (g := fun C => fX11_clocks (A 0 (jx (nI i + 1))) (A 0 (jx (nI i + 2))) (A 0 (jx (nI i + 3))) (A 0 (jx (nI i + 4)))) (fun _ => A) (fun C _ => C) h (fun _ _ => m_clocks (A 0 (jx (nI i + 1))) (A 0 (jx (nI i + 2))) (A 0 (jx (nI i + 3))) (A 0 (jx (nI i + 4)))) (fun _ _ => Fr.rf) (fun _ _ _ => Fr.rf)
  have e3 : x = y := e3
  have e4 : Rel A A := e4
  have k1 := kX10_clocks 997 n A L (A 0 (jx (nI i + 1))) (A 0 (jx (nI i + 2))) (A 0 (jx (nI i + 3))) (A 0 (jx (nI i + 4))) e1
  have k2 := kX11_clocks 997 n A L (A 0 (jx (nI i + 1))) (A 0 (jx (nI i + 2))) (A 0 (jx (nI i + 3))) (A 0 (jx (nI i + 4))) e2
  refine jWP.intro (pr := pL_law) (pc := 947) ?_
  refine y_mask <| x_aload rfl <| x_aload rfl <| x_iload rfl <| x_push <| x_iadd <| x_iald rfl v1 <| x_aload rfl <| x_iload rfl <| x_push <| x_iadd <| x_iald rfl v2 <| x_aload rfl <| x_iload rfl <| x_push <| x_iadd <| x_iald rfl v3 <| x_aload rfl <| x_iload rfl <| x_push <| x_iadd <| x_iald rfl v4 <| y_invV4 (Nat.le_of_ble_eq_true rfl) rfl (Nat.le_of_ble_eq_true rfl) <| jEv.exL k1 <| x_aload rfl <| x_aload rfl <| x_iload rfl <| x_push <| x_iadd <| x_iald rfl v1 <| x_aload rfl <| x_iload rfl <| x_push <| x_iadd <| x_iald rfl v2 <| x_aload rfl <| x_iload rfl <| x_push <| x_iadd <| x_iald rfl v3 <| x_aload rfl <| x_iload rfl <| y_mask <| y_goto ?_
  refine jWP.intro (pr := pL_law) (pc := 989) ?_
  refine y_mask <| x_push <| x_iadd <| x_iald rfl v4 <| y_invV4 (Nat.le_of_ble_eq_true rfl) rfl (Nat.le_of_ble_eq_true rfl) <| jEv.exL k2 <| x_lcmp <| y_if_eq (fun _ => ?_) (fun q => absurd (lg_same e3) q)
  exact next A L e4
set_option maxRecDepth 20000 in
theorem law_1001 {n i : Nat} {A : jA3} {L : jL3} (hn : n ≤ 3584) (hi : i + 7 ≤ n) (h : Rel A A) (next : ∀ A2 L2, Rel A2 A2 → WL n 1815 i A2 L2) : WL n 1001 i A L := by
  have v1 : vp_in (nI i + 1) n := vi (lit_n 1) (by omega) hn
  have v2 : vp_in (nI i + 2) n := vi (lit_n 2) (by omega) hn
  have v3 : vp_in (nI i + 3) n := vi (lit_n 3) (by omega) hn
  have v4 : vp_in (nI i + 4) n := vi (lit_n 4) (by omega) hn
  obtain ⟨x, y, e1, e2, e3, e4, e5⟩ := pair_mut (fv := fun z => z.1) (gv := fun z => z.1) (f := fX10_print A (A 0 (jx (nI i + 1))) (A 0 (jx (nI i + 2))) (A 0 (jx (nI i + 3))) (A 0 (jx (nI i + 4)))) (g := fun C => fX11_print C (A 0 (jx (nI i + 1))) (A 0 (jx (nI i + 2))) (A 0 (jx (nI i + 3))) (A 0 (jx (nI i + 4)))) (fun z => z.2) (fun _ z => z.2) h (fun C hC => m_print hC (A 0 (jx (nI i + 1))) (A 0 (jx (nI i + 2))) (A 0 (jx (nI i + 3))) (A 0 (jx (nI i + 4)))) (fun z e => (w_fX10_print e).wd rfl) (fun C z e => (w_fX11_print e).wd rfl)
  have e3 : x.1 = y.1 := e3
  have e4 : Rel y.2 y.2 := e4
  have k1 := kX10_print 997 n A L (A 0 (jx (nI i + 1))) (A 0 (jx (nI i + 2))) (A 0 (jx (nI i + 3))) (A 0 (jx (nI i + 4))) e1
  have e5 : x.2 0 = A 0 := e5
  have k2 : jEv jtab 1000 232 [.ref 94, .int (x.2 0 (jx (nI i + 1))), .int (x.2 0 (jx (nI i + 2))), .int (x.2 0 (jx (nI i + 3))), .int (x.2 0 (jx (nI i + 4)))] (Sh0 n, x.2, L) 0 0 (fun r M2 => r = some (.int y.1) ∧ M2 = (Sh0 n, y.2, L)) := by
    rw [e5]
    exact kX11_print 997 n x.2 L (A 0 (jx (nI i + 1))) (A 0 (jx (nI i + 2))) (A 0 (jx (nI i + 3))) (A 0 (jx (nI i + 4))) e2
  refine jWP.intro (pr := pL_law) (pc := 1001) ?_
  refine y_mask <| x_aload rfl <| x_aload rfl <| x_iload rfl <| x_push <| x_iadd <| x_iald rfl v1 <| x_aload rfl <| x_iload rfl <| x_push <| x_iadd <| x_iald rfl v2 <| x_aload rfl <| x_iload rfl <| x_push <| x_iadd <| x_iald rfl v3 <| x_aload rfl <| x_iload rfl <| x_push <| x_iadd <| x_iald rfl v4 <| y_invV4 (Nat.le_of_ble_eq_true rfl) rfl (Nat.le_of_ble_eq_true rfl) <| jEv.exI k1 <| x_aload rfl <| x_aload rfl <| x_iload rfl <| x_push <| x_iadd <| x_iald rfl v1 <| x_aload rfl <| x_iload rfl <| x_push <| x_iadd <| x_iald rfl v2 <| x_aload rfl <| x_iload rfl <| x_push <| x_iadd <| x_iald rfl v3 <| x_aload rfl <| x_iload rfl <| y_mask <| y_goto ?_
  refine jWP.intro (pr := pL_law) (pc := 1043) ?_
  refine y_mask <| x_push <| x_iadd <| x_iald rfl v4 <| y_invV4 (Nat.le_of_ble_eq_true rfl) rfl (Nat.le_of_ble_eq_true rfl) <| jEv.exI k2 <| y_cmp_eq (fun _ => ?_) (fun q => absurd e3 q)
  exact next y.2 L e4
set_option maxRecDepth 20000 in
theorem law_1054 {n i : Nat} {A : jA3} {L : jL3} (hn : n ≤ 3584) (hi : i + 7 ≤ n) (h : Rel A A) (next : ∀ A2 L2, Rel A2 A2 → WL n 1815 i A2 L2) : WL n 1054 i A L := by
  have v1 : vp_in (nI i + 1) n := vi (lit_n 1) (by omega) hn
  have v2 : vp_in (nI i + 2) n := vi (lit_n 2) (by omega) hn
  obtain ⟨x, y, e1, e2, e3, e4, e5⟩ := pair_scr (fv := fun z => z) (gv := fun z => z) (f := fX10_printed A (A 0 (jx (nI i + 1))) (A 0 (jx (nI i + 2)))) (g := fun C => fX11_printed C (A 0 (jx (nI i + 1))) (A 0 (jx (nI i + 2)))) (fun _ => A) (fun C _ => C) h (fun C hC => m_printed hC (A 0 (jx (nI i + 1))) (A 0 (jx (nI i + 2)))) (fun _ _ => Fr.rf) (fun _ _ _ => Fr.rf)
  have e3 : x = y := e3
  have e4 : Rel A A := e4
  have k1 := kX10_printed 998 n A L (A 0 (jx (nI i + 1))) (A 0 (jx (nI i + 2))) e1
  have k2 := kX11_printed 997 n A L (A 0 (jx (nI i + 1))) (A 0 (jx (nI i + 2))) e2
  refine jWP.intro (pr := pL_law) (pc := 1054) ?_
  refine y_mask <| x_aload rfl <| x_aload rfl <| x_iload rfl <| x_push <| x_iadd <| x_iald rfl v1 <| x_aload rfl <| x_iload rfl <| x_push <| x_iadd <| x_iald rfl v2 <| y_invV2 (Nat.le_of_ble_eq_true rfl) rfl (Nat.le_of_ble_eq_true rfl) <| jEv.exI k1 <| x_aload rfl <| x_aload rfl <| x_iload rfl <| x_push <| x_iadd <| x_iald rfl v1 <| x_aload rfl <| x_iload rfl <| x_push <| x_iadd <| x_iald rfl v2 <| y_invV2 (Nat.le_of_ble_eq_true rfl) rfl (Nat.le_of_ble_eq_true rfl) <| jEv.exI k2 <| y_cmp_eq (fun _ => ?_) (fun q => absurd e3 q)
  exact next A L e4
set_option maxRecDepth 20000 in
theorem law_1087 {n i : Nat} {A : jA3} {L : jL3} (hn : n ≤ 3584) (hi : i + 7 ≤ n) (h : Rel A A) (next : ∀ A2 L2, Rel A2 A2 → WL n 1815 i A2 L2) : WL n 1087 i A L := by
  have v1 : vp_in (nI i + 1) n := vi (lit_n 1) (by omega) hn
  obtain ⟨x, y, e1, e2, e3, e4, e5⟩ := pair_scr (fv := fun z => z) (gv := fun z => z) (f := fX10_join A (A 0 (jx (nI i + 1)))) (g := fun C => fX11_join C (A 0 (jx (nI i + 1)))) (fun _ => A) (fun C _ => C) h (fun C hC => m_join hC (A 0 (jx (nI i + 1)))) (fun _ _ => Fr.rf) (fun _ _ _ => Fr.rf)
  have e3 : x = y := e3
  have e4 : Rel A A := e4
  have k1 := kX10_join 996 n A L (A 0 (jx (nI i + 1))) e1
  have k2 := kX11_join 997 n A L (A 0 (jx (nI i + 1))) e2
  refine jWP.intro (pr := pL_law) (pc := 1087) ?_
  refine y_mask <| x_aload rfl <| x_aload rfl <| x_iload rfl <| x_push <| x_iadd <| x_iald rfl v1 <| y_invV1 (Nat.le_of_ble_eq_true rfl) rfl (Nat.le_of_ble_eq_true rfl) <| jEv.exI k1 <| x_aload rfl <| x_aload rfl <| x_iload rfl <| x_push <| x_iadd <| x_iald rfl v1 <| y_invV1 (Nat.le_of_ble_eq_true rfl) rfl (Nat.le_of_ble_eq_true rfl) <| jEv.exI k2 <| y_cmp_eq (fun _ => ?_) (fun q => absurd e3 q)
  exact next A L e4
set_option maxRecDepth 20000 in
theorem law_1110 {n i : Nat} {A : jA3} {L : jL3} (hn : n ≤ 3584) (hi : i + 7 ≤ n) (h : Rel A A) (next : ∀ A2 L2, Rel A2 A2 → WL n 1815 i A2 L2) : WL n 1110 i A L := by
  have v1 : vp_in (nI i + 1) n := vi (lit_n 1) (by omega) hn
  obtain ⟨x, y, e1, e2, e3, e4, e5⟩ := pair_scr (fv := fun z => z) (gv := fun z => z) (f := fX10_met A (A 0 (jx (nI i + 1)))) (g := fun C => fX11_met C (A 0 (jx (nI i + 1)))) (fun _ => A) (fun C _ => C) h (fun C hC => m_met hC (A 0 (jx (nI i + 1)))) (fun _ _ => Fr.rf) (fun _ _ _ => Fr.rf)
  have e3 : x = y := e3
  have e4 : Rel A A := e4
  have k1 := kX10_met 995 n A L (A 0 (jx (nI i + 1))) e1
  have k2 := kX11_met 997 n A L (A 0 (jx (nI i + 1))) e2
  refine jWP.intro (pr := pL_law) (pc := 1110) ?_
  refine y_mask <| x_aload rfl <| x_aload rfl <| x_iload rfl <| x_push <| x_iadd <| x_iald rfl v1 <| y_invV1 (Nat.le_of_ble_eq_true rfl) rfl (Nat.le_of_ble_eq_true rfl) <| jEv.exI k1 <| x_aload rfl <| x_aload rfl <| x_iload rfl <| x_push <| x_iadd <| x_iald rfl v1 <| y_invV1 (Nat.le_of_ble_eq_true rfl) rfl (Nat.le_of_ble_eq_true rfl) <| jEv.exI k2 <| y_cmp_eq (fun _ => ?_) (fun q => absurd e3 q)
  exact next A L e4
set_option maxRecDepth 20000 in
theorem law_1133 {n i : Nat} {A : jA3} {L : jL3} (hn : n ≤ 3584) (hi : i + 7 ≤ n) (h : Rel A A) (next : ∀ A2 L2, Rel A2 A2 → WL n 1815 i A2 L2) : WL n 1133 i A L := by
  have v1 : vp_in (nI i + 1) n := vi (lit_n 1) (by omega) hn
  have v2 : vp_in (nI i + 2) n := vi (lit_n 2) (by omega) hn
  obtain ⟨x, y, e1, e2, e3, e4, e5⟩ := pair_scr (fv := fun z => z.1) (gv := fun z => z) (f := fX10_falseOnes A (A 0 (jx (nI i + 1))) (A 0 (jx (nI i + 2)))) (g := fun C => fX11_falseOnes C (A 0 (jx (nI i + 1))) (A 0 (jx (nI i + 2)))) (fun z => z.2) (fun C _ => C) h (fun C hC => m_falseOnes hC (A 0 (jx (nI i + 1))) (A 0 (jx (nI i + 2)))) (fun z e => (w_fX10_falseOnes e).wd rfl) (fun _ _ _ => Fr.rf)
  have e3 : x.1 = y := e3
  have e4 : Rel x.2 x.2 := e4
  have k1 := kX10_falseOnes 996 n A L (A 0 (jx (nI i + 1))) (A 0 (jx (nI i + 2))) e1
  have e5 : x.2 0 = A 0 := e5
  have k2 : jEv jtab 1000 241 [.ref 94, .int (x.2 0 (jx (nI i + 1))), .int (x.2 0 (jx (nI i + 2)))] (Sh0 n, x.2, L) 0 0 (fun r M2 => r = some (.int y) ∧ M2 = (Sh0 n, x.2, L)) := by
    rw [e5]
    exact kX11_falseOnes 995 n x.2 L (A 0 (jx (nI i + 1))) (A 0 (jx (nI i + 2))) e2
  refine jWP.intro (pr := pL_law) (pc := 1133) ?_
  refine y_mask <| x_aload rfl <| x_aload rfl <| x_iload rfl <| x_push <| x_iadd <| x_iald rfl v1 <| x_aload rfl <| x_iload rfl <| x_push <| x_iadd <| x_iald rfl v2 <| y_invV2 (Nat.le_of_ble_eq_true rfl) rfl (Nat.le_of_ble_eq_true rfl) <| jEv.exI k1 <| x_aload rfl <| x_aload rfl <| x_iload rfl <| x_push <| x_iadd <| x_iald rfl v1 <| x_aload rfl <| x_iload rfl <| x_push <| x_iadd <| x_iald rfl v2 <| y_invV2 (Nat.le_of_ble_eq_true rfl) rfl (Nat.le_of_ble_eq_true rfl) <| jEv.exI k2 <| y_cmp_eq (fun _ => ?_) (fun q => absurd e3 q)
  exact next x.2 L e4
set_option maxRecDepth 20000 in
theorem law_1166 {n i : Nat} {A : jA3} {L : jL3} (hn : n ≤ 3584) (hi : i + 7 ≤ n) (h : Rel A A) (next : ∀ A2 L2, Rel A2 A2 → WL n 1815 i A2 L2) : WL n 1166 i A L := by
  have v1 : vp_in (nI i + 1) n := vi (lit_n 1) (by omega) hn
  have v2 : vp_in (nI i + 2) n := vi (lit_n 2) (by omega) hn
  have v3 : vp_in (nI i + 3) n := vi (lit_n 3) (by omega) hn
  obtain ⟨x, y, e1, e2, e3, e4, e5⟩ := pair_scr (fv := fun z => z.1) (gv := fun z => z) (f := fX10_there A (A 0 (jx (nI i + 1))) (A 0 (jx (nI i + 2))) (A 0 (jx (nI i + 3)))) (g := fun C => fX11_there C (A 0 (jx (nI i + 1))) (A 0 (jx (nI i + 2))) (A 0 (jx (nI i + 3)))) (fun z => z.2) (fun C _ => C) h (fun C hC => m_there hC (A 0 (jx (nI i + 1))) (A 0 (jx (nI i + 2))) (A 0 (jx (nI i + 3)))) (fun z e => (w_fX10_there e).wd rfl) (fun _ _ _ => Fr.rf)
  have e3 : x.1 = y := e3
  have e4 : Rel x.2 x.2 := e4
  have k1 := kX10_there 994 n A L (A 0 (jx (nI i + 1))) (A 0 (jx (nI i + 2))) (A 0 (jx (nI i + 3))) e1
  have e5 : x.2 0 = A 0 := e5
  have k2 : jEv jtab 1000 243 [.ref 94, .int (x.2 0 (jx (nI i + 1))), .int (x.2 0 (jx (nI i + 2))), .int (x.2 0 (jx (nI i + 3)))] (Sh0 n, x.2, L) 0 0 (fun r M2 => r = some (.long y) ∧ M2 = (Sh0 n, x.2, L)) := by
    rw [e5]
    exact kX11_there 994 n x.2 L (A 0 (jx (nI i + 1))) (A 0 (jx (nI i + 2))) (A 0 (jx (nI i + 3))) e2
  refine jWP.intro (pr := pL_law) (pc := 1166) ?_
  refine y_mask <| x_aload rfl <| x_aload rfl <| x_iload rfl <| x_push <| x_iadd <| x_iald rfl v1 <| x_aload rfl <| x_iload rfl <| x_push <| x_iadd <| x_iald rfl v2 <| x_aload rfl <| x_iload rfl <| x_push <| x_iadd <| x_iald rfl v3 <| y_invV3 (Nat.le_of_ble_eq_true rfl) rfl (Nat.le_of_ble_eq_true rfl) <| jEv.exL k1 <| x_aload rfl <| x_aload rfl <| x_iload rfl <| x_push <| x_iadd <| x_iald rfl v1 <| x_aload rfl <| x_iload rfl <| x_push <| x_iadd <| x_iald rfl v2 <| x_aload rfl <| x_iload rfl <| x_push <| x_iadd <| x_iald rfl v3 <| y_invV3 (Nat.le_of_ble_eq_true rfl) rfl (Nat.le_of_ble_eq_true rfl) <| jEv.exL k2 <| x_lcmp <| y_if_eq (fun _ => ?_) (fun q => absurd (lg_same e3) q)
  exact next x.2 L e4
set_option maxRecDepth 20000 in
theorem law_1210 {n i : Nat} {A : jA3} {L : jL3} (hn : n ≤ 3584) (hi : i + 7 ≤ n) (h : Rel A A) (next : ∀ A2 L2, Rel A2 A2 → WL n 1815 i A2 L2) : WL n 1210 i A L := by
  have v1 : vp_in (nI i + 1) n := vi (lit_n 1) (by omega) hn
  have v2 : vp_in (nI i + 2) n := vi (lit_n 2) (by omega) hn
  have v3 : vp_in (nI i + 3) n := vi (lit_n 3) (by omega) hn
  obtain ⟨x, y, e1, e2, e3, e4, e5⟩ := pair_scr (fv := fun z => z.1) (gv := fun z => z) (f := fX10_last A (A 0 (jx (nI i + 1))) (A 0 (jx (nI i + 2))) (A 0 (jx (nI i + 3)))) (g := fun C => fX11_last C (A 0 (jx (nI i + 1))) (A 0 (jx (nI i + 2))) (A 0 (jx (nI i + 3)))) (fun z => z.2) (fun C _ => C) h (fun C hC => m_last hC (A 0 (jx (nI i + 1))) (A 0 (jx (nI i + 2))) (A 0 (jx (nI i + 3)))) (fun z e => (w_fX10_last e).wd rfl) (fun _ _ _ => Fr.rf)
  have e3 : x.1 = y := e3
  have e4 : Rel x.2 x.2 := e4
  have k1 := kX10_last 994 n A L (A 0 (jx (nI i + 1))) (A 0 (jx (nI i + 2))) (A 0 (jx (nI i + 3))) e1
  have e5 : x.2 0 = A 0 := e5
  have k2 : jEv jtab 1000 244 [.ref 94, .int (x.2 0 (jx (nI i + 1))), .int (x.2 0 (jx (nI i + 2))), .int (x.2 0 (jx (nI i + 3)))] (Sh0 n, x.2, L) 0 0 (fun r M2 => r = some (.int y) ∧ M2 = (Sh0 n, x.2, L)) := by
    rw [e5]
    exact kX11_last 995 n x.2 L (A 0 (jx (nI i + 1))) (A 0 (jx (nI i + 2))) (A 0 (jx (nI i + 3))) e2
  refine jWP.intro (pr := pL_law) (pc := 1210) ?_
  refine y_mask <| x_aload rfl <| x_aload rfl <| x_iload rfl <| x_push <| x_iadd <| x_iald rfl v1 <| x_aload rfl <| x_iload rfl <| x_push <| x_iadd <| x_iald rfl v2 <| x_aload rfl <| x_iload rfl <| x_push <| x_iadd <| x_iald rfl v3 <| y_invV3 (Nat.le_of_ble_eq_true rfl) rfl (Nat.le_of_ble_eq_true rfl) <| jEv.exI k1 <| x_aload rfl <| x_aload rfl <| x_iload rfl <| x_push <| x_iadd <| x_iald rfl v1 <| x_aload rfl <| x_iload rfl <| x_push <| x_iadd <| x_iald rfl v2 <| x_aload rfl <| x_iload rfl <| x_push <| x_iadd <| x_iald rfl v3 <| y_invV3 (Nat.le_of_ble_eq_true rfl) rfl (Nat.le_of_ble_eq_true rfl) <| jEv.exI k2 <| y_cmp_eq (fun _ => ?_) (fun q => absurd e3 q)
  exact next x.2 L e4
set_option maxRecDepth 20000 in
theorem law_1253 {n i : Nat} {A : jA3} {L : jL3} (hn : n ≤ 3584) (hi : i + 7 ≤ n) (h : Rel A A) (next : ∀ A2 L2, Rel A2 A2 → WL n 1815 i A2 L2) : WL n 1253 i A L := by
  have v1 : vp_in (nI i + 1) n := vi (lit_n 1) (by omega) hn
  have v2 : vp_in (nI i + 2) n := vi (lit_n 2) (by omega) hn
  have v3 : vp_in (nI i + 3) n := vi (lit_n 3) (by omega) hn
  have v4 : vp_in (nI i + 4) n := vi (lit_n 4) (by omega) hn
  have v5 : vp_in (nI i + 5) n := vi (lit_n 5) (by omega) hn
  have v6 : vp_in (nI i + 6) n := vi (lit_n 6) (by omega) hn
  obtain ⟨x, y, e1, e2, e3, e4, e5⟩ := pair_scr (fv := fun z => z.1) (gv := fun z => z) (f := fX10_cellOdds A (A 0 (jx (nI i + 1))) (A 0 (jx (nI i + 2))) (A 0 (jx (nI i + 3))) (((A 0 (jx (nI i + 4))).toInt64 <<< ((32 : Int32).toInt64 &&& 63)) ||| ((A 0 (jx (nI i + 5))).toInt64 &&& 4294967295)) (A 0 (jx (nI i + 6)))) (g := fun C => fX11_cellOdds C (A 0 (jx (nI i + 1))) (A 0 (jx (nI i + 2))) (A 0 (jx (nI i + 3))) (((A 0 (jx (nI i + 4))).toInt64 <<< ((32 : Int32).toInt64 &&& 63)) ||| ((A 0 (jx (nI i + 5))).toInt64 &&& 4294967295)) (A 0 (jx (nI i + 6)))) (fun z => z.2) (fun C _ => C) h (fun C hC => m_cellOdds hC (A 0 (jx (nI i + 1))) (A 0 (jx (nI i + 2))) (A 0 (jx (nI i + 3))) (((A 0 (jx (nI i + 4))).toInt64 <<< ((32 : Int32).toInt64 &&& 63)) ||| ((A 0 (jx (nI i + 5))).toInt64 &&& 4294967295)) (A 0 (jx (nI i + 6)))) (fun z e => (w_fX10_cellOdds e).wd rfl) (fun _ _ _ => Fr.rf)
  have e3 : x.1 = y := e3
  have e4 : Rel x.2 x.2 := e4
  have k1 := kX10_cellOdds 994 n A L (A 0 (jx (nI i + 1))) (A 0 (jx (nI i + 2))) (A 0 (jx (nI i + 3))) (((A 0 (jx (nI i + 4))).toInt64 <<< ((32 : Int32).toInt64 &&& 63)) ||| ((A 0 (jx (nI i + 5))).toInt64 &&& 4294967295)) (A 0 (jx (nI i + 6))) e1
  have e5 : x.2 0 = A 0 := e5
  have k2 : jEv jtab 1000 245 [.ref 94, .int (x.2 0 (jx (nI i + 1))), .int (x.2 0 (jx (nI i + 2))), .int (x.2 0 (jx (nI i + 3))), .long (((x.2 0 (jx (nI i + 4))).toInt64 <<< ((32 : Int32).toInt64 &&& 63)) ||| ((x.2 0 (jx (nI i + 5))).toInt64 &&& 4294967295)), .int (x.2 0 (jx (nI i + 6)))] (Sh0 n, x.2, L) 0 0 (fun r M2 => r = some (.long y) ∧ M2 = (Sh0 n, x.2, L)) := by
    rw [e5]
    exact kX11_cellOdds 994 n x.2 L (A 0 (jx (nI i + 1))) (A 0 (jx (nI i + 2))) (A 0 (jx (nI i + 3))) (((A 0 (jx (nI i + 4))).toInt64 <<< ((32 : Int32).toInt64 &&& 63)) ||| ((A 0 (jx (nI i + 5))).toInt64 &&& 4294967295)) (A 0 (jx (nI i + 6))) e2
  refine jWP.intro (pr := pL_law) (pc := 1253) ?_
  refine y_mask <| x_aload rfl <| x_aload rfl <| x_iload rfl <| x_push <| x_iadd <| x_iald rfl v1 <| x_aload rfl <| x_iload rfl <| x_push <| x_iadd <| x_iald rfl v2 <| x_aload rfl <| x_iload rfl <| x_push <| x_iadd <| x_iald rfl v3 <| x_aload rfl <| x_iload rfl <| x_push <| x_iadd <| x_iald rfl v4 <| x_i2l <| x_push <| x_lshl <| x_aload rfl <| x_iload rfl <| x_push <| x_iadd <| x_iald rfl v5 <| x_i2l <| x_push <| x_land <| x_lor <| x_aload rfl <| x_iload rfl <| x_push <| x_iadd <| x_iald rfl v6 <| y_invV5 (Nat.le_of_ble_eq_true rfl) rfl (Nat.le_of_ble_eq_true rfl) <| jEv.exL k1 <| x_aload rfl <| y_mask <| y_goto ?_
  refine jWP.intro (pr := pL_law) (pc := 1299) ?_
  refine y_mask <| x_aload rfl <| x_iload rfl <| x_push <| x_iadd <| x_iald rfl v1 <| x_aload rfl <| x_iload rfl <| x_push <| x_iadd <| x_iald rfl v2 <| x_aload rfl <| x_iload rfl <| x_push <| x_iadd <| x_iald rfl v3 <| x_aload rfl <| x_iload rfl <| x_push <| x_iadd <| x_iald rfl v4 <| x_i2l <| x_push <| x_lshl <| x_aload rfl <| x_iload rfl <| x_push <| x_iadd <| x_iald rfl v5 <| x_i2l <| x_push <| x_land <| x_lor <| x_aload rfl <| x_iload rfl <| x_push <| x_iadd <| x_iald rfl v6 <| y_invV5 (Nat.le_of_ble_eq_true rfl) rfl (Nat.le_of_ble_eq_true rfl) <| jEv.exL k2 <| x_lcmp <| y_if_eq (fun _ => ?_) (fun q => absurd (lg_same e3) q)
  exact next x.2 L e4
set_option maxRecDepth 20000 in
theorem law_1349 {n i : Nat} {A : jA3} {L : jL3} (hn : n ≤ 3584) (hi : i + 7 ≤ n) (h : Rel A A) (next : ∀ A2 L2, Rel A2 A2 → WL n 1815 i A2 L2) : WL n 1349 i A L := by
  have v1 : vp_in (nI i + 1) n := vi (lit_n 1) (by omega) hn
  have v2 : vp_in (nI i + 2) n := vi (lit_n 2) (by omega) hn
  have v3 : vp_in (nI i + 3) n := vi (lit_n 3) (by omega) hn
  obtain ⟨x, y, e1, e2, e3, e4, e5⟩ := pair_mut (fv := fun z => z.1) (gv := fun z => z.1) (f := fX10_meet A (A 0 (jx (nI i + 1))) (A 0 (jx (nI i + 2))) (A 0 (jx (nI i + 3)))) (g := fun C => fX11_meet C (A 0 (jx (nI i + 1))) (A 0 (jx (nI i + 2))) (A 0 (jx (nI i + 3)))) (fun z => z.2) (fun _ z => z.2) h (fun C hC => m_meet hC (A 0 (jx (nI i + 1))) (A 0 (jx (nI i + 2))) (A 0 (jx (nI i + 3)))) (fun z e => (w_fX10_meet e).wd rfl) (fun C z e => (w_fX11_meet e).wd rfl)
  have e3 : x.1 = y.1 := e3
  have e4 : Rel y.2 y.2 := e4
  have k1 := kX10_meet 997 n A L (A 0 (jx (nI i + 1))) (A 0 (jx (nI i + 2))) (A 0 (jx (nI i + 3))) e1
  have e5 : x.2 0 = A 0 := e5
  have k2 : jEv jtab 1000 246 [.ref 94, .int (x.2 0 (jx (nI i + 1))), .int (x.2 0 (jx (nI i + 2))), .int (x.2 0 (jx (nI i + 3)))] (Sh0 n, x.2, L) 0 0 (fun r M2 => r = some (.int y.1) ∧ M2 = (Sh0 n, y.2, L)) := by
    rw [e5]
    exact kX11_meet 997 n x.2 L (A 0 (jx (nI i + 1))) (A 0 (jx (nI i + 2))) (A 0 (jx (nI i + 3))) e2
  refine jWP.intro (pr := pL_law) (pc := 1349) ?_
  refine y_mask <| x_aload rfl <| x_aload rfl <| x_iload rfl <| x_push <| x_iadd <| x_iald rfl v1 <| x_aload rfl <| x_iload rfl <| x_push <| x_iadd <| x_iald rfl v2 <| x_aload rfl <| x_iload rfl <| x_push <| x_iadd <| x_iald rfl v3 <| y_invV3 (Nat.le_of_ble_eq_true rfl) rfl (Nat.le_of_ble_eq_true rfl) <| jEv.exI k1 <| x_aload rfl <| x_aload rfl <| x_iload rfl <| x_push <| x_iadd <| x_iald rfl v1 <| x_aload rfl <| x_iload rfl <| x_push <| x_iadd <| x_iald rfl v2 <| x_aload rfl <| x_iload rfl <| x_push <| x_iadd <| x_iald rfl v3 <| y_invV3 (Nat.le_of_ble_eq_true rfl) rfl (Nat.le_of_ble_eq_true rfl) <| jEv.exI k2 <| y_cmp_eq (fun _ => ?_) (fun q => absurd e3 q)
  exact next y.2 L e4
