/-! THE LAW: cases -/
set_option maxRecDepth 20000 in
theorem law_588 {n i : Nat} {A : jA3} {L : jL3} (hn : n ≤ 3584) (hi : i + 7 ≤ n) (h : Rel A A) (next : ∀ A2 L2, Rel A2 A2 → WL n 1815 i A2 L2) : WL n 588 i A L := by
  have v1 : vp_in (nI i + 1) n := vi (lit_n 1) (by omega) hn
  have v2 : vp_in (nI i + 2) n := vi (lit_n 2) (by omega) hn
  obtain ⟨x, y, e1, e2, e3, e4, e5⟩ := pair_scr (fv := fun z => z.1) (gv := fun z => z.1) (f := fX10_minute A (A 0 (jx (nI i + 1))) (A 0 (jx (nI i + 2)))) (g := fun C => fX11_minute C L (A 0 (jx (nI i + 1))) (A 0 (jx (nI i + 2)))) (fun z => z.2) (fun _ z => z.2.1) h (fun C hC => m_minute hC (A 0 (jx (nI i + 1))) (A 0 (jx (nI i + 2)))) (fun z e => (w_fX10_minute e).wd rfl) (fun C z e => (w_fX11_minute e).wd rfl)
  have e3 : x.1 = y.1 := e3
  have e4 : Rel y.2.1 y.2.1 := e4
  have k1 := kX10_minute 993 n A L (A 0 (jx (nI i + 1))) (A 0 (jx (nI i + 2))) e1
  have e5 : x.2 0 = A 0 := e5
  have k2 : jEv jtab 1000 203 [.ref 94, .int (x.2 0 (jx (nI i + 1))), .int (x.2 0 (jx (nI i + 2)))] (Sh0 n, x.2, L) 0 0 (fun r M2 => r = some (.int y.1) ∧ M2 = (Sh0 n, y.2.1, y.2.2)) := by
    rw [e5]
    exact kX11_minute 993 n x.2 L (A 0 (jx (nI i + 1))) (A 0 (jx (nI i + 2))) e2
  refine jWP.intro (pr := pL_law) (pc := 588) ?_
  refine y_mask <| x_aload rfl <| x_aload rfl <| x_iload rfl <| x_push <| x_iadd <| x_iald rfl v1 <| x_aload rfl <| x_iload rfl <| x_push <| x_iadd <| x_iald rfl v2 <| y_invV2 (Nat.le_of_ble_eq_true rfl) rfl (Nat.le_of_ble_eq_true rfl) <| jEv.exI k1 <| x_aload rfl <| x_aload rfl <| x_iload rfl <| x_push <| x_iadd <| x_iald rfl v1 <| x_aload rfl <| x_iload rfl <| x_push <| x_iadd <| x_iald rfl v2 <| y_invV2 (Nat.le_of_ble_eq_true rfl) rfl (Nat.le_of_ble_eq_true rfl) <| jEv.exI k2 <| y_cmp_eq (fun _ => ?_) (fun q => absurd e3 q)
  exact next y.2.1 y.2.2 e4
set_option maxRecDepth 20000 in
theorem law_621 {n i : Nat} {A : jA3} {L : jL3} (hn : n ≤ 3584) (hi : i + 7 ≤ n) (h : Rel A A) (next : ∀ A2 L2, Rel A2 A2 → WL n 1815 i A2 L2) : WL n 621 i A L := by
  have v1 : vp_in (nI i + 1) n := vi (lit_n 1) (by omega) hn
  obtain ⟨x, y, e1, e2, e3, e4, e5⟩ := pair_scr (fv := fun z => z.1) (gv := fun z => z.1) (f := fX10_judge A (A 0 (jx (nI i + 1)))) (g := fun C => fX11_judge C L (A 0 (jx (nI i + 1)))) (fun z => z.2) (fun _ z => z.2.1) h (fun C hC => m_judge hC (A 0 (jx (nI i + 1)))) (fun z e => (w_fX10_judge e).wd rfl) (fun C z e => (w_fX11_judge e).wd rfl)
  have e3 : x.1 = y.1 := e3
  have e4 : Rel y.2.1 y.2.1 := e4
  have k1 := kX10_judge 993 n A L (A 0 (jx (nI i + 1))) e1
  have e5 : x.2 0 = A 0 := e5
  have k2 : jEv jtab 1000 204 [.ref 94, .int (x.2 0 (jx (nI i + 1)))] (Sh0 n, x.2, L) 0 0 (fun r M2 => r = some (.long y.1) ∧ M2 = (Sh0 n, y.2.1, y.2.2)) := by
    rw [e5]
    exact kX11_judge 994 n x.2 L (A 0 (jx (nI i + 1))) e2
  refine jWP.intro (pr := pL_law) (pc := 621) ?_
  refine y_mask <| x_aload rfl <| x_aload rfl <| x_iload rfl <| x_push <| x_iadd <| x_iald rfl v1 <| y_invV1 (Nat.le_of_ble_eq_true rfl) rfl (Nat.le_of_ble_eq_true rfl) <| jEv.exL k1 <| x_aload rfl <| x_aload rfl <| x_iload rfl <| x_push <| x_iadd <| x_iald rfl v1 <| y_invV1 (Nat.le_of_ble_eq_true rfl) rfl (Nat.le_of_ble_eq_true rfl) <| jEv.exL k2 <| x_lcmp <| y_if_eq (fun _ => ?_) (fun q => absurd (lg_same e3) q)
  exact next y.2.1 y.2.2 e4
set_option maxRecDepth 20000 in
theorem law_645 {n i : Nat} {A : jA3} {L : jL3} (hn : n ≤ 3584) (hi : i + 7 ≤ n) (h : Rel A A) (next : ∀ A2 L2, Rel A2 A2 → WL n 1815 i A2 L2) : WL n 645 i A L := by
  have v1 : vp_in (nI i + 1) n := vi (lit_n 1) (by omega) hn
  obtain ⟨x, y, e1, e2, e3, e4, e5⟩ := pair_scr (fv := fun z => z.1) (gv := fun z => z.1) (f := fX10_best A (A 0 (jx (nI i + 1)))) (g := fun C => fX11_best C L (A 0 (jx (nI i + 1)))) (fun z => z.2) (fun _ z => z.2.1) h (fun C hC => m_best hC (A 0 (jx (nI i + 1)))) (fun z e => (w_fX10_best e).wd rfl) (fun C z e => (w_fX11_best e).wd rfl)
  have e3 : x.1 = y.1 := e3
  have e4 : Rel y.2.1 y.2.1 := e4
  have k1 := kX10_best 992 n A L (A 0 (jx (nI i + 1))) e1
  have e5 : x.2 0 = A 0 := e5
  have k2 : jEv jtab 1000 209 [.ref 94, .int (x.2 0 (jx (nI i + 1)))] (Sh0 n, x.2, L) 0 0 (fun r M2 => r = some (.long y.1) ∧ M2 = (Sh0 n, y.2.1, y.2.2)) := by
    rw [e5]
    exact kX11_best 992 n x.2 L (A 0 (jx (nI i + 1))) e2
  refine jWP.intro (pr := pL_law) (pc := 645) ?_
  refine y_mask <| x_aload rfl <| x_aload rfl <| x_iload rfl <| x_push <| x_iadd <| x_iald rfl v1 <| y_invV1 (Nat.le_of_ble_eq_true rfl) rfl (Nat.le_of_ble_eq_true rfl) <| jEv.exL k1 <| x_aload rfl <| x_aload rfl <| x_iload rfl <| x_push <| x_iadd <| x_iald rfl v1 <| y_invV1 (Nat.le_of_ble_eq_true rfl) rfl (Nat.le_of_ble_eq_true rfl) <| jEv.exL k2 <| x_lcmp <| y_if_eq (fun _ => ?_) (fun q => absurd (lg_same e3) q)
  exact next y.2.1 y.2.2 e4
set_option maxRecDepth 20000 in
theorem law_669 {n i : Nat} {A : jA3} {L : jL3} (hn : n ≤ 3584) (hi : i + 7 ≤ n) (h : Rel A A) (next : ∀ A2 L2, Rel A2 A2 → WL n 1815 i A2 L2) : WL n 669 i A L := by
  obtain ⟨x, y, e1, e2, e3, e4, e5⟩ := pair_mut (fv := fun z => z.1) (gv := fun z => z.1) (f := fX10_side A) (g := fun C => fX11_side C L) (fun z => z.2) (fun _ z => z.2.1) h (fun C hC => m_side hC) (fun z e => (w_fX10_side e).wd rfl) (fun C z e => (w_fX11_side e).wd rfl)
  have e3 : x.1 = y.1 := e3
  have e4 : Rel y.2.1 y.2.1 := e4
  have k1 := kX10_side 993 n A L  e1
  have k2 := kX11_side 993 n x.2 L  e2
  refine jWP.intro (pr := pL_law) (pc := 669) ?_
  refine y_mask <| x_aload rfl <| y_invV0 (Nat.le_of_ble_eq_true rfl) rfl (Nat.le_of_ble_eq_true rfl) <| jEv.exI k1 <| x_aload rfl <| y_invV0 (Nat.le_of_ble_eq_true rfl) rfl (Nat.le_of_ble_eq_true rfl) <| jEv.exI k2 <| y_cmp_eq (fun _ => ?_) (fun q => absurd e3 q)
  exact next y.2.1 y.2.2 e4
set_option maxRecDepth 20000 in
theorem law_682 {n i : Nat} {A : jA3} {L : jL3} (hn : n ≤ 3584) (hi : i + 7 ≤ n) (h : Rel A A) (next : ∀ A2 L2, Rel A2 A2 → WL n 1815 i A2 L2) : WL n 682 i A L := by
  obtain ⟨x, y, e1, e2, e3, e4, e5⟩ := pair_scr (fv := fun z => z.1) (gv := fun z => z.1) (f := fX10_leave A) (g := fun C => fX11_leave C L) (fun z => z.2) (fun _ z => z.2.1) h (fun C hC => m_leave hC) (fun z e => (w_fX10_leave e).wd rfl) (fun C z e => (w_fX11_leave e).wd rfl)
  have e3 : x.1 = y.1 := e3
  have e4 : Rel y.2.1 y.2.1 := e4
  have k1 := kX10_leave 993 n A L  e1
  have k2 := kX11_leave 993 n x.2 L  e2
  refine jWP.intro (pr := pL_law) (pc := 682) ?_
  refine y_mask <| x_aload rfl <| y_invV0 (Nat.le_of_ble_eq_true rfl) rfl (Nat.le_of_ble_eq_true rfl) <| jEv.exI k1 <| x_aload rfl <| y_invV0 (Nat.le_of_ble_eq_true rfl) rfl (Nat.le_of_ble_eq_true rfl) <| jEv.exI k2 <| y_cmp_eq (fun _ => ?_) (fun q => absurd e3 q)
  exact next y.2.1 y.2.2 e4
set_option maxRecDepth 20000 in
theorem law_695 {n i : Nat} {A : jA3} {L : jL3} (hn : n ≤ 3584) (hi : i + 7 ≤ n) (h : Rel A A) (next : ∀ A2 L2, Rel A2 A2 → WL n 1815 i A2 L2) : WL n 695 i A L := by
  have v1 : vp_in (nI i + 1) n := vi (lit_n 1) (by omega) hn
  have v2 : vp_in (nI i + 2) n := vi (lit_n 2) (by omega) hn
  obtain ⟨x, y, e1, e2, e3, e4, e5⟩ := pair_mut (fv := fun z => z.1) (gv := fun z => z.1) (f := fX10_word A (A 0 (jx (nI i + 1))) (A 0 (jx (nI i + 2)))) (g := fun C => fX11_word C (A 0 (jx (nI i + 1))) (A 0 (jx (nI i + 2)))) (fun z => z.2) (fun _ z => z.2) h (fun C hC => m_word hC (A 0 (jx (nI i + 1))) (A 0 (jx (nI i + 2)))) (fun z e => (w_fX10_word e).wd rfl) (fun C z e => (w_fX11_word e).wd rfl)
  have e3 : x.1 = y.1 := e3
  have e4 : Rel y.2 y.2 := e4
  have k1 := kX10_word 998 n A L (A 0 (jx (nI i + 1))) (A 0 (jx (nI i + 2))) e1
  have e5 : x.2 0 = A 0 := e5
  have k2 : jEv jtab 1000 213 [.ref 94, .int (x.2 0 (jx (nI i + 1))), .int (x.2 0 (jx (nI i + 2)))] (Sh0 n, x.2, L) 0 0 (fun r M2 => r = some (.int y.1) ∧ M2 = (Sh0 n, y.2, L)) := by
    rw [e5]
    exact kX11_word 998 n x.2 L (A 0 (jx (nI i + 1))) (A 0 (jx (nI i + 2))) e2
  refine jWP.intro (pr := pL_law) (pc := 695) ?_
  refine y_mask <| x_aload rfl <| x_aload rfl <| x_iload rfl <| x_push <| x_iadd <| x_iald rfl v1 <| x_aload rfl <| x_iload rfl <| x_push <| x_iadd <| x_iald rfl v2 <| y_invV2 (Nat.le_of_ble_eq_true rfl) rfl (Nat.le_of_ble_eq_true rfl) <| jEv.exI k1 <| x_aload rfl <| x_aload rfl <| x_iload rfl <| x_push <| x_iadd <| x_iald rfl v1 <| x_aload rfl <| x_iload rfl <| x_push <| x_iadd <| x_iald rfl v2 <| y_invV2 (Nat.le_of_ble_eq_true rfl) rfl (Nat.le_of_ble_eq_true rfl) <| jEv.exI k2 <| y_cmp_eq (fun _ => ?_) (fun q => absurd e3 q)
  exact next y.2 L e4
set_option maxRecDepth 20000 in
theorem law_728 {n i : Nat} {A : jA3} {L : jL3} (hn : n ≤ 3584) (hi : i + 7 ≤ n) (h : Rel A A) (next : ∀ A2 L2, Rel A2 A2 → WL n 1815 i A2 L2) : WL n 728 i A L := by
  have v1 : vp_in (nI i + 1) n := vi (lit_n 1) (by omega) hn
  have v2 : vp_in (nI i + 2) n := vi (lit_n 2) (by omega) hn
  have v3 : vp_in (nI i + 3) n := vi (lit_n 3) (by omega) hn
  obtain ⟨x, y, e1, e2, e3, e4, e5⟩ := pair_mut (fv := fun z => z.1) (gv := fun z => z.1) (f := fX10_mistake A (A 0 (jx (nI i + 1))) (A 0 (jx (nI i + 2))) (A 0 (jx (nI i + 3)))) (g := fun C => fX11_mistake C (A 0 (jx (nI i + 1))) (A 0 (jx (nI i + 2))) (A 0 (jx (nI i + 3)))) (fun z => z.2) (fun _ z => z.2) h (fun C hC => (m_mistake hC (A 0 (jx (nI i + 1))) (A 0 (jx (nI i + 2))) (A 0 (jx (nI i + 3)))).mono fun _ _ q => ⟨q.1, q.2.1⟩) (fun z e => by obtain ⟨a, b, e1, -, q⟩ := m_mistake h (A 0 (jx (nI i + 1))) (A 0 (jx (nI i + 2))) (A 0 (jx (nI i + 3))); rw [e] at e1; obtain rfl := Option.some.inj e1; exact q.2.2.wd rfl) (fun C z e => (w_fX11_mistake e).wd rfl)
  have e3 : x.1 = y.1 := e3
  have e4 : Rel y.2 y.2 := e4
  have k1 := kX10_mistake 997 n A L (A 0 (jx (nI i + 1))) (A 0 (jx (nI i + 2))) (A 0 (jx (nI i + 3))) e1
  have e5 : x.2 0 = A 0 := e5
  have k2 : jEv jtab 1000 214 [.ref 94, .int (x.2 0 (jx (nI i + 1))), .int (x.2 0 (jx (nI i + 2))), .int (x.2 0 (jx (nI i + 3)))] (Sh0 n, x.2, L) 0 0 (fun r M2 => r = some (.int y.1) ∧ M2 = (Sh0 n, y.2, L)) := by
    rw [e5]
    exact kX11_mistake 997 n x.2 L (A 0 (jx (nI i + 1))) (A 0 (jx (nI i + 2))) (A 0 (jx (nI i + 3))) e2
  refine jWP.intro (pr := pL_law) (pc := 728) ?_
  refine y_mask <| x_aload rfl <| x_aload rfl <| x_iload rfl <| x_push <| x_iadd <| x_iald rfl v1 <| x_aload rfl <| x_iload rfl <| x_push <| x_iadd <| x_iald rfl v2 <| x_aload rfl <| x_iload rfl <| x_push <| x_iadd <| x_iald rfl v3 <| y_invV3 (Nat.le_of_ble_eq_true rfl) rfl (Nat.le_of_ble_eq_true rfl) <| jEv.exI k1 <| x_aload rfl <| x_aload rfl <| x_iload rfl <| x_push <| x_iadd <| x_iald rfl v1 <| x_aload rfl <| x_iload rfl <| x_push <| x_iadd <| x_iald rfl v2 <| x_aload rfl <| x_iload rfl <| x_push <| x_iadd <| x_iald rfl v3 <| y_invV3 (Nat.le_of_ble_eq_true rfl) rfl (Nat.le_of_ble_eq_true rfl) <| jEv.exI k2 <| y_cmp_eq (fun _ => ?_) (fun q => absurd e3 q)
  exact next y.2 L e4
set_option maxRecDepth 20000 in
theorem law_771 {n i : Nat} {A : jA3} {L : jL3} (hn : n ≤ 3584) (hi : i + 7 ≤ n) (h : Rel A A) (next : ∀ A2 L2, Rel A2 A2 → WL n 1815 i A2 L2) : WL n 771 i A L := by
  have v1 : vp_in (nI i + 1) n := vi (lit_n 1) (by omega) hn
  have v2 : vp_in (nI i + 2) n := vi (lit_n 2) (by omega) hn
  have v3 : vp_in (nI i + 3) n := vi (lit_n 3) (by omega) hn
  obtain ⟨x, y, e1, e2, e3, e4, e5⟩ := pair_scr (fv := fun z => z) (gv := fun z => z) (f := fX10_odds A (A 0 (jx (nI i + 1))) (A 0 (jx (nI i + 2))) (A 0 (jx (nI i + 3)))) (g := fun C => fX11_odds C (A 0 (jx (nI i + 1))) (A 0 (jx (nI i + 2))) (A 0 (jx (nI i + 3)))) (fun _ => A) (fun C _ => C) h (fun C hC => m_odds hC (A 0 (jx (nI i + 1))) (A 0 (jx (nI i + 2))) (A 0 (jx (nI i + 3)))) (fun _ _ => Fr.rf) (fun _ _ _ => Fr.rf)
  have e3 : x = y := e3
  have e4 : Rel A A := e4
  have k1 := kX10_odds 996 n A L (A 0 (jx (nI i + 1))) (A 0 (jx (nI i + 2))) (A 0 (jx (nI i + 3))) e1
  have k2 := kX11_odds 997 n A L (A 0 (jx (nI i + 1))) (A 0 (jx (nI i + 2))) (A 0 (jx (nI i + 3))) e2
  refine jWP.intro (pr := pL_law) (pc := 771) ?_
  refine y_mask <| x_aload rfl <| x_aload rfl <| x_iload rfl <| x_push <| x_iadd <| x_iald rfl v1 <| x_aload rfl <| x_iload rfl <| x_push <| x_iadd <| x_iald rfl v2 <| x_aload rfl <| x_iload rfl <| x_push <| x_iadd <| x_iald rfl v3 <| y_invV3 (Nat.le_of_ble_eq_true rfl) rfl (Nat.le_of_ble_eq_true rfl) <| jEv.exL k1 <| x_aload rfl <| x_aload rfl <| x_iload rfl <| x_push <| x_iadd <| x_iald rfl v1 <| x_aload rfl <| x_iload rfl <| x_push <| x_iadd <| x_iald rfl v2 <| x_aload rfl <| x_iload rfl <| x_push <| x_iadd <| x_iald rfl v3 <| y_invV3 (Nat.le_of_ble_eq_true rfl) rfl (Nat.le_of_ble_eq_true rfl) <| jEv.exL k2 <| x_lcmp <| y_if_eq (fun _ => ?_) (fun q => absurd (lg_same e3) q)
  exact next A L e4
set_option maxRecDepth 20000 in
theorem law_815 {n i : Nat} {A : jA3} {L : jL3} (hn : n ≤ 3584) (hi : i + 7 ≤ n) (h : Rel A A) (next : ∀ A2 L2, Rel A2 A2 → WL n 1815 i A2 L2) : WL n 815 i A L := by
  have v1 : vp_in (nI i + 1) n := vi (lit_n 1) (by omega) hn
  obtain ⟨x, y, e1, e2, e3, e4, e5⟩ := pair_scr (fv := fun z => z) (gv := fun z => z) (f := fX10_was A (A 0 (jx (nI i + 1)))) (g := fun C => fX11_was C (A 0 (jx (nI i + 1)))) (fun _ => A) (fun C _ => C) h (fun C hC => m_was hC (A 0 (jx (nI i + 1)))) (fun _ _ => Fr.rf) (fun _ _ _ => Fr.rf)
  have e3 : x = y := e3
  have e4 : Rel A A := e4
  have k1 := kX10_was 996 n A L (A 0 (jx (nI i + 1))) e1
  have k2 := kX11_was 997 n A L (A 0 (jx (nI i + 1))) e2
  refine jWP.intro (pr := pL_law) (pc := 815) ?_
  refine y_mask <| x_aload rfl <| x_aload rfl <| x_iload rfl <| x_push <| x_iadd <| x_iald rfl v1 <| y_invV1 (Nat.le_of_ble_eq_true rfl) rfl (Nat.le_of_ble_eq_true rfl) <| jEv.exI k1 <| x_aload rfl <| x_aload rfl <| x_iload rfl <| x_push <| x_iadd <| x_iald rfl v1 <| y_invV1 (Nat.le_of_ble_eq_true rfl) rfl (Nat.le_of_ble_eq_true rfl) <| jEv.exI k2 <| y_cmp_eq (fun _ => ?_) (fun q => absurd e3 q)
  exact next A L e4
set_option maxRecDepth 20000 in
theorem law_838 {n i : Nat} {A : jA3} {L : jL3} (hn : n ≤ 3584) (hi : i + 7 ≤ n) (h : Rel A A) (next : ∀ A2 L2, Rel A2 A2 → WL n 1815 i A2 L2) : WL n 838 i A L := by
  have v1 : vp_in (nI i + 1) n := vi (lit_n 1) (by omega) hn
  have v2 : vp_in (nI i + 2) n := vi (lit_n 2) (by omega) hn
  obtain ⟨x, y, e1, e2, e3, e4, e5⟩ := pair_scr (fv := fun z => z) (gv := fun z => z) (f := fX10_list A (A 0 (jx (nI i + 1))) (A 0 (jx (nI i + 2)))) (g := fun C => fX11_list C (A 0 (jx (nI i + 1))) (A 0 (jx (nI i + 2)))) (fun _ => A) (fun C _ => C) h (fun C hC => m_list hC (A 0 (jx (nI i + 1))) (A 0 (jx (nI i + 2)))) (fun _ _ => Fr.rf) (fun _ _ _ => Fr.rf)
  have e3 : x = y := e3
  have e4 : Rel A A := e4
  have k1 := kX10_list 997 n A L (A 0 (jx (nI i + 1))) (A 0 (jx (nI i + 2))) e1
  have k2 := kX11_list 998 n A L (A 0 (jx (nI i + 1))) (A 0 (jx (nI i + 2))) e2
  refine jWP.intro (pr := pL_law) (pc := 838) ?_
  refine y_mask <| x_aload rfl <| x_aload rfl <| x_iload rfl <| x_push <| x_iadd <| x_iald rfl v1 <| x_aload rfl <| x_iload rfl <| x_push <| x_iadd <| x_iald rfl v2 <| y_invV2 (Nat.le_of_ble_eq_true rfl) rfl (Nat.le_of_ble_eq_true rfl) <| jEv.exI k1 <| x_aload rfl <| x_aload rfl <| x_iload rfl <| x_push <| x_iadd <| x_iald rfl v1 <| x_aload rfl <| x_iload rfl <| x_push <| x_iadd <| x_iald rfl v2 <| y_invV2 (Nat.le_of_ble_eq_true rfl) rfl (Nat.le_of_ble_eq_true rfl) <| jEv.exI k2 <| y_cmp_eq (fun _ => ?_) (fun q => absurd e3 q)
  exact next A L e4
set_option maxRecDepth 20000 in
theorem law_871 {n i : Nat} {A : jA3} {L : jL3} (hn : n ≤ 3584) (hi : i + 7 ≤ n) (h : Rel A A) (next : ∀ A2 L2, Rel A2 A2 → WL n 1815 i A2 L2) : WL n 871 i A L := by
  have v1 : vp_in (nI i + 1) n := vi (lit_n 1) (by omega) hn
  have v2 : vp_in (nI i + 2) n := vi (lit_n 2) (by omega) hn
  obtain ⟨x, y, e1, e2, e3, e4, e5⟩ := pair_scr (fv := fun z => z) (gv := fun z => z) (f := fX10_bits A (A 0 (jx (nI i + 1))) (A 0 (jx (nI i + 2)))) (g := fun C => fX11_bits C (A 0 (jx (nI i + 1))) (A 0 (jx (nI i + 2)))) (fun _ => A) (fun C _ => C) h (fun C hC => m_bits hC (A 0 (jx (nI i + 1))) (A 0 (jx (nI i + 2)))) (fun _ _ => Fr.rf) (fun _ _ _ => Fr.rf)
  have e3 : x = y := e3
  have e4 : Rel A A := e4
  have k1 := kX10_bits 996 n A L (A 0 (jx (nI i + 1))) (A 0 (jx (nI i + 2))) e1
  have k2 := kX11_bits 997 n A L (A 0 (jx (nI i + 1))) (A 0 (jx (nI i + 2))) e2
  refine jWP.intro (pr := pL_law) (pc := 871) ?_
  refine y_mask <| x_aload rfl <| x_aload rfl <| x_iload rfl <| x_push <| x_iadd <| x_iald rfl v1 <| x_aload rfl <| x_iload rfl <| x_push <| x_iadd <| x_iald rfl v2 <| y_invV2 (Nat.le_of_ble_eq_true rfl) rfl (Nat.le_of_ble_eq_true rfl) <| jEv.exI k1 <| x_aload rfl <| x_aload rfl <| x_iload rfl <| x_push <| x_iadd <| x_iald rfl v1 <| x_aload rfl <| x_iload rfl <| x_push <| x_iadd <| x_iald rfl v2 <| y_invV2 (Nat.le_of_ble_eq_true rfl) rfl (Nat.le_of_ble_eq_true rfl) <| jEv.exI k2 <| y_cmp_eq (fun _ => ?_) (fun q => absurd e3 q)
  exact next A L e4
