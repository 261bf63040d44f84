/-! THE LAW: cases -/
set_option maxRecDepth 20000 in
theorem law_1392 {n i : Nat} {A : jA3} {L : jL3} (hn : n ≤ 3584) (hi : i + 7 ≤ n) (h : Rel A A) (next : ∀ A2 L2, Rel A2 A2 → WL n 1815 i A2 L2) : WL n 1392 i A L := by
  have v1 : vp_in (nI i + 1) n := vi (lit_n 1) (by omega) hn
  have v2 : vp_in (nI i + 2) n := vi (lit_n 2) (by omega) hn
  have v3 : vp_in (nI i + 3) n := vi (lit_n 3) (by omega) hn
  obtain ⟨x, y, e1, e2, e3, e4, e5⟩ := pair_scr (fv := fun z => z.1) (gv := fun z => z.1) (f := fX10_news A (A 0 (jx (nI i + 1))) (A 0 (jx (nI i + 2))) (A 0 (jx (nI i + 3)))) (g := fun C => fX11_news C (A 0 (jx (nI i + 1))) (A 0 (jx (nI i + 2))) (A 0 (jx (nI i + 3)))) (fun z => z.2) (fun _ z => z.2) h (fun C hC => m_news hC (A 0 (jx (nI i + 1))) (A 0 (jx (nI i + 2))) (A 0 (jx (nI i + 3)))) (fun z e => (w_fX10_news e).wd rfl) (fun C z e => (w_fX11_news e).wd rfl)
  have e3 : x.1 = y.1 := e3
  have e4 : Rel y.2 y.2 := e4
  have k1 := kX10_news 996 n A L (A 0 (jx (nI i + 1))) (A 0 (jx (nI i + 2))) (A 0 (jx (nI i + 3))) e1
  have e5 : x.2 0 = A 0 := e5
  have k2 : jEv jtab 1000 248 [.ref 94, .int (x.2 0 (jx (nI i + 1))), .int (x.2 0 (jx (nI i + 2))), .int (x.2 0 (jx (nI i + 3)))] (Sh0 n, x.2, L) 0 0 (fun r M2 => r = some (.int y.1) ∧ M2 = (Sh0 n, y.2, L)) := by
    rw [e5]
    exact kX11_news 997 n x.2 L (A 0 (jx (nI i + 1))) (A 0 (jx (nI i + 2))) (A 0 (jx (nI i + 3))) e2
  refine jWP.intro (pr := pL_law) (pc := 1392) ?_
  refine y_mask <| x_aload rfl <| x_aload rfl <| x_iload rfl <| x_push <| x_iadd <| x_iald rfl v1 <| x_aload rfl <| x_iload rfl <| x_push <| x_iadd <| x_iald rfl v2 <| x_aload rfl <| x_iload rfl <| x_push <| x_iadd <| x_iald rfl v3 <| y_invV3 (Nat.le_of_ble_eq_true rfl) rfl (Nat.le_of_ble_eq_true rfl) <| jEv.exI k1 <| x_aload rfl <| x_aload rfl <| x_iload rfl <| x_push <| x_iadd <| x_iald rfl v1 <| x_aload rfl <| x_iload rfl <| x_push <| x_iadd <| x_iald rfl v2 <| x_aload rfl <| x_iload rfl <| x_push <| x_iadd <| x_iald rfl v3 <| y_invV3 (Nat.le_of_ble_eq_true rfl) rfl (Nat.le_of_ble_eq_true rfl) <| jEv.exI k2 <| y_cmp_eq (fun _ => ?_) (fun q => absurd e3 q)
  exact next y.2 L e4
set_option maxRecDepth 20000 in
theorem law_1435 {n i : Nat} {A : jA3} {L : jL3} (hn : n ≤ 3584) (hi : i + 7 ≤ n) (h : Rel A A) (next : ∀ A2 L2, Rel A2 A2 → WL n 1815 i A2 L2) : WL n 1435 i A L := by
  have v1 : vp_in (nI i + 1) n := vi (lit_n 1) (by omega) hn
  have v2 : vp_in (nI i + 2) n := vi (lit_n 2) (by omega) hn
  have v3 : vp_in (nI i + 3) n := vi (lit_n 3) (by omega) hn
  obtain ⟨x, y, e1, e2, e3, e4, e5⟩ := pair_scr (fv := fun z => z.1) (gv := fun z => z.1) (f := fX10_peace A (A 0 (jx (nI i + 1))) (A 0 (jx (nI i + 2))) (A 0 (jx (nI i + 3)))) (g := fun C => fX11_peace C (A 0 (jx (nI i + 1))) (A 0 (jx (nI i + 2))) (A 0 (jx (nI i + 3)))) (fun z => z.2) (fun _ z => z.2) h (fun C hC => m_peace hC (A 0 (jx (nI i + 1))) (A 0 (jx (nI i + 2))) (A 0 (jx (nI i + 3)))) (fun z e => (w_fX10_peace e).wd rfl) (fun C z e => (w_fX11_peace e).wd rfl)
  have e3 : x.1 = y.1 := e3
  have e4 : Rel y.2 y.2 := e4
  have k1 := kX10_peace 996 n A L (A 0 (jx (nI i + 1))) (A 0 (jx (nI i + 2))) (A 0 (jx (nI i + 3))) e1
  have e5 : x.2 0 = A 0 := e5
  have k2 : jEv jtab 1000 249 [.ref 94, .int (x.2 0 (jx (nI i + 1))), .int (x.2 0 (jx (nI i + 2))), .int (x.2 0 (jx (nI i + 3)))] (Sh0 n, x.2, L) 0 0 (fun r M2 => r = some (.int y.1) ∧ M2 = (Sh0 n, y.2, L)) := by
    rw [e5]
    exact kX11_peace 997 n x.2 L (A 0 (jx (nI i + 1))) (A 0 (jx (nI i + 2))) (A 0 (jx (nI i + 3))) e2
  refine jWP.intro (pr := pL_law) (pc := 1435) ?_
  refine y_mask <| x_aload rfl <| x_aload rfl <| x_iload rfl <| x_push <| x_iadd <| x_iald rfl v1 <| x_aload rfl <| x_iload rfl <| x_push <| x_iadd <| x_iald rfl v2 <| x_aload rfl <| x_iload rfl <| x_push <| x_iadd <| x_iald rfl v3 <| y_invV3 (Nat.le_of_ble_eq_true rfl) rfl (Nat.le_of_ble_eq_true rfl) <| jEv.exI k1 <| x_aload rfl <| x_aload rfl <| x_iload rfl <| x_push <| x_iadd <| x_iald rfl v1 <| x_aload rfl <| x_iload rfl <| x_push <| x_iadd <| x_iald rfl v2 <| x_aload rfl <| x_iload rfl <| x_push <| x_iadd <| x_iald rfl v3 <| y_invV3 (Nat.le_of_ble_eq_true rfl) rfl (Nat.le_of_ble_eq_true rfl) <| jEv.exI k2 <| y_cmp_eq (fun _ => ?_) (fun q => absurd e3 q)
  exact next y.2 L e4
set_option maxRecDepth 20000 in
theorem law_1478 {n i : Nat} {A : jA3} {L : jL3} (hn : n ≤ 3584) (hi : i + 7 ≤ n) (h : Rel A A) (next : ∀ A2 L2, Rel A2 A2 → WL n 1815 i A2 L2) : WL n 1478 i A L := by
  have v1 : vp_in (nI i + 1) n := vi (lit_n 1) (by omega) hn
  have v2 : vp_in (nI i + 2) n := vi (lit_n 2) (by omega) hn
  have v3 : vp_in (nI i + 3) n := vi (lit_n 3) (by omega) hn
  obtain ⟨x, y, e1, e2, e3, e4, e5⟩ := pair_scr (fv := fun z => z.1) (gv := fun z => z.1) (f := fX10_key A (A 0 (jx (nI i + 1))) (A 0 (jx (nI i + 2))) (A 0 (jx (nI i + 3)))) (g := fun C => fX11_key C (A 0 (jx (nI i + 1))) (A 0 (jx (nI i + 2))) (A 0 (jx (nI i + 3)))) (fun z => z.2) (fun _ z => z.2) h (fun C hC => m_key hC (A 0 (jx (nI i + 1))) (A 0 (jx (nI i + 2))) (A 0 (jx (nI i + 3)))) (fun z e => (w_fX10_key e).wd rfl) (fun C z e => (w_fX11_key e).wd rfl)
  have e3 : x.1 = y.1 := e3
  have e4 : Rel y.2 y.2 := e4
  have k1 := kX10_key 995 n A L (A 0 (jx (nI i + 1))) (A 0 (jx (nI i + 2))) (A 0 (jx (nI i + 3))) e1
  have e5 : x.2 0 = A 0 := e5
  have k2 : jEv jtab 1000 250 [.ref 94, .int (x.2 0 (jx (nI i + 1))), .int (x.2 0 (jx (nI i + 2))), .int (x.2 0 (jx (nI i + 3)))] (Sh0 n, x.2, L) 0 0 (fun r M2 => r = some (.int y.1) ∧ M2 = (Sh0 n, y.2, L)) := by
    rw [e5]
    exact kX11_key 997 n x.2 L (A 0 (jx (nI i + 1))) (A 0 (jx (nI i + 2))) (A 0 (jx (nI i + 3))) e2
  refine jWP.intro (pr := pL_law) (pc := 1478) ?_
  refine y_mask <| x_aload rfl <| x_aload rfl <| x_iload rfl <| x_push <| x_iadd <| x_iald rfl v1 <| x_aload rfl <| x_iload rfl <| x_push <| x_iadd <| x_iald rfl v2 <| x_aload rfl <| x_iload rfl <| x_push <| x_iadd <| x_iald rfl v3 <| y_invV3 (Nat.le_of_ble_eq_true rfl) rfl (Nat.le_of_ble_eq_true rfl) <| jEv.exI k1 <| x_aload rfl <| x_aload rfl <| x_iload rfl <| x_push <| x_iadd <| x_iald rfl v1 <| x_aload rfl <| x_iload rfl <| x_push <| x_iadd <| x_iald rfl v2 <| x_aload rfl <| x_iload rfl <| x_push <| x_iadd <| x_iald rfl v3 <| y_invV3 (Nat.le_of_ble_eq_true rfl) rfl (Nat.le_of_ble_eq_true rfl) <| jEv.exI k2 <| y_cmp_eq (fun _ => ?_) (fun q => absurd e3 q)
  exact next y.2 L e4
set_option maxRecDepth 20000 in
theorem law_1521 {n i : Nat} {A : jA3} {L : jL3} (hn : n ≤ 3584) (hi : i + 7 ≤ n) (h : Rel A A) (next : ∀ A2 L2, Rel A2 A2 → WL n 1815 i A2 L2) : WL n 1521 i A L := by
  have v1 : vp_in (nI i + 1) n := vi (lit_n 1) (by omega) hn
  have v2 : vp_in (nI i + 2) n := vi (lit_n 2) (by omega) hn
  obtain ⟨x, y, e1, e2, e3, e4, e5⟩ := pair_scr (fv := fun z => z.1) (gv := fun z => z.1) (f := fX10_drawn A (A 0 (jx (nI i + 1))) (A 0 (jx (nI i + 2)))) (g := fun C => fX11_drawn C L (A 0 (jx (nI i + 1))) (A 0 (jx (nI i + 2)))) (fun z => z.2) (fun _ z => z.2.1) h (fun C hC => m_drawn hC (A 0 (jx (nI i + 1))) (A 0 (jx (nI i + 2)))) (fun z e => (w_fX10_drawn e).wd rfl) (fun C z e => (w_fX11_drawn e).wd rfl)
  have e3 : x.1 = y.1 := e3
  have e4 : Rel y.2.1 y.2.1 := e4
  have k1 := kX10_drawn 992 n A L (A 0 (jx (nI i + 1))) (A 0 (jx (nI i + 2))) e1
  have e5 : x.2 0 = A 0 := e5
  have k2 : jEv jtab 1000 251 [.ref 94, .int (x.2 0 (jx (nI i + 1))), .int (x.2 0 (jx (nI i + 2)))] (Sh0 n, x.2, L) 0 0 (fun r M2 => r = some (.int y.1) ∧ M2 = (Sh0 n, y.2.1, y.2.2)) := by
    rw [e5]
    exact kX11_drawn 993 n x.2 L (A 0 (jx (nI i + 1))) (A 0 (jx (nI i + 2))) e2
  refine jWP.intro (pr := pL_law) (pc := 1521) ?_
  refine y_mask <| x_aload rfl <| x_aload rfl <| x_iload rfl <| x_push <| x_iadd <| x_iald rfl v1 <| x_aload rfl <| x_iload rfl <| x_push <| x_iadd <| x_iald rfl v2 <| y_invV2 (Nat.le_of_ble_eq_true rfl) rfl (Nat.le_of_ble_eq_true rfl) <| jEv.exI k1 <| x_aload rfl <| x_aload rfl <| x_iload rfl <| x_push <| x_iadd <| x_iald rfl v1 <| x_aload rfl <| x_iload rfl <| x_push <| x_iadd <| x_iald rfl v2 <| y_invV2 (Nat.le_of_ble_eq_true rfl) rfl (Nat.le_of_ble_eq_true rfl) <| jEv.exI k2 <| y_cmp_eq (fun _ => ?_) (fun q => absurd e3 q)
  exact next y.2.1 y.2.2 e4
set_option maxRecDepth 20000 in
theorem law_1554 {n i : Nat} {A : jA3} {L : jL3} (hn : n ≤ 3584) (hi : i + 7 ≤ n) (h : Rel A A) (next : ∀ A2 L2, Rel A2 A2 → WL n 1815 i A2 L2) : WL n 1554 i A L := by
  obtain ⟨x, y, e1, e2, e3, e4, e5⟩ := pair_mut (fv := fun z => z.1) (gv := fun z => z.1) (f := fX10_image A) (g := fun C => fX11_image C) (fun z => z.2) (fun _ z => z.2) h (fun C hC => (m_image hC).mono fun _ _ q => ⟨q.1, q.2.1⟩) (fun z e => by obtain ⟨a, b, e1, -, q⟩ := m_image h; rw [e] at e1; obtain rfl := Option.some.inj e1; exact q.2.2.wd rfl) (fun C z e => (w_fX11_image e).wd rfl)
  have e3 : x.1 = y.1 := e3
  have e4 : Rel y.2 y.2 := e4
  have k1 := kX10_image 997 n A L  e1
  have k2 := kX11_image 999 n x.2 L  e2
  refine jWP.intro (pr := pL_law) (pc := 1554) ?_
  refine y_mask <| x_aload rfl <| y_invV0 (Nat.le_of_ble_eq_true rfl) rfl (Nat.le_of_ble_eq_true rfl) <| jEv.exI k1 <| x_aload rfl <| y_invV0 (Nat.le_of_ble_eq_true rfl) rfl (Nat.le_of_ble_eq_true rfl) <| jEv.exI k2 <| y_cmp_eq (fun _ => ?_) (fun q => absurd e3 q)
  exact next y.2 L e4
set_option maxRecDepth 20000 in
theorem law_1567 {n i : Nat} {A : jA3} {L : jL3} (hn : n ≤ 3584) (hi : i + 7 ≤ n) (h : Rel A A) (next : ∀ A2 L2, Rel A2 A2 → WL n 1815 i A2 L2) : WL n 1567 i A L := by
  obtain ⟨x, y, e1, e2, e3, e4, e5⟩ := pair_mut (fv := fun z => z.1) (gv := fun z => z.1) (f := fX10_back A) (g := fun C => fX11_back C) (fun z => z.2) (fun _ z => z.2) h (fun C hC => (m_back hC).mono fun _ _ q => ⟨q.1, q.2.1⟩) (fun z e => by obtain ⟨a, b, e1, -, q⟩ := m_back h; rw [e] at e1; obtain rfl := Option.some.inj e1; exact q.2.2.wd rfl) (fun C z e => (w_fX11_back e).wd rfl)
  have e3 : x.1 = y.1 := e3
  have e4 : Rel y.2 y.2 := e4
  have k1 := kX10_back 997 n A L  e1
  have k2 := kX11_back 999 n x.2 L  e2
  refine jWP.intro (pr := pL_law) (pc := 1567) ?_
  refine y_mask <| x_aload rfl <| y_invV0 (Nat.le_of_ble_eq_true rfl) rfl (Nat.le_of_ble_eq_true rfl) <| jEv.exI k1 <| x_aload rfl <| y_invV0 (Nat.le_of_ble_eq_true rfl) rfl (Nat.le_of_ble_eq_true rfl) <| jEv.exI k2 <| y_cmp_eq (fun _ => ?_) (fun q => absurd e3 q)
  exact next y.2 L e4
set_option maxRecDepth 20000 in
theorem law_1580 {n i : Nat} {A : jA3} {L : jL3} (hn : n ≤ 3584) (hi : i + 7 ≤ n) (h : Rel A A) (next : ∀ A2 L2, Rel A2 A2 → WL n 1815 i A2 L2) : WL n 1580 i A L := by
  have v1 : vp_in (nI i + 1) n := vi (lit_n 1) (by omega) hn
  have v2 : vp_in (nI i + 2) n := vi (lit_n 2) (by omega) hn
  have v3 : vp_in (nI i + 3) n := vi (lit_n 3) (by omega) hn
  obtain ⟨x, y, e1, e2, e3, e4, e5⟩ := pair_mut (fv := fun z => z.1) (gv := fun z => z.1) (f := fX10_sheet A (A 0 (jx (nI i + 1))) (A 0 (jx (nI i + 2))) (A 0 (jx (nI i + 3)))) (g := fun C => fX11_sheet C (A 0 (jx (nI i + 1))) (A 0 (jx (nI i + 2))) (A 0 (jx (nI i + 3)))) (fun z => z.2) (fun _ z => z.2) h (fun C hC => (m_sheet hC (A 0 (jx (nI i + 1))) (A 0 (jx (nI i + 2))) (A 0 (jx (nI i + 3)))).mono fun _ _ q => ⟨q.1, q.2.1⟩) (fun z e => by obtain ⟨a, b, e1, -, q⟩ := m_sheet h (A 0 (jx (nI i + 1))) (A 0 (jx (nI i + 2))) (A 0 (jx (nI i + 3))); rw [e] at e1; obtain rfl := Option.some.inj e1; exact q.2.2.wd rfl) (fun C z e => (w_fX11_sheet e).wd rfl)
  have e3 : x.1 = y.1 := e3
  have e4 : Rel y.2 y.2 := e4
  have k1 := kX10_sheet 997 n A L (A 0 (jx (nI i + 1))) (A 0 (jx (nI i + 2))) (A 0 (jx (nI i + 3))) e1
  have e5 : x.2 0 = A 0 := e5
  have k2 : jEv jtab 1000 255 [.ref 94, .int (x.2 0 (jx (nI i + 1))), .int (x.2 0 (jx (nI i + 2))), .int (x.2 0 (jx (nI i + 3)))] (Sh0 n, x.2, L) 0 0 (fun r M2 => r = some (.int y.1) ∧ M2 = (Sh0 n, y.2, L)) := by
    rw [e5]
    exact kX11_sheet 997 n x.2 L (A 0 (jx (nI i + 1))) (A 0 (jx (nI i + 2))) (A 0 (jx (nI i + 3))) e2
  refine jWP.intro (pr := pL_law) (pc := 1580) ?_
  refine y_mask <| x_aload rfl <| x_aload rfl <| x_iload rfl <| x_push <| x_iadd <| x_iald rfl v1 <| x_aload rfl <| x_iload rfl <| x_push <| x_iadd <| x_iald rfl v2 <| x_aload rfl <| x_iload rfl <| x_push <| x_iadd <| x_iald rfl v3 <| y_invV3 (Nat.le_of_ble_eq_true rfl) rfl (Nat.le_of_ble_eq_true rfl) <| jEv.exI k1 <| x_aload rfl <| x_aload rfl <| x_iload rfl <| x_push <| x_iadd <| x_iald rfl v1 <| x_aload rfl <| x_iload rfl <| x_push <| x_iadd <| x_iald rfl v2 <| x_aload rfl <| x_iload rfl <| x_push <| x_iadd <| x_iald rfl v3 <| y_invV3 (Nat.le_of_ble_eq_true rfl) rfl (Nat.le_of_ble_eq_true rfl) <| jEv.exI k2 <| y_cmp_eq (fun _ => ?_) (fun q => absurd e3 q)
  exact next y.2 L e4
set_option maxRecDepth 20000 in
theorem law_1623 {n i : Nat} {A : jA3} {L : jL3} (hn : n ≤ 3584) (hi : i + 7 ≤ n) (h : Rel A A) (next : ∀ A2 L2, Rel A2 A2 → WL n 1815 i A2 L2) : WL n 1623 i A L := by
  have v1 : vp_in (nI i + 1) n := vi (lit_n 1) (by omega) hn
  have v2 : vp_in (nI i + 2) n := vi (lit_n 2) (by omega) hn
  have v3 : vp_in (nI i + 3) n := vi (lit_n 3) (by omega) hn
  obtain ⟨x, y, e1, e2, e3, e4, e5⟩ := pair_mut (fv := fun z => z.1) (gv := fun z => z.1) (f := fX10_cell A (A 0 (jx (nI i + 1))) (A 0 (jx (nI i + 2))) (A 0 (jx (nI i + 3)))) (g := fun C => fX11_cell C (A 0 (jx (nI i + 1))) (A 0 (jx (nI i + 2))) (A 0 (jx (nI i + 3)))) (fun z => z.2) (fun _ z => z.2) h (fun C hC => (m_cell hC (A 0 (jx (nI i + 1))) (A 0 (jx (nI i + 2))) (A 0 (jx (nI i + 3)))).mono fun _ _ q => ⟨q.1, q.2.1⟩) (fun z e => by obtain ⟨a, b, e1, -, q⟩ := m_cell h (A 0 (jx (nI i + 1))) (A 0 (jx (nI i + 2))) (A 0 (jx (nI i + 3))); rw [e] at e1; obtain rfl := Option.some.inj e1; exact q.2.2.wd rfl) (fun C z e => (w_fX11_cell e).wd rfl)
  have e3 : x.1 = y.1 := e3
  have e4 : Rel y.2 y.2 := e4
  have k1 := kX10_cell 998 n A L (A 0 (jx (nI i + 1))) (A 0 (jx (nI i + 2))) (A 0 (jx (nI i + 3))) e1
  have e5 : x.2 0 = A 0 := e5
  have k2 : jEv jtab 1000 256 [.ref 94, .int (x.2 0 (jx (nI i + 1))), .int (x.2 0 (jx (nI i + 2))), .int (x.2 0 (jx (nI i + 3)))] (Sh0 n, x.2, L) 0 0 (fun r M2 => r = some (.int y.1) ∧ M2 = (Sh0 n, y.2, L)) := by
    rw [e5]
    exact kX11_cell 997 n x.2 L (A 0 (jx (nI i + 1))) (A 0 (jx (nI i + 2))) (A 0 (jx (nI i + 3))) e2
  refine jWP.intro (pr := pL_law) (pc := 1623) ?_
  refine y_mask <| x_aload rfl <| x_aload rfl <| x_iload rfl <| x_push <| x_iadd <| x_iald rfl v1 <| x_aload rfl <| x_iload rfl <| x_push <| x_iadd <| x_iald rfl v2 <| x_aload rfl <| x_iload rfl <| x_push <| x_iadd <| x_iald rfl v3 <| y_invV3 (Nat.le_of_ble_eq_true rfl) rfl (Nat.le_of_ble_eq_true rfl) <| jEv.exI k1 <| x_aload rfl <| x_aload rfl <| x_iload rfl <| x_push <| x_iadd <| x_iald rfl v1 <| x_aload rfl <| x_iload rfl <| x_push <| x_iadd <| x_iald rfl v2 <| x_aload rfl <| x_iload rfl <| x_push <| x_iadd <| x_iald rfl v3 <| y_invV3 (Nat.le_of_ble_eq_true rfl) rfl (Nat.le_of_ble_eq_true rfl) <| jEv.exI k2 <| y_cmp_eq (fun _ => ?_) (fun q => absurd e3 q)
  exact next y.2 L e4
set_option maxRecDepth 20000 in
theorem law_1666 {n i : Nat} {A : jA3} {L : jL3} (hn : n ≤ 3584) (hi : i + 7 ≤ n) (h : Rel A A) (next : ∀ A2 L2, Rel A2 A2 → WL n 1815 i A2 L2) : WL n 1666 i A L := by
  have v1 : vp_in (nI i + 1) n := vi (lit_n 1) (by omega) hn
  have v2 : vp_in (nI i + 2) n := vi (lit_n 2) (by omega) hn
  have v3 : vp_in (nI i + 3) n := vi (lit_n 3) (by omega) hn
  have v4 : vp_in (nI i + 4) n := vi (lit_n 4) (by omega) hn
  have v5 : vp_in (nI i + 5) n := vi (lit_n 5) (by omega) hn
  obtain ⟨x, y, e1, e2, e3, e4, e5⟩ := pair_mut (fv := fun z => z.1) (gv := fun z => z.1) (f := fX10_copy A (A 0 (jx (nI i + 1))) (A 0 (jx (nI i + 2))) (A 0 (jx (nI i + 3))) (A 0 (jx (nI i + 4))) (A 0 (jx (nI i + 5)))) (g := fun C => fX11_copy C (A 0 (jx (nI i + 1))) (A 0 (jx (nI i + 2))) (A 0 (jx (nI i + 3))) (A 0 (jx (nI i + 4))) (A 0 (jx (nI i + 5)))) (fun z => z.2) (fun _ z => z.2) h (fun C hC => (m_copy hC (A 0 (jx (nI i + 1))) (A 0 (jx (nI i + 2))) (A 0 (jx (nI i + 3))) (A 0 (jx (nI i + 4))) (A 0 (jx (nI i + 5)))).mono fun _ _ q => ⟨q.1, q.2.1⟩) (fun z e => by obtain ⟨a, b, e1, -, q⟩ := m_copy h (A 0 (jx (nI i + 1))) (A 0 (jx (nI i + 2))) (A 0 (jx (nI i + 3))) (A 0 (jx (nI i + 4))) (A 0 (jx (nI i + 5))); rw [e] at e1; obtain rfl := Option.some.inj e1; exact q.2.2.wd rfl) (fun C z e => (w_fX11_copy e).wd rfl)
  have e3 : x.1 = y.1 := e3
  have e4 : Rel y.2 y.2 := e4
  have k1 := kX10_copy 998 n A L (A 0 (jx (nI i + 1))) (A 0 (jx (nI i + 2))) (A 0 (jx (nI i + 3))) (A 0 (jx (nI i + 4))) (A 0 (jx (nI i + 5))) e1
  have e5 : x.2 0 = A 0 := e5
  have k2 : jEv jtab 1000 257 [.ref 94, .int (x.2 0 (jx (nI i + 1))), .int (x.2 0 (jx (nI i + 2))), .int (x.2 0 (jx (nI i + 3))), .int (x.2 0 (jx (nI i + 4))), .int (x.2 0 (jx (nI i + 5)))] (Sh0 n, x.2, L) 0 0 (fun r M2 => r = some (.int y.1) ∧ M2 = (Sh0 n, y.2, L)) := by
    rw [e5]
    exact kX11_copy 997 n x.2 L (A 0 (jx (nI i + 1))) (A 0 (jx (nI i + 2))) (A 0 (jx (nI i + 3))) (A 0 (jx (nI i + 4))) (A 0 (jx (nI i + 5))) e2
  refine jWP.intro (pr := pL_law) (pc := 1666) ?_
  refine y_mask <| x_aload rfl <| x_aload rfl <| x_iload rfl <| x_push <| x_iadd <| x_iald rfl v1 <| x_aload rfl <| x_iload rfl <| x_push <| x_iadd <| x_iald rfl v2 <| x_aload rfl <| x_iload rfl <| x_push <| x_iadd <| x_iald rfl v3 <| x_aload rfl <| x_iload rfl <| x_push <| x_iadd <| x_iald rfl v4 <| x_aload rfl <| x_iload rfl <| x_push <| x_iadd <| x_iald rfl v5 <| y_invV5 (Nat.le_of_ble_eq_true rfl) rfl (Nat.le_of_ble_eq_true rfl) <| jEv.exI k1 <| x_aload rfl <| x_aload rfl <| x_iload rfl <| x_push <| x_iadd <| x_iald rfl v1 <| x_aload rfl <| x_iload rfl <| x_push <| x_iadd <| x_iald rfl v2 <| x_aload rfl <| x_iload rfl <| y_mask <| y_goto ?_
  refine jWP.intro (pr := pL_law) (pc := 1708) ?_
  refine y_mask <| x_push <| x_iadd <| x_iald rfl v3 <| x_aload rfl <| x_iload rfl <| x_push <| x_iadd <| x_iald rfl v4 <| x_aload rfl <| x_iload rfl <| x_push <| x_iadd <| x_iald rfl v5 <| y_invV5 (Nat.le_of_ble_eq_true rfl) rfl (Nat.le_of_ble_eq_true rfl) <| jEv.exI k2 <| y_cmp_eq (fun _ => ?_) (fun q => absurd e3 q)
  exact next y.2 L e4
set_option maxRecDepth 20000 in
theorem law_1729 {n i : Nat} {A : jA3} {L : jL3} (hn : n ≤ 3584) (hi : i + 7 ≤ n) (h : Rel A A) (next : ∀ A2 L2, Rel A2 A2 → WL n 1815 i A2 L2) : WL n 1729 i A L := by
  have v1 : vp_in (nI i + 1) n := vi (lit_n 1) (by omega) hn
  have v2 : vp_in (nI i + 2) n := vi (lit_n 2) (by omega) hn
  have v3 : vp_in (nI i + 3) n := vi (lit_n 3) (by omega) hn
  have v4 : vp_in (nI i + 4) n := vi (lit_n 4) (by omega) hn
  obtain ⟨x, y, e1, e2, e3, e4, e5⟩ := pair_mut (fv := fun z => z.1) (gv := fun z => z.1) (f := fX10_sayingsBy A (A 0 (jx (nI i + 1))) (A 0 (jx (nI i + 2))) (A 0 (jx (nI i + 3))) (A 0 (jx (nI i + 4)))) (g := fun C => fX11_sayingsBy C (A 0 (jx (nI i + 1))) (A 0 (jx (nI i + 2))) (A 0 (jx (nI i + 3))) (A 0 (jx (nI i + 4)))) (fun z => z.2) (fun _ z => z.2) h (fun C hC => m_sayingsBy hC (A 0 (jx (nI i + 1))) (A 0 (jx (nI i + 2))) (A 0 (jx (nI i + 3))) (A 0 (jx (nI i + 4)))) (fun z e => (w_fX10_sayingsBy e).wd rfl) (fun C z e => (w_fX11_sayingsBy e).wd rfl)
  have e3 : x.1 = y.1 := e3
  have e4 : Rel y.2 y.2 := e4
  have k1 := kX10_sayingsBy 997 n A L (A 0 (jx (nI i + 1))) (A 0 (jx (nI i + 2))) (A 0 (jx (nI i + 3))) (A 0 (jx (nI i + 4))) e1
  have e5 : x.2 0 = A 0 := e5
  have k2 : jEv jtab 1000 258 [.ref 94, .int (x.2 0 (jx (nI i + 1))), .int (x.2 0 (jx (nI i + 2))), .int (x.2 0 (jx (nI i + 3))), .int (x.2 0 (jx (nI i + 4)))] (Sh0 n, x.2, L) 0 0 (fun r M2 => r = some (.int y.1) ∧ M2 = (Sh0 n, y.2, L)) := by
    rw [e5]
    exact kX11_sayingsBy 997 n x.2 L (A 0 (jx (nI i + 1))) (A 0 (jx (nI i + 2))) (A 0 (jx (nI i + 3))) (A 0 (jx (nI i + 4))) e2
  refine jWP.intro (pr := pL_law) (pc := 1729) ?_
  refine y_mask <| x_aload rfl <| x_aload rfl <| x_iload rfl <| x_push <| x_iadd <| x_iald rfl v1 <| x_aload rfl <| x_iload rfl <| x_push <| x_iadd <| x_iald rfl v2 <| x_aload rfl <| x_iload rfl <| x_push <| x_iadd <| x_iald rfl v3 <| x_aload rfl <| x_iload rfl <| x_push <| x_iadd <| x_iald rfl v4 <| y_invV4 (Nat.le_of_ble_eq_true rfl) rfl (Nat.le_of_ble_eq_true rfl) <| jEv.exI k1 <| x_aload rfl <| x_aload rfl <| x_iload rfl <| x_push <| x_iadd <| x_iald rfl v1 <| x_aload rfl <| x_iload rfl <| x_push <| x_iadd <| x_iald rfl v2 <| x_aload rfl <| x_iload rfl <| x_push <| x_iadd <| x_iald rfl v3 <| x_aload rfl <| x_iload rfl <| y_mask <| y_goto ?_
  refine jWP.intro (pr := pL_law) (pc := 1771) ?_
  refine y_mask <| x_push <| x_iadd <| x_iald rfl v4 <| y_invV4 (Nat.le_of_ble_eq_true rfl) rfl (Nat.le_of_ble_eq_true rfl) <| jEv.exI k2 <| y_cmp_eq (fun _ => ?_) (fun q => absurd e3 q)
  exact next y.2 L e4
set_option maxRecDepth 20000 in
theorem law_1782 {n i : Nat} {A : jA3} {L : jL3} (hn : n ≤ 3584) (hi : i + 7 ≤ n) (h : Rel A A) (next : ∀ A2 L2, Rel A2 A2 → WL n 1815 i A2 L2) : WL n 1782 i A L := by
  have v1 : vp_in (nI i + 1) n := vi (lit_n 1) (by omega) hn
  have v2 : vp_in (nI i + 2) n := vi (lit_n 2) (by omega) hn
  obtain ⟨x, y, e1, e2, e3, e4, e5⟩ := pair_scr (fv := fun z => z) (gv := fun z => z) (f := fX10_taken A (A 0 (jx (nI i + 1))) (A 0 (jx (nI i + 2)))) (g := fun C => fX11_taken C (A 0 (jx (nI i + 1))) (A 0 (jx (nI i + 2)))) (fun _ => A) (fun C _ => C) h (fun C hC => m_taken hC (A 0 (jx (nI i + 1))) (A 0 (jx (nI i + 2)))) (fun _ _ => Fr.rf) (fun _ _ _ => Fr.rf)
  have e3 : x = y := e3
  have e4 : Rel A A := e4
  have k1 := kX10_taken 998 n A L (A 0 (jx (nI i + 1))) (A 0 (jx (nI i + 2))) e1
  have k2 := kX11_taken 997 n A L (A 0 (jx (nI i + 1))) (A 0 (jx (nI i + 2))) e2
  refine jWP.intro (pr := pL_law) (pc := 1782) ?_
  refine y_mask <| x_aload rfl <| x_aload rfl <| x_iload rfl <| x_push <| x_iadd <| x_iald rfl v1 <| x_aload rfl <| x_iload rfl <| x_push <| x_iadd <| x_iald rfl v2 <| y_invV2 (Nat.le_of_ble_eq_true rfl) rfl (Nat.le_of_ble_eq_true rfl) <| jEv.exI k1 <| x_aload rfl <| x_aload rfl <| x_iload rfl <| x_push <| x_iadd <| x_iald rfl v1 <| x_aload rfl <| x_iload rfl <| x_push <| x_iadd <| x_iald rfl v2 <| y_invV2 (Nat.le_of_ble_eq_true rfl) rfl (Nat.le_of_ble_eq_true rfl) <| jEv.exI k2 <| y_cmp_eq (fun _ => ?_) (fun q => absurd e3 q)
  exact next A L e4
