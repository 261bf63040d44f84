/-! THE START: the law's entry, and what the Statement gives there -/
def RS0 (n : Nat) : List jS := (Sh0 n).take 15
def RA0 (xs : Nat → Int32) : Nat → Nat → Int32 := fun k => match k with
  | 0 => xs
  | 1 => fun j => ([95, (-1), 4, (-18), (-17), (-2), 2, (-18), (-16), (-3), 3, (-18), (-17), (-5), 40, (-18), (-17), 90, (-1), 5, (-18), (-17), 1] : List Int32).getD j 0
  | 2 => fun j => ([0, 17, 22, 23] : List Int32).getD j 0
  | 3 => fun j => ([0, 0, 1] : List Int32).getD j 0
  | 4 => fun j => ([100, 100, 6] : List Int32).getD j 0
  | 5 => fun j => ([0, 0, (-9), 0, 0, 1] : List Int32).getD j 0
  | 6 => fun j => ([20, 9, 9, 9, 4095, 12] : List Int32).getD j 0
  | 7 => fun j => ([0, 0, 0, 1, 0, 4] : List Int32).getD j 0
  | 11 => fun j => ([102, 97, 114, 32, 119, 105, 110, 100, 32, 110, 111, 105, 115, 101, 32, 119, 111, 114, 100, 32, 115, 97, 105, 108, 32, 109, 105, 110, 117, 116, 101, 32] : List Int32).getD j 0
  | 12 => fun j => ([104, 97, 100, 32, 99, 104, 97, 108, 107, 32, 116, 97, 107, 101, 115, 32, 111, 114, 32, 97, 110, 100, 32, 110, 111, 116, 32] : List Int32).getD j 0
  | 13 => fun j => ([40, 41, 59, 43, 45, 42, 60, 61] : List Int32).getD j 0
  | _ => fun _ => 0
theorem ar_of {s : State} {args : Array Value} {ty : FieldType} (h : (Cond.arrayClass ty).before args s = true) (hra : ∀ cA, s.vm.findClass ("[" ++ ty.toString) = some cA → va_RA s cA ty) : ∃ cA, ArrOfT s cA ty ∧ va_RA s cA ty := by
  obtain ⟨cA, kA, comp, h1, h2, h3⟩ := Cond.arrayClass_spec h
  exact ⟨cA, fun n z => ⟨fun k h => (by cases h), kA, h2, comp, h3⟩, hra cA h1⟩
theorem ar_of2 {s : State} (h : jAO s) : ∃ cA, ArrOfT s cA (.array .int) ∧ va_RA s cA (.array .int) := by
  obtain ⟨comp, cA, kA, h1, -, h2, h3, h4⟩ := Jvm.Stand.arrayOver_specB h
  exact ⟨cA, fun n z => ⟨fun k h => (by cases h), kA, h2, comp, h3⟩, h4⟩
set_option maxRecDepth 20000 in
theorem env_K {s : State} {args : Array Value} (hts : ∀ w ∈ lw_tbl, w.before args s = true) : ∃ (D : va_G) (cT : FieldType → ClassId), va_K D vwCl [(cT .int, .int), (cT .byte, .byte), (cT .long, .long), (cT (.array .int), .array .int)] s := by
  obtain ⟨c0, i0, k0⟩ := u_known (C := RX0) (T := TX0) (N := 6) (n := 6) (fun w hw => hts w (okX0 w hw).1) (fun _ z => z) (hts _ tw_238)
  obtain ⟨c1, i1, k1⟩ := u_known (C := RX1) (T := TX1) (N := 4) (n := 4) (fun w hw => hts w (okX1 w hw).1) (fun _ z => z) (hts _ tw_311)
  obtain ⟨c2, i2, k2⟩ := u_known (C := RX2) (T := TX2) (N := 6) (n := 6) (fun w hw => hts w (okX2 w hw).1) (fun _ z => z) (hts _ tw_60)
  obtain ⟨c3, i3, k3⟩ := u_known (C := RX3) (T := TX3) (N := 5) (n := 5) (fun w hw => hts w (okX3 w hw).1) (fun _ z => z) (hts _ tw_268)
  obtain ⟨c4, i4, k4⟩ := u_known (C := RX4) (T := TX4) (N := 3) (n := 3) (fun w hw => hts w (okX4 w hw).1) (fun _ z => z) (hts _ tw_38)
  obtain ⟨c5, i5, k5⟩ := u_known (C := RX5) (T := TX5) (N := 6) (n := 6) (fun w hw => hts w (okX5 w hw).1) (fun _ z => z) (hts _ tw_66)
  obtain ⟨c6, i6, k6⟩ := u_known (C := RX6) (T := TX6) (N := 15) (n := 15) (fun w hw => hts w (okX6 w hw).1) (fun _ z => z) (hts _ tw_32)
  obtain ⟨c7, i7, k7⟩ := u_known (C := RX7) (T := TX7) (N := 3) (n := 3) (fun w hw => hts w (okX7 w hw).1) (fun _ z => z) (hts _ tw_291)
  obtain ⟨c8, i8, k8⟩ := u_known (C := RX8) (T := TX8) (N := 6) (n := 6) (fun w hw => hts w (okX8 w hw).1) (fun _ z => z) (hts _ tw_72)
  obtain ⟨c9, i9, k9⟩ := u_known (C := RX9) (T := TX9) (N := 4) (n := 4) (fun w hw => hts w (okX9 w hw).1) (fun _ z => z) (hts _ tw_213)
  obtain ⟨c10, i10, k10⟩ := u_known (C := RX10) (T := TX10) (N := 6) (n := 6) (fun w hw => hts w (okX10 w hw).1) (fun _ z => z) (hts _ tw_24)
  obtain ⟨c11, i11, k11⟩ := u_known (C := RX11) (T := TX11) (N := 57) (n := 57) (fun w hw => hts w (okX11 w hw).1) (fun _ z => z) (hts _ tw_1112)
  obtain ⟨aI, aI1, aI2⟩ := ar_of (ty := .int) (hts _ tw_58) (fun _ h => h)
  obtain ⟨aB, aB1, aB2⟩ := ar_of (ty := .byte) (hts _ tw_600) (fun _ h => h)
  obtain ⟨aJ, aJ1, aJ2⟩ := ar_of (ty := .long) (hts _ tw_1288) (fun _ h => h)
  obtain ⟨aA, aA1, aA2⟩ := ar_of2 (s := s) (Jvm.Stand.arrayOver_alikeB (Vm.Alike.refl _) (hts _ tw_124))
  refine ⟨(fun k => match k with
    | 0 => c0
    | 1 => c1
    | 2 => c2
    | 3 => c3
    | 4 => c4
    | 5 => c5
    | 6 => c6
    | 7 => c7
    | 8 => c8
    | 9 => c9
    | 10 => c10
    | _ => c11, fun k => match k with
    | 0 => i0
    | 1 => i1
    | 2 => i2
    | 3 => i3
    | 4 => i4
    | 5 => i5
    | 6 => i6
    | 7 => i7
    | 8 => i8
    | 9 => i9
    | 10 => i10
    | _ => i11), (fun ty => match ty with
    | .int => aI
    | .byte => aB
    | .long => aJ
    | _ => aA), ?_, ?_⟩
  · intro k q hq
    match k, hq with
    | 0, hq => cases hq; exact k0
    | 1, hq => cases hq; exact k1
    | 2, hq => cases hq; exact k2
    | 3, hq => cases hq; exact k3
    | 4, hq => cases hq; exact k4
    | 5, hq => cases hq; exact k5
    | 6, hq => cases hq; exact k6
    | 7, hq => cases hq; exact k7
    | 8, hq => cases hq; exact k8
    | 9, hq => cases hq; exact k9
    | 10, hq => cases hq; exact k10
    | 11, hq => cases hq; exact k11
    | k + 12, hq => simp [vwCl] at hq
  · intro k q hq
    match k, hq with
    | 0, hq => cases hq; exact ⟨aI1, aI2⟩
    | 1, hq => cases hq; exact ⟨aB1, aB2⟩
    | 2, hq => cases hq; exact ⟨aJ1, aJ2⟩
    | 3, hq => cases hq; exact ⟨aA1, aA2⟩
    | k + 4, hq => simp at hq
abbrev jnar : Cond := Jvm.Cond.and given_1 narrow_1
set_option maxRecDepth 20000 in
theorem tab_1 {s : State} {args : Array Value} {A : Nat → Prop} (hts : ∀ w ∈ lw_tbl, w.before args s = true) (hg : jnar.before args s = true) (hA : ∀ a : Nat, a < s.heap.size → ¬ A a) : ∃ t : Nat, t < s.heap.size ∧ va_Z "ThroughATrumpet$Laws" "FIRST" "[I" (.ref t) A s s.heap ∧ va_T .int t 23 (fun j => .int (([95, (-1), 4, (-18), (-17), (-2), 2, (-18), (-16), (-3), 3, (-18), (-17), (-5), 40, (-18), (-17), 90, (-1), 5, (-18), (-17), 1] : List Int32).getD j 0)) A s s.heap := by
  have hs := flat_of_before _ hg
  obtain ⟨t, ht, hT⟩ := va_Tof (tm := .static "ThroughATrumpet$Laws" "FIRST" "[I") (ty := .int) (N := 23) (f := fun j => .int (([95, (-1), 4, (-18), (-17), (-2), 2, (-18), (-16), (-3), 3, (-18), (-17), (-5), 40, (-18), (-17), 90, (-1), 5, (-18), (-17), 1] : List Int32).getD j 0)) (A := A) (Nat.lt_of_lt_of_le (Nat.lt_succ_self _) (Nat.le_of_ble_eq_true rfl)) (hs _ (List.mem_of_getElem? (i := 5) rfl)) (va_eqt (hs _ (List.mem_of_getElem? (i := 6) rfl))) (fun j hj => by
    match j, hj with
    | 0, _ => exact va_eqt (hs _ (List.mem_of_getElem? (i := 7) rfl))
    | 1, _ => exact va_eqt (hs _ (List.mem_of_getElem? (i := 8) rfl))
    | 2, _ => exact va_eqt (hs _ (List.mem_of_getElem? (i := 9) rfl))
    | 3, _ => exact va_eqt (hs _ (List.mem_of_getElem? (i := 10) rfl))
    | 4, _ => exact va_eqt (hs _ (List.mem_of_getElem? (i := 11) rfl))
    | 5, _ => exact va_eqt (hs _ (List.mem_of_getElem? (i := 12) rfl))
    | 6, _ => exact va_eqt (hs _ (List.mem_of_getElem? (i := 13) rfl))
    | 7, _ => exact va_eqt (hs _ (List.mem_of_getElem? (i := 14) rfl))
    | 8, _ => exact va_eqt (hs _ (List.mem_of_getElem? (i := 15) rfl))
    | 9, _ => exact va_eqt (hs _ (List.mem_of_getElem? (i := 16) rfl))
    | 10, _ => exact va_eqt (hs _ (List.mem_of_getElem? (i := 17) rfl))
    | 11, _ => exact va_eqt (hs _ (List.mem_of_getElem? (i := 18) rfl))
    | 12, _ => exact va_eqt (hs _ (List.mem_of_getElem? (i := 19) rfl))
    | 13, _ => exact va_eqt (hs _ (List.mem_of_getElem? (i := 20) rfl))
    | 14, _ => exact va_eqt (hs _ (List.mem_of_getElem? (i := 21) rfl))
    | 15, _ => exact va_eqt (hs _ (List.mem_of_getElem? (i := 22) rfl))
    | 16, _ => exact va_eqt (hs _ (List.mem_of_getElem? (i := 23) rfl))
    | 17, _ => exact va_eqt (hs _ (List.mem_of_getElem? (i := 24) rfl))
    | 18, _ => exact va_eqt (hs _ (List.mem_of_getElem? (i := 25) rfl))
    | 19, _ => exact va_eqt (hs _ (List.mem_of_getElem? (i := 26) rfl))
    | 20, _ => exact va_eqt (hs _ (List.mem_of_getElem? (i := 27) rfl))
    | 21, _ => exact va_eqt (hs _ (List.mem_of_getElem? (i := 28) rfl))
    | 22, _ => exact va_eqt (hs _ (List.mem_of_getElem? (i := 29) rfl))
    | j + 23, hj => exact absurd hj (by omega)) hA
  exact ⟨t, (by obtain ⟨cell, h1, -⟩ := hT; exact (Array.getElem?_eq_some_iff.mp h1).1), va_Zof (hts _ tw_126) (hts _ tw_4) ht hA, hT⟩
set_option maxRecDepth 20000 in
theorem tab_2 {s : State} {args : Array Value} {A : Nat → Prop} (hts : ∀ w ∈ lw_tbl, w.before args s = true) (hg : jnar.before args s = true) (hA : ∀ a : Nat, a < s.heap.size → ¬ A a) : ∃ t : Nat, t < s.heap.size ∧ va_Z "ThroughATrumpet$Laws" "FIRST_ENDS" "[I" (.ref t) A s s.heap ∧ va_T .int t 4 (fun j => .int (([0, 17, 22, 23] : List Int32).getD j 0)) A s s.heap := by
  have hs := flat_of_before _ hg
  obtain ⟨t, ht, hT⟩ := va_Tof (tm := .static "ThroughATrumpet$Laws" "FIRST_ENDS" "[I") (ty := .int) (N := 4) (f := fun j => .int (([0, 17, 22, 23] : List Int32).getD j 0)) (A := A) (Nat.lt_of_lt_of_le (Nat.lt_succ_self _) (Nat.le_of_ble_eq_true rfl)) (hs _ (List.mem_of_getElem? (i := 31) rfl)) (va_eqt (hs _ (List.mem_of_getElem? (i := 32) rfl))) (fun j hj => by
    match j, hj with
    | 0, _ => exact va_eqt (hs _ (List.mem_of_getElem? (i := 33) rfl))
    | 1, _ => exact va_eqt (hs _ (List.mem_of_getElem? (i := 34) rfl))
    | 2, _ => exact va_eqt (hs _ (List.mem_of_getElem? (i := 35) rfl))
    | 3, _ => exact va_eqt (hs _ (List.mem_of_getElem? (i := 36) rfl))
    | j + 4, hj => exact absurd hj (by omega)) hA
  exact ⟨t, (by obtain ⟨cell, h1, -⟩ := hT; exact (Array.getElem?_eq_some_iff.mp h1).1), va_Zof (hts _ tw_131) (hts _ tw_4) ht hA, hT⟩
set_option maxRecDepth 20000 in
theorem tab_3 {s : State} {args : Array Value} {A : Nat → Prop} (hts : ∀ w ∈ lw_tbl, w.before args s = true) (hg : jnar.before args s = true) (hA : ∀ a : Nat, a < s.heap.size → ¬ A a) : ∃ t : Nat, t < s.heap.size ∧ va_Z "ThroughATrumpet$Laws" "LEAST" "[I" (.ref t) A s s.heap ∧ va_T .int t 3 (fun j => .int (([0, 0, 1] : List Int32).getD j 0)) A s s.heap := by
  have hs := flat_of_before _ hg
  obtain ⟨t, ht, hT⟩ := va_Tof (tm := .static "ThroughATrumpet$Laws" "LEAST" "[I") (ty := .int) (N := 3) (f := fun j => .int (([0, 0, 1] : List Int32).getD j 0)) (A := A) (Nat.lt_of_lt_of_le (Nat.lt_succ_self _) (Nat.le_of_ble_eq_true rfl)) (hs _ (List.mem_of_getElem? (i := 61) rfl)) (va_eqt (hs _ (List.mem_of_getElem? (i := 62) rfl))) (fun j hj => by
    match j, hj with
    | 0, _ => exact va_eqt (hs _ (List.mem_of_getElem? (i := 63) rfl))
    | 1, _ => exact va_eqt (hs _ (List.mem_of_getElem? (i := 64) rfl))
    | 2, _ => exact va_eqt (hs _ (List.mem_of_getElem? (i := 65) rfl))
    | j + 3, hj => exact absurd hj (by omega)) hA
  exact ⟨t, (by obtain ⟨cell, h1, -⟩ := hT; exact (Array.getElem?_eq_some_iff.mp h1).1), va_Zof (hts _ tw_645) (hts _ tw_4) ht hA, hT⟩
set_option maxRecDepth 20000 in
theorem tab_4 {s : State} {args : Array Value} {A : Nat → Prop} (hts : ∀ w ∈ lw_tbl, w.before args s = true) (hg : jnar.before args s = true) (hA : ∀ a : Nat, a < s.heap.size → ¬ A a) : ∃ t : Nat, t < s.heap.size ∧ va_Z "ThroughATrumpet$Laws" "MOST" "[I" (.ref t) A s s.heap ∧ va_T .int t 3 (fun j => .int (([100, 100, 6] : List Int32).getD j 0)) A s s.heap := by
  have hs := flat_of_before _ hg
  obtain ⟨t, ht, hT⟩ := va_Tof (tm := .static "ThroughATrumpet$Laws" "MOST" "[I") (ty := .int) (N := 3) (f := fun j => .int (([100, 100, 6] : List Int32).getD j 0)) (A := A) (Nat.lt_of_lt_of_le (Nat.lt_succ_self _) (Nat.le_of_ble_eq_true rfl)) (hs _ (List.mem_of_getElem? (i := 67) rfl)) (va_eqt (hs _ (List.mem_of_getElem? (i := 68) rfl))) (fun j hj => by
    match j, hj with
    | 0, _ => exact va_eqt (hs _ (List.mem_of_getElem? (i := 69) rfl))
    | 1, _ => exact va_eqt (hs _ (List.mem_of_getElem? (i := 70) rfl))
    | 2, _ => exact va_eqt (hs _ (List.mem_of_getElem? (i := 71) rfl))
    | j + 3, hj => exact absurd hj (by omega)) hA
  exact ⟨t, (by obtain ⟨cell, h1, -⟩ := hT; exact (Array.getElem?_eq_some_iff.mp h1).1), va_Zof (hts _ tw_647) (hts _ tw_4) ht hA, hT⟩
set_option maxRecDepth 20000 in
theorem tab_5 {s : State} {args : Array Value} {A : Nat → Prop} (hts : ∀ w ∈ lw_tbl, w.before args s = true) (hg : jnar.before args s = true) (hA : ∀ a : Nat, a < s.heap.size → ¬ A a) : ∃ t : Nat, t < s.heap.size ∧ va_Z "ThroughATrumpet$Pass" "LEAST" "[I" (.ref t) A s s.heap ∧ va_T .int t 6 (fun j => .int (([0, 0, (-9), 0, 0, 1] : List Int32).getD j 0)) A s s.heap := by
  have hs := flat_of_before _ hg
  obtain ⟨t, ht, hT⟩ := va_Tof (tm := .static "ThroughATrumpet$Pass" "LEAST" "[I") (ty := .int) (N := 6) (f := fun j => .int (([0, 0, (-9), 0, 0, 1] : List Int32).getD j 0)) (A := A) (Nat.lt_of_lt_of_le (Nat.lt_succ_self _) (Nat.le_of_ble_eq_true rfl)) (hs _ (List.mem_of_getElem? (i := 38) rfl)) (va_eqt (hs _ (List.mem_of_getElem? (i := 39) rfl))) (fun j hj => by
    match j, hj with
    | 0, _ => exact va_eqt (hs _ (List.mem_of_getElem? (i := 40) rfl))
    | 1, _ => exact va_eqt (hs _ (List.mem_of_getElem? (i := 41) rfl))
    | 2, _ => exact va_eqt (hs _ (List.mem_of_getElem? (i := 42) rfl))
    | 3, _ => exact va_eqt (hs _ (List.mem_of_getElem? (i := 43) rfl))
    | 4, _ => exact va_eqt (hs _ (List.mem_of_getElem? (i := 44) rfl))
    | 5, _ => exact va_eqt (hs _ (List.mem_of_getElem? (i := 45) rfl))
    | j + 6, hj => exact absurd hj (by omega)) hA
  exact ⟨t, (by obtain ⟨cell, h1, -⟩ := hT; exact (Array.getElem?_eq_some_iff.mp h1).1), va_Zof (hts _ tw_360) (hts _ tw_3) ht hA, hT⟩
set_option maxRecDepth 20000 in
theorem tab_6 {s : State} {args : Array Value} {A : Nat → Prop} (hts : ∀ w ∈ lw_tbl, w.before args s = true) (hg : jnar.before args s = true) (hA : ∀ a : Nat, a < s.heap.size → ¬ A a) : ∃ t : Nat, t < s.heap.size ∧ va_Z "ThroughATrumpet$Pass" "MOST" "[I" (.ref t) A s s.heap ∧ va_T .int t 6 (fun j => .int (([20, 9, 9, 9, 4095, 12] : List Int32).getD j 0)) A s s.heap := by
  have hs := flat_of_before _ hg
  obtain ⟨t, ht, hT⟩ := va_Tof (tm := .static "ThroughATrumpet$Pass" "MOST" "[I") (ty := .int) (N := 6) (f := fun j => .int (([20, 9, 9, 9, 4095, 12] : List Int32).getD j 0)) (A := A) (Nat.lt_of_lt_of_le (Nat.lt_succ_self _) (Nat.le_of_ble_eq_true rfl)) (hs _ (List.mem_of_getElem? (i := 47) rfl)) (va_eqt (hs _ (List.mem_of_getElem? (i := 48) rfl))) (fun j hj => by
    match j, hj with
    | 0, _ => exact va_eqt (hs _ (List.mem_of_getElem? (i := 49) rfl))
    | 1, _ => exact va_eqt (hs _ (List.mem_of_getElem? (i := 50) rfl))
    | 2, _ => exact va_eqt (hs _ (List.mem_of_getElem? (i := 51) rfl))
    | 3, _ => exact va_eqt (hs _ (List.mem_of_getElem? (i := 52) rfl))
    | 4, _ => exact va_eqt (hs _ (List.mem_of_getElem? (i := 53) rfl))
    | 5, _ => exact va_eqt (hs _ (List.mem_of_getElem? (i := 54) rfl))
    | j + 6, hj => exact absurd hj (by omega)) hA
  exact ⟨t, (by obtain ⟨cell, h1, -⟩ := hT; exact (Array.getElem?_eq_some_iff.mp h1).1), va_Zof (hts _ tw_362) (hts _ tw_3) ht hA, hT⟩
set_option maxRecDepth 20000 in
theorem tab_7 {s : State} {args : Array Value} {A : Nat → Prop} (hts : ∀ w ∈ lw_tbl, w.before args s = true) (hg : jnar.before args s = true) (hA : ∀ a : Nat, a < s.heap.size → ¬ A a) : ∃ t : Nat, t < s.heap.size ∧ va_Z "ThroughATrumpet$Rows" "ABOVE" "[I" (.ref t) A s s.heap ∧ va_T .int t 6 (fun j => .int (([0, 0, 0, 1, 0, 4] : List Int32).getD j 0)) A s s.heap := by
  have hs := flat_of_before _ hg
  obtain ⟨t, ht, hT⟩ := va_Tof (tm := .static "ThroughATrumpet$Rows" "ABOVE" "[I") (ty := .int) (N := 6) (f := fun j => .int (([0, 0, 0, 1, 0, 4] : List Int32).getD j 0)) (A := A) (Nat.lt_of_lt_of_le (Nat.lt_succ_self _) (Nat.le_of_ble_eq_true rfl)) (hs _ (List.mem_of_getElem? (i := 73) rfl)) (va_eqt (hs _ (List.mem_of_getElem? (i := 74) rfl))) (fun j hj => by
    match j, hj with
    | 0, _ => exact va_eqt (hs _ (List.mem_of_getElem? (i := 75) rfl))
    | 1, _ => exact va_eqt (hs _ (List.mem_of_getElem? (i := 76) rfl))
    | 2, _ => exact va_eqt (hs _ (List.mem_of_getElem? (i := 77) rfl))
    | 3, _ => exact va_eqt (hs _ (List.mem_of_getElem? (i := 78) rfl))
    | 4, _ => exact va_eqt (hs _ (List.mem_of_getElem? (i := 79) rfl))
    | 5, _ => exact va_eqt (hs _ (List.mem_of_getElem? (i := 80) rfl))
    | j + 6, hj => exact absurd hj (by omega)) hA
  exact ⟨t, (by obtain ⟨cell, h1, -⟩ := hT; exact (Array.getElem?_eq_some_iff.mp h1).1), va_Zof (hts _ tw_680) (hts _ tw_2) ht hA, hT⟩
set_option maxRecDepth 20000 in
theorem str_8 {s : State} {args : Array Value} {A : Nat → Prop} (hts : ∀ w ∈ lw_tbl, w.before args s = true) (hg : jnar.before args s = true) (hA : ∀ a : Nat, a < s.heap.size → ¬ A a) : ∃ a t : Nat, a < s.heap.size ∧ t < s.heap.size ∧ (∃ tx, vk_R "ThroughATrumpet$Tape" 53 tx a s) ∧ va_O "java/lang/String" a A s s.heap ∧ va_OF "java/lang/String" "value" "[B" (.ref t) a A s s.heap ∧ va_OF "java/lang/String" "coder" "B" (.int 0) a A s s.heap ∧ va_T .byte t 32 (fun j => .int (([102, 97, 114, 32, 119, 105, 110, 100, 32, 110, 111, 105, 115, 101, 32, 119, 111, 114, 100, 32, 115, 97, 105, 108, 32, 109, 105, 110, 117, 116, 101, 32] : List Int32).getD j 0)) A s s.heap := by
  have hs := flat_of_before _ hg
  obtain ⟨a, c, cA, kA, q1, q2, q3, q4, q5, q6, -⟩ := Cond.exactly_spec (args := args) (first := s) (o := none) (s := s) (idx := []) (t := (Term.string "ThroughATrumpet$Tape" 53)) (cls := "java/lang/String") (hs _ (List.mem_of_getElem? (i := 81) rfl))
  obtain ⟨t, ht, hT⟩ := va_Tof (tm := .field (Term.string "ThroughATrumpet$Tape" 53) "java/lang/String" "value" "[B") (ty := .byte) (N := 32) (f := fun j => .int (([102, 97, 114, 32, 119, 105, 110, 100, 32, 110, 111, 105, 115, 101, 32, 119, 111, 114, 100, 32, 115, 97, 105, 108, 32, 109, 105, 110, 117, 116, 101, 32] : List Int32).getD j 0)) (A := A) (Nat.lt_of_lt_of_le (Nat.lt_succ_self _) (Nat.le_of_ble_eq_true rfl)) (hs _ (List.mem_of_getElem? (i := 83) rfl)) (va_eqt (hs _ (List.mem_of_getElem? (i := 84) rfl))) (fun j hj => by
    match j, hj with
    | 0, _ => exact va_eqt (hs _ (List.mem_of_getElem? (i := 85) rfl))
    | 1, _ => exact va_eqt (hs _ (List.mem_of_getElem? (i := 86) rfl))
    | 2, _ => exact va_eqt (hs _ (List.mem_of_getElem? (i := 87) rfl))
    | 3, _ => exact va_eqt (hs _ (List.mem_of_getElem? (i := 88) rfl))
    | 4, _ => exact va_eqt (hs _ (List.mem_of_getElem? (i := 89) rfl))
    | 5, _ => exact va_eqt (hs _ (List.mem_of_getElem? (i := 90) rfl))
    | 6, _ => exact va_eqt (hs _ (List.mem_of_getElem? (i := 91) rfl))
    | 7, _ => exact va_eqt (hs _ (List.mem_of_getElem? (i := 92) rfl))
    | 8, _ => exact va_eqt (hs _ (List.mem_of_getElem? (i := 93) rfl))
    | 9, _ => exact va_eqt (hs _ (List.mem_of_getElem? (i := 94) rfl))
    | 10, _ => exact va_eqt (hs _ (List.mem_of_getElem? (i := 95) rfl))
    | 11, _ => exact va_eqt (hs _ (List.mem_of_getElem? (i := 96) rfl))
    | 12, _ => exact va_eqt (hs _ (List.mem_of_getElem? (i := 97) rfl))
    | 13, _ => exact va_eqt (hs _ (List.mem_of_getElem? (i := 98) rfl))
    | 14, _ => exact va_eqt (hs _ (List.mem_of_getElem? (i := 99) rfl))
    | 15, _ => exact va_eqt (hs _ (List.mem_of_getElem? (i := 100) rfl))
    | 16, _ => exact va_eqt (hs _ (List.mem_of_getElem? (i := 101) rfl))
    | 17, _ => exact va_eqt (hs _ (List.mem_of_getElem? (i := 102) rfl))
    | 18, _ => exact va_eqt (hs _ (List.mem_of_getElem? (i := 103) rfl))
    | 19, _ => exact va_eqt (hs _ (List.mem_of_getElem? (i := 104) rfl))
    | 20, _ => exact va_eqt (hs _ (List.mem_of_getElem? (i := 105) rfl))
    | 21, _ => exact va_eqt (hs _ (List.mem_of_getElem? (i := 106) rfl))
    | 22, _ => exact va_eqt (hs _ (List.mem_of_getElem? (i := 107) rfl))
    | 23, _ => exact va_eqt (hs _ (List.mem_of_getElem? (i := 108) rfl))
    | 24, _ => exact va_eqt (hs _ (List.mem_of_getElem? (i := 109) rfl))
    | 25, _ => exact va_eqt (hs _ (List.mem_of_getElem? (i := 110) rfl))
    | 26, _ => exact va_eqt (hs _ (List.mem_of_getElem? (i := 111) rfl))
    | 27, _ => exact va_eqt (hs _ (List.mem_of_getElem? (i := 112) rfl))
    | 28, _ => exact va_eqt (hs _ (List.mem_of_getElem? (i := 113) rfl))
    | 29, _ => exact va_eqt (hs _ (List.mem_of_getElem? (i := 114) rfl))
    | 30, _ => exact va_eqt (hs _ (List.mem_of_getElem? (i := 115) rfl))
    | 31, _ => exact va_eqt (hs _ (List.mem_of_getElem? (i := 116) rfl))
    | j + 32, hj => exact absurd hj (by omega)) hA
  exact ⟨a, t, (Array.getElem?_eq_some_iff.mp q3).1, (by obtain ⟨cell, h1, -⟩ := hT; exact (Array.getElem?_eq_some_iff.mp h1).1), ⟨_, vk_R.of (A := args) (hts _ tw_427) q1⟩, ⟨cA, q3, q5, by rw [q6]; exact q2, hA a (Array.getElem?_eq_some_iff.mp q3).1⟩, vk_OFof q1 ht hA, vk_OFof q1 (va_eqt (hs _ (List.mem_of_getElem? (i := 82) rfl))) hA, hT⟩
set_option maxRecDepth 20000 in
theorem str_9 {s : State} {args : Array Value} {A : Nat → Prop} (hts : ∀ w ∈ lw_tbl, w.before args s = true) (hg : jnar.before args s = true) (hA : ∀ a : Nat, a < s.heap.size → ¬ A a) : ∃ a t : Nat, a < s.heap.size ∧ t < s.heap.size ∧ (∃ tx, vk_R "ThroughATrumpet$Tape" 59 tx a s) ∧ va_O "java/lang/String" a A s s.heap ∧ va_OF "java/lang/String" "value" "[B" (.ref t) a A s s.heap ∧ va_OF "java/lang/String" "coder" "B" (.int 0) a A s s.heap ∧ va_T .byte t 27 (fun j => .int (([104, 97, 100, 32, 99, 104, 97, 108, 107, 32, 116, 97, 107, 101, 115, 32, 111, 114, 32, 97, 110, 100, 32, 110, 111, 116, 32] : List Int32).getD j 0)) A s s.heap := by
  have hs := flat_of_before _ hg
  obtain ⟨a, c, cA, kA, q1, q2, q3, q4, q5, q6, -⟩ := Cond.exactly_spec (args := args) (first := s) (o := none) (s := s) (idx := []) (t := (Term.string "ThroughATrumpet$Tape" 59)) (cls := "java/lang/String") (hs _ (List.mem_of_getElem? (i := 117) rfl))
  obtain ⟨t, ht, hT⟩ := va_Tof (tm := .field (Term.string "ThroughATrumpet$Tape" 59) "java/lang/String" "value" "[B") (ty := .byte) (N := 27) (f := fun j => .int (([104, 97, 100, 32, 99, 104, 97, 108, 107, 32, 116, 97, 107, 101, 115, 32, 111, 114, 32, 97, 110, 100, 32, 110, 111, 116, 32] : List Int32).getD j 0)) (A := A) (Nat.lt_of_lt_of_le (Nat.lt_succ_self _) (Nat.le_of_ble_eq_true rfl)) (hs _ (List.mem_of_getElem? (i := 119) rfl)) (va_eqt (hs _ (List.mem_of_getElem? (i := 120) rfl))) (fun j hj => by
    match j, hj with
    | 0, _ => exact va_eqt (hs _ (List.mem_of_getElem? (i := 121) rfl))
    | 1, _ => exact va_eqt (hs _ (List.mem_of_getElem? (i := 122) rfl))
    | 2, _ => exact va_eqt (hs _ (List.mem_of_getElem? (i := 123) rfl))
    | 3, _ => exact va_eqt (hs _ (List.mem_of_getElem? (i := 124) rfl))
    | 4, _ => exact va_eqt (hs _ (List.mem_of_getElem? (i := 125) rfl))
    | 5, _ => exact va_eqt (hs _ (List.mem_of_getElem? (i := 126) rfl))
    | 6, _ => exact va_eqt (hs _ (List.mem_of_getElem? (i := 127) rfl))
    | 7, _ => exact va_eqt (hs _ (List.mem_of_getElem? (i := 128) rfl))
    | 8, _ => exact va_eqt (hs _ (List.mem_of_getElem? (i := 129) rfl))
    | 9, _ => exact va_eqt (hs _ (List.mem_of_getElem? (i := 130) rfl))
    | 10, _ => exact va_eqt (hs _ (List.mem_of_getElem? (i := 131) rfl))
    | 11, _ => exact va_eqt (hs _ (List.mem_of_getElem? (i := 132) rfl))
    | 12, _ => exact va_eqt (hs _ (List.mem_of_getElem? (i := 133) rfl))
    | 13, _ => exact va_eqt (hs _ (List.mem_of_getElem? (i := 134) rfl))
    | 14, _ => exact va_eqt (hs _ (List.mem_of_getElem? (i := 135) rfl))
    | 15, _ => exact va_eqt (hs _ (List.mem_of_getElem? (i := 136) rfl))
    | 16, _ => exact va_eqt (hs _ (List.mem_of_getElem? (i := 137) rfl))
    | 17, _ => exact va_eqt (hs _ (List.mem_of_getElem? (i := 138) rfl))
    | 18, _ => exact va_eqt (hs _ (List.mem_of_getElem? (i := 139) rfl))
    | 19, _ => exact va_eqt (hs _ (List.mem_of_getElem? (i := 140) rfl))
    | 20, _ => exact va_eqt (hs _ (List.mem_of_getElem? (i := 141) rfl))
    | 21, _ => exact va_eqt (hs _ (List.mem_of_getElem? (i := 142) rfl))
    | 22, _ => exact va_eqt (hs _ (List.mem_of_getElem? (i := 143) rfl))
    | 23, _ => exact va_eqt (hs _ (List.mem_of_getElem? (i := 144) rfl))
    | 24, _ => exact va_eqt (hs _ (List.mem_of_getElem? (i := 145) rfl))
    | 25, _ => exact va_eqt (hs _ (List.mem_of_getElem? (i := 146) rfl))
    | 26, _ => exact va_eqt (hs _ (List.mem_of_getElem? (i := 147) rfl))
    | j + 27, hj => exact absurd hj (by omega)) hA
  exact ⟨a, t, (Array.getElem?_eq_some_iff.mp q3).1, (by obtain ⟨cell, h1, -⟩ := hT; exact (Array.getElem?_eq_some_iff.mp h1).1), ⟨_, vk_R.of (A := args) (hts _ tw_484) q1⟩, ⟨cA, q3, q5, by rw [q6]; exact q2, hA a (Array.getElem?_eq_some_iff.mp q3).1⟩, vk_OFof q1 ht hA, vk_OFof q1 (va_eqt (hs _ (List.mem_of_getElem? (i := 118) rfl))) hA, hT⟩
set_option maxRecDepth 20000 in
theorem str_10 {s : State} {args : Array Value} {A : Nat → Prop} (hts : ∀ w ∈ lw_tbl, w.before args s = true) (hg : jnar.before args s = true) (hA : ∀ a : Nat, a < s.heap.size → ¬ A a) : ∃ a t : Nat, a < s.heap.size ∧ t < s.heap.size ∧ (∃ tx, vk_R "ThroughATrumpet$Tape" 46 tx a s) ∧ va_O "java/lang/String" a A s s.heap ∧ va_OF "java/lang/String" "value" "[B" (.ref t) a A s s.heap ∧ va_OF "java/lang/String" "coder" "B" (.int 0) a A s s.heap ∧ va_T .byte t 8 (fun j => .int (([40, 41, 59, 43, 45, 42, 60, 61] : List Int32).getD j 0)) A s s.heap := by
  have hs := flat_of_before _ hg
  obtain ⟨a, c, cA, kA, q1, q2, q3, q4, q5, q6, -⟩ := Cond.exactly_spec (args := args) (first := s) (o := none) (s := s) (idx := []) (t := (Term.string "ThroughATrumpet$Tape" 46)) (cls := "java/lang/String") (hs _ (List.mem_of_getElem? (i := 149) rfl))
  obtain ⟨t, ht, hT⟩ := va_Tof (tm := .field (Term.string "ThroughATrumpet$Tape" 46) "java/lang/String" "value" "[B") (ty := .byte) (N := 8) (f := fun j => .int (([40, 41, 59, 43, 45, 42, 60, 61] : List Int32).getD j 0)) (A := A) (Nat.lt_of_lt_of_le (Nat.lt_succ_self _) (Nat.le_of_ble_eq_true rfl)) (hs _ (List.mem_of_getElem? (i := 151) rfl)) (va_eqt (hs _ (List.mem_of_getElem? (i := 152) rfl))) (fun j hj => by
    match j, hj with
    | 0, _ => exact va_eqt (hs _ (List.mem_of_getElem? (i := 153) rfl))
    | 1, _ => exact va_eqt (hs _ (List.mem_of_getElem? (i := 154) rfl))
    | 2, _ => exact va_eqt (hs _ (List.mem_of_getElem? (i := 155) rfl))
    | 3, _ => exact va_eqt (hs _ (List.mem_of_getElem? (i := 156) rfl))
    | 4, _ => exact va_eqt (hs _ (List.mem_of_getElem? (i := 157) rfl))
    | 5, _ => exact va_eqt (hs _ (List.mem_of_getElem? (i := 158) rfl))
    | 6, _ => exact va_eqt (hs _ (List.mem_of_getElem? (i := 159) rfl))
    | 7, _ => exact va_eqt (hs _ (List.mem_of_getElem? (i := 160) rfl))
    | j + 8, hj => exact absurd hj (by omega)) hA
  exact ⟨a, t, (Array.getElem?_eq_some_iff.mp q3).1, (by obtain ⟨cell, h1, -⟩ := hT; exact (Array.getElem?_eq_some_iff.mp h1).1), ⟨_, vk_R.of (A := args) (hts _ tw_492) q1⟩, ⟨cA, q3, q5, by rw [q6]; exact q2, hA a (Array.getElem?_eq_some_iff.mp q3).1⟩, vk_OFof q1 ht hA, vk_OFof q1 (va_eqt (hs _ (List.mem_of_getElem? (i := 150) rfl))) hA, hT⟩
/-- everything that a walk of ours stands on, at the law's entry -/
theorem env_start {s : State} {b L : Nat} {xs : Nat → Int32} (hts : ∀ w ∈ lw_tbl, w.before #[Value.ref b] s = true) (hg : jnar.before #[Value.ref b] s = true) (hX : va_X b L xs s s.heap) (hbl : b < s.heap.size) : ∃ g : jG, jGok g ∧ g.1 = s.heap.size ∧ jad g 0 = b ∧ jRS g = RS0 L ∧ jRA g = RA0 xs ∧ jEnv g s s.heap := by
  have hA : ∀ a : Nat, a < s.heap.size → ¬ (fun q : Nat => s.heap.size ≤ q) a := fun a h => Nat.not_le.mpr h
  obtain ⟨D, cT, hK⟩ := env_K hts
  obtain ⟨t1, l1, z1, T1⟩ := tab_1 hts hg hA
  obtain ⟨t2, l2, z2, T2⟩ := tab_2 hts hg hA
  obtain ⟨t3, l3, z3, T3⟩ := tab_3 hts hg hA
  obtain ⟨t4, l4, z4, T4⟩ := tab_4 hts hg hA
  obtain ⟨t5, l5, z5, T5⟩ := tab_5 hts hg hA
  obtain ⟨t6, l6, z6, T6⟩ := tab_6 hts hg hA
  obtain ⟨t7, l7, z7, T7⟩ := tab_7 hts hg hA
  obtain ⟨t8, t11, l8, l11, r8, o8, v8, c8, T11⟩ := str_8 hts hg hA
  obtain ⟨t9, t12, l9, l12, r9, o9, v9, c9, T12⟩ := str_9 hts hg hA
  obtain ⟨t10, t13, l10, l13, r10, o10, v10, c10, T13⟩ := str_10 hts hg hA
  have hs := flat_of_before _ hg
  have zc : va_Z "java/lang/String" "COMPACT_STRINGS" "Z" (.int 1) (fun q : Nat => s.heap.size ≤ q) s s.heap := va_Zof (hts _ tw_441) (hts _ tw_15) (va_eqi (hs _ (List.mem_of_getElem? (i := 55) rfl))) hA
  have zf := va_Zqof (A := fun q : Nat => s.heap.size ≤ q) (hts _ tw_457) (hts _ tw_17) (hs _ (List.mem_of_getElem? (i := 56) rfl)) hA
  have hfm : ∃ tf : Nat, (va_Z "jdk/internal/util/Preconditions" "SIOOBE_FORMATTER" "Ljava/util/function/BiFunction;" .null (fun q : Nat => s.heap.size ≤ q) s s.heap ∨ va_Z "jdk/internal/util/Preconditions" "SIOOBE_FORMATTER" "Ljava/util/function/BiFunction;" (.ref tf) (fun q : Nat => s.heap.size ≤ q) s s.heap) := by
    rcases zf with h | ⟨t, h⟩
    · exact ⟨b, Or.inl h⟩
    · exact ⟨t, Or.inr h⟩
  obtain ⟨tf, zf⟩ := hfm
  refine ⟨(s.heap.size, (fun k => match k with
    | 0 => b
    | 1 => t1
    | 2 => t2
    | 3 => t3
    | 4 => t4
    | 5 => t5
    | 6 => t6
    | 7 => t7
    | 8 => t8
    | 9 => t9
    | 10 => t10
    | 11 => t11
    | 12 => t12
    | 13 => t13
    | 14 => tf
    | k => s.heap.size + (k - 15)), D, cT, RS0 L, RA0 xs), ⟨fun k hk => ?_, trivial⟩, rfl, rfl, rfl, rfl, hK, fun w hw hgd a => word_at (State.WarmedH.refl s) (good_of_word hgd) (hts w hw), ?_, Jvm.Stand.arrayOver_alikeB (Vm.Alike.refl _) (hts _ tw_124), ?_, ?_, ?_, zf⟩
  · match k, hk with
    | k + 15, _ => rfl
  · intro q hq
    simp only [jnest, List.mem_cons, List.not_mem_nil, or_false] at hq
    rcases hq with rfl | rfl | rfl | rfl | rfl | rfl | rfl | rfl | rfl | rfl | rfl | rfl | rfl
    · exact va_Nw.of rfl (hts _ tw_33)
    · exact va_Nw.of rfl (hts _ tw_39)
    · exact va_Nw.of rfl (hts _ tw_67)
    · exact va_Nw.of rfl (hts _ tw_73)
    · exact va_Nw.of rfl (hts _ tw_239)
    · exact va_Nw.of rfl (hts _ tw_269)
    · exact va_Nw.of rfl (hts _ tw_292)
    · exact va_Nw.of rfl (hts _ tw_312)
    · exact va_Nw.of rfl (hts _ tw_317)
    · exact va_Nw.of rfl (hts _ tw_383)
    · exact va_Nw.of rfl (hts _ tw_422)
    · exact va_Nw.of rfl (hts _ tw_735)
    · exact va_Nw.of rfl (hts _ tw_798)
  · intro k sh hk hsh
    match k, hk, hsh with
    | 0, _, hsh =>
      cases hsh
      obtain ⟨scr, x1, x2, x3, x4, x5⟩ := hX
      exact ⟨scr, x1, x2, x3, by rw [x4]; exact Nat.le_refl _, by rw [x4] <;> rfl, x5, Nat.not_le.mpr hbl⟩
    | 1, _, hsh => cases hsh; exact T1
    | 2, _, hsh => cases hsh; exact T2
    | 3, _, hsh => cases hsh; exact T3
    | 4, _, hsh => cases hsh; exact T4
    | 5, _, hsh => cases hsh; exact T5
    | 6, _, hsh => cases hsh; exact T6
    | 7, _, hsh => cases hsh; exact T7
    | 8, _, hsh => cases hsh; exact ⟨o8, v8, c8⟩
    | 9, _, hsh => cases hsh; exact ⟨o9, v9, c9⟩
    | 10, _, hsh => cases hsh; exact ⟨o10, v10, c10⟩
    | 11, _, hsh => cases hsh; exact T11
    | 12, _, hsh => cases hsh; exact T12
    | 13, _, hsh => cases hsh; exact T13
    | 14, _, hsh => cases hsh; exact trivial
  · intro q hq
    simp only [jstats, List.mem_cons, List.not_mem_nil, or_false] at hq
    rcases hq with rfl | rfl | rfl | rfl | rfl | rfl | rfl | rfl
    · exact z1
    · exact z2
    · exact z3
    · exact z4
    · exact z5
    · exact z6
    · exact z7
    · exact zc
  · intro q hq
    simp only [jstrs, List.mem_cons, List.not_mem_nil, or_false] at hq
    rcases hq with rfl | rfl | rfl
    · exact r8
    · exact r9
    · exact r10
