/-! CONTRACTS: the pass -/
/-- 1 or 0 -/
def jb (c : Prop) [Decidable c] : Int32 := if c then 1 else 0
theorem jb_ok (c : Prop) [Decidable c] : narrow .boolean (.int (jb c)) = .int (jb c) := by
  unfold jb
  split <;> rfl
theorem jb_t {c : Prop} [Decidable c] (h : c) : jb c = 1 := if_pos h
theorem jb_f {c : Prop} [Decidable c] (h : ¬ c) : jb c = 0 := if_neg h
theorem jb_0 {c : Prop} [Decidable c] : jb c = 0 ↔ ¬ c := by
  unfold jb
  split <;> simp_all
theorem jb_n0 {c : Prop} [Decidable c] : ¬ jb c = 0 ↔ c := by
  unfold jb
  split <;> simp_all
theorem kX10_within (d n : Nat) (A : Nat → Nat → Int32) (L : Nat → Nat → Int64) (v a b : Int32) : jEv jtab (d + 1) 152 [.int v, .int a, .int b] (Sh0 n, A, L) 0 0 (fun r M2 => r = some (.int (jb (a ≤ v ∧ v ≤ b))) ∧ M2 = (Sh0 n, A, L)) := by
  refine jEv.mk (mt := mX10_within) rfl (Nat.le_of_ble_eq_true rfl) ?_
  refine jWP.intro (pr := pX10_within) (pc := 0) ?_
  refine y_mask <| x_iload rfl <| x_iload rfl <| y_cmp_lt (fun h1 => ?_) (fun h1 => ?_)
  · refine jWP.intro (pr := pX10_within) (pc := 14) ?_
    refine y_mask <| x_push <| y_mask <| y_goto ?_
    refine jWP.intro (pr := pX10_within) (pc := 15) ?_
    refine y_mask <| y_ireturn (ls := []) ?_
    exact ⟨by first | rfl | exact jb_ok _, jCn.mk ⟨congrArg (fun z => some (Value.int z)) ((jb_f (fun z => absurd z.1 (Int32.not_le.mpr h1))).symm), rfl⟩⟩ -- return  h1+
  · refine jWP.intro (pr := pX10_within) (pc := 5) ?_
    refine y_mask <| x_iload rfl <| x_iload rfl <| y_cmp_gt (fun h2 => ?_) (fun h2 => ?_)
    · refine jWP.intro (pr := pX10_within) (pc := 14) ?_
      refine y_mask <| x_push <| y_mask <| y_goto ?_
      refine jWP.intro (pr := pX10_within) (pc := 15) ?_
      refine y_mask <| y_ireturn (ls := []) ?_
      exact ⟨by first | rfl | exact jb_ok _, jCn.mk ⟨congrArg (fun z => some (Value.int z)) ((jb_f (fun z => absurd z.2 (Int32.not_le.mpr h2))).symm), rfl⟩⟩ -- return  h1- h2+
    · refine jWP.intro (pr := pX10_within) (pc := 10) ?_
      refine y_mask <| x_push <| y_mask <| y_goto ?_
      refine jWP.intro (pr := pX10_within) (pc := 15) ?_
      refine y_mask <| y_ireturn (ls := []) ?_
      exact ⟨by first | rfl | exact jb_ok _, jCn.mk ⟨congrArg (fun z => some (Value.int z)) ((jb_t ⟨Int32.not_lt.mp h1, Int32.not_lt.mp h2⟩).symm), rfl⟩⟩ -- return  h1- h2-

theorem kX4_near (d n : Nat) (A : Nat → Nat → Int32) (L : Nat → Nat → Int64) : jEv jtab (d + 1) 33 [.ref 17] (Sh0 n, A, L) 0 0 (fun r M2 => r = some (.int (A 18 0)) ∧ M2 = (Sh0 n, A, L)) := by
  refine jEv.mk (mt := mX4_near) rfl (Nat.le_of_ble_eq_true rfl) ?_
  refine jWP.intro (pr := pX4_near) (pc := 0) ?_
  refine y_mask <| x_aload rfl <| x_getR (Nat.le_of_ble_eq_true rfl) rfl rfl <| x_push <| x_iald rfl (by unfold vp_in; decide) <| y_ireturn (ls := []) ?_
  exact ⟨trivial, jCn.mk ⟨rfl, rfl⟩⟩ -- return 

theorem kX4_wind (d n : Nat) (A : Nat → Nat → Int32) (L : Nat → Nat → Int64) : jEv jtab (d + 1) 34 [.ref 17] (Sh0 n, A, L) 0 0 (fun r M2 => r = some (.int (A 18 2)) ∧ M2 = (Sh0 n, A, L)) := by
  refine jEv.mk (mt := mX4_wind) rfl (Nat.le_of_ble_eq_true rfl) ?_
  refine jWP.intro (pr := pX4_wind) (pc := 0) ?_
  refine y_mask <| x_aload rfl <| x_getR (Nat.le_of_ble_eq_true rfl) rfl rfl <| x_push <| x_iald rfl (by unfold vp_in; decide) <| y_ireturn (ls := []) ?_
  exact ⟨trivial, jCn.mk ⟨rfl, rfl⟩⟩ -- return 

theorem kX4_noise (d n : Nat) (A : Nat → Nat → Int32) (L : Nat → Nat → Int64) : jEv jtab (d + 1) 35 [.ref 17] (Sh0 n, A, L) 0 0 (fun r M2 => r = some (.int (A 18 3)) ∧ M2 = (Sh0 n, A, L)) := by
  refine jEv.mk (mt := mX4_noise) rfl (Nat.le_of_ble_eq_true rfl) ?_
  refine jWP.intro (pr := pX4_noise) (pc := 0) ?_
  refine y_mask <| x_aload rfl <| x_getR (Nat.le_of_ble_eq_true rfl) rfl rfl <| x_push <| x_iald rfl (by unfold vp_in; decide) <| y_ireturn (ls := []) ?_
  exact ⟨trivial, jCn.mk ⟨rfl, rfl⟩⟩ -- return 

theorem kX4_minutes (d n : Nat) (A : Nat → Nat → Int32) (L : Nat → Nat → Int64) : jEv jtab (d + 1) 36 [.ref 17] (Sh0 n, A, L) 0 0 (fun r M2 => r = some (.int (A 18 5)) ∧ M2 = (Sh0 n, A, L)) := by
  refine jEv.mk (mt := mX4_minutes) rfl (Nat.le_of_ble_eq_true rfl) ?_
  refine jWP.intro (pr := pX4_minutes) (pc := 0) ?_
  refine y_mask <| x_aload rfl <| x_getR (Nat.le_of_ble_eq_true rfl) rfl rfl <| x_push <| x_iald rfl (by unfold vp_in; decide) <| y_ireturn (ls := []) ?_
  exact ⟨trivial, jCn.mk ⟨rfl, rfl⟩⟩ -- return 

theorem kX4_hasMinute (d n : Nat) (A : Nat → Nat → Int32) (L : Nat → Nat → Int64) (m : Int32) : jEv jtab (d + 2) 37 [.ref 17, .int m] (Sh0 n, A, L) 0 0 (fun r M2 => r = some (.int (jb (0 ≤ m ∧ m ≤ A 18 5 - 1))) ∧ M2 = (Sh0 n, A, L)) := by
  refine jEv.mk (mt := mX4_hasMinute) rfl (Nat.le_of_ble_eq_true rfl) ?_
  refine jWP.intro (pr := pX4_hasMinute) (pc := 0) ?_
  refine y_mask <| x_iload rfl <| x_push <| x_aload rfl <| y_invV0 (Nat.le_of_ble_eq_true rfl) rfl (Nat.le_of_ble_eq_true rfl) <| jEv.exI (kX4_minutes _ _ _ _) <| x_push <| x_isub <| y_invS3 (Nat.le_of_ble_eq_true rfl) <| jEv.exI (kX10_within _ _ _ _ _ _ _) <| y_ireturn (ls := []) ?_
  exact ⟨by first | rfl | exact jb_ok _, jCn.mk ⟨congrArg (fun z => some (Value.int z)) (rfl), rfl⟩⟩ -- return 

theorem kX4_sailIn (d n : Nat) (A : Nat → Nat → Int32) (L : Nat → Nat → Int64) (m : Int32) : jEv jtab (d + 1) 38 [.ref 17, .int m] (Sh0 n, A, L) 0 0 (fun r M2 => r = some (.int ((A 18 4 >>> (m &&& 31)) &&& 1)) ∧ M2 = (Sh0 n, A, L)) := by
  refine jEv.mk (mt := mX4_sailIn) rfl (Nat.le_of_ble_eq_true rfl) ?_
  refine jWP.intro (pr := pX4_sailIn) (pc := 0) ?_
  refine y_mask <| x_aload rfl <| x_getR (Nat.le_of_ble_eq_true rfl) rfl rfl <| x_push <| x_iald rfl (by unfold vp_in; decide) <| x_iload rfl <| x_ishr <| x_push <| x_iand <| y_ireturn (ls := []) ?_
  exact ⟨trivial, jCn.mk ⟨rfl, rfl⟩⟩ -- return 

abbrev jab (x : Int32) : Int32 := if 0 ≤ x then x else 0 - x
/-- FAR -/
def jfar (q mi near m : Int32) : Int32 := near + q * jab (2 * m - (mi - 1)) / 2
theorem kX4_far (d n : Nat) (A : Nat → Nat → Int32) (L : Nat → Nat → Int64) (near m : Int32) : jEv jtab (d + 2) 39 [.ref 17, .int near, .int m] (Sh0 n, A, L) 0 0 (fun r M2 => r = some (.int (jfar (A 18 1) (A 18 5) near m)) ∧ M2 = (Sh0 n, A, L)) := by
  refine jEv.mk (mt := mX4_far) rfl (Nat.le_of_ble_eq_true rfl) ?_
  refine jWP.intro (pr := pX4_far) (pc := 0) ?_
  refine y_mask <| x_iload rfl <| x_aload rfl <| x_getR (Nat.le_of_ble_eq_true rfl) rfl rfl <| x_push <| x_iald rfl (by unfold vp_in; decide) <| x_push <| x_iload rfl <| x_imul <| x_aload rfl <| y_invV0 (Nat.le_of_ble_eq_true rfl) rfl (Nat.le_of_ble_eq_true rfl) <| jEv.exI (kX4_minutes _ _ _ _) <| x_push <| x_isub <| x_isub <| y_mabs (Nat.le_of_ble_eq_true rfl) <| x_imul <| x_push <| x_idiv (by decide) <| x_iadd <| y_ireturn (ls := []) ?_
  exact ⟨trivial, jCn.mk ⟨rfl, rfl⟩⟩ -- return 

