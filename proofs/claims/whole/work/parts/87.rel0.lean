/-! THE LAW: both starts are beside one another -/
theorem lt6 {P : Nat → Prop} (h0 : P 0) (h1 : P 1) (h2 : P 2) (h3 : P 3) (h4 : P 4) (h5 : P 5) : ∀ i, i < 6 → P i := by
  intro i hi
  rcases (show i = 0 ∨ i = 1 ∨ i = 2 ∨ i = 3 ∨ i = 4 ∨ i = 5 by omega) with rfl | rfl | rfl | rfl | rfl | rfl <;> assumption
theorem dgn (k j : Nat) : upd (fun _ => (0 : Int32)) k 10 j = if k = j then 10 else 0 := by
  by_cases w : j = k
  · subst w
    rw [upd_at, if_pos rfl]
  · rw [upd_ne w, if_neg (fun z => w z.symm)]
theorem rCst0 (xs : Nat → Int32) : rCst (M0 xs) (M0 xs) := by
  refine ⟨fun c a b j => ?_, fun j => ?_, fun j => ?_⟩
  · rcases (show c = 3 ∨ c = 4 ∨ c = 5 ∨ c = 6 ∨ c = 7 ∨ c = 8 ∨ c = 9 ∨ c = 10 ∨ c = 11 ∨ c = 12 ∨ c = 13 by omega) with rfl | rfl | rfl | rfl | rfl | rfl | rfl | rfl | rfl | rfl | rfl
    · rw [i3M]; rfl
    · rw [i4M]; rfl
    · rw [i5M]; rfl
    · rw [i6M]; rfl
    · rw [i7M]; rfl
    · rw [i8M]; rfl
    · rw [i9M]; rfl
    · rw [i10M]; rfl
    · rw [i11M]; rfl
    · rw [i12M]; rfl
    · rw [i13M]; rfl
  · rw [i103M, lay0]; rfl
  · rw [i104M, lay0]; rfl
theorem rPass0 (xs : Nat → Int32) : rPass (M0 xs) (M0 xs) := by
  refine ⟨fun i _ => by rw [i95M, i18M], fun i _ => by rw [i96M, i19M], ?_, ?_⟩
  · rw [i18M]
    exact lt6 (by decide) (by decide) (by decide) (by decide) (by decide) (by decide)
  · rw [i19M]
    exact lt6 ⟨9, by decide, rfl⟩ ⟨7, by decide, rfl⟩ ⟨5, by decide, rfl⟩ ⟨3, by decide, rfl⟩ ⟨2, by decide, rfl⟩ ⟨1, by decide, rfl⟩
theorem k30 (xs : Nat → Int32) (k : Nat) (hk : k < 23) : M0 xs 30 k = KC 1 k := by
  rw [i30M, pk_cpy_in (Nat.zero_le _) (by omega), Nat.zero_add, Nat.sub_zero]
  rfl
theorem k37 (xs : Nat → Int32) (k : Nat) (hk : k < 4) : M0 xs 37 k = KC 2 k := by
  rw [i37M, pk_cpy_in (Nat.zero_le _) (by omega), Nat.zero_add, Nat.sub_zero]
  rfl
theorem rLaw0 (xs : Nat → Int32) : rLaw (M0 xs) (M0 xs) := by
  refine ⟨by rw [i94_6M, i17_2M], by rw [i94_5M, i20_2M], 0, 1, i17_2M xs, i20_2M xs, by omega, by omega, k30 xs, k37 xs, fun q hq => ?_⟩
  have : q = 0 := by omega
  subst this
  refine ⟨fun p => ([0, 17, 22, 23] : List Nat).getD p 0, rfl, by decide, by decide, by decide, by decide, fun p hp => ?_, fun p hp => ?_, fun w => absurd w (by omega)⟩
  · show M0 xs 37 p = _
    rw [k37 xs p hp]
    rcases (show p = 0 ∨ p = 1 ∨ p = 2 ∨ p = 3 by omega) with rfl | rfl | rfl | rfl <;> rfl
  · show Steps (M0 xs 30) _ _
    rcases (show p = 0 ∨ p = 1 ∨ p = 2 by omega) with rfl | rfl | rfl
    · show Steps (M0 xs 30) 0 17
      exact Steps.cong steps0_0 fun k _ w => (k30 xs k (by omega)).symm
    · show Steps (M0 xs 30) 17 22
      exact Steps.cong steps0_1 fun k _ w => (k30 xs k (by omega)).symm
    · show Steps (M0 xs 30) 22 23
      exact Steps.cong steps0_2 fun k _ w => (k30 xs k (by omega)).symm
theorem rWord0 (xs : Nat → Int32) : rWord (M0 xs) (M0 xs) := by
  refine ⟨by rw [i94_33M, i54_3M], 0, by omega, i54_3M xs, fun i hi => absurd hi (by omega), fun i j hi => absurd hi (by omega), fun i j hi hj _ => ⟨by rw [i115M], ?_⟩⟩
  rcases (show i = 0 ∨ i = 1 ∨ i = 2 ∨ i = 3 ∨ i = 4 ∨ i = 5 by omega) with rfl | rfl | rfl | rfl | rfl | rfl
  · rw [show 57 + 0 = 57 from rfl, i57M]; exact dgn 0 j
  · rw [show 57 + 1 = 58 from rfl, i58M]; exact dgn 1 j
  · rw [show 57 + 2 = 59 from rfl, i59M]; exact dgn 2 j
  · rw [show 57 + 3 = 60 from rfl, i60M]; exact dgn 3 j
  · rw [show 57 + 4 = 61 from rfl, i61M]; exact dgn 4 j
  · rw [show 57 + 5 = 62 from rfl, i62M]; exact dgn 5 j
theorem rel0 (xs : Nat → Int32) : Rel (M0 xs) (M0 xs) := by
  refine ⟨rCst0 xs, rPass0 xs, rLaw0 xs, ⟨by rw [i94_4M, i22_1M], 0, by omega, i22_1M xs, fun i hi => absurd hi (by omega)⟩, ⟨by rw [i94_21M, i16_5M], 0, by omega, i16_5M xs, fun i hi => absurd hi (by omega)⟩, rWord0 xs, ⟨by rw [i94_37M, i64_4M], 0, by omega, i64_4M xs, fun i hi => absurd hi (by omega)⟩, ⟨by rw [i94_42M, i70_3M], 0, by omega, i70_3M xs, fun i hi => absurd hi (by omega)⟩, ⟨by rw [i94_47M, i83_3M], fun w => absurd (i83_3M xs) w⟩, fun s hs => ⟨by rw [i127M, i81M], Or.inl ?_⟩⟩
  rw [i81M]
  rcases (show s = 0 ∨ s = 1 ∨ s = 2 ∨ s = 3 by omega) with rfl | rfl | rfl | rfl <;> rfl
theorem jsl_le0 {x : jS} {r1 r2 : List jS} {a : Nat} (h : Nat.ble (jsl r1 + a) (jsl r2) = true) : jsl (x :: r1) + a ≤ jsl (x :: r2) := jsl_le (b := 0) h
set_option maxRecDepth 100000 in
set_option maxHeartbeats 4000000 in
theorem law_0 (n : Nat) (xs : Nat → Int32) (hn : n ≤ 3584) : lawWP n xs := by
  unfold lawWP
  refine jWP.intro (pr := pL_law) (pc := 0) ?_
  refine y_mask <| z_new (a := 15) (S2 := Sc_1 n) rfl (Nat.le_of_ble_eq_true rfl) (jsl_le0 (x := .inl (.int, n)) (r1 := (RS0 n).tail) (r2 := (Sh0 n).tail) rfl) rfl <| x_dup rfl <| x_invI0 (Nat.le_of_ble_eq_true rfl) (Nat.le_of_ble_eq_true rfl) (jsl_le0 (x := .inl (.int, n)) (r1 := (Sc_1 n).tail) (r2 := (Sh0 n).tail) rfl) <| jEv.exV (kX10_init_15 995 n _ _) ?_
  refine x_astore rfl <| z_new (a := 94) (S2 := Sc_102 n) rfl (Nat.le_of_ble_eq_true rfl) (jsl_le0 (x := .inl (.int, n)) (r1 := (Sc_101 n).tail) (r2 := (Sh0 n).tail) rfl) rfl <| x_dup rfl <| x_invI0 (Nat.le_of_ble_eq_true rfl) (Nat.le_of_ble_eq_true rfl) (jsl_le0 (x := .inl (.int, n)) (r1 := (Sc_102 n).tail) (r2 := (Sh0 n).tail) rfl) <| jEv.exV (kX11_init_94 999 n _ _) ?_
  refine x_astore rfl <| x_push <| x_istore rfl <| y_mask <| y_goto ?_
  exact law_18 hn (n + 7) 0 (M0 xs) _ (by omega) (by omega) (rel0 xs)
