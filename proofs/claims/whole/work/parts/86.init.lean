/-! THE LAW: its start -/
def lay (f : Nat → Int32) (k : Nat) : List Int32 → (Nat → Int32)
  | [] => f
  | x :: l => lay (upd f k x) (k + 1) l
theorem lay_at : ∀ (l : List Int32) (f : Nat → Int32) (k j : Nat), lay f k l j = if k ≤ j ∧ j < k + l.length then l.getD (j - k) 0 else f j
  | [], f, k, j => by
    rw [if_neg (fun w => by have := w.2; simp only [List.length_nil] at this; omega)]
    rfl
  | x :: l, f, k, j => by
    show lay (upd f k x) (k + 1) l j = _
    rw [lay_at l (upd f k x) (k + 1) j, List.length_cons]
    by_cases w : j = k
    · subst w
      rw [if_neg (by omega), if_pos (by omega), upd_at, Nat.sub_self]
      rfl
    · rw [upd_ne w]
      by_cases w2 : k + 1 ≤ j ∧ j < k + 1 + l.length
      · rw [if_pos w2, if_pos (by omega), show j - k = (j - (k + 1)) + 1 by omega]
        rfl
      · rw [if_neg w2, if_neg (by omega)]
theorem lay0 (l : List Int32) (j : Nat) : lay (fun _ => 0) 0 l j = l.getD j 0 := by
  rw [lay_at]
  by_cases w : j < l.length
  · rw [if_pos ⟨Nat.zero_le _, by omega⟩, Nat.sub_zero]
  · rw [if_neg (fun z => w (by omega)), List.getD_eq_getElem?_getD, List.getElem?_eq_none (by omega)]
    rfl
theorem steps0_0 : Steps (KC 1) 0 17 := by
  refine ⟨fun k => ([0, 1, 2, 3, 2, 1, 2, 3, 2, 1, 2, 3, 2, 1, 2, 3, 2, 1] : List Nat).getD (k - 0) 0, rfl, rfl, fun k ha hb => ?_⟩
  rcases (show k = 0 ∨ k = 1 ∨ k = 2 ∨ k = 3 ∨ k = 4 ∨ k = 5 ∨ k = 6 ∨ k = 7 ∨ k = 8 ∨ k = 9 ∨ k = 10 ∨ k = 11 ∨ k = 12 ∨ k = 13 ∨ k = 14 ∨ k = 15 ∨ k = 16 by omega) with rfl | rfl | rfl | rfl | rfl | rfl | rfl | rfl | rfl | rfl | rfl | rfl | rfl | rfl | rfl | rfl | rfl
  · exact Or.inl ⟨⟨by decide, by decide⟩, rfl⟩
  · exact Or.inl ⟨⟨by decide, by decide⟩, rfl⟩
  · exact Or.inl ⟨⟨by decide, by decide⟩, rfl⟩
  · exact Or.inr (Or.inr ⟨by unfold isTwo; decide, by decide, rfl⟩)
  · exact Or.inr (Or.inr ⟨by unfold isTwo; decide, by decide, rfl⟩)
  · exact Or.inl ⟨⟨by decide, by decide⟩, rfl⟩
  · exact Or.inl ⟨⟨by decide, by decide⟩, rfl⟩
  · exact Or.inr (Or.inr ⟨by unfold isTwo; decide, by decide, rfl⟩)
  · exact Or.inr (Or.inr ⟨by unfold isTwo; decide, by decide, rfl⟩)
  · exact Or.inl ⟨⟨by decide, by decide⟩, rfl⟩
  · exact Or.inl ⟨⟨by decide, by decide⟩, rfl⟩
  · exact Or.inr (Or.inr ⟨by unfold isTwo; decide, by decide, rfl⟩)
  · exact Or.inr (Or.inr ⟨by unfold isTwo; decide, by decide, rfl⟩)
  · exact Or.inl ⟨⟨by decide, by decide⟩, rfl⟩
  · exact Or.inl ⟨⟨by decide, by decide⟩, rfl⟩
  · exact Or.inr (Or.inr ⟨by unfold isTwo; decide, by decide, rfl⟩)
  · exact Or.inr (Or.inr ⟨by unfold isTwo; decide, by decide, rfl⟩)
theorem steps0_1 : Steps (KC 1) 17 22 := by
  refine ⟨fun k => ([0, 1, 2, 3, 2, 1] : List Nat).getD (k - 17) 0, rfl, rfl, fun k ha hb => ?_⟩
  rcases (show k = 17 ∨ k = 18 ∨ k = 19 ∨ k = 20 ∨ k = 21 by omega) with rfl | rfl | rfl | rfl | rfl
  · exact Or.inl ⟨⟨by decide, by decide⟩, rfl⟩
  · exact Or.inl ⟨⟨by decide, by decide⟩, rfl⟩
  · exact Or.inl ⟨⟨by decide, by decide⟩, rfl⟩
  · exact Or.inr (Or.inr ⟨by unfold isTwo; decide, by decide, rfl⟩)
  · exact Or.inr (Or.inr ⟨by unfold isTwo; decide, by decide, rfl⟩)
theorem steps0_2 : Steps (KC 1) 22 23 := by
  refine ⟨fun k => ([0, 1] : List Nat).getD (k - 22) 0, rfl, rfl, fun k ha hb => ?_⟩
  rcases (show k = 22 by omega) with rfl
  · exact Or.inl ⟨⟨by decide, by decide⟩, rfl⟩
/-- the cells behind both starts -/
def M0 (xs : Nat → Int32) : jA3 := aX11_init_94 (va_up (aX10_init_15 (va_up (RA0 xs) 15 (fun _ => 0))) 94 (fun _ => 0))
set_option maxRecDepth 100000 in
theorem i3M (xs : Nat → Int32) : M0 xs 3 = RA0 xs 3 := rfl
set_option maxRecDepth 100000 in
theorem i4M (xs : Nat → Int32) : M0 xs 4 = RA0 xs 4 := rfl
set_option maxRecDepth 100000 in
theorem i5M (xs : Nat → Int32) : M0 xs 5 = RA0 xs 5 := rfl
set_option maxRecDepth 100000 in
theorem i6M (xs : Nat → Int32) : M0 xs 6 = RA0 xs 6 := rfl
set_option maxRecDepth 100000 in
theorem i7M (xs : Nat → Int32) : M0 xs 7 = RA0 xs 7 := rfl
set_option maxRecDepth 100000 in
theorem i8M (xs : Nat → Int32) : M0 xs 8 = RA0 xs 8 := rfl
set_option maxRecDepth 100000 in
theorem i9M (xs : Nat → Int32) : M0 xs 9 = RA0 xs 9 := rfl
set_option maxRecDepth 100000 in
theorem i10M (xs : Nat → Int32) : M0 xs 10 = RA0 xs 10 := rfl
set_option maxRecDepth 100000 in
theorem i11M (xs : Nat → Int32) : M0 xs 11 = RA0 xs 11 := rfl
set_option maxRecDepth 100000 in
theorem i12M (xs : Nat → Int32) : M0 xs 12 = RA0 xs 12 := rfl
set_option maxRecDepth 100000 in
theorem i13M (xs : Nat → Int32) : M0 xs 13 = RA0 xs 13 := rfl
set_option maxRecDepth 100000 in
theorem i103M (xs : Nat → Int32) : M0 xs 103 = lay (fun _ => 0) 0 [102, 97, 114, 32, 119, 105, 110, 100, 32, 110, 111, 105, 115, 101, 32, 119, 111, 114, 100, 32, 115, 97, 105, 108, 32, 109, 105, 110, 117, 116, 101, 32, 104, 97, 100, 32, 99, 104, 97, 108, 107, 32, 116, 97, 107, 101, 115, 32, 111, 114, 32, 97, 110, 100, 32, 110, 111, 116, 32] := rfl
set_option maxRecDepth 100000 in
theorem i104M (xs : Nat → Int32) : M0 xs 104 = lay (fun _ => 0) 0 [0, 1, 2, 3, 4, 5, 10, 11, 12, 13, 14, 15] := rfl
set_option maxRecDepth 100000 in
theorem i30M (xs : Nat → Int32) : M0 xs 30 = va_cpy (RA0 xs 1) (fun _ => 0) 0 0 23 := rfl
set_option maxRecDepth 100000 in
theorem i37M (xs : Nat → Int32) : M0 xs 37 = va_cpy (RA0 xs 2) (fun _ => 0) 0 0 4 := rfl
set_option maxRecDepth 100000 in
theorem i115M (xs : Nat → Int32) : M0 xs 115 = fun _ => 0 := rfl
set_option maxRecDepth 100000 in
theorem i57M (xs : Nat → Int32) : M0 xs 57 = upd (fun _ => 0) 0 10 := rfl
set_option maxRecDepth 100000 in
theorem i58M (xs : Nat → Int32) : M0 xs 58 = upd (fun _ => 0) 1 10 := rfl
set_option maxRecDepth 100000 in
theorem i59M (xs : Nat → Int32) : M0 xs 59 = upd (fun _ => 0) 2 10 := rfl
set_option maxRecDepth 100000 in
theorem i60M (xs : Nat → Int32) : M0 xs 60 = upd (fun _ => 0) 3 10 := rfl
set_option maxRecDepth 100000 in
theorem i61M (xs : Nat → Int32) : M0 xs 61 = upd (fun _ => 0) 4 10 := rfl
set_option maxRecDepth 100000 in
theorem i62M (xs : Nat → Int32) : M0 xs 62 = upd (fun _ => 0) 5 10 := rfl
set_option maxRecDepth 100000 in
theorem i18M (xs : Nat → Int32) : M0 xs 18 = lay (fun _ => 0) 0 [4, 2, 0, 3, 0, 11] := rfl
set_option maxRecDepth 100000 in
theorem i19M (xs : Nat → Int32) : M0 xs 19 = lay (fun _ => 0) 0 [9, 7, 5, 3, 2, 1] := rfl
set_option maxRecDepth 100000 in
theorem i95M (xs : Nat → Int32) : M0 xs 95 = lay (fun _ => 0) 0 [4, 2, 0, 3, 0, 11] := rfl
set_option maxRecDepth 100000 in
theorem i96M (xs : Nat → Int32) : M0 xs 96 = lay (fun _ => 0) 0 [9, 7, 5, 3, 2, 1] := rfl
set_option maxRecDepth 100000 in
theorem i81M (xs : Nat → Int32) : M0 xs 81 = lay (fun _ => 0) 0 [-1, -1, -1, -1] := rfl
set_option maxRecDepth 100000 in
theorem i127M (xs : Nat → Int32) : M0 xs 127 = lay (fun _ => 0) 0 [-1, -1, -1, -1] := rfl
set_option maxRecDepth 100000 in
theorem i94_6M (xs : Nat → Int32) : M0 xs 94 6 = 0 := rfl
set_option maxRecDepth 100000 in
theorem i94_5M (xs : Nat → Int32) : M0 xs 94 5 = 1 := rfl
set_option maxRecDepth 100000 in
theorem i94_4M (xs : Nat → Int32) : M0 xs 94 4 = 0 := rfl
set_option maxRecDepth 100000 in
theorem i94_21M (xs : Nat → Int32) : M0 xs 94 21 = 0 := rfl
set_option maxRecDepth 100000 in
theorem i94_33M (xs : Nat → Int32) : M0 xs 94 33 = 0 := rfl
set_option maxRecDepth 100000 in
theorem i94_37M (xs : Nat → Int32) : M0 xs 94 37 = 0 := rfl
set_option maxRecDepth 100000 in
theorem i94_42M (xs : Nat → Int32) : M0 xs 94 42 = 0 := rfl
set_option maxRecDepth 100000 in
theorem i94_47M (xs : Nat → Int32) : M0 xs 94 47 = 0 := rfl
set_option maxRecDepth 100000 in
theorem i17_2M (xs : Nat → Int32) : M0 xs 17 2 = 0 := rfl
set_option maxRecDepth 100000 in
theorem i20_2M (xs : Nat → Int32) : M0 xs 20 2 = 1 := rfl
set_option maxRecDepth 100000 in
theorem i22_1M (xs : Nat → Int32) : M0 xs 22 1 = 0 := rfl
set_option maxRecDepth 100000 in
theorem i16_5M (xs : Nat → Int32) : M0 xs 16 5 = 0 := rfl
set_option maxRecDepth 100000 in
theorem i54_3M (xs : Nat → Int32) : M0 xs 54 3 = 0 := rfl
set_option maxRecDepth 100000 in
theorem i64_4M (xs : Nat → Int32) : M0 xs 64 4 = 0 := rfl
set_option maxRecDepth 100000 in
theorem i70_3M (xs : Nat → Int32) : M0 xs 70 3 = 0 := rfl
set_option maxRecDepth 100000 in
theorem i83_3M (xs : Nat → Int32) : M0 xs 83 3 = 0 := rfl
