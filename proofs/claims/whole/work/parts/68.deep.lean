/-! text: all depths -/
variable {A T : jA3} {v : Nat → Nat} {z N i n d m : Nat}
theorem push_n {m : Nat} (h : m < 10000) : isPush (nI m) ∧ (1 : Int32) = actOf (nI m) ∧ nI m = withOf (nI m) := by
  have h0 : (0 : Int32) ≤ nI m := nI_le (a := 0) (Nat.zero_le _) (by omega)
  refine ⟨⟨?_, ?_⟩, ?_, ?_⟩
  · rw [Int32.le_iff_toInt_le] at h0 ⊢
    have : (-6 : Int32).toInt = -6 := by decide
    have : (0 : Int32).toInt = 0 := by decide
    omega
  · exact nI_le (b := 9999) (by omega) (by omega)
  · unfold actOf
    rw [if_pos h0]
  · unfold withOf
    rw [if_pos h0]
theorem push_w : ∀ k, k < 6 → (-6 : Int32) ≤ (199 : Int32) - nI (200 + k) ∧ (199 : Int32) - nI (200 + k) ≤ 9999 ∧ (2 : Int32) = actOf ((199 : Int32) - nI (200 + k)) ∧ nI k = withOf ((199 : Int32) - nI (200 + k)) := by decide +kernel
theorem up5' (hTS : TS v z N) {kc kr : Nat} (h0 : d < 5 → P0 v z N kc kr (d + 1)) (h5 : d < 5 → P5 v z N kc kr (d + 1)) : P5 v z N (kc + 1) (kr + 1) d := by
  intro A T i n h
  obtain ⟨hz, hN, -⟩ := id hTS
  have hc := hTS.2.2.2.2 i
  show Sim _ (gX5_readLevel (fX5_readLevel kc) A (nI 5) (nI d)) (gX11_one (rX11 kr) T)
  unfold gX5_readLevel gX11_one
  rw [if_pos h.neg, if_neg (show ¬ nI 5 = (2 : Int32) by decide), if_pos (show nI 5 = (5 : Int32) from rfl), bind_id, if_pos (show T 94 11 < 0 by rw [h.negC]; decide)]
  unfold fX5_readOne
  rw [h.token hN]
  refine Sim.bl rfl ?_
  have h58 := one58 hTS h0 h5 h
  have lo : tcd v z i < 200 → Sim (Res A v z N d n i) (if nI (tcd v z i) < (1000 : Int32) then (if nI (tcd v z i) < (200 : Int32) then jX5_readOne_58 (fX5_readLevel kc) A (nI d) (nI (tcd v z i)) else (if (300 : Int32) ≤ nI (tcd v z i) then jX5_readOne_58 (fX5_readLevel kc) A (nI d) (nI (tcd v z i)) else Option.bind (fX5_write A ((199 : Int32) - nI (tcd v z i))) fun r6 => Option.bind (fX5_next r6) fun r8 => some r8)) else Option.bind (fX5_write A (nI (tcd v z i) - (1000 : Int32))) fun r10 => Option.bind (fX5_next r10) fun r12 => some r12) (jX11_one_65 (rX11 kr) T) := fun w => by
    rw [if_pos (show nI (tcd v z i) < (1000 : Int32) from nI_lt (b := 1000) (by omega) (by omega)), if_pos (show nI (tcd v z i) < (200 : Int32) from nI_lt (b := 200) w (by omega))]
    exact h58
  rcases h.tk with ⟨w, k1⟩ | ⟨w, k1⟩ | ⟨j, hj, w, k1, k2⟩ | ⟨j, hj, w, k1, k2⟩ | ⟨w, wl, k1, k2⟩ | ⟨j, hj, w, k1, k2⟩
  · rw [k1, if_neg (show ¬ (4 : Int32) = 2 by decide), if_neg (show ¬ (4 : Int32) = 1 by decide)]
    exact lo (by omega)
  · rw [k1, if_neg (show ¬ (5 : Int32) = 2 by decide), if_neg (show ¬ (5 : Int32) = 1 by decide)]
    exact lo (by omega)
  · rw [k1, if_neg (show ¬ (1 : Int32) = 2 by decide), if_pos rfl, k2, if_neg (show ¬ (6 : Int32) ≤ nI j from nI_ge (b := 6) hj (by omega))]
    obtain ⟨p1, p2, p3, p4⟩ := push_w j hj
    have hi := h.lt hTS (by omega) (by omega)
    rw [w, if_pos (show nI (200 + j) < (1000 : Int32) from nI_lt (b := 1000) (by omega) (by omega)), if_neg (show ¬ nI (200 + j) < (200 : Int32) from nI_nlt (b := 200) (by omega) (by omega)), if_neg (show ¬ (300 : Int32) ≤ nI (200 + j) from nI_ge (b := 300) (by omega) (by omega))]
    exact one_push hTS h hi _ _ _ ⟨p1, p2⟩ p3 p4
  · rw [k1, if_neg (show ¬ (1 : Int32) = 2 by decide), if_pos rfl, k2, if_pos (show (6 : Int32) ≤ nI (10 + j) from nI_le (a := 6) (by omega) (by omega))]
    rw [if_pos (show nI (tcd v z i) < (1000 : Int32) from nI_lt (b := 1000) (by omega) (by omega)), if_neg (show ¬ nI (tcd v z i) < (200 : Int32) from nI_nlt (b := 200) (by omega) (by omega)), if_pos (show (300 : Int32) ≤ nI (tcd v z i) from nI_le (a := 300) (by omega) (by omega))]
    exact h58
  · rw [k1, if_neg (show ¬ (3 : Int32) = 2 by decide), if_neg (show ¬ (3 : Int32) = 1 by decide)]
    exact lo (by omega)
  · rw [k1, if_pos rfl, k2]
    obtain ⟨p1, p2, p3⟩ := push_n hj
    have hi := h.lt hTS (by omega) (by omega)
    have e : nI (1000 + j) - (1000 : Int32) = nI j := by rw [lit_n 1000, pk_sub (by omega), Nat.add_sub_cancel_left]
    rw [w, if_neg (show ¬ nI (1000 + j) < (1000 : Int32) from nI_nlt (b := 1000) (by omega) (by omega)), e]
    exact one_push hTS h hi _ _ _ p1 p2 p3
/-- every level at every depth: e = 5 - d -/
theorem deep (hTS : TS v z N) : ∀ e d, d + e = 5 → ∀ kc kr, 6 * e + 1 ≤ kc → 3 * e + 1 ≤ kr → P5 v z N kc kr d ∧ P2 v z N (kc + 3) (kr + 1) d ∧ P0 v z N (kc + 5) (kr + 2) d := by
  intro e
  induction e with
  | zero =>
    intro d hd kc kr h1 h2
    have no : ∀ {P : Prop}, d < 5 → P := fun w => by omega
    have p5 : ∀ kc kr, 1 ≤ kc → 1 ≤ kr → P5 v z N kc kr d := fun kc kr a b => by
      obtain ⟨c, rfl⟩ : ∃ c, kc = c + 1 := ⟨kc - 1, by omega⟩
      obtain ⟨r, rfl⟩ : ∃ r, kr = r + 1 := ⟨kr - 1, by omega⟩
      exact up5' hTS no no
    have p2 : ∀ kc kr, 1 ≤ kc → 1 ≤ kr → P2 v z N (kc + 3) (kr + 1) d := fun kc kr a b => up2 hTS (kc := kc + 1) (up3 hTS (up4 hTS (p5 kc kr a b))) no
    exact ⟨p5 kc kr h1 h2, p2 kc kr h1 h2, up0 hTS (up1 hTS (p2 kc kr h1 h2))⟩
  | succ e ih =>
    intro d hd kc kr h1 h2
    have p5 : ∀ kc kr, 6 * (e + 1) + 1 ≤ kc → 3 * (e + 1) + 1 ≤ kr → P5 v z N kc kr d := fun kc kr a b => by
      obtain ⟨c, rfl⟩ : ∃ c, kc = c + 6 := ⟨kc - 6, by omega⟩
      obtain ⟨r, rfl⟩ : ∃ r, kr = r + 3 := ⟨kr - 3, by omega⟩
      exact up5' hTS (kc := c + 5) (kr := r + 2) (fun _ => (ih (d + 1) (by omega) c r (by omega) (by omega)).2.2) (fun _ => (ih (d + 1) (by omega) (c + 5) (r + 2) (by omega) (by omega)).1)
    have p2 : P2 v z N (kc + 3) (kr + 1) d := by
      obtain ⟨c, rfl⟩ : ∃ c, kc = c + 1 := ⟨kc - 1, by omega⟩
      obtain ⟨r, rfl⟩ : ∃ r, kr = r + 1 := ⟨kr - 1, by omega⟩
      exact up2 hTS (kc := c + 2) (up3 hTS (up4 hTS (p5 (c + 1) (r + 1) h1 h2))) (fun _ => (ih (d + 1) (by omega) c r (by omega) (by omega)).2.1)
    exact ⟨p5 kc kr h1 h2, p2, up0 hTS (up1 hTS p2)⟩
/-- a whole rule's text -/
theorem both_rules (hTS : TS v z N) (h : OK A T v z N i n 0) : Sim (Res A v z N 0 n i) (fX5_readLevel 64 A 0 0) (fX11_either 64 T) :=
  (deep hTS 5 0 rfl 59 62 (by omega) (by omega)).2.2 A T i n h
