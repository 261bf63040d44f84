/-! feed, image, back, sheet, cell, copy -/
variable {B C : jA3}
theorem byte_low (x : Int32) : (x &&& 255).toInt8 = x.toInt8 := by
  apply Int8.toBitVec_inj.1
  apply BitVec.eq_of_getLsbD_eq
  intro i hi
  have h2 : (255 : Int32).toBitVec.getLsbD i = true := by
    have : ∀ j : Fin 8, (255 : Int32).toBitVec.getLsbD j.val = true := by decide +kernel
    exact this ⟨i, hi⟩
  have h4 : (x &&& 255).toBitVec.getLsbD i = x.toBitVec.getLsbD i := by
    show (x.toBitVec &&& (255 : Int32).toBitVec).getLsbD i = _
    rw [BitVec.getLsbD_and, h2, Bool.and_true]
  have h3 : i < 32 := by omega
  first
    | (show (((x &&& 255).toBitVec).signExtend 8).getLsbD i = (x.toBitVec.signExtend 8).getLsbD i; rw [BitVec.getLsbD_signExtend, BitVec.getLsbD_signExtend, if_pos h3, if_pos h3, h4])
    | (show (((x &&& 255).toBitVec).setWidth 8).getLsbD i = (x.toBitVec.setWidth 8).getLsbD i; rw [BitVec.getLsbD_setWidth, BitVec.getLsbD_setWidth, h4])
    | (simp [hi, h3, h4]; done)
theorem i8_bits {x y : Int32} (h : ∀ i, i < 8 → x.toBitVec.getLsbD i = y.toBitVec.getLsbD i) : x.toInt8 = y.toInt8 := by
  apply Int8.toBitVec_inj.1
  apply BitVec.eq_of_getLsbD_eq
  intro i hi
  have h4 := h i hi
  have h3 : i < 32 := by omega
  first
    | (show (x.toBitVec.signExtend 8).getLsbD i = (y.toBitVec.signExtend 8).getLsbD i; rw [BitVec.getLsbD_signExtend, BitVec.getLsbD_signExtend, if_pos h3, if_pos h3, h4])
    | (show (x.toBitVec.setWidth 8).getLsbD i = (y.toBitVec.setWidth 8).getLsbD i; rw [BitVec.getLsbD_setWidth, BitVec.getLsbD_setWidth, h4])
    | (simp [hi, h3, h4]; done)
theorem l2i_bit (x : Int64) {i : Nat} (hi : i < 32) : x.toInt32.toBitVec.getLsbD i = x.toBitVec.getLsbD i := by
  have h3 : i < 64 := by omega
  first
    | (show (x.toBitVec.signExtend 32).getLsbD i = _; rw [BitVec.getLsbD_signExtend, if_pos h3]; simp [hi]; done)
    | (show (x.toBitVec.setWidth 32).getLsbD i = _; rw [BitVec.getLsbD_setWidth]; simp [hi]; done)
    | (simp [hi, h3]; done)
theorem feed_byte (w : Int64) {k : Nat} (hk : k < 8) : ∃ b, b < 256 ∧ ((jlushr w ((8 : Int32) * nI k)).toInt32) &&& (255 : Int32) = nI b ∧ ((((jlshr w ((8 : Int32) * nI k)).toInt32).toInt8.toInt32).toInt8.toInt32) = (nI b).toInt8.toInt32 := by
  obtain ⟨b, hb, e⟩ := pk_andE ((jlushr w ((8 : Int32) * nI k)).toInt32) (m := 255) 8 (by decide)
  refine ⟨b, hb, e, ?_⟩
  rw [fb_byte_twice, ← e, byte_low]
  congr 1
  apply i8_bits
  intro i hi
  rw [l2i_bit _ (by omega), l2i_bit _ (by omega)]
  have a1 : ∀ k, k < 8 → ((((8 : Int32) * nI k).toInt64 &&& 63).toBitVec.smod 64).toNat = 8 * k := by decide +kernel
  have a2 : ∀ k, k < 8 → (((((8 : Int32) * nI k).toInt64.toUInt64 &&& Int64.toUInt64 63)).toBitVec % 64).toNat = 8 * k := by decide +kernel
  have e1 : (jlshr w ((8 : Int32) * nI k)).toBitVec = w.toBitVec.sshiftRight (8 * k) := by
    show w.toBitVec.sshiftRight ((((8 : Int32) * nI k).toInt64 &&& 63).toBitVec.smod 64).toNat = _
    rw [a1 k hk]
  have e2 : (jlushr w ((8 : Int32) * nI k)).toBitVec = w.toBitVec >>> (8 * k) := by
    show w.toBitVec >>> (((((8 : Int32) * nI k).toInt64.toUInt64 &&& Int64.toUInt64 63)).toBitVec % 64).toNat = _
    rw [a2 k hk]
  rw [e1, e2, BitVec.getLsbD_sshiftRight, BitVec.getLsbD_ushiftRight]
  simp [show 8 * k + i < 64 by omega, show i < 64 by omega]
theorem m_feed (h : Rel B C) (l1 : Int64) (l3 : Int32) : Sim (fun x y => x.1 = y.1 ∧ Rel x.2 y.2) (fX10_feed B l1 l3) (fX11_feed C l1 l3) := by
  obtain ⟨h1, h2, h3, h4, h5, h6, h7, h8, h9, h10⟩ := id h
  obtain ⟨g1, z, g2, g3, g4⟩ := h4
  unfold fX10_feed fX11_feed
  refine Sim.ii Iff.rfl (fun _ => Sim.rt ⟨rfl, h⟩) (fun q => ?_)
  have hl : ∃ n, 1 ≤ n ∧ n ≤ 8 ∧ l3 = nI n := by
    have q1 := (wn1 q).1
    have q2 := (wn1 q).2
    obtain ⟨n, hn, rfl⟩ := nI_of2 (x := l3) (M := 8) (n := 8) (by decide) (by
      intro z
      apply q1
      rw [Int32.lt_iff_toInt_lt] at z ⊢
      have : (0 : Int32).toInt = 0 := by decide
      have : (1 : Int32).toInt = 1 := by decide
      omega) (i32_nlt q2)
    refine ⟨n, ?_, hn, rfl⟩
    rcases Nat.eq_zero_or_pos n with e | e
    · subst e
      exact absurd (by decide) q1
    · exact e
  obtain ⟨n, hn1, hn8, rfl⟩ := hl
  rw [g1, g3, nI_add]
  refine Sim.ii Iff.rfl (fun q2 => ?_) (fun _ => Sim.rt ⟨rfl, h⟩)
  have hz : z + n ≤ 160 := by
    have q3 : nI (z + n) ≤ nI 160 := q2
    rw [nI_leI (by omega) (by omega)] at q3
    exact q3
  refine Sim.bd (R := fun x y => Fr [(22, 22, some 1), (23, 23, none)] B x ∧ Fr [(94, 94, some 4), (97, 97, none)] C y ∧ x 22 1 = nI (z + n) ∧ y 94 4 = nI (z + n) ∧ ∀ i, i < z + n → ∃ v, v < 256 ∧ x 23 i = nI v ∧ y 97 i = (nI v).toInt8.toInt32) ?_ ?_
  · refine Sim.up n (fun k s t => s.1 = nI (n - k) - 1 ∧ t.1 = nI (n - k) - 1 ∧ Fr [(22, 22, some 1), (23, 23, none)] B s.2 ∧ Fr [(94, 94, some 4), (97, 97, none)] C t.2 ∧ s.2 22 1 = nI (z + k) ∧ t.2 94 4 = nI (z + k) ∧ ∀ i, i < z + k → ∃ v, v < 256 ∧ s.2 23 i = nI v ∧ t.2 97 i = (nI v).toInt8.toInt32) ?_ ?_ (Nat.zero_le _) ⟨rfl, rfl, Fr.rf, Fr.rf, g3, by show C 94 4 = _; rw [g1]; exact g3, g4⟩
    · rintro k ⟨s1, S⟩ ⟨t1, T⟩ hk ⟨e, e', hS, hT, a1, a2, hI⟩
      have ek : nI (n - k) - 1 = nI (n - k - 1) := by rw [lit_n 1, pk_sub (by omega)]
      have e : s1 = nI (n - k - 1) := by rw [← ek]; exact e
      have e' : t1 = nI (n - k - 1) := by rw [← ek]; exact e'
      subst e e'
      have hS : Fr [(22, 22, some 1), (23, 23, none)] B S := hS
      have hT : Fr [(94, 94, some 4), (97, 97, none)] C T := hT
      have a1 : S 22 1 = nI (z + k) := a1
      have a2 : T 94 4 = nI (z + k) := a2
      have hI : ∀ i, i < z + k → ∃ v, v < 256 ∧ S 23 i = nI v ∧ T 97 i = (nI v).toInt8.toInt32 := hI
      obtain ⟨b, hb, eb1, eb2⟩ := feed_byte l1 (show n - k - 1 < 8 by omega)
      have em : nI (n - k - 1) + (-1) = nI (n - (k + 1)) - 1 := by
        rw [show n - (k + 1) = n - k - 1 by omega]
        exact (Int32.sub_eq_add_neg _ _).symm
      unfold cX10_feed_49 cX11_feed_33 fX8_put
      simp only [eb1, eb2, a1, a2, jx_n (show z + k < 2 ^ 31 by omega)]
      have c0 : ¬ nI (n - k - 1) < 0 := nI_pos (by omega)
      refine Sim.iml c0 <| Sim.imr c0 <| Sim.gr (vp_in_nI (by omega) (by omega)) ?_
      rw [if_neg (show ¬ (160 : Int32) ≤ nI (z + k) from nI_ge (b := 160) (show z + k < 160 by omega) (by omega)), jgd_t (vp_in_nI (show z + k < 160 by omega) (by omega))]
      refine Sim.rt ⟨em, em, ?_, ?_, ?_, ?_, fun i hi => ?_⟩
      · exact Fr.up (Fr.up hS (FrC.up FrC.bs rfl)) (FrC.up FrC.bs rfl)
      · exact Fr.up (Fr.up hT (FrC.up FrC.bs rfl)) (FrC.up FrC.bs rfl)
      · show upd (S 22) 1 (S 22 1 + 1) 1 = _
        rw [upd_at, a1, nI_1, Nat.add_assoc]
      · show upd (T 94) 4 (T 94 4 + 1) 4 = _
        rw [upd_at, a2, nI_1, Nat.add_assoc]
      · show ∃ v, v < 256 ∧ upd (S 23) (z + k) (nI b) i = nI v ∧ upd (T 97) (z + k) ((nI b).toInt8.toInt32) i = (nI v).toInt8.toInt32
        by_cases e : i = z + k
        · subst e
          rw [upd_at, upd_at]
          exact ⟨b, hb, rfl, rfl⟩
        · rw [upd_ne e, upd_ne e]
          exact hI i (by omega)
    · rintro ⟨s1, S⟩ ⟨t1, T⟩ ⟨e, e', hS, hT, a1, a2, hI⟩
      have e : s1 = nI (n - n) - 1 := e
      have e' : t1 = nI (n - n) - 1 := e'
      rw [Nat.sub_self] at e e'
      subst e e'
      unfold cX10_feed_49 cX11_feed_33
      exact Sim.ipl (show nI 0 - 1 < 0 by decide) <| Sim.ipr (show nI 0 - 1 < 0 by decide) <| Sim.rt ⟨hS, hT, a1, a2, hI⟩
  · rintro x y ⟨fB, fC, a1, a2, hI⟩
    refine Sim.rt ⟨?_, ?_⟩
    · show x 22 1 = y 94 4
      rw [a1, a2]
    · show Rel x y
      exact ⟨h1.fr fB fC rfl rfl, h2.fr fB fC rfl rfl, h3.fr fB fC rfl rfl, ⟨by rw [a1, a2], z + n, hz, a1, hI⟩, h5.fr fB fC rfl rfl, h6.fr fB fC rfl rfl, h7.fr fB fC rfl rfl, h8.fr fB fC rfl rfl, h9.fr fB fC rfl rfl, h10.fr fB fC rfl rfl⟩
theorem jcp6 : jcp (0 : Int32) (0 : Int32) (6 : Int32) 6 6 := by
  unfold jcp
  decide
abbrev wImB : List (Nat × Nat × Option Nat) := [(83, 83, some 2), (83, 83, some 3), (84, 84, some 2), (85, 86, none), (88, 93, none)]
abbrev wImC : List (Nat × Nat × Option Nat) := [(94, 94, some 47), (94, 94, some 48), (94, 94, some 49), (124, 126, none)]
theorem r_image {n : Nat} (hn : n ≤ 6) (g3 : B 54 3 = nI n) : Run (fun r => r.1 = B 16 5 ∧ Fr wImB B r.2 ∧ r.2 83 3 = 1 ∧ r.2 83 2 = nI n ∧ r.2 84 2 = B 17 2 ∧ (∀ i, i < 6 → r.2 85 i = B 18 i ∧ r.2 86 i = B 19 i) ∧ ∀ i j, i < n → j < n → r.2 (88 + i) j = B (57 + i) j) (fX10_image B) := by
  have e0 : fX4_becomeLike B = some (va_up (va_up (va_up B 85 (va_cpy (B 18) (B 85) 0 0 6)) 86 (va_cpy (B 19) (B 86) 0 0 6)) 84 (upd (B 84) 2 (B 17 2))) := by
    unfold fX4_becomeLike
    rw [jgd_t jcp6]
    show jgd (jcp (0 : Int32) (0 : Int32) (6 : Int32) 6 6) _ = _
    rw [jgd_t jcp6]
    rfl
  unfold fX10_image fX1_keep fX1_copyTaken
  rw [e0]
  generalize hM : va_up (va_up (va_up (va_up B 85 (va_cpy (B 18) (B 85) 0 0 6)) 86 (va_cpy (B 19) (B 86) 0 0 6)) 84 (upd (B 84) 2 (B 17 2))) 83 (upd (B 83) 2 (B 54 3)) = M
  have hl : Run (fun A2 => Fr [(88, 93, none)] M A2 ∧ ∀ i j, i < n → j < n → A2 (88 + i) j = B (57 + i) j) (jwh cX1_copyTaken_2 ((0 : Int32), M)) := by
    have m83 : M 83 2 = nI n := by rw [← hM]; exact g3
    have m57 : ∀ i, i < 6 → M (57 + i) = B (57 + i) := fun i hi => by
      rw [← hM, ju_ne _ _ (by omega), ju_ne _ _ (by omega), ju_ne _ _ (by omega), ju_ne _ _ (by omega)]
    refine Run.up n (fun k s => s.1 = nI k ∧ Fr [(88, 93, none)] M s.2 ∧ ∀ i j, i < k → j < n → s.2 (88 + i) j = B (57 + i) j) ?_ ?_ (Nat.zero_le _) ⟨rfl, Fr.rf, fun i j hi => absurd hi (Nat.not_lt_zero _)⟩
    · rintro k ⟨s1, S⟩ hk ⟨e, hS, hI⟩
      have e : s1 = nI k := e
      subst e
      have hS : Fr [(88, 93, none)] M S := hS
      have a1 : S 83 2 = nI n := by rw [hS 83 2 rfl]; exact m83
      have v : vp_in (nI k) 6 := vp_in_nI (by omega) (by omega)
      have a2 : S (57 + k) = B (57 + k) := by
        rw [← m57 k (by omega)]
        funext j
        exact hS.at (l := [(57, 62, none)]) rfl _ j (inW_rng (lo := 57) (hi := 62) rfl (by omega) (by omega))
      have jc : jcp (0 : Int32) (0 : Int32) (nI n) 6 6 := by
        refine ⟨by decide, by decide, nI_pos (by omega), ?_, ?_⟩
        · rw [nI_clamp (by omega)]
          show 0 + n ≤ 6
          omega
        · rw [nI_clamp (by omega)]
          show 0 + n ≤ 6
          omega
      unfold cX1_copyTaken_2
      simp only [a1, jx_n (show k < 2 ^ 31 by omega), jx_n (show n < 2 ^ 31 by omega), a2]
      refine Run.im (nI_ge hk (by omega)) <| Run.g v <| Run.g v <| Run.g jc <| Run.rt ⟨nI_1 k, ?_, fun i j hi hj => ?_⟩
      · exact Fr.up hS (FrC.al fun j => inW_rng (lo := 88) (hi := 93) rfl (by omega) (by omega))
      · show va_up S (88 + k) _ (88 + i) j = _
        by_cases e : i = k
        · subst e
          rw [ju_same, pk_cpy_in (by omega) (by omega), Nat.zero_add, Nat.sub_zero]
        · rw [ju_ne _ _ (by omega)]
          exact hI i j (by omega) hj
    · rintro ⟨s1, S⟩ ⟨e, hS, hI⟩
      have e : s1 = nI n := e
      subst e
      have a1 : S 83 2 = nI n := by rw [show S 83 2 = M 83 2 from hS 83 2 rfl]; exact m83
      unfold cX1_copyTaken_2
      simp only [a1]
      exact Run.ip (nI_le (Nat.le_refl _) (by omega)) <| Run.rt ⟨hS, hI⟩
  obtain ⟨A2, e2, f2, h2⟩ := hl
  have fM : Fr wImB B M := by
    rw [← hM]
    exact Fr.up (Fr.up (Fr.up (Fr.up Fr.rf (FrC.al fun _ => rfl)) (FrC.al fun _ => rfl)) (FrC.up FrC.bs rfl)) (FrC.up FrC.bs rfl)
  show Run _ (Option.bind (Option.bind (Option.bind (jwh cX1_copyTaken_2 ((0 : Int32), va_up (va_up (va_up (va_up B 85 (va_cpy (B 18) (B 85) 0 0 6)) 86 (va_cpy (B 19) (B 86) 0 0 6)) 84 (upd (B 84) 2 (B 17 2))) 83 (upd (B 83) 2 (B 54 3)))) _) _) _)
  rw [hM, e2]
  refine Run.rt ⟨?_, ?_, ?_, ?_, ?_, fun i hi => ?_, fun i j hi hj => ?_⟩
  · show A2 16 5 = _
    rw [f2 16 5 rfl, fM 16 5 rfl]
  · show Fr wImB B (va_up A2 83 (upd (A2 83) 3 1))
    exact Fr.up (fM.tr (f2.wd rfl)) (FrC.up FrC.bs rfl)
  · rfl
  · show A2 83 2 = _
    rw [f2 83 2 rfl, ← hM]
    exact g3
  · show A2 84 2 = _
    rw [f2 84 2 rfl, ← hM]
    rfl
  · show A2 85 i = _ ∧ A2 86 i = _
    rw [f2 85 i rfl, f2 86 i rfl, ← hM]
    show va_cpy (B 18) (B 85) 0 0 6 i = _ ∧ va_cpy (B 19) (B 86) 0 0 6 i = _
    rw [pk_cpy_in (by omega) (by omega), pk_cpy_in (by omega) (by omega), Nat.zero_add, Nat.sub_zero]
    exact ⟨rfl, rfl⟩
  · show va_up A2 83 _ (88 + i) j = _
    rw [ju_ne _ _ (by omega)]
    exact h2 i j hi hj
theorem r_imageC : Run (fun r => r.1 = C 94 21 ∧ Fr wImC C r.2 ∧ r.2 94 47 = 1 ∧ r.2 94 48 = C 94 6 ∧ r.2 94 49 = C 94 33 ∧ (∀ i, i < 6 → r.2 124 i = C 95 i ∧ r.2 125 i = C 96 i) ∧ ∀ i, i < 36 → r.2 126 i = C 115 i) (fX11_image C) := by
  unfold fX11_image
  generalize hM : va_up (va_up (va_up C 94 (upd (C 94) 47 (1 : Int32))) 94 (upd (upd (C 94) 47 (1 : Int32)) 48 (C 94 6))) 94 (upd (upd (upd (C 94) 47 (1 : Int32)) 48 (C 94 6)) 49 (C 94 33)) = M
  have fM : Fr wImC C M := by
    rw [← hM]
    exact Fr.up (Fr.up (Fr.up Fr.rf (FrC.up FrC.bs rfl)) (FrC.up (FrC.up (FrC.sm (FrC.up FrC.bs rfl) FrC.bs) rfl) rfl)) (FrC.up (FrC.up (FrC.up (FrC.sm (FrC.up (FrC.up (FrC.sm (FrC.up FrC.bs rfl) FrC.bs) rfl) rfl) (FrC.sm (FrC.up FrC.bs rfl) FrC.bs)) rfl) rfl) rfl)
  have hl : Run (fun A2 => Fr [(124, 125, none)] M A2 ∧ ∀ i, i < 6 → A2 124 i = C 95 i ∧ A2 125 i = C 96 i) (jwh cX11_image_23 ((0 : Int32), M)) := by
    refine Run.up 6 (fun k s => s.1 = nI k ∧ Fr [(124, 125, none)] M s.2 ∧ ∀ i, i < k → s.2 124 i = C 95 i ∧ s.2 125 i = C 96 i) ?_ ?_ (Nat.zero_le _) ⟨rfl, Fr.rf, fun i hi => absurd hi (Nat.not_lt_zero _)⟩
    · rintro k ⟨s1, S⟩ hk ⟨e, hS, hI⟩
      have e : s1 = nI k := e
      subst e
      have hS : Fr [(124, 125, none)] M S := hS
      have v : vp_in (nI k) 6 := vp_in_nI (by omega) (by omega)
      have a1 : S 95 k = C 95 k := by rw [hS 95 k rfl, fM 95 k rfl]
      have a2 : S 96 k = C 96 k := by rw [hS 96 k rfl, fM 96 k rfl]
      unfold cX11_image_23
      simp only [jx_n (show k < 2 ^ 31 by omega)]
      refine Run.im (nI_ge (b := 6) hk (by omega)) <| Run.g v <| Run.g v <| Run.be rfl <| Run.g v <| Run.g v <| Run.rt ⟨nI_1 k, ?_, fun i hi => ?_⟩
      · exact Fr.up (Fr.up hS (FrC.up FrC.bs rfl)) (FrC.up FrC.bs rfl)
      · show upd (S 124) k (S 95 k) i = _ ∧ upd (S 125) k (S 96 k) i = _
        by_cases e : i = k
        · subst e
          rw [upd_at, upd_at]
          exact ⟨a1, a2⟩
        · rw [upd_ne e, upd_ne e]
          exact hI i (by omega)
    · rintro ⟨s1, S⟩ ⟨e, hS, hI⟩
      have e : s1 = nI 6 := e
      subst e
      unfold cX11_image_23
      exact Run.ip (nI_le (a := 6) (Nat.le_refl _) (by omega)) <| Run.rt ⟨hS, hI⟩
  obtain ⟨A2, e2, f2, h2⟩ := hl
  have hl3 : Run (fun A3 => Fr [(126, 126, none)] A2 A3 ∧ ∀ i, i < 36 → A3 126 i = C 115 i) (jwh cX11_image_61 ((0 : Int32), A2)) := by
    refine Run.up 36 (fun k s => s.1 = nI k ∧ Fr [(126, 126, none)] A2 s.2 ∧ ∀ i, i < k → s.2 126 i = C 115 i) ?_ ?_ (Nat.zero_le _) ⟨rfl, Fr.rf, fun i hi => absurd hi (Nat.not_lt_zero _)⟩
    · rintro k ⟨s1, S⟩ hk ⟨e, hS, hI⟩
      have e : s1 = nI k := e
      subst e
      have hS : Fr [(126, 126, none)] A2 S := hS
      have v : vp_in (nI k) 36 := vp_in_nI (by omega) (by omega)
      have a1 : S 115 k = C 115 k := by rw [hS 115 k rfl, f2 115 k rfl, fM 115 k rfl]
      unfold cX11_image_61
      simp only [jx_n (show k < 2 ^ 31 by omega), a1]
      refine Run.im (nI_ge (b := 36) hk (by omega)) <| Run.g v <| Run.g v <| Run.rt ⟨nI_1 k, ?_, fun i hi => ?_⟩
      · exact Fr.up hS (FrC.up FrC.bs rfl)
      · show upd (S 126) k (C 115 k) i = _
        by_cases e : i = k
        · subst e
          rw [upd_at]
        · rw [upd_ne e]
          exact hI i (by omega)
    · rintro ⟨s1, S⟩ ⟨e, hS, hI⟩
      have e : s1 = nI 36 := e
      subst e
      unfold cX11_image_61
      exact Run.ip (nI_le (a := 36) (Nat.le_refl _) (by omega)) <| Run.rt ⟨hS, hI⟩
  obtain ⟨A3, e3, f3, h3⟩ := hl3
  show Run _ (Option.bind (jwh cX11_image_23 ((0 : Int32), va_up (va_up (va_up C 94 (upd (C 94) 47 (1 : Int32))) 94 (upd (upd (C 94) 47 (1 : Int32)) 48 (C 94 6))) 94 (upd (upd (upd (C 94) 47 (1 : Int32)) 48 (C 94 6)) 49 (C 94 33)))) _)
  rw [hM, e2]
  refine Run.be rfl ?_
  rw [e3]
  refine Run.rt ⟨?_, ?_, ?_, ?_, ?_, fun i hi => ?_, h3⟩
  · show A3 94 21 = _
    rw [f3 94 21 rfl, f2 94 21 rfl, fM 94 21 rfl]
  · exact (fM.tr (f2.wd rfl)).tr (f3.wd rfl)
  · show A3 94 47 = _
    rw [f3 94 47 rfl, f2 94 47 rfl, ← hM]
    rfl
  · show A3 94 48 = _
    rw [f3 94 48 rfl, f2 94 48 rfl, ← hM]
    rfl
  · show A3 94 49 = _
    rw [f3 94 49 rfl, f2 94 49 rfl, ← hM]
    rfl
  · show A3 124 i = _ ∧ A3 125 i = _
    rw [f3 124 i rfl, f3 125 i rfl]
    exact h2 i hi
theorem m_image (h : Rel B C) : Sim (fun x y => x.1 = y.1 ∧ Rel x.2 y.2 ∧ Fr wImB B x.2) (fX10_image B) (fX11_image C) := by
  obtain ⟨h1, h2, h3, h4, h5, h6, h7, h8, h9, h10⟩ := id h
  obtain ⟨g1, n, g2, g3, g4, g5, g6⟩ := id h6
  obtain ⟨k1, k2, t, m, k3, k4, k5, k6, -⟩ := id h3
  refine Sim.of_runs (r_image g2 g3) r_imageC ?_
  rintro x y ⟨a1, fB, a2, a3, a4, a5, a6⟩ ⟨b1, fC, b2, b3, b4, b5, b6⟩
  refine ⟨by rw [a1, b1, h5.1], ?_, fB⟩
  refine ⟨h1.fr fB fC rfl rfl, h2.fr fB fC rfl rfl, h3.fr fB fC rfl rfl, h4.fr fB fC rfl rfl, h5.fr fB fC rfl rfl, h6.fr fB fC rfl rfl, h7.fr fB fC rfl rfl, h8.fr fB fC rfl rfl, ⟨by rw [a2, b2], fun _ => ⟨by rw [a4, b3, k1], by rw [a3, b4, g1, g3], fun i hi => ?_, t, m, n, n, by rw [a4]; exact k3, by rw [fB 20 2 rfl]; exact k4, k5, k6, a3, by rw [fB 54 3 rfl]; exact g3, Nat.le_refl _, g2, fun i j hi hj => ?_⟩⟩, h10.fr fB fC rfl rfl⟩
  · obtain ⟨p1, p2⟩ := a5 i hi
    obtain ⟨p3, p4⟩ := b5 i hi
    rw [p1, p2, p3, p4]
    exact ⟨h2.1 i hi, h2.2.1 i hi, (h2.2.2.1 i hi).1, (h2.2.2.1 i hi).2, h2.2.2.2 i hi⟩
  · rw [a6 i j hi hj, b6 _ (by omega)]
    exact g5 i j hi hj
