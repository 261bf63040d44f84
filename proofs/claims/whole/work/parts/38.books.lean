/-! join, met -/
variable {B C : jA3} {n : Nat} {S D X : Nat → Nat}
def ad (a b : Nat) : Nat := if a ≤ b then b - a else a - b
theorem ad_comm (a b : Nat) : ad a b = ad b a := by
  unfold ad
  split <;> split <;> omega
theorem ad_self (a : Nat) : ad a a = 0 := by
  unfold ad
  split <;> omega
theorem ad_le {a b N : Nat} (ha : a ≤ N) (hb : b ≤ N) : ad a b ≤ N := by
  unfold ad
  split <;> omega
theorem jab_ad {a b : Nat} (ha : a ≤ 400) (hb : b ≤ 400) : jab (nI a - nI b) = nI (ad a b) := by
  unfold ad
  show (if 0 ≤ nI a - nI b then nI a - nI b else 0 - (nI a - nI b)) = _
  by_cases h : b ≤ a
  · rw [pk_sub h, if_pos (nI_pos' (by omega))]
    split
    · congr 1
      omega
    · rfl
  · have t : (nI a - nI b).toInt = (a : Int) - b := pk_sub_toInt (by omega) (by omega)
    have z0 : (0 : Int32).toInt = 0 := by decide
    rw [if_neg (by rw [Int32.le_iff_toInt_le, t]; omega), if_pos (by omega)]
    apply Int32.toInt_inj.mp
    rw [fb_subI (by rw [t]; omega) (by rw [t]; omega), t, nI_toInt (by omega)]
    omega
theorem sz_ad {a b : Nat} (ha : a ≤ 400) (hb : b ≤ 400) : fX11_sizeOf (nI a - nI b) = nI (ad a b) := by
  rw [← jab_eq]
  exact jab_ad ha hb
def bk (B C : jA3) (n : Nat) (S D X : Nat → Nat) : Prop := n ≤ 10 ∧ B 64 4 = nI n ∧ C 94 37 = nI n ∧ ∀ i, i < n → S i < 4 ∧ D i ≤ 365 ∧ X i ≤ 60 ∧ B 65 i = nI (S i) ∧ B 66 i = nI (D i) ∧ B 67 i = nI (X i) ∧ C 116 i = nI (S i) ∧ C 117 i = nI (D i) ∧ C 118 i = nI (X i)
theorem rBook.un (h : rBook B C) : ∃ n S D X, bk B C n S D X := by
  obtain ⟨g1, n, g2, g3, g4⟩ := h
  refine ⟨n, fun i => jx (B 65 i), fun i => jx (B 66 i), fun i => jx (B 67 i), g2, g3, by rw [g1]; exact g3, fun i hi => ?_⟩
  obtain ⟨p1, p2, p3, p4, s, d, c, b, q1, q2, q3, q4, q5, q6, q7, q8⟩ := g4 i hi
  have j1 : jx (B 65 i) = s := by rw [q5]; exact jx_n (by omega)
  have j2 : jx (B 66 i) = d := by rw [q6]; exact jx_n (by omega)
  have j3 : jx (B 67 i) = c := by rw [q7]; exact jx_n (by omega)
  rw [p1, p2, p3, q5, q6, q7]
  show jx (B 65 i) < 4 ∧ jx (B 66 i) ≤ 365 ∧ jx (B 67 i) ≤ 60 ∧ nI s = nI (jx (B 65 i)) ∧ nI d = nI (jx (B 66 i)) ∧ nI c = nI (jx (B 67 i)) ∧ nI s = nI (jx (B 65 i)) ∧ nI d = nI (jx (B 66 i)) ∧ nI c = nI (jx (B 67 i))
  rw [j1, j2, j3]
  exact ⟨q1, q2, q3, rfl, rfl, rfl, rfl, rfl, rfl⟩
theorem bk.fr {B2 : jA3} (h : bk B C n S D X) (hB : Fr [(69, 69, none)] B B2) : bk B2 C n S D X := by
  obtain ⟨g1, g2, g3, g4⟩ := h
  refine ⟨g1, by rw [hB 64 4 rfl]; exact g2, g3, fun i hi => ?_⟩
  rw [hB 65 i rfl, hB 66 i rfl, hB 67 i rfl]
  exact g4 i hi
def cl (S D X : Nat → Nat) (i j : Nat) : Prop := S i = S j ∧ ad (D i) (D j) ≤ 1 ∧ ad (X i) (X j) ≤ 2
theorem cl_comm {i j : Nat} : cl S D X i j ↔ cl S D X j i := by
  unfold cl
  rw [ad_comm (D i), ad_comm (X i)]
  exact ⟨fun h => ⟨h.1.symm, h.2⟩, fun h => ⟨h.1.symm, h.2⟩⟩
theorem r_days (h : bk B C n S D X) {i j : Nat} (hi : i < n) (hj : j < n) : fX0_daysBetween B (nI i) (nI j) = some (nI (ad (D i) (D j))) := by
  obtain ⟨g1, g2, g3, g4⟩ := h
  obtain ⟨-, a1, -, -, a2, -⟩ := g4 i hi
  obtain ⟨-, b1, -, -, b2, -⟩ := g4 j hj
  unfold fX0_daysBetween
  rw [jgd_t (vp_in_nI (by omega) (by omega)), jgd_t (vp_in_nI (by omega) (by omega)), jx_n (by omega), jx_n (by omega), a2, b2, jab_ad (by omega) (by omega)]
theorem r_cells (h : bk B C n S D X) {i j : Nat} (hi : i < n) (hj : j < n) : fX0_cellsBetween B (nI i) (nI j) = some (nI (ad (X i) (X j))) := by
  obtain ⟨g1, g2, g3, g4⟩ := h
  obtain ⟨-, -, a1, -, -, a2, -⟩ := g4 i hi
  obtain ⟨-, -, b1, -, -, b2, -⟩ := g4 j hj
  unfold fX0_cellsBetween
  rw [jgd_t (vp_in_nI (by omega) (by omega)), jgd_t (vp_in_nI (by omega) (by omega)), jx_n (by omega), jx_n (by omega), a2, b2, jab_ad (by omega) (by omega)]
theorem or_bit (m k i : Nat) : (m ||| 2 ^ k).testBit i = (m.testBit i || decide (k = i)) := by
  rw [Nat.testBit_or, Nat.testBit_two_pow]
theorem mask_set {m k : Nat} {P : Nat → Prop} (hm : m < 2 ^ k) (hI : ∀ i, i < k → (m.testBit i = true ↔ P i)) (hp : P k) : m ||| 2 ^ k < 2 ^ (k + 1) ∧ ∀ i, i < k + 1 → ((m ||| 2 ^ k).testBit i = true ↔ P i) := by
  have h1 : 2 ^ k < 2 ^ (k + 1) := Nat.pow_lt_pow_right (by omega) (by omega)
  refine ⟨or_lt (by omega) h1, fun i hi => ?_⟩
  rw [or_bit]
  by_cases e : k = i
  · subst e
    simp [hp]
  · simp [e]
    exact hI i (by omega)
theorem mask_skip {m k : Nat} {P : Nat → Prop} (hm : m < 2 ^ k) (hI : ∀ i, i < k → (m.testBit i = true ↔ P i)) (hp : ¬ P k) : m < 2 ^ (k + 1) ∧ ∀ i, i < k + 1 → (m.testBit i = true ↔ P i) := by
  have h1 : 2 ^ k < 2 ^ (k + 1) := Nat.pow_lt_pow_right (by omega) (by omega)
  refine ⟨by omega, fun i hi => ?_⟩
  by_cases e : i = k
  · subst e
    rw [Nat.testBit_lt_two_pow hm]
    simp [hp]
  · exact hI i (by omega)
theorem pow_le_1024 (h : n ≤ 10) : 2 ^ n ≤ 1024 := Nat.pow_le_pow_right (n := 2) (by omega) h
theorem r_close (h : bk B C n S D X) {r : Nat} (hr : r < n) : Run (fun x => ∃ m, x = nI m ∧ m < 2 ^ n ∧ ∀ i, i < n → (m.testBit i = true ↔ cl S D X i r)) (fX0_closeTo B (nI r)) := by
  unfold fX0_closeTo
  refine Run.bd (R := fun x => ∃ m, x = nI m ∧ m < 2 ^ n ∧ ∀ i, i < n → (m.testBit i = true ↔ cl S D X i r)) ?_ (fun a h => Run.rt h)
  refine Run.up n (fun k s => ∃ m, s = (nI m, nI k) ∧ m < 2 ^ k ∧ ∀ i, i < k → (m.testBit i = true ↔ cl S D X i r)) ?_ ?_ (Nat.zero_le _) ⟨0, rfl, by omega, fun i hi => absurd hi (Nat.not_lt_zero _)⟩
  · rintro k s hk ⟨m, rfl, hm, hI⟩
    have d := r_days h hk hr
    have c := r_cells h hk hr
    obtain ⟨g1, g2, g3, g4⟩ := id h
    obtain ⟨a0, a1, a2, a3, -⟩ := g4 k hk
    obtain ⟨b0, b1, b2, b3, -⟩ := g4 r hr
    have adD := ad_le a1 b1
    have adX := ad_le a2 b2
    unfold cX0_closeTo_4
    simp only [g2, jx_n (show k < 2 ^ 31 by omega), jx_n (show r < 2 ^ 31 by omega), a3, b3, d, c]
    have skip : ¬ cl S D X k r → Run (SO (fun s => ∃ m, s = (nI m, nI (k + 1)) ∧ m < 2 ^ (k + 1) ∧ ∀ i, i < k + 1 → (m.testBit i = true ↔ cl S D X i r)) (fun x => ∃ m, x = nI m ∧ m < 2 ^ n ∧ ∀ i, i < n → (m.testBit i = true ↔ cl S D X i r))) (some (Sum.inl (nI m, nI k + 1)) : Option ((Int32 × Int32) ⊕ Int32)) := fun hn => by
      obtain ⟨q1, q2⟩ := mask_skip hm hI hn
      exact Run.rt ⟨m, by rw [nI_1], q1, q2⟩
    refine Run.im (nI_ge hk (by omega)) <| Run.g (vp_in_nI (by omega) (by omega)) <| Run.g (vp_in_nI (by omega) (by omega)) <| Run.i (fun q => Run.be rfl <| Run.i (fun q2 => skip fun z => ?_) (fun q2 => Run.be rfl <| Run.i (fun q3 => skip fun z => ?_) (fun q3 => ?_))) (fun q => skip fun z => ?_)
    · have q2' : nI 1 < nI (ad (D k) (D r)) := q2
      rw [nI_ltI (by omega) (by omega)] at q2'
      have := z.2.1
      omega
    · have q3' : nI 2 < nI (ad (X k) (X r)) := q3
      rw [nI_ltI (by omega) (by omega)] at q3'
      have := z.2.2
      omega
    · have hp : cl S D X k r := by
        have q2' : ¬ nI 1 < nI (ad (D k) (D r)) := q2
        have q3' : ¬ nI 2 < nI (ad (X k) (X r)) := q3
        rw [nI_ltI (by omega) (by omega)] at q2' q3'
        exact ⟨(nI_eq (by omega) (by omega)).mp q, by omega, by omega⟩
      obtain ⟨p1, p2⟩ := mask_set hm hI hp
      exact Run.rt ⟨m ||| 2 ^ k, by rw [jshl_1 (by omega), or_n, nI_1], p1, p2⟩
    · exact q ((nI_eq (by omega) (by omega)).mpr z.1)
  · rintro s ⟨m, rfl, hm, hI⟩
    obtain ⟨g1, g2, g3, g4⟩ := id h
    unfold cX0_closeTo_4
    rw [g2]
    exact Run.ip (nI_le (Nat.le_refl _) (by omega)) <| Run.rt ⟨m, rfl, hm, hI⟩
def Sub (a b : Nat) : Prop := ∀ i, a.testBit i = true → b.testBit i = true
theorem Sub.rf (a : Nat) : Sub a a := fun _ h => h
theorem Sub.tr {a b c : Nat} (h : Sub a b) (h2 : Sub b c) : Sub a c := fun i q => h2 i (h i q)
theorem Sub.eq {a b : Nat} (h : Sub a b) (h2 : Sub b a) : a = b := by
  apply Nat.eq_of_testBit_eq
  intro i
  have p := h i
  have q := h2 i
  cases x : a.testBit i <;> cases y : b.testBit i
  · rfl
  · exact absurd (q y) (by rw [x]; decide)
  · exact absurd (p x) (by rw [y]; decide)
  · rfl
theorem Sub.or (a b : Nat) : Sub a (a ||| b) := fun i h => by rw [Nat.testBit_or, h]; rfl
theorem pc_eq (m : Nat) : pc m = m / 2 ^ 0 % 2 + m / 2 ^ 1 % 2 + m / 2 ^ 2 % 2 + m / 2 ^ 3 % 2 + m / 2 ^ 4 % 2 + m / 2 ^ 5 % 2 + m / 2 ^ 6 % 2 + m / 2 ^ 7 % 2 + m / 2 ^ 8 % 2 + m / 2 ^ 9 % 2 := by
  rw [Nat.pow_zero, Nat.div_one]
  rfl
theorem pc_lt {m m1 : Nat} (h1 : m1 < 1024) (h : m < 1024) (hs : Sub m m1) (hne : m ≠ m1) : pc m + 1 ≤ pc m1 := by
  have b : ∀ i, m / 2 ^ i % 2 ≤ m1 / 2 ^ i % 2 := fun i => by
    have := hs i
    rw [tb_mod, tb_mod] at this
    simp only [decide_eq_true_eq] at this
    omega
  refine Nat.lt_of_not_le fun hle => hne ?_
  have e : m / 2 ^ 0 % 2 = m1 / 2 ^ 0 % 2 ∧ m / 2 ^ 1 % 2 = m1 / 2 ^ 1 % 2 ∧ m / 2 ^ 2 % 2 = m1 / 2 ^ 2 % 2 ∧ m / 2 ^ 3 % 2 = m1 / 2 ^ 3 % 2 ∧ m / 2 ^ 4 % 2 = m1 / 2 ^ 4 % 2 ∧ m / 2 ^ 5 % 2 = m1 / 2 ^ 5 % 2 ∧ m / 2 ^ 6 % 2 = m1 / 2 ^ 6 % 2 ∧ m / 2 ^ 7 % 2 = m1 / 2 ^ 7 % 2 ∧ m / 2 ^ 8 % 2 = m1 / 2 ^ 8 % 2 ∧ m / 2 ^ 9 % 2 = m1 / 2 ^ 9 % 2 := by
    rw [pc_eq, pc_eq] at hle
    clear hne hs h1 h
    have b0 := b 0
    have b1 := b 1
    have b2 := b 2
    have b3 := b 3
    have b4 := b 4
    have b5 := b 5
    have b6 := b 6
    have b7 := b 7
    have b8 := b 8
    have b9 := b 9
    clear b
    generalize m / 2 ^ 0 % 2 = a0 at *
    generalize m1 / 2 ^ 0 % 2 = c0 at *
    generalize m / 2 ^ 1 % 2 = a1 at *
    generalize m1 / 2 ^ 1 % 2 = c1 at *
    generalize m / 2 ^ 2 % 2 = a2 at *
    generalize m1 / 2 ^ 2 % 2 = c2 at *
    generalize m / 2 ^ 3 % 2 = a3 at *
    generalize m1 / 2 ^ 3 % 2 = c3 at *
    generalize m / 2 ^ 4 % 2 = a4 at *
    generalize m1 / 2 ^ 4 % 2 = c4 at *
    generalize m / 2 ^ 5 % 2 = a5 at *
    generalize m1 / 2 ^ 5 % 2 = c5 at *
    generalize m / 2 ^ 6 % 2 = a6 at *
    generalize m1 / 2 ^ 6 % 2 = c6 at *
    generalize m / 2 ^ 7 % 2 = a7 at *
    generalize m1 / 2 ^ 7 % 2 = c7 at *
    generalize m / 2 ^ 8 % 2 = a8 at *
    generalize m1 / 2 ^ 8 % 2 = c8 at *
    generalize m / 2 ^ 9 % 2 = a9 at *
    generalize m1 / 2 ^ 9 % 2 = c9 at *
    omega
  obtain ⟨e0, e1, e2, e3, e4, e5, e6, e7, e8, e9⟩ := e
  apply Nat.eq_of_testBit_eq
  intro i
  rw [tb_mod, tb_mod]
  match i with
  | 0 => rw [e0]
  | 1 => rw [e1]
  | 2 => rw [e2]
  | 3 => rw [e3]
  | 4 => rw [e4]
  | 5 => rw [e5]
  | 6 => rw [e6]
  | 7 => rw [e7]
  | 8 => rw [e8]
  | 9 => rw [e9]
  | i + 10 =>
    have p : 1024 ≤ 2 ^ (i + 10) := Nat.pow_le_pow_right (n := 2) (by omega) (show 10 ≤ i + 10 by omega)
    rw [Nat.div_eq_of_lt (by omega), Nat.div_eq_of_lt (by omega)]
def Clo (n : Nat) (S D X : Nat → Nat) (P : Nat → Prop) : Prop := ∀ a b, a < n → b < n → P a → cl S D X b a → P b
def Pass2 (n : Nat) (S D X : Nat → Nat) (m0 m1 : Nat) : Prop := m1 < 2 ^ n ∧ Sub m0 m1 ∧ (∀ P : Nat → Prop, Clo n S D X P → (∀ i, m0.testBit i = true → P i) → ∀ i, m1.testBit i = true → P i) ∧ ∀ i j, i < n → j < n → m0.testBit i = true → cl S D X j i → m1.testBit j = true
theorem bit_big {m i : Nat} (hm : m < 2 ^ n) (hb : m.testBit i = true) : i < n := by
  rcases Nat.lt_or_ge i n with h | h
  · exact h
  · rw [Nat.testBit_lt_two_pow (Nat.lt_of_lt_of_le hm (Nat.pow_le_pow_right (by omega) h))] at hb
    cases hb
theorem r_pass (h : bk B C n S D X) {m0 : Nat} (l4 l5 : Int32) (hm0 : m0 < 2 ^ n) : Run (fun x => ∃ m1, x = nI m1 ∧ Pass2 n S D X m0 m1) (jwh (cX0_meetingOf_26 B l4 l5) (nI m0, (0 : Int32))) := by
  obtain ⟨g1, g2, g3, g4⟩ := id h
  have h1024 := pow_le_1024 g1
  refine Run.up n (fun k s => ∃ m, s = (nI m, nI k) ∧ m < 2 ^ n ∧ Sub m0 m ∧ (∀ P : Nat → Prop, Clo n S D X P → (∀ i, m0.testBit i = true → P i) → ∀ i, m.testBit i = true → P i) ∧ ∀ i j, i < k → j < n → m0.testBit i = true → cl S D X j i → m.testBit j = true) ?_ ?_ (Nat.zero_le _) ⟨m0, rfl, hm0, Sub.rf _, fun P _ q => q, fun i j hi => absurd hi (Nat.not_lt_zero _)⟩
  · rintro k s hk ⟨m, rfl, hm, hs, hP, hI⟩
    unfold cX0_meetingOf_26
    rw [g2]
    refine Run.im (nI_ge hk (by omega)) <| Run.i (fun q => ?_) (fun q => ?_)
    · have q' := (bit0 (show m < 2 ^ 31 by omega) (show k < 32 by omega)).mp q
      refine Run.rt ⟨m, by rw [nI_1], hm, hs, hP, fun i j hi hj hb hc => ?_⟩
      by_cases e : i = k
      · subst e
        rw [hs i hb] at q'
        cases q'
      · exact hI i j (by omega) hj hb hc
    · have hk1 : m.testBit k = true := by
        cases e : m.testBit k with
        | true => rfl
        | false => exact absurd ((bit0 (by omega) (by omega)).mpr e) q
      obtain ⟨x, e1, c, rfl, hc, hcb⟩ := r_close h hk
      refine Run.be e1 <| Run.rt ⟨m ||| c, by rw [or_n, nI_1], or_lt hm hc, hs.tr (Sub.or _ _), fun P hC hp i hb => ?_, fun i j hi hj hb hcl => ?_⟩
      · rw [Nat.testBit_or, Bool.or_eq_true] at hb
        rcases hb with hb | hb
        · exact hP P hC hp i hb
        · have hi := bit_big hc hb
          exact hC k i hk hi (hP P hC hp k hk1) ((hcb i hi).mp hb)
      · rw [Nat.testBit_or, Bool.or_eq_true]
        by_cases e : i = k
        · subst e
          exact Or.inr ((hcb j hj).mpr hcl)
        · exact Or.inl (hI i j (by omega) hj hb hcl)
  · rintro s ⟨m, rfl, hm, hs, hP, hI⟩
    unfold cX0_meetingOf_26
    rw [g2]
    exact Run.ip (nI_le (Nat.le_refl _) (by omega)) <| Run.rt ⟨m, rfl, hm, hs, hP, hI⟩
theorem r_passC (h : bk B C n S D X) {m0 : Nat} (hm0 : m0 < 2 ^ n) : Run (fun x => ∃ m1, x = nI m1 ∧ Pass2 n S D X m0 m1) (jwh (cX11_meetingOf_16 C (nI m0)) (nI m0, (0 : Int32))) := by
  obtain ⟨g1, g2, g3, g4⟩ := id h
  have h1024 := pow_le_1024 g1
  refine Run.up n (fun k s => ∃ m, s = (nI m, nI k) ∧ m < 2 ^ n ∧ Sub m0 m ∧ (∀ P : Nat → Prop, Clo n S D X P → (∀ i, m0.testBit i = true → P i) → ∀ i, m.testBit i = true → P i) ∧ ∀ i j, i < k → j < n → m0.testBit i = true → cl S D X j i → m.testBit j = true) ?_ ?_ (Nat.zero_le _) ⟨m0, rfl, hm0, Sub.rf _, fun P _ q => q, fun i j hi => absurd hi (Nat.not_lt_zero _)⟩
  · rintro k s hk ⟨m, rfl, hm, hs, hP, hI⟩
    unfold cX11_meetingOf_16
    rw [g3]
    refine Run.im (nI_ge hk (by omega)) <| Run.i (fun q => ?_) (fun q => ?_)
    · have q' := (bit0 (show m0 < 2 ^ 31 by omega) (show k < 32 by omega)).mp q
      refine Run.rt ⟨m, by rw [nI_1], hm, hs, hP, fun i j hi hj hb hc => ?_⟩
      by_cases e : i = k
      · subst e
        rw [hb] at q'
        cases q'
      · exact hI i j (by omega) hj hb hc
    · have hk0 : m0.testBit k = true := by
        cases e : m0.testBit k with
        | true => rfl
        | false => exact absurd ((bit0 (by omega) (by omega)).mpr e) q
      obtain ⟨a0, a1, a2, -, -, -, a3, a4, a5⟩ := g4 k hk
      have hin : Run (fun x => ∃ m1, x = nI m1 ∧ m1 < 2 ^ n ∧ ∀ j, (m1.testBit j = true ↔ m.testBit j = true ∨ (j < n ∧ cl S D X j k))) (jwh (cX11_meetingOf_40 C (nI m0) (nI k)) (nI m, (0 : Int32))) := by
        refine Run.up n (fun b s => ∃ m1, s = (nI m1, nI b) ∧ m1 < 2 ^ n ∧ ∀ j, (m1.testBit j = true ↔ m.testBit j = true ∨ (j < b ∧ cl S D X j k))) ?_ ?_ (Nat.zero_le _) ⟨m, rfl, hm, fun j => ⟨Or.inl, fun z => z.elim id (fun w => absurd w.1 (Nat.not_lt_zero _))⟩⟩
        · rintro b s hb ⟨m1, rfl, hm1, hJ⟩
          obtain ⟨b0, b1, b2, -, -, -, b3, b4, b5⟩ := g4 b hb
          have adD := ad_le a1 b1
          have adX := ad_le a2 b2
          have vk : vp_in (nI k) 10 := vp_in_nI (by omega) (by omega)
          have vb : vp_in (nI b) 10 := vp_in_nI (by omega) (by omega)
          unfold cX11_meetingOf_40
          simp only [g3, jx_n (show k < 2 ^ 31 by omega), jx_n (show b < 2 ^ 31 by omega), a3, a4, a5, b3, b4, b5, sz_ad (show D k ≤ 400 by omega) (show D b ≤ 400 by omega), sz_ad (show X k ≤ 400 by omega) (show X b ≤ 400 by omega)]
          have skip : ¬ cl S D X b k → Run (SO (fun s => ∃ m1, s = (nI m1, nI (b + 1)) ∧ m1 < 2 ^ n ∧ ∀ j, (m1.testBit j = true ↔ m.testBit j = true ∨ (j < b + 1 ∧ cl S D X j k))) (fun x => ∃ m1, x = nI m1 ∧ m1 < 2 ^ n ∧ ∀ j, (m1.testBit j = true ↔ m.testBit j = true ∨ (j < n ∧ cl S D X j k)))) (some (Sum.inl (nI m1, nI b + 1)) : Option ((Int32 × Int32) ⊕ Int32)) := fun hn =>
            Run.rt ⟨m1, by rw [nI_1], hm1, fun j => by
              rw [hJ j]
              refine or_congr Iff.rfl ⟨fun w => ⟨by omega, w.2⟩, fun w => ⟨?_, w.2⟩⟩
              by_cases e : j = b
              · subst e; exact absurd w.2 hn
              · omega⟩
          refine Run.im (nI_ge hb (by omega)) <| Run.g vk <| Run.g vb <| Run.i (fun q => Run.g vk <| Run.g vb <| Run.i (fun q2 => skip fun z => ?_) (fun q2 => Run.g vk <| Run.g vb <| Run.i (fun q3 => skip fun z => ?_) (fun q3 => ?_))) (fun q => skip fun z => ?_)
          · have q2' : nI 1 < nI (ad (D k) (D b)) := q2
            rw [nI_ltI (by omega) (by omega), ad_comm] at q2'
            have := z.2.1
            omega
          · have q3' : nI 2 < nI (ad (X k) (X b)) := q3
            rw [nI_ltI (by omega) (by omega), ad_comm] at q3'
            have := z.2.2
            omega
          · have hp : cl S D X b k := by
              have q2' : ¬ nI 1 < nI (ad (D k) (D b)) := q2
              have q3' : ¬ nI 2 < nI (ad (X k) (X b)) := q3
              rw [nI_ltI (by omega) (by omega)] at q2' q3'
              exact cl_comm.mp ⟨(nI_eq (by omega) (by omega)).mp q, by omega, by omega⟩
            refine Run.rt ⟨m1 ||| 2 ^ b, by rw [jshl_1 (by omega), or_n, nI_1], or_lt hm1 (Nat.pow_lt_pow_right (by omega) hb), fun j => ?_⟩
            rw [or_bit, Bool.or_eq_true, hJ j, decide_eq_true_eq]
            constructor
            · rintro ((w | w) | rfl)
              · exact Or.inl w
              · exact Or.inr ⟨by omega, w.2⟩
              · exact Or.inr ⟨by omega, hp⟩
            · rintro (w | ⟨w1, w2⟩)
              · exact Or.inl (Or.inl w)
              · by_cases e : b = j
                · exact Or.inr e
                · exact Or.inl (Or.inr ⟨by omega, w2⟩)
          · exact q ((nI_eq (by omega) (by omega)).mpr z.1.symm)
        · rintro s ⟨m1, rfl, hm1, hJ⟩
          unfold cX11_meetingOf_40
          rw [g3]
          exact Run.ip (nI_le (Nat.le_refl _) (by omega)) <| Run.rt ⟨m1, rfl, hm1, hJ⟩
      obtain ⟨x, e1, m1, rfl, hm1, hJ⟩ := hin
      refine Run.be e1 <| Run.rt ⟨m1, by rw [nI_1], hm1, fun i q => (hJ i).mpr (Or.inl (hs i q)), fun P hC hp i hb => ?_, fun i j hi hj hb hcl => ?_⟩
      · rcases (hJ i).mp hb with w | w
        · exact hP P hC hp i w
        · exact hC k i hk w.1 (hp k hk0) w.2
      · refine (hJ j).mpr ?_
        by_cases e : i = k
        · subst e
          exact Or.inr ⟨hj, hcl⟩
        · exact Or.inl (hI i j (by omega) hj hb hcl)
  · rintro s ⟨m, rfl, hm, hs, hP, hI⟩
    unfold cX11_meetingOf_16
    rw [g3]
    exact Run.ip (nI_le (Nat.le_refl _) (by omega)) <| Run.rt ⟨m, rfl, hm, hs, hP, hI⟩
/-- all that r reaches -/
def Good (n : Nat) (S D X : Nat → Nat) (r m : Nat) : Prop := m < 2 ^ n ∧ m.testBit r = true ∧ ∀ P : Nat → Prop, Clo n S D X P → P r → ∀ i, m.testBit i = true → P i
def Ced (n : Nat) (S D X : Nat → Nat) (m : Nat) : Prop := ∀ i j, i < n → j < n → m.testBit i = true → cl S D X j i → m.testBit j = true
theorem Good.step {r m m1 : Nat} (h : Good n S D X r m) (hp : Pass2 n S D X m m1) : Good n S D X r m1 :=
  ⟨hp.1, hp.2.1 r h.2.1, fun P hC hr i hb => hp.2.2.1 P hC (h.2.2 P hC hr) i hb⟩
theorem Good.one {r m m1 : Nat} (h : Good n S D X r m) (hc : Ced n S D X m) (h1 : Good n S D X r m1) (hc1 : Ced n S D X m1) : m = m1 :=
  Sub.eq (fun i hb => h.2.2 (fun i => m1.testBit i = true) (fun a b ha hb hp hq => hc1 a b ha hb hp hq) h1.2.1 i hb) (fun i hb => h1.2.2 (fun i => m.testBit i = true) (fun a b ha hb hp hq => hc a b ha hb hp hq) h.2.1 i hb)
theorem good0 {r : Nat} (hr : r < n) : Good n S D X r (2 ^ r) :=
  ⟨Nat.pow_lt_pow_right (by omega) hr, by rw [Nat.testBit_two_pow_self], fun P _ hp i hb => by
    rw [Nat.testBit_two_pow, decide_eq_true_eq] at hb
    rw [← hb]
    exact hp⟩
theorem pc_one : ∀ r, r < 10 → pc (2 ^ r) = 1 := by decide +kernel
theorem r_meet (h : bk B C n S D X) {r : Nat} (hr : r < n) : Run (fun x => ∃ m, x = nI m ∧ Good n S D X r m ∧ Ced n S D X m) (fX0_meetingOf B (nI r)) := by
  obtain ⟨g1, g2, g3, g4⟩ := id h
  have h1024 := pow_le_1024 g1
  unfold fX0_meetingOf
  refine Run.bd (R := fun x => ∃ m, x = nI m ∧ Good n S D X r m ∧ Ced n S D X m) ?_ (fun a h => Run.rt h)
  rw [jshl_1 (by omega)]
  refine Run.up 10 (fun k s => ∃ m g, s = (nI m, g, nI k) ∧ Good n S D X r m ∧ (g = 0 → Ced n S D X m) ∧ (¬ g = 0 → k + 1 ≤ pc m)) ?_ ?_ (Nat.zero_le _) ⟨2 ^ r, 1, rfl, good0 hr, fun z => absurd z (by decide), fun _ => by rw [pc_one r (by omega)]; omega⟩
  · rintro k s hk ⟨m, g, rfl, hG, hC, hp⟩
    unfold cX0_meetingOf_9
    refine Run.im (nI_ge (b := 10) hk (by omega)) <| Run.i (fun q => Run.rt ⟨m, rfl, hG, hC q⟩) (fun q => ?_)
    obtain ⟨x, e1, m1, rfl, hP⟩ := r_pass h (nI k) (nI m) hG.1
    have hm := hG.1
    have hm1 := hP.1
    refine Run.be e1 <| Run.i (fun q2 => ?_) (fun q2 => ?_)
    · have e : m1 = m := (nI_eq (by omega) (by omega)).mp q2
      subst e
      exact Run.rt ⟨m1, 0, by rw [nI_1], hG, fun _ i j hi hj hb hc => hP.2.2.2 i j hi hj hb hc, fun z => absurd rfl z⟩
    · refine Run.rt ⟨m1, 1, by rw [nI_1], hG.step hP, fun z => absurd z (by decide), fun _ => ?_⟩
      have := pc_lt (by omega) (by omega) hP.2.1 (fun e => q2 (by rw [e]))
      have := hp q
      omega
  · rintro s ⟨m, g, rfl, hG, hC, hp⟩
    unfold cX0_meetingOf_9
    have hm := hG.1
    refine Run.ip (nI_le (a := 10) (Nat.le_refl _) (by omega)) <| Run.rt ⟨m, rfl, hG, ?_⟩
    by_cases q : g = 0
    · exact hC q
    · have := hp q
      have := pc_le m (by omega)
      omega
theorem r_meetC (h : bk B C n S D X) {r : Nat} (hr : r < n) : Run (fun x => ∃ m, x = nI m ∧ Good n S D X r m ∧ Ced n S D X m) (fX11_meetingOf C (nI r)) := by
  obtain ⟨g1, g2, g3, g4⟩ := id h
  have h1024 := pow_le_1024 g1
  unfold fX11_meetingOf
  refine Run.bd (R := fun x => ∃ m, x = nI m ∧ Good n S D X r m ∧ Ced n S D X m) ?_ (fun a h => Run.rt h)
  rw [jshl_1 (by omega)]
  refine Run.dn (fun N s => ∃ m g, s = (nI m, g) ∧ Good n S D X r m ∧ (g = 0 → Ced n S D X m) ∧ (g = 0 ∧ N = 0 ∨ ¬ g = 0 ∧ N = 12 - pc m)) ?_ (n := 12 - pc (2 ^ r)) ⟨2 ^ r, 1, rfl, good0 hr, fun z => absurd z (by decide), Or.inr ⟨by decide, rfl⟩⟩
  rintro N s ⟨m, g, rfl, hG, hC, hN⟩
  unfold cX11_meetingOf_6
  refine Run.i (fun q => Run.rt ⟨m, rfl, hG, hC q⟩) (fun q => ?_)
  obtain ⟨x, e1, m1, rfl, hP⟩ := r_passC h hG.1
  have hm := hG.1
  have hm1 := hP.1
  have hN2 : N = 12 - pc m := by
    rcases hN with w | w
    · exact absurd w.1 q
    · exact w.2
  have hpc := pc_le m (by omega)
  refine Run.be e1 <| Run.i (fun q2 => ?_) (fun q2 => ?_)
  · have e : m1 = m := (nI_eq (by omega) (by omega)).mp q2
    subst e
    exact Run.rt ⟨0, by omega, m1, 0, rfl, hG, fun _ i j hi hj hb hc => hP.2.2.2 i j hi hj hb hc, Or.inl ⟨rfl, rfl⟩⟩
  · have := pc_lt (by omega) (by omega) hP.2.1 (fun e => q2 (by rw [e]))
    have := pc_le m1 (by omega)
    exact Run.rt ⟨12 - pc m1, by omega, m1, 1, rfl, hG.step hP, fun z => absurd z (by decide), Or.inr ⟨by decide, rfl⟩⟩
theorem s_meet (h : bk B C n S D X) {r : Nat} (hr : r < n) : Sim (fun x y => x = y ∧ ∃ m, m < 2 ^ n ∧ x = nI m) (fX0_meetingOf B (nI r)) (fX11_meetingOf C (nI r)) := by
  refine Sim.of_runs (r_meet h hr) (r_meetC h hr) ?_
  rintro x y ⟨m, rfl, h1, h2⟩ ⟨m1, rfl, h3, h4⟩
  have := Good.one h1 h2 h3 h4
  subst this
  exact ⟨rfl, m, h1.1, rfl⟩
theorem m_join (h : Rel B C) (l1 : Int32) : Sim (fun x y => x = y) (fX10_join B l1) (fX11_join C l1) := by
  obtain ⟨n, S, D, X, hb⟩ := h.2.2.2.2.2.2.1.un
  obtain ⟨g1, g2, g3, g4⟩ := id hb
  unfold fX10_join fX11_join fX11_isReport
  rw [g2, g3]
  refine Sim.ii Iff.rfl (fun _ => Sim.rt rfl) (fun q1 => ?_)
  obtain ⟨r, hr, rfl⟩ := wn_m (by omega) q1
  exact Sim.bd (s_meet hb hr) (fun x y e => Sim.rt e.1)
theorem m_met (h : Rel B C) (l1 : Int32) : Sim (fun x y => x = y) (fX10_met B l1) (fX11_met C l1) := by
  obtain ⟨n, S, D, X, hb⟩ := h.2.2.2.2.2.2.1.un
  obtain ⟨g1, g2, g3, g4⟩ := id hb
  have h1024 := pow_le_1024 g1
  unfold fX10_met fX11_met fX0_meetingsOf
  refine Sim.ii Iff.rfl (fun _ => Sim.rt rfl) (fun q1 => ?_)
  have hs : Sim (fun x y => x = y) (jwh (cX0_meetingsOf_7 B l1) ((0 : Int32), (0 : Int32), (0 : Int32))) (jwh (cX11_met_17 C l1) ((0 : Int32), (0 : Int32), (0 : Int32))) := by
    refine Sim.up n (fun k s t => s = t ∧ s.2.2 = nI k ∧ ∃ m, m < 2 ^ n ∧ s.1 = nI m) ?_ ?_ (Nat.zero_le _) ⟨rfl, rfl, 0, Nat.pow_pos (by omega), rfl⟩
    · rintro k ⟨s1, s2, s3⟩ t hk ⟨rfl, e, m, hm, e2⟩
      have e : s3 = nI k := e
      have e2 : s1 = nI m := e2
      subst e e2
      obtain ⟨-, -, -, a1, -, -, a2, -, -⟩ := g4 k hk
      unfold cX0_meetingsOf_7 cX11_met_17
      simp only [g2, g3, jx_n (show k < 2 ^ 31 by omega), a1, a2]
      have v : vp_in (nI k) 10 := vp_in_nI (by omega) (by omega)
      refine Sim.iml (nI_ge hk (by omega)) <| Sim.imr (nI_ge hk (by omega)) <| Sim.gl v <| Sim.gr v <| Sim.ii Iff.rfl (fun _ => ?_) (fun _ => Sim.rt ⟨rfl, nI_1 k, m, hm, rfl⟩)
      refine Sim.ix (bit01 (by omega) (by omega)) (fun _ => ?_) (fun _ => Sim.rt ⟨rfl, nI_1 k, m, hm, rfl⟩)
      obtain ⟨x, y, e1, e2, rfl, m1, hm1, rfl⟩ := s_meet hb hk
      exact Sim.bl e1 <| Sim.br e2 <| Sim.rt ⟨rfl, nI_1 k, m ||| m1, or_lt hm hm1, or_n _ _⟩
    · rintro ⟨s1, s2, s3⟩ t ⟨rfl, e, -⟩
      have e : s3 = nI n := e
      subst e
      unfold cX0_meetingsOf_7 cX11_met_17
      simp only [g2, g3]
      exact Sim.ipl (nI_le (Nat.le_refl _) (by omega)) <| Sim.ipr (nI_le (Nat.le_refl _) (by omega)) <| Sim.rt rfl
  obtain ⟨x, y, e1, e2, rfl⟩ := hs
  rw [e1, e2]
  exact Sim.rt rfl
