/-! text: what lies below the steps being read is left alone -/
def Lo (T T2 : jA3) : Prop := ∀ n, n ≤ 170 → T 94 10 = nI n → (∃ m, m ≤ 170 ∧ T2 94 10 = nI m) ∧ ∀ j, j < 1020 → T2 98 j = T 98 j ∧ T2 99 j = T 99 j
theorem Lo.rf {T : jA3} : Lo T T := fun n h e => ⟨⟨n, h, e⟩, fun _ _ => ⟨rfl, rfl⟩⟩
theorem Lo.tr {T S R : jA3} (h : Lo T S) (k : Lo S R) : Lo T R := fun n hn e => by
  obtain ⟨⟨m, hm, e2⟩, a⟩ := h n hn e
  obtain ⟨g, b⟩ := k m hm e2
  exact ⟨g, fun j hj => ⟨(b j hj).1.trans (a j hj).1, (b j hj).2.trans (a j hj).2⟩⟩
theorem Fr.lo {ws : List (Nat × Nat × Option Nat)} {T S : jA3} (h : Fr ws T S) (d : dj [(94, 94, some 10), (98, 99, none)] ws = true) : Lo T S := fun n hn e =>
  ⟨⟨n, hn, by rw [h.at d 94 10 rfl]; exact e⟩, fun j _ => ⟨h.at d 98 j rfl, h.at d 99 j rfl⟩⟩
theorem Lo.lp {σ ρ : Type} {b : σ → Option (σ ⊕ ρ)} {ms : σ → jA3} {mr : ρ → jA3} (hb : ∀ s z, b s = some z → Lo (ms s) (Sum.elim ms mr z)) {s0 : σ} {y : ρ} (h : jwh b s0 = some y) : Lo (ms s0) (mr y) := by
  refine jwh_use (b := b) (G := fun s => Lo (ms s) (mr y)) (Gx := fun x => Lo (mr x) (mr y)) ?_ h Lo.rf
  intro s z e h1 h2
  have hz := hb s z e
  cases z with
  | inl s2 => exact hz.tr (h1 s2 rfl)
  | inr x => exact hz.tr (h2 x rfl)
theorem lo_fX11_addStep {A : Nat → Nat → Int32} {l1 : Int32} {l2 : Int32} {z : (Nat → Nat → Int32)} (h : fX11_addStep A l1 l2 = some z) : Lo A z := by
  intro n hn e
  unfold fX11_addStep at h
  have ea : (1020 : Int32) + nI n = nI (1020 + n) := by rw [lit_n 1020, nI_add]
  obtain ⟨g1, h⟩ := of_guard h
  rw [e, ea] at g1
  have hn2 : n < 170 := by
    rcases Nat.lt_or_ge n 170 with w | w
    · exact w
    · have : n = 170 := by omega
      subst this
      exact absurd (Or.inr (by decide)) g1
  obtain ⟨m2, q1, h⟩ := of_bind h
  obtain rfl := Option.some.inj q1
  obtain ⟨-, h⟩ := of_guard h
  obtain ⟨m5, q3, h⟩ := of_bind h
  obtain rfl := Option.some.inj q3
  obtain rfl := Option.some.inj h
  refine ⟨⟨n + 1, by omega, ?_⟩, fun j hj => ⟨?_, ?_⟩⟩
  · show A 94 10 + 1 = _
    rw [e]
    exact nI_1 n
  · show upd (A 98) (jx ((1020 : Int32) + A 94 10)) l1 j = _
    rw [e, ea, jx_n (by omega), upd_ne (by omega)]
  · show upd (A 99) (jx ((1020 : Int32) + A 94 10)) l2 j = _
    rw [e, ea, jx_n (by omega), upd_ne (by omega)]
theorem lo_cX11_all_4 {rc : Nat → (Nat → Nat → Int32) → Option (Nat → Nat → Int32)} (hrc : ∀ k A z, rc k A = some z → Lo A z) (s : (Nat → Nat → Int32)) (z : ((Nat → Nat → Int32) ⊕ (Nat → Nat → Int32))) (h : cX11_all_4 rc s = some z) : Lo s ((Sum.elim (fun (x : Nat → Nat → Int32) => x) (fun (x : Nat → Nat → Int32) => x)) z) := by
  unfold cX11_all_4 at h
  rcases of_ite h with ⟨-, h⟩ | ⟨-, h⟩
  · obtain rfl := Option.some.inj h
    exact Lo.rf
  · obtain ⟨r3, q1, h⟩ := of_bind h
    have f2 : Lo s r3 := Lo.tr Lo.rf (Fr.lo (w_fX11_next q1) rfl)
    obtain ⟨r5, q3, h⟩ := of_bind h
    have f4 : Lo s r5 := Lo.tr f2 ((hrc _ _ _ q3))
    obtain ⟨r7, q5, h⟩ := of_bind h
    have f6 : Lo s r7 := Lo.tr f4 ((lo_fX11_addStep q5))
    obtain rfl := Option.some.inj h
    exact f6
theorem lo_fX11_all {rc : Nat → (Nat → Nat → Int32) → Option (Nat → Nat → Int32)} (hrc : ∀ k A z, rc k A = some z → Lo A z) {A : Nat → Nat → Int32} {z : (Nat → Nat → Int32)} (h : fX11_all rc A = some z) : Lo A z := by
  unfold fX11_all at h
  obtain ⟨r1, q1, h⟩ := of_bind h
  have f2 : Lo A r1 := Lo.tr Lo.rf ((hrc _ _ _ q1))
  obtain ⟨e3, q3, h⟩ := of_bind h
  have f4 : Lo A e3 := Lo.tr f2 ((Lo.lp (ms := (fun (x : Nat → Nat → Int32) => x)) (mr := (fun (x : Nat → Nat → Int32) => x)) (lo_cX11_all_4 hrc ) q3))
  obtain rfl := Option.some.inj h
  exact f4
theorem lo_cX11_either_4 {rc : Nat → (Nat → Nat → Int32) → Option (Nat → Nat → Int32)} (hrc : ∀ k A z, rc k A = some z → Lo A z) (s : (Nat → Nat → Int32)) (z : ((Nat → Nat → Int32) ⊕ (Nat → Nat → Int32))) (h : cX11_either_4 rc s = some z) : Lo s ((Sum.elim (fun (x : Nat → Nat → Int32) => x) (fun (x : Nat → Nat → Int32) => x)) z) := by
  unfold cX11_either_4 at h
  rcases of_ite h with ⟨-, h⟩ | ⟨-, h⟩
  · obtain rfl := Option.some.inj h
    exact Lo.rf
  · obtain ⟨r3, q1, h⟩ := of_bind h
    have f2 : Lo s r3 := Lo.tr Lo.rf (Fr.lo (w_fX11_next q1) rfl)
    obtain ⟨r5, q3, h⟩ := of_bind h
    have f4 : Lo s r5 := Lo.tr f2 ((lo_fX11_all hrc q3))
    obtain ⟨r7, q5, h⟩ := of_bind h
    have f6 : Lo s r7 := Lo.tr f4 ((lo_fX11_addStep q5))
    obtain rfl := Option.some.inj h
    exact f6
theorem lo_gX11_either {rc : Nat → (Nat → Nat → Int32) → Option (Nat → Nat → Int32)} (hrc : ∀ k A z, rc k A = some z → Lo A z) {A : Nat → Nat → Int32} {z : (Nat → Nat → Int32)} (h : gX11_either rc A = some z) : Lo A z := by
  unfold gX11_either at h
  obtain ⟨r1, q1, h⟩ := of_bind h
  have f2 : Lo A r1 := Lo.tr Lo.rf ((lo_fX11_all hrc q1))
  obtain ⟨e3, q3, h⟩ := of_bind h
  have f4 : Lo A e3 := Lo.tr f2 ((Lo.lp (ms := (fun (x : Nat → Nat → Int32) => x)) (mr := (fun (x : Nat → Nat → Int32) => x)) (lo_cX11_either_4 hrc ) q3))
  obtain rfl := Option.some.inj h
  exact f4
theorem lo_cX11_term_4 {rc : Nat → (Nat → Nat → Int32) → Option (Nat → Nat → Int32)} (hrc : ∀ k A z, rc k A = some z → Lo A z) (s : (Nat → Nat → Int32)) (z : ((Nat → Nat → Int32) ⊕ (Nat → Nat → Int32))) (h : cX11_term_4 rc s = some z) : Lo s ((Sum.elim (fun (x : Nat → Nat → Int32) => x) (fun (x : Nat → Nat → Int32) => x)) z) := by
  unfold cX11_term_4 at h
  rcases of_ite h with ⟨-, h⟩ | ⟨-, h⟩
  · obtain rfl := Option.some.inj h
    exact Lo.rf
  · obtain ⟨r3, q1, h⟩ := of_bind h
    have f2 : Lo s r3 := Lo.tr Lo.rf (Fr.lo (w_fX11_next q1) rfl)
    obtain ⟨r5, q3, h⟩ := of_bind h
    have f4 : Lo s r5 := Lo.tr f2 ((hrc _ _ _ q3))
    obtain ⟨r7, q5, h⟩ := of_bind h
    have f6 : Lo s r7 := Lo.tr f4 ((lo_fX11_addStep q5))
    obtain rfl := Option.some.inj h
    exact f6
theorem lo_fX11_term {rc : Nat → (Nat → Nat → Int32) → Option (Nat → Nat → Int32)} (hrc : ∀ k A z, rc k A = some z → Lo A z) {A : Nat → Nat → Int32} {z : (Nat → Nat → Int32)} (h : fX11_term rc A = some z) : Lo A z := by
  unfold fX11_term at h
  obtain ⟨r1, q1, h⟩ := of_bind h
  have f2 : Lo A r1 := Lo.tr Lo.rf ((hrc _ _ _ q1))
  obtain ⟨e3, q3, h⟩ := of_bind h
  have f4 : Lo A e3 := Lo.tr f2 ((Lo.lp (ms := (fun (x : Nat → Nat → Int32) => x)) (mr := (fun (x : Nat → Nat → Int32) => x)) (lo_cX11_term_4 hrc ) q3))
  obtain rfl := Option.some.inj h
  exact f4
theorem lo_jX11_sum_22_4 {rc : Nat → (Nat → Nat → Int32) → Option (Nat → Nat → Int32)} (hrc : ∀ k A z, rc k A = some z → Lo A z) {A : Nat → Nat → Int32} {z : ((Nat → Nat → Int32) ⊕ (Nat → Nat → Int32))} (h : jX11_sum_22_4 rc A = some z) : Lo A ((Sum.elim (fun (x : Nat → Nat → Int32) => x) (fun (x : Nat → Nat → Int32) => x)) z) := by
  unfold jX11_sum_22_4 at h
  obtain ⟨r1, q1, h⟩ := of_bind h
  have f2 : Lo A r1 := Lo.tr Lo.rf (Fr.lo (w_fX11_next q1) rfl)
  obtain ⟨r3, q3, h⟩ := of_bind h
  have f4 : Lo A r3 := Lo.tr f2 ((lo_fX11_term hrc q3))
  obtain ⟨r5, q5, h⟩ := of_bind h
  have f6 : Lo A r5 := Lo.tr f4 ((lo_fX11_addStep q5))
  obtain rfl := Option.some.inj h
  exact f6
theorem lo_cX11_sum_4 {rc : Nat → (Nat → Nat → Int32) → Option (Nat → Nat → Int32)} (hrc : ∀ k A z, rc k A = some z → Lo A z) (s : (Nat → Nat → Int32)) (z : ((Nat → Nat → Int32) ⊕ (Nat → Nat → Int32))) (h : cX11_sum_4 rc s = some z) : Lo s ((Sum.elim (fun (x : Nat → Nat → Int32) => x) (fun (x : Nat → Nat → Int32) => x)) z) := by
  unfold cX11_sum_4 at h
  rcases of_ite h with ⟨-, h⟩ | ⟨-, h⟩
  · rcases of_ite h with ⟨-, h⟩ | ⟨-, h⟩
    · obtain rfl := Option.some.inj h
      exact Lo.rf
    · exact Lo.tr Lo.rf ((lo_jX11_sum_22_4 hrc h))
  · exact Lo.tr Lo.rf ((lo_jX11_sum_22_4 hrc h))
theorem lo_fX11_sum {rc : Nat → (Nat → Nat → Int32) → Option (Nat → Nat → Int32)} (hrc : ∀ k A z, rc k A = some z → Lo A z) {A : Nat → Nat → Int32} {z : (Nat → Nat → Int32)} (h : fX11_sum rc A = some z) : Lo A z := by
  unfold fX11_sum at h
  obtain ⟨r1, q1, h⟩ := of_bind h
  have f2 : Lo A r1 := Lo.tr Lo.rf ((lo_fX11_term hrc q1))
  obtain ⟨e3, q3, h⟩ := of_bind h
  have f4 : Lo A e3 := Lo.tr f2 ((Lo.lp (ms := (fun (x : Nat → Nat → Int32) => x)) (mr := (fun (x : Nat → Nat → Int32) => x)) (lo_cX11_sum_4 hrc ) q3))
  obtain rfl := Option.some.inj h
  exact f4
theorem lo_jX11_denied_61 {rc : Nat → (Nat → Nat → Int32) → Option (Nat → Nat → Int32)} (hrc : ∀ k A z, rc k A = some z → Lo A z) {A : Nat → Nat → Int32} {z : (Nat → Nat → Int32)} (h : jX11_denied_61 rc A = some z) : Lo A z := by
  unfold jX11_denied_61 at h
  obtain ⟨r1, q1, h⟩ := of_bind h
  have f2 : Lo A r1 := Lo.tr Lo.rf (Fr.lo (w_fX11_next q1) rfl)
  obtain ⟨r3, q3, h⟩ := of_bind h
  have f4 : Lo A r3 := Lo.tr f2 ((lo_fX11_sum hrc q3))
  obtain ⟨r5, q5, h⟩ := of_bind h
  have f6 : Lo A r5 := Lo.tr f4 ((lo_fX11_addStep q5))
  obtain rfl := Option.some.inj h
  exact f6
theorem lo_gX11_denied {rc : Nat → (Nat → Nat → Int32) → Option (Nat → Nat → Int32)} (hrc : ∀ k A z, rc k A = some z → Lo A z) {A : Nat → Nat → Int32} {z : (Nat → Nat → Int32)} (h : gX11_denied rc A = some z) : Lo A z := by
  unfold gX11_denied at h
  rcases of_ite h with ⟨-, h⟩ | ⟨-, h⟩
  · obtain ⟨r3, q1, h⟩ := of_bind h
    have f2 : Lo A r3 := Lo.tr Lo.rf ((lo_fX11_sum hrc q1))
    rcases of_ite h with ⟨-, h⟩ | ⟨-, h⟩
    · rcases of_ite h with ⟨-, h⟩ | ⟨-, h⟩
      · obtain rfl := Option.some.inj h
        exact f2
      · exact Lo.tr f2 ((lo_jX11_denied_61 hrc h))
    · exact Lo.tr f2 ((lo_jX11_denied_61 hrc h))
  · obtain ⟨r9, q3, h⟩ := of_bind h
    have f4 : Lo A r9.2 := Lo.tr Lo.rf (Fr.lo (w_fX11_opens q3) rfl)
    rcases of_ite h with ⟨-, h⟩ | ⟨-, h⟩
    · obtain rfl := Option.some.inj h
      exact f4
    · obtain ⟨r13, q5, h⟩ := of_bind h
      have f6 : Lo A r13 := Lo.tr f4 ((hrc _ _ _ q5))
      obtain ⟨r15, q7, h⟩ := of_bind h
      have f8 : Lo A r15 := Lo.tr (Lo.tr f6 (Fr.lo (ws := [(94, 94, some 12)]) (Fr.up Fr.rf (FrC.up FrC.bs rfl)) rfl)) ((lo_fX11_addStep q7))
      obtain rfl := Option.some.inj h
      exact f8
theorem lo_jX11_one_65 {rc : Nat → (Nat → Nat → Int32) → Option (Nat → Nat → Int32)} (hrc : ∀ k A z, rc k A = some z → Lo A z) {A : Nat → Nat → Int32} {z : (Nat → Nat → Int32)} (h : jX11_one_65 rc A = some z) : Lo A z := by
  unfold jX11_one_65 at h
  rcases of_ite h with ⟨-, h⟩ | ⟨-, h⟩
  · rcases of_ite h with ⟨-, h⟩ | ⟨-, h⟩
    · obtain ⟨r5, q1, h⟩ := of_bind h
      have f2 : Lo A r5 := Lo.tr Lo.rf (Fr.lo (w_fX11_faulty q1) rfl)
      obtain rfl := Option.some.inj h
      exact f2
    · obtain ⟨r7, q3, h⟩ := of_bind h
      have f4 : Lo A r7.2 := Lo.tr Lo.rf (Fr.lo (w_fX11_opens q3) rfl)
      rcases of_ite h with ⟨-, h⟩ | ⟨-, h⟩
      · obtain rfl := Option.some.inj h
        exact f4
      · obtain ⟨r11, q5, h⟩ := of_bind h
        have f6 : Lo A r11 := Lo.tr f4 ((hrc _ _ _ q5))
        rcases of_ite h with ⟨-, h⟩ | ⟨-, h⟩
        · obtain ⟨r17, q7, h⟩ := of_bind h
          have f8 : Lo A r17 := Lo.tr f6 (Fr.lo (w_fX11_faulty q7) rfl)
          obtain rfl := Option.some.inj h
          exact f8
        · obtain ⟨r15, q9, h⟩ := of_bind h
          have f10 : Lo A r15 := Lo.tr (Lo.tr f6 (Fr.lo (ws := [(94, 94, some 12)]) (Fr.up Fr.rf (FrC.up FrC.bs rfl)) rfl)) (Fr.lo (w_fX11_next q9) rfl)
          obtain rfl := Option.some.inj h
          exact f10
  · obtain ⟨r19, q11, h⟩ := of_bind h
    have f12 : Lo A r19.2 := Lo.tr Lo.rf (Fr.lo (w_fX11_opens q11) rfl)
    rcases of_ite h with ⟨-, h⟩ | ⟨-, h⟩
    · obtain rfl := Option.some.inj h
      exact f12
    · obtain ⟨r23, q13, h⟩ := of_bind h
      have f14 : Lo A r23 := Lo.tr f12 ((hrc _ _ _ q13))
      obtain ⟨r25, q15, h⟩ := of_bind h
      have f16 : Lo A r25 := Lo.tr (Lo.tr f14 (Fr.lo (ws := [(94, 94, some 12)]) (Fr.up Fr.rf (FrC.up FrC.bs rfl)) rfl)) ((lo_fX11_addStep q15))
      obtain rfl := Option.some.inj h
      exact f16
theorem lo_gX11_one {rc : Nat → (Nat → Nat → Int32) → Option (Nat → Nat → Int32)} (hrc : ∀ k A z, rc k A = some z → Lo A z) {A : Nat → Nat → Int32} {z : (Nat → Nat → Int32)} (h : gX11_one rc A = some z) : Lo A z := by
  unfold gX11_one at h
  rcases of_ite h with ⟨-, h⟩ | ⟨-, h⟩
  · rcases of_ite h with ⟨-, h⟩ | ⟨-, h⟩
    · obtain ⟨r9, q1, h⟩ := of_bind h
      have f2 : Lo A r9 := Lo.tr Lo.rf ((lo_fX11_addStep q1))
      obtain ⟨r11, q3, h⟩ := of_bind h
      have f4 : Lo A r11 := Lo.tr f2 (Fr.lo (w_fX11_next q3) rfl)
      obtain rfl := Option.some.inj h
      exact f4
    · rcases of_ite h with ⟨-, h⟩ | ⟨-, h⟩
      · rcases of_ite h with ⟨-, h⟩ | ⟨-, h⟩
        · exact Lo.tr Lo.rf ((lo_jX11_one_65 hrc h))
        · obtain ⟨r5, q5, h⟩ := of_bind h
          have f6 : Lo A r5 := Lo.tr Lo.rf ((lo_fX11_addStep q5))
          obtain ⟨r7, q7, h⟩ := of_bind h
          have f8 : Lo A r7 := Lo.tr f6 (Fr.lo (w_fX11_next q7) rfl)
          obtain rfl := Option.some.inj h
          exact f8
      · exact Lo.tr Lo.rf ((lo_jX11_one_65 hrc h))
  · obtain rfl := Option.some.inj h
    exact Lo.rf
theorem lo_rX11 : ∀ {k i : Nat} {A : Nat → Nat → Int32} {z : Nat → Nat → Int32}, rX11 k i A = some z → Lo A z
  | 0, _, _, _, h => by cases h
  | k + 1, 0, A, z, h => (lo_gX11_either (rc := rX11 k) (fun i A z q => lo_rX11 q) h)
  | k + 1, 1, A, z, h => (lo_gX11_denied (rc := rX11 k) (fun i A z q => lo_rX11 q) h)
  | k + 1, _ + 2, A, z, h => (lo_gX11_one (rc := rX11 k) (fun i A z q => lo_rX11 q) h)
theorem lo_fX11_either {k : Nat} {A z : Nat → Nat → Int32} (h : fX11_either k A = some z) : Lo A z := lo_rX11 h
theorem lo_fX11_rule {A z : Nat → Nat → Int32} {k : Nat} (hk : k ≤ 2) (h : fX11_rule A (nI k) = some z) : Lo A z ∧ ∀ j, j < 18 → z 100 j = A 100 j := by
  unfold fX11_rule at h
  rcases of_ite h with ⟨-, h⟩ | ⟨-, h⟩
  · obtain ⟨r16, q1, h⟩ := of_bind h
    obtain rfl := Option.some.inj h
    exact ⟨Fr.lo (w_fX11_faulty q1) rfl, fun j _ => w_fX11_faulty q1 100 j rfl⟩
  · obtain ⟨r3, q3, h⟩ := of_bind h
    obtain ⟨r5, q5, h⟩ := of_bind h
    have f6 : Lo A r5 := Lo.tr (Fr.lo (w_fX11_next q3) rfl) (lo_fX11_either q5)
    have g6 : ∀ j, r5 100 j = A 100 j := fun j => (w_fX11_either q5 100 j rfl).trans (w_fX11_next q3 100 j rfl)
    rcases of_ite h with ⟨-, h⟩ | ⟨-, h⟩
    · obtain ⟨r14, q7, h⟩ := of_bind h
      obtain rfl := Option.some.inj h
      exact ⟨Lo.tr f6 (Fr.lo (w_fX11_faulty q7) rfl), fun j _ => (w_fX11_faulty q7 100 j rfl).trans (g6 j)⟩
    · obtain ⟨r9, q9, h⟩ := of_bind h
      obtain ⟨-, h⟩ := of_guard h
      obtain ⟨m12, q11, h⟩ := of_bind h
      obtain rfl := Option.some.inj q11
      obtain rfl := Option.some.inj h
      refine ⟨Lo.tr (Lo.tr f6 (Fr.lo (w_fX11_next q9) rfl)) (Fr.lo (ws := [(100, 100, none)]) (Fr.up Fr.rf (FrC.al fun _ => rfl)) rfl), fun j hj => ?_⟩
      show upd (r9 100) (jx ((18 : Int32) + nI k)) (r9 94 10) j = _
      rw [show (18 : Int32) + nI k = nI (18 + k) by rw [lit_n 18, nI_add], jx_n (by omega), upd_ne (by omega)]
      exact (w_fX11_next q9 100 j rfl).trans (g6 j)
theorem lo_text_38 {s0 : Int32 × jA3} {y : jA3} (h : jwh cX11_text_38 s0 = some y) : ∀ k, k ≤ 3 → s0.1 = nI k → Lo s0.2 y ∧ ∀ j, j < 18 → y 100 j = s0.2 100 j := by
  refine jwh_use (b := cX11_text_38) (G := fun s => ∀ k, k ≤ 3 → s.1 = nI k → Lo s.2 y ∧ ∀ j, j < 18 → y 100 j = s.2 100 j) (Gx := fun x => Lo x y ∧ ∀ j, j < 18 → y 100 j = x 100 j) ?_ h ⟨Lo.rf, fun _ _ => rfl⟩
  rintro ⟨s1, S⟩ z e h1 h2 k hk ek
  have ek : s1 = nI k := ek
  subst ek
  unfold cX11_text_38 at e
  rcases of_ite e with ⟨-, e⟩ | ⟨c, e⟩
  · obtain rfl := Option.some.inj e
    exact h2 _ rfl
  · rcases of_ite e with ⟨-, e⟩ | ⟨-, e⟩
    · obtain rfl := Option.some.inj e
      exact h2 _ rfl
    · obtain ⟨r3, q1, e⟩ := of_bind e
      obtain rfl := Option.some.inj e
      have hk2 : k ≤ 2 := by
        rcases Nat.lt_or_ge 2 k with w | w
        · have : k = 3 := by omega
          subst this
          exact absurd (show (2 : Int32) < nI 3 by decide) c
        · exact w
      have q1 : fX11_rule S (nI k) = some r3 := q1
      obtain ⟨a1, a2⟩ := lo_fX11_rule hk2 q1
      obtain ⟨b1, b2⟩ := h1 _ rfl (k + 1) (by omega) (nI_1 k)
      have b1 : Lo r3 y := b1
      have b2 : ∀ j, j < 18 → y 100 j = r3 100 j := b2
      exact ⟨a1.tr b1, fun j hj => (b2 j hj).trans (a2 j hj)⟩
