/-! the reference's row by a number; the code's next order -/
variable {B C B0 : jA3} {n : Nat}
theorem p5 {n : Nat} (h : n ≤ 5) : n ^ n ≤ 3125 := by
  have : ∀ n, n ≤ 5 → n ^ n ≤ 3125 := by decide
  exact this n h
theorem neg1_n (k : Nat) : nI k + (-1 : Int32) = nI k - 1 := (Int32.sub_eq_add_neg _ _).symm
theorem r_rowBy {T : jA3} {x : Nat} (h5 : n ≤ 5) (hx : x < n ^ n) : Run (fun r => Fr [(108, 108, none)] T r.2 ∧ (vd n x = false → r.1 = 0) ∧ (vd n x = true → r.1 = 1 ∧ ∀ k, k < n → r.2 108 k = nI (dg n x k))) (fX11_rowBy T (nI x) (nI n)) := by
  have hp := p5 h5
  unfold fX11_rowBy
  have hr : Run (fun r => (∃ S, r = .inl S ∧ Fr [(108, 108, none)] T S ∧ vd n x = true ∧ ∀ k, k < n → S 108 k = nI (dg n x k)) ∨ ∃ S, r = .inr (0, S) ∧ Fr [(108, 108, none)] T S ∧ vd n x = false) (jwh (cX11_rowBy_10 (nI n)) (nI x, (0 : Int32), nI n - (1 : Int32), T)) := by
    refine Run.dn (fun k s => ∃ m, m < 2 ^ n ∧ k ≤ n ∧ s.1 = nI (x / n ^ (n - k)) ∧ s.2.1 = nI m ∧ s.2.2.1 = nI k - 1 ∧ Fr [(108, 108, none)] T s.2.2.2 ∧ vdg n (x / n ^ (n - k)) m k = vd n x ∧ ∀ i, k ≤ i → i < n → s.2.2.2 108 i = nI (dg n x i)) ?_ (n := n) ⟨0, Nat.pow_pos (by omega), Nat.le_refl _, by rw [Nat.sub_self, Nat.pow_zero, Nat.div_one], rfl, rfl, Fr.rf, by rw [Nat.sub_self, Nat.pow_zero, Nat.div_one]; rfl, fun i h1 h2 => absurd h2 (by omega)⟩
    rintro k ⟨s1, s2, s3, S⟩ ⟨m, hm, hk, q1, q2, q3, q4, q5, q6⟩
    have q1 : s1 = nI (x / n ^ (n - k)) := q1
    have q2 : s2 = nI m := q2
    have q3 : s3 = nI k - 1 := q3
    subst q1 q2 q3
    have q4 : Fr [(108, 108, none)] T S := q4
    have q6 : ∀ i, k ≤ i → i < n → S 108 i = nI (dg n x i) := q6
    unfold cX11_rowBy_10
    cases k with
    | zero =>
      refine Run.ip (show nI 0 - 1 < 0 by decide) <| Run.rt (Or.inl ⟨S, rfl, q4, q5.symm, fun k hk => q6 k (Nat.zero_le _) hk⟩)
    | succ k =>
      have hy : x / n ^ (n - (k + 1)) ≤ x := Nat.div_le_self _ _
      have hd : x / n ^ (n - (k + 1)) % n < n := Nat.mod_lt _ (by omega)
      have ed : dg n x k = x / n ^ (n - (k + 1)) % n := by unfold dg; rw [show n - 1 - k = n - (k + 1) by omega]
      have ey : x / n ^ (n - (k + 1)) / n = x / n ^ (n - k) := by rw [Nat.div_div_eq_div_mul, ← Nat.pow_succ, show (n - (k + 1)).succ = n - k by omega]
      have v : vp_in (nI k) 8 := vp_in_nI (by omega) (by omega)
      have n0 : ¬ nI n = 0 := nI_ne0 (by omega) (by omega)
      have e1 : jrem (nI (x / n ^ (n - (k + 1)))) (nI n) = nI (dg n x k) := by rw [ed]; exact pk_rem (by omega) (by omega) (by omega)
      have e2 : nI (x / n ^ (n - (k + 1))) / nI n = nI (x / n ^ (n - k)) := by rw [pk_div (by omega) (by omega) (by omega), ey]
      simp only [nI_pred, jx_n (show k < 2 ^ 31 by omega), e1, e2]
      have e3 : va_up S 108 (upd (S 108) k (nI (dg n x k))) 108 k = nI (dg n x k) := by rw [ju_same, upd_at]
      refine Run.im (nI_pos (by omega)) <| Run.g n0 <| Run.g v <| Run.be rfl <| Run.g n0 <| Run.g v ?_
      rw [e3]
      have hm31 : m < 2 ^ 31 := Nat.lt_of_lt_of_le hm (Nat.pow_le_pow_right (by omega) (by omega))
      have hf : Fr [(108, 108, none)] T (va_up S 108 (upd (S 108) k (nI (dg n x k)))) := Fr.up q4 (FrC.al (fun _ => rfl))
      have hv : vdg n (x / n ^ (n - (k + 1))) m (k + 1) = bif m.testBit (dg n x k) then false else vdg n (x / n ^ (n - k)) (m ||| 2 ^ dg n x k) k := by
        rw [vdg, ← ed, ey]
      rw [← ed] at hd
      refine Run.i (fun y => ?_) (fun y => ?_)
      · rw [bit1 hm31 (by omega)] at y
        rw [hv, y] at q5
        exact Run.rt (Or.inr ⟨_, rfl, hf, q5.symm⟩)
      · rw [bit1 hm31 (by omega), Bool.not_eq_true] at y
        rw [hv, y] at q5
        refine Run.g v <| Run.rt ⟨k, by omega, m ||| 2 ^ dg n x k, or_lt hm (Nat.pow_lt_pow_right (by omega) hd), by omega, rfl, ?_, neg1_n k, hf, q5, fun i h1 h2 => ?_⟩
        · show nI m ||| jshl 1 (nI (dg n x k)) = _
          rw [jshl_1 (by omega), or_n]
        · show upd (S 108) k (nI (dg n x k)) i = _
          by_cases e : i = k
          · rw [e, upd_at]
          · rw [upd_ne e]
            exact q6 i (by omega) h2
  obtain ⟨r, e, h⟩ := hr
  rw [e]
  rcases h with ⟨S, rfl, a1, a2, a3⟩ | ⟨S, rfl, a1, a2⟩
  · exact Run.rt ⟨a1, fun z => (by rw [a2] at z; cases z), fun _ => ⟨rfl, a3⟩⟩
  · exact Run.rt ⟨a1, fun _ => rfl, fun z => (by rw [a2] at z; cases z)⟩
theorem ble_t {a b : Nat} (h : a ≤ b) : Nat.ble a b = true := Nat.ble_eq.mpr h
theorem ble_f {a b : Nat} (h : ¬ a ≤ b) : Nat.ble a b = false := by
  cases q : Nat.ble a b with
  | false => rfl
  | true => exact absurd (Nat.ble_eq.mp q) h
theorem fi_lt {o : Nat → Nat} : ∀ {m i : Nat}, fi o m = some i → i < m
  | 0, _, h => by cases h
  | m + 1, i, h => by
    unfold fi at h
    cases q : Nat.ble (o m) (o (m + 1)) with
    | true =>
      rw [q] at h
      have : m = i := Option.some.inj h
      omega
    | false =>
      rw [q] at h
      have := fi_lt (m := m) h
      omega
theorem fj_le {o : Nat → Nat} {i : Nat} : ∀ m, fj o i m ≤ m
  | 0 => Nat.le_refl _
  | m + 1 => by
    unfold fj
    cases Nat.ble (m + 1) i with
    | true => exact Nat.le_refl _
    | false =>
      cases Nat.ble (o i) (o (m + 1)) with
      | true => exact Nat.le_refl _
      | false => exact Nat.le_trans (fj_le m) (by omega)
theorem r_fi {A : jA3} {o : Nat → Nat} (h8 : n ≤ 8) (hr : Row n n o) (ho : ∀ k, k < n → A 50 k = nI (o k)) : ∀ m, m + 1 ≤ n → jwh (cX6_nextOrder_7 A) (nI m - 1) = some (match fi o m with | none => -1 | some i => nI i)
  | 0, _ => jwh_out (by unfold cX6_nextOrder_7; rw [if_pos (by decide)]; rfl)
  | m + 1, h => by
    have v1 : vp_in (nI m) 8 := vp_in_nI (by omega) (by omega)
    have v2 : vp_in (nI (m + 1)) 8 := vp_in_nI (by omega) (by omega)
    have b1 := hr.2.1 m (by omega)
    have b2 := hr.2.1 (m + 1) (by omega)
    have e : cX6_nextOrder_7 A (nI (m + 1) - 1) = bif Nat.ble (o m) (o (m + 1)) then some (.inr (nI m)) else some (.inl (nI m - 1)) := by
      unfold cX6_nextOrder_7
      rw [nI_pred, if_neg (nI_pos (by omega)), nI_1, jgd_t v1, jgd_t v2, jx_n (by omega), jx_n (by omega), ho m (by omega), ho (m + 1) (by omega)]
      by_cases q : o m ≤ o (m + 1)
      · rw [if_pos (nI_le q (by omega)), ble_t q]; rfl
      · rw [if_neg (nI_ge (by omega) (by omega)), ble_f q, neg1_n]; rfl
    cases q : Nat.ble (o m) (o (m + 1)) with
    | true =>
      rw [q] at e
      rw [jwh_out e, fi, q]
      rfl
    | false =>
      rw [q] at e
      rw [jwh_go e, r_fi h8 hr ho m (by omega), fi, q]
      rfl
theorem r_fj {A : jA3} {o : Nat → Nat} {i : Nat} (h8 : n ≤ 8) (hr : Row n n o) (ho : ∀ k, k < n → A 50 k = nI (o k)) (hi : i < n) : ∀ m, m + 1 ≤ n → jwh (cX6_nextOrder_47 A (nI i)) (nI m) = some (nI (fj o i m))
  | 0, _ => jwh_out (by unfold cX6_nextOrder_47; rw [if_pos (nI_le (Nat.zero_le _) (by omega))]; rfl)
  | m + 1, h => by
    have v1 : vp_in (nI i) 8 := vp_in_nI (by omega) (by omega)
    have v2 : vp_in (nI (m + 1)) 8 := vp_in_nI (by omega) (by omega)
    have b1 := hr.2.1 i (by omega)
    have b2 := hr.2.1 (m + 1) (by omega)
    by_cases q0 : m + 1 ≤ i
    · rw [jwh_out (by unfold cX6_nextOrder_47; rw [if_pos (nI_le q0 (by omega))]), fj, ble_t q0]
      rfl
    · have e : cX6_nextOrder_47 A (nI i) (nI (m + 1)) = bif Nat.ble (o i) (o (m + 1)) then some (.inr (nI (m + 1))) else some (.inl (nI m)) := by
        unfold cX6_nextOrder_47
        rw [if_neg (nI_ge (by omega) (by omega)), jgd_t v2, jgd_t v1, jx_n (by omega), jx_n (by omega), ho i (by omega), ho (m + 1) (by omega)]
        by_cases q : o i ≤ o (m + 1)
        · rw [if_pos (nI_le q (by omega)), ble_t q]; rfl
        · rw [if_neg (nI_ge (by omega) (by omega)), ble_f q, neg1_n, nI_pred]; rfl
      cases q : Nat.ble (o i) (o (m + 1)) with
      | true =>
        rw [q] at e
        rw [jwh_out e, fj, ble_f q0, q]
        rfl
      | false =>
        rw [q] at e
        rw [jwh_go e, r_fj h8 hr ho hi m (by omega), fj, ble_f q0, q]
        rfl
theorem r_rv {M : Nat → Int32} (h8 : n ≤ 8) : ∀ (f : Nat) {A : jA3} {o : Nat → Nat} {a b : Nat}, a + f ≤ 100 → b ≤ a + f → b < n → SA B0 n A o → A 51 = M → ∃ A2, jwh cX6_nextOrder_91 (nI a, nI b, A) = some A2 ∧ SA B0 n A2 (rv f o a b) ∧ A2 51 = M
  | 0, A, o, a, b, ha, h, hb, hA, hM => ⟨A, jwh_out (by unfold cX6_nextOrder_91; rw [if_pos (nI_le (show b ≤ a by omega) (by omega))]), hA, hM⟩
  | f + 1, A, o, a, b, ha, h, hb, hA, hM => by
    by_cases q : b ≤ a
    · refine ⟨A, jwh_out (by unfold cX6_nextOrder_91; rw [if_pos (nI_le q (by omega))]), ?_, hM⟩
      rw [rv, ble_t q]
      exact hA
    · obtain ⟨A1, e1, h1, f1⟩ := exA hA h8 (show a < n by omega) hb
      obtain ⟨A2, e2, h2, m2⟩ := r_rv h8 f (A := A1) (o := sw o a b) (a := a + 1) (b := b - 1) (by omega) (by omega) (by omega) h1 ((funext fun k => f1 51 k rfl : A1 51 = A 51).trans hM)
      refine ⟨A2, ?_, ?_, m2⟩
      · have e : cX6_nextOrder_91 (nI a, nI b, A) = some (.inl (nI (a + 1), nI (b - 1), A1)) := by
          show (if nI b ≤ nI a then _ else Option.bind (fX6_exchange A (nI a) (nI b)) fun r2 => some (Sum.inl (nI a + 1, nI b + (-1 : Int32), r2))) = _
          rw [if_neg (nI_ge (by omega) (by omega)), e1, nI_1, neg1_n]
          obtain ⟨c, rfl⟩ : ∃ c, b = c + 1 := ⟨b - 1, by omega⟩
          rw [nI_pred]
          rfl
        rw [jwh_go e, e2]
      · rw [rv, ble_f q]
        exact h2
theorem r_next {A : jA3} {o : Nat → Nat} (hCx : Cx B0 C n) (hr : Row n n o) (hA : SA B0 n A o) : Run (fun r => r.2 51 = A 51 ∧ (nxt n o = none → r.1 = 0 ∧ SA B0 n r.2 o) ∧ ∀ o2, nxt n o = some o2 → r.1 = 1 ∧ SA B0 n r.2 o2) (fX6_nextOrder A) := by
  have h8 := hCx.2.2.1
  have a16 : A 16 5 = nI n := by rw [hA.1 16 5 rfl]; exact hCx.2.1
  unfold fX6_nextOrder
  rw [a16]
  rcases Nat.eq_zero_or_pos n with h0 | h0
  · subst h0
    rw [jwh_out (show cX6_nextOrder_7 A (nI 0 - 2) = some (.inr (-2)) by unfold cX6_nextOrder_7; rw [if_pos (by decide)]; rfl)]
    refine Run.be rfl ?_
    unfold jX6_nextOrder_34
    exact Run.im (by decide) <| Run.rt ⟨rfl, fun _ => ⟨rfl, hA⟩, fun o2 e => (by cases e)⟩
  · have e2 : nI n - 2 = nI (n - 1) - 1 := by
      obtain ⟨c, rfl⟩ : ∃ c, n = c + 1 := ⟨n - 1, by omega⟩
      rw [Nat.add_sub_cancel, ← nI_pred c, Int32.sub_eq_add_neg, Int32.sub_eq_add_neg, Int32.sub_eq_add_neg, Int32.add_assoc]
      rfl
    rw [e2, r_fi h8 hr hA.2.2 (n - 1) (by omega)]
    refine Run.be rfl ?_
    unfold jX6_nextOrder_34 nxt
    cases q : fi o (n - 1) with
    | none =>
      exact Run.im (show ¬ (0 : Int32) ≤ -1 by decide) <| Run.rt ⟨rfl, fun _ => ⟨rfl, hA⟩, fun o2 e => (by cases e)⟩
    | some i =>
      have hi := fi_lt q
      have hj := fj_le (o := o) (i := i) (n - 1)
      have e3 : nI n - 1 = nI (n - 1) := by
        obtain ⟨c, rfl⟩ : ∃ c, n = c + 1 := ⟨n - 1, by omega⟩
        rw [nI_pred, Nat.add_sub_cancel]
      refine Run.ip (nI_le (a := 0) (Nat.zero_le _) (by omega)) ?_
      rw [a16, e3, r_fj h8 hr hA.2.2 (by omega) (n - 1) (by omega)]
      refine Run.be rfl ?_
      unfold jX6_nextOrder_73
      obtain ⟨A1, e4, h1, f1⟩ := exA hA h8 (show i < n by omega) (show fj o i (n - 1) < n by omega)
      have b16 : A1 16 5 = nI n := by rw [f1 16 5 rfl]; exact a16
      obtain ⟨A2, e5, h2, m2⟩ := r_rv h8 n (a := i + 1) (b := n - 1) (by omega) (by omega) (by omega) h1 rfl
      rw [e4]
      refine Run.be rfl ?_
      rw [b16, e3, nI_1, e5]
      refine Run.rt ⟨by show A2 51 = A 51; rw [m2]; exact funext fun k => f1 51 k rfl, fun e => (by cases e), fun o2 e => ?_⟩
      rw [← Option.some.inj e]
      exact ⟨rfl, h2⟩
