/-! best -/
variable {B C B0 : jA3} {n : Nat}
/-- the best of the rows below x, the first of equals -/
def BB (W : (Nat → Nat) → Nat) (n : Nat) : Nat → Option Nat
  | 0 => none
  | x + 1 => bif vd n x then (match BB W n x with | none => some x | some y => if W (dg n y) < W (dg n x) then some x else some y) else BB W n x
theorem BB_gap {W : (Nat → Nat) → Nat} {n x : Nat} : ∀ d, (∀ e, e < d → vd n (x + e) = false) → BB W n (x + d) = BB W n x ∧ cnt n (x + d) = cnt n x
  | 0, _ => ⟨rfl, rfl⟩
  | d + 1, h => by
    have ih := BB_gap (W := W) d (fun e he => h e (by omega))
    show (bif vd n (x + d) then _ else BB W n (x + d)) = _ ∧ (bif vd n (x + d) then cnt n (x + d) + 1 else cnt n (x + d)) = _
    rw [h d (by omega)]
    exact ih
theorem cnt_mono {n x : Nat} : ∀ d, cnt n x ≤ cnt n (x + d)
  | 0 => Nat.le_refl _
  | d + 1 => by
    have ih := cnt_mono (n := n) (x := x) d
    show cnt n x ≤ bif vd n (x + d) then cnt n (x + d) + 1 else cnt n (x + d)
    cases vd n (x + d)
    · exact ih
    · show cnt n x ≤ cnt n (x + d) + 1
      omega
theorem gp_at {n x z : Nat} (h : gp n x z = true) (e : Nat) (he : e < z - x - 1) : vd n (x + 1 + e) = false := by
  have := fa_at h e he
  cases q : vd n (x + 1 + e) with
  | false => rfl
  | true => rw [q] at this; cases this
theorem gp_BB {W : (Nat → Nat) → Nat} {n x z : Nat} (hz : x < z) (h : gp n x z = true) : BB W n z = BB W n (x + 1) ∧ cnt n z = cnt n (x + 1) := by
  have := BB_gap (W := W) (x := x + 1) (z - x - 1) (gp_at h)
  rw [show x + 1 + (z - x - 1) = z by omega] at this
  exact this
theorem and_b {a b : Bool} (h : (a && b) = true) : a = true ∧ b = true := by
  cases a
  · cases h
  · exact ⟨rfl, h⟩
theorem tb_at {x : Nat} (h5 : n ≤ 5) (hx : x < n ^ n) (hv : vd n x = true) : Row n n (dg n x) ∧ (nxt n (dg n x) = none → gp n x (n ^ n) = true) ∧ ∀ o, nxt n (dg n x) = some o → ∃ z, x < z ∧ z < n ^ n ∧ vd n z = true ∧ (∀ k, k < n → o k = dg n z k) ∧ gp n x z = true := by
  have h := fa_at (t_tb n h5) x hx
  unfold tb at h
  rw [hv] at h
  obtain ⟨h1, h2⟩ := and_b h
  have hp := p5 h5
  refine ⟨⟨by omega, fun k hk => Nat.mod_lt _ (by omega), fun j k hj hk e => ?_⟩, fun e => ?_, fun o e => ?_⟩
  · have := fa_at (fa_at h1 k hk) j hj
    rw [e, Nat.beq_refl] at this
    cases this
  · rw [e] at h2
    exact h2
  · rw [e] at h2
    obtain ⟨h2, g5⟩ := and_b h2
    obtain ⟨h2, g4⟩ := and_b h2
    obtain ⟨h2, g3⟩ := and_b h2
    obtain ⟨g1, g2⟩ := and_b h2
    exact ⟨numr n o n, Nat.le_of_ble_eq_true g1, Nat.le_of_ble_eq_true g2, g3, fun k hk => Nat.eq_of_beq_eq_true (fa_at g4 k hk), g5⟩
theorem fst_at (h5 : n ≤ 5) : ∃ x, x < n ^ n ∧ vd n x = true ∧ (∀ k, k < n → k = dg n x k) ∧ ∀ d, d < x → vd n d = false := by
  have h := t_fst n h5
  unfold fst at h
  obtain ⟨h, g4⟩ := and_b h
  obtain ⟨h, g3⟩ := and_b h
  obtain ⟨g1, g2⟩ := and_b h
  refine ⟨_, Nat.le_of_ble_eq_true g2, g1, fun k hk => Nat.eq_of_beq_eq_true (fa_at g3 k hk), fun d hd => ?_⟩
  have := fa_at g4 d hd
  cases q : vd n d with
  | false => rfl
  | true => rw [q] at this; cases this
/-- what the code holds -/
def hA (B0 : jA3) (n : Nat) (b : Option Nat) (w : Int64) (A : jA3) : Prop := (b = none → w = -1) ∧ ∀ y, b = some y → w = lN (wv B0 (dg n y) n) ∧ ∀ k, k < n → A 51 k = nI (dg n y k)
theorem m1_lt {w : Nat} (h : w ≤ 594000000) : (-1 : Int64) < lN w := by
  rw [Int64.lt_iff_toInt_lt, pk_lT (by omega)]
  have : (-1 : Int64).toInt = -1 := by decide
  omega
theorem jcpn {n : Nat} (h : n ≤ 8) : jcp (0 : Int32) (0 : Int32) (nI n) 8 8 := by
  have : ∀ n, n ≤ 8 → jcp (0 : Int32) (0 : Int32) (nI n) 8 8 := by unfold jcp; decide
  exact this n h
theorem best_all {A : jA3} (hCx : Cx B0 C n) (h5 : n ≤ 5) (hS : SA B0 n A (fun k => k)) : Run (fun x => ∃ y, y < n ^ n ∧ BB (fun o => wv B0 o n) n (n ^ n) = some y ∧ x.1 = lN (wv B0 (dg n y) n) ∧ Fr wCB B0 x.2 ∧ ∀ k, k < n → x.2 50 k = nI (dg n y k)) (fX6_tryAllOrders A) := by
  have h8 := hCx.2.2.1
  have hlt : ∀ x z, BB (fun o => wv B0 o n) n x = some z → z < x := by
    intro x
    induction x with
    | zero => intro z h; cases h
    | succ x ih =>
      intro z h
      have h : (bif vd n x then (match BB (fun o => wv B0 o n) n x with | none => some x | some y => if wv B0 (dg n y) n < wv B0 (dg n x) n then some x else some y) else BB (fun o => wv B0 o n) n x) = some z := h
      cases q : vd n x with
      | false =>
        rw [q] at h
        have := ih z h
        omega
      | true =>
        rw [q] at h
        cases r : BB (fun o => wv B0 o n) n x with
        | none =>
          rw [r] at h
          have : x = z := Option.some.inj h
          omega
        | some y =>
          rw [r] at h
          have h : (if wv B0 (dg n y) n < wv B0 (dg n x) n then some x else some y) = some z := h
          split at h
          · have : x = z := Option.some.inj h
            omega
          · have e : y = z := Option.some.inj h
            have := ih y r
            omega
  unfold fX6_tryAllOrders
  refine Run.bd (R := fun s => ∃ y, BB (fun o => wv B0 o n) n (n ^ n) = some y ∧ s.1 = lN (wv B0 (dg n y) n) ∧ Fr wCB B0 s.2 ∧ ∀ k, k < n → s.2 51 k = nI (dg n y k)) ?_ ?_
  · obtain ⟨x0, f1, f2, f3, f4⟩ := fst_at h5
    obtain ⟨b0, c0⟩ := BB_gap (W := fun o => wv B0 o n) (n := n) (x := 0) x0 (fun e he => by rw [Nat.zero_add]; exact f4 e he)
    rw [Nat.zero_add] at b0 c0
    refine Run.up 120 (fun c s => s.2.2.1 = nI c ∧ ((s.2.1 = 1 ∧ ∃ x, x < n ^ n ∧ vd n x = true ∧ cnt n x = c ∧ SA B0 n s.2.2.2 (dg n x) ∧ hA B0 n (BB (fun o => wv B0 o n) n x) s.1 s.2.2.2) ∨ (s.2.1 = 0 ∧ Fr wCB B0 s.2.2.2 ∧ ∃ y, BB (fun o => wv B0 o n) n (n ^ n) = some y ∧ s.1 = lN (wv B0 (dg n y) n) ∧ ∀ k, k < n → s.2.2.2 51 k = nI (dg n y k)))) ?_ ?_ (Nat.zero_le _) ⟨rfl, Or.inl ⟨rfl, x0, f1, f2, c0, hS.cong f3, fun _ => rfl, fun y e => (by rw [b0] at e; cases e)⟩⟩
    · rintro c ⟨s1, s2, s3, S⟩ hc ⟨q1, q2⟩
      have q1 : s3 = nI c := q1
      subst q1
      unfold cX6_tryAllOrders_9
      refine Run.im (nI_ge (b := 120) hc (by omega)) ?_
      rcases q2 with ⟨q2, x, hx, hv, hcn, hSA, hB⟩ | ⟨q2, hF, y, g1, g2, g3⟩
      · have q2 : s2 = 1 := q2
        subst q2
        have hSA : SA B0 n S (dg n x) := hSA
        have hB : hA B0 n (BB (fun o => wv B0 o n) n x) s1 S := hB
        obtain ⟨hr, t1, t2⟩ := tb_at h5 hx hv
        obtain ⟨A1, e1, h1, w1⟩ := waA hCx hSA hr
        have hw := wv_lt (o := dg n x) (r := n) hCx
        have a16 : A1 16 5 = nI n := by rw [h1.1 16 5 rfl]; exact hCx.2.1
        -- after the row is weighed
        have hend : ∀ (A2 : jA3) (w2 : Int64), SA B0 n A2 (dg n x) → hA B0 n (BB (fun o => wv B0 o n) n (x + 1)) w2 A2 → (∃ y, BB (fun o => wv B0 o n) n (x + 1) = some y) → Run (SO (fun s => s.2.2.1 = nI (c + 1) ∧ ((s.2.1 = 1 ∧ ∃ x, x < n ^ n ∧ vd n x = true ∧ cnt n x = c + 1 ∧ SA B0 n s.2.2.2 (dg n x) ∧ hA B0 n (BB (fun o => wv B0 o n) n x) s.1 s.2.2.2) ∨ (s.2.1 = 0 ∧ Fr wCB B0 s.2.2.2 ∧ ∃ y, BB (fun o => wv B0 o n) n (n ^ n) = some y ∧ s.1 = lN (wv B0 (dg n y) n) ∧ ∀ k, k < n → s.2.2.2 51 k = nI (dg n y k)))) (fun s => ∃ y, BB (fun o => wv B0 o n) n (n ^ n) = some y ∧ s.1 = lN (wv B0 (dg n y) n) ∧ Fr wCB B0 s.2 ∧ ∀ k, k < n → s.2 51 k = nI (dg n y k))) (jX6_tryAllOrders_57_9 A2 w2 (nI c)) := by
          intro A2 w2 hS2 hB2 hex
          unfold jX6_tryAllOrders_57_9
          obtain ⟨⟨r1, A3⟩, e3, m3, n1, n2⟩ := r_next hCx hr hS2
          have m3 : A3 51 = A2 51 := m3
          have c1 : cnt n (x + 1) = c + 1 := by
            show (bif vd n x then cnt n x + 1 else cnt n x) = c + 1
            rw [hv, hcn]
            rfl
          rw [e3]
          refine Run.be rfl ?_
          cases q : nxt n (dg n x) with
          | none =>
            obtain ⟨p1, p2⟩ := n1 q
            obtain ⟨p3, p4⟩ := gp_BB (W := fun o => wv B0 o n) hx (t1 q)
            obtain ⟨y, hy⟩ := hex
            obtain ⟨p5, p6⟩ := hB2.2 y hy
            exact Run.rt ⟨nI_1 c, Or.inr ⟨p1, p2.1, y, by rw [p3]; exact hy, p5, fun k hk => by show A3 51 k = _; rw [m3]; exact p6 k hk⟩⟩
          | some o2 =>
            obtain ⟨p1, p2⟩ := n2 o2 q
            obtain ⟨z, z1, z2, z3, z4, z5⟩ := t2 o2 q
            obtain ⟨p3, p4⟩ := gp_BB (W := fun o => wv B0 o n) z1 z5
            refine Run.rt ⟨nI_1 c, Or.inl ⟨p1, z, z2, z3, by rw [p4]; exact c1, p2.cong z4, ?_⟩⟩
            rw [p3]
            exact ⟨hB2.1, fun y e => ⟨(hB2.2 y e).1, fun k hk => by show A3 51 k = _; rw [m3]; exact (hB2.2 y e).2 k hk⟩⟩
        have eB : BB (fun o => wv B0 o n) n (x + 1) = (match BB (fun o => wv B0 o n) n x with | none => some x | some y => if wv B0 (dg n y) n < wv B0 (dg n x) n then some x else some y) := by
          show (bif vd n x then _ else _) = _
          rw [hv]
          rfl
        refine Run.im (show ¬ (1 : Int32) = 0 by decide) <| Run.be e1 ?_
        -- a better one
        have hbet : BB (fun o => wv B0 o n) n (x + 1) = some x → Run (SO (fun s => s.2.2.1 = nI (c + 1) ∧ ((s.2.1 = 1 ∧ ∃ x, x < n ^ n ∧ vd n x = true ∧ cnt n x = c + 1 ∧ SA B0 n s.2.2.2 (dg n x) ∧ hA B0 n (BB (fun o => wv B0 o n) n x) s.1 s.2.2.2) ∨ (s.2.1 = 0 ∧ Fr wCB B0 s.2.2.2 ∧ ∃ y, BB (fun o => wv B0 o n) n (n ^ n) = some y ∧ s.1 = lN (wv B0 (dg n y) n) ∧ ∀ k, k < n → s.2.2.2 51 k = nI (dg n y k)))) (fun s => ∃ y, BB (fun o => wv B0 o n) n (n ^ n) = some y ∧ s.1 = lN (wv B0 (dg n y) n) ∧ Fr wCB B0 s.2 ∧ ∀ k, k < n → s.2 51 k = nI (dg n y k))) (jgd (jcp (0 : Int32) (0 : Int32) (A1 16 5) 8 8) <| Option.bind (some (va_up A1 51 (va_cpy (A1 50) (A1 51) 0 0 (jx (A1 16 5))))) fun m7 => jX6_tryAllOrders_57_9 m7 (lN (wv B0 (dg n x) n)) (nI c)) := by
          intro eb
          rw [a16, jx_n (by omega)]
          refine Run.g (jcpn h8) <| Run.be rfl <| hend _ _ ?_ ?_ ⟨x, eb⟩
          · have f : Fr [(51, 51, none)] A1 (va_up A1 51 (va_cpy (A1 50) (A1 51) 0 0 n)) := Fr.up Fr.rf (FrC.al (fun _ => rfl))
            exact ⟨h1.1.tr (f.wd rfl), fun a m ha hm => h1.2.1 a m ha hm, h1.2.2⟩
          · rw [eb]
            refine ⟨fun e => (by cases e), fun y e => ?_⟩
            rw [← Option.some.inj e]
            refine ⟨rfl, fun k hk => ?_⟩
            show va_cpy (A1 50) (A1 51) 0 0 n k = _
            rw [pk_cpy_in (by omega) (by omega), Nat.zero_add, Nat.sub_zero]
            exact h1.2.2 k hk
        cases r : BB (fun o => wv B0 o n) n x with
        | none =>
          rw [r] at eB
          have e0 := hB.1 r
          rw [e0]
          exact Run.im (by show ¬ lg_cmp (lN _) (-1) ≤ 0; rw [cmp_le, Classical.not_not]; exact m1_lt hw) <| hbet eB
        | some y =>
          rw [r] at eB
          have eB : BB (fun o => wv B0 o n) n (x + 1) = if wv B0 (dg n y) n < wv B0 (dg n x) n then some x else some y := eB
          obtain ⟨p1, p2⟩ := hB.2 y r
          have hy := wv_lt (o := dg n y) (r := n) hCx
          rw [p1]
          by_cases hq : wv B0 (dg n y) n < wv B0 (dg n x) n
          · rw [if_pos hq] at eB
            exact Run.im (by show ¬ lg_cmp (lN _) (lN _) ≤ 0; rw [cmp_le, Classical.not_not, pk_lLT (by omega) (by omega)]; exact hq) <| hbet eB
          · rw [if_neg hq] at eB
            refine Run.ip (by show lg_cmp (lN _) (lN _) ≤ 0; rw [cmp_le, pk_lLT (by omega) (by omega)]; exact hq) <| hend A1 _ h1 ?_ ⟨y, eB⟩
            rw [eB]
            refine ⟨fun e => (by cases e), fun y2 e => ?_⟩
            rw [← Option.some.inj e]
            exact ⟨rfl, fun k hk => by rw [w1 51 k rfl]; exact p2 k hk⟩
      · have q2 : s2 = 0 := q2
        subst q2
        exact Run.ip rfl <| Run.rt ⟨y, g1, g2, hF, g3⟩
    · rintro ⟨s1, s2, s3, S⟩ ⟨q1, q2⟩
      have q1 : s3 = nI 120 := q1
      subst q1
      unfold cX6_tryAllOrders_9
      refine Run.ip (nI_le (a := 120) (b := 120) (Nat.le_refl _) (by omega)) ?_
      rcases q2 with ⟨q2, x, hx, hv, hcn, hSA, hB⟩ | ⟨q2, hF, y, g1, g2, g3⟩
      · have c1 : cnt n (x + 1) = 121 := by
          show (bif vd n x then cnt n x + 1 else cnt n x) = 121
          rw [hv, hcn]
          rfl
        have c2 := cnt_mono (n := n) (x := x + 1) (n ^ n - (x + 1))
        rw [show x + 1 + (n ^ n - (x + 1)) = n ^ n by omega] at c2
        have c3 := t_cnt n h5
        omega
      · exact Run.rt ⟨y, g1, g2, hF, g3⟩
  · rintro ⟨s1, S⟩ ⟨y, g1, g2, g3, g4⟩
    have g3 : Fr wCB B0 S := g3
    have g4 : ∀ k, k < n → S 51 k = nI (dg n y k) := g4
    have a16 : S 16 5 = nI n := by rw [g3 16 5 rfl]; exact hCx.2.1
    show Run _ (jX6_tryAllOrders_68 S s1)
    unfold jX6_tryAllOrders_68
    rw [a16, jx_n (by omega)]
    refine Run.g (jcpn h8) <| Run.be rfl <| Run.rt ⟨y, hlt _ _ g1, g1, g2, Fr.up g3 (FrC.al (fun _ => rfl)), fun k hk => ?_⟩
    show va_cpy (S 51) (S 50) 0 0 n k = _
    rw [pk_cpy_in (by omega) (by omega), Nat.zero_add, Nat.sub_zero]
    exact g4 k hk
