/-! drawn -/
variable {B C : jA3} {n : Nat}
/-- the things of the sayings in m, among the first k -/
def TH (th : Nat → Nat) (m : Nat) : Nat → Nat
  | 0 => 0
  | k + 1 => if m.testBit k then TH th m k ||| 2 ^ th k else TH th m k
theorem TH_cong {th : Nat → Nat} {m m2 : Nat} : ∀ k, (∀ j, j < k → m.testBit j = m2.testBit j) → TH th m k = TH th m2 k
  | 0, _ => rfl
  | k + 1, h => by
    rw [TH, TH, TH_cong k (fun j hj => h j (by omega)), h k (by omega)]
theorem TH_lt {th : Nat → Nat} {m : Nat} : ∀ k, (∀ j, j < k → th j < 6) → TH th m k < 2 ^ 6
  | 0, _ => by show 0 < 64; omega
  | k + 1, h => by
    have ih := TH_lt (m := m) k (fun j hj => h j (by omega))
    rw [TH]
    split
    · exact or_lt ih (Nat.pow_lt_pow_right (by omega) (h k (by omega)))
    · exact ih
theorem tb_lt {m k i : Nat} (h : m < 2 ^ k) (hi : k ≤ i) : m.testBit i = false := Nat.testBit_lt_two_pow (Nat.lt_of_lt_of_le h (Nat.pow_le_pow_right (by omega) hi))
/-- the worth of the things in X -/
theorem r_worthOf {A T : jA3} {L : jL3} {X : Nat} {w : Nat → Nat} (hX : X < 64) (h1 : ∀ t, t < 6 → A 19 t = nI (w t)) (h2 : ∀ t, t < 6 → T 96 t = nI (w t)) : Sim (fun x y => x = y) (fX4_worthOf A (nI X)) (jwh (cX11_drawn_157 T L (nI X)) ((0 : Int32), (0 : Int32))) := by
  unfold fX4_worthOf
  have hs : Sim (fun x y => x = y) (jwh (cX4_worthOf_4 A (nI X)) ((0 : Int32), (0 : Int32))) (jwh (cX11_drawn_157 T L (nI X)) ((0 : Int32), (0 : Int32))) := by
    refine Sim.up 6 (fun k s t => s.1 = t.1 ∧ s.2 = nI k ∧ t.2 = nI k) ?_ ?_ (Nat.zero_le _) ⟨rfl, rfl, rfl⟩
    · rintro k ⟨s1, s2⟩ ⟨t1, t2⟩ hk ⟨q1, q2, q3⟩
      have q1 : s1 = t1 := q1
      have q2 : s2 = nI k := q2
      have q3 : t2 = nI k := q3
      subst q1 q2 q3
      unfold cX4_worthOf_4 cX11_drawn_157
      have v : vp_in (nI k) 6 := vp_in_nI (by omega) (by omega)
      simp only [jx_n (show k < 2 ^ 31 by omega)]
      refine Sim.iml (nI_ge (a := k) (b := 6) hk (by omega)) <| Sim.imr (nI_ge (a := k) (b := 6) hk (by omega)) <| Sim.gr v ?_
      rw [bit_n (by omega) (by omega), h1 k hk, h2 k hk]
      rcases Nat.mod_two_eq_zero_or_one (X / 2 ^ k) with e | e
      · rw [e]
        refine Sim.ipl rfl <| Sim.rt ⟨?_, nI_1 k, nI_1 k⟩
        show s1 = s1 + 0 * nI (w k)
        rw [Int32.zero_mul, Int32.add_zero]
      · rw [e]
        refine Sim.iml (by decide) <| Sim.gl v <| Sim.rt ⟨?_, nI_1 k, nI_1 k⟩
        show s1 + nI (w k) = s1 + 1 * nI (w k)
        rw [Int32.one_mul]
    · rintro ⟨s1, s2⟩ ⟨t1, t2⟩ ⟨q1, q2, q3⟩
      have q2 : s2 = nI 6 := q2
      have q3 : t2 = nI 6 := q3
      subst q2 q3
      unfold cX4_worthOf_4 cX11_drawn_157
      exact Sim.ipl (show (6 : Int32) ≤ nI 6 by decide) <| Sim.ipr (show (6 : Int32) ≤ nI 6 by decide) <| Sim.rt q1
  obtain ⟨x, y, e1, e2, e3⟩ := hs
  rw [e1, e2]
  exact Sim.rt e3
/-- the things of the sayings -/
theorem r_things {A : jA3} {th : Nat → Nat} {m : Nat} (hn : A 16 5 = nI n) (h8 : n ≤ 8) (hm : m < 2 ^ 8) (ht : ∀ k, k < n → A 45 k = nI (th k) ∧ th k < 6) : fX6_thingsOf A (nI m) = some (nI (TH th m n)) := by
  unfold fX6_thingsOf
  have hr : Run (fun x => x = nI (TH th m n)) (jwh (cX6_thingsOf_4 A (nI m)) ((0 : Int32), (0 : Int32))) := by
    refine Run.up n (fun k s => s.1 = nI (TH th m k) ∧ s.2 = nI k) ?_ ?_ (Nat.zero_le _) ⟨rfl, rfl⟩
    · rintro k ⟨s1, s2⟩ hk ⟨q1, q2⟩
      have q1 : s1 = nI (TH th m k) := q1
      have q2 : s2 = nI k := q2
      subst q1 q2
      unfold cX6_thingsOf_4
      simp only [hn, jx_n (show k < 2 ^ 31 by omega)]
      refine Run.im (nI_ge hk (by omega)) <| Run.i (fun y => ?_) (fun y => ?_)
      · refine Run.rt ⟨?_, nI_1 k⟩
        rw [bit0 (by omega) (by omega)] at y
        show nI (TH th m k) = nI (TH th m (k + 1))
        rw [TH, y]
        rfl
      · rw [bit0 (by omega) (by omega), Bool.not_eq_false] at y
        refine Run.g (vp_in_nI (by omega) (by omega)) <| Run.rt ⟨?_, nI_1 k⟩
        show nI (TH th m k) ||| jshl 1 (A 45 k) = nI (TH th m (k + 1))
        rw [(ht k hk).1, jshl_1 (by have := (ht k hk).2; omega), or_n, TH, y, if_pos rfl]
    · rintro ⟨s1, s2⟩ ⟨q1, q2⟩
      have q2 : s2 = nI n := q2
      subst q2
      unfold cX6_thingsOf_4
      simp only [hn]
      exact Run.ip (nI_le (Nat.le_refl _) (by omega)) <| Run.rt q1
  obtain ⟨x, e, rfl⟩ := hr
  rw [e]
  rfl
theorem m_drawn (h : Rel B C) {L : jL3} (l1 l2 : Int32) : Sim (fun x y => x.1 = y.1) (fX10_drawn B l1 l2) (fX11_drawn C L l1 l2) := by
  obtain ⟨n, hP⟩ := h.pre
  obtain ⟨-, -, hSay, -, -, -, g2, g1, g3, -⟩ := id hP
  unfold fX10_drawn fX11_drawn
  refine Sim.ii Iff.rfl (fun _ => Sim.rt rfl) (fun q1 => Sim.ii Iff.rfl (fun _ => Sim.rt rfl) (fun q2 => ?_))
  obtain ⟨a, ha, rfl⟩ := wn_n (n := 99999) rfl q1
  obtain ⟨c, hc, rfl⟩ := wn_n (n := 2) rfl q2
  obtain ⟨B0, hCx, fr, hr⟩ := c_came hP
  obtain ⟨u, e1, -, fu, -, -, -, -, a1⟩ := hr
  obtain ⟨v, e2, -, fv, -, -, b1, b2, b3, -⟩ := c_cameC (L := L) hCx
  obtain ⟨⟨-, -, -, hS0, -⟩, h16, h8, h21, hw⟩ := id hCx
  obtain ⟨n2, n28, a2, -, a4⟩ := say_un hS0
  have en : n2 = n := by
    rw [h16, nI_eq (by omega) (by omega)] at a2
    omega
  subst en
  have u16 : u.2 16 5 = nI n2 := by rw [fu 16 5 rfl]; exact h16
  have th6 : ∀ k, k < n2 → u.2 45 k = nI (thF B0 k) ∧ thF B0 k < 6 ∧ v.2.1 106 k = nI (thF B0 k) := fun k hk => by
    obtain ⟨_, t, _, _, ht, _, _, p1, _, _, p2, _⟩ := a4 k hk
    have : thF B0 k = t := by
      unfold thF
      rw [p1]
      exact jx_n (by omega)
    rw [this, fu 45 k rfl, fv 106 k rfl]
    exact ⟨p1, ht, p2⟩
  have es : ((nI a) + (1 : Int32)).toInt64 = (nI a).toInt64 + (1 : Int64) := by
    rw [nI_1, nI_l (by omega), nI_l (by omega)]
    exact (lN_add a 1).symm
  unfold fX6_drawnSayings
  rw [es]
  show Sim _ (Option.bind (Option.bind (fX6_worthAsTheyCame B (B 18 0)) _) _) _
  rw [e1, e2]
  have hs : Sim (fun x y => ∃ m, m < 2 ^ n2 ∧ x = nI m ∧ y.2 = nI m ∧ y.1 = nI (TH (thF B0) m n2)) (jwh (cX6_drawnSayings_23 u.2) ((nI a).toInt64 + (1 : Int64), (0 : Int32), (0 : Int32))) (jwh (cX11_drawn_42 v.2.1 v.2.2 (nI c)) ((nI a).toInt64 + (1 : Int64), (0 : Int32), (0 : Int32), (0 : Int32))) := by
    refine Sim.up n2 (fun k s t => s.1 = t.1 ∧ s.2.2 = nI k ∧ t.2.2.2 = nI k ∧ ∃ m, m < 2 ^ k ∧ s.2.1 = nI m ∧ t.2.2.1 = nI m ∧ t.2.1 = nI (TH (thF B0) m k)) ?_ ?_ (Nat.zero_le _) ⟨rfl, rfl, rfl, 0, by omega, rfl, rfl, rfl⟩
    · rintro k ⟨s1, s2, s3⟩ ⟨t1, t2, t3, t4⟩ hk ⟨q1, q2, q3, m, hm, q4, q5, q6⟩
      have q1 : s1 = t1 := q1
      have q2 : s3 = nI k := q2
      have q3 : t4 = nI k := q3
      have q4 : s2 = nI m := q4
      have q5 : t3 = nI m := q5
      have q6 : t2 = nI (TH (thF B0) m k) := q6
      subst q1 q2 q3 q4 q5 q6
      have tf : TH (thF B0) m (k + 1) = TH (thF B0) m k := by
        rw [TH, tb_lt hm (Nat.le_refl _)]
        rfl
      have m2 : m < 2 ^ (k + 1) := Nat.lt_trans hm (Nat.pow_lt_pow_right (by omega) (by omega))
      unfold cX6_drawnSayings_23 cX11_drawn_42
      have v8 : vp_in (nI k) 8 := vp_in_nI (by omega) (by omega)
      simp only [u16, b2, jx_n (show k < 2 ^ 31 by omega), (a1 k hk).2, (b3 k hk).2, b1 k hk, (th6 k hk).2.2]
      refine Sim.iml (nI_ge hk (by omega)) <| Sim.imr (nI_ge hk (by omega)) <| Sim.gl v8 <| Sim.gr v8 <| Sim.ix i32_lt_nle (fun _ => ?_) (fun _ => ?_)
      · exact Sim.rt ⟨rfl, nI_1 k, nI_1 k, m, m2, rfl, rfl, by rw [tf]⟩
      refine Sim.gl v8 <| Sim.gr v8 <| Sim.ix (by rw [cmp_ge, cmp_lt]) (fun _ => ?_) (fun _ => ?_)
      · exact Sim.rt ⟨rfl, nI_1 k, nI_1 k, m, m2, rfl, rfl, by rw [tf]⟩
      refine Sim.gr v8 <| Sim.gr v8 <| Sim.gr v8 <| Sim.rt ⟨rfl, nI_1 k, nI_1 k, m ||| 2 ^ k, or_lt m2 (Nat.pow_lt_pow_right (by omega) (by omega)), ?_, ?_, ?_⟩
      · show nI m ||| jshl 1 (nI k) = _
        rw [jshl_1 (by omega), or_n]
      · show nI m ||| jshl 1 (nI k) = _
        rw [jshl_1 (by omega), or_n]
      · show nI (TH (thF B0) m k) ||| jshl 1 (nI (thF B0 k)) = nI (TH (thF B0) (m ||| 2 ^ k) (k + 1))
        have hb : (m ||| 2 ^ k).testBit k = true := by rw [or_bit]; simp
        rw [jshl_1 (by have := (th6 k hk).2.1; omega), or_n, TH, hb, if_pos rfl, TH_cong (m := m ||| 2 ^ k) (m2 := m) k (fun j hj => by rw [or_bit, decide_eq_false (by omega), Bool.or_false])]
    · rintro ⟨s1, s2, s3⟩ ⟨t1, t2, t3, t4⟩ ⟨q1, q2, q3, m, hm, q4, q5, q6⟩
      have q2 : s3 = nI n2 := q2
      have q3 : t4 = nI n2 := q3
      subst q2 q3
      unfold cX6_drawnSayings_23 cX11_drawn_42
      simp only [u16, b2]
      exact Sim.ipl (nI_le (Nat.le_refl _) (by omega)) <| Sim.ipr (nI_le (Nat.le_refl _) (by omega)) <| Sim.rt ⟨m, hm, q4, q5, q6⟩
  obtain ⟨x, ⟨y1, y2⟩, e3, e4, m, hm, q4, q5, q6⟩ := hs
  have q5 : y2 = nI m := q5
  have q6 : y1 = nI (TH (thF B0) m n2) := q6
  subst q4 q5 q6
  have hm8 : m < 2 ^ 8 := Nat.lt_of_lt_of_le hm (Nat.pow_le_pow_right (by omega) h8)
  have tl : TH (thF B0) m n2 < 64 := TH_lt n2 (fun j hj => (th6 j hj).2.1)
  refine Sim.bl (a := (nI m, u.2)) ?_ ?_
  · show Option.bind (jwh (cX6_drawnSayings_23 u.2) ((nI a).toInt64 + (1 : Int64), (0 : Int32), (0 : Int32))) _ = _
    rw [e3]
    rfl
  show Sim _ _ (Option.bind (jwh (cX11_drawn_42 v.2.1 v.2.2 (nI c)) ((nI a).toInt64 + (1 : Int64), (0 : Int32), (0 : Int32), (0 : Int32))) _)
  rw [e4]
  have et := r_things (m := m) (th := thF B0) u16 h8 hm8 (fun k hk => ⟨(th6 k hk).1, (th6 k hk).2.1⟩)
  show Sim _ (if nI c = (1 : Int32) then some (nI m, u.2) else Option.bind (fX6_thingsOf u.2 (nI m)) _) (if (2 : Int32) ≤ nI c then Option.bind (jwh (cX11_drawn_157 v.2.1 v.2.2 (nI (TH (thF B0) m n2))) ((0 : Int32), (0 : Int32))) _ else if nI c = 0 then some (nI (TH (thF B0) m n2), v.2) else some (nI m, v.2))
  rw [et]
  obtain ⟨p, q, e5, e6, e7⟩ := r_worthOf (A := u.2) (T := v.2.1) (L := v.2.2) (w := wF B0) tl (fun t ht => by rw [fu 19 t rfl]; exact (hw t ht).1) (fun t ht => by rw [fv 96 t rfl]; exact (hw t ht).2.2)
  rw [e6]
  have hc3 : c = 0 ∨ c = 1 ∨ c = 2 := by omega
  rcases hc3 with rfl | rfl | rfl
  · exact Sim.iml (by decide) <| Sim.bl rfl <| Sim.ipl rfl <| Sim.imr (by decide) <| Sim.ipr rfl <| Sim.rt rfl
  · exact Sim.ipl rfl <| Sim.imr (by decide) <| Sim.imr (by decide) <| Sim.rt rfl
  · refine Sim.iml (by decide) <| Sim.bl rfl <| Sim.iml (by decide) <| Sim.ipr (by decide) <| Sim.br rfl ?_
    show Sim _ (Option.bind (fX4_worthOf u.2 (nI (TH (thF B0) m n2))) _) _
    rw [e5]
    exact Sim.rt e7
