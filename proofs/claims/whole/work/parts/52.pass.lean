/-! best: one pass over all pairs, both ways -/
variable {B C B0 : jA3} {n : Nat}
def PB (B0 : jA3) (n : Nat) (o : Nat → Nat) (w : Nat) (x : Int64) (p q f p2 q2 : Int32) (y : Int64) : Prop := ∃ b bi bj, bi < n ∧ bj < n ∧ b = wv B0 (sw o bi bj) n ∧ x = lN b ∧ p = nI bi ∧ q = nI bj ∧ p2 = nI bi ∧ q2 = nI bj ∧ y = lN b ∧ ((b = w ∧ f = 0 ∧ bi = bj) ∨ (w < b ∧ f = 1))
def PQ (B0 C : jA3) (n : Nat) (o : Nat → Nat) (w : Nat) (D : Nat → Int32) (E : Nat → Int64) (s : Int64 × Int32 × Int32 × jA3) (t : Int32 × Int32 × Int32 × Int64 × jA3 × jL3) : Prop :=
  PB B0 n o w s.1 s.2.1 s.2.2.1 t.1 t.2.1 t.2.2.1 t.2.2.2.1 ∧ SA B0 n s.2.2.2 o ∧ SC C n t.2.2.2.2.1 o ∧ t.2.2.2.2.1 112 = D ∧ t.2.2.2.2.2 94 = E
theorem pass_in {o : Nat → Nat} {w i : Nat} {D : Nat → Int32} {E : Nat → Int64} (hCx : Cx B0 C n) (hr : Row n n o) (hi : i < n) {x : Int64} {p q f p2 q2 : Int32} {y : Int64} {A T : jA3} {L : jL3} (h : PQ B0 C n o w D E (x, p, q, A) (f, p2, q2, y, T, L)) :
    Sim (PQ B0 C n o w D E) (jwh (cX6_bestExchange_26 (nI i)) (x, p, q, nI (i + 1), A)) (jwh (cX11_findBest_139 (nI i)) (f, p2, q2, y, nI (i + 1), T, L)) := by
  have h8 := hCx.2.2.1
  refine Sim.up n (fun k s t => s.2.2.2.1 = nI k ∧ t.2.2.2.2.1 = nI k ∧ PQ B0 C n o w D E (s.1, s.2.1, s.2.2.1, s.2.2.2.2) (t.1, t.2.1, t.2.2.1, t.2.2.2.1, t.2.2.2.2.2.1, t.2.2.2.2.2.2)) ?_ ?_ (show i + 1 ≤ n by omega) ⟨rfl, rfl, h⟩
  · rintro k ⟨s1, s2, s3, s4, A⟩ ⟨t1, t2, t3, t4, t5, T, L⟩ hk ⟨e1, e2, hPB, hA, hC, h112, h94⟩
    have e1 : s4 = nI k := e1
    have e2 : t5 = nI k := e2
    subst e1 e2
    obtain ⟨b, bi, bj, hbi, hbj, hb, c1, c2, c3, c4, c5, c6, c7⟩ := hPB
    have c1 : s1 = lN b := c1
    have c2 : s2 = nI bi := c2
    have c3 : s3 = nI bj := c3
    have c4 : t2 = nI bi := c4
    have c5 : t3 = nI bj := c5
    have c6 : t4 = lN b := c6
    have c7 : (b = w ∧ t1 = 0 ∧ bi = bj) ∨ (w < b ∧ t1 = 1) := c7
    subst c1 c2 c3 c4 c5 c6
    have hA : SA B0 n A o := hA
    have hC : SC C n T o := hC
    have h112 : T 112 = D := h112
    have h94 : L 94 = E := h94
    obtain ⟨A1, x1, x2, -⟩ := exA hA h8 hi hk
    obtain ⟨A2, x3, x4, -⟩ := waA hCx x2 (sw_row hr hi hk)
    obtain ⟨A3, x5, x6, -⟩ := exA x4 h8 hi hk
    obtain ⟨T1, y1, y2, y3⟩ := exC hC h8 hi hk
    obtain ⟨T2, L2, y4, y5, y6, y7⟩ := woC (L := L) hCx y2 (sw_row hr hi hk)
    obtain ⟨T3, y8, y9, y10⟩ := exC y5 h8 hi hk
    have a16 : A 16 5 = nI n := by rw [hA.1 16 5 rfl]; exact hCx.2.1
    have t25 : T 94 25 = nI n := hC.2.1
    have hl := wv_lt (o := sw o i k) (r := n) hCx
    have hbl : b ≤ 594000000 := by rw [hb]; exact wv_lt hCx
    have fA := x6.cong (o2 := o) (fun k2 _ => sw_sw o i k k2)
    have fC := y9.cong (o2 := o) (fun k2 _ => sw_sw o i k k2)
    have f112 : T3 112 = D := by rw [y10, y6, y3]; exact h112
    have f94 : L2 94 = E := by rw [y7]; exact h94
    unfold cX6_bestExchange_26 cX11_findBest_139
    simp only [a16, t25]
    refine Sim.iml (nI_ge hk (by omega)) <| Sim.imr (nI_ge hk (by omega)) <| Sim.bl x1 <| Sim.bl x3 <| Sim.bl x5 <| Sim.br y1 <| Sim.br y4 <| Sim.br y8 <| Sim.ix (by rw [cmp_le, cmp_gt]) (fun _ => ?_) (fun z => ?_)
    · exact Sim.rt ⟨nI_1 k, nI_1 k, ⟨b, bi, bj, hbi, hbj, hb, rfl, rfl, rfl, rfl, rfl, rfl, c7⟩, fA, fC, f112, f94⟩
    · rw [cmp_le, Classical.not_not, pk_lLT (by omega) (by omega)] at z
      refine Sim.rt ⟨nI_1 k, nI_1 k, ⟨wv B0 (sw o i k) n, i, k, hi, hk, rfl, rfl, rfl, rfl, rfl, rfl, rfl, Or.inr ⟨?_, rfl⟩⟩, fA, fC, f112, f94⟩
      rcases c7 with ⟨g, -⟩ | ⟨g, -⟩ <;> omega
  · rintro ⟨s1, s2, s3, s4, A⟩ ⟨t1, t2, t3, t4, t5, T, L⟩ ⟨e1, e2, hP⟩
    have e1 : s4 = nI n := e1
    have e2 : t5 = nI n := e2
    subst e1 e2
    have a16 : A 16 5 = nI n := by rw [show A 16 5 = B0 16 5 from hP.2.1.1 16 5 rfl]; exact hCx.2.1
    have t25 : T 94 25 = nI n := hP.2.2.1.2.1
    unfold cX6_bestExchange_26 cX11_findBest_139
    simp only [a16, t25]
    exact Sim.ipl (nI_le (Nat.le_refl _) (by omega)) <| Sim.ipr (nI_le (Nat.le_refl _) (by omega)) <| Sim.rt hP
theorem pass_out {o : Nat → Nat} {w : Nat} {D : Nat → Int32} {E : Nat → Int64} (hCx : Cx B0 C n) (hr : Row n n o) {x : Int64} {p q f p2 q2 : Int32} {y : Int64} {A T : jA3} {L : jL3} (h : PQ B0 C n o w D E (x, p, q, A) (f, p2, q2, y, T, L)) :
    Sim (PQ B0 C n o w D E) (jwh cX6_bestExchange_11 (x, p, q, 0, A)) (jwh cX11_findBest_124 (f, p2, q2, y, 0, T, L)) := by
  have h8 := hCx.2.2.1
  refine Sim.up n (fun k s t => s.2.2.2.1 = nI k ∧ t.2.2.2.2.1 = nI k ∧ PQ B0 C n o w D E (s.1, s.2.1, s.2.2.1, s.2.2.2.2) (t.1, t.2.1, t.2.2.1, t.2.2.2.1, t.2.2.2.2.2.1, t.2.2.2.2.2.2)) ?_ ?_ (Nat.zero_le _) ⟨rfl, rfl, h⟩
  · rintro k ⟨s1, s2, s3, s4, A⟩ ⟨t1, t2, t3, t4, t5, T, L⟩ hk ⟨e1, e2, hP⟩
    have e1 : s4 = nI k := e1
    have e2 : t5 = nI k := e2
    subst e1 e2
    have a16 : A 16 5 = nI n := by rw [show A 16 5 = B0 16 5 from hP.2.1.1 16 5 rfl]; exact hCx.2.1
    have t25 : T 94 25 = nI n := hP.2.2.1.2.1
    unfold cX6_bestExchange_11 cX11_findBest_124
    simp only [a16, t25, nI_1]
    refine Sim.iml (nI_ge hk (by omega)) <| Sim.imr (nI_ge hk (by omega)) <| Sim.bd (pass_in hCx hr hk hP) ?_
    rintro ⟨a1, a2, a3, a4⟩ ⟨b1, b2, b3, b4, b5, b6⟩ hQ
    exact Sim.rt ⟨rfl, rfl, hQ⟩
  · rintro ⟨s1, s2, s3, s4, A⟩ ⟨t1, t2, t3, t4, t5, T, L⟩ ⟨e1, e2, hP⟩
    have e1 : s4 = nI n := e1
    have e2 : t5 = nI n := e2
    subst e1 e2
    have a16 : A 16 5 = nI n := by rw [show A 16 5 = B0 16 5 from hP.2.1.1 16 5 rfl]; exact hCx.2.1
    have t25 : T 94 25 = nI n := hP.2.2.1.2.1
    unfold cX6_bestExchange_11 cX11_findBest_124
    simp only [a16, t25]
    exact Sim.ipl (nI_le (Nat.le_refl _) (by omega)) <| Sim.ipr (nI_le (Nat.le_refl _) (by omega)) <| Sim.rt hP
/-- what both have in the end: a row and its worth -/
def ED (B0 C : jA3) (n : Nat) (x : Int64 × jA3) (y : jA3 × jL3) : Prop := ∃ o, x.1 = lN (wv B0 o n) ∧ (∀ k, k < n → o k < n) ∧ Fr wCB B0 x.2 ∧ (∀ k, k < n → x.2 50 k = nI (o k)) ∧ Fr wCC C y.1 ∧ (∀ k, k < n → y.1 112 k = nI (o k)) ∧ y.2 94 32 = lN (wv B0 o n)
theorem best_swap {A T : jA3} {L : jL3} {o : Nat → Nat} (hCx : Cx B0 C n) (h0 : 0 < n) (hr : Row n n o) (hA : SA B0 n A o) (hC : SC C n T o) (h112 : ∀ k, k < n → T 112 k = nI (o k)) (h94 : L 94 32 = lN (wv B0 o n)) :
    Sim (ED B0 C n) (jwh cX6_exchangeWhileBetter_14 (lN (wv B0 o n), (1 : Int32), (0 : Int32), A)) (jwh cX11_findBest_105 ((1 : Int32), T, L)) := by
  have h8 := hCx.2.2.1
  refine Sim.up 40320 (fun c s t => s.2.2.1 = nI c ∧ s.2.1 = t.1 ∧ (t.1 = 0 ∨ t.1 = 1) ∧ ∃ o, s.1 = lN (wv B0 o n) ∧ Row n n o ∧ SA B0 n s.2.2.2 o ∧ SC C n t.2.1 o ∧ (∀ k, k < n → t.2.1 112 k = nI (o k)) ∧ t.2.2 94 32 = lN (wv B0 o n) ∧ (t.1 = 1 → ∃ g : Nat → Nat → Nat, g c = o ∧ (∀ i, i < c + 1 → Pm n (g i)) ∧ ∀ i j, i < j → j < c + 1 → wv B0 (g i) n < wv B0 (g j) n)) ?_ ?_ (Nat.zero_le _) ⟨rfl, rfl, Or.inr rfl, o, rfl, hr, hA, hC, h112, h94, fun _ => ⟨fun _ => o, rfl, fun _ _ => hr.2, fun i j h1 h2 => by omega⟩⟩
  · rintro c ⟨s1, s2, s3, A⟩ ⟨t1, T, L⟩ hc ⟨e1, e2, e3, o, e4, hr, hA, hC, h112, h94, hg⟩
    have e1 : s3 = nI c := e1
    have e2 : s2 = t1 := e2
    have e4 : s1 = lN (wv B0 o n) := e4
    subst e1 e2 e4
    have hA : SA B0 n A o := hA
    have hC : SC C n T o := hC
    have h112 : ∀ k, k < n → T 112 k = nI (o k) := h112
    have h94 : L 94 32 = lN (wv B0 o n) := h94
    unfold cX6_exchangeWhileBetter_14 cX11_findBest_105
    refine Sim.iml (nI_ge (b := 40320) hc (by omega)) <| Sim.ii Iff.rfl (fun _ => Sim.rt ⟨o, rfl, hr.2.1, hA.1, hA.2.2, hC.1, h112, h94⟩) (fun z0 => ?_)
    have z1 : s2 = 1 := by
      rcases e3 with e3 | e3
      · exact absurd e3 z0
      · exact e3
    subst z1
    have hA : SA B0 n A o := hA
    have hC : SC C n T o := hC
    have h112 : ∀ k, k < n → T 112 k = nI (o k) := h112
    have h94 : L 94 32 = lN (wv B0 o n) := h94
    obtain ⟨g, g1, g2, g3⟩ := hg rfl
    have hP : PQ B0 C n o (wv B0 o n) (T 112) (L 94) (lN (wv B0 o n), 0, 0, A) (0, 0, 0, lN (wv B0 o n), T, L) := ⟨⟨wv B0 o n, 0, 0, h0, h0, wv_cong (fun k _ => (sw_id o 0 k).symm), rfl, rfl, rfl, rfl, rfl, rfl, Or.inl ⟨rfl, rfl, rfl⟩⟩, hA, hC, rfl, rfl⟩
    obtain ⟨⟨a1, a2, a3, A2⟩, ⟨b1, b2, b3, b4, T2, L2⟩, x1, x2, ⟨b, bi, bj, hbi, hbj, hb, c1, c2, c3, c4, c5, c6, c7⟩, hA2, hC2, k112, k94⟩ := pass_out hCx hr hP
    have c1 : a1 = lN b := c1
    have c2 : a2 = nI bi := c2
    have c3 : a3 = nI bj := c3
    have c4 : b2 = nI bi := c4
    have c5 : b3 = nI bj := c5
    have c6 : b4 = lN b := c6
    have c7 : (b = wv B0 o n ∧ b1 = 0 ∧ bi = bj) ∨ (wv B0 o n < b ∧ b1 = 1) := c7
    subst c1 c2 c3 c4 c5 c6
    have hA2 : SA B0 n A2 o := hA2
    have hC2 : SC C n T2 o := hC2
    have m112 : T2 112 = T 112 := k112
    have m94 : L2 94 = L 94 := k94
    obtain ⟨A3, x3, x4, -⟩ := exA hA2 h8 hbi hbj
    have hl := wv_lt (o := o) (r := n) hCx
    have hbl : b ≤ 594000000 := by rw [hb]; exact wv_lt hCx
    unfold fX6_bestExchange
    show Sim _ (Option.bind (Option.bind (jwh cX6_bestExchange_11 (lN (wv B0 o n), (0 : Int32), (0 : Int32), (0 : Int32), A)) _) _) (Option.bind (jwh cX11_findBest_124 ((0 : Int32), (0 : Int32), (0 : Int32), (L 94 32), (0 : Int32), T, L)) _)
    rw [h94, x1, x2]
    refine Sim.bl (a := (lN b, A3)) ?_ <| Sim.br rfl ?_
    · show Option.bind (fX6_exchange A2 (nI bi) (nI bj)) _ = _
      rw [x3]
      rfl
    rcases c7 with ⟨u1, u2, u3⟩ | ⟨u1, u2⟩
    · subst u2 u3
      refine Sim.ipl (by rw [cmp_le, pk_lLT (by omega) (by omega)]; omega) <| Sim.ipr rfl <| Sim.rt ⟨nI_1 c, rfl, Or.inl rfl, o, by rw [u1], hr, x4.cong (fun k _ => sw_id o bi k), hC2, fun k hk => by show T2 112 k = _; rw [m112]; exact h112 k hk, by show L2 94 32 = _; rw [m94]; exact h94, fun z => absurd z (show ¬ (0 : Int32) = 1 by decide)⟩
    · subst u2
      obtain ⟨T3, y3, y4, -⟩ := exC hC2 h8 hbi hbj
      obtain ⟨T4, y5, y6, y7⟩ := keC (L := L2) (w := lN b) y4 h8
      refine Sim.iml (by rw [cmp_le, pk_lLT (by omega) (by omega)]; omega) <| Sim.imr (show ¬ (1 : Int32) = 0 by decide) <| Sim.br y3 <| Sim.br y5 <| Sim.rt ⟨nI_1 c, rfl, Or.inr rfl, sw o bi bj, by rw [hb], sw_row hr hbi hbj, x4, y6, y7, ?_, fun _ => ⟨fun i => if i < c + 1 then g i else sw o bi bj, ?_, fun i hi => ?_, fun i j hij hj => ?_⟩⟩
      · show vp_updL (L2 94) 32 (lN b) 32 = _
        rw [pk_uLs, hb]
      · show (if c + 1 < c + 1 then _ else _) = _
        rw [if_neg (by omega)]
      · show Pm n (if i < c + 1 then g i else sw o bi bj)
        by_cases q : i < c + 1
        · rw [if_pos q]; exact g2 i q
        · rw [if_neg q]; exact (sw_row hr hbi hbj).2
      · show wv B0 (if i < c + 1 then g i else sw o bi bj) n < wv B0 (if j < c + 1 then g j else sw o bi bj) n
        rw [if_pos (by omega)]
        by_cases q : j < c + 1
        · rw [if_pos q]; exact g3 i j hij q
        · rw [if_neg q, ← hb]
          have : wv B0 (g i) n ≤ wv B0 o n := by
            rcases Nat.lt_or_ge i c with r | r
            · rw [← g1]
              exact Nat.le_of_lt (g3 i c r (by omega))
            · rw [show i = c by omega, g1]
              exact Nat.le_refl _
          omega
  · rintro ⟨s1, s2, s3, A⟩ ⟨t1, T, L⟩ ⟨e1, e2, e3, o, e4, hr, hA, hC, h112, h94, hg⟩
    have e1 : s3 = nI 40320 := e1
    have e2 : s2 = t1 := e2
    subst e1 e2
    have z : s2 = 0 := by
      rcases e3 with e3 | e3
      · exact e3
      · obtain ⟨g, g1, g2, g3⟩ := hg e3
        have := few_rows (W := fun o => wv B0 o n) h8 g2 g3 (fun o o2 h => wv_cong h)
        omega
    subst z
    unfold cX6_exchangeWhileBetter_14 cX11_findBest_105
    exact Sim.ipl (nI_le (a := 40320) (b := 40320) (Nat.le_refl _) (by omega)) <| Sim.ipr rfl <| Sim.rt ⟨o, e4, hr.2.1, hA.1, hA.2.2, hC.1, h112, h94⟩
