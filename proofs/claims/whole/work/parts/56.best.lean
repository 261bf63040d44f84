/-! best, the reference's rows by numbers; both together -/
variable {B C B0 : jA3} {n : Nat}
theorem r_pow {T : jA3} {L : jL3} (h5 : n ≤ 5) (h21 : T 94 21 = nI n) : jwh (cX11_findBest_20 T L) ((1 : Int32), (0 : Int32)) = some (nI (n ^ n)) := by
  have hr : Run (fun x => x = nI (n ^ n)) (jwh (cX11_findBest_20 T L) ((1 : Int32), (0 : Int32))) := by
    refine Run.up n (fun k s => s.1 = nI (n ^ k) ∧ s.2 = nI k) ?_ ?_ (Nat.zero_le _) ⟨rfl, rfl⟩
    · rintro k ⟨s1, s2⟩ hk ⟨q1, q2⟩
      have q1 : s1 = nI (n ^ k) := q1
      have q2 : s2 = nI k := q2
      subst q1 q2
      unfold cX11_findBest_20
      simp only [h21]
      exact Run.im (nI_ge hk (by omega)) <| Run.rt ⟨by show nI (n ^ k) * nI n = nI (n ^ (k + 1)); rw [pk_mul, Nat.pow_succ], nI_1 k⟩
    · rintro ⟨s1, s2⟩ ⟨q1, q2⟩
      have q2 : s2 = nI n := q2
      subst q2
      unfold cX11_findBest_20
      simp only [h21]
      exact Run.ip (nI_le (Nat.le_refl _) (by omega)) <| Run.rt q1
  obtain ⟨x, e, rfl⟩ := hr
  exact e
/-- what the reference holds -/
def hC (B0 : jA3) (n : Nat) (b : Option Nat) (f : Int32) (T : jA3) (L : jL3) : Prop := (b = none → f = 0) ∧ ∀ y, b = some y → f = 1 ∧ L 94 32 = lN (wv B0 (dg n y) n) ∧ ∀ k, k < n → T 112 k = nI (dg n y k)
theorem best_num {T : jA3} {L : jL3} (hCx : Cx B0 C n) (h5 : n ≤ 5) (hT : Fr wCC C T) (h25 : T 94 25 = nI n) : Run (fun x => Fr wCC C x.1 ∧ ∀ y, BB (fun o => wv B0 o n) n (n ^ n) = some y → x.2 94 32 = lN (wv B0 (dg n y) n) ∧ ∀ k, k < n → x.1 112 k = nI (dg n y k)) (jwh (cX11_findBest_45 (nI (n ^ n))) ((0 : Int32), (0 : Int32), T, L)) := by
  have h8 := hCx.2.2.1
  have hp := p5 h5
  refine Run.up (n ^ n) (fun x s => s.2.1 = nI x ∧ Fr wCC C s.2.2.1 ∧ s.2.2.1 94 25 = nI n ∧ hC B0 n (BB (fun o => wv B0 o n) n x) s.1 s.2.2.1 s.2.2.2) ?_ ?_ (Nat.zero_le _) ⟨rfl, hT, h25, fun _ => rfl, fun y e => (by cases e)⟩
  · rintro x ⟨s1, s2, S, L⟩ hx ⟨q1, q2, q3, q4⟩
    have q1 : s2 = nI x := q1
    subst q1
    have q2 : Fr wCC C S := q2
    have q3 : S 94 25 = nI n := q3
    have q4 : hC B0 n (BB (fun o => wv B0 o n) n x) s1 S L := q4
    have t21 : S 94 21 = nI n := by rw [q2 94 21 rfl]; exact hCx.2.2.2.1
    obtain ⟨⟨r1, T1⟩, e1, f1, a1, a2⟩ := r_rowBy (T := S) h5 hx
    have f1 : Fr [(108, 108, none)] S T1 := f1
    have fT1 : Fr wCC C T1 := q2.tr (f1.wd rfl)
    have t25 : T1 94 25 = nI n := by rw [f1 94 25 rfl]; exact q3
    unfold cX11_findBest_45
    refine Run.im (nI_ge hx (by omega)) ?_
    show Run _ (Option.bind (fX11_rowBy S (nI x) (S 94 21)) _)
    rw [t21, e1]
    refine Run.be rfl ?_
    cases hv : vd n x with
    | false =>
      have eB : BB (fun o => wv B0 o n) n (x + 1) = BB (fun o => wv B0 o n) n x := by
        show (bif vd n x then _ else _) = _
        rw [hv]
        rfl
      refine Run.ip (a1 hv) <| Run.rt ⟨nI_1 x, fT1, t25, ?_⟩
      rw [eB]
      exact ⟨q4.1, fun y e => ⟨(q4.2 y e).1, (q4.2 y e).2.1, fun k hk => by show T1 112 k = _; rw [f1 112 k rfl]; exact (q4.2 y e).2.2 k hk⟩⟩
    | true =>
      obtain ⟨b1, b2⟩ := a2 hv
      have b1 : r1 = 1 := b1
      subst b1
      have hr := (tb_at h5 hx hv).1
      have hSC : SC C n T1 (dg n x) := ⟨fT1, t25, b2⟩
      obtain ⟨T2, L2, e2, g1, g2, g3⟩ := woC (L := L) hCx hSC hr
      obtain ⟨T3, e3, g4, g5⟩ := keC (L := L2) (w := lN (wv B0 (dg n x) n)) g1 h8
      have eB : BB (fun o => wv B0 o n) n (x + 1) = (match BB (fun o => wv B0 o n) n x with | none => some x | some y => if wv B0 (dg n y) n < wv B0 (dg n x) n then some x else some y) := by
        show (bif vd n x then _ else _) = _
        rw [hv]
        rfl
      have hw := wv_lt (o := dg n x) (r := n) hCx
      have m112 : T2 112 = S 112 := by rw [g2]; exact funext fun k => f1 112 k rfl
      have hbet : BB (fun o => wv B0 o n) n (x + 1) = some x → Run (SO (fun s => s.2.1 = nI (x + 1) ∧ Fr wCC C s.2.2.1 ∧ s.2.2.1 94 25 = nI n ∧ hC B0 n (BB (fun o => wv B0 o n) n (x + 1)) s.1 s.2.2.1 s.2.2.2) (fun x => Fr wCC C x.1 ∧ ∀ y, BB (fun o => wv B0 o n) n (n ^ n) = some y → x.2 94 32 = lN (wv B0 (dg n y) n) ∧ ∀ k, k < n → x.1 112 k = nI (dg n y k))) (jX11_findBest_88_45 T2 L2 (nI (n ^ n)) (nI x) (lN (wv B0 (dg n x) n))) := by
        intro eb
        unfold jX11_findBest_88_45
        rw [e3]
        refine Run.be rfl <| Run.rt ⟨nI_1 x, g4.1, g4.2.1, ?_⟩
        rw [eb]
        refine ⟨fun e => (by cases e), fun y e => ?_⟩
        rw [← Option.some.inj e]
        refine ⟨rfl, ?_, g5⟩
        show vp_updL (L2 94) 32 (lN (wv B0 (dg n x) n)) 32 = _
        rw [pk_uLs]
      refine Run.im (show ¬ (1 : Int32) = 0 by decide) ?_
      show Run _ (Option.bind (fX11_worthOf T1 L) _)
      rw [e2]
      refine Run.be rfl ?_
      cases r : BB (fun o => wv B0 o n) n x with
      | none =>
        rw [r] at eB
        exact Run.ip (q4.1 r) <| hbet eB
      | some y =>
        rw [r] at eB
        have eB : BB (fun o => wv B0 o n) n (x + 1) = if wv B0 (dg n y) n < wv B0 (dg n x) n then some x else some y := eB
        obtain ⟨p1, p2, p3⟩ := q4.2 y r
        have hy := wv_lt (o := dg n y) (r := n) hCx
        have l94 : L2 94 32 = lN (wv B0 (dg n y) n) := by rw [g3]; exact p2
        refine Run.im (show ¬ s1 = 0 by rw [p1]; decide) ?_
        show Run _ (if 0 < lg_cmp (lN (wv B0 (dg n x) n)) (L2 94 32) then _ else _)
        rw [l94]
        by_cases hq : wv B0 (dg n y) n < wv B0 (dg n x) n
        · rw [if_pos hq] at eB
          exact Run.ip (by rw [cmp_gt, pk_lLT (by omega) (by omega)]; exact hq) <| hbet eB
        · rw [if_neg hq] at eB
          refine Run.im (by rw [cmp_gt, pk_lLT (by omega) (by omega)]; exact hq) <| Run.rt ⟨nI_1 x, g1.1, g1.2.1, ?_⟩
          rw [eB]
          refine ⟨fun e => (by cases e), fun y2 e => ?_⟩
          rw [← Option.some.inj e]
          exact ⟨p1, l94, fun k hk => by show T2 112 k = _; rw [m112]; exact p3 k hk⟩
  · rintro ⟨s1, s2, S, L⟩ ⟨q1, q2, q3, q4⟩
    have q1 : s2 = nI (n ^ n) := q1
    subst q1
    unfold cX11_findBest_45
    exact Run.ip (nI_le (Nat.le_refl _) (by omega)) <| Run.rt ⟨q2, fun y e => ⟨(q4.2 y e).2.1, (q4.2 y e).2.2⟩⟩
/-- the end of both: what is asked of the best row -/
theorem best_end {A T : jA3} {L : jL3} {w v : Int64} (l1 : Int32) {c : Nat} (hc : c ≤ 2) (hl : l1 = nI c) (hCx : Cx B0 C n) (h : ED B0 C n (w, A) (T, L)) : Sim (fun x y => x.1 = y.1) (jX10_best_59 A l1 v w) (if l1 ≤ 0 then Option.bind (jwh (cX11_best_51 T L) ((0 : Int64), (0 : Int32))) fun e8 => some (e8, T, L) else (if l1 = (1 : Int32) then some ((L 94 32), T, L) else some ((L 94 32) - v, T, L))) := by
  obtain ⟨o, h1, ho, h2, h3, h4, h5, h6⟩ := h
  have h1 : w = lN (wv B0 o n) := h1
  have h2 : Fr wCB B0 A := h2
  have h3 : ∀ k, k < n → A 50 k = nI (o k) := h3
  have h4 : Fr wCC C T := h4
  have h5 : ∀ k, k < n → T 112 k = nI (o k) := h5
  have h6 : L 94 32 = lN (wv B0 o n) := h6
  have h8 := hCx.2.2.1
  have a16 : A 16 5 = nI n := by rw [h2 16 5 rfl]; exact hCx.2.1
  have t21 : T 94 21 = nI n := by rw [h4 94 21 rfl]; exact hCx.2.2.2.1
  subst hl
  unfold jX10_best_59 fX6_orderAsDigits
  have hs : Sim (fun x y => x = y) (jwh (cX6_orderAsDigits_4 A) ((0 : Int64), (0 : Int32))) (jwh (cX11_best_51 T L) ((0 : Int64), (0 : Int32))) := by
    refine Sim.up n (fun k s t => s.1 = t.1 ∧ s.2 = nI k ∧ t.2 = nI k) ?_ ?_ (Nat.zero_le _) ⟨rfl, rfl, rfl⟩
    · rintro k ⟨s1, s2⟩ ⟨t1, t2⟩ hk ⟨q1, q2, q3⟩
      have q1 : s1 = t1 := q1
      have q2 : s2 = nI k := q2
      have q3 : t2 = nI k := q3
      subst q1 q2 q3
      have v8 : vp_in (nI k) 8 := vp_in_nI (by omega) (by omega)
      unfold cX6_orderAsDigits_4 cX11_best_51
      simp only [a16, t21, jx_n (show k < 2 ^ 31 by omega), h3 k hk, h5 k hk]
      exact Sim.iml (nI_ge hk (by omega)) <| Sim.imr (nI_ge hk (by omega)) <| Sim.gl v8 <| Sim.gr v8 <| Sim.rt ⟨rfl, nI_1 k, nI_1 k⟩
    · rintro ⟨s1, s2⟩ ⟨t1, t2⟩ ⟨q1, q2, q3⟩
      have q2 : s2 = nI n := q2
      have q3 : t2 = nI n := q3
      subst q2 q3
      unfold cX6_orderAsDigits_4 cX11_best_51
      simp only [a16, t21]
      exact Sim.ipl (nI_le (Nat.le_refl _) (by omega)) <| Sim.ipr (nI_le (Nat.le_refl _) (by omega)) <| Sim.rt q1
  obtain ⟨x, y, e1, e2, e3⟩ := hs
  rw [e1, e2]
  have hc3 : c = 0 ∨ c = 1 ∨ c = 2 := by omega
  rcases hc3 with rfl | rfl | rfl
  · exact Sim.ipl rfl <| Sim.bl rfl <| Sim.ipr (by decide) <| Sim.br rfl <| Sim.rt e3
  · exact Sim.iml (by decide) <| Sim.ipl rfl <| Sim.imr (by decide) <| Sim.ipr rfl <| Sim.rt (by show w = L 94 32; rw [h1, h6])
  · exact Sim.iml (by decide) <| Sim.iml (by decide) <| Sim.imr (by decide) <| Sim.imr (by decide) <| Sim.rt (by show w - v = L 94 32 - v; rw [h1, h6])
theorem m_best (h : Rel B C) {L : jL3} (l1 : Int32) : Sim (fun x y => x.1 = y.1) (fX10_best B l1) (fX11_best C L l1) := by
  obtain ⟨n, hP⟩ := h.pre
  unfold fX10_best fX11_best fX11_findBest
  refine Sim.ii Iff.rfl (fun _ => Sim.rt rfl) (fun q1 => ?_)
  obtain ⟨c, hc, hl⟩ := wn_n (n := 2) rfl q1
  obtain ⟨B0, hCx, fr, hr⟩ := c_came hP
  obtain ⟨⟨w, A⟩, e1, a1, a2, a3, -, -, a4, -⟩ := hr
  obtain ⟨⟨w2, T, L2⟩, e2, b1, b2, -, -, -, -, -, b3⟩ := c_cameC (L := L) hCx
  have a1 : w = lN (wv B0 (fun k => k) n) := a1
  have b1 : w2 = lN (wv B0 (fun k => k) n) := b1
  subst a1 b1
  have b2 : Fr wCC C T := b2
  have hSA : SA B0 n A (fun k => k) := ⟨a2, a3, a4⟩
  have h8 := hCx.2.2.1
  obtain ⟨⟨w3, T3, L3⟩, e3, c1, c2, -, -, c3, c4, -, c5⟩ := c_cameC (L := L2) (hCx.fr b2)
  have c1 : w3 = lN (wv B0 (fun k => k) n) := c1
  subst c1
  have hSC : SC C n T3 (fun k => k) := ⟨b2.tr c2, c4, c3⟩
  obtain ⟨T4, e4, d1, d2⟩ := keC (L := L3) (w := lN (wv B0 (fun k => k) n)) hSC h8
  have a16 : A 16 5 = nI n := by rw [show A 16 5 = B0 16 5 from a2 16 5 rfl]; exact hCx.2.1
  have t21 : T4 94 21 = nI n := by rw [d1.1 94 21 rfl]; exact hCx.2.2.2.1
  show Sim _ (Option.bind (fX6_worthAsTheyCame B (B 18 0)) _) _
  rw [e1, e2]
  refine Sim.bl rfl <| Sim.br rfl ?_
  show Sim _ (if (5 : Int32) < A 16 5 then Option.bind (fX6_exchangeWhileBetter A) _ else Option.bind (fX6_tryAllOrders A) _) (Option.bind (Option.bind (fX11_worthOfAll T L2) _) _)
  rw [e3, a16]
  show Sim _ _ (Option.bind (Option.bind (fX11_keepRow T3 L3 (lN (wv B0 (fun k => k) n))) _) _)
  rw [e4]
  show Sim _ _ (Option.bind (if (5 : Int32) < T4 94 21 then _ else _) _)
  rw [t21]
  by_cases h5 : 5 < n
  · have h5i : (5 : Int32) < nI n := nI_lt (a := 5) h5 (by omega)
    rw [if_pos h5i, if_pos h5i]
    unfold fX6_exchangeWhileBetter
    obtain ⟨A2, e5, f1, -⟩ := waA hCx hSA (row_id h8)
    obtain ⟨⟨wx, Ax⟩, ⟨Ty, Ly⟩, e6, e7, hE⟩ := best_swap (o := fun k => k) (L := va_up L3 94 (vp_updL (L3 94) 32 (lN (wv B0 (fun k => k) n)))) hCx (show 0 < n by omega) (row_id h8) f1 d1 d2 (by show vp_updL (L3 94) 32 (lN (wv B0 (fun k => k) n)) 32 = lN (wv B0 (fun k => k) n); rw [pk_uLs])
    rw [e5]
    refine Sim.bl (a := (wx, Ax)) ?_ ?_
    · show Option.bind (jwh cX6_exchangeWhileBetter_14 (lN (wv B0 (fun k => k) n), (1 : Int32), (0 : Int32), A2)) _ = _
      rw [e6]
      rfl
    · show Sim _ _ (Option.bind (Option.bind (jwh cX11_findBest_105 ((1 : Int32), T4, va_up L3 94 (vp_updL (L3 94) 32 (lN (wv B0 (fun k => k) n))))) _) _)
      rw [e7]
      exact best_end l1 hc hl hCx hE
  · have h5i : ¬ (5 : Int32) < nI n := nI_nlt (a := 5) (b := n) (by omega) (by omega)
    rw [if_neg h5i, if_neg h5i]
    obtain ⟨⟨wx, Ax⟩, e6, y, hy, g1, g2, g3, g4⟩ := best_all hCx (show n ≤ 5 by omega) hSA
    obtain ⟨⟨Ty, Ly⟩, e7, k1, k2⟩ := best_num (T := T4) (L := va_up L3 94 (vp_updL (L3 94) 32 (lN (wv B0 (fun k => k) n)))) hCx (show n ≤ 5 by omega) d1.1 d1.2.1
    rw [e6, r_pow (by omega) t21]
    refine Sim.bl rfl ?_
    show Sim _ _ (Option.bind (Option.bind (jwh (cX11_findBest_45 (nI (n ^ n))) ((0 : Int32), (0 : Int32), T4, va_up L3 94 (vp_updL (L3 94) 32 (lN (wv B0 (fun k => k) n))))) _) _)
    rw [e7]
    exact best_end l1 hc hl hCx ⟨dg n y, g2, fun k hk => Nat.mod_lt _ (by omega), g3, g4, k1, (k2 y g1).2, (k2 y g1).1⟩
