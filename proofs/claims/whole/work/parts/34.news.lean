/-! news, peace, key -/
variable {B C : jA3}
theorem r_fill {A : jA3} {c n : Nat} {v : Int32} (hn : n < 2 ^ 31) : Run (fun A2 => Fr [(c, c, none)] A A2 ∧ ∀ j, j < n → A2 c j = v) (fJ7_fill_53178 A c n v) := by
  have hr : Run (fun A2 => ∀ j, j < n → A2 c j = v) (fJ7_fill_53178 A c n v) := by
    unfold fJ7_fill_53178
    refine Run.bd (R := fun A2 => ∀ j, j < n → A2 c j = v) ?_ (fun a h => Run.rt h)
    refine Run.up n (fun k s => s.1 = nI k ∧ ∀ j, j < k → s.2 c j = v) ?_ ?_ (Nat.zero_le _) ⟨rfl, fun j hj => absurd hj (Nat.not_lt_zero _)⟩
    · rintro k ⟨s1, s2⟩ hk ⟨e, hI⟩
      have e : s1 = nI k := e
      subst e
      unfold cJ7_fill_53178_5
      refine Run.im (nI_ge (b := n) hk hn) <| Run.g (vp_in_nI hk hn) <| Run.rt ⟨nI_1 k, fun j hj => ?_⟩
      show va_up s2 c (upd (s2 c) (jx (nI k)) v) c j = v
      rw [ju_same, jx_n (by omega)]
      by_cases e : j = k
      · subst e; exact upd_at
      · rw [upd_ne e]; exact hI j (by omega)
    · rintro ⟨s1, s2⟩ ⟨e, hI⟩
      have e : s1 = nI n := e
      subst e
      unfold cJ7_fill_53178_5
      exact Run.ip (nI_le (a := n) (Nat.le_refl _) hn) <| Run.rt hI
  obtain ⟨a, e, h⟩ := hr
  exact ⟨a, e, w_fJ7_fill_53178 e, h⟩
def kn (v : Int32) : Prop := v = -1 ∨ ∃ e, e ≤ 365 ∧ v = nI e
theorem kn_lt {v : Int32} (h : kn v) : v = -1 ↔ v < 0 := by
  rcases h with rfl | ⟨e, he, rfl⟩
  · exact ⟨fun _ => by decide, fun _ => rfl⟩
  · constructor
    · intro z
      rw [z]
      decide
    · intro z
      exact absurd z (nI_pos (by omega))
def kR (x y : jA3) : Prop := ∀ i, i < 4 → x 74 i = y 123 i ∧ kn (x 74 i)
theorem kR_set {x y : jA3} {b e : Nat} (h : kR x y) (he : e ≤ 365) : kR (va_up x 74 (upd (x 74) b (nI e))) (va_up y 123 (upd (y 123) b (nI e))) := fun i hi => by
  show upd (x 74) b (nI e) i = upd (y 123) b (nI e) i ∧ kn (upd (x 74) b (nI e) i)
  by_cases q : i = b
  · subst q
    rw [upd_at, upd_at]
    exact ⟨rfl, Or.inr ⟨e, he, rfl⟩⟩
  · rw [upd_ne q, upd_ne q]
    exact h i hi
theorem s_spread (h : rMeet B C) {f d : Nat} (hf : f < 4) (hd : d ≤ 365) (wo : Int32) : Sim kR (fX3_spread B (nI f) (nI d) wo) (fX11_spread C (nI f) (nI d) wo) := by
  obtain ⟨g1, n, g2, g3, g4⟩ := h
  unfold fX3_spread fX11_spread
  obtain ⟨A1, e1, f1, h1⟩ := r_fill (A := B) (c := 74) (n := 4) (v := -1) (by omega)
  have hi : Run (fun A2 => Fr [(123, 123, none)] C A2 ∧ ∀ j, j < 4 → A2 123 j = if j = f then nI d else -1) (jwh (cX11_spread_3 (nI f) (nI d) wo) ((0 : Int32), C)) := by
    refine Run.up 4 (fun k s => s.1 = nI k ∧ Fr [(123, 123, none)] C s.2 ∧ ∀ j, j < k → s.2 123 j = if j = f then nI d else -1) ?_ ?_ (Nat.zero_le _) ⟨rfl, Fr.rf, fun j hj => absurd hj (Nat.not_lt_zero _)⟩
    · rintro k ⟨s1, s2⟩ hk ⟨e, fr, hI⟩
      have e : s1 = nI k := e
      subst e
      unfold cX11_spread_3
      have v : vp_in (nI k) 4 := vp_in_nI hk (by omega)
      refine Run.im (nI_ge (b := 4) hk (by omega)) <| Run.i (fun q => Run.g v <| Run.rt ⟨nI_1 k, Fr.up fr (FrC.up FrC.bs rfl), fun j hj => ?_⟩) (fun q => Run.g v <| Run.rt ⟨nI_1 k, Fr.up fr (FrC.up FrC.bs rfl), fun j hj => ?_⟩)
      · show upd (s2 123) (jx (nI k)) (nI d) j = _
        have : k = f := (nI_eq (by omega) (by omega)).mp q
        rw [jx_n (by omega)]
        by_cases e : j = k
        · subst e; rw [upd_at, if_pos this]
        · rw [upd_ne e]; exact hI j (by omega)
      · show upd (s2 123) (jx (nI k)) (-1) j = _
        have : k ≠ f := fun e => q (by rw [e])
        rw [jx_n (by omega)]
        by_cases e : j = k
        · subst e; rw [upd_at, if_neg this]
        · rw [upd_ne e]; exact hI j (by omega)
    · rintro ⟨s1, s2⟩ ⟨e, fr, hI⟩
      have e : s1 = nI 4 := e
      subst e
      unfold cX11_spread_3
      exact Run.ip (nI_le (a := 4) (Nat.le_refl _) (by omega)) <| Run.rt ⟨fr, hI⟩
  obtain ⟨A2, e2, f2, h2⟩ := hi
  have v : vp_in (nI f) 4 := vp_in_nI hf (by omega)
  rw [e1]
  refine Sim.bl rfl <| Sim.gl v <| Sim.br e2 ?_
  rw [jx_n (by omega)]
  refine Sim.bl rfl ?_
  have k0 : kR (va_up A1 74 (upd (A1 74) f (nI d))) A2 := fun i hi => by
    rw [h2 i hi]
    show upd (A1 74) f (nI d) i = _ ∧ kn (upd (A1 74) f (nI d) i)
    by_cases e : i = f
    · subst e
      rw [upd_at, if_pos rfl]
      exact ⟨rfl, Or.inr ⟨d, hd, rfl⟩⟩
    · rw [upd_ne e, if_neg e, h1 i hi]
      exact ⟨rfl, Or.inl rfl⟩
  have fB : Fr [(74, 74, none)] B (va_up A1 74 (upd (A1 74) f (nI d))) := Fr.up f1 (FrC.up FrC.bs rfl)
  refine Sim.bd (R := kR) ?_ (fun x y z => Sim.rt z)
  refine Sim.up n (fun k s t => s.1 = nI k ∧ t.1 = nI k ∧ Fr [(74, 74, none)] B s.2 ∧ Fr [(123, 123, none)] C t.2 ∧ kR s.2 t.2) ?_ ?_ (Nat.zero_le _) ⟨rfl, rfl, fB, f2, k0⟩
  · rintro k ⟨s1, S⟩ ⟨t1, T⟩ hk ⟨e, e', hS, hT, hR⟩
    have e : s1 = nI k := e
    have e' : t1 = nI k := e'
    subst e e'
    have hS : Fr [(74, 74, none)] B S := hS
    have hT : Fr [(123, 123, none)] C T := hT
    have hR : kR S T := hR
    obtain ⟨p1, p2, p3, dd, a, b, p4, p5, p6, p7, p8, p9⟩ := g4 k hk
    have a1 : S 70 3 = nI n := by rw [hS 70 3 rfl]; exact g3
    have a2 : S 71 k = nI dd := by rw [hS 71 k rfl]; exact p7
    have a3 : S 72 k = nI a := by rw [hS 72 k rfl]; exact p8
    have a4 : S 73 k = nI b := by rw [hS 73 k rfl]; exact p9
    have b1 : T 94 42 = nI n := by rw [hT 94 42 rfl, g1]; exact g3
    have b2 : T 120 k = nI dd := by rw [hT 120 k rfl, p1]; exact p7
    have b3 : T 121 k = nI a := by rw [hT 121 k rfl, p2]; exact p8
    have b4 : T 122 k = nI b := by rw [hT 122 k rfl, p3]; exact p9
    have c1 : ¬ nI n ≤ nI k := nI_ge hk (by omega)
    have vk : vp_in (nI k) 24 := vp_in_nI (by omega) (by omega)
    have va : vp_in (nI a) 4 := vp_in_nI (by omega) (by omega)
    have vb : vp_in (nI b) 4 := vp_in_nI (by omega) (by omega)
    have Ra := hR a p5
    have Rb := hR b p6
    have stay : Sim (SR (fun s t => s.1 = nI (k + 1) ∧ t.1 = nI (k + 1) ∧ Fr [(74, 74, none)] B s.2 ∧ Fr [(123, 123, none)] C t.2 ∧ kR s.2 t.2) kR) (some (Sum.inl (nI k + 1, S)) : Option ((Int32 × jA3) ⊕ jA3)) (some (Sum.inl (nI k + 1, T)) : Option ((Int32 × jA3) ⊕ jA3)) := Sim.rt ⟨nI_1 k, nI_1 k, hS, hT, hR⟩
    have put : ∀ x, Sim (SR (fun s t => s.1 = nI (k + 1) ∧ t.1 = nI (k + 1) ∧ Fr [(74, 74, none)] B s.2 ∧ Fr [(123, 123, none)] C t.2 ∧ kR s.2 t.2) kR) (some (Sum.inl (nI k + 1, va_up S 74 (upd (S 74) x (nI dd)))) : Option ((Int32 × jA3) ⊕ jA3)) (some (Sum.inl (nI k + 1, va_up T 123 (upd (T 123) x (nI dd)))) : Option ((Int32 × jA3) ⊕ jA3)) := fun x => Sim.rt ⟨nI_1 k, nI_1 k, Fr.up hS (FrC.up FrC.bs rfl), Fr.up hT (FrC.up FrC.bs rfl), kR_set hR p4⟩
    have z1 : ¬ (1 : Int32) = 0 := by decide
    unfold cX3_spread_18 cX11_spread_36 jX11_spread_85_36 jX11_spread_107_36 jX11_spread_138_36 jX3_spread_101_18
    simp only [a1, b1, jx_n (show k < 2 ^ 31 by omega), a2, b2, a3, b3, a4, b4, jx_n (show a < 2 ^ 31 by omega), jx_n (show b < 2 ^ 31 by omega)]
    refine Sim.iml c1 <| Sim.imr c1 <| Sim.ii Iff.rfl (fun _ => stay) (fun _ => Sim.gl vk <| Sim.gr vk <| Sim.ix (by rw [i32_lt_nle]) (fun _ => stay) (fun _ => ?_))
    refine Sim.gl vk <| Sim.gl vk <| Sim.gl va <| Sim.gr vk <| Sim.gr va ?_
    by_cases ka : S 74 a = -1
    · have ka2 : T 123 a < 0 := by rw [← Ra.1]; exact (kn_lt Ra.2).mp ka
      refine Sim.ipl ka <| Sim.ipr ka2 <| Sim.gl vb <| Sim.gr vk <| Sim.gr vb ?_
      by_cases kb : S 74 b = -1
      · have kb2 : T 123 b < 0 := by rw [← Rb.1]; exact (kn_lt Rb.2).mp kb
        exact Sim.ipl kb <| Sim.gl vb <| Sim.ipl kb <| Sim.gl va <| Sim.ipl ka <| Sim.ipr kb2 <| Sim.ipr trivial <| Sim.ipr trivial stay
      · have kb2 : ¬ T 123 b < 0 := by rw [← Rb.1]; exact fun z => kb ((kn_lt Rb.2).mpr z)
        exact Sim.iml kb <| Sim.gl vk <| Sim.gl va <| Sim.bl rfl <| Sim.imr kb2 <| Sim.ipr trivial <| Sim.imr z1 <| Sim.ipr trivial <| Sim.gr vk <| Sim.gr vk <| Sim.gr va <| Sim.br rfl (put a)
    · have ka2 : ¬ T 123 a < 0 := by rw [← Ra.1]; exact fun z => ka ((kn_lt Ra.2).mpr z)
      refine Sim.iml ka <| Sim.imr ka2 <| Sim.gl vb <| Sim.gr vk <| Sim.gr vb ?_
      by_cases kb : S 74 b = -1
      · have kb2 : T 123 b < 0 := by rw [← Rb.1]; exact (kn_lt Rb.2).mp kb
        refine Sim.ipl kb <| Sim.gl va <| Sim.iml ka <| Sim.gl vk <| Sim.gl vb <| Sim.bl rfl <| Sim.ipr kb2 <| Sim.imr z1 <| Sim.ipr trivial <| Sim.gr vk <| Sim.gr vk <| Sim.gr vb <| Sim.br rfl <| Sim.ipr trivial (put b)
      · have kb2 : ¬ T 123 b < 0 := by rw [← Rb.1]; exact fun z => kb ((kn_lt Rb.2).mpr z)
        exact Sim.iml kb <| Sim.imr kb2 <| Sim.imr z1 <| Sim.imr z1 <| Sim.imr z1 <| Sim.imr z1 stay
  · rintro ⟨s1, S⟩ ⟨t1, T⟩ ⟨e, e', hS, hT, hR⟩
    have e : s1 = nI n := e
    have e' : t1 = nI n := e'
    subst e e'
    have a1 : S 70 3 = nI n := by rw [show S 70 3 = B 70 3 from hS 70 3 rfl]; exact g3
    have b1 : T 94 42 = nI n := by rw [show T 94 42 = C 94 42 from hT 94 42 rfl, g1]; exact g3
    have c1 : nI n ≤ nI n := nI_le (Nat.le_refl _) (by omega)
    unfold cX3_spread_18 cX11_spread_36
    simp only [a1, b1]
    exact Sim.ipl c1 <| Sim.ipr c1 <| Sim.rt hR
theorem m_news (h : Rel B C) (l1 l2 l3 : Int32) : Sim (fun x y => x.1 = y.1) (fX10_news B l1 l2 l3) (fX11_news C l1 l2 l3) := by
  unfold fX10_news fX11_news fX3_knowsFrom
  refine Sim.ii Iff.rfl (fun _ => Sim.rt rfl) (fun q1 => Sim.ii Iff.rfl (fun _ => Sim.rt rfl) (fun q3 => Sim.ii Iff.rfl (fun _ => Sim.rt rfl) (fun q2 => ?_)))
  obtain ⟨f, hf, rfl⟩ := wn_n (n := 3) rfl q1
  obtain ⟨d, hd, rfl⟩ := wn_n (n := 365) rfl q2
  obtain ⟨s, hs, rfl⟩ := wn_n (n := 3) rfl q3
  obtain ⟨x, y, e1, e2, hR⟩ := s_spread h.2.2.2.2.2.2.2.1 (show f < 4 by omega) hd (-1)
  have v : vp_in (nI s) 4 := vp_in_nI (by omega) (by omega)
  rw [e1, jx_n (by omega)]
  exact Sim.bg v <| Sim.br e2 <| Sim.gr v <| Sim.rt (hR s (by omega)).1
theorem m_peace (h : Rel B C) (l1 l2 l3 : Int32) : Sim (fun x y => x.1 = y.1) (fX10_peace B l1 l2 l3) (fX11_peace C l1 l2 l3) := by
  unfold fX10_peace fX11_peace fX3_howManyKnow
  refine Sim.ii Iff.rfl (fun _ => Sim.rt rfl) (fun q1 => Sim.ii Iff.rfl (fun _ => Sim.rt rfl) (fun q3 => Sim.ii Iff.rfl (fun _ => Sim.rt rfl) (fun q2 => ?_)))
  obtain ⟨f, hf, rfl⟩ := wn_n (n := 3) rfl q1
  obtain ⟨d, hd, rfl⟩ := wn_n (n := 365) rfl q3
  obtain ⟨x, y, e1, e2, hR⟩ := s_spread h.2.2.2.2.2.2.2.1 (show f < 4 by omega) hd (-1)
  have hs : Sim (fun a b => a = b) (jwh (cX3_howManyKnow_13 x l3) ((0 : Int32), (0 : Int32))) (jwh (cX11_peace_40 y l3) ((0 : Int32), (0 : Int32))) := by
    refine Sim.up 4 (fun k s t => s = t ∧ s.2 = nI k) ?_ ?_ (Nat.zero_le _) ⟨rfl, rfl⟩
    · rintro k ⟨s1, s2⟩ t hk ⟨rfl, e⟩
      have e : s2 = nI k := e
      subst e
      have R := hR k hk
      have v : vp_in (nI k) 4 := vp_in_nI hk (by omega)
      unfold cX3_howManyKnow_13 cX11_peace_40 jX11_peace_73_40
      simp only [jx_n (show k < 2 ^ 31 by omega), Int32.add_zero, ← R.1]
      refine Sim.iml (nI_ge (b := 4) hk (by omega)) <| Sim.imr (nI_ge (b := 4) hk (by omega)) <| Sim.gl v <| Sim.gr v <| Sim.ii (kn_lt R.2) (fun _ => Sim.rt ⟨rfl, nI_1 k⟩) (fun _ => Sim.gl v <| Sim.gr v <| Sim.ii Iff.rfl (fun _ => Sim.rt ⟨rfl, nI_1 k⟩) (fun _ => Sim.rt ⟨rfl, nI_1 k⟩))
    · rintro ⟨s1, s2⟩ t ⟨rfl, e⟩
      have e : s2 = nI 4 := e
      subst e
      unfold cX3_howManyKnow_13 cX11_peace_40
      exact Sim.ipl (nI_le (a := 4) (Nat.le_refl _) (by omega)) <| Sim.ipr (nI_le (a := 4) (Nat.le_refl _) (by omega)) <| Sim.rt rfl
  obtain ⟨a, b, e3, e4, rfl⟩ := hs
  rw [e1]
  refine Sim.br e2 ?_
  show Sim _ (Option.bind (Option.bind (jwh (cX3_howManyKnow_13 x l3) ((0 : Int32), (0 : Int32))) _) _) _
  rw [e3, e4]
  exact Sim.rt rfl
theorem m_key (h : Rel B C) (l1 l2 l3 : Int32) : Sim (fun x y => x.1 = y.1) (fX10_key B l1 l2 l3) (fX11_key C l1 l2 l3) := by
  unfold fX10_key fX11_key fX3_firstNeeded fX3_knowsFrom
  refine Sim.ii Iff.rfl (fun _ => Sim.rt rfl) (fun q1 => Sim.ii Iff.rfl (fun _ => Sim.rt rfl) (fun q3 => Sim.ii Iff.rfl (fun _ => Sim.rt rfl) (fun q2 => ?_)))
  obtain ⟨f, hf, rfl⟩ := wn_n (n := 3) rfl q1
  obtain ⟨d, hd, rfl⟩ := wn_n (n := 365) rfl q2
  obtain ⟨s, hs, rfl⟩ := wn_n (n := 3) rfl q3
  have hM := h.2.2.2.2.2.2.2.1
  obtain ⟨x, y, e1, e2, hR⟩ := s_spread hM (show f < 4 by omega) hd (-1)
  have v : vp_in (nI s) 4 := vp_in_nI (by omega) (by omega)
  have hRs := hR s (by omega)
  rw [e1]
  refine Sim.br e2 <| Sim.gr v ?_
  show Sim _ (Option.bind (Option.bind (jgd (vp_in (nI s) 4) (some (x 74 (jx (nI s)), x))) _) _) _
  rw [jgd_t v, jx_n (by omega), ← hRs.1]
  show Sim _ (Option.bind (if x 74 s = -1 then some (-1, x) else _) _) _
  have fx : Fr [(74, 74, none)] B x := (w_fX3_spread e1).wd rfl
  have fy : Fr [(123, 123, none)] C y := (w_fX11_spread e2).wd rfl
  by_cases q : x 74 s = -1
  · rw [if_pos q]
    refine Sim.bl rfl <| Sim.imr ?_ (Sim.rt rfl)
    rw [q]
    decide
  · rw [if_neg q]
    refine Sim.ipr ?_ ?_
    · refine Decidable.byContradiction fun z => q ((kn_lt hRs.2).mpr (i32_nle z))
    · obtain ⟨g1, n, g2, g3, g4⟩ := id hM
      have hs : Sim (fun a b => (a.elim (fun _ => (-1 : Int32)) (fun z => z.1)) = (b.elim (fun _ => (-1 : Int32)) (fun z => z.1))) (jwh (cX3_firstNeeded_21 (nI f) (nI d) (nI s) (x 74 s)) ((0 : Int32), x)) (jwh (cX11_key_52 (nI f) (nI d) (nI s) (x 74 s)) ((0 : Int32), y)) := by
        refine Sim.up n (fun k s t => s.1 = nI k ∧ t.1 = nI k ∧ Fr [(74, 74, none)] B s.2 ∧ Fr [(123, 123, none)] C t.2) ?_ ?_ (Nat.zero_le _) ⟨rfl, rfl, fx, fy⟩
        · rintro k ⟨s1, S⟩ ⟨t1, T⟩ hk ⟨e, e', hS, hT⟩
          have e : s1 = nI k := e
          have e' : t1 = nI k := e'
          subst e e'
          have hS : Fr [(74, 74, none)] B S := hS
          have hT : Fr [(123, 123, none)] C T := hT
          have a1 : S 70 3 = nI n := by rw [hS 70 3 rfl]; exact g3
          have b1 : T 94 42 = nI n := by rw [hT 94 42 rfl, g1]; exact g3
          have c1 : ¬ nI n ≤ nI k := nI_ge hk (by omega)
          obtain ⟨x2, y2, e3, e4, hR2⟩ := s_spread (hM.fr hS hT rfl rfl) (show f < 4 by omega) hd (nI k)
          have R2 := hR2 s (by omega)
          unfold cX3_firstNeeded_21 cX11_key_52 fX3_knowsFrom
          simp only [a1, b1, e3, e4, jx_n (show s < 2 ^ 31 by omega), ← R2.1]
          refine Sim.iml c1 <| Sim.imr c1 <| Sim.bg v <| Sim.br rfl <| Sim.gr v ?_
          have fx2 : Fr [(74, 74, none)] B x2 := hS.tr ((w_fX3_spread e3).wd rfl)
          have fy2 : Fr [(123, 123, none)] C y2 := hT.tr ((w_fX11_spread e4).wd rfl)
          exact Sim.bl rfl <| Sim.ii (by rw [← R2.1]; exact kn_lt R2.2) (fun _ => Sim.rt rfl) (fun _ => Sim.gr v <| Sim.ii (by rw [← R2.1]) (fun _ => Sim.rt ⟨nI_1 k, nI_1 k, fx2, fy2⟩) (fun _ => Sim.rt rfl))
        · rintro ⟨s1, S⟩ ⟨t1, T⟩ ⟨e, e', hS, hT⟩
          have e : s1 = nI n := e
          have e' : t1 = nI n := e'
          subst e e'
          have a1 : S 70 3 = nI n := by rw [show S 70 3 = B 70 3 from hS 70 3 rfl]; exact g3
          have b1 : T 94 42 = nI n := by rw [show T 94 42 = C 94 42 from hT 94 42 rfl, g1]; exact g3
          have c1 : nI n ≤ nI n := nI_le (Nat.le_refl _) (by omega)
          unfold cX3_firstNeeded_21 cX11_key_52
          simp only [a1, b1]
          exact Sim.ipl c1 <| Sim.ipr c1 <| Sim.rt rfl
      obtain ⟨a, b, e5, e6, hab⟩ := hs
      rw [e5, e6]
      cases a <;> cases b <;> exact Sim.rt hab
