/-! text: chains -/
variable {A T : jA3} {v : Nat → Nat} {z N i n d m : Nat}
def Res (A0 : jA3) (v : Nat → Nat) (z N d n0 i0 : Nat) (A T : jA3) : Prop := (∃ i n, i0 ≤ i ∧ n0 ≤ n ∧ n + i0 ≤ n0 + i ∧ OK A T v z N i n d ∧ Steps (A 26) n0 n ∧ ∀ k, k < n0 → A 26 k = A0 26 k) ∨ FL A T v z N (n0 + N - i0)
theorem FL.mono {m2 : Nat} (h : FL A T v z N m) (hm : m ≤ m2) : FL A T v z N m2 := by
  obtain ⟨h1, h2, q, i, m0, a1, a2, a3, a4⟩ := h
  exact ⟨h1, h2, q, i, m0, a1, a2, by omega, a4⟩
theorem FL.ge (h : FL A T v z N m) : (0 : Int32) ≤ A 21 5 := by
  obtain ⟨h1, h2, q, i, m0, a1, a2, a3, a4, a5, a6, a7⟩ := h
  rw [a5]
  exact nI_le (a := 0) (Nat.zero_le _) (by omega)
theorem FL.geC (h : FL A T v z N m) : (0 : Int32) ≤ T 94 11 := by
  obtain ⟨h1, h2, q, i, m0, a1, a2, a3, a4, a5, a6, a7⟩ := h
  rw [a6]
  exact nI_le (a := 0) (Nat.zero_le _) (by omega)
theorem FL.write (h : FL A T v z N m) (x : Int32) : fX5_write A x = some A := by
  unfold fX5_write
  rw [if_pos h.ge]
theorem FL.key (h : FL A T v z N m) (x : Int32) : fX11_isKey T x = 0 := by
  unfold fX11_isKey
  rw [if_pos h.geC]
theorem FL.sign (h : FL A T v z N m) (x : Int32) : fX11_isSign T x = 0 := by
  unfold fX11_isSign
  rw [if_pos h.geC]
theorem FL.faulty (h : FL A T v z N m) : fX11_faulty T = some T := by
  unfold fX11_faulty
  rw [if_pos h.geC]
theorem FL.fail (h : FL A T v z N m) : fX5_fail A = some A := by
  unfold fX5_fail
  rw [if_pos h.ge]
theorem FL.add (h : FL A T v z N m) (hm : m < 170) (y w : Int32) : ∃ T2, fX11_addStep T y w = some T2 ∧ FL A T2 v z N (m + 1) := by
  obtain ⟨h1, h2, q, i, m0, a1, a2, a3, a4, a5, a6, h10⟩ := h
  generalize hT2 : va_up (va_up (va_up T 98 (upd (T 98) (1020 + m0) y)) 99 (upd (T 99) (1020 + m0) w)) 94 (upd (T 94) 10 (nI (m0 + 1))) = T2
  have v1 : vp_in (nI (1020 + m0)) 1190 := vp_in_nI (by omega) (by omega)
  have e2 : fX11_addStep T y w = some T2 := by
    unfold fX11_addStep
    rw [h10, lit_n 1020, nI_add, jgd_t v1, jx_n (by omega), ← hT2]
    show jgd (vp_in (nI 1020 + T 94 10) 1190) (some (va_up (va_up (va_up T 98 (upd (T 98) (1020 + m0) y)) 99 (upd (T 99) (jx (nI 1020 + T 94 10)) w)) 94 (upd (T 94) 10 (T 94 10 + 1)))) = _
    rw [h10, nI_add, jgd_t v1, jx_n (by omega), nI_1]
  have f2 : Fr wPC T T2 := by rw [← hT2]; exact Fr.up (Fr.up (Fr.up Fr.rf (FrC.al (fun _ => rfl))) (FrC.al (fun _ => rfl))) (FrC.up (FrC.ne rfl (FrC.ne rfl FrC.bs)) rfl)
  exact ⟨T2, e2, h1, h2.fr f2, q, i, m0 + 1, a1, a2, by omega, a4, a5, by rw [← hT2]; exact a6, by rw [← hT2]; rfl⟩
theorem FL.next (h : FL A T v z N m) (hN : N ≤ 160) : ∃ A2, fX5_next A = some A2 ∧ FL A2 T v z N m := by
  obtain ⟨h1, h2, q, i, m0, a1, a2, a3, a4, a5, a6, h10⟩ := id h
  unfold fX5_next
  rw [h1.1, a4, nI_pred]
  by_cases w : i < N
  · rw [if_neg (nI_ge w (by omega)), nI_1]
    have f1 : Fr wPA A (va_up A 21 (upd (A 21) 4 (nI (i + 1)))) := Fr.up Fr.rf (FrC.al (fun _ => rfl))
    exact ⟨_, rfl, h1.fr f1, h2, q, i + 1, m0, a1, by omega, a3, rfl, a5, a6, h10⟩
  · rw [if_pos (nI_le (by omega) (by omega))]
    exact ⟨A, rfl, h⟩
theorem FL.token (h : FL A T v z N m) (hN : N ≤ 160) : ∃ c, fX5_token A = some c := by
  obtain ⟨h1, h2, q, i, m0, a1, a2, a3, a4, a5, a6, h10⟩ := id h
  unfold fX5_token
  rw [a4, jgd_t (vp_in_nI (by omega) (by omega))]
  exact ⟨_, rfl⟩
theorem OK.token (h : OK A T v z N i n d) (hN : N ≤ 160) : fX5_token A = some (nI (tcd v z i)) := by
  obtain ⟨h1, h2, h3, h4, h5, h6, h7⟩ := h
  unfold fX5_token
  rw [h6, jgd_t (vp_in_nI (by omega) (by omega)), jx_n (by omega), (h1.2 i h3).1]
/-- a chain of the one beside a chain of the other -/
theorem chain (hTS : TS v z N) {l : Nat} {rc : jA3 → Int32 → Int32 → Option jA3} {sub : jA3 → Option jA3} {c : jA3 → Option (jA3 ⊕ jA3)}
    (hsub : ∀ A T i n, OK A T v z N i n d → Sim (Res A v z N d n i) (rc A (nI l + 1) (nI d)) (sub T))
    (hjoin : ∀ A T i n, OK A T v z N i n d → (fX5_joining A (nI l) = some 0 ∧ c T = some (.inr T)) ∨ ∃ x : Int32, ¬ x = 0 ∧ isTwo x ∧ withOf x = 0 ∧ i < N ∧ fX5_joining A (nI l) = some x ∧ c T = Option.bind (fX11_next T) fun r3 => Option.bind (sub r3) fun r5 => Option.bind (fX11_addStep r5 (actOf x) (0 : Int32)) fun r7 => some (.inl r7))
    (hfl : ∀ A T m, FL A T v z N m → c T = some (.inr T)) (h : OK A T v z N i n d) :
    Sim (Res A v z N d n i) (fX5_readChain rc A (nI l) (nI d)) (Option.bind (sub T) fun r1 => Option.bind (jwh c r1) fun e3 => some e3) := by
  obtain ⟨hz, hN, -, hend, -⟩ := id hTS
  unfold fX5_readChain
  refine Sim.bd (hsub A T i n h) (fun A1 T1 h1 => ?_)
  refine Sim.bd (R := Res A v z N d n i) ?_ (fun x y hxy => Sim.rt hxy)
  have hi0 : i ≤ N ∧ n ≤ i := ⟨h.2.2.1, h.2.2.2.1⟩
  have hl : ∀ (M : Nat) (s : Int32 × jA3) (t : jA3), (∃ k, s.1 = nI k ∧ k ≤ 161 ∧ ((∃ i2 n2, M = N - i2 + 1 ∧ k + i ≤ i2 ∧ n ≤ n2 ∧ n2 + i ≤ n + i2 ∧ OK s.2 t v z N i2 n2 d ∧ Steps (s.2 26) n n2 ∧ ∀ j, j < n → s.2 26 j = A 26 j) ∨ (M = 0 ∧ FL s.2 t v z N (n + N - i)))) → Sim (Res A v z N d n i) (jwh (cX5_readChain_10 rc (nI l) (nI d)) s) (jwh c t) := by
    intro M s t hI
    refine Sim.dn (fun M s t => ∃ k, s.1 = nI k ∧ k ≤ 161 ∧ ((∃ i2 n2, M = N - i2 + 1 ∧ k + i ≤ i2 ∧ n ≤ n2 ∧ n2 + i ≤ n + i2 ∧ OK s.2 t v z N i2 n2 d ∧ Steps (s.2 26) n n2 ∧ ∀ j, j < n → s.2 26 j = A 26 j) ∨ (M = 0 ∧ FL s.2 t v z N (n + N - i)))) ?_ hI
    clear hI M s t
    rintro M ⟨s1, S⟩ t ⟨k, q1, hk, q⟩
    have q1 : s1 = nI k := q1
    subst q1
    unfold cX5_readChain_10
    rcases q with ⟨i2, n2, rfl, g1, g2, g3, g4, g5, g6⟩ | ⟨rfl, g⟩
    · have g4 : OK S t v z N i2 n2 d := g4
      have g5 : Steps (S 26) n n2 := g5
      have g6 : ∀ j, j < n → S 26 j = A 26 j := g6
      have hi2 : i2 ≤ N ∧ n2 ≤ i2 := ⟨g4.2.2.1, g4.2.2.2.1⟩
      have hres : Res A v z N d n i S t := Or.inl ⟨i2, n2, by omega, g2, g3, g4, g5, g6⟩
      have hneg : ¬ (0 : Int32) ≤ S 21 5 := by rw [g4.2.2.2.2.2.2.1]; decide
      rcases hjoin S t i2 n2 g4 with ⟨j1, j2⟩ | ⟨x, x0, x2, xw, xi, j1, j2⟩
      · rw [j2]
        refine Sim.il (fun _ => Sim.rt hres) (fun _ => Sim.iml hneg ?_)
        show Sim _ (Option.bind (fX5_joining S (nI l)) _) _
        rw [j1]
        exact Sim.bl rfl <| Sim.ipl rfl <| Sim.rt hres
      · rw [j2]
        have hk2 : k < 160 := by omega
        refine Sim.iml (show ¬ (160 : Int32) ≤ nI k from nI_ge (b := 160) hk2 (by omega)) <| Sim.iml hneg ?_
        show Sim _ (Option.bind (fX5_joining S (nI l)) fun r3 => if r3 = 0 then _ else Option.bind (fX5_joining S (nI l)) _) _
        rw [j1]
        refine Sim.bl rfl <| Sim.iml x0 <| Sim.bl rfl ?_
        obtain ⟨S2, T2, e1, e2, hO, h26⟩ := o_next g4 xi hN
        show Sim _ (Option.bind (fX5_next S) _) _
        rw [e1, e2]
        refine Sim.bl rfl <| Sim.br rfl <| Sim.bd (hsub S2 T2 (i2 + 1) n2 hO) ?_
        rintro S3 T3 (⟨i3, n3, b1, b2, b3, b4, b5, b6⟩ | b)
        · obtain ⟨S4, T4, e3, e4, hO4, w1, w2⟩ := o_write b4 (by omega) hN x (actOf x) 0 rfl xw.symm
          rw [e3, e4]
          refine Sim.bl rfl <| Sim.br rfl <| Sim.rt ⟨N - i3 + 1, by have := b4.2.2.1; omega, k + 1, nI_1 k, by omega, Or.inl ⟨i3, n3 + 1, rfl, by omega, by omega, by omega, hO4, ?_, fun j hj => ?_⟩⟩
          · refine Steps.two g2 b2 (Steps.cong g5 (fun j h1 h2 => ?_)) (Steps.cong b5 (fun j h1 h2 => ?_)) (by show isTwo (S4 26 n3); rw [w1]; exact x2)
            · show S 26 j = S4 26 j
              rw [w2 j (by omega), b6 j h2, h26]
            · show S3 26 j = S4 26 j
              rw [w2 j (by omega)]
          · show S4 26 j = A 26 j
            rw [w2 j (by omega), b6 j (by omega), h26]
            exact g6 j hj
        · obtain ⟨T4, e4, b2⟩ := b.add (by omega) (actOf x) 0
          rw [b.write, e4]
          exact Sim.bl rfl <| Sim.br rfl <| Sim.rt ⟨0, by omega, k + 1, nI_1 k, by omega, Or.inr ⟨rfl, b2.mono (by omega)⟩⟩
    · have g : FL S t v z N (n + N - i) := g
      rw [hfl S t _ g]
      exact Sim.il (fun _ => Sim.rt (Or.inr g)) (fun _ => Sim.ipl g.ge <| Sim.rt (Or.inr g))
  rcases h1 with ⟨i2, n2, b1, b2, b3, b4, b5, b6⟩ | b
  · exact hl (N - i2 + 1) (0, A1) T1 ⟨0, rfl, by omega, Or.inl ⟨i2, n2, rfl, by omega, b2, b3, b4, b5, b6⟩⟩
  · exact hl 0 (0, A1) T1 ⟨0, rfl, by omega, Or.inr ⟨rfl, b⟩⟩
