/-! asks, and what the law says in a minute -/
variable {B C : jA3}
def rNear (B C : jA3) : Prop := C 95 0 = B 16 14 ∧ ∀ i, 1 ≤ i → i < 6 → C 95 i = B 18 i
noncomputable def M6s0 (B : jA3) (l2 l3 : Int32) : jA3 := va_up B 28 (upd (B 28) 0 (fX4_far B (B 16 14) l2))
noncomputable def M6s1 (B : jA3) (l2 l3 : Int32) : jA3 := va_up (M6s0 B l2 l3) 28 (upd ((M6s0 B l2 l3) 28) 1 (fX4_wind (M6s0 B l2 l3)))
noncomputable def M6s2 (B : jA3) (l2 l3 : Int32) : jA3 := va_up (M6s1 B l2 l3) 28 (upd ((M6s1 B l2 l3) 28) 2 (fX4_noise (M6s1 B l2 l3)))
noncomputable def M6s3 (B : jA3) (l2 l3 : Int32) : jA3 := va_up (M6s2 B l2 l3) 28 (upd ((M6s2 B l2 l3) 28) 3 l3)
noncomputable def M6s4 (B : jA3) (l2 l3 : Int32) : jA3 := va_up (M6s3 B l2 l3) 28 (upd ((M6s3 B l2 l3) 28) 4 (fX4_sailIn (M6s3 B l2 l3) l2))
noncomputable def M6 (B : jA3) (l2 l3 : Int32) : jA3 := va_up (M6s4 B l2 l3) 28 (upd ((M6s4 B l2 l3) 28) 5 l2)
noncomputable def M7s0 (C : jA3) (l2 l3 : Int32) : jA3 := va_up C 102 (upd (C 102) 0 (fX11_farIn C l2))
noncomputable def M7s1 (C : jA3) (l2 l3 : Int32) : jA3 := va_up (M7s0 C l2 l3) 102 (upd ((M7s0 C l2 l3) 102) 1 ((M7s0 C l2 l3) 95 2))
noncomputable def M7s2 (C : jA3) (l2 l3 : Int32) : jA3 := va_up (M7s1 C l2 l3) 102 (upd ((M7s1 C l2 l3) 102) 2 ((M7s1 C l2 l3) 95 3))
noncomputable def M7s3 (C : jA3) (l2 l3 : Int32) : jA3 := va_up (M7s2 C l2 l3) 102 (upd ((M7s2 C l2 l3) 102) 3 l3)
noncomputable def M7s4 (C : jA3) (l2 l3 : Int32) : jA3 := va_up (M7s3 C l2 l3) 102 (upd ((M7s3 C l2 l3) 102) 4 ((jshr ((M7s3 C l2 l3) 95 4) l2) &&& (1 : Int32)))
noncomputable def M7 (C : jA3) (l2 l3 : Int32) : jA3 := va_up (M7s4 C l2 l3) 102 (upd ((M7s4 C l2 l3) 102) 5 l2)
theorem law_red (l1 l2 l3 : Int32) : fX6_lawSays B l1 l2 l3 = Option.bind (fX2_says (M6 B l2 l3) (M6 B l2 l3 17 2) l1) fun r13 => some (r13.1, r13.2) := rfl
theorem says_red (l1 l2 l3 : Int32) : fX11_says C l1 l2 l3 = (if l1 = (2 : Int32) then Option.bind (fX11_gives (M7 C l2 l3) l1) fun r16 => some ((fX11_held r16.1 (1 : Int32) (6 : Int32)), r16.2) else Option.bind (fX11_gives (M7 C l2 l3) l1) fun r14 => some ((fX11_held r14.1 (0 : Int32) (100 : Int32)), r14.2)) := rfl
theorem M6_fr (l2 l3 : Int32) : Fr [(28, 28, none)] B (M6 B l2 l3) :=
  Fr.up (Fr.up (Fr.up (Fr.up (Fr.up (Fr.up Fr.rf (FrC.up FrC.bs rfl)) (FrC.up FrC.bs rfl)) (FrC.up FrC.bs rfl)) (FrC.up FrC.bs rfl)) (FrC.up FrC.bs rfl)) (FrC.up FrC.bs rfl)
theorem M7_fr (l2 l3 : Int32) : Fr [(102, 102, none)] C (M7 C l2 l3) :=
  Fr.up (Fr.up (Fr.up (Fr.up (Fr.up (Fr.up Fr.rf (FrC.up FrC.bs rfl)) (FrC.up FrC.bs rfl)) (FrC.up FrC.bs rfl)) (FrC.up FrC.bs rfl)) (FrC.up FrC.bs rfl)) (FrC.up FrC.bs rfl)
theorem far_near (h : rNear B C) (m : Int32) : fX4_far B (B 16 14) m = fX11_farIn C m := by
  unfold fX4_far fX11_farIn fX4_minutes
  rw [jab_eq, h.1, h.2 1 (by omega) (by omega), h.2 5 (by omega) (by omega)]
theorem vu_at (m : jA3) (c i : Nat) (v : Int32) : va_up m c (upd (m c) i v) c i = v := by rw [ju_same, upd_at]
theorem vu_ne (m : jA3) (c i : Nat) (v : Int32) {j : Nat} (h : j ≠ i) : va_up m c (upd (m c) i v) c j = m c j := by rw [ju_same, upd_ne h]
theorem M6_4 (l2 l3 : Int32) : M6s3 B l2 l3 18 4 = B 18 4 := (show Fr [(28, 28, none)] B (M6s3 B l2 l3) from Fr.up (Fr.up (Fr.up (Fr.up Fr.rf (FrC.up FrC.bs rfl)) (FrC.up FrC.bs rfl)) (FrC.up FrC.bs rfl)) (FrC.up FrC.bs rfl)) 18 4 rfl
theorem M7_4 (l2 l3 : Int32) : M7s3 C l2 l3 95 4 = C 95 4 := (show Fr [(102, 102, none)] C (M7s3 C l2 l3) from Fr.up (Fr.up (Fr.up (Fr.up Fr.rf (FrC.up FrC.bs rfl)) (FrC.up FrC.bs rfl)) (FrC.up FrC.bs rfl)) (FrC.up FrC.bs rfl)) 95 4 rfl
theorem M6_1 (l2 l3 : Int32) : M6s0 B l2 l3 18 2 = B 18 2 := (show Fr [(28, 28, none)] B (M6s0 B l2 l3) from Fr.up Fr.rf (FrC.up FrC.bs rfl)) 18 2 rfl
theorem M7_1 (l2 l3 : Int32) : M7s0 C l2 l3 95 2 = C 95 2 := (show Fr [(102, 102, none)] C (M7s0 C l2 l3) from Fr.up Fr.rf (FrC.up FrC.bs rfl)) 95 2 rfl
theorem M6_2 (l2 l3 : Int32) : M6s1 B l2 l3 18 3 = B 18 3 := (show Fr [(28, 28, none)] B (M6s1 B l2 l3) from Fr.up (Fr.up Fr.rf (FrC.up FrC.bs rfl)) (FrC.up FrC.bs rfl)) 18 3 rfl
theorem M7_2 (l2 l3 : Int32) : M7s1 C l2 l3 95 3 = C 95 3 := (show Fr [(102, 102, none)] C (M7s1 C l2 l3) from Fr.up (Fr.up Fr.rf (FrC.up FrC.bs rfl)) (FrC.up FrC.bs rfl)) 95 3 rfl
theorem M6_v0 (l2 l3 : Int32) : M6 B l2 l3 28 0 = fX4_far B (B 16 14) l2 := ((vu_ne _ _ _ _ (by decide)).trans ((vu_ne _ _ _ _ (by decide)).trans ((vu_ne _ _ _ _ (by decide)).trans ((vu_ne _ _ _ _ (by decide)).trans ((vu_ne _ _ _ _ (by decide)).trans (vu_at _ _ _ _))))))
theorem M7_v0 (l2 l3 : Int32) : M7 C l2 l3 102 0 = fX11_farIn C l2 := ((vu_ne _ _ _ _ (by decide)).trans ((vu_ne _ _ _ _ (by decide)).trans ((vu_ne _ _ _ _ (by decide)).trans ((vu_ne _ _ _ _ (by decide)).trans ((vu_ne _ _ _ _ (by decide)).trans (vu_at _ _ _ _))))))
theorem M6_v1 (l2 l3 : Int32) : M6 B l2 l3 28 1 = fX4_wind (M6s0 B l2 l3) := ((vu_ne _ _ _ _ (by decide)).trans ((vu_ne _ _ _ _ (by decide)).trans ((vu_ne _ _ _ _ (by decide)).trans ((vu_ne _ _ _ _ (by decide)).trans (vu_at _ _ _ _)))))
theorem M7_v1 (l2 l3 : Int32) : M7 C l2 l3 102 1 = M7s0 C l2 l3 95 2 := ((vu_ne _ _ _ _ (by decide)).trans ((vu_ne _ _ _ _ (by decide)).trans ((vu_ne _ _ _ _ (by decide)).trans ((vu_ne _ _ _ _ (by decide)).trans (vu_at _ _ _ _)))))
theorem M6_v2 (l2 l3 : Int32) : M6 B l2 l3 28 2 = fX4_noise (M6s1 B l2 l3) := ((vu_ne _ _ _ _ (by decide)).trans ((vu_ne _ _ _ _ (by decide)).trans ((vu_ne _ _ _ _ (by decide)).trans (vu_at _ _ _ _))))
theorem M7_v2 (l2 l3 : Int32) : M7 C l2 l3 102 2 = M7s1 C l2 l3 95 3 := ((vu_ne _ _ _ _ (by decide)).trans ((vu_ne _ _ _ _ (by decide)).trans ((vu_ne _ _ _ _ (by decide)).trans (vu_at _ _ _ _))))
theorem M6_v3 (l2 l3 : Int32) : M6 B l2 l3 28 3 = l3 := ((vu_ne _ _ _ _ (by decide)).trans ((vu_ne _ _ _ _ (by decide)).trans (vu_at _ _ _ _)))
theorem M7_v3 (l2 l3 : Int32) : M7 C l2 l3 102 3 = l3 := ((vu_ne _ _ _ _ (by decide)).trans ((vu_ne _ _ _ _ (by decide)).trans (vu_at _ _ _ _)))
theorem M6_v4 (l2 l3 : Int32) : M6 B l2 l3 28 4 = fX4_sailIn (M6s3 B l2 l3) l2 := ((vu_ne _ _ _ _ (by decide)).trans (vu_at _ _ _ _))
theorem M7_v4 (l2 l3 : Int32) : M7 C l2 l3 102 4 = (jshr (M7s3 C l2 l3 95 4) l2) &&& (1 : Int32) := ((vu_ne _ _ _ _ (by decide)).trans (vu_at _ _ _ _))
theorem M6_v5 (l2 l3 : Int32) : M6 B l2 l3 28 5 = l2 := (vu_at _ _ _ _)
theorem M7_v5 (l2 l3 : Int32) : M7 C l2 l3 102 5 = l2 := (vu_at _ _ _ _)
theorem nm_eq (h : rNear B C) (l2 l3 : Int32) : ∀ i, i < 6 → M6 B l2 l3 28 i = M7 C l2 l3 102 i := by
  intro i hi
  match i, hi with
  | 0, _ => rw [M6_v0, M7_v0]; exact far_near h l2
  | 1, _ =>
    rw [M6_v1, M7_v1, M7_1]
    unfold fX4_wind
    rw [M6_1]
    exact (h.2 2 (by omega) (by omega)).symm
  | 2, _ =>
    rw [M6_v2, M7_v2, M7_2]
    unfold fX4_noise
    rw [M6_2]
    exact (h.2 3 (by omega) (by omega)).symm
  | 3, _ => rw [M6_v3, M7_v3]
  | 4, _ =>
    rw [M6_v4, M7_v4, M7_4]
    unfold fX4_sailIn
    rw [M6_4, h.2 4 (by omega) (by omega)]
  | 5, _ => rw [M6_v5, M7_v5]
noncomputable def clampP (p : Nat) (x : Int32) : Int32 := jmax (KC 3 p) (jmin (KC 4 p) x)
theorem held_gen {x lo hi : Int32} (h : lo ≤ hi) : fX11_held x lo hi = jmax lo (jmin hi x) := by
  unfold fX11_held
  show _ = (if lo < (if x < hi then x else hi) then (if x < hi then x else hi) else lo)
  rw [Int32.le_iff_toInt_le] at h
  by_cases h1 : lo ≤ x
  · rw [if_pos h1]
    rw [Int32.le_iff_toInt_le] at h1
    by_cases h2 : x < hi
    · rw [if_pos h2]
      rw [Int32.lt_iff_toInt_lt] at h2
      rw [if_pos (by rw [Int32.le_iff_toInt_le]; omega)]
      by_cases h3 : lo < x
      · rw [if_pos h3]
      · rw [if_neg h3]
        rw [Int32.lt_iff_toInt_lt] at h3
        exact Int32.toInt_inj.mp (by omega)
    · rw [if_neg h2]
      rw [Int32.lt_iff_toInt_lt] at h2
      by_cases h4 : x ≤ hi
      · rw [if_pos h4]
        rw [Int32.le_iff_toInt_le] at h4
        have e : x = hi := Int32.toInt_inj.mp (by omega)
        rw [e]
        by_cases h3 : lo < hi
        · rw [if_pos h3]
        · rw [if_neg h3]
          rw [Int32.lt_iff_toInt_lt] at h3
          exact Int32.toInt_inj.mp (by omega)
      · rw [if_neg h4]
        by_cases h3 : lo < hi
        · rw [if_pos h3]
        · rw [if_neg h3]
          rw [Int32.lt_iff_toInt_lt] at h3
          exact Int32.toInt_inj.mp (by omega)
  · rw [if_neg h1]
    rw [Int32.le_iff_toInt_le] at h1
    rw [if_pos (show x < hi by rw [Int32.lt_iff_toInt_lt]; omega), if_neg (by rw [Int32.lt_iff_toInt_lt]; omega)]
theorem clamp_in {lo hi x : Int32} {a b : Nat} (ha : lo = nI a) (hb : hi = nI b) (hab : a ≤ b) (hb2 : b < 2 ^ 31) : ∃ u, a ≤ u ∧ u ≤ b ∧ jmax lo (jmin hi x) = nI u := by
  rw [← held_gen (by rw [ha, hb]; exact nI_le hab hb2)]
  unfold fX11_held
  by_cases h1 : lo ≤ x
  · rw [if_pos h1]
    by_cases h2 : x ≤ hi
    · rw [if_pos h2]
      rw [ha, Int32.le_iff_toInt_le, nI_toInt (by omega)] at h1
      rw [hb, Int32.le_iff_toInt_le, nI_toInt (by omega)] at h2
      refine ⟨x.toInt.toNat, by omega, by omega, Int32.toInt_inj.mp ?_⟩
      rw [nI_toInt (by omega)]
      omega
    · rw [if_neg h2]
      exact ⟨b, hab, Nat.le_refl _, hb⟩
  · rw [if_neg h1]
    exact ⟨a, Nat.le_refl _, hab, ha⟩
theorem evs_f {nm f g : Nat → Int32} {a : Nat} : ∀ {n : Nat}, (∀ k, a ≤ k → k < a + n → f k = g k) → evs nm f a n = evs nm g a n
  | 0, _ => rfl
  | n + 1, h => by
    show stp nm (f (a + n)) (evs nm f a n) = stp nm (g (a + n)) (evs nm g a n)
    rw [h (a + n) (by omega) (by omega), evs_f (n := n) (fun k h1 h2 => h k h1 (by omega))]
theorem evs_nm {nm nm2 f : Nat → Int32} {a b : Nat} (hn : ∀ i, i < 6 → nm i = nm2 i) (hs : Steps f a b) : ∀ {n : Nat}, a + n ≤ b → evs nm f a n = evs nm2 f a n
  | 0, _ => rfl
  | n + 1, h => by
    show stp nm (f (a + n)) (evs nm f a n) = stp nm2 (f (a + n)) (evs nm2 f a n)
    rw [evs_nm hn hs (n := n) (by omega)]
    unfold stp
    by_cases h1 : 0 ≤ f (a + n)
    · rw [if_pos h1, if_pos h1]
    · rw [if_neg h1, if_neg h1]
      by_cases h2 : (-6 : Int32) ≤ f (a + n)
      · rw [if_pos h2, if_pos h2]
        obtain ⟨d, -, -, hd⟩ := hs
        have hx : isPush (f (a + n)) := by
          rcases hd (a + n) (by omega) (by omega) with ⟨q, -⟩ | ⟨q, -⟩ | ⟨q, -⟩
          · exact q
          · exact absurd h2 (turn_facts _ q).2.2
          · exact absurd h2 (two_facts _ q).2.2.1
        obtain ⟨j, hj, ej⟩ := name_ix hx h1
        rw [ej, jx_n (by omega), hn j hj]
      · rw [if_neg h2, if_neg h2]
theorem ev0 (nm : Nat → Int32) : evs nm (KC 1) 0 17 = [((((95 : Int32) - (nm 0 * (4 : Int32))) + (nm 1 * (2 : Int32))) - (nm 2 * (3 : Int32))) - (nm 4 * (40 : Int32))] := rfl
theorem ev1 (nm : Nat → Int32) : evs nm (KC 1) 17 5 = [(90 : Int32) - (nm 0 * (5 : Int32))] := rfl
theorem ev2 (nm : Nat → Int32) : evs nm (KC 1) 22 1 = [(1 : Int32)] := rfl
theorem s_law (hc : rCst B C) (hN : rNear B C) (hL : rLaw B C) {p : Nat} (hp : p < 3) (l2 th : Int32) : Sim (fun x y => x.1 = y.1 ∧ ∃ h, x.1 = clampP p h) (fX6_lawSays B (nI p) l2 th) (fX11_says C (nI p) l2 th) := by
  have hnm := nm_eq hN l2 th
  have fM := M6_fr (B := B) l2 th
  have fN := M7_fr (C := C) l2 th
  have hcM := hc.fr fM fN rfl rfl
  have hLM := hL.fr fM fN rfl rfl
  rw [law_red, says_red]
  generalize M6 B l2 th = M at *
  generalize M7 C l2 th = N at *
  obtain ⟨g1, g2, t, n, g3, g4, g5, g6, g7, g8, g9⟩ := hLM
  obtain ⟨e, e0, e1, e2, e3, e4, e5, e6, e7⟩ := g9 t g5
  have vt : vp_in (nI t) 6 := vp_in_nI (by omega) (by omega)
  have hmono : e p ≤ e (p + 1) ∧ e (p + 1) ≤ 160 := by
    match p, hp with
    | 0, _ => exact ⟨e1, Nat.le_trans e2 (Nat.le_trans e3 e4)⟩
    | 1, _ => exact ⟨e2, Nat.le_trans e3 e4⟩
    | 2, _ => exact ⟨e3, e4⟩
  obtain ⟨A2, ea, fA, h, hh, hA⟩ := r_ev (A := M) (t := t) (p := p) (by omega) hp hmono.1 hmono.2 (e5 (p + 1) (by omega)) (e6 p hp)
  have hcls : fX2_says M (M 17 2) (nI p) = some (clampP p h, A2) := by
    unfold fX2_says
    rw [g3, jgd_t vt, jgd_t vt, jgd_t (vp_in_nI (by omega) (by omega)), jx_n (by omega), jx_n (by omega), e5 p (by omega), ea]
    show jgd _ _ = _
    rw [jgd_t (vp_in_nI hp (by omega)), jgd_t (vp_in_nI hp (by omega)), hA, fA 3 p rfl, fA 4 p rfl, hcM.1 3 (by omega) (by omega), hcM.1 4 (by omega) (by omega)]
    rfl
  rw [hcls]
  have hg : Run (fun y => y.1 = h) (fX11_gives N (nI p)) := by
    unfold fX11_gives
    rw [g1, g3]
    by_cases ht : t = 0
    · subst ht
      have hB : ∀ k, k < 23 → M 30 k = KC 1 k := g7
      have hE : ∀ k, k < 4 → e k = (KC 2 k).toInt.toNat := fun k hk => by
        have q := e5 k hk
        rw [show 37 + 0 = 37 from rfl, g8 k hk] at q
        rw [q, nI_toInt (by
          match k, hk with
          | 0, _ => omega
          | 1, _ => omega
          | 2, _ => omega
          | 3, _ => omega)]
        rfl
      have n1 := hnm 0 (by omega)
      have n2 := hnm 1 (by omega)
      have n3 := hnm 2 (by omega)
      have n5 := hnm 4 (by omega)
      have q0 : e 0 = 0 := hE 0 (by omega)
      have q1 : e 1 = 17 := hE 1 (by omega)
      have q2 : e 2 = 22 := hE 2 (by omega)
      have q3 : e 3 = 23 := hE 3 (by omega)
      refine Run.ip rfl ?_
      match p, hp, hh with
      | 0, _, hh =>
        have hh : evs (M 28) (M 30) (e 0) (e 1 - e 0) = [h] := hh
        rw [q0, q1, evs_f (g := KC 1) (fun k _ hk => hB k (by omega)), ev0] at hh
        refine Run.ip rfl <| Run.rt ?_
        rw [← n1, ← n2, ← n3, ← n5]
        exact (List.cons.inj hh).1
      | 1, _, hh =>
        have hh : evs (M 28) (M 30) (e 1) (e 2 - e 1) = [h] := hh
        rw [q1, q2, evs_f (g := KC 1) (fun k _ hk => hB k (by omega)), ev1] at hh
        refine Run.im (by decide) <| Run.ip rfl <| Run.rt ?_
        rw [← n1]
        exact (List.cons.inj hh).1
      | 2, _, hh =>
        have hh : evs (M 28) (M 30) (e 2) (e 3 - e 2) = [h] := hh
        rw [q2, q3, evs_f (g := KC 1) (fun k _ hk => hB k (by omega)), ev2] at hh
        refine Run.im (by decide) <| Run.im (by decide) <| Run.rt ?_
        exact (List.cons.inj hh).1
    · refine Run.im (nI_ne0 (by omega) (by omega)) ?_
      obtain ⟨k1, k2⟩ := e7 (by omega)
      obtain ⟨C2, ec, fC, h2, hh2, hC⟩ := r_evC (C := N) (f := M (30 + t)) (t := t) (p := p) (by omega) hp hmono.1 hmono.2 (by rw [g1]; exact g3) (k1 p hp) (fun k hk => k2 k (by
        match p, hp, hk with
        | 0, _, hk => exact Nat.lt_of_lt_of_le hk (Nat.le_trans e2 e3)
        | 1, _, hk => exact Nat.lt_of_lt_of_le hk e3
        | 2, _, hk => exact hk)) (e6 p hp)
      rw [← evs_nm hnm (e6 p hp) (by omega), hh] at hh2
      have e9 : h = h2 := (List.cons.inj hh2).1
      have e170 : ∀ x, (170 : Int32) * nI t + nI x = nI (170 * t + x) := fun x => by rw [lit_n 170, pk_mul, nI_add]
      have fin : ∀ s0, s0 = nI (e p) → Run (fun y => y.1 = h) (jX11_gives_99 N (nI p) (0 : Int32) s0) := fun s0 hs => by
        unfold jX11_gives_99
        rw [hs, g1, g3, e170, ec]
        refine Run.rt ?_
        show C2 101 0 = h
        rw [hC, e9]
      by_cases hp0 : p = 0
      · subst hp0
        exact Run.ip rfl (fin 0 (by rw [e0]; rfl))
      · refine Run.im (nI_ne0 (by omega) (by omega)) ?_
        have e3' : (3 : Int32) * nI t + nI p - 1 = nI (3 * t + (p - 1)) := by rw [lit_n 3, pk_mul, nI_add, lit_n 1, pk_sub (by omega)]; congr 1; omega
        rw [e3', jx_n (by omega)]
        refine Run.g (vp_in_nI (by omega) (by omega)) (fin _ ?_)
        rw [k1 (p - 1) (by omega), show p - 1 + 1 = p by omega]
  obtain ⟨y, ey, hy⟩ := hg
  rw [ey]
  refine Sim.bl rfl <| Sim.ir (fun z => ?_) (fun z => ?_)
  · have : p = 2 := (nI_eq (b := 2) (by omega) (by omega)).mp z
    subst this
    refine Sim.br rfl <| Sim.rt ⟨?_, h, rfl⟩
    show clampP 2 h = fX11_held y.1 1 6
    rw [hy, held_gen (by decide)]
    rfl
  · refine Sim.br rfl <| Sim.rt ⟨?_, h, rfl⟩
    show clampP p h = fX11_held y.1 0 100
    rw [hy, held_gen (by decide)]
    match p, hp with
    | 0, _ => rfl
    | 1, _ => rfl
    | 2, _ => exact absurd rfl z
theorem sail_near (h : rPass B C) {B2 : jA3} (e : fX6_sailBy B (B 18 0) = some B2) : rNear B2 C ∧ Fr [(16, 16, some 14), (53, 53, none)] B B2 := by
  have fr : Fr [(16, 16, some 14), (53, 53, none)] B B2 := (w_fX6_sailBy e).wd rfl
  unfold fX6_sailBy at e
  obtain ⟨r1, q1, e⟩ := of_bind e
  obtain rfl := Option.some.inj e
  have f2 := w_fJ7_fill_53178 q1
  refine ⟨⟨?_, fun i h1 h2 => ?_⟩, fr⟩
  · rw [f2 16 14 rfl]
    show C 95 0 = B 18 0
    exact h.1 0 (by omega)
  · rw [fr 18 i rfl]
    exact h.1 i h2
theorem r_sail (B : jA3) (x : Int32) : Run (fun B2 => Fr [(16, 16, some 14), (53, 53, none)] B B2 ∧ B2 16 14 = x ∧ ∀ j, j < 96 → B2 53 j = 0) (fX6_sailBy B x) := by
  obtain ⟨A, e, f, h⟩ := r_fill (A := va_up B 16 (upd (B 16) 14 x)) (c := 53) (n := 96) (v := 0) (by omega)
  have e2 : fX6_sailBy B x = some A := by
    unfold fX6_sailBy
    rw [e]
    rfl
  refine ⟨A, e2, (w_fX6_sailBy e2).wd rfl, ?_, h⟩
  rw [f 16 14 rfl]
  rfl
theorem m_asks (h : Rel B C) (l1 l2 l3 : Int32) : Sim (fun x y => x.1 = y.1) (fX10_asks B l1 l2 l3) (fX11_asks C l1 l2 l3) := by
  unfold fX10_asks fX11_asks
  rw [min_eq h.2.1]
  refine Sim.ii Iff.rfl (fun _ => Sim.rt rfl) (fun q1 => Sim.ii Iff.rfl (fun _ => Sim.rt rfl) (fun _ => Sim.ii Iff.rfl (fun _ => Sim.rt rfl) (fun _ => ?_)))
  obtain ⟨p, hp, rfl⟩ := wn_n (n := 2) rfl q1
  obtain ⟨B2, e, -⟩ := r_sail B (B 18 0)
  obtain ⟨hN, fr⟩ := sail_near h.2.1 e
  show Sim _ (Option.bind (fX6_sailBy B (B 18 0)) _) _
  rw [e]
  refine Sim.bl rfl <| Sim.bd (s_law (h.1.fr fr (Fr.rf (ws := [])) rfl rfl) hN (h.2.2.1.fr fr (Fr.rf (ws := [])) rfl rfl) (show p < 3 by omega) l2 l3) (fun x y z => Sim.rt z.1)
