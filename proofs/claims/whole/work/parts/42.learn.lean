/-! what a saying is, begun in a minute; told -/
variable {B C : jA3} {n : Nat}
def RN (B C : jA3) : Prop := rCst B C ∧ rNear B C ∧ rLaw B C ∧ rSay B C ∧ ∃ mi, 1 ≤ mi ∧ mi ≤ 12 ∧ B 18 5 = nI mi
theorem RN.fr {wb wc : List (Nat × Nat × Option Nat)} {B2 C2 : jA3} (h : RN B C) (hB : Fr wb B B2) (hC : Fr wc C C2) (b1 : dj bCst wb = true) (b2 : dj bLaw wb = true) (b3 : dj bSay wb = true) (b4 : dj [(16, 16, some 14), (18, 18, none)] wb = true) (c1 : dj cCst wc = true) (c2 : dj cLaw wc = true) (c3 : dj cSay wc = true) (c4 : dj [(95, 95, none)] wc = true) : RN B2 C2 := by
  obtain ⟨h1, h2, h3, h4, mi, m1, m2, m3⟩ := h
  refine ⟨h1.fr hB hC b1 c1, ⟨?_, fun i q1 q2 => ?_⟩, h3.fr hB hC b2 c2, h4.fr hB hC b3 c3, mi, m1, m2, ?_⟩
  · rw [hC.at c4 95 0 rfl, hB.at b4 16 14 rfl]; exact h2.1
  · rw [hC.at c4 95 i rfl, hB.at b4 18 i rfl]; exact h2.2 i q1 q2
  · rw [hB.at b4 18 5 rfl]; exact m3
noncomputable def ctk (B : jA3) (i m : Nat) : Option Int32 := Option.bind (fX6_lawSays B 2 (nI m) (B 45 i)) fun r4 => fX6_takesBy r4.2 r4.1 (nI i)
noncomputable def clk (B : jA3) (i m : Nat) : Option Int32 := Option.bind (fX6_byMouth B (nI i)) fun r11 => Option.bind (fX6_lawSays B (if r11 = 0 then 1 else 0) (nI m) (B 45 i)) fun r2 => fX6_likelyBy r2.2 r2.1 (nI i) (nI m)
def tkv (k mo u : Nat) : Nat := if k = 2 then u + mo / 3 else if k = 3 then 2 * u else if k = 5 then u + 1 else u
def fgv (e : Nat) : Nat → Nat
  | 0 => 100
  | n + 1 => fgv e n * e / 100
def lkv (k mo u : Nat) (b : Prop) [Decidable b] : Nat := if k = 1 then min 100 (u + 3 * mo) else if k = 2 then fgv (min 100 (u + 10)) (mo + 1) else if k = 3 then min 100 (u + 3 * mo) + (100 - min 100 (u + 3 * mo)) * min 100 (u + 3 * mo) / 100 else if k = 5 then (if b then u / 2 else 100) else u
theorem fgv_le {e : Nat} (he : e ≤ 100) : ∀ n, fgv e n ≤ 100
  | 0 => Nat.le_refl _
  | n + 1 => by
    have h := fgv_le he n
    show fgv e n * e / 100 ≤ 100
    have : fgv e n * e ≤ 100 * 100 := Nat.mul_le_mul h he
    omega
theorem tw_le {r : Nat} (h : r ≤ 100) : (100 - r) * r ≤ 10000 ∧ r + (100 - r) * r / 100 ≤ 100 := by
  have h1 : (100 - r) * r ≤ (100 - r) * 100 := Nat.mul_le_mul (Nat.le_refl _) h
  omega
theorem lkv_le {k mo u : Nat} {b : Prop} [Decidable b] (hu : u ≤ 100) : lkv k mo u b ≤ 100 := by
  unfold lkv
  split
  · omega
  · split
    · exact fgv_le (by omega) _
    · split
      · exact (tw_le (by omega)).2
      · split
        · split <;> omega
        · exact hu
theorem tkv_le {k mo u : Nat} (h1 : 1 ≤ u) (h6 : u ≤ 6) (hm : mo < 10) : 1 ≤ tkv k mo u ∧ tkv k mo u ≤ 12 := by
  unfold tkv
  split
  · omega
  · split
    · omega
    · split <;> omega
/-- a saying's kind, thing, more -/
theorem say_un (h : rSay B C) : ∃ n, n ≤ 8 ∧ B 16 5 = nI n ∧ C 94 21 = nI n ∧ ∀ i, i < n → ∃ k t mo, k < 6 ∧ t < 6 ∧ mo < 10 ∧ B 44 i = nI k ∧ B 45 i = nI t ∧ B 46 i = nI mo ∧ C 105 i = nI k ∧ C 106 i = nI t ∧ C 107 i = nI mo := by
  obtain ⟨g1, n, g2, g3, g4⟩ := h
  refine ⟨n, g2, g3, by rw [g1]; exact g3, fun i hi => ?_⟩
  obtain ⟨p1, p2, p3, k, t, mo, q1, q2, q3, q4, q5, q6⟩ := g4 i hi
  exact ⟨k, t, mo, q1, q2, q3, q4, q5, q6, by rw [p1]; exact q4, by rw [p2]; exact q5, by rw [p3]; exact q6⟩
theorem e_takesBy {A : jA3} {i k mo u : Nat} (hi : i < 8) (hk : k < 6) (hm : mo < 10) (hu : u ≤ 6) (h1 : A 44 i = nI k) (h2 : A 46 i = nI mo) : fX6_takesBy A (nI u) (nI i) = some (nI (tkv k mo u)) := by
  have v : vp_in (nI i) 8 := vp_in_nI hi (by omega)
  unfold fX6_takesBy
  rw [jgd_t v, jgd_t v, jx_n (by omega), h1, h2]
  match k, hk with
  | 0, _ => rfl
  | 1, _ => rfl
  | 2, _ =>
    rw [if_pos (show nI 2 = 2 from rfl), lit_n 3, pk_div (by omega) (by omega) (by omega), nI_add]
    rfl
  | 3, _ =>
    rw [if_neg (by decide), if_pos (show nI 3 = 3 from rfl), lit_n 2, pk_mul]
    rfl
  | 4, _ => rfl
  | 5, _ =>
    rw [if_neg (by decide), if_neg (by decide), if_neg (by decide), if_pos (show nI 5 = 5 from rfl), nI_1]
    rfl
theorem e_byMouth {A : jA3} {i k : Nat} (hc : ∀ j, A 7 j = KC 7 j) (hi : i < 8) (hk : k < 6) (h1 : A 44 i = nI k) : fX6_byMouth A (nI i) = some (if k = 4 ∨ k = 5 then 0 else 1) := by
  have v : vp_in (nI i) 8 := vp_in_nI hi (by omega)
  have vk : vp_in (nI k) 6 := vp_in_nI hk (by omega)
  unfold fX6_byMouth fX6_isOf
  rw [if_neg (by decide), jgd_t v, jgd_t v, jx_n (by omega), h1, jgd_t vk, jx_n (by omega), hc k]
  match k, hk with
  | 0, _ => rfl
  | 1, _ => rfl
  | 2, _ => rfl
  | 3, _ => rfl
  | 4, _ => rfl
  | 5, _ => rfl
theorem jmin_n {a b : Nat} (ha : a < 2 ^ 31) (hb : b < 2 ^ 31) : jmin (nI a) (nI b) = nI (min a b) := by
  show (if nI b < nI a then nI b else nI a) = _
  by_cases h : b < a
  · rw [if_pos (nI_lt h ha), Nat.min_eq_right (by omega)]
  · rw [if_neg (nI_nlt (by omega) hb), Nat.min_eq_left (by omega)]
theorem held_n {a : Nat} (ha : a < 2 ^ 31) : fX11_held (nI a) 0 100 = nI (min 100 a) := by
  unfold fX11_held
  rw [if_pos (nI_pos' ha)]
  by_cases h : a ≤ 100
  · rw [if_pos (show nI a ≤ (100 : Int32) from nI_le (b := 100) h (by omega)), Nat.min_eq_right h]
  · rw [if_neg (show ¬ nI a ≤ (100 : Int32) from nI_ge (a := 100) (by omega) ha), Nat.min_eq_left (by omega)]
    rfl
theorem fig_loop {e mo : Nat} (he : e ≤ 100) (hm : mo < 10) : Run (fun r => r = nI (fgv e (mo + 1))) (jwh (cX6_figured_16 (nI mo) (nI e)) ((100 : Int32), (0 : Int32))) := by
  refine Run.up (mo + 1) (fun k s => s = (nI (fgv e k), nI k)) ?_ ?_ (Nat.zero_le _) rfl
  · rintro k s hk rfl
    have h1 := fgv_le he k
    have h2 : fgv e k * e ≤ 100 * 100 := Nat.mul_le_mul h1 he
    unfold cX6_figured_16
    refine Run.im (nI_nlt (by omega) (by omega)) <| Run.rt ?_
    show (nI (fgv e k) * nI e / nI 100, nI k + 1) = _
    rw [pk_mul, pk_div (by omega) (by omega) (by omega), nI_1]
    rfl
  · rintro s rfl
    unfold cX6_figured_16
    exact Run.ip (nI_lt (by omega) (by omega)) <| Run.rt rfl
theorem fig_loopC {u mo : Nat} (hu : u ≤ 100) (hm : mo < 10) : Run (fun r => r = nI (fgv (min 100 (u + 10)) (mo + 1))) (jwh (cX11_figured_5 (nI u) (nI mo)) ((100 : Int32), (0 : Int32))) := by
  refine Run.up (mo + 1) (fun k s => s = (nI (fgv (min 100 (u + 10)) k), nI k)) ?_ ?_ (Nat.zero_le _) rfl
  · rintro k s hk rfl
    have h1 := fgv_le (show min 100 (u + 10) ≤ 100 by omega) k
    have h2 : fgv (min 100 (u + 10)) k * min 100 (u + 10) ≤ 100 * 100 := Nat.mul_le_mul h1 (by omega)
    unfold cX11_figured_5
    refine Run.im (nI_nlt (by omega) (by omega)) <| Run.rt ?_
    have e1 : nI u + (10 : Int32) = nI (u + 10) := by rw [lit_n 10, nI_add]
    show (nI (fgv (min 100 (u + 10)) k) * fX11_held (nI u + 10) 0 100 / nI 100, nI k + 1) = _
    rw [e1, held_n (by omega), pk_mul, pk_div (by omega) (by omega) (by omega), nI_1]
    rfl
  · rintro s rfl
    unfold cX11_figured_5
    exact Run.ip (nI_lt (by omega) (by omega)) <| Run.rt rfl
theorem two_n {r : Nat} (h : r ≤ 100) : nI r + (((100 : Int32) - nI r) * nI r) / (100 : Int32) = nI (r + (100 - r) * r / 100) := by
  have := (tw_le h).1
  rw [lit_n 100, pk_sub h, pk_mul, pk_div (by omega) (by omega) (by omega), nI_add]
theorem e_likelyBy {A : jA3} {i k mo u : Nat} {m : Int32} (hi : i < 8) (hk : k < 6) (hm : mo < 10) (hu : u ≤ 100) (h1 : A 44 i = nI k) (h2 : A 46 i = nI mo) : fX6_likelyBy A (nI u) (nI i) m = some (nI (lkv k mo u ((2 : Int32) * nI mo < fX4_far A (A 16 14) m))) := by
  have v : vp_in (nI i) 8 := vp_in_nI hi (by omega)
  have e1 : nI u + (3 : Int32) * nI mo = nI (u + 3 * mo) := by rw [lit_n 3, pk_mul, nI_add]
  have er : fX6_rowed (nI u) (nI mo) = nI (min 100 (u + 3 * mo)) := by
    unfold fX6_rowed
    rw [e1]
    exact jmin_n (a := 100) (by omega) (by omega)
  unfold fX6_likelyBy
  simp only [jgd_t v, jx_n (show i < 2 ^ 31 by omega), h1, h2, er]
  match k, hk with
  | 0, _ => rfl
  | 1, _ => rfl
  | 2, _ =>
    rw [if_neg (by decide), if_pos (show nI 2 = 2 from rfl)]
    unfold fX6_figured
    have e2 : jmin (100 : Int32) (nI u + (10 : Int32)) = nI (min 100 (u + 10)) := by
      rw [show nI u + (10 : Int32) = nI (u + 10) from by rw [lit_n 10, nI_add]]
      exact jmin_n (a := 100) (by omega) (by omega)
    obtain ⟨r, e3, rfl⟩ := fig_loop (e := min 100 (u + 10)) (by omega) hm
    rw [e2, e3]
    rfl
  | 3, _ =>
    rw [if_neg (by decide), if_neg (by decide), if_pos (show nI 3 = 3 from rfl)]
    unfold fX6_twice
    rw [two_n (by omega)]
    rfl
  | 4, _ => rfl
  | 5, _ =>
    rw [if_neg (by decide), if_neg (by decide), if_neg (by decide), if_neg (by decide), if_pos (show nI 5 = 5 from rfl)]
    show _ = some (nI (if (2 : Int32) * nI mo < fX4_far A (A 16 14) m then u / 2 else 100))
    by_cases q : (2 : Int32) * nI mo < fX4_far A (A 16 14) m
    · rw [if_pos q, if_pos q, lit_n 2, pk_div (by omega) (by omega) (by omega)]
    · rw [if_neg q, if_neg q]
      rfl
theorem s_tk (h : RN B C) (hn : B 16 5 = nI n) (h8 : n ≤ 8) {i : Nat} (hi : i < n) (m : Nat) : Sim (fun x y => x = y.1 ∧ ∃ v, 1 ≤ v ∧ v ≤ 12 ∧ x = nI v) (ctk B i m) (fX11_takesIn C (nI i) (nI m)) := by
  obtain ⟨hc, hN, hL, hS, -⟩ := h
  obtain ⟨n2, a1, a2, a3, a4⟩ := say_un hS
  have en : n = n2 := by
    rw [a2, nI_eq (by omega) (by omega)] at hn
    omega
  subst en
  obtain ⟨k, t, mo, q1, q2, q3, q4, q5, q6, q7, q8, q9⟩ := a4 i hi
  have v : vp_in (nI i) 8 := vp_in_nI (by omega) (by omega)
  unfold ctk fX11_takesIn
  rw [jx_n (by omega), q8, q5]
  obtain ⟨x, y, e1, e2, e3, hh, e4⟩ := s_law hc hN hL (p := 2) (by omega) (nI m) (nI t)
  obtain ⟨u, u1, u2, u3⟩ := clamp_in (x := hh) (show KC 3 2 = nI 1 from rfl) (show KC 4 2 = nI 6 from rfl) (by omega) (by omega)
  have e5 : x.1 = nI u := e4.trans u3
  have fx := w_fX6_lawSays e1
  have fy := w_fX11_says e2
  have b1 : x.2 44 i = nI k := by rw [fx 44 i rfl]; exact q4
  have b2 : x.2 46 i = nI mo := by rw [fx 46 i rfl]; exact q6
  have b3 : y.2 105 i = nI k := by rw [fy 105 i rfl]; exact q7
  have b4 : y.2 107 i = nI mo := by rw [fy 107 i rfl]; exact q9
  rw [show fX6_lawSays B 2 (nI m) (nI t) = some x from e1]
  refine Sim.bl rfl <| Sim.gr v <| Sim.br e2 <| Sim.gr v ?_
  rw [e5, e_takesBy (by omega) q1 q3 u2 b1 b2, b3, b4, ← e3, e5]
  obtain ⟨w1, w2⟩ := tkv_le (k := k) u1 u2 q3
  have done : ∀ y : Int32 × jA3, y.1 = nI (tkv k mo u) → (fun (x : Int32) (y : Int32 × jA3) => x = y.1 ∧ ∃ v, 1 ≤ v ∧ v ≤ 12 ∧ x = nI v) (nI (tkv k mo u)) y := fun y hy => ⟨hy.symm, _, w1, w2, rfl⟩
  match k, q1, done with
  | 0, _, done => exact Sim.rt (done _ rfl)
  | 1, _, done => exact Sim.rt (done _ rfl)
  | 2, _, done =>
    refine Sim.ipr (show nI 2 = 2 from rfl) <| Sim.gr v <| Sim.rt (done _ ?_)
    show nI u + nI mo / (3 : Int32) = _
    rw [lit_n 3, pk_div (by omega) (by omega) (by omega), nI_add]
    rfl
  | 3, _, done =>
    refine Sim.imr (by decide) <| Sim.ipr (show nI 3 = 3 from rfl) <| Sim.rt (done _ ?_)
    show (2 : Int32) * nI u = _
    rw [lit_n 2, pk_mul]
    rfl
  | 4, _, done => exact Sim.rt (done _ rfl)
  | 5, _, done =>
    refine Sim.imr (by decide) <| Sim.imr (by decide) <| Sim.imr (by decide) <| Sim.ipr (show nI 5 = 5 from rfl) <| Sim.rt (done _ ?_)
    show nI u + (1 : Int32) = _
    rw [nI_1]
    rfl
theorem s_lk (h : RN B C) (hn : B 16 5 = nI n) (h8 : n ≤ 8) {i : Nat} (hi : i < n) (m : Nat) : Sim (fun x y => x = y.1 ∧ ∃ v, v ≤ 100 ∧ x = nI v) (clk B i m) (fX11_likely C (nI i) (nI m)) := by
  obtain ⟨hc, hN, hL, hS, -⟩ := id h
  obtain ⟨n2, a1, a2, a3, a4⟩ := say_un hS
  have en : n = n2 := by
    rw [a2, nI_eq (by omega) (by omega)] at hn
    omega
  subst en
  obtain ⟨k, t, mo, q1, q2, q3, q4, q5, q6, q7, q8, q9⟩ := a4 i hi
  have v : vp_in (nI i) 8 := vp_in_nI (by omega) (by omega)
  unfold clk fX11_likely
  rw [e_byMouth (fun j => hc.1 7 (by omega) (by omega) j) (show i < 8 by omega) q1 q4, jx_n (by omega), q8, q5]
  obtain ⟨x0, y0, e1, e2, e3, hh, e4⟩ := s_law hc hN hL (p := 0) (by omega) (nI m) (nI t)
  obtain ⟨u, u1, u2, u3⟩ := clamp_in (x := hh) (show KC 3 0 = nI 0 from rfl) (show KC 4 0 = nI 100 from rfl) (by omega) (by omega)
  have e5 : x0.1 = nI u := e4.trans u3
  have fx := w_fX6_lawSays e1
  have fy := w_fX11_says e2
  have b1 : x0.2 44 i = nI k := by rw [fx 44 i rfl]; exact q4
  have b2 : x0.2 46 i = nI mo := by rw [fx 46 i rfl]; exact q6
  have b3 : y0.2 105 i = nI k := by rw [fy 105 i rfl]; exact q7
  have b4 : y0.2 107 i = nI mo := by rw [fy 107 i rfl]; exact q9
  have b5 : y0.2 106 i = nI t := by rw [fy 106 i rfl]; exact q8
  have y0e : y0.1 = nI u := e3.symm.trans e5
  have e6 : nI u + (3 : Int32) * nI mo = nI (u + 3 * mo) := by rw [lit_n 3, pk_mul, nI_add]
  have eh : fX11_held (nI u + (3 : Int32) * nI mo) 0 100 = nI (min 100 (u + 3 * mo)) := by rw [e6]; exact held_n (by omega)
  -- the second asking, of chalk
  have hRN2 : RN B y0.2 := h.fr (Fr.rf (ws := [])) fy rfl rfl rfl rfl rfl rfl rfl rfl
  obtain ⟨x1, y1, f1, f2, f3, hh1, f4⟩ := s_law hRN2.1 hRN2.2.1 hRN2.2.2.1 (p := 1) (by omega) (nI m) (nI t)
  obtain ⟨u', w1, w2, w3⟩ := clamp_in (x := hh1) (show KC 3 1 = nI 0 from rfl) (show KC 4 1 = nI 100 from rfl) (by omega) (by omega)
  have f5 : x1.1 = nI u' := f4.trans w3
  have y1e : y1.1 = nI u' := f3.symm.trans f5
  have fx1 := w_fX6_lawSays f1
  have c1 : x1.2 44 i = nI k := by rw [fx1 44 i rfl]; exact q4
  have c2 : x1.2 46 i = nI mo := by rw [fx1 46 i rfl]; exact q6
  refine Sim.bl rfl <| Sim.gr v <| Sim.br e2 <| Sim.gr v <| Sim.gr v ?_
  rw [b3, b4, b5, y0e, eh]
  have had : ∀ (Y : Option (Int32 × jA3)), k ≠ 4 → k ≠ 5 → (∀ r : Int32, r = nI (lkv k mo u False) → Run (fun y => y.1 = r) Y) → Sim (fun (x : Int32) (y : Int32 × jA3) => x = y.1 ∧ ∃ v, v ≤ 100 ∧ x = nI v) (Option.bind (fX6_lawSays B (if (if k = 4 ∨ k = 5 then (0 : Int32) else 1) = 0 then 1 else 0) (nI m) (nI t)) fun r2 => fX6_likelyBy r2.2 r2.1 (nI i) (nI m)) Y := by
    intro Y k4 k5 hY
    rw [if_neg (show ¬ (k = 4 ∨ k = 5) by omega), if_neg (by decide), show fX6_lawSays B 0 (nI m) (nI t) = some x0 from e1]
    refine Sim.bl rfl ?_
    rw [e5, e_likelyBy (by omega) q1 q3 u2 b1 b2]
    have el : lkv k mo u ((2 : Int32) * nI mo < fX4_far x0.2 (x0.2 16 14) (nI m)) = lkv k mo u False := by
      unfold lkv
      rw [if_neg k5, if_neg k5]
    rw [el]
    obtain ⟨y, ey, hy⟩ := hY _ rfl
    rw [ey]
    exact Sim.rt ⟨hy.symm, _, lkv_le u2, rfl⟩
  match k, q1, b1, c1, had with
  | 0, _, _, _, had => exact had _ (by decide) (by decide) (fun r hr => Run.rt hr.symm)
  | 1, _, _, _, had => exact had _ (by decide) (by decide) (fun r hr => Run.rt hr.symm)
  | 2, _, _, _, had =>
    refine had _ (by decide) (by decide) (fun r hr => ?_)
    obtain ⟨z, ez, rfl⟩ := fig_loopC (u := u) u2 q3
    refine Run.im (by decide) <| Run.ip (show nI 2 = 2 from rfl) <| Run.g v ?_
    unfold fX11_figured
    rw [ez]
    exact Run.rt hr.symm
  | 3, _, _, _, had =>
    refine had _ (by decide) (by decide) (fun r hr => ?_)
    refine Run.im (by decide) <| Run.im (by decide) <| Run.ip (show nI 3 = 3 from rfl) <| Run.rt ?_
    show nI (min 100 (u + 3 * mo)) + (((100 : Int32) - nI (min 100 (u + 3 * mo))) * nI (min 100 (u + 3 * mo))) / (100 : Int32) = r
    rw [two_n (by omega), hr]
    rfl
  | 4, _, _, c1, _ =>
    rw [if_pos (Or.inl rfl), if_pos rfl, show fX6_lawSays B 1 (nI m) (nI t) = some x1 from f1]
    refine Sim.bl rfl ?_
    rw [f5, e_likelyBy (by omega) (by omega) q3 w2 c1 c2]
    refine Sim.imr (by decide) <| Sim.imr (by decide) <| Sim.imr (by decide) <| Sim.ipr (show nI 4 = 4 from rfl) <| Sim.gr v <| Sim.br f2 <| Sim.rt ⟨?_, _, w2, rfl⟩
    show nI u' = y1.1
    exact y1e.symm
  | 5, _, _, c1, _ =>
    rw [if_pos (Or.inr rfl), if_pos rfl, show fX6_lawSays B 1 (nI m) (nI t) = some x1 from f1]
    refine Sim.bl rfl ?_
    rw [f5, e_likelyBy (by omega) (by omega) q3 w2 c1 c2]
    have hN2 : rNear x1.2 y0.2 := (hRN2.fr fx1 (Fr.rf (ws := [])) rfl rfl rfl rfl rfl rfl rfl rfl).2.1
    have ef : fX4_far x1.2 (x1.2 16 14) (nI m) = fX11_farIn y0.2 (nI m) := far_near hN2 _
    rw [ef]
    refine Sim.imr (by decide) <| Sim.imr (by decide) <| Sim.imr (by decide) <| Sim.imr (by decide) <| Sim.ipr (show nI 5 = 5 from rfl) <| Sim.gr v ?_
    show Sim _ (some (nI (if (2 : Int32) * nI mo < fX11_farIn y0.2 (nI m) then u' / 2 else 100))) _
    refine Sim.ir (fun q => Sim.gr v <| Sim.br f2 <| Sim.rt ⟨?_, u' / 2, by omega, ?_⟩) (fun q => Sim.rt ⟨?_, 100, by omega, ?_⟩)
    · rw [if_pos q]
      show nI (u' / 2) = y1.1 / (2 : Int32)
      rw [y1e, lit_n 2, pk_div (by omega) (by omega) (by omega)]
    · rw [if_pos q]
    · rw [if_neg q]
      rfl
    · rw [if_neg q]
