/-! run, minute, side, leave -/
variable {B C : jA3} {n : Nat} {x : Int32}
def Pre (B C : jA3) (x : Int32) (n : Nat) : Prop := rCst B C ∧ rLaw B C ∧ rSay B C ∧ C 95 0 = x ∧ (∀ i, 1 ≤ i → i < 6 → C 95 i = B 18 i) ∧ (∃ mi, 1 ≤ mi ∧ mi ≤ 12 ∧ B 18 5 = nI mi) ∧ B 16 5 = nI n ∧ n ≤ 8 ∧ C 94 21 = nI n ∧ ∀ t, t < 6 → ∃ w, w < 100 ∧ B 19 t = nI w ∧ C 96 t = nI w
theorem Rel.pre (h : Rel B C) : ∃ n, Pre B C (B 18 0) n := by
  obtain ⟨n, g1, g2, g3, -⟩ := say_un h.2.2.2.2.1
  have hp := h.2.1
  refine ⟨n, h.1, h.2.2.1, h.2.2.2.2.1, hp.1 0 (by omega), fun i h1 h2 => hp.1 i h2, ?_, g2, g1, g3, fun t ht => ?_⟩
  · obtain ⟨q1, q2⟩ := hp.2.2.1 5 (by omega)
    rw [Int32.le_iff_toInt_le] at q1 q2
    have z1 : (KC 5 5).toInt = 1 := by decide
    have z2 : (KC 6 5).toInt = 12 := by decide
    refine ⟨(B 18 5).toInt.toNat, by omega, by omega, ?_⟩
    apply Int32.toInt_inj.mp
    rw [nI_toInt (by omega)]
    omega
  · obtain ⟨w, hw, e⟩ := hp.2.2.2 t ht
    exact ⟨w, hw, e, by rw [hp.2.1 t ht]; exact e⟩
/-- class and reference, a saying's values fixed by B0 -/
def Cx (B0 C : jA3) (n : Nat) : Prop := RN B0 C ∧ B0 16 5 = nI n ∧ n ≤ 8 ∧ C 94 21 = nI n ∧ ∀ t, t < 6 → B0 19 t = nI (wF B0 t) ∧ wF B0 t < 100 ∧ C 96 t = nI (wF B0 t)
abbrev wCB : List (Nat × Nat × Option Nat) := [(16, 16, some 9), (28, 28, none), (43, 43, none), (47, 53, none)]
abbrev wCC : List (Nat × Nat × Option Nat) := [(94, 94, some 25), (94, 94, some 29), (101, 102, none), (108, 112, none)]
noncomputable abbrev wv (B0 : jA3) (o : Nat → Nat) (r : Nat) : Nat := wsum (W0 B0 o r).2.2 (wF B0) 6
theorem Cx.fr {B0 T : jA3} (h : Cx B0 C n) (hT : Fr wCC C T) : Cx B0 T n := by
  obtain ⟨h1, h2, h3, h4, h5⟩ := h
  refine ⟨h1.fr (Fr.rf (ws := [])) hT rfl rfl rfl rfl rfl rfl rfl rfl, h2, h3, by rw [hT 94 21 rfl]; exact h4, fun t ht => ?_⟩
  rw [hT 96 t rfl]
  exact h5 t ht
theorem wv_lt {B0 : jA3} {o : Nat → Nat} {r : Nat} (h : Cx B0 C n) : wv B0 o r ≤ 594000000 := by
  have := wsum_lt (w := wF B0) (wst_ms (tk := tkF B0) (lk := lkF B0) (th := thF B0) (mi := miF B0) (o := o) r) (fun t ht => (h.2.2.2.2 t ht).2.1) 6 (by omega)
  exact this
theorem ctx_sail (h : Pre B C x n) : ∃ B0, fX6_sailBy B x = some B0 ∧ Cx B0 C n ∧ Fr [(16, 16, some 14), (53, 53, none)] B B0 ∧ CK B0 B0 n := by
  obtain ⟨h1, h2, h3, h4, h5, ⟨mi, m1, m2, m3⟩, h7, h8, h9, h10⟩ := h
  obtain ⟨B0, e, f, e14, h0⟩ := r_sail B x
  refine ⟨B0, e, ⟨⟨h1.fr f (Fr.rf (ws := [])) rfl rfl, ⟨by rw [h4, e14], fun i q1 q2 => by rw [f 18 i rfl]; exact h5 i q1 q2⟩, h2.fr f (Fr.rf (ws := [])) rfl rfl, h3.fr f (Fr.rf (ws := [])) rfl rfl, mi, m1, m2, by rw [f 18 5 rfl]; exact m3⟩, by rw [f 16 5 rfl]; exact h7, h8, h9, fun t ht => ?_⟩, f, fun i m hi hm => Or.inl (h0 _ (by omega))⟩
  obtain ⟨w, hw, e1, e2⟩ := h10 t ht
  have : wF B0 t = w := by
    unfold wF
    rw [f 19 t rfl, e1]
    exact jx_n (by omega)
  rw [this, f 19 t rfl]
  exact ⟨e1, hw, e2⟩
theorem c_walk {A B0 : jA3} {o : Nat → Nat} {r : Nat} (h : Cx B0 C n) (fA : Fr wCB B0 A) (hc : CK B0 A n) (hr : Row n r o) (ho : ∀ k, k < r → A 50 k = nI (o k)) : Run (fun x => x.1 = lN (wv B0 o r) ∧ Fr wWk A x.2 ∧ Fr wCB B0 x.2 ∧ CK B0 x.2 n ∧ x.2 16 9 = nI (W0 B0 o r).2.1 ∧ (∀ t, t < 6 → x.2 49 t = nI ((W0 B0 o r).2.2 t)) ∧ ∀ k, k < r → x.2 47 (o k) = wbeg (tkF B0) (lkF B0) (thF B0) (miF B0) o k ∧ x.2 48 (o k) = nI (whad (tkF B0) (lkF B0) (thF B0) (miF B0) o k)) (fX6_walk A (nI r)) := by
  obtain ⟨h1, h2, h3, h4, h5⟩ := id h
  have hA : RN A C := h1.fr fA (Fr.rf (ws := [])) rfl rfl rfl rfl rfl rfl rfl rfl
  refine (r_walk hA h1 hc (by rw [fA 16 5 rfl]; exact h2) h2 h3 hr ho (fun i => fA 45 i rfl) (fA 18 5 rfl) (fun t ht => by rw [fA 19 t rfl]; exact ⟨(h5 t ht).1, (h5 t ht).2.1⟩)).mono ?_
  rintro x ⟨a1, a2, a3, a4, a5, a6⟩
  exact ⟨a1, a2, fA.tr (a2.wd rfl), a3, a4, a5, a6⟩
theorem c_worth {T B0 : jA3} {L : jL3} {o : Nat → Nat} {r : Nat} (h : Cx B0 T n) (hr : Row n r o) (ho : ∀ k, k < r → T 108 k = nI (o k)) (hr2 : T 94 25 = nI r) : Run (fun x => x.1 = lN (wv B0 o r) ∧ Fr wWo T x.2.1 ∧ x.2.1 94 29 = nI (W0 B0 o r).2.1 ∧ (∀ t, t < 6 → x.2.2 111 t = lN ((W0 B0 o r).2.2 t)) ∧ (∀ k, k < r → x.2.1 109 k = wbeg (tkF B0) (lkF B0) (thF B0) (miF B0) o k ∧ x.2.1 110 k = nI (whad (tkF B0) (lkF B0) (thF B0) (miF B0) o k)) ∧ x.2.2 94 = L 94) (fX11_worthOf T L) :=
  r_worth h.1 h.2.1 h.2.2.1 hr ho hr2 (fun t ht => ⟨(h.2.2.2.2 t ht).2.2, (h.2.2.2.2 t ht).2.1⟩)
def sk (q k : Nat) : Nat := if k < q then k else k + 1
theorem r_order {A : jA3} {l1 : Int32} {q : Nat} (hn : A 16 5 = nI n) (h8 : n ≤ 8) (hl : ∀ k, k < n → (nI k = l1 ↔ k = q)) : Run (fun x => x.1 = nI (if q < n then n - 1 else n) ∧ Fr [(50, 50, none)] A x.2 ∧ ∀ k, k < (if q < n then n - 1 else n) → x.2 50 k = nI (sk q k)) (fX6_orderWithout A l1) := by
  unfold fX6_orderWithout
  refine Run.bd (R := fun x => x.1 = nI (if q < n then n - 1 else n) ∧ Fr [(50, 50, none)] A x.2 ∧ ∀ k, k < (if q < n then n - 1 else n) → x.2 50 k = nI (sk q k)) ?_ (fun a h => Run.rt h)
  refine Run.up n (fun i s => s.1 = nI (if q < i then i - 1 else i) ∧ s.2.1 = nI i ∧ Fr [(50, 50, none)] A s.2.2 ∧ ∀ k, k < (if q < i then i - 1 else i) → s.2.2 50 k = nI (sk q k)) ?_ ?_ (Nat.zero_le _) ⟨by rw [if_neg (Nat.not_lt_zero _)]; rfl, rfl, Fr.rf, fun k hk => by rw [if_neg (Nat.not_lt_zero _)] at hk; omega⟩
  · rintro i ⟨s1, s2, S⟩ hi ⟨e1, e2, hS, hI⟩
    have e1 : s1 = nI (if q < i then i - 1 else i) := e1
    have e2 : s2 = nI i := e2
    subst e1 e2
    have hS : Fr [(50, 50, none)] A S := hS
    have hI : ∀ k, k < (if q < i then i - 1 else i) → S 50 k = nI (sk q k) := hI
    have a1 : S 16 5 = nI n := by rw [hS 16 5 rfl]; exact hn
    unfold cX6_orderWithout_4
    simp only [a1]
    refine Run.im (nI_ge hi (by omega)) <| Run.i (fun z => ?_) (fun z => ?_)
    · have ei := (hl i hi).mp z
      subst ei
      rw [if_neg (Nat.lt_irrefl _)] at hI ⊢
      exact Run.rt ⟨by rw [if_pos (Nat.lt_succ_self _)]; rfl, nI_1 i, hS, fun k hk => by
        rw [if_pos (Nat.lt_succ_self _)] at hk
        exact hI k (by omega)⟩
    · have ei : i ≠ q := fun e => z ((hl i hi).mpr e)
      have ec : (if q < i + 1 then i + 1 - 1 else i + 1) = (if q < i then i - 1 else i) + 1 := by
        by_cases w : q < i
        · rw [if_pos w, if_pos (by omega)]; omega
        · rw [if_neg w, if_neg (by omega)]
      have hlt : (if q < i then i - 1 else i) < 8 := by split <;> omega
      refine Run.g (vp_in_nI hlt (by omega)) <| Run.rt ⟨by rw [ec]; exact nI_1 _, nI_1 i, Fr.up hS (FrC.up FrC.bs rfl), fun k hk => ?_⟩
      rw [ec] at hk
      show upd (S 50) (jx (nI (if q < i then i - 1 else i))) (nI i) k = _
      rw [jx_n (by omega)]
      by_cases e : k = (if q < i then i - 1 else i)
      · rw [← e, upd_at]
        unfold sk
        by_cases w : q < i
        · rw [if_pos w] at e
          rw [if_neg (by omega)]
          congr 1
          omega
        · rw [if_neg w] at e
          rw [if_pos (by omega), e]
      · rw [upd_ne e]
        exact hI k (by omega)
  · rintro ⟨s1, s2, S⟩ ⟨e1, e2, hS, hI⟩
    have e2 : s2 = nI n := e2
    subst e2
    have hS : Fr [(50, 50, none)] A S := hS
    have a1 : S 16 5 = nI n := by rw [hS 16 5 rfl]; exact hn
    unfold cX6_orderWithout_4
    simp only [a1]
    exact Run.ip (nI_le (Nat.le_refl _) (by omega)) <| Run.rt ⟨e1, hS, hI⟩
theorem m1_ne {k : Nat} (h : k < 2 ^ 31) : ¬ nI k = -1 := fun z => by
  have := nI_pos h
  rw [z] at this
  exact this (by decide)
theorem row_id (h8 : n ≤ 8) : Row n n (fun k => k) := ⟨h8, fun k hk => hk, fun j k h1 h2 => Nat.ne_of_lt h1⟩
theorem row_sk {q : Nat} (h8 : n ≤ 8) (hq : q < n) : Row n (n - 1) (sk q) := ⟨by omega, fun k hk => by unfold sk; split <;> omega, fun j k h1 h2 => by unfold sk; split <;> split <;> omega⟩
theorem r_theRow {T : jA3} (hn : T 94 21 = nI n) (h8 : n ≤ 8) : Run (fun x => Fr [(94, 94, some 25), (108, 108, none)] T x ∧ x 94 25 = nI n ∧ ∀ k, k < n → x 108 k = nI k) (fX11_theRow T) := by
  unfold fX11_theRow
  refine Run.bd (R := fun x => Fr [(94, 94, some 25), (108, 108, none)] T x ∧ x 94 25 = nI n ∧ ∀ k, k < n → x 108 k = nI k) ?_ (fun a h => Run.rt h)
  refine Run.up n (fun i s => s.1 = nI i ∧ Fr [(94, 94, some 25), (108, 108, none)] T s.2 ∧ s.2 94 25 = nI n ∧ ∀ k, k < i → s.2 108 k = nI k) ?_ ?_ (Nat.zero_le _) ⟨rfl, Fr.up Fr.rf (FrC.up FrC.bs rfl), hn, fun k hk => absurd hk (Nat.not_lt_zero _)⟩
  · rintro i ⟨s1, S⟩ hi ⟨e1, hS, h25, hI⟩
    have e1 : s1 = nI i := e1
    subst e1
    have hS : Fr [(94, 94, some 25), (108, 108, none)] T S := hS
    have a1 : S 94 21 = nI n := by rw [hS 94 21 rfl]; exact hn
    unfold cX11_theRow_10
    simp only [a1, jx_n (show i < 2 ^ 31 by omega)]
    refine Run.im (nI_ge hi (by omega)) <| Run.g (vp_in_nI (by omega) (by omega)) <| Run.rt ⟨nI_1 i, Fr.up hS (FrC.up FrC.bs rfl), h25, fun k hk => ?_⟩
    show upd (S 108) i (nI i) k = _
    by_cases e : k = i
    · subst e; exact upd_at
    · rw [upd_ne e]; exact hI k (by omega)
  · rintro ⟨s1, S⟩ ⟨e1, hS, h25, hI⟩
    have e1 : s1 = nI n := e1
    subst e1
    have a1 : S 94 21 = nI n := by rw [show S 94 21 = T 94 21 from hS 94 21 rfl]; exact hn
    unfold cX11_theRow_10
    simp only [a1]
    exact Run.ip (nI_le (Nat.le_refl _) (by omega)) <| Run.rt ⟨hS, h25, hI⟩
/-- all as they came: what the one has -/
theorem c_came (h : Pre B C x n) : ∃ B0, Cx B0 C n ∧ Fr [(16, 16, some 14), (53, 53, none)] B B0 ∧ Run (fun u => u.1 = lN (wv B0 (fun k => k) n) ∧ Fr wCB B0 u.2 ∧ CK B0 u.2 n ∧ u.2 16 9 = nI (W0 B0 (fun k => k) n).2.1 ∧ (∀ t, t < 6 → u.2 49 t = nI ((W0 B0 (fun k => k) n).2.2 t)) ∧ (∀ k, k < n → u.2 50 k = nI k) ∧ ∀ k, k < n → u.2 47 k = wbeg (tkF B0) (lkF B0) (thF B0) (miF B0) (fun k => k) k ∧ u.2 48 k = nI (whad (tkF B0) (lkF B0) (thF B0) (miF B0) (fun k => k) k)) (fX6_worthAsTheyCame B x) := by
  obtain ⟨B0, e, hCx, fr, hCK⟩ := ctx_sail h
  refine ⟨B0, hCx, fr, ?_⟩
  unfold fX6_worthAsTheyCame
  rw [e]
  refine Run.be rfl ?_
  have h8 := hCx.2.2.1
  obtain ⟨⟨c, A⟩, e2, a1, a2, a3⟩ := r_order (A := B0) (l1 := -1) (q := n) hCx.2.1 h8 (fun k hk => ⟨fun z => absurd z (m1_ne (by omega)), fun z => by omega⟩)
  rw [if_neg (Nat.lt_irrefl _)] at a1 a3
  have a1 : c = nI n := a1
  subst a1
  have a2 : Fr [(50, 50, none)] B0 A := a2
  have a3 : ∀ k, k < n → A 50 k = nI k := fun k hk => by
    rw [show A 50 k = nI (sk n k) from a3 k hk]
    unfold sk
    rw [if_pos hk]
  have hck : CK B0 A n := fun i m hi hm => by
    rw [a2 53 _ rfl, a2 52 _ rfl]
    exact hCK i m hi hm
  obtain ⟨u, e3, b1, b2, b3, b4, b5, b6, b7⟩ := c_walk hCx (a2.wd rfl) hck (row_id h8) (o := fun k => k) a3
  rw [e2]
  refine Run.be rfl ?_
  show Run _ (Option.bind (fX6_walk A (nI n)) _)
  rw [e3]
  exact Run.rt ⟨b1, b3, b4, b5, b6, fun k hk => by rw [show u.2 50 k = A 50 k from b2 50 k rfl]; exact a3 k hk, b7⟩
theorem c_cameC {T B0 : jA3} {L : jL3} (h : Cx B0 T n) : Run (fun v => v.1 = lN (wv B0 (fun k => k) n) ∧ Fr wCC T v.2.1 ∧ v.2.1 94 29 = nI (W0 B0 (fun k => k) n).2.1 ∧ (∀ t, t < 6 → v.2.2 111 t = lN ((W0 B0 (fun k => k) n).2.2 t)) ∧ (∀ k, k < n → v.2.1 108 k = nI k) ∧ v.2.1 94 25 = nI n ∧ (∀ k, k < n → v.2.1 109 k = wbeg (tkF B0) (lkF B0) (thF B0) (miF B0) (fun k => k) k ∧ v.2.1 110 k = nI (whad (tkF B0) (lkF B0) (thF B0) (miF B0) (fun k => k) k)) ∧ v.2.2 94 = L 94) (fX11_worthOfAll T L) := by
  unfold fX11_worthOfAll
  obtain ⟨T1, e1, a1, a2, a3⟩ := r_theRow h.2.2.2.1 h.2.2.1
  have fT : Fr wCC T T1 := a1.wd rfl
  obtain ⟨v, e2, b1, b2, b3, b4, b5, b6⟩ := c_worth (L := L) (h.fr fT) (row_id h.2.2.1) (o := fun k => k) a3 a2
  rw [e1]
  refine Run.be rfl ?_
  rw [e2]
  exact Run.rt ⟨b1, fT.tr (b2.wd rfl), b3, b4, fun k hk => by rw [show v.2.1 108 k = T1 108 k from b2 108 k rfl]; exact a3 k hk, by rw [show v.2.1 94 25 = T1 94 25 from b2 94 25 rfl]; exact a2, b5, b6⟩
theorem m_run (h : Rel B C) {L : jL3} (l1 : Int32) : Sim (fun x y => x.1 = y.1) (fX10_run B l1) (fX11_run C L l1) := by
  unfold fX10_run fX11_run
  refine Sim.ii Iff.rfl (fun _ => Sim.rt rfl) (fun q1 => ?_)
  obtain ⟨p, hp, rfl⟩ := wn_n (n := 7) rfl q1
  obtain ⟨n, hP⟩ := h.pre
  obtain ⟨B0, hCx, -, hr⟩ := c_came hP
  obtain ⟨u, e1, a1, -, -, a2, a3, -⟩ := hr
  obtain ⟨v, e2, b1, -, b2, b3, -⟩ := c_cameC (L := L) hCx
  have hms := wst_ms (tk := tkF B0) (lk := lkF B0) (th := thF B0) (mi := miF B0) (o := fun k => k) n
  show Sim _ (Option.bind (fX6_worthAsTheyCame B (B 18 0)) _) _
  rw [e1, e2]
  refine Sim.bl rfl <| Sim.br rfl <| Sim.ii Iff.rfl (fun _ => Sim.rt (by show u.1 = v.1; rw [a1, b1])) (fun z0 => Sim.ii Iff.rfl (fun _ => Sim.rt ?_) (fun z1 => ?_))
  · show (u.2 16 9).toInt64 = (v.2.1 94 29).toInt64
    rw [a2, b2]
  · have h0 : p ≠ 0 := fun e => z0 (by rw [e]; rfl)
    have h1 : p ≠ 1 := fun e => z1 (by rw [e]; rfl)
    have e : nI p - (2 : Int32) = nI (p - 2) := by rw [lit_n 2, pk_sub (by omega)]
    have vv : vp_in (nI (p - 2)) 6 := vp_in_nI (by omega) (by omega)
    rw [e, jx_n (by omega)]
    refine Sim.gl vv <| Sim.gr vv <| Sim.rt ?_
    show ((1000000 : Int32) - u.2 49 (p - 2)).toInt64 = lN 1000000 - v.2.2 111 (p - 2)
    rw [a3 _ (by omega), b3 _ (by omega), lmil (hms _), lN_sub (hms _)]
theorem m_minute (h : Rel B C) {L : jL3} (l1 l2 : Int32) : Sim (fun x y => x.1 = y.1) (fX10_minute B l1 l2) (fX11_minute C L l1 l2) := by
  obtain ⟨n, hP⟩ := h.pre
  obtain ⟨-, -, -, -, -, -, g2, g1, g3, -⟩ := id hP
  unfold fX10_minute fX11_minute fX11_isSaying
  rw [g2, g3]
  refine Sim.ii Iff.rfl (fun _ => Sim.rt rfl) (fun q1 => Sim.ii Iff.rfl (fun _ => Sim.rt rfl) (fun q2 => ?_))
  obtain ⟨i, hi, rfl⟩ := wn_m (by omega) q1
  obtain ⟨B0, hCx, -, hr⟩ := c_came hP
  obtain ⟨u, e1, -, -, -, -, -, -, a1⟩ := hr
  obtain ⟨v, e2, -, -, -, -, -, -, b1, -⟩ := c_cameC (L := L) hCx
  have vv : vp_in (nI i) 8 := vp_in_nI (by omega) (by omega)
  show Sim _ (Option.bind (fX6_worthAsTheyCame B (B 18 0)) _) _
  rw [e1, e2, jx_n (by omega)]
  obtain ⟨p1, p2⟩ := a1 i hi
  obtain ⟨p3, p4⟩ := b1 i hi
  refine Sim.bl rfl <| Sim.br rfl <| Sim.ii Iff.rfl (fun _ => Sim.gl vv <| Sim.gr vv <| Sim.rt ?_) (fun _ => Sim.gl vv <| Sim.gr vv <| Sim.rt ?_)
  · show u.2 47 i = v.2.1 109 i
    rw [p1, p3]
  · show u.2 48 i = v.2.1 110 i
    rw [p2, p4]
theorem m_leave (h : Rel B C) {L : jL3} : Sim (fun x y => x.1 = y.1) (fX10_leave B) (fX11_leave C L) := by
  obtain ⟨n, hP⟩ := h.pre
  obtain ⟨B0, hCx, fr, hr⟩ := c_came hP
  obtain ⟨u, e1, a1, a2, a3, -⟩ := hr
  obtain ⟨v, e2, b1, b2, -⟩ := c_cameC (L := L) hCx
  have h8 := hCx.2.2.1
  unfold fX10_leave fX11_leave
  show Sim _ (Option.bind (fX6_worthAsTheyCame B (B 18 0)) _) _
  rw [e1, e2]
  refine Sim.bl rfl <| Sim.br rfl ?_
  rw [a1, b1]
  have hW0 : wv B0 (fun k => k) n ≤ 594000000 := wv_lt hCx
  refine Sim.bd (R := fun s t => (s.2.1 < lN (wv B0 (fun k => k) n) ∧ t.1 = -1) ∨ (¬ s.2.1 < lN (wv B0 (fun k => k) n) ∧ t.1 = s.1)) ?_ ?_
  · refine Sim.up n (fun i s t => s.2.2.1 = nI i ∧ t.2.2.1 = nI i ∧ Fr wCB B0 s.2.2.2 ∧ CK B0 s.2.2.2 n ∧ Fr wCC C t.2.2.2.1 ∧ ((s.2.1 < lN (wv B0 (fun k => k) n) ∧ t.2.1 = -1 ∧ t.1 = lN (wv B0 (fun k => k) n)) ∨ (¬ s.2.1 < lN (wv B0 (fun k => k) n) ∧ t.2.1 = s.1 ∧ ¬ s.1 < 0 ∧ t.1 = s.2.1))) ?_ ?_ (Nat.zero_le _) ⟨rfl, rfl, a2, a3, b2, Or.inl ⟨?_, rfl, rfl⟩⟩
    · rintro i ⟨s1, s2, s3, S⟩ ⟨t1, t2, t3, T, L2⟩ hi ⟨q1, q2, hS, hK, hT, hI⟩
      have q1 : s3 = nI i := q1
      have q2 : t3 = nI i := q2
      subst q1 q2
      have hS : Fr wCB B0 S := hS
      have hK : CK B0 S n := hK
      have hT : Fr wCC C T := hT
      have hI : (s2 < lN (wv B0 (fun k => k) n) ∧ t2 = -1 ∧ t1 = lN (wv B0 (fun k => k) n)) ∨ (¬ s2 < lN (wv B0 (fun k => k) n) ∧ t2 = s1 ∧ ¬ s1 < 0 ∧ t1 = s2) := hI
      have s16 : S 16 5 = nI n := by rw [hS 16 5 rfl]; exact hCx.2.1
      have t21 : T 94 21 = nI n := by rw [hT 94 21 rfl]; exact hCx.2.2.2.1
      -- the one
      obtain ⟨⟨c, A⟩, e3, c1, c2, c3⟩ := r_order (A := S) (l1 := nI i) (q := i) s16 h8 (fun k hk => nI_eq (by omega) (by omega))
      rw [if_pos hi] at c1 c3
      have c1 : c = nI (n - 1) := c1
      subst c1
      have c2 : Fr [(50, 50, none)] S A := c2
      have hck : CK B0 A n := fun i2 m hi hm => by
        rw [c2 53 _ rfl, c2 52 _ rfl]
        exact hK i2 m hi hm
      obtain ⟨w, e4, d1, -, d2, d3, -⟩ := c_walk hCx (hS.tr (c2.wd rfl)) hck (row_sk h8 hi) c3
      -- the other
      have hl : Run (fun T2 => Fr wCC C T2 ∧ T2 94 25 = nI (n - 1) ∧ ∀ k, k < n - 1 → T2 108 k = nI (sk i k)) (jwh (cX11_leave_27 L2 t1 t2 (nI i)) ((0 : Int32), va_up T 94 (upd (T 94) 25 (0 : Int32)))) := by
        refine Run.up n (fun k s => s.1 = nI k ∧ Fr wCC C s.2 ∧ s.2 94 25 = nI (if i < k then k - 1 else k) ∧ ∀ j, j < (if i < k then k - 1 else k) → s.2 108 j = nI (sk i j)) ?_ ?_ (Nat.zero_le _) ⟨rfl, Fr.up hT (FrC.up FrC.bs rfl), by rw [if_neg (Nat.not_lt_zero _)]; rfl, fun j hj => by rw [if_neg (Nat.not_lt_zero _)] at hj; omega⟩
        · rintro k ⟨y1, Y⟩ hk ⟨p1, hY, p2, p3⟩
          have p1 : y1 = nI k := p1
          subst p1
          have hY : Fr wCC C Y := hY
          have p2 : Y 94 25 = nI (if i < k then k - 1 else k) := p2
          have y21 : Y 94 21 = nI n := by rw [hY 94 21 rfl]; exact hCx.2.2.2.1
          unfold cX11_leave_27
          simp only [y21]
          refine Run.im (nI_ge hk (by omega)) <| Run.i (fun z => ?_) (fun z => ?_)
          · have ek : k = i := (nI_eq (by omega) (by omega)).mp z
            subst ek
            rw [if_neg (Nat.lt_irrefl _)] at p2 p3
            exact Run.rt ⟨nI_1 k, hY, by rw [if_pos (Nat.lt_succ_self _)]; exact p2, fun j hj => by
              rw [if_pos (Nat.lt_succ_self _)] at hj
              exact p3 j (by omega)⟩
          · have ek : k ≠ i := fun e => z (by rw [e])
            have ec : (if i < k + 1 then k + 1 - 1 else k + 1) = (if i < k then k - 1 else k) + 1 := by
              by_cases w : i < k
              · rw [if_pos w, if_pos (by omega)]; omega
              · rw [if_neg w, if_neg (by omega)]
            have hlt : (if i < k then k - 1 else k) < 8 := by split <;> omega
            rw [p2, jx_n (by omega)]
            refine Run.g (vp_in_nI hlt (by omega)) <| Run.rt ⟨nI_1 k, Fr.up (Fr.up hY (FrC.up FrC.bs rfl)) (FrC.up FrC.bs rfl), ?_, fun j hj => ?_⟩
            · show Y 94 25 + 1 = _
              rw [ec, p2, nI_1]
            · rw [ec] at hj
              show upd (Y 108) _ (nI k) j = _
              by_cases e : j = (if i < k then k - 1 else k)
              · rw [← e, upd_at]
                unfold sk
                by_cases w : i < k
                · rw [if_pos w] at e
                  rw [if_neg (by omega)]
                  congr 1
                  omega
                · rw [if_neg w] at e
                  rw [if_pos (by omega), e]
              · rw [upd_ne e]
                exact p3 j (by omega)
        · rintro ⟨y1, Y⟩ ⟨p1, hY, p2, p3⟩
          have p1 : y1 = nI n := p1
          subst p1
          rw [if_pos hi] at p2 p3
          have y21 : Y 94 21 = nI n := by rw [show Y 94 21 = C 94 21 from hY 94 21 rfl]; exact hCx.2.2.2.1
          unfold cX11_leave_27
          simp only [y21]
          exact Run.ip (nI_le (Nat.le_refl _) (by omega)) <| Run.rt ⟨hY, p2, p3⟩
      obtain ⟨T2, e5, g1, g2, g3⟩ := hl
      obtain ⟨y, e6, k1, k2, -⟩ := c_worth (L := L2) (hCx.fr g1) (row_sk h8 hi) g3 g2
      have hy : Fr wCC C y.2.1 := g1.tr (k2.wd rfl)
      have hWi : wv B0 (sk i) (n - 1) ≤ 594000000 := wv_lt hCx
      unfold cX10_leave_28 cX11_leave_10 fX6_worthWithout jX11_leave_103_10
      simp only [s16, t21, e3]
      refine Sim.iml (nI_ge hi (by omega)) <| Sim.imr (nI_ge hi (by omega)) ?_
      show Sim _ (Option.bind (Option.bind (fX6_walk A (nI (n - 1))) _) _) _
      rw [e4, e5]
      refine Sim.br rfl ?_
      rw [e6]
      refine Sim.br rfl <| Sim.bl rfl ?_
      show Sim _ (if lg_cmp w.1 s2 ≤ 0 then some (Sum.inl (s1, s2, nI i + 1, w.2)) else some (Sum.inl (nI i, w.1, nI i + 1, w.2))) (if 0 ≤ t2 then (if 0 < lg_cmp y.1 t1 then some (Sum.inl (y.1, nI i, nI i + 1, y.2.1, y.2.2)) else some (Sum.inl (t1, t2, nI i + 1, y.2.1, y.2.2))) else (if 0 ≤ lg_cmp y.1 t1 then some (Sum.inl (y.1, nI i, nI i + 1, y.2.1, y.2.2)) else some (Sum.inl (t1, t2, nI i + 1, y.2.1, y.2.2))))
      rw [d1, k1]
      rcases hI with ⟨h1, rfl, rfl⟩ | ⟨h1, rfl, h0, rfl⟩
      · refine Sim.imr (by decide) ?_
        by_cases hc : lN (wv B0 (sk i) (n - 1)) < lN (wv B0 (fun k => k) n)
        · refine Sim.imr (fun z => cmp_ge.mp z hc) ?_
          refine Sim.il (fun z => Sim.rt ⟨nI_1 i, nI_1 i, d2, d3, hy, Or.inl ⟨h1, rfl, rfl⟩⟩) (fun z => Sim.rt ⟨nI_1 i, nI_1 i, d2, d3, hy, Or.inl ⟨hc, rfl, rfl⟩⟩)
        · refine Sim.ipr (cmp_ge.mpr hc) <| Sim.iml (fun z => cmp_le.mp z ?_) <| Sim.rt ⟨nI_1 i, nI_1 i, d2, d3, hy, Or.inr ⟨hc, rfl, nI_pos (by omega), rfl⟩⟩
          rw [Int64.lt_iff_toInt_lt] at h1 hc ⊢
          omega
      · refine Sim.ipr (i32_nlt h0) <| Sim.ix (by rw [cmp_le, cmp_gt]) (fun z => Sim.rt ⟨nI_1 i, nI_1 i, d2, d3, hy, Or.inr ⟨h1, rfl, h0, rfl⟩⟩) (fun z => Sim.rt ⟨nI_1 i, nI_1 i, d2, d3, hy, Or.inr ⟨?_, rfl, nI_pos (by omega), rfl⟩⟩)
        rw [cmp_le] at z
        have z2 : t1 < lN (wv B0 (sk i) (n - 1)) := Decidable.not_not.mp z
        show ¬ lN (wv B0 (sk i) (n - 1)) < lN (wv B0 (fun k => k) n)
        rw [Int64.lt_iff_toInt_lt] at h1 z2 ⊢
        omega
    · rintro ⟨s1, s2, s3, S⟩ ⟨t1, t2, t3, T, L2⟩ ⟨q1, q2, hS, hK, hT, hI⟩
      have q1 : s3 = nI n := q1
      have q2 : t3 = nI n := q2
      subst q1 q2
      have s16 : S 16 5 = nI n := by rw [show S 16 5 = B0 16 5 from hS 16 5 rfl]; exact hCx.2.1
      have t21 : T 94 21 = nI n := by rw [show T 94 21 = C 94 21 from hT 94 21 rfl]; exact hCx.2.2.2.1
      unfold cX10_leave_28 cX11_leave_10
      simp only [s16, t21]
      refine Sim.ipl (nI_le (Nat.le_refl _) (by omega)) <| Sim.ipr (nI_le (Nat.le_refl _) (by omega)) <| Sim.rt ?_
      rcases hI with ⟨h1, h2, -⟩ | ⟨h1, h2, -⟩
      · exact Or.inl ⟨h1, h2⟩
      · exact Or.inr ⟨h1, h2⟩
    · show (-1 : Int64) < lN _
      rw [Int64.lt_iff_toInt_lt, pk_lT (by omega)]
      have : (-1 : Int64).toInt = -1 := by decide
      omega
  · rintro ⟨s1, s2, S⟩ ⟨t1, T, L2⟩ (⟨h1, h2⟩ | ⟨h1, h2⟩)
    · exact Sim.ipl (cmp_lt.mpr h1) <| Sim.rt h2.symm
    · exact Sim.iml (fun z => h1 (cmp_lt.mp z)) <| Sim.rt h2.symm
