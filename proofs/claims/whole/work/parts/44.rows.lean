/-! rows of sayings: what is had, what a row is worth -/
variable {B C : jA3} {n : Nat}
/-- tk, lk, th: what each saying is; mi minutes; o: the row -/
def wst (tk lk : Nat → Nat → Nat) (th : Nat → Nat) (mi : Nat) (o : Nat → Nat) : Nat → Nat × Nat × (Nat → Nat)
  | 0 => (0, 0, fun _ => 1000000)
  | k + 1 => if (wst tk lk th mi o k).1 < mi then
      (if (wst tk lk th mi o k).1 + tk (o k) (wst tk lk th mi o k).1 ≤ mi then ((wst tk lk th mi o k).1 + tk (o k) (wst tk lk th mi o k).1, (wst tk lk th mi o k).2.1 + 1, fun t => if t = th (o k) then (wst tk lk th mi o k).2.2 t * (100 - lk (o k) (wst tk lk th mi o k).1) / 100 else (wst tk lk th mi o k).2.2 t)
       else ((wst tk lk th mi o k).1 + tk (o k) (wst tk lk th mi o k).1, (wst tk lk th mi o k).2.1, (wst tk lk th mi o k).2.2))
      else wst tk lk th mi o k
def wbeg (tk lk : Nat → Nat → Nat) (th : Nat → Nat) (mi : Nat) (o : Nat → Nat) (k : Nat) : Int32 := if (wst tk lk th mi o k).1 < mi then nI (wst tk lk th mi o k).1 else -1
def whad (tk lk : Nat → Nat → Nat) (th : Nat → Nat) (mi : Nat) (o : Nat → Nat) (k : Nat) : Nat := if (wst tk lk th mi o k).1 < mi ∧ (wst tk lk th mi o k).1 + tk (o k) (wst tk lk th mi o k).1 ≤ mi then lk (o k) (wst tk lk th mi o k).1 else 0
def wsum (ms w : Nat → Nat) : Nat → Nat
  | 0 => 0
  | t + 1 => wsum ms w t + (1000000 - ms t) * w t
section
variable {tk lk : Nat → Nat → Nat} {th : Nat → Nat} {mi : Nat} {o : Nat → Nat}
theorem wst_ms : ∀ k t, (wst tk lk th mi o k).2.2 t ≤ 1000000
  | 0, t => Nat.le_refl _
  | k + 1, t => by
    have ih := wst_ms k
    unfold wst
    split
    · split
      · show (if t = th (o k) then _ else _) ≤ 1000000
        split
        · have h1 : (wst tk lk th mi o k).2.2 t * (100 - lk (o k) (wst tk lk th mi o k).1) ≤ 1000000 * 100 := Nat.mul_le_mul (ih t) (by omega)
          omega
        · exact ih t
      · exact ih t
    · exact ih t
theorem wst_in : ∀ k, (wst tk lk th mi o k).2.1 ≤ k
  | 0 => Nat.le_refl _
  | k + 1 => by
    have ih := wst_in k
    unfold wst
    split
    · split
      · show (wst tk lk th mi o k).2.1 + 1 ≤ k + 1
        omega
      · show (wst tk lk th mi o k).2.1 ≤ k + 1
        omega
    · omega
theorem wst_stop {k : Nat} (h : ¬ (wst tk lk th mi o k).1 < mi) : ∀ j, wst tk lk th mi o (k + j) = wst tk lk th mi o k
  | 0 => rfl
  | j + 1 => by
    show wst tk lk th mi o (k + j + 1) = _
    have ih := wst_stop h j
    rw [wst, ih, if_neg h]
theorem wst_at (hm : mi ≤ 12) (ht : ∀ k, tk (o k) (wst tk lk th mi o k).1 ≤ 12) : ∀ k, (wst tk lk th mi o k).1 ≤ 24
  | 0 => by show 0 ≤ 24; omega
  | k + 1 => by
    have ih := wst_at hm ht k
    have := ht k
    unfold wst
    split
    · split
      · show (wst tk lk th mi o k).1 + tk (o k) (wst tk lk th mi o k).1 ≤ 24
        omega
      · show (wst tk lk th mi o k).1 + tk (o k) (wst tk lk th mi o k).1 ≤ 24
        omega
    · exact ih
theorem wst_cong {o2 : Nat → Nat} : ∀ k, (∀ j, j < k → o j = o2 j) → wst tk lk th mi o k = wst tk lk th mi o2 k
  | 0, _ => rfl
  | k + 1, h => by
    have ih := wst_cong k (fun j hj => h j (by omega))
    rw [wst, wst, ih, h k (by omega)]
end
theorem wsum_lt {ms w : Nat → Nat} (hm : ∀ t, ms t ≤ 1000000) (hw : ∀ t, t < 6 → w t < 100) : ∀ t, t ≤ 6 → wsum ms w t ≤ t * 99000000
  | 0, _ => Nat.le_refl _
  | t + 1, h => by
    have ih := wsum_lt hm hw t (by omega)
    have h1 : (1000000 - ms t) * w t ≤ 1000000 * 99 := Nat.mul_le_mul (by omega) (by have := hw t (by omega); omega)
    show wsum ms w t + (1000000 - ms t) * w t ≤ (t + 1) * 99000000
    omega
theorem lmil {x : Nat} (h : x ≤ 1000000) : ((1000000 : Int32) - nI x).toInt64 = lN (1000000 - x) := by
  rw [lit_n 1000000, pk_sub h, nI_l (by omega)]
abbrev wWk : List (Nat × Nat × Option Nat) := [(16, 16, some 9), (28, 28, none), (43, 43, none), (47, 49, none), (52, 53, none)]
noncomputable def thF (B : jA3) (i : Nat) : Nat := jx (B 45 i)
noncomputable def wF (B : jA3) (t : Nat) : Nat := jx (B 19 t)
noncomputable def miF (B : jA3) : Nat := jx (B 18 5)
/-- the row's numbers: r of them, each one a saying, none twice -/
def Row (n r : Nat) (o : Nat → Nat) : Prop := r ≤ 8 ∧ (∀ k, k < r → o k < n) ∧ ∀ j k, j < k → k < r → o j ≠ o k
noncomputable abbrev W0 (B : jA3) (o : Nat → Nat) (k : Nat) : Nat × Nat × (Nat → Nat) := wst (tkF B) (lkF B) (thF B) (miF B) o k
theorem r_walk {A B0 : jA3} {o : Nat → Nat} {r : Nat} (h : RN A C) (hB : RN B0 C) (hc : CK B0 A n) (hn : A 16 5 = nI n) (hn0 : B0 16 5 = nI n) (h8 : n ≤ 8) (hr : Row n r o) (ho : ∀ k, k < r → A 50 k = nI (o k)) (h45 : ∀ i, A 45 i = B0 45 i) (h18 : A 18 5 = B0 18 5) (h19 : ∀ t, t < 6 → A 19 t = nI (wF B0 t) ∧ wF B0 t < 100) : Run (fun x => x.1 = lN (wsum (W0 B0 o r).2.2 (wF B0) 6) ∧ Fr wWk A x.2 ∧ CK B0 x.2 n ∧ x.2 16 9 = nI (W0 B0 o r).2.1 ∧ (∀ t, t < 6 → x.2 49 t = nI ((W0 B0 o r).2.2 t)) ∧ ∀ k, k < r → x.2 47 (o k) = wbeg (tkF B0) (lkF B0) (thF B0) (miF B0) o k ∧ x.2 48 (o k) = nI (whad (tkF B0) (lkF B0) (thF B0) (miF B0) o k)) (fX6_walk A (nI r)) := by
  obtain ⟨hr8, hon, hod⟩ := hr
  obtain ⟨-, -, -, hSay, mi, m1, m2, m3⟩ := id hB
  have emi : miF B0 = mi := by
    unfold miF
    rw [m3]
    exact jx_n (by omega)
  subst emi
  obtain ⟨n2, a1, a2, -, a4⟩ := say_un hSay
  have en : n2 = n := by
    rw [hn0, nI_eq (by omega) (by omega)] at a2
    omega
  subst en
  have hth : ∀ i, i < n2 → A 45 i = nI (thF B0 i) ∧ thF B0 i < 6 := fun i hi => by
    obtain ⟨k, t, mo, q1, q2, q3, q4, q5, q6, -⟩ := a4 i hi
    unfold thF
    rw [h45, q5, jx_n (by omega)]
    exact ⟨rfl, q2⟩
  have htk : ∀ k m, k < r → 1 ≤ tkF B0 (o k) m ∧ tkF B0 (o k) m ≤ 12 ∧ lkF B0 (o k) m ≤ 100 := fun k m hk => by
    obtain ⟨-, b1, b2, -, b3, -⟩ := vals hB hn0 h8 (hon k hk) m
    exact ⟨b1, b2, b3⟩
  unfold fX6_walk
  obtain ⟨A1, e1, f1, p1⟩ := r_fill (A := A) (c := 47) (n := 8) (v := -1) (by omega)
  obtain ⟨A2, e2, f2, p2⟩ := r_fill (A := A1) (c := 48) (n := 8) (v := 0) (by omega)
  obtain ⟨A3, e3, f3, p3⟩ := r_fill (A := A2) (c := 49) (n := 6) (v := 1000000) (by omega)
  refine Run.be e1 <| Run.be e2 <| Run.be e3 ?_
  generalize hM : va_up A3 16 (upd (A3 16) 9 (0 : Int32)) = M
  have fM : Fr wWk A M := by
    rw [← hM]
    exact Fr.up (((f1.wd rfl).tr (f2.wd rfl)).tr (f3.wd rfl)) (FrC.up FrC.bs rfl)
  have mM : fX4_minutes M = nI (miF B0) := by
    unfold fX4_minutes
    rw [fM 18 5 rfl, h18]
    exact m3
  rw [mM]
  have e47 : ∀ q, q < 8 → M 47 q = -1 := fun q hq => by
    rw [← hM]
    show A3 47 q = -1
    rw [f3 47 q rfl, f2 47 q rfl]
    exact p1 q hq
  have e48 : ∀ q, q < 8 → M 48 q = 0 := fun q hq => by
    rw [← hM]
    show A3 48 q = 0
    rw [f3 48 q rfl]
    exact p2 q hq
  have e49 : ∀ q, q < 6 → M 49 q = 1000000 := fun q hq => by
    rw [← hM]
    exact p3 q hq
  -- the loop
  have hl : Run (fun S => Fr wWk A S ∧ CK B0 S n2 ∧ S 16 9 = nI (W0 B0 o r).2.1 ∧ (∀ t, t < 6 → S 49 t = nI ((W0 B0 o r).2.2 t)) ∧ ∀ k, k < r → S 47 (o k) = wbeg (tkF B0) (lkF B0) (thF B0) (miF B0) o k ∧ S 48 (o k) = nI (whad (tkF B0) (lkF B0) (thF B0) (miF B0) o k)) (jwh (cX6_walk_43 (nI r) (nI (miF B0))) ((0 : Int32), (0 : Int32), M)) := by
    refine Run.up r (fun k s => s.1 = nI (W0 B0 o k).1 ∧ s.2.1 = nI k ∧ Fr wWk A s.2.2 ∧ CK B0 s.2.2 n2 ∧ (W0 B0 o k).1 ≤ 24 ∧ s.2.2 16 9 = nI (W0 B0 o k).2.1 ∧ (∀ t, t < 6 → s.2.2 49 t = nI ((W0 B0 o k).2.2 t)) ∧ (∀ j, j < k → s.2.2 47 (o j) = wbeg (tkF B0) (lkF B0) (thF B0) (miF B0) o j ∧ s.2.2 48 (o j) = nI (whad (tkF B0) (lkF B0) (thF B0) (miF B0) o j)) ∧ ∀ q, q < 8 → (∀ j, j < k → o j ≠ q) → s.2.2 47 q = -1 ∧ s.2.2 48 q = 0) ?_ ?_ (Nat.zero_le _) ⟨rfl, rfl, fM, ?_, by show 0 ≤ 24; omega, ?_, fun t ht => e49 t ht, fun j hj => absurd hj (Nat.not_lt_zero _), fun q hq _ => ⟨e47 q hq, e48 q hq⟩⟩
    · rintro k ⟨s1, s2, S⟩ hk ⟨q1, q2, hS, hC, h24, h9, h49, hI, hJ⟩
      have q1 : s1 = nI (W0 B0 o k).1 := q1
      have q2 : s2 = nI k := q2
      subst q1 q2
      have hS : Fr wWk A S := hS
      have hC : CK B0 S n2 := hC
      have h9 : S 16 9 = nI (W0 B0 o k).2.1 := h9
      have h49 : ∀ t, t < 6 → S 49 t = nI ((W0 B0 o k).2.2 t) := h49
      have hI : ∀ j, j < k → S 47 (o j) = wbeg (tkF B0) (lkF B0) (thF B0) (miF B0) o j ∧ S 48 (o j) = nI (whad (tkF B0) (lkF B0) (thF B0) (miF B0) o j) := hI
      have hJ : ∀ q, q < 8 → (∀ j, j < k → o j ≠ q) → S 47 q = -1 ∧ S 48 q = 0 := hJ
      have hms := wst_ms (tk := tkF B0) (lk := lkF B0) (th := thF B0) (mi := miF B0) (o := o) k
      have hin := wst_in (tk := tkF B0) (lk := lkF B0) (th := thF B0) (mi := miF B0) (o := o) k
      have s50 : S 50 k = nI (o k) := by rw [hS 50 k rfl]; exact ho k hk
      have hok := hon k hk
      unfold cX6_walk_43
      simp only [jx_n (show k < 2 ^ 31 by omega), s50, jx_n (show o k < 2 ^ 31 by omega)]
      refine Run.im (nI_ge hk (by omega)) <| Run.i (fun z => ?_) (fun z => ?_)
      · rw [nI_leI (by omega) (by omega)] at z
        have stop : ∀ j, W0 B0 o (k + j) = W0 B0 o k := wst_stop (show ¬ (W0 B0 o k).1 < miF B0 by omega)
        have er : W0 B0 o r = W0 B0 o k := by
          rw [show r = k + (r - k) by omega]
          exact stop _
        refine Run.rt ⟨hS, hC, by rw [er]; exact h9, fun t ht => by rw [er]; exact h49 t ht, fun j hj => ?_⟩
        by_cases hjk : j < k
        · exact hI j hjk
        · have ej : W0 B0 o j = W0 B0 o k := by
            rw [show j = k + (j - k) by omega]
            exact stop _
          have hh := hJ (o j) (by have := hon j hj; omega) (fun j2 h2 => hod j2 j (by omega) hj)
          have w1 : ¬ (wst (tkF B0) (lkF B0) (thF B0) (miF B0) o j).1 < miF B0 := by
            show ¬ (W0 B0 o j).1 < miF B0
            rw [ej]
            omega
          unfold wbeg whad
          rw [if_neg w1, if_neg (fun w => w1 w.1)]
          exact hh
      · rw [nI_leI (by omega) (by omega)] at z
        have v8 : vp_in (nI (o k)) 8 := vp_in_nI (by omega) (by omega)
        refine Run.g (vp_in_nI (by omega) (by omega)) <| Run.g v8 <| Run.be rfl ?_
        generalize hM5 : va_up S 47 (upd (S 47) (o k) (nI (W0 B0 o k).1)) = M5
        have f5 : Fr wWk A M5 := by
          rw [← hM5]
          exact Fr.up hS (FrC.up FrC.bs rfl)
        have hRN5 : RN M5 C := h.fr f5 (Fr.rf (ws := [])) rfl rfl rfl rfl rfl rfl rfl rfl
        have hC5 : CK B0 M5 n2 := by
          rw [← hM5]
          exact hC
        have hn5 : M5 16 5 = nI n2 := by rw [f5 16 5 rfl]; exact hn
        obtain ⟨r7, e7, k1, k2, k3, k4, k5⟩ := r_learn hRN5 hB hC5 hn5 hn0 h8 hok (show (W0 B0 o k).1 < 12 by omega)
        have vr : vp_in r7.1 96 := by rw [k1]; exact vp_in_nI (by omega) (by omega)
        have jr : jx r7.1 = 12 * o k + (W0 B0 o k).1 := by rw [k1]; exact jx_n (by omega)
        obtain ⟨t1, t2, t3⟩ := htk k (W0 B0 o k).1 hk
        have f7 : Fr wWk A r7.2 := f5.tr (k5.wd rfl)
        have ew : W0 B0 o (k + 1) = (if (W0 B0 o k).1 + tkF B0 (o k) (W0 B0 o k).1 ≤ (miF B0) then ((W0 B0 o k).1 + tkF B0 (o k) (W0 B0 o k).1, (W0 B0 o k).2.1 + 1, fun t => if t = thF B0 (o k) then (W0 B0 o k).2.2 t * (100 - lkF B0 (o k) (W0 B0 o k).1) / 100 else (W0 B0 o k).2.2 t) else ((W0 B0 o k).1 + tkF B0 (o k) (W0 B0 o k).1, (W0 B0 o k).2.1, (W0 B0 o k).2.2)) := by
          show wst _ _ _ _ _ (k + 1) = _
          rw [wst, if_pos (show (wst (tkF B0) (lkF B0) (thF B0) (miF B0) o k).1 < miF B0 from Nat.lt_of_not_le z)]
        have eb : wbeg (tkF B0) (lkF B0) (thF B0) (miF B0) o k = nI (W0 B0 o k).1 := by
          unfold wbeg
          rw [if_pos (show (wst (tkF B0) (lkF B0) (thF B0) (miF B0) o k).1 < miF B0 from Nat.lt_of_not_le z)]
        have c47 : ∀ q, r7.2 47 q = upd (S 47) (o k) (nI (W0 B0 o k).1) q := fun q => by rw [k5 47 q rfl, ← hM5]; rfl
        have c48 : ∀ q, r7.2 48 q = S 48 q := fun q => by rw [k5 48 q rfl, ← hM5]; rfl
        have c49 : ∀ q, r7.2 49 q = S 49 q := fun q => by rw [k5 49 q rfl, ← hM5]; rfl
        have c9 : r7.2 16 9 = S 16 9 := by rw [k5 16 9 rfl, ← hM5]; rfl
        have c45 : r7.2 45 (o k) = nI (thF B0 (o k)) := by rw [f7 45 _ rfl]; exact (hth _ hok).1
        have hth6 := (hth _ hok).2
        refine Run.be e7 <| Run.g vr ?_
        rw [jr, k2, k3, nI_add]
        refine Run.i (fun y => ?_) (fun y => ?_)
        · rw [nI_ltI (by omega) (by omega)] at y
          rw [if_neg (by omega)] at ew
          have eh : whad (tkF B0) (lkF B0) (thF B0) (miF B0) o k = 0 := by
            unfold whad
            rw [if_neg (show ¬ ((W0 B0 o k).1 < miF B0 ∧ (W0 B0 o k).1 + tkF B0 (o k) (W0 B0 o k).1 ≤ miF B0) by omega)]
          refine Run.rt ⟨by rw [ew], nI_1 k, f7, k4, by rw [ew]; show _ + _ ≤ 24; omega, by rw [ew]; exact c9.trans h9, fun t ht => ?_, fun j hj => ?_, fun q hq hne => ?_⟩
          · rw [ew]; exact (c49 t).trans (h49 t ht)
          · show r7.2 47 (o j) = _ ∧ r7.2 48 (o j) = _
            rw [c47, c48]
            by_cases e : j = k
            · subst e
              rw [upd_at, eb, eh]
              exact ⟨rfl, (hJ (o j) (by omega) (fun j2 h2 => hod j2 j h2 hk)).2⟩
            · rw [upd_ne (hod j k (by omega) hk)]
              exact hI j (by omega)
          · show r7.2 47 q = _ ∧ r7.2 48 q = _
            rw [c47, c48, upd_ne (fun w => hne k (by omega) w.symm)]
            exact hJ q hq (fun j hj => hne j (by omega))
        · rw [nI_ltI (by omega) (by omega)] at y
          rw [if_pos (by omega)] at ew
          have eh : whad (tkF B0) (lkF B0) (thF B0) (miF B0) o k = lkF B0 (o k) (W0 B0 o k).1 := by
            unfold whad
            rw [if_pos (show (W0 B0 o k).1 < miF B0 ∧ (W0 B0 o k).1 + tkF B0 (o k) (W0 B0 o k).1 ≤ miF B0 by omega)]
          have v6 : vp_in (nI (thF B0 (o k))) 6 := vp_in_nI hth6 (by omega)
          refine Run.g vr <| Run.g v8 <| Run.be rfl ?_
          show Run _ (jgd _ <| jgd _ <| jgd (vp_in (r7.2 45 (o k)) 6) <| jgd _ <| jgd (vp_in (r7.2 45 (o k)) 6) <| Option.bind (some (va_up (va_up r7.2 48 (upd (r7.2 48) (o k) (nI (lkF B0 (o k) (W0 B0 o k).1)))) 49 (upd (r7.2 49) (jx (r7.2 45 (o k))) (((r7.2 49 (jx (r7.2 45 (o k)))) * ((100 : Int32) - upd (r7.2 48) (o k) (nI (lkF B0 (o k) (W0 B0 o k).1)) (o k))) / (100 : Int32))))) _)
          rw [c45, jx_n (show thF B0 (o k) < 2 ^ 31 by omega), c49, h49 _ hth6, upd_at]
          have hmul : (W0 B0 o k).2.2 (thF B0 (o k)) * (100 - lkF B0 (o k) (W0 B0 o k).1) ≤ 1000000 * 100 := Nat.mul_le_mul (hms _) (by omega)
          have ev : nI ((W0 B0 o k).2.2 (thF B0 (o k))) * ((100 : Int32) - nI (lkF B0 (o k) (W0 B0 o k).1)) / (100 : Int32) = nI ((W0 B0 o k).2.2 (thF B0 (o k)) * (100 - lkF B0 (o k) (W0 B0 o k).1) / 100) := by
            rw [lit_n 100, pk_sub t3, pk_mul, pk_div (by omega) (by omega) (by omega)]
          rw [ev]
          refine Run.g v8 <| Run.g v8 <| Run.g v6 <| Run.g v8 <| Run.g v6 <| Run.be rfl <| Run.rt ⟨by rw [ew], nI_1 k, ?_, ?_, by rw [ew]; show _ + _ ≤ 24; omega, ?_, fun t ht => ?_, fun j hj => ?_, fun q hq hne => ?_⟩
          · exact Fr.up (Fr.up (Fr.up f7 (FrC.up FrC.bs rfl)) (FrC.up (FrC.ne rfl FrC.bs) rfl)) (FrC.up FrC.bs rfl)
          · exact k4
          · show r7.2 16 9 + 1 = _
            rw [ew, c9, h9, nI_1]
          · show upd (r7.2 49) (thF B0 (o k)) _ t = _
            rw [ew]
            by_cases e : t = thF B0 (o k)
            · rw [e, upd_at]
              show _ = nI (if thF B0 (o k) = thF B0 (o k) then _ else _)
              rw [if_pos rfl]
            · rw [upd_ne e, c49, h49 t ht]
              show _ = nI (if t = thF B0 (o k) then _ else _)
              rw [if_neg e]
          · show r7.2 47 (o j) = _ ∧ upd (r7.2 48) (o k) _ (o j) = _
            rw [c47]
            by_cases e : j = k
            · subst e
              rw [upd_at, upd_at, eb, eh]
              exact ⟨rfl, rfl⟩
            · rw [upd_ne (hod j k (by omega) hk), upd_ne (hod j k (by omega) hk), c48]
              exact hI j (by omega)
          · show r7.2 47 q = _ ∧ upd (r7.2 48) (o k) _ q = _
            rw [c47, upd_ne (fun w => hne k (by omega) w.symm), upd_ne (fun w => hne k (by omega) w.symm), c48]
            exact hJ q hq (fun j hj => hne j (by omega))
    · rintro ⟨s1, s2, S⟩ ⟨q1, q2, hS, hC, h24, h9, h49, hI, hJ⟩
      have q2 : s2 = nI r := q2
      subst q2
      unfold cX6_walk_43
      exact Run.ip (nI_le (Nat.le_refl _) (by omega)) <| Run.rt ⟨hS, hC, h9, h49, hI⟩
    · intro i m hi hm
      show M 53 _ = 0 ∨ _
      rw [← hM]
      show A3 53 _ = 0 ∨ (A3 53 _ = _ ∧ A3 52 _ = _)
      rw [f3 53 _ rfl, f2 53 _ rfl, f1 53 _ rfl, f3 52 _ rfl, f2 52 _ rfl, f1 52 _ rfl]
      exact hc i m hi hm
    · rw [← hM]
      rfl
  obtain ⟨S, eS, hS, hC, h9, h49, hI⟩ := hl
  rw [eS]
  refine Run.be rfl ?_
  have hw : fX6_worthHad S = some (lN (wsum (W0 B0 o r).2.2 (wF B0) 6)) := by
    have hms := wst_ms (tk := tkF B0) (lk := lkF B0) (th := thF B0) (mi := miF B0) (o := o) r
    have hq : Run (fun x => x = lN (wsum (W0 B0 o r).2.2 (wF B0) 6)) (jwh (cX6_worthHad_4 S) ((0 : Int64), (0 : Int32))) := by
      refine Run.up 6 (fun t s => s = (lN (wsum (W0 B0 o r).2.2 (wF B0) t), nI t)) ?_ ?_ (Nat.zero_le _) rfl
      · rintro t s ht rfl
        obtain ⟨w1, w2⟩ := h19 t ht
        have s19 : S 19 t = nI (wF B0 t) := by rw [hS 19 t rfl]; exact w1
        have v : vp_in (nI t) 6 := vp_in_nI ht (by omega)
        unfold cX6_worthHad_4
        simp only [jx_n (show t < 2 ^ 31 by omega), h49 t ht, s19]
        refine Run.im (nI_ge (b := 6) ht (by omega)) <| Run.g v <| Run.g v <| Run.rt ?_
        show (_, _) = _
        rw [lmil (hms t), nI_l (by omega), lN_mul, lN_add, nI_1]
        rfl
      · rintro s rfl
        unfold cX6_worthHad_4
        exact Run.ip (nI_le (a := 6) (Nat.le_refl _) (by omega)) <| Run.rt rfl
    obtain ⟨x, ex, rfl⟩ := hq
    unfold fX6_worthHad
    rw [ex]
    rfl
  rw [hw]
  exact Run.rt ⟨rfl, hS, hC, h9, h49, hI⟩
