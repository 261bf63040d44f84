/-! what a row is worth, the reference's way -/
variable {B C : jA3} {n : Nat}
abbrev wWo : List (Nat × Nat × Option Nat) := [(94, 94, some 29), (101, 102, none), (109, 110, none)]
abbrev jL3 : Type := Nat → Nat → Int64
theorem vl_at (L : jL3) (c i : Nat) (v : Int64) : va_up L c (vp_updL (L c) i v) c i = v := by rw [ju_same, pk_uLs]
theorem vl_ne (L : jL3) (c i : Nat) (v : Int64) {j : Nat} (h : j ≠ i) : va_up L c (vp_updL (L c) i v) c j = L c j := by rw [ju_same, pk_uLn h]
theorem r_worth {T B0 : jA3} {L : jL3} {o : Nat → Nat} {r : Nat} (hB : RN B0 T) (hn0 : B0 16 5 = nI n) (h8 : n ≤ 8) (hr : Row n r o) (ho : ∀ k, k < r → T 108 k = nI (o k)) (hr2 : T 94 25 = nI r) (h96 : ∀ t, t < 6 → T 96 t = nI (wF B0 t) ∧ wF B0 t < 100) : Run (fun x => x.1 = lN (wsum (W0 B0 o r).2.2 (wF B0) 6) ∧ Fr wWo T x.2.1 ∧ x.2.1 94 29 = nI (W0 B0 o r).2.1 ∧ (∀ t, t < 6 → x.2.2 111 t = lN ((W0 B0 o r).2.2 t)) ∧ (∀ k, k < r → x.2.1 109 k = wbeg (tkF B0) (lkF B0) (thF B0) (miF B0) o k ∧ x.2.1 110 k = nI (whad (tkF B0) (lkF B0) (thF B0) (miF B0) o k)) ∧ x.2.2 94 = L 94) (fX11_worthOf T L) := by
  obtain ⟨hr8, hon, hod⟩ := hr
  obtain ⟨-, hNear, -, hSay, mi, m1, m2, m3⟩ := id hB
  have emi : miF B0 = mi := by
    unfold miF
    rw [m3]
    exact jx_n (by omega)
  subst emi
  obtain ⟨n2, a1, a2, -, a4⟩ := say_un hSay
  have en : n2 = n := by
    rw [hn0, nI_eq (by omega) (by omega)] at a2
    omega
  subst en
  have hth : ∀ i, i < n2 → T 106 i = nI (thF B0 i) ∧ thF B0 i < 6 := fun i hi => by
    obtain ⟨k, t, mo, q1, q2, q3, q4, q5, q6, q7, q8, q9⟩ := a4 i hi
    unfold thF
    rw [q8, q5, jx_n (by omega)]
    exact ⟨rfl, q2⟩
  have t95 : T 95 5 = nI (miF B0) := by rw [hNear.2 5 (by omega) (by omega)]; exact m3
  unfold fX11_worthOf
  generalize hM : va_up T 94 (upd (T 94) 29 (0 : Int32)) = M
  have fM : Fr wWo T M := by
    rw [← hM]
    exact Fr.up Fr.rf (FrC.up FrC.bs rfl)
  have h1 : Run (fun L2 => (∀ t, t < 6 → L2 111 t = lN 1000000) ∧ L2 94 = L 94) (jwh (cX11_worthOf_9 M (0 : Int32)) ((0 : Int32), L)) := by
    refine Run.up 6 (fun k s => s.1 = nI k ∧ (∀ t, t < k → s.2 111 t = lN 1000000) ∧ s.2 94 = L 94) ?_ ?_ (Nat.zero_le _) ⟨rfl, fun t ht => absurd ht (Nat.not_lt_zero _), rfl⟩
    · rintro k ⟨s1, L1⟩ hk ⟨e, hI, hJ⟩
      have e : s1 = nI k := e
      subst e
      unfold cX11_worthOf_9
      rw [jx_n (by omega)]
      refine Run.im (nI_ge (b := 6) hk (by omega)) <| Run.g (vp_in_nI hk (by omega)) <| Run.rt ⟨nI_1 k, fun t ht => ?_, hJ⟩
      show va_up L1 111 (vp_updL (L1 111) k 1000000) 111 t = _
      by_cases e : t = k
      · subst e; exact vl_at _ _ _ _
      · rw [vl_ne _ _ _ _ e]; exact hI t (by omega)
    · rintro ⟨s1, L1⟩ ⟨e, hI, hJ⟩
      have e : s1 = nI 6 := e
      subst e
      unfold cX11_worthOf_9
      exact Run.ip (nI_le (a := 6) (Nat.le_refl _) (by omega)) <| Run.rt ⟨hI, hJ⟩
  obtain ⟨L1, eL, hL1, hL94⟩ := h1
  rw [eL]
  refine Run.be rfl ?_
  have hl : Run (fun x => Fr wWo T x.1 ∧ x.1 94 29 = nI (W0 B0 o r).2.1 ∧ (∀ t, t < 6 → x.2 111 t = lN ((W0 B0 o r).2.2 t)) ∧ (∀ k, k < r → x.1 109 k = wbeg (tkF B0) (lkF B0) (thF B0) (miF B0) o k ∧ x.1 110 k = nI (whad (tkF B0) (lkF B0) (thF B0) (miF B0) o k)) ∧ x.2 94 = L 94) (jwh cX11_worthOf_32 ((0 : Int32), (0 : Int32), M, L1)) := by
    refine Run.up r (fun k s => s.1 = nI (W0 B0 o k).1 ∧ s.2.1 = nI k ∧ Fr wWo T s.2.2.1 ∧ (W0 B0 o k).1 ≤ 24 ∧ s.2.2.1 94 29 = nI (W0 B0 o k).2.1 ∧ (∀ t, t < 6 → s.2.2.2 111 t = lN ((W0 B0 o k).2.2 t)) ∧ (∀ j, j < k → s.2.2.1 109 j = wbeg (tkF B0) (lkF B0) (thF B0) (miF B0) o j ∧ s.2.2.1 110 j = nI (whad (tkF B0) (lkF B0) (thF B0) (miF B0) o j)) ∧ s.2.2.2 94 = L 94) ?_ ?_ (Nat.zero_le _) ⟨rfl, rfl, fM, by show 0 ≤ 24; omega, by show M 94 29 = _; rw [← hM]; rfl, hL1, fun j hj => absurd hj (Nat.not_lt_zero _), hL94⟩
    · rintro k ⟨s1, s2, S, L2⟩ hk ⟨q1, q2, hS, h24, h9, h111, hI, h94⟩
      have q1 : s1 = nI (W0 B0 o k).1 := q1
      have q2 : s2 = nI k := q2
      subst q1 q2
      have hS : Fr wWo T S := hS
      have h9 : S 94 29 = nI (W0 B0 o k).2.1 := h9
      have h111 : ∀ t, t < 6 → L2 111 t = lN ((W0 B0 o k).2.2 t) := h111
      have h94 : L2 94 = L 94 := h94
      have hI : ∀ j, j < k → S 109 j = wbeg (tkF B0) (lkF B0) (thF B0) (miF B0) o j ∧ S 110 j = nI (whad (tkF B0) (lkF B0) (thF B0) (miF B0) o j) := hI
      have hms := wst_ms (tk := tkF B0) (lk := lkF B0) (th := thF B0) (mi := miF B0) (o := o) k
      have hin := wst_in (tk := tkF B0) (lk := lkF B0) (th := thF B0) (mi := miF B0) (o := o) k
      have hok := hon k hk
      have s25 : S 94 25 = nI r := by rw [hS 94 25 rfl]; exact hr2
      have vk : vp_in (nI k) 8 := vp_in_nI (by omega) (by omega)
      unfold cX11_worthOf_32
      simp only [jx_n (show k < 2 ^ 31 by omega), s25]
      refine Run.im (nI_ge hk (by omega)) <| Run.g vk <| Run.be rfl <| Run.g vk <| Run.be rfl ?_
      generalize hM6 : va_up (va_up S 109 (upd (S 109) k (-1))) 110 (upd (va_up S 109 (upd (S 109) k (-1)) 110) k 0) = M6'
      have f6 : Fr wWo T M6' := by
        rw [← hM6]
        exact Fr.up (Fr.up hS (FrC.up FrC.bs rfl)) (FrC.up FrC.bs rfl)
      have m95 : M6' 95 5 = nI (miF B0) := by rw [f6 95 5 rfl]; exact t95
      have m108 : M6' 108 k = nI (o k) := by rw [f6 108 k rfl]; exact ho k hk
      have c109 : ∀ q, M6' 109 q = upd (S 109) k (-1) q := fun q => by rw [← hM6]; rfl
      have c110 : ∀ q, M6' 110 q = upd (S 110) k 0 q := fun q => by rw [← hM6]; rfl
      have c29 : M6' 94 29 = S 94 29 := by rw [← hM6]; rfl
      rw [m95, m108]
      refine Run.i (fun z => ?_) (fun z => ?_)
      · rw [nI_ltI (by omega) (by omega)] at z
        refine Run.g vk <| Run.g vk <| Run.be rfl ?_
        generalize hM11 : va_up M6' 109 (upd (M6' 109) k (nI (W0 B0 o k).1)) = M11
        have f11 : Fr wWo T M11 := by
          rw [← hM11]
          exact Fr.up f6 (FrC.up FrC.bs rfl)
        have hR1 : RN B0 M11 := hB.fr (Fr.rf (ws := [])) f11 rfl rfl rfl rfl rfl rfl rfl rfl
        obtain ⟨-, t1, t2, -, t3, -, T1, e1⟩ := vals hR1 hn0 h8 hok (W0 B0 o k).1
        have g1 : Fr [(101, 102, none)] M11 T1 := (w_fX11_likely e1).wd rfl
        have hR2 : RN B0 T1 := hR1.fr (Fr.rf (ws := [])) g1 rfl rfl rfl rfl rfl rfl rfl rfl
        obtain ⟨-, -, -, -, -, ⟨T2, e2⟩, -⟩ := vals hR2 hn0 h8 hok (W0 B0 o k).1
        have g2 : Fr [(101, 102, none)] T1 T2 := (w_fX11_takesIn e2).wd rfl
        have g12 : Fr [(101, 102, none)] M11 T2 := g1.tr g2
        have f2 : Fr wWo T T2 := f11.tr (g12.wd rfl)
        have u95 : T2 95 5 = nI (miF B0) := by rw [f2 95 5 rfl]; exact t95
        have u109 : ∀ q, T2 109 q = upd (S 109) k (nI (W0 B0 o k).1) q := fun q => by
          rw [g12 109 q rfl, ← hM11]
          show upd (M6' 109) k _ q = _
          by_cases e : q = k
          · subst e; rw [upd_at, upd_at]
          · rw [upd_ne e, upd_ne e, c109, upd_ne e]
        have u110 : ∀ q, T2 110 q = upd (S 110) k 0 q := fun q => by
          rw [g12 110 q rfl, ← hM11]
          exact c110 q
        have u29 : T2 94 29 = nI (W0 B0 o k).2.1 := by
          rw [g12 94 29 rfl, ← hM11]
          exact c29.trans h9
        have u106 : T2 106 (o k) = nI (thF B0 (o k)) := by rw [f2 106 _ rfl]; exact (hth _ hok).1
        have hth6 := (hth _ hok).2
        have ew : W0 B0 o (k + 1) = (if (W0 B0 o k).1 + tkF B0 (o k) (W0 B0 o k).1 ≤ miF B0 then ((W0 B0 o k).1 + tkF B0 (o k) (W0 B0 o k).1, (W0 B0 o k).2.1 + 1, fun t => if t = thF B0 (o k) then (W0 B0 o k).2.2 t * (100 - lkF B0 (o k) (W0 B0 o k).1) / 100 else (W0 B0 o k).2.2 t) else ((W0 B0 o k).1 + tkF B0 (o k) (W0 B0 o k).1, (W0 B0 o k).2.1, (W0 B0 o k).2.2)) := by
          show wst _ _ _ _ _ (k + 1) = _
          rw [wst, if_pos (show (wst (tkF B0) (lkF B0) (thF B0) (miF B0) o k).1 < miF B0 from z)]
        have eb : wbeg (tkF B0) (lkF B0) (thF B0) (miF B0) o k = nI (W0 B0 o k).1 := by
          unfold wbeg
          rw [if_pos (show (wst (tkF B0) (lkF B0) (thF B0) (miF B0) o k).1 < miF B0 from z)]
        refine Run.be e1 <| Run.be e2 ?_
        show Run _ (if nI (W0 B0 o k).1 + nI (tkF B0 (o k) (W0 B0 o k).1) ≤ T2 95 5 then _ else _)
        rw [u95, nI_add]
        refine Run.i (fun y => ?_) (fun y => ?_)
        · rw [nI_leI (by omega) (by omega)] at y
          rw [if_pos y] at ew
          have eh : whad (tkF B0) (lkF B0) (thF B0) (miF B0) o k = lkF B0 (o k) (W0 B0 o k).1 := by
            unfold whad
            rw [if_pos (show (W0 B0 o k).1 < miF B0 ∧ (W0 B0 o k).1 + tkF B0 (o k) (W0 B0 o k).1 ≤ miF B0 from ⟨z, y⟩)]
          have v8 : vp_in (nI (o k)) 8 := vp_in_nI (by omega) (by omega)
          have v6 : vp_in (nI (thF B0 (o k))) 6 := vp_in_nI hth6 (by omega)
          rw [jx_n (show o k < 2 ^ 31 by omega)]
          refine Run.g vk <| Run.be rfl ?_
          show Run _ (jgd _ <| jgd _ <| jgd (vp_in (T2 106 (o k)) 6) <| jgd (vp_in (T2 106 (o k)) 6) <| Option.bind (some (va_up L2 111 (vp_updL (L2 111) (jx (T2 106 (o k))) (((L2 111 (jx (T2 106 (o k)))) * (((100 : Int32) - nI (lkF B0 (o k) (W0 B0 o k).1)).toInt64)) / (100 : Int64))))) _)
          rw [u106, jx_n (show thF B0 (o k) < 2 ^ 31 by omega), h111 _ hth6]
          have hmul : (W0 B0 o k).2.2 (thF B0 (o k)) * (100 - lkF B0 (o k) (W0 B0 o k).1) ≤ 1000000 * 100 := Nat.mul_le_mul (hms _) (by omega)
          have ev : lN ((W0 B0 o k).2.2 (thF B0 (o k))) * (((100 : Int32) - nI (lkF B0 (o k) (W0 B0 o k).1)).toInt64) / (100 : Int64) = lN ((W0 B0 o k).2.2 (thF B0 (o k)) * (100 - lkF B0 (o k) (W0 B0 o k).1) / 100) := by
            rw [lit_n 100, pk_sub t3, nI_l (by omega), lN_mul]
            show lN _ / lN 100 = _
            rw [pk_lDiv (by omega) (by omega) (by omega)]
          rw [ev]
          refine Run.g v8 <| Run.g v8 <| Run.g v6 <| Run.g v6 <| Run.be rfl <| Run.rt ⟨by rw [ew], nI_1 k, ?_, by rw [ew]; show _ + _ ≤ 24; omega, ?_, fun t ht => ?_, fun j hj => ?_, h94⟩
          · exact Fr.up (Fr.up f2 (FrC.up FrC.bs rfl)) (FrC.up (FrC.ne rfl FrC.bs) rfl)
          · show T2 94 29 + 1 = _
            rw [ew, u29, nI_1]
          · show va_up L2 111 (vp_updL (L2 111) (thF B0 (o k)) _) 111 t = _
            rw [ew]
            by_cases e : t = thF B0 (o k)
            · rw [e, vl_at]
              show _ = lN (if thF B0 (o k) = thF B0 (o k) then _ else _)
              rw [if_pos rfl]
            · rw [vl_ne _ _ _ _ e, h111 t ht]
              show _ = lN (if t = thF B0 (o k) then _ else _)
              rw [if_neg e]
          · show T2 109 j = _ ∧ upd (T2 110) k _ j = _
            rw [u109]
            by_cases e : j = k
            · subst e
              rw [upd_at, upd_at, eb, eh]
              exact ⟨rfl, rfl⟩
            · rw [upd_ne e, upd_ne e, u110, upd_ne e]
              exact hI j (by omega)
        · rw [nI_leI (by omega) (by omega)] at y
          rw [if_neg y] at ew
          have eh : whad (tkF B0) (lkF B0) (thF B0) (miF B0) o k = 0 := by
            unfold whad
            rw [if_neg (show ¬ ((W0 B0 o k).1 < miF B0 ∧ (W0 B0 o k).1 + tkF B0 (o k) (W0 B0 o k).1 ≤ miF B0) from fun w => y w.2)]
          refine Run.rt ⟨by rw [ew], nI_1 k, f2, by rw [ew]; show _ + _ ≤ 24; omega, by rw [ew]; exact u29, fun t ht => ?_, fun j hj => ?_, h94⟩
          · rw [ew]; exact h111 t ht
          · show T2 109 j = _ ∧ T2 110 j = _
            rw [u109, u110]
            by_cases e : j = k
            · subst e
              rw [upd_at, upd_at, eb, eh]
              exact ⟨rfl, rfl⟩
            · rw [upd_ne e, upd_ne e]
              exact hI j (by omega)
      · rw [nI_ltI (by omega) (by omega)] at z
        have ew : W0 B0 o (k + 1) = W0 B0 o k := by
          show wst _ _ _ _ _ (k + 1) = _
          rw [wst, if_neg (show ¬ (wst (tkF B0) (lkF B0) (thF B0) (miF B0) o k).1 < miF B0 from z)]
        have eb : wbeg (tkF B0) (lkF B0) (thF B0) (miF B0) o k = -1 := by
          unfold wbeg
          rw [if_neg (show ¬ (wst (tkF B0) (lkF B0) (thF B0) (miF B0) o k).1 < miF B0 from z)]
        have eh : whad (tkF B0) (lkF B0) (thF B0) (miF B0) o k = 0 := by
          unfold whad
          rw [if_neg (show ¬ ((W0 B0 o k).1 < miF B0 ∧ (W0 B0 o k).1 + tkF B0 (o k) (W0 B0 o k).1 ≤ miF B0) from fun w => z w.1)]
        refine Run.rt ⟨by rw [ew], nI_1 k, f6, by rw [ew]; exact h24, by rw [ew]; exact c29.trans h9, fun t ht => ?_, fun j hj => ?_, h94⟩
        · rw [ew]; exact h111 t ht
        · show M6' 109 j = _ ∧ M6' 110 j = _
          rw [c109, c110]
          by_cases e : j = k
          · subst e
            rw [upd_at, upd_at, eb, eh]
            exact ⟨rfl, rfl⟩
          · rw [upd_ne e, upd_ne e]
            exact hI j (by omega)
    · rintro ⟨s1, s2, S, L2⟩ ⟨q1, q2, hS, h24, h9, h111, hI, h94⟩
      have q2 : s2 = nI r := q2
      subst q2
      have s25 : S 94 25 = nI r := by rw [show S 94 25 = T 94 25 from hS 94 25 rfl]; exact hr2
      unfold cX11_worthOf_32
      simp only [s25]
      exact Run.ip (nI_le (Nat.le_refl _) (by omega)) <| Run.rt ⟨hS, h9, h111, hI, h94⟩
  obtain ⟨⟨S, L2⟩, eS, hS, h9, h111, hI, h94⟩ := hl
  rw [eS]
  refine Run.be rfl ?_
  have hms := wst_ms (tk := tkF B0) (lk := lkF B0) (th := thF B0) (mi := miF B0) (o := o) r
  have hq : Run (fun x => x = lN (wsum (W0 B0 o r).2.2 (wF B0) 6)) (jwh (cX11_worthOf_173 S L2) ((0 : Int64), (0 : Int32))) := by
    refine Run.up 6 (fun t s => s = (lN (wsum (W0 B0 o r).2.2 (wF B0) t), nI t)) ?_ ?_ (Nat.zero_le _) rfl
    · rintro t s ht rfl
      obtain ⟨w1, w2⟩ := h96 t ht
      have s96 : S 96 t = nI (wF B0 t) := by rw [show S 96 t = T 96 t from hS 96 t rfl]; exact w1
      have l111 : L2 111 t = lN ((W0 B0 o r).2.2 t) := h111 t ht
      have v : vp_in (nI t) 6 := vp_in_nI ht (by omega)
      unfold cX11_worthOf_173
      simp only [jx_n (show t < 2 ^ 31 by omega), l111, s96]
      refine Run.im (nI_ge (b := 6) ht (by omega)) <| Run.g v <| Run.g v <| Run.rt ?_
      show (lN _ + (lN 1000000 - lN _) * _, _) = _
      rw [lN_sub (hms t), nI_l (by omega), lN_mul, lN_add, nI_1]
      rfl
    · rintro s rfl
      unfold cX11_worthOf_173
      exact Run.ip (nI_le (a := 6) (Nat.le_refl _) (by omega)) <| Run.rt rfl
  obtain ⟨x, ex, rfl⟩ := hq
  show Run _ (Option.bind (jwh (cX11_worthOf_173 S L2) ((0 : Int64), (0 : Int32))) _)
  rw [ex]
  exact Run.rt ⟨rfl, hS, h9, h111, hI, h94⟩
