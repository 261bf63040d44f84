/-! THE LAW: its loop -/
theorem le_of_lit {n i : Nat} (hn : n ≤ 3584) (hi : i ≤ n + 7) (h : ¬ nI n - 7 < nI i) : i + 7 ≤ n := by
  rcases Nat.lt_or_ge n 7 with w | w
  · refine absurd ?_ h
    rw [Int32.lt_iff_toInt_lt]
    have e : (nI i).toInt = i := nI_toInt (by omega)
    rw [e]
    have : (nI n - 7).toInt < 0 := by
      have : n = 0 ∨ n = 1 ∨ n = 2 ∨ n = 3 ∨ n = 4 ∨ n = 5 ∨ n = 6 := by omega
      rcases this with w | w | w | w | w | w | w <;> subst w <;> decide
    omega
  · rw [show (7 : Int32) = nI 7 from rfl, pk_sub w] at h
    rcases Nat.lt_or_ge n (i + 7) with w2 | w2
    · exact absurd (nI_lt (show n - 7 < i by omega) (by omega)) h
    · exact w2
theorem law_1821 {n i : Nat} {A : jA3} {L : jL3} : WL n 1821 i A L := by
  refine jWP.intro (pr := pL_law) (pc := 1821) ?_
  exact y_mpri (bs := [false, false, false, false]) (ls := [some (.ref 0), some (.ref 15), some (.ref 94), some (.int (nI i))]) ⟨rfl, rfl⟩
theorem law_1815 {n i : Nat} {A : jA3} {L : jL3} (next : WL n 18 (i + 7) A L) : WL n 1815 i A L := by
  refine jWP.intro (pr := pL_law) (pc := 1815) ?_
  refine y_mask <| x_iinc (x := nI i) rfl rfl <| y_mask <| y_goto ?_
  have e : nI i + 7 = nI (i + 7) := by rw [show (7 : Int32) = nI 7 from rfl, nI_add]
  show jWP _ _ _ pL_law 18 [some (.ref 0), some (.ref 15), some (.ref 94), some (.int (nI i + 7))] [] _
  rw [e]
  exact next
set_option maxRecDepth 20000 in
theorem law_27 {n i : Nat} {A : jA3} {L : jL3} (hn : n ≤ 3584) (hi : i + 7 ≤ n) (h : Rel A A) (next : ∀ A2 L2, Rel A2 A2 → WL n 1815 i A2 L2) : WL n 27 i A L := by
  have v0 : vp_in (nI i) n := vp_in_nI (by omega) (by omega)
  refine jWP.intro (pr := pL_law) (pc := 27) ?_
  refine y_mask <| x_aload rfl <| x_iload rfl <| x_iald rfl v0 <| x_push <| x_iand <| y_sw ?_
  refine y_case (fun _ => law_224 hn hi h next) (fun _ => ?_)
  refine y_case (fun _ => law_257 hn hi h next) (fun _ => ?_)
  refine y_case (fun _ => law_290 hn hi h next) (fun _ => ?_)
  refine y_case (fun _ => law_313 hn hi h next) (fun _ => ?_)
  refine y_case (fun _ => law_336 hn hi h next) (fun _ => ?_)
  refine y_case (fun _ => law_399 hn hi h next) (fun _ => ?_)
  refine y_case (fun _ => law_412 hn hi h next) (fun _ => ?_)
  refine y_case (fun _ => law_435 hn hi h next) (fun _ => ?_)
  refine y_case (fun _ => law_478 hn hi h next) (fun _ => ?_)
  refine y_case (fun _ => law_521 hn hi h next) (fun _ => ?_)
  refine y_case (fun _ => law_564 hn hi h next) (fun _ => ?_)
  refine y_case (fun _ => law_588 hn hi h next) (fun _ => ?_)
  refine y_case (fun _ => law_621 hn hi h next) (fun _ => ?_)
  refine y_case (fun _ => law_645 hn hi h next) (fun _ => ?_)
  refine y_case (fun _ => law_669 hn hi h next) (fun _ => ?_)
  refine y_case (fun _ => law_682 hn hi h next) (fun _ => ?_)
  refine y_case (fun _ => law_695 hn hi h next) (fun _ => ?_)
  refine y_case (fun _ => law_728 hn hi h next) (fun _ => ?_)
  refine y_case (fun _ => law_771 hn hi h next) (fun _ => ?_)
  refine y_case (fun _ => law_815 hn hi h next) (fun _ => ?_)
  refine y_case (fun _ => law_838 hn hi h next) (fun _ => ?_)
  refine y_case (fun _ => law_871 hn hi h next) (fun _ => ?_)
  refine y_case (fun _ => law_904 hn hi h next) (fun _ => ?_)
  refine y_case (fun _ => law_947 hn hi h next) (fun _ => ?_)
  refine y_case (fun _ => law_1001 hn hi h next) (fun _ => ?_)
  refine y_case (fun _ => law_1054 hn hi h next) (fun _ => ?_)
  refine y_case (fun _ => law_1087 hn hi h next) (fun _ => ?_)
  refine y_case (fun _ => law_1110 hn hi h next) (fun _ => ?_)
  refine y_case (fun _ => law_1133 hn hi h next) (fun _ => ?_)
  refine y_case (fun _ => law_1166 hn hi h next) (fun _ => ?_)
  refine y_case (fun _ => law_1210 hn hi h next) (fun _ => ?_)
  refine y_case (fun _ => law_1253 hn hi h next) (fun _ => ?_)
  refine y_case (fun _ => law_1349 hn hi h next) (fun _ => ?_)
  refine y_case (fun _ => law_1392 hn hi h next) (fun _ => ?_)
  refine y_case (fun _ => law_1435 hn hi h next) (fun _ => ?_)
  refine y_case (fun _ => law_1478 hn hi h next) (fun _ => ?_)
  refine y_case (fun _ => law_1521 hn hi h next) (fun _ => ?_)
  refine y_case (fun _ => law_1554 hn hi h next) (fun _ => ?_)
  refine y_case (fun _ => law_1567 hn hi h next) (fun _ => ?_)
  refine y_case (fun _ => law_1580 hn hi h next) (fun _ => ?_)
  refine y_case (fun _ => law_1623 hn hi h next) (fun _ => ?_)
  refine y_case (fun _ => law_1666 hn hi h next) (fun _ => ?_)
  refine y_case (fun _ => law_1729 hn hi h next) (fun _ => ?_)
  refine y_case (fun _ => law_1782 hn hi h next) (fun _ => ?_)
  exact y_dflt (next A L h)
theorem law_18 {n : Nat} (hn : n ≤ 3584) : ∀ (k i : Nat) (A : jA3) (L : jL3), n + 7 - i ≤ k → i ≤ n + 7 → Rel A A → WL n 18 i A L := by
  intro k
  induction k with
  | zero =>
    intro i A L hk hi h
    refine jWP.intro (pr := pL_law) (pc := 18) ?_
    refine y_mask <| x_iload rfl <| x_aload rfl <| x_alen rfl (Or.inl rfl) <| x_push <| x_isub <| y_cmp_gt (fun _ => ?_) (fun q => ?_)
    · exact law_1821
    · have := le_of_lit hn hi q
      omega
  | succ k ih =>
    intro i A L hk hi h
    refine jWP.intro (pr := pL_law) (pc := 18) ?_
    refine y_mask <| x_iload rfl <| x_aload rfl <| x_alen rfl (Or.inl rfl) <| x_push <| x_isub <| y_cmp_gt (fun _ => ?_) (fun q => ?_)
    · exact law_1821
    · have hi2 := le_of_lit hn hi q
      exact law_27 hn hi2 h fun A2 L2 h2 => law_1815 (ih (i + 7) A2 L2 (by omega) (by omega) h2)
