/-! text: the two readers side by side, their smallest doings -/
variable {A T : jA3} {v : Nat → Nat} {z N i n d : Nat}
theorem Steps.push {f : Nat → Int32} {a : Nat} (h : isPush (f a)) : Steps f a (a + 1) := ⟨fun k => if k = a then 0 else 1, if_pos rfl, if_neg (by omega), fun k h1 h2 => by
  have : k = a := by omega
  subst this
  exact Or.inl ⟨h, by show (if k + 1 = k then 0 else 1) = (if k = k then 0 else 1) + 1; rw [if_pos rfl, if_neg (by omega)]⟩⟩
theorem Steps.turn {f : Nat → Int32} {a b : Nat} (hab : a ≤ b) (h : Steps f a b) (ht : isTurn (f b)) : Steps f a (b + 1) := by
  obtain ⟨d, h1, h2, h3⟩ := h
  refine ⟨fun k => if k = b + 1 then 1 else d k, by show (if a = b + 1 then 1 else d a) = 0; rw [if_neg (by omega)]; exact h1, if_pos rfl, fun k ha hb => ?_⟩
  by_cases q : k = b
  · subst q
    refine Or.inr (Or.inl ⟨ht, ?_, ?_⟩)
    · show 1 ≤ (if k = k + 1 then 1 else d k)
      rw [if_neg (by omega), h2]
      exact Nat.le_refl _
    · show (if k + 1 = k + 1 then 1 else d (k + 1)) = (if k = k + 1 then 1 else d k)
      rw [if_pos rfl, if_neg (by omega), h2]
  · have := h3 k ha (by omega)
    show (isPush (f k) ∧ (if k + 1 = b + 1 then 1 else d (k + 1)) = (if k = b + 1 then 1 else d k) + 1) ∨ (isTurn (f k) ∧ 1 ≤ (if k = b + 1 then 1 else d k) ∧ (if k + 1 = b + 1 then 1 else d (k + 1)) = (if k = b + 1 then 1 else d k)) ∨ (isTwo (f k) ∧ 2 ≤ (if k = b + 1 then 1 else d k) ∧ (if k + 1 = b + 1 then 1 else d (k + 1)) + 1 = (if k = b + 1 then 1 else d k))
    rw [if_neg (by omega), if_neg (by omega)]
    exact this
theorem Steps.two {f : Nat → Int32} {a b c : Nat} (hab : a ≤ b) (hbc : b ≤ c) (h : Steps f a b) (h2 : Steps f b c) (ht : isTwo (f c)) : Steps f a (c + 1) := by
  obtain ⟨d, d1, d2, d3⟩ := h
  obtain ⟨g, g1, g2, g3⟩ := h2
  refine ⟨fun k => if k < b then d k else if k = c + 1 then 1 else g k + 1, ?_, ?_, fun k ha hc => ?_⟩
  · show (if a < b then d a else if a = c + 1 then 1 else g a + 1) = 0
    by_cases q : a < b
    · rw [if_pos q]; exact d1
    · have e : a = b := by omega
      subst e
      omega
  · show (if c + 1 < b then d (c + 1) else if c + 1 = c + 1 then 1 else g (c + 1) + 1) = 1
    rw [if_neg (by omega), if_pos rfl]
  · show (isPush (f k) ∧ (if k + 1 < b then d (k + 1) else if k + 1 = c + 1 then 1 else g (k + 1) + 1) = (if k < b then d k else if k = c + 1 then 1 else g k + 1) + 1) ∨ (isTurn (f k) ∧ 1 ≤ (if k < b then d k else if k = c + 1 then 1 else g k + 1) ∧ (if k + 1 < b then d (k + 1) else if k + 1 = c + 1 then 1 else g (k + 1) + 1) = (if k < b then d k else if k = c + 1 then 1 else g k + 1)) ∨ (isTwo (f k) ∧ 2 ≤ (if k < b then d k else if k = c + 1 then 1 else g k + 1) ∧ (if k + 1 < b then d (k + 1) else if k + 1 = c + 1 then 1 else g (k + 1) + 1) + 1 = (if k < b then d k else if k = c + 1 then 1 else g k + 1))
    by_cases q : k < b
    · have := d3 k ha q
      rw [if_pos q]
      by_cases r : k + 1 < b
      · rw [if_pos r]
        exact this
      · have e : k + 1 = b := by omega
        rw [if_neg r, if_neg (by omega), e, g1]
        rw [e, d2] at this
        exact this
    · rw [if_neg q, if_neg (show ¬ k + 1 < b by omega), if_neg (show ¬ k = c + 1 by omega)]
      by_cases r : k = c
      · subst r
        rw [if_pos rfl, g2]
        exact Or.inr (Or.inr ⟨ht, by omega, by omega⟩)
      · have := g3 k (by omega) (by omega)
        rw [if_neg (by omega)]
        rcases this with ⟨x, y⟩ | ⟨x, y, w⟩ | ⟨x, y, w⟩
        · exact Or.inl ⟨x, by omega⟩
        · exact Or.inr (Or.inl ⟨x, by omega, by omega⟩)
        · exact Or.inr (Or.inr ⟨x, by omega, by omega⟩)
theorem Steps.cong {f g : Nat → Int32} {a b : Nat} (h : Steps f a b) (e : ∀ k, a ≤ k → k < b → f k = g k) : Steps g a b := by
  obtain ⟨d, d1, d2, d3⟩ := h
  refine ⟨d, d1, d2, fun k ha hb => ?_⟩
  rw [← e k ha hb]
  exact d3 k ha hb
/-- the tokens: N the last of them -/
def TS (v : Nat → Nat) (z N : Nat) : Prop := z ≤ 160 ∧ N ≤ 160 ∧ (∀ i, i < N → tcd v z i ≠ 0 ∧ tcd v z i ≠ 1) ∧ (tcd v z N = 0 ∨ tcd v z N = 1) ∧ ∀ i, tcd v z i < 20000
/-- the code's table of tokens -/
def TA (A : jA3) (v : Nat → Nat) (z N : Nat) : Prop := A 22 4 = nI (N + 1) ∧ ∀ i, i ≤ N → A 24 i = nI (tcd v z i) ∧ A 25 i = nI (tst v z i)
def TC (T : jA3) (v : Nat → Nat) (z : Nat) : Prop := tpC T v z ∧ (∀ j, T 103 j = KL j) ∧ ∀ j, T 104 j = KM j
/-- no fault so far: token i is next, n steps are written, d are open -/
def OK (A T : jA3) (v : Nat → Nat) (z N i n d : Nat) : Prop := TA A v z N ∧ TC T v z ∧ i ≤ N ∧ n ≤ i ∧ d ≤ 5 ∧ A 21 4 = nI i ∧ A 21 5 = -1 ∧ A 21 3 = nI n ∧ T 94 11 = -1 ∧ T 94 10 = nI n ∧ T 94 12 = nI d ∧ T 94 13 = nI (tst v z i) ∧ T 94 14 = nI (tps v z (i + 1)) ∧ TK T (tcd v z i) ∧ ∀ k, k < n → T 98 (1020 + k) = actOf (A 26 k) ∧ T 99 (1020 + k) = withOf (A 26 k)
/-- a fault at q; the reference may have written up to m steps -/
def FL (A T : jA3) (v : Nat → Nat) (z N m : Nat) : Prop := TA A v z N ∧ TC T v z ∧ ∃ q i m0, q ≤ 160 ∧ i ≤ N ∧ m0 ≤ m ∧ A 21 4 = nI i ∧ A 21 5 = nI q ∧ T 94 11 = nI q ∧ T 94 10 = nI m0
abbrev wPA : List (Nat × Nat × Option Nat) := [(21, 21, none), (26, 26, none)]
abbrev wPC : List (Nat × Nat × Option Nat) := [(94, 94, some 10), (94, 94, some 11), (94, 94, some 12), (94, 94, some 13), (94, 94, some 14), (94, 94, some 15), (94, 94, some 16), (98, 99, none)]
theorem TA.fr {A2 : jA3} (h : TA A v z N) (f : Fr wPA A A2) : TA A2 v z N := ⟨by rw [f 22 4 rfl]; exact h.1, fun i hi => by rw [f 24 i rfl, f 25 i rfl]; exact h.2 i hi⟩
theorem TC.fr {T2 : jA3} (h : TC T v z) (f : Fr wPC T T2) : TC T2 v z := ⟨h.1.fr f rfl (fun _ => rfl), fun j => by rw [f 103 j rfl]; exact h.2.1 j, fun j => by rw [f 104 j rfl]; exact h.2.2 j⟩
/-- next, where a token was taken -/
theorem o_next (h : OK A T v z N i n d) (hi : i < N) (hN : N ≤ 160) : ∃ A2 T2, fX5_next A = some A2 ∧ fX11_next T = some T2 ∧ OK A2 T2 v z N (i + 1) n d ∧ A2 26 = A 26 := by
  obtain ⟨h1, h2, h3, h4, h5, h6, h7, h8, h9, h10, h11, h12, h13, h14, h15⟩ := h
  obtain ⟨T2, e2, f2, a1, a2, a3⟩ := r_nextC h2.2.1 h2.2.2 h2.1 h13
  have e1 : fX5_next A = some (va_up A 21 (upd (A 21) 4 (nI (i + 1)))) := by
    unfold fX5_next
    rw [h1.1, h6, nI_pred, if_neg (nI_ge hi (by omega)), nI_1]
  have f1 : Fr wPA A (va_up A 21 (upd (A 21) 4 (nI (i + 1)))) := Fr.up Fr.rf (FrC.al (fun _ => rfl))
  exact ⟨_, T2, e1, e2, ⟨h1.fr f1, h2.fr (f2.wd rfl), by omega, by omega, h5, rfl, h7, h8, by rw [f2 94 11 rfl]; exact h9, by rw [f2 94 10 rfl]; exact h10, by rw [f2 94 12 rfl]; exact h11, a1, a2, a3, fun k hk => by rw [f2 98 _ rfl, f2 99 _ rfl]; exact h15 k hk⟩, rfl⟩
/-- a step written by both -/
theorem o_write (h : OK A T v z N i n d) (hn : n < i) (hN : N ≤ 160) (x y w : Int32) (hy : y = actOf x) (hw : w = withOf x) : ∃ A2 T2, fX5_write A x = some A2 ∧ fX11_addStep T y w = some T2 ∧ OK A2 T2 v z N i (n + 1) d ∧ A2 26 n = x ∧ ∀ k, k ≠ n → A2 26 k = A 26 k := by
  obtain ⟨h1, h2, h3, h4, h5, h6, h7, h8, h9, h10, h11, h12, h13, h14, h15⟩ := h
  generalize hA2 : va_up (va_up A 26 (upd (A 26) n x)) 21 (upd (A 21) 3 (nI (n + 1))) = A2
  generalize hT2 : va_up (va_up (va_up T 98 (upd (T 98) (1020 + n) y)) 99 (upd (T 99) (1020 + n) w)) 94 (upd (T 94) 10 (nI (n + 1))) = T2
  have e1 : fX5_write A x = some A2 := by
    unfold fX5_write
    rw [h7, if_neg (show ¬ (0 : Int32) ≤ -1 by decide), h8, if_neg (show ¬ (Int32.ofNat 160) ≤ nI n from nI_ge (b := 160) (by omega) (by omega)), jgd_t (vp_in_nI (by omega) (by omega)), jx_n (by omega), ← hA2, ← nI_1]
    show some (va_up (va_up A 26 (upd (A 26) n x)) 21 (upd (A 21) 3 (A 21 3 + 1))) = _
    rw [h8]
  have v1 : vp_in (nI (1020 + n)) 1190 := vp_in_nI (by omega) (by omega)
  have e2 : fX11_addStep T y w = some T2 := by
    unfold fX11_addStep
    rw [h10, lit_n 1020, nI_add, jgd_t v1, jx_n (by omega), ← hT2]
    show jgd (vp_in (nI 1020 + T 94 10) 1190) (some (va_up (va_up (va_up T 98 (upd (T 98) (1020 + n) y)) 99 (upd (T 99) (jx (nI 1020 + T 94 10)) w)) 94 (upd (T 94) 10 (T 94 10 + 1)))) = _
    rw [h10, nI_add, jgd_t v1, jx_n (by omega), nI_1]
  have f1 : Fr wPA A A2 := by rw [← hA2]; exact Fr.up (Fr.up Fr.rf (FrC.al (fun _ => rfl))) (FrC.al (fun _ => rfl))
  have f2 : Fr wPC T T2 := by rw [← hT2]; exact Fr.up (Fr.up (Fr.up Fr.rf (FrC.al (fun _ => rfl))) (FrC.al (fun _ => rfl))) (FrC.up (FrC.ne rfl (FrC.ne rfl FrC.bs)) rfl)
  have a26 : ∀ k, A2 26 k = upd (A 26) n x k := fun k => by rw [← hA2]; rfl
  refine ⟨A2, T2, e1, e2, ⟨h1.fr f1, h2.fr f2, h3, by omega, h5, by rw [← hA2]; exact h6, by rw [← hA2]; exact h7, by rw [← hA2]; rfl, by rw [← hT2]; exact h9, by rw [← hT2]; rfl, by rw [← hT2]; exact h11, by rw [← hT2]; exact h12, by rw [← hT2]; exact h13, ?_, fun k hk => ?_⟩, by rw [a26, upd_at], fun k hk => by rw [a26, upd_ne hk]⟩
  · rw [← hT2]
    exact h14
  · rw [a26, ← hT2]
    show upd (T 98) (1020 + n) y (1020 + k) = _ ∧ upd (T 99) (1020 + n) w (1020 + k) = _
    by_cases q : k = n
    · rw [q, upd_at, upd_at, upd_at]
      exact ⟨hy, hw⟩
    · rw [upd_ne (show 1020 + k ≠ 1020 + n by omega), upd_ne (show 1020 + k ≠ 1020 + n by omega), upd_ne q]
      exact h15 k (by omega)
/-- a fault in both -/
theorem o_fault (h : OK A T v z N i n d) (hN : N ≤ 160) (hz : z ≤ 160) {m : Nat} (hm : n ≤ m) : ∃ A2 T2, fX5_fail A = some A2 ∧ fX11_faulty T = some T2 ∧ FL A2 T2 v z N m := by
  obtain ⟨h1, h2, h3, h4, h5, h6, h7, h8, h9, h10, h11, h12, h13, h14, h15⟩ := h
  have e1 : fX5_fail A = some (va_up A 21 (upd (A 21) 5 (nI (tst v z i)))) := by
    unfold fX5_fail
    rw [h7, if_neg (by decide), h6, jgd_t (vp_in_nI (by omega) (by omega)), jx_n (by omega), (h1.2 i h3).2]
  have e2 : fX11_faulty T = some (va_up T 94 (upd (T 94) 11 (nI (tst v z i)))) := by
    unfold fX11_faulty
    rw [h9, if_neg (by decide), h12]
  have f1 : Fr wPA A (va_up A 21 (upd (A 21) 5 (nI (tst v z i)))) := Fr.up Fr.rf (FrC.al (fun _ => rfl))
  have f2 : Fr wPC T (va_up T 94 (upd (T 94) 11 (nI (tst v z i)))) := Fr.up Fr.rf (FrC.up FrC.bs rfl)
  have hst := tst_le (v := v) (z := z) (i := i)
  exact ⟨_, _, e1, e2, h1.fr f1, h2.fr f2, tst v z i, i, n, by omega, h3, hm, h6, rfl, rfl, h10⟩
