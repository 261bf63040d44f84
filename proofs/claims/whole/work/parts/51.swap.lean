/-! best: more than five sayings, exchange while better -/
variable {B C B0 : jA3} {n : Nat}
theorem wv_cong {r : Nat} {o o2 : Nat → Nat} (h : ∀ k, k < r → o k = o2 k) : wv B0 o r = wv B0 o2 r := by
  show wsum (W0 B0 o r).2.2 (wF B0) 6 = wsum (W0 B0 o2 r).2.2 (wF B0) 6
  rw [show W0 B0 o r = W0 B0 o2 r from wst_cong r h]
def sw (o : Nat → Nat) (i j k : Nat) : Nat := if k = j then o i else if k = i then o j else o k
theorem sw_sw (o : Nat → Nat) (i j k : Nat) : sw (sw o i j) i j k = o k := by
  unfold sw
  by_cases h1 : k = j
  · rw [if_pos h1, h1]
    by_cases h2 : i = j
    · rw [if_pos h2, h2]
    · rw [if_neg h2, if_pos rfl]
  · rw [if_neg h1]
    by_cases h2 : k = i
    · rw [if_pos h2, if_pos rfl, h2]
    · rw [if_neg h2, if_neg h1, if_neg h2]
theorem sw_id (o : Nat → Nat) (i k : Nat) : sw o i i k = o k := by
  unfold sw
  split
  · next h => rw [h]
  · rfl
theorem sw_row {o : Nat → Nat} {i j : Nat} (h : Row n n o) (hi : i < n) (hj : j < n) : Row n n (sw o i j) := by
  obtain ⟨h1, h2, h3⟩ := h
  have hne : ∀ a b, a < n → b < n → a ≠ b → o a ≠ o b := fun a b ha hb q => by
    rcases Nat.lt_or_ge a b with r | r
    · exact h3 a b r hb
    · exact fun z => h3 b a (by omega) ha z.symm
  refine ⟨h1, fun k hk => ?_, fun a b hab hb => ?_⟩
  · unfold sw
    split
    · exact h2 i hi
    · split
      · exact h2 j hj
      · exact h2 k hk
  · unfold sw
    by_cases a1 : a = j
    · by_cases b1 : b = j
      · omega
      · by_cases b2 : b = i
        · rw [if_pos a1, if_neg b1, if_pos b2]
          exact hne i j hi hj (by omega)
        · rw [if_pos a1, if_neg b1, if_neg b2]
          exact hne i b hi hb (by omega)
    · by_cases b1 : b = j
      · by_cases a2 : a = i
        · rw [if_neg a1, if_pos a2, if_pos b1]
          exact hne j i hj hi (by omega)
        · rw [if_neg a1, if_neg a2, if_pos b1]
          exact hne a i (by omega) hi (by omega)
      · by_cases a2 : a = i
        · by_cases b2 : b = i
          · omega
          · rw [if_neg a1, if_pos a2, if_neg b1, if_neg b2]
            exact hne j b hj hb (by omega)
        · by_cases b2 : b = i
          · rw [if_neg a1, if_neg a2, if_neg b1, if_pos b2]
            exact hne a j (by omega) hj (by omega)
          · rw [if_neg a1, if_neg a2, if_neg b1, if_neg b2]
            exact h3 a b hab hb
def SA (B0 : jA3) (n : Nat) (A : jA3) (o : Nat → Nat) : Prop := Fr wCB B0 A ∧ CK B0 A n ∧ ∀ k, k < n → A 50 k = nI (o k)
def SC (C : jA3) (n : Nat) (T : jA3) (o : Nat → Nat) : Prop := Fr wCC C T ∧ T 94 25 = nI n ∧ ∀ k, k < n → T 108 k = nI (o k)
theorem exA {A : jA3} {o : Nat → Nat} {i j : Nat} (h : SA B0 n A o) (h8 : n ≤ 8) (hi : i < n) (hj : j < n) : ∃ A2, fX6_exchange A (nI i) (nI j) = some A2 ∧ SA B0 n A2 (sw o i j) ∧ Fr [(50, 50, none)] A A2 := by
  obtain ⟨h1, h2, h3⟩ := h
  have v1 : vp_in (nI i) 8 := vp_in_nI (by omega) (by omega)
  have v2 : vp_in (nI j) 8 := vp_in_nI (by omega) (by omega)
  refine ⟨va_up (va_up A 50 (upd (A 50) i (A 50 j))) 50 (upd (upd (A 50) i (A 50 j)) j (A 50 i)), ?_, ?_⟩
  · unfold fX6_exchange
    rw [jgd_t v1, jgd_t v2, jgd_t v1, jx_n (by omega), jx_n (by omega)]
    show jgd _ _ = _
    rw [jgd_t v2]
    rfl
  · have f : Fr [(50, 50, none)] A (va_up (va_up A 50 (upd (A 50) i (A 50 j))) 50 (upd (upd (A 50) i (A 50 j)) j (A 50 i))) := Fr.up (Fr.up Fr.rf (FrC.al (fun _ => rfl))) (FrC.al (fun _ => rfl))
    refine ⟨⟨h1.tr (f.wd rfl), fun a m ha hm => ?_, fun k hk => ?_⟩, f⟩
    · rw [f 53 _ rfl, f 52 _ rfl]
      exact h2 a m ha hm
    · show upd (upd (A 50) i (A 50 j)) j (A 50 i) k = nI (sw o i j k)
      unfold sw
      by_cases q : k = j
      · rw [if_pos q, q, upd_at]
        exact h3 i hi
      · rw [if_neg q, upd_ne q]
        by_cases r : k = i
        · rw [if_pos r, r, upd_at]
          exact h3 j hj
        · rw [if_neg r, upd_ne r]
          exact h3 k hk
theorem exC {T : jA3} {o : Nat → Nat} {i j : Nat} (h : SC C n T o) (h8 : n ≤ 8) (hi : i < n) (hj : j < n) : ∃ T2, fX11_exchange T (nI i) (nI j) = some T2 ∧ SC C n T2 (sw o i j) ∧ T2 112 = T 112 := by
  obtain ⟨h1, h2, h3⟩ := h
  have v1 : vp_in (nI i) 8 := vp_in_nI (by omega) (by omega)
  have v2 : vp_in (nI j) 8 := vp_in_nI (by omega) (by omega)
  refine ⟨va_up (va_up T 108 (upd (T 108) i (T 108 j))) 108 (upd (upd (T 108) i (T 108 j)) j (T 108 i)), ?_, ⟨?_, h2, fun k hk => ?_⟩, rfl⟩
  · unfold fX11_exchange
    rw [jgd_t v1, jgd_t v2, jgd_t v1, jx_n (by omega), jx_n (by omega)]
    show jgd _ _ = _
    rw [jgd_t v2]
    rfl
  · exact Fr.up (Fr.up h1 (FrC.al (fun _ => rfl))) (FrC.al (fun _ => rfl))
  · show upd (upd (T 108) i (T 108 j)) j (T 108 i) k = nI (sw o i j k)
    unfold sw
    by_cases q : k = j
    · rw [if_pos q, q, upd_at]
      exact h3 i hi
    · rw [if_neg q, upd_ne q]
      by_cases r : k = i
      · rw [if_pos r, r, upd_at]
        exact h3 j hj
      · rw [if_neg r, upd_ne r]
        exact h3 k hk
theorem SA.cong {A : jA3} {o o2 : Nat → Nat} (h : SA B0 n A o) (e : ∀ k, k < n → o k = o2 k) : SA B0 n A o2 := ⟨h.1, h.2.1, fun k hk => by rw [h.2.2 k hk, e k hk]⟩
theorem SC.cong {T : jA3} {o o2 : Nat → Nat} (h : SC C n T o) (e : ∀ k, k < n → o k = o2 k) : SC C n T o2 := ⟨h.1, h.2.1, fun k hk => by rw [h.2.2 k hk, e k hk]⟩
theorem waA {A : jA3} {o : Nat → Nat} (hCx : Cx B0 C n) (h : SA B0 n A o) (hr : Row n n o) : ∃ A2, fX6_walk A (A 16 5) = some (lN (wv B0 o n), A2) ∧ SA B0 n A2 o ∧ Fr wWk A A2 := by
  obtain ⟨h1, h2, h3⟩ := h
  obtain ⟨⟨w, A2⟩, e, a1, a2, a3, a4, -⟩ := c_walk hCx h1 h2 hr h3
  have a1 : w = lN (wv B0 o n) := a1
  subst a1
  rw [h1 16 5 rfl, hCx.2.1]
  exact ⟨A2, e, ⟨a3, a4, fun k hk => by rw [show A2 50 k = A 50 k from a2 50 k rfl]; exact h3 k hk⟩, a2⟩
theorem woC {T : jA3} {L : jL3} {o : Nat → Nat} (hCx : Cx B0 C n) (h : SC C n T o) (hr : Row n n o) : ∃ T2 L2, fX11_worthOf T L = some (lN (wv B0 o n), T2, L2) ∧ SC C n T2 o ∧ T2 112 = T 112 ∧ L2 94 = L 94 := by
  obtain ⟨h1, h2, h3⟩ := h
  obtain ⟨⟨w, T2, L2⟩, e, a1, a2, -, -, -, a6⟩ := c_worth (L := L) (hCx.fr h1) hr h3 h2
  have a1 : w = lN (wv B0 o n) := a1
  subst a1
  have a2 : Fr wWo T T2 := a2
  exact ⟨T2, L2, e, ⟨h1.tr (a2.wd rfl), by rw [a2 94 25 rfl]; exact h2, fun k hk => by rw [a2 108 k rfl]; exact h3 k hk⟩, funext fun k => a2 112 k rfl, a6⟩
theorem keC {T : jA3} {L : jL3} {o : Nat → Nat} {w : Int64} (h : SC C n T o) (h8 : n ≤ 8) : ∃ T2, fX11_keepRow T L w = some (T2, va_up L 94 (vp_updL (L 94) 32 w)) ∧ SC C n T2 o ∧ ∀ k, k < n → T2 112 k = nI (o k) := by
  unfold fX11_keepRow
  have hr : Run (fun T2 => SC C n T2 o ∧ ∀ k, k < n → T2 112 k = nI (o k)) (jwh (cX11_keepRow_7 (va_up L 94 (vp_updL (L 94) 32 w))) ((0 : Int32), T)) := by
    refine Run.up n (fun i s => s.1 = nI i ∧ SC C n s.2 o ∧ ∀ k, k < i → s.2 112 k = nI (o k)) ?_ ?_ (Nat.zero_le _) ⟨rfl, h, fun k hk => absurd hk (Nat.not_lt_zero _)⟩
    · rintro i ⟨s1, S⟩ hi ⟨q1, ⟨g1, g2, g3⟩, q3⟩
      have q1 : s1 = nI i := q1
      subst q1
      have g1 : Fr wCC C S := g1
      have g2 : S 94 25 = nI n := g2
      have g3 : ∀ k, k < n → S 108 k = nI (o k) := g3
      have v : vp_in (nI i) 8 := vp_in_nI (by omega) (by omega)
      unfold cX11_keepRow_7
      simp only [g2, jx_n (show i < 2 ^ 31 by omega)]
      refine Run.im (nI_ge hi (by omega)) <| Run.g v <| Run.g v <| Run.rt ⟨nI_1 i, ⟨Fr.up g1 (FrC.al (fun _ => rfl)), g2, g3⟩, fun k hk => ?_⟩
      show upd (S 112) i (S 108 i) k = nI (o k)
      by_cases q : k = i
      · rw [q, upd_at]
        exact g3 i hi
      · rw [upd_ne q]
        exact q3 k (by omega)
    · rintro ⟨s1, S⟩ ⟨q1, ⟨g1, g2, g3⟩, q3⟩
      have q1 : s1 = nI n := q1
      subst q1
      have g2 : S 94 25 = nI n := g2
      unfold cX11_keepRow_7
      simp only [g2]
      exact Run.ip (nI_le (Nat.le_refl _) (by omega)) <| Run.rt ⟨⟨g1, g2, g3⟩, q3⟩
  obtain ⟨T2, e, h1, h2⟩ := hr
  exact ⟨T2, by rw [e]; rfl, h1, h2⟩
