/-! what a text says -/
variable {B C : jA3}
noncomputable def stp (nm : Nat → Int32) (x : Int32) (l : List Int32) : List Int32 :=
  if 0 ≤ x then x :: l
  else if (-6 : Int32) ≤ x then nm (jx ((-1 : Int32) - x)) :: l
  else if x = -13 then (match l with | a :: r => (if a = 0 then (1 : Int32) else 0) :: r | [] => [])
  else if x = -19 then (match l with | a :: r => -a :: r | [] => [])
  else (match l with | b :: a :: r => fX2_ofTwo x a b :: r | l => l)
noncomputable def evs (nm f : Nat → Int32) (a : Nat) : Nat → List Int32
  | 0 => []
  | k + 1 => stp nm (f (a + k)) (evs nm f a k)
def stk (c : Nat) (S : jA3) : List Int32 → Prop
  | [] => True
  | a :: r => S c r.length = a ∧ stk c S r
theorem stk_up {c i : Nat} {v : Int32} {S : jA3} : ∀ {l : List Int32}, l.length ≤ i → stk c S l → stk c (va_up S c (upd (S c) i v)) l
  | [], _, _ => trivial
  | a :: r, h, hs => by
    refine ⟨?_, stk_up (Nat.le_trans (Nat.le_succ _) h) hs.2⟩
    show va_up S c (upd (S c) i v) c r.length = a
    rw [ju_same, upd_ne (by simp at h; omega)]
    exact hs.1
theorem stk_put {c : Nat} {v : Int32} {S : jA3} {l : List Int32} (hs : stk c S l) : stk c (va_up S c (upd (S c) l.length v)) (v :: l) :=
  ⟨by rw [ju_same, upd_at], stk_up (Nat.le_refl _) hs⟩
theorem push_lt {x : Int32} (h : isPush x) : ¬ x < -6 := by
  rw [i32_lt_nle]
  exact fun z => z h.1
theorem turn_facts : ∀ x : Int32, isTurn x → x < -6 ∧ ¬ 0 ≤ x ∧ ¬ (-6 : Int32) ≤ x := by
  rintro x (rfl | rfl) <;> decide
theorem two_facts : ∀ x : Int32, isTwo x → x < -6 ∧ ¬ 0 ≤ x ∧ ¬ (-6 : Int32) ≤ x ∧ ¬ x = -13 ∧ ¬ x = -19 := by
  rintro x (rfl | rfl | rfl | rfl | rfl | rfl | rfl) <;> decide
/-- a name's number -/
theorem name_ix {x : Int32} (h : isPush x) (hx : ¬ 0 ≤ x) : ∃ j, j < 6 ∧ (-1 : Int32) - x = nI j := by
  have h1 := h.1
  rw [Int32.le_iff_toInt_le] at h1 hx
  have z0 : (0 : Int32).toInt = 0 := by decide
  have z1 : (-1 : Int32).toInt = -1 := by decide
  have z6 : (-6 : Int32).toInt = -6 := by decide
  refine ⟨(-1 - x.toInt).toNat, by omega, ?_⟩
  apply Int32.toInt_inj.mp
  rw [fb_subI (by omega) (by omega), nI_toInt (by omega)]
  omega
theorem r_ev {A : jA3} {t p a b : Nat} (ht : t < 6) (hp : p < 3) (hab : a ≤ b) (hb : b ≤ 160) (he : A (37 + t) (p + 1) = nI b) (hs : Steps (A (30 + t)) a b) : Run (fun A2 => Fr [(43, 43, none)] A A2 ∧ ∃ h, evs (A 28) (A (30 + t)) a (b - a) = [h] ∧ A2 43 0 = h) (jwh (cX2_says_20 (nI t) (nI p) (30 + t)) ((0 : Int32), nI a, A)) := by
  obtain ⟨d, d0, d1, hd⟩ := hs
  have dl : ∀ k, a ≤ k → k ≤ b → d k ≤ k - a := by
    intro k
    induction k with
    | zero => intro h1 h2; have : a = 0 := by omega
              subst this; omega
    | succ k ih =>
      intro h1 h2
      by_cases e : a = k + 1
      · subst e; omega
      · have := ih (by omega) (by omega)
        rcases hd k (by omega) (by omega) with ⟨-, q⟩ | ⟨-, -, q⟩ | ⟨-, -, q⟩ <;> omega
  refine Run.up b (fun k s => a ≤ k ∧ s.1 = nI (d k) ∧ s.2.1 = nI k ∧ Fr [(43, 43, none)] A s.2.2 ∧ (evs (A 28) (A (30 + t)) a (k - a)).length = d k ∧ stk 43 s.2.2 (evs (A 28) (A (30 + t)) a (k - a))) ?_ ?_ (k := a) hab ⟨Nat.le_refl _, by rw [d0]; rfl, rfl, Fr.rf, by rw [Nat.sub_self, d0]; rfl, by rw [Nat.sub_self]; trivial⟩
  · rintro k ⟨s1, s2, S⟩ hk ⟨hak, e1, e2, hS, hlen, hst⟩
    have e1 : s1 = nI (d k) := e1
    have e2 : s2 = nI k := e2
    subst e1 e2
    have hS : Fr [(43, 43, none)] A S := hS
    have hst : stk 43 S (evs (A 28) (A (30 + t)) a (k - a)) := hst
    have hdk := dl k hak (by omega)
    have c1 : S (37 + t) (p + 1) = nI b := by
      rw [hS.at (l := [(37, 42, none)]) rfl _ _ (inW_rng (lo := 37) (hi := 42) rfl (by omega) (by omega))]
      exact he
    have c2 : S (30 + t) k = A (30 + t) k := hS.at (l := [(30, 35, none)]) rfl _ _ (inW_rng (lo := 30) (hi := 35) rfl (by omega) (by omega))
    have c3 : ∀ j, S 28 j = A 28 j := fun j => hS 28 j rfl
    have ep : nI p + 1 = nI (p + 1) := nI_1 p
    have es : evs (A 28) (A (30 + t)) a (k + 1 - a) = stp (A 28) (A (30 + t) k) (evs (A 28) (A (30 + t)) a (k - a)) := by
      rw [show k + 1 - a = (k - a) + 1 by omega]
      show stp (A 28) (A (30 + t) (a + (k - a))) _ = _
      rw [show a + (k - a) = k by omega]
    unfold cX2_says_20
    simp only [ep, jx_n (show t < 2 ^ 31 by omega), jx_n (show p + 1 < 2 ^ 31 by omega), jx_n (show k < 2 ^ 31 by omega), c1, c2]
    refine Run.g (vp_in_nI ht (by omega)) <| Run.g (vp_in_nI (by omega) (by omega)) <| Run.im (nI_ge hk (by omega)) <| Run.g (vp_in_nI (by omega) (by omega)) ?_
    rw [es]
    generalize evs (A 28) (A (30 + t)) a (k - a) = l at *
    rcases hd k hak hk with ⟨hx, q⟩ | ⟨hx, q0, q⟩ | ⟨hx, q0, q⟩
    · refine Run.im (push_lt hx) <| Run.im (show ¬ (160 : Int32) ≤ nI (d k) from nI_ge (b := 160) (by omega) (by omega)) ?_
      unfold jX2_says_83_20
      rw [jx_n (show d k < 2 ^ 31 by omega)]
      have vd : vp_in (nI (d k)) 160 := vp_in_nI (by omega) (by omega)
      refine Run.i (fun z => ?_) (fun z => ?_)
      · have z' : ¬ 0 ≤ A (30 + t) k := fun w => (i32_lt_nle.mp z) w
        obtain ⟨j, hj, ej⟩ := name_ix hx z'
        rw [ej]
        refine Run.g (vp_in_nI hj (by omega)) <| Run.g vd <| Run.rt ⟨by omega, ?_, nI_1 k, Fr.up hS (FrC.up FrC.bs rfl), ?_, ?_⟩
        · show nI (d k) + 1 = _
          rw [nI_1, q]
        · unfold stp
          rw [if_neg z', if_pos hx.1, List.length_cons, hlen, q]
        · unfold stp
          rw [if_neg z', if_pos hx.1, ej, c3]
          show stk 43 (va_up S 43 (upd (S 43) (d k) _)) _
          rw [← hlen]
          exact stk_put hst
      · have z' : 0 ≤ A (30 + t) k := i32_nlt z
        refine Run.g vd <| Run.rt ⟨by omega, ?_, nI_1 k, Fr.up hS (FrC.up FrC.bs rfl), ?_, ?_⟩
        · show nI (d k) + 1 = _
          rw [nI_1, q]
        · unfold stp
          rw [if_pos z', List.length_cons, hlen, q]
        · unfold stp
          rw [if_pos z']
          show stk 43 (va_up S 43 (upd (S 43) (d k) _)) _
          rw [← hlen]
          exact stk_put hst
    · obtain ⟨f1, f2, f3⟩ := turn_facts _ hx
      refine Run.ip f1 ?_
      unfold jX2_says_90_20 jX2_says_104_20 fX2_turnTop
      match l, hlen, hst with
      | [], hlen, _ => simp at hlen; omega
      | y :: r, hlen, hst =>
        have hr : r.length = d k - 1 := by simp at hlen; omega
        have ed : nI (d k) - 1 = nI r.length := by rw [hr, lit_n 1, pk_sub (by omega)]
        have hy : S 43 r.length = y := hst.1
        have vr : vp_in (nI r.length) 160 := vp_in_nI (by omega) (by omega)
        simp only [ed, jx_n (show r.length < 2 ^ 31 by omega), hy, jgd_t vr, if_neg (nI_pos (show r.length < 2 ^ 31 by omega))]
        rcases hx with hx | hx
        · rw [hx]
          refine Run.ip rfl ?_
          rw [if_neg (by decide)]
          by_cases zy : y = 0
          · rw [if_pos zy]
            refine Run.be rfl <| Run.rt ⟨by omega, by rw [q], nI_1 k, Fr.up hS (FrC.up FrC.bs rfl), ?_, ?_⟩
            · show (stp (A 28) (-13) (y :: r)).length = _
              rw [show stp (A 28) (-13) (y :: r) = (if y = 0 then (1 : Int32) else 0) :: r from rfl, q, ← hlen]
              rfl
            · rw [show stp (A 28) (-13) (y :: r) = (if y = 0 then (1 : Int32) else 0) :: r from rfl, if_pos zy]
              exact stk_put hst.2
          · rw [if_neg zy]
            refine Run.be rfl <| Run.rt ⟨by omega, by rw [q], nI_1 k, Fr.up hS (FrC.up FrC.bs rfl), ?_, ?_⟩
            · show (stp (A 28) (-13) (y :: r)).length = _
              rw [show stp (A 28) (-13) (y :: r) = (if y = 0 then (1 : Int32) else 0) :: r from rfl, q, ← hlen]
              rfl
            · rw [show stp (A 28) (-13) (y :: r) = (if y = 0 then (1 : Int32) else 0) :: r from rfl, if_neg zy]
              exact stk_put hst.2
        · rw [hx]
          refine Run.im (by decide) <| Run.ip rfl ?_
          rw [if_pos rfl]
          refine Run.be rfl <| Run.rt ⟨by omega, by rw [q], nI_1 k, Fr.up hS (FrC.up FrC.bs rfl), ?_, ?_⟩
          · show (stp (A 28) (-19) (y :: r)).length = _
            rw [show stp (A 28) (-19) (y :: r) = -y :: r from rfl, q, ← hlen]
            rfl
          · rw [show stp (A 28) (-19) (y :: r) = -y :: r from rfl]
            exact stk_put hst.2
    · obtain ⟨f1, f2, f3, f4, f5⟩ := two_facts _ hx
      refine Run.ip f1 ?_
      unfold jX2_says_90_20
      match l, hlen, hst with
      | [], hlen, _ => simp at hlen; omega
      | [y], hlen, _ => simp at hlen; omega
      | y :: z :: r, hlen, hst =>
        have hr : r.length = d k - 2 := by simp at hlen; omega
        have ed : nI (d k) + (-1) = nI (r.length + 1) := by
          rw [show d k = r.length + 1 + 1 by omega, pk_m1]
        have ed2 : nI (r.length + 1) - 1 = nI r.length := nI_pred _
        have hy : S 43 (r.length + 1) = y := hst.1
        have hz : S 43 r.length = z := hst.2.1
        have v1 : vp_in (nI r.length) 160 := vp_in_nI (by omega) (by omega)
        have v2 : vp_in (nI (r.length + 1)) 160 := vp_in_nI (by omega) (by omega)
        simp only [ed, ed2, jx_n (show r.length < 2 ^ 31 by omega), jx_n (show r.length + 1 < 2 ^ 31 by omega), hy, hz]
        have est : stp (A 28) (A (30 + t) k) (y :: z :: r) = fX2_ofTwo (A (30 + t) k) z y :: r := by
          unfold stp
          rw [if_neg f2, if_neg f3, if_neg f4, if_neg f5]
        refine Run.im f4 <| Run.im f5 <| Run.im (show ¬ nI (d k) < (2 : Int32) from nI_nlt (b := 2) (by omega) (by omega)) <| Run.g v1 <| Run.g v2 <| Run.g v1 <| Run.rt ⟨by omega, ?_, nI_1 k, Fr.up hS (FrC.up FrC.bs rfl), ?_, ?_⟩
        · show nI (r.length + 1) = nI (d (k + 1))
          congr 1
          omega
        · rw [est, List.length_cons]
          omega
        · rw [est]
          exact stk_put hst.2.2
  · rintro ⟨s1, s2, S⟩ ⟨hak, e1, e2, hS, hlen, hst⟩
    have e2 : s2 = nI b := e2
    subst e2
    have hS : Fr [(43, 43, none)] A S := hS
    have c1 : S (37 + t) (p + 1) = nI b := by
      rw [hS.at (l := [(37, 42, none)]) rfl _ _ (inW_rng (lo := 37) (hi := 42) rfl (by omega) (by omega))]
      exact he
    have ep : nI p + 1 = nI (p + 1) := nI_1 p
    unfold cX2_says_20
    simp only [ep, jx_n (show t < 2 ^ 31 by omega), jx_n (show p + 1 < 2 ^ 31 by omega), c1]
    refine Run.g (vp_in_nI ht (by omega)) <| Run.g (vp_in_nI (by omega) (by omega)) <| Run.ip (nI_le (Nat.le_refl _) (by omega)) <| Run.rt ⟨hS, ?_⟩
    rw [d1] at hlen
    generalize evs (A 28) (A (30 + t)) a (b - a) = l at *
    match l, hlen, hst with
    | [h], _, hst => exact ⟨h, rfl, hst.1⟩
theorem act_push {x : Int32} (h : isPush x) : (0 ≤ x ∧ actOf x = 1 ∧ withOf x = x) ∨ (¬ 0 ≤ x ∧ actOf x = 2 ∧ withOf x = (-1 : Int32) - x) := by
  by_cases z : 0 ≤ x
  · exact Or.inl ⟨z, by unfold actOf; rw [if_pos z], by unfold withOf; rw [if_pos z]⟩
  · exact Or.inr ⟨z, by unfold actOf; rw [if_neg z, if_pos h.1], by unfold withOf; rw [if_neg z, if_pos h.1]⟩
theorem act_two : ∀ x : Int32, isTwo x → ¬ actOf x = 1 ∧ ¬ actOf x = 2 ∧ ¬ actOf x = 3 ∧ ¬ actOf x = 4 := by
  rintro x (rfl | rfl | rfl | rfl | rfl | rfl | rfl) <;> decide
theorem two_eq : ∀ x : Int32, isTwo x → ∀ a b, fX11_twoOf (actOf x) a b = fX2_ofTwo x a b := by
  rintro x (rfl | rfl | rfl | rfl | rfl | rfl | rfl) a b <;> rfl
theorem r_evC {f : Nat → Int32} {t p a b : Nat} (ht : t < 6) (hp : p < 3) (hab : a ≤ b) (hb : b ≤ 160) (h6 : C 94 6 = nI t) (he : C 100 (3 * t + p) = nI b) (hac : ∀ k, k < b → C 98 (170 * t + k) = actOf (f k) ∧ C 99 (170 * t + k) = withOf (f k)) (hs : Steps f a b) : Run (fun C2 => Fr [(101, 101, none)] C C2 ∧ ∃ h, evs (C 102) f a (b - a) = [h] ∧ C2 101 0 = h) (jwh (cX11_gives_112 (nI p)) ((0 : Int32), nI (170 * t + a), C)) := by
  obtain ⟨d, d0, d1, hd⟩ := hs
  have dl : ∀ k, a ≤ k → k ≤ b → d k ≤ k - a := by
    intro k
    induction k with
    | zero => intro h1 h2; have : a = 0 := by omega
              subst this; omega
    | succ k ih =>
      intro h1 h2
      by_cases e : a = k + 1
      · subst e; omega
      · have := ih (by omega) (by omega)
        rcases hd k (by omega) (by omega) with ⟨-, q⟩ | ⟨-, -, q⟩ | ⟨-, -, q⟩ <;> omega
  have e3 : (3 : Int32) * nI t + nI p = nI (3 * t + p) := by rw [lit_n 3, pk_mul, nI_add]
  have e170 : (170 : Int32) * nI t + nI b = nI (170 * t + b) := by rw [lit_n 170, pk_mul, nI_add]
  refine Run.up b (fun k s => a ≤ k ∧ s.1 = nI (d k) ∧ s.2.1 = nI (170 * t + k) ∧ Fr [(101, 101, none)] C s.2.2 ∧ (evs (C 102) f a (k - a)).length = d k ∧ stk 101 s.2.2 (evs (C 102) f a (k - a))) ?_ ?_ (k := a) hab ⟨Nat.le_refl _, by rw [d0]; rfl, rfl, Fr.rf, by rw [Nat.sub_self, d0]; rfl, by rw [Nat.sub_self]; trivial⟩
  · rintro k ⟨s1, s2, S⟩ hk ⟨hak, e1, e2, hS, hlen, hst⟩
    have e1 : s1 = nI (d k) := e1
    have e2 : s2 = nI (170 * t + k) := e2
    subst e1 e2
    have hS : Fr [(101, 101, none)] C S := hS
    have hst : stk 101 S (evs (C 102) f a (k - a)) := hst
    have hdk := dl k hak (by omega)
    have c1 : S 94 6 = nI t := by rw [hS 94 6 rfl]; exact h6
    have c2 : S 100 (3 * t + p) = nI b := by rw [hS 100 _ rfl]; exact he
    have c3 : S 98 (170 * t + k) = actOf (f k) := by rw [hS 98 _ rfl]; exact (hac k hk).1
    have c4 : S 99 (170 * t + k) = withOf (f k) := by rw [hS 99 _ rfl]; exact (hac k hk).2
    have c5 : ∀ j, S 102 j = C 102 j := fun j => hS 102 j rfl
    have es : evs (C 102) f a (k + 1 - a) = stp (C 102) (f k) (evs (C 102) f a (k - a)) := by
      rw [show k + 1 - a = (k - a) + 1 by omega]
      show stp (C 102) (f (a + (k - a))) _ = _
      rw [show a + (k - a) = k by omega]
    have ek : nI (170 * t + k) + 1 = nI (170 * t + (k + 1)) := by rw [nI_1, Nat.add_assoc]
    have vk : vp_in (nI (170 * t + k)) 1190 := vp_in_nI (by omega) (by omega)
    unfold cX11_gives_112
    simp only [c1, e3, jx_n (show 3 * t + p < 2 ^ 31 by omega), c2, e170, jx_n (show 170 * t + k < 2 ^ 31 by omega), c3, c4]
    refine Run.g (vp_in_nI (by omega) (by omega)) <| Run.im (nI_ge (by omega) (by omega)) <| Run.g vk ?_
    rw [es]
    generalize evs (C 102) f a (k - a) = l at *
    rcases hd k hak hk with ⟨hx, q⟩ | ⟨hx, q0, q⟩ | ⟨hx, q0, q⟩
    · have vd : vp_in (nI (d k)) 170 := vp_in_nI (by omega) (by omega)
      rw [jx_n (show d k < 2 ^ 31 by omega)]
      rcases act_push hx with ⟨z, a1, a2⟩ | ⟨z, a1, a2⟩
      · rw [a1, a2]
        refine Run.ip rfl <| Run.g vk <| Run.g vd <| Run.rt ⟨by omega, ?_, ek, Fr.up hS (FrC.up FrC.bs rfl), ?_, ?_⟩
        · show nI (d k) + 1 = _
          rw [nI_1, q]
        · unfold stp
          rw [if_pos z, List.length_cons, hlen, q]
        · unfold stp
          rw [if_pos z]
          show stk 101 (va_up S 101 (upd (S 101) (d k) _)) _
          rw [← hlen]
          exact stk_put hst
      · obtain ⟨j, hj, ej⟩ := name_ix hx z
        rw [a1, a2, ej, jx_n (show j < 2 ^ 31 by omega), c5]
        refine Run.im (by decide) <| Run.ip rfl <| Run.g vk <| Run.g (vp_in_nI hj (by omega)) <| Run.g vd <| Run.rt ⟨by omega, ?_, ek, Fr.up hS (FrC.up FrC.bs rfl), ?_, ?_⟩
        · show nI (d k) + 1 = _
          rw [nI_1, q]
        · unfold stp
          rw [if_neg z, if_pos hx.1, List.length_cons, hlen, q]
        · unfold stp
          rw [if_neg z, if_pos hx.1, ej, jx_n (show j < 2 ^ 31 by omega)]
          show stk 101 (va_up S 101 (upd (S 101) (d k) _)) _
          rw [← hlen]
          exact stk_put hst
    · match l, hlen, hst with
      | [], hlen, _ => simp at hlen; omega
      | y :: r, hlen, hst =>
        have hr : r.length = d k - 1 := by simp at hlen; omega
        have ed : nI (d k) - 1 = nI r.length := by rw [hr, lit_n 1, pk_sub (by omega)]
        have hy : S 101 r.length = y := hst.1
        have vr : vp_in (nI r.length) 170 := vp_in_nI (by omega) (by omega)
        simp only [ed, jx_n (show r.length < 2 ^ 31 by omega), hy]
        rcases hx with hx | hx
        · rw [hx]
          refine Run.im (by decide) <| Run.im (by decide) <| Run.ip (by decide) <| Run.g vr <| Run.i (fun zy => ?_) (fun zy => ?_)
          · refine Run.g vr <| Run.rt ⟨by omega, by rw [q], ek, Fr.up hS (FrC.up FrC.bs rfl), ?_, ?_⟩
            · rw [show stp (C 102) (-13) (y :: r) = (if y = 0 then (1 : Int32) else 0) :: r from rfl, q, ← hlen]
              rfl
            · rw [show stp (C 102) (-13) (y :: r) = (if y = 0 then (1 : Int32) else 0) :: r from rfl, if_pos zy]
              exact stk_put hst.2
          · refine Run.g vr <| Run.rt ⟨by omega, by rw [q], ek, Fr.up hS (FrC.up FrC.bs rfl), ?_, ?_⟩
            · rw [show stp (C 102) (-13) (y :: r) = (if y = 0 then (1 : Int32) else 0) :: r from rfl, q, ← hlen]
              rfl
            · rw [show stp (C 102) (-13) (y :: r) = (if y = 0 then (1 : Int32) else 0) :: r from rfl, if_neg zy]
              exact stk_put hst.2
        · rw [hx]
          refine Run.im (by decide) <| Run.im (by decide) <| Run.im (by decide) <| Run.ip (by decide) <| Run.g vr <| Run.g vr <| Run.rt ⟨by omega, by rw [q], ek, Fr.up hS (FrC.up FrC.bs rfl), ?_, ?_⟩
          · rw [show stp (C 102) (-19) (y :: r) = -y :: r from rfl, q, ← hlen]
            rfl
          · rw [show stp (C 102) (-19) (y :: r) = -y :: r from rfl]
            exact stk_put hst.2
    · obtain ⟨f1, f2, f3, f4, f5⟩ := two_facts _ hx
      obtain ⟨w1, w2, w3, w4⟩ := act_two _ hx
      match l, hlen, hst with
      | [], hlen, _ => simp at hlen; omega
      | [y], hlen, _ => simp at hlen; omega
      | y :: z :: r, hlen, hst =>
        have hr : r.length = d k - 2 := by simp at hlen; omega
        have ed : nI (d k) - 1 = nI (r.length + 1) := by rw [show d k = r.length + 1 + 1 by omega, nI_pred]
        have ed1 : nI (d k) + (-1) = nI (r.length + 1) := by rw [show d k = r.length + 1 + 1 by omega, pk_m1]
        have ed2 : nI (d k) - 2 = nI r.length := by rw [hr, lit_n 2, pk_sub (by omega)]
        have hy : S 101 (r.length + 1) = y := hst.1
        have hz : S 101 r.length = z := hst.2.1
        have v1 : vp_in (nI r.length) 170 := vp_in_nI (by omega) (by omega)
        have v2 : vp_in (nI (r.length + 1)) 170 := vp_in_nI (by omega) (by omega)
        simp only [ed, ed1, ed2, jx_n (show r.length < 2 ^ 31 by omega), jx_n (show r.length + 1 < 2 ^ 31 by omega), hy, hz, two_eq _ hx]
        have est : stp (C 102) (f k) (y :: z :: r) = fX2_ofTwo (f k) z y :: r := by
          unfold stp
          rw [if_neg f2, if_neg f3, if_neg f4, if_neg f5]
        refine Run.im w1 <| Run.im w2 <| Run.im w3 <| Run.im w4 <| Run.g vk <| Run.g v1 <| Run.g v2 <| Run.g v1 <| Run.rt ⟨by omega, ?_, ek, Fr.up hS (FrC.up FrC.bs rfl), ?_, ?_⟩
        · show nI (r.length + 1) = nI (d (k + 1))
          congr 1
          omega
        · rw [est, List.length_cons]
          omega
        · rw [est]
          exact stk_put hst.2.2
  · rintro ⟨s1, s2, S⟩ ⟨hak, e1, e2, hS, hlen, hst⟩
    have e2 : s2 = nI (170 * t + b) := e2
    subst e2
    have hS : Fr [(101, 101, none)] C S := hS
    have c1 : S 94 6 = nI t := by rw [hS 94 6 rfl]; exact h6
    have c2 : S 100 (3 * t + p) = nI b := by rw [hS 100 _ rfl]; exact he
    unfold cX11_gives_112
    simp only [c1, e3, jx_n (show 3 * t + p < 2 ^ 31 by omega), c2, e170]
    refine Run.g (vp_in_nI (by omega) (by omega)) <| Run.ip (nI_le (Nat.le_refl _) (by omega)) <| Run.rt ⟨hS, ?_⟩
    rw [d1] at hlen
    generalize evs (C 102) f a (b - a) = l at *
    match l, hlen, hst with
    | [h], _, hst => exact ⟨h, rfl, hst.1⟩
