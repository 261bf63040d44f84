/-! text: the reference's tokens -/
variable {B C T : jA3}
abbrev upk (k : Nat) (s : jA3) : jA3 := va_up s 94 (upd (s 94) k ((s 94 k) + (1 : Int32)))
theorem inw1 (k : Nat) : inW [(94, 94, some k)] 94 k = true := by
  show (Nat.ble 94 94 && Nat.ble 94 94 && Nat.beq k k || false) = true
  rw [Nat.beq_refl]
  rfl
theorem inw0 {k c j : Nat} (h : ¬ (c = 94 ∧ j = k)) : inW [(94, 94, some k)] c j = false := by
  show (Nat.ble 94 c && Nat.ble c 94 && Nat.beq k j || false) = false
  rw [Bool.or_false]
  by_cases q : c = 94
  · subst q
    have : ¬ k = j := fun e => h ⟨rfl, e.symm⟩
    rw [beq_f this]
    rfl
  · by_cases r : 94 ≤ c
    · rw [ble_f (show ¬ c ≤ 94 by omega), Bool.and_false]
      rfl
    · rw [ble_f r]
      rfl
theorem rn_C {v : Nat → Nat} {z kk : Nat} (hk : kk ≠ 4) {P : Nat → Bool} {b : jA3 → Option (jA3 ⊕ jA3)}
    (hb : ∀ (s : jA3) (p : Nat), p ≤ z → tpC s v z → s 94 kk = nI p → b s = if p < z ∧ P (v p) = true then some (.inl (upk kk s)) else some (.inr s)) :
    ∀ (f : Nat) {A : jA3} {p : Nat}, z ≤ p + f → p ≤ z → tpC A v z → A 94 kk = nI p → ∃ A2, jwh b A = some A2 ∧ Fr [(94, 94, some kk)] A A2 ∧ A2 94 kk = nI (rn P v z f p)
  | 0, A, p, h, hp, hA, h5 => ⟨A, jwh_out (by rw [hb A p hp hA h5, if_neg (by omega)]), Fr.rf, h5⟩
  | f + 1, A, p, h, hp, hA, h5 => by
    by_cases q : p < z ∧ P (v p) = true
    · have f1 : Fr [(94, 94, some kk)] A (upk kk A) := Fr.up Fr.rf (FrC.up FrC.bs (inw1 kk))
      obtain ⟨A2, e, f2, g⟩ := rn_C hk hb f (A := upk kk A) (p := p + 1) (by omega) (by omega) (hA.fr f1 (inw0 (fun w => hk w.2.symm)) (fun i => inw0 (fun w => absurd w.1 (by decide)))) (by show upd (A 94) kk (A 94 kk + 1) kk = _; rw [upd_at, h5, nI_1])
      refine ⟨A2, ?_, f1.tr f2, ?_⟩
      · rw [jwh_go (by rw [hb A p hp hA h5, if_pos q]), e]
      · rw [rn_go q.1 q.2]; exact g
    · refine ⟨A, jwh_out (by rw [hb A p hp hA h5, if_neg q]), Fr.rf, ?_⟩
      rw [rn_stop q]; exact h5
theorem c_gen {v : Nat → Nat} {z p kk : Nat} {P : Nat → Bool} {s : jA3} {x : Option (jA3 ⊕ jA3)} (hp : p ≤ z) (h : tpC s v z) (h5 : s 94 kk = nI p)
    (hx : p < z → x = if P (v p) = true then some (.inl (upk kk s)) else some (.inr s)) : (if (s 94 4) ≤ (s 94 kk) then some (.inr s) else jgd (vp_in (s 94 kk) 160) x) = if p < z ∧ P (v p) = true then some (.inl (upk kk s)) else some (.inr s) := by
  obtain ⟨h1, h2, h3⟩ := h
  rw [h5, h2]
  by_cases q : p < z
  · rw [if_neg (nI_ge q (by omega)), jgd_t (vp_in_nI (by omega) (by omega)), hx q]
    by_cases r : P (v p) = true
    · rw [if_pos r, if_pos ⟨q, r⟩]
    · rw [if_neg r, if_neg (fun w => r w.2)]
  · rw [if_pos (nI_le (by omega) (by omega)), if_neg (fun w => q w.1)]
theorem c_blank {v : Nat → Nat} {z : Nat} (s : jA3) (p : Nat) (hp : p ≤ z) (h : tpC s v z) (h5 : s 94 13 = nI p) : cX11_next_8 s = if p < z ∧ isB (v p) = true then some (.inl (upk 13 s)) else some (.inr s) := by
  unfold cX11_next_8 jX11_next_47_8
  refine c_gen hp h h5 (fun q => ?_)
  obtain ⟨h1, h2, h3⟩ := h
  have hv := (h3 p q).2
  rw [h5, jx_n (by omega), (h3 p q).1, jgd_t (vp_in_nI (by omega) (by omega))]
  have e1 : ((nI (v p)).toInt8.toInt32 = (32 : Int32)) ↔ v p = 32 := eq_ref (v p) hv 32 (by omega)
  have e2 : ((nI (v p)).toInt8.toInt32 = (10 : Int32)) ↔ v p = 10 := eq_ref (v p) hv 10 (by omega)
  have e3 : isB (v p) = true ↔ v p = 32 ∨ v p = 10 := by unfold isB; rw [Bool.or_eq_true, Nat.beq_eq, Nat.beq_eq]
  by_cases r1 : v p = 32
  · rw [if_pos (e1.mpr r1), if_pos (e3.mpr (Or.inl r1)), ← h5]
  · rw [if_neg (fun w => r1 (e1.mp w))]
    by_cases r2 : v p = 10
    · rw [if_pos (e2.mpr r2), if_pos (e3.mpr (Or.inr r2)), ← h5]
    · rw [if_neg (fun w => r2 (e2.mp w)), if_neg (fun w => (e3.mp w).elim r1 r2)]
theorem c_letter {v : Nat → Nat} {z : Nat} (s : jA3) (p : Nat) (hp : p ≤ z) (h : tpC s v z) (h5 : s 94 14 = nI p) : cX11_next_110 s = if p < z ∧ isL (v p) = true then some (.inl (upk 14 s)) else some (.inr s) := by
  unfold cX11_next_110
  refine c_gen hp h h5 (fun q => ?_)
  obtain ⟨h1, h2, h3⟩ := h
  rw [h5, jx_n (by omega), (h3 p q).1, L_ref _ (h3 p q).2]
  cases isL (v p)
  · show (if (0 : Int32) = 0 then some (Sum.inr s) else _) = some (Sum.inr s)
    rw [if_pos rfl]
  · show (if (1 : Int32) = 0 then some (Sum.inr s) else _) = some (Sum.inl (upk 14 s))
    rw [if_neg (by decide), ← h5]
/-- digits: no more than four of them count -/
theorem c_digits {v : Nat → Nat} {z s : Nat} (ht : tpC T v z) (hs : s ≤ z) (h13 : T 94 13 = nI s) (h14 : T 94 14 = nI s) (h16 : T 94 16 = 0) : ∃ T2, jwh cX11_next_188 T = some T2 ∧ Fr [(94, 94, some 14), (94, 94, some 16)] T T2 ∧ T2 94 14 = nI (rn isD v z 160 s) ∧ (rn isD v z 160 s - s ≤ 4 → T2 94 16 = nI (nm v s (rn isD v z 160 s - s))) := by
  have hz := ht.1
  have hle := rn_le (P := isD) (v := v) 160 s hs
  have hat := rn_at (P := isD) (v := v) (z := z) 160 s (by omega)
  have hall := rn_all (P := isD) (v := v) (z := z) 160 s
  generalize rn isD v z 160 s = e at hle hat hall ⊢
  have hr : Run (fun T2 => Fr [(94, 94, some 14), (94, 94, some 16)] T T2 ∧ T2 94 14 = nI e ∧ (e - s ≤ 4 → T2 94 16 = nI (nm v s (e - s)))) (jwh cX11_next_188 T) := by
    refine Run.up (e - s) (fun k S => Fr [(94, 94, some 14), (94, 94, some 16)] T S ∧ S 94 14 = nI (s + k) ∧ (k ≤ 4 → S 94 16 = nI (nm v s k))) ?_ ?_ (Nat.zero_le _) ⟨Fr.rf, h14, fun _ => h16⟩
    · rintro k S hk ⟨fS, q1, q2⟩
      obtain ⟨g1, g2, g3⟩ := ht.fr fS rfl (fun _ => rfl)
      have s13 : S 94 13 = nI s := by rw [fS 94 13 rfl]; exact h13
      have hd := hall (s + k) (by omega) (by omega)
      have vv : vp_in (nI (s + k)) 160 := vp_in_nI (by omega) (by omega)
      have hv := (g3 (s + k) (by omega)).2
      have e1 : nI (s + k) - nI s = nI k := by rw [pk_sub (by omega), show s + k - s = k by omega]
      unfold cX11_next_188 jX11_next_251_188
      rw [g2, q1, s13, jx_n (by omega), (g3 (s + k) (by omega)).1, D_ref _ hv, e1, hd]
      refine Run.im (nI_ge (by omega) (by omega)) <| Run.g vv <| Run.im (by decide) <| Run.i (fun y => ?_) (fun y => Run.g vv ?_)
      · have hk4 : 4 ≤ k := by
          rcases Nat.lt_or_ge k 4 with w | w
          · exact absurd y (nI_ge (b := 4) w (by omega))
          · exact w
        refine Run.rt ⟨Fr.up fS (FrC.up FrC.bs rfl), ?_, fun w => by omega⟩
        show upd (S 94) 14 (nI (s + k) + 1) 14 = _
        rw [upd_at, nI_1]
        rfl
      · have hk4 : k < 4 := by
          rcases Nat.lt_or_ge k 4 with w | w
          · exact w
          · exact absurd (nI_le (a := 4) w (by omega)) y
        unfold isD at hd
        have a1 := Nat.le_of_ble_eq_true (and_b hd).1
        have a2 := Nat.le_of_ble_eq_true (and_b hd).2
        rw [lo_ref _ (by omega), q2 (by omega), dig_up a1]
        generalize hM : va_up S 94 (upd (S 94) 16 (nI (10 * nm v s k + (v (s + k) - 48)))) = M
        have fM : Fr [(94, 94, some 14), (94, 94, some 16)] T M := by rw [← hM]; exact Fr.up fS (FrC.up FrC.bs rfl)
        have m14 : M 94 14 = nI (s + k) := by rw [← hM]; exact q1
        have m16 : M 94 16 = nI (nm v s (k + 1)) := by rw [← hM]; rfl
        refine Run.rt ⟨Fr.up fM (FrC.up FrC.bs rfl), ?_, fun _ => m16⟩
        show upd (M 94) 14 (M 94 14 + 1) 14 = _
        rw [upd_at, m14, nI_1]
        rfl
    · rintro S ⟨fS, q1, q2⟩
      rw [show s + (e - s) = e by omega] at q1
      obtain ⟨g1, g2, g3⟩ := ht.fr fS rfl (fun _ => rfl)
      unfold cX11_next_188
      rw [g2, q1]
      by_cases q : e < z
      · have hd : ¬ isD (v e) = true := fun w => hat ⟨q, w⟩
        have hv := (g3 e q).2
        rw [jx_n (by omega), (g3 e q).1, D_ref _ hv, if_neg hd]
        exact Run.im (nI_ge q (by omega)) <| Run.g (vp_in_nI (by omega) (by omega)) <| Run.ip rfl <| Run.rt ⟨fS, q1, q2⟩
      · exact Run.ip (nI_le (by omega) (by omega)) <| Run.rt ⟨fS, q1, q2⟩
  exact hr
