/-! text: the reference's next token -/
variable {B C T : jA3}
/-- the reference's kind and value beside the code's number of a token -/
def TK (T : jA3) (c : Nat) : Prop := (c = 0 ∧ T 94 15 = 4) ∨ (c = 1 ∧ T 94 15 = 5) ∨ (∃ k, k < 6 ∧ c = 200 + k ∧ T 94 15 = 1 ∧ T 94 16 = nI k) ∨ (∃ k, k < 6 ∧ c = 300 + k ∧ T 94 15 = 1 ∧ T 94 16 = nI (10 + k)) ∨ (isG c = true ∧ c < 128 ∧ T 94 15 = 3 ∧ T 94 16 = nI c) ∨ ∃ m, m < 10000 ∧ c = 1000 + m ∧ T 94 15 = 2 ∧ T 94 16 = nI m
abbrev wNx : List (Nat × Nat × Option Nat) := [(94, 94, some 13), (94, 94, some 14), (94, 94, some 15), (94, 94, some 16)]
theorem km_t : ∀ k, k < 12 → ¬ KM k < 0 ∧ KM k = (if k < 6 then nI k else nI (4 + k)) := by decide +kernel
theorem isG_lt {b : Nat} (h : isG b = true) : b < 128 ∧ (b = 40 ∨ b = 41 ∨ b = 59 ∨ b = 43 ∨ b = 45 ∨ b = 42 ∨ b = 60 ∨ b = 61) := by
  unfold isG at h
  simp only [Bool.or_eq_true, Nat.beq_eq] at h
  omega
theorem r_next60 {v : Nat → Nat} {z s : Nat} (hc : ∀ j, T 103 j = KL j) (hm : ∀ j, T 104 j = KM j) (ht : tpC T v z) (h13 : T 94 13 = nI s) (hs : s ≤ z) : ∃ T2, jX11_next_60 T = some T2 ∧ Fr wNx T T2 ∧ T2 94 13 = nI s ∧ T2 94 14 = nI (tend v z s) ∧ TK T2 (tcode v z s) := by
  obtain ⟨g1, g2, g3⟩ := id ht
  unfold jX11_next_60 tend tcode
  rw [h13, g2]
  by_cases q : s < z
  · have hv := (g3 s q).2
    have v1 : vp_in (nI s) 160 := vp_in_nI (by omega) (by omega)
    rw [if_pos (nI_lt q (by omega)), jgd_t v1, jx_n (by omega), (g3 s q).1, L_ref _ hv, blt_t q]
    cases hL : isL (v s)
    · rw [if_pos (show (if false = true then (1 : Int32) else 0) = 0 from rfl), D_ref _ hv]
      cases hD : isD (v s)
      · rw [if_pos (show (if false = true then (1 : Int32) else 0) = 0 from rfl)]
        generalize hM : va_up (va_up T 94 (upd (T 94) 14 (nI s))) 94 (upd (upd (T 94) 14 (nI s)) 14 (nI s + (1 : Int32))) = M
        have fM : Fr wNx T M := by
          rw [← hM]
          exact Fr.up (Fr.up Fr.rf (FrC.up FrC.bs rfl)) (FrC.up (FrC.up (FrC.sm (FrC.up FrC.bs rfl) FrC.bs) rfl) rfl)
        have m13 : M 94 13 = nI s := by rw [← hM]; exact h13
        have m14 : M 94 14 = nI (s + 1) := by rw [← hM, ← nI_1]; rfl
        have hR : ∀ (d : Int32), ∃ T2, some (va_up (va_up M 94 (upd (M 94) 16 (nI (v s)).toInt8.toInt32)) 94 (upd (upd (M 94) 16 (nI (v s)).toInt8.toInt32) 15 d)) = some T2 ∧ Fr wNx T T2 ∧ T2 94 13 = nI s ∧ T2 94 14 = nI (s + 1) ∧ T2 94 15 = d ∧ T2 94 16 = (nI (v s)).toInt8.toInt32 := fun d =>
          ⟨_, rfl, Fr.up (Fr.up fM (FrC.up FrC.bs rfl)) (FrC.up (FrC.up (FrC.sm (FrC.up FrC.bs rfl) FrC.bs) rfl) rfl), m13, m14, rfl, rfl⟩
        have ec : ∀ c, c < 128 → ((nI (v s)).toInt8.toInt32 = nI c ↔ v s = c) := eq_ref (v s) hv
        have hyes : isG (v s) = true → ∃ T2, some (va_up (va_up M 94 (upd (M 94) 16 (nI (v s)).toInt8.toInt32)) 94 (upd (upd (M 94) 16 (nI (v s)).toInt8.toInt32) 15 (3 : Int32))) = some T2 ∧ Fr wNx T T2 ∧ T2 94 13 = nI s ∧ T2 94 14 = nI (s + 1) ∧ TK T2 (bif isG (v s) then v s else 1) := fun w => by
          obtain ⟨T2, a1, a2, a3, a4, a5, a6⟩ := hR 3
          have hl := (isG_lt w).1
          refine ⟨T2, a1, a2, a3, a4, ?_⟩
          rw [lo_ref _ hl] at a6
          have e0 : (bif isG (v s) then v s else 1) = v s := by rw [w]; rfl
          rw [e0]
          exact Or.inr (Or.inr (Or.inr (Or.inr (Or.inl ⟨w, hl, a5, a6⟩))))
        have hno : isG (v s) = false → ∃ T2, some (va_up (va_up M 94 (upd (M 94) 16 (nI (v s)).toInt8.toInt32)) 94 (upd (upd (M 94) 16 (nI (v s)).toInt8.toInt32) 15 (5 : Int32))) = some T2 ∧ Fr wNx T T2 ∧ T2 94 13 = nI s ∧ T2 94 14 = nI (s + 1) ∧ TK T2 (bif isG (v s) then v s else 1) := fun w => by
          obtain ⟨T2, a1, a2, a3, a4, a5, a6⟩ := hR 5
          refine ⟨T2, a1, a2, a3, a4, ?_⟩
          rw [w]
          exact Or.inr (Or.inl ⟨rfl, a5⟩)
        show ∃ T2, (if (nI (v s)).toInt8.toInt32 = (40 : Int32) then some (va_up (va_up M 94 (upd (M 94) 16 (nI (v s)).toInt8.toInt32)) 94 (upd (upd (M 94) 16 (nI (v s)).toInt8.toInt32) 15 (3 : Int32))) else if (nI (v s)).toInt8.toInt32 = (41 : Int32) then some (va_up (va_up M 94 (upd (M 94) 16 (nI (v s)).toInt8.toInt32)) 94 (upd (upd (M 94) 16 (nI (v s)).toInt8.toInt32) 15 (3 : Int32))) else if (nI (v s)).toInt8.toInt32 = (59 : Int32) then some (va_up (va_up M 94 (upd (M 94) 16 (nI (v s)).toInt8.toInt32)) 94 (upd (upd (M 94) 16 (nI (v s)).toInt8.toInt32) 15 (3 : Int32))) else if (nI (v s)).toInt8.toInt32 = (43 : Int32) then some (va_up (va_up M 94 (upd (M 94) 16 (nI (v s)).toInt8.toInt32)) 94 (upd (upd (M 94) 16 (nI (v s)).toInt8.toInt32) 15 (3 : Int32))) else if (nI (v s)).toInt8.toInt32 = (45 : Int32) then some (va_up (va_up M 94 (upd (M 94) 16 (nI (v s)).toInt8.toInt32)) 94 (upd (upd (M 94) 16 (nI (v s)).toInt8.toInt32) 15 (3 : Int32))) else if (nI (v s)).toInt8.toInt32 = (42 : Int32) then some (va_up (va_up M 94 (upd (M 94) 16 (nI (v s)).toInt8.toInt32)) 94 (upd (upd (M 94) 16 (nI (v s)).toInt8.toInt32) 15 (3 : Int32))) else if (nI (v s)).toInt8.toInt32 = (60 : Int32) then some (va_up (va_up M 94 (upd (M 94) 16 (nI (v s)).toInt8.toInt32)) 94 (upd (upd (M 94) 16 (nI (v s)).toInt8.toInt32) 15 (3 : Int32))) else if (nI (v s)).toInt8.toInt32 = (61 : Int32) then some (va_up (va_up M 94 (upd (M 94) 16 (nI (v s)).toInt8.toInt32)) 94 (upd (upd (M 94) 16 (nI (v s)).toInt8.toInt32) 15 (3 : Int32))) else some (va_up (va_up M 94 (upd (M 94) 16 (nI (v s)).toInt8.toInt32)) 94 (upd (upd (M 94) 16 (nI (v s)).toInt8.toInt32) 15 (5 : Int32)))) = some T2 ∧ Fr wNx T T2 ∧ T2 94 13 = nI s ∧ T2 94 14 = nI (s + 1) ∧ TK T2 (bif isG (v s) then v s else 1)
        have st : ∀ (c : Nat) (y : Option jA3), c < 128 → isG c = true → (v s ≠ c → ∃ T2, y = some T2 ∧ Fr wNx T T2 ∧ T2 94 13 = nI s ∧ T2 94 14 = nI (s + 1) ∧ TK T2 (bif isG (v s) then v s else 1)) → ∃ T2, (if (nI (v s)).toInt8.toInt32 = nI c then some (va_up (va_up M 94 (upd (M 94) 16 (nI (v s)).toInt8.toInt32)) 94 (upd (upd (M 94) 16 (nI (v s)).toInt8.toInt32) 15 (3 : Int32))) else y) = some T2 ∧ Fr wNx T T2 ∧ T2 94 13 = nI s ∧ T2 94 14 = nI (s + 1) ∧ TK T2 (bif isG (v s) then v s else 1) := fun c y h1 h2 h3 => by
          by_cases w : v s = c
          · rw [if_pos ((ec c h1).mpr w)]
            exact hyes (w ▸ h2)
          · rw [if_neg (fun u => w ((ec c h1).mp u))]
            exact h3 w
        refine st 40 _ (by omega) rfl (fun w1 => st 41 _ (by omega) rfl (fun w2 => st 59 _ (by omega) rfl (fun w3 => st 43 _ (by omega) rfl (fun w4 => st 45 _ (by omega) rfl (fun w5 => st 42 _ (by omega) rfl (fun w6 => st 60 _ (by omega) rfl (fun w7 => st 61 _ (by omega) rfl (fun w8 => hno ?_))))))))
        cases hG : isG (v s) with
        | false => rfl
        | true =>
          have := (isG_lt hG).2
          omega
      · rw [if_neg (by decide)]
        generalize hM : va_up (va_up T 94 (upd (T 94) 14 (nI s))) 94 (upd (upd (T 94) 14 (nI s)) 16 (0 : Int32)) = M
        have fM : Fr wNx T M := by
          rw [← hM]
          exact Fr.up (Fr.up Fr.rf (FrC.up FrC.bs rfl)) (FrC.up (FrC.up (FrC.sm (FrC.up FrC.bs rfl) FrC.bs) rfl) rfl)
        have m13 : M 94 13 = nI s := by rw [← hM]; exact h13
        have m14 : M 94 14 = nI s := by rw [← hM]; rfl
        have m16 : M 94 16 = 0 := by rw [← hM]; rfl
        obtain ⟨T2, e2, f2, k14, k16⟩ := c_digits (ht.fr fM rfl (fun _ => rfl)) hs m13 m14 m16
        have hle := rn_le (P := isD) (v := v) 160 s hs
        have k13 : T2 94 13 = nI s := by rw [f2 94 13 rfl]; exact m13
        show ∃ T3, Option.bind (jwh cX11_next_188 M) _ = some T3 ∧ _
        rw [e2]
        show ∃ T3, jX11_next_264 T2 = some T3 ∧ Fr wNx T T3 ∧ T3 94 13 = nI s ∧ T3 94 14 = nI (rn isD v z 160 s) ∧ TK T3 (bif Nat.ble (rn isD v z 160 s - s) 4 then 1000 + nm v s (rn isD v z 160 s - s) else 1)
        unfold jX11_next_264
        rw [k13, k14, pk_sub hle.1]
        have fT2 : Fr wNx T T2 := fM.tr (f2.wd rfl)
        by_cases r : rn isD v z 160 s - s ≤ 4
        · rw [if_pos (show nI (rn isD v z 160 s - s) ≤ (4 : Int32) from nI_le (b := 4) r (by omega)), ble_t r]
          have hl := nm_lt (v := v) (s := s) (rn isD v z 160 s - s) (fun i hi => rn_all (P := isD) (v := v) (z := z) 160 s (s + i) (by omega) (by omega))
          have hp : 10 ^ (rn isD v z 160 s - s) ≤ 10 ^ 4 := Nat.pow_le_pow_right (by omega) r
          exact ⟨_, rfl, Fr.up fT2 (FrC.up FrC.bs rfl), k13, k14, Or.inr (Or.inr (Or.inr (Or.inr (Or.inr ⟨_, by omega, rfl, rfl, k16 r⟩))))⟩
        · rw [if_neg (show ¬ nI (rn isD v z 160 s - s) ≤ (4 : Int32) from nI_ge (a := 4) (b := rn isD v z 160 s - s) (by omega) (by omega)), ble_f r]
          exact ⟨_, rfl, Fr.up fT2 (FrC.up FrC.bs rfl), k13, k14, Or.inr (Or.inl ⟨rfl, rfl⟩)⟩
    · rw [if_neg (by decide)]
      generalize hM : va_up T 94 (upd (T 94) 14 (nI s)) = M
      have fM : Fr wNx T M := by
        rw [← hM]
        exact Fr.up Fr.rf (FrC.up FrC.bs rfl)
      have m13 : M 94 13 = nI s := by rw [← hM]; exact h13
      have m14 : M 94 14 = nI s := by rw [← hM]; rfl
      obtain ⟨T2, e2, f2, k14⟩ := rn_C (kk := 14) (by decide) (P := isL) (b := cX11_next_110) (fun s p => c_letter s p) 160 (show z ≤ s + 160 by omega) hs (ht.fr fM rfl (fun _ => rfl)) m14
      have hle := rn_le (P := isL) (v := v) 160 s hs
      have fT2 : Fr wNx T T2 := fM.tr (f2.wd rfl)
      have k13 : T2 94 13 = nI s := by rw [f2 94 13 rfl]; exact m13
      rw [e2]
      show ∃ T3, jX11_next_149 T2 = some T3 ∧ Fr wNx T T3 ∧ T3 94 13 = nI s ∧ T3 94 14 = nI (rn isL v z 160 s) ∧ TK T3 (wcode (wrd v s (rn isL v z 160 s)))
      unfold jX11_next_149
      rw [r_wordC (fun j => by rw [fT2 103 j rfl]; exact hc j) (fun j => by rw [fT2 104 j rfl]; exact hm j) (ht.fr fT2 rfl (fun _ => rfl)) k13 k14 hle.1 hle.2]
      have hR : ∀ (c d : Int32), Fr wNx T (va_up (va_up T2 94 (upd (T2 94) 16 c)) 94 (upd (upd (T2 94) 16 c) 15 d)) := fun c d => Fr.up (Fr.up fT2 (FrC.up FrC.bs rfl)) (FrC.up (FrC.up (FrC.sm (FrC.up FrC.bs rfl) FrC.bs) rfl) rfl)
      cases hw : wrd v s (rn isL v z 160 s) with
      | none =>
        exact ⟨_, rfl, hR (-1) 5, k13, k14, Or.inr (Or.inl ⟨rfl, rfl⟩)⟩
      | some k =>
        have hk := wrd_lt k hw
        obtain ⟨a1, a2⟩ := km_t k hk
        have a3 : (0 : Int32) ≤ KM k := i32_nlt a1
        refine ⟨va_up (va_up T2 94 (upd (T2 94) 16 (KM k))) 94 (upd (upd (T2 94) 16 (KM k)) 15 (1 : Int32)), ?_, hR (KM k) 1, k13, k14, ?_⟩
        · show (if 0 ≤ KM k then _ else _) = _
          rw [if_pos a3]
          rfl
        · unfold wcode
          show TK _ (bif Nat.blt k 6 then 200 + k else 294 + k)
          by_cases w : k < 6
          · rw [blt_t w]
            rw [if_pos w] at a2
            exact Or.inr (Or.inr (Or.inl ⟨k, w, rfl, rfl, a2⟩))
          · rw [blt_f w]
            rw [if_neg w] at a2
            exact Or.inr (Or.inr (Or.inr (Or.inl ⟨k - 6, by omega, by show 294 + k = 300 + (k - 6); omega, rfl, by show KM k = _; rw [a2, show 10 + (k - 6) = 4 + k by omega]⟩)))
  · have ez : s = z := by omega
    rw [if_neg (nI_nlt (by omega) (by omega)), blt_f q]
    exact ⟨_, rfl, Fr.up (Fr.up (Fr.up Fr.rf (FrC.up FrC.bs rfl)) (FrC.up (FrC.up (FrC.sm (FrC.up FrC.bs rfl) FrC.bs) rfl) rfl)) (FrC.up FrC.bs rfl), by rw [ez]; rfl, by show nI s = nI z; rw [ez], Or.inl ⟨rfl, rfl⟩⟩
theorem r_nextC {v : Nat → Nat} {z i : Nat} (hc : ∀ j, T 103 j = KL j) (hm : ∀ j, T 104 j = KM j) (ht : tpC T v z) (h14 : T 94 14 = nI (tps v z i)) : ∃ T2, fX11_next T = some T2 ∧ Fr wNx T T2 ∧ T2 94 13 = nI (tst v z i) ∧ T2 94 14 = nI (tps v z (i + 1)) ∧ TK T2 (tcd v z i) := by
  have hz := ht.1
  unfold fX11_next
  rw [h14]
  generalize hM : va_up T 94 (upd (T 94) 13 (nI (tps v z i))) = M
  have fM : Fr wNx T M := by
    rw [← hM]
    exact Fr.up Fr.rf (FrC.up FrC.bs rfl)
  have m13 : M 94 13 = nI (tps v z i) := by rw [← hM]; rfl
  obtain ⟨T2, e2, f2, k13⟩ := rn_C (kk := 13) (by decide) (P := isB) (b := cX11_next_8) (fun s p => c_blank s p) 160 (show z ≤ tps v z i + 160 by omega) (tps_le i) (ht.fr fM rfl (fun _ => rfl)) m13
  have fT2 : Fr wNx T T2 := fM.tr (f2.wd rfl)
  obtain ⟨T3, e3, f3, a1, a2, a3⟩ := r_next60 (fun j => by rw [fT2 103 j rfl]; exact hc j) (fun j => by rw [fT2 104 j rfl]; exact hm j) (ht.fr fT2 rfl (fun _ => rfl)) k13 (tst_le (v := v) (z := z) (i := i)).2
  rw [e2]
  exact ⟨T3, e3, fT2.tr f3, a1, a2, a3⟩
