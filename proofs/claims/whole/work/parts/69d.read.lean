/-! text: from the start -/
variable {B C : jA3}
theorem read_both (hc : rCst B C) (ht : rTape B C) : ∃ (v : Nat → Nat) (z N : Nat) (A2 T2 : jA3), fX5_readTape B = some (A2 21 5, va_up A2 22 (upd (A2 22) 1 (0 : Int32))) ∧ (Option.bind (some (va_up (va_up C 94 (upd (C 94) 14 (0 : Int32))) 94 (upd (upd (C 94) 14 (0 : Int32)) 11 (-1 : Int32)))) fun m2 => Option.bind (some (va_up (va_up m2 94 (upd (m2 94) 12 (0 : Int32))) 94 (upd (upd (m2 94) 12 (0 : Int32)) 10 (0 : Int32)))) fun m4 => Option.bind (fX11_next m4) fun r6 => Option.bind (jwh (cX11_text_38) ((0 : Int32), r6)) fun e8 => jX11_text_61 e8) = jX11_text_80 T2 ∧ RD v z N A2 T2 ∧ Fr [(94, 94, some 10), (94, 94, some 11), (94, 94, some 12), (94, 94, some 13), (94, 94, some 14), (94, 94, some 15), (94, 94, some 16), (98, 98, none), (99, 99, none), (100, 100, none)] C T2 ∧ (∀ j, j < 1020 → T2 98 j = C 98 j ∧ T2 99 j = C 99 j) ∧ ∀ j, j < 18 → T2 100 j = C 100 j := by
  obtain ⟨g1, z, gz, g2, g3⟩ := ht
  obtain ⟨k1, k2, k3⟩ := hc
  have hv : ∃ v : Nat → Nat, ∀ i, i < z → v i < 256 ∧ B 23 i = nI (v i) ∧ C 97 i = (nI (v i)).toInt8.toInt32 := by
    refine ⟨fun i => jx (B 23 i), fun i hi => ?_⟩
    obtain ⟨w, w1, w2, w3⟩ := g3 i hi
    have e : jx (B 23 i) = w := by rw [w2]; exact jx_n (by omega)
    show jx (B 23 i) < 256 ∧ B 23 i = nI (jx (B 23 i)) ∧ C 97 i = (nI (jx (B 23 i))).toInt8.toInt32
    rw [e]
    exact ⟨w1, w2, w3⟩
  obtain ⟨v, hv⟩ := hv
  have htB : tpB B v z := ⟨gz, g2, fun i hi => ⟨(hv i hi).2.1, (hv i hi).1⟩⟩
  have htC : tpC C v z := ⟨gz, by rw [g1]; exact g2, fun i hi => ⟨(hv i hi).2.2, (hv i hi).1⟩⟩
  obtain ⟨A1, N, e1, hN, f1, c1, c2, c3, c4⟩ := r_cut k1 htB
  have hTS : TS v z N := ⟨gz, hN, c1, c2, fun i => tcode_lt (fun q => (hv _ q).1)⟩
  generalize hM : va_up (va_up (va_up A1 21 (upd (A1 21) 3 (0 : Int32))) 21 (upd (upd (A1 21) 3 (0 : Int32)) 4 (0 : Int32))) 21 (upd (upd (upd (A1 21) 3 (0 : Int32)) 4 (0 : Int32)) 5 (-1 : Int32)) = M
  generalize hK : va_up (va_up (va_up (va_up C 94 (upd (C 94) 14 (0 : Int32))) 94 (upd (upd (C 94) 14 (0 : Int32)) 11 (-1 : Int32))) 94 (upd (upd (upd (C 94) 14 (0 : Int32)) 11 (-1 : Int32)) 12 (0 : Int32))) 94 (upd (upd (upd (upd (C 94) 14 (0 : Int32)) 11 (-1 : Int32)) 12 (0 : Int32)) 10 (0 : Int32)) = K
  have fK : Fr [(94, 94, some 10), (94, 94, some 11), (94, 94, some 12), (94, 94, some 14)] C K := fun c j q => by
    rw [← hK]
    by_cases e : c = 94
    · subst e
      have q : (Nat.beq 10 j || (Nat.beq 11 j || (Nat.beq 12 j || (Nat.beq 14 j || false)))) = false := q
      simp only [Bool.or_eq_false_iff] at q
      have n1 : j ≠ 10 := fun w => by rw [w] at q; exact absurd q.1 (by decide)
      have n2 : j ≠ 11 := fun w => by rw [w] at q; exact absurd q.2.1 (by decide)
      have n3 : j ≠ 12 := fun w => by rw [w] at q; exact absurd q.2.2.1 (by decide)
      have n4 : j ≠ 14 := fun w => by rw [w] at q; exact absurd q.2.2.2.1 (by decide)
      rw [ju_same, upd_ne n1, upd_ne n3, upd_ne n2, upd_ne n4]
    · rw [ju_ne _ _ e, ju_ne _ _ e, ju_ne _ _ e, ju_ne _ _ e]
  have htK : tpC K v z := htC.fr fK rfl (fun _ => rfl)
  obtain ⟨T1, e2, f2, a1, a2, a3⟩ := r_nextC (i := 0) (fun j => by rw [fK 103 j rfl]; exact k2 j) (fun j => by rw [fK 104 j rfl]; exact k3 j) htK (by rw [← hK]; rfl)
  have fT1 : Fr [(94, 94, some 10), (94, 94, some 11), (94, 94, some 12), (94, 94, some 13), (94, 94, some 14), (94, 94, some 15), (94, 94, some 16), (98, 98, none), (99, 99, none), (100, 100, none)] C T1 := (fK.wd rfl).tr (f2.wd rfl)
  have hO : OK M T1 v z N 0 0 0 := by
    refine ⟨⟨by rw [← hM]; exact c3, fun i hi => by rw [← hM]; exact c4 i hi⟩, ⟨htC.fr fT1 rfl (fun _ => rfl), fun j => by rw [fT1 103 j rfl]; exact k2 j, fun j => by rw [fT1 104 j rfl]; exact k3 j⟩, Nat.zero_le _, Nat.le_refl _, by omega, by rw [← hM]; rfl, by rw [← hM]; rfl, by rw [← hM]; rfl, by rw [f2 94 11 rfl, ← hK]; rfl, by rw [f2 94 10 rfl, ← hK]; rfl, by rw [f2 94 12 rfl, ← hK]; rfl, a1, a2, a3, fun k hk => absurd hk (Nat.not_lt_zero _)⟩
  obtain ⟨A3, T3, e3, e4, hR⟩ := rules hTS 3 0 rfl M T1 ⟨0, 0, fun _ => 0, hO, rfl, rfl, fun q hq => absurd hq (Nat.not_lt_zero _)⟩
  obtain ⟨A4, T4, e5, e6, hD, f4⟩ := read_end hTS hR
  have f3 : Fr [(94, 94, some 10), (94, 94, some 11), (94, 94, some 12), (94, 94, some 13), (94, 94, some 14), (94, 94, some 15), (94, 94, some 16), (98, 98, none), (99, 99, none), (100, 100, none)] T1 T3 := Fr.lp (ms := fun (s : Int32 × jA3) => s.2) (mr := fun (s : jA3) => s) (fun s z h => w_cX11_text_38 s z h) e4
  obtain ⟨l1, l2⟩ := lo_text_38 e4 0 (by omega) rfl
  have l1 : Lo T1 T3 := l1
  have l2 : ∀ j, j < 18 → T3 100 j = T1 100 j := l2
  have t98 : ∀ j, T1 98 j = C 98 j := fun j => (f2 98 j rfl).trans (fK 98 j rfl)
  have t99 : ∀ j, T1 99 j = C 99 j := fun j => (f2 99 j rfl).trans (fK 99 j rfl)
  have t100 : ∀ j, T1 100 j = C 100 j := fun j => (f2 100 j rfl).trans (fK 100 j rfl)
  have l3 := (l1 0 (by omega) hO.2.2.2.2.2.2.2.2.2.1).2
  refine ⟨v, z, N, A4, T4, ?_, ?_, hD, (fT1.tr f3).tr (f4.wd rfl), fun j hj => ⟨?_, ?_⟩, fun j hj => ?_⟩
  · unfold fX5_readTape
    rw [e1]
    show Option.bind (jwh cX5_readTape_24 ((0 : Int32), va_up (va_up (va_up A1 21 (upd (A1 21) 3 (0 : Int32))) 21 (upd (upd (A1 21) 3 (0 : Int32)) 4 (0 : Int32))) 21 (upd (upd (upd (A1 21) 3 (0 : Int32)) 4 (0 : Int32)) 5 (-1 : Int32)))) _ = _
    rw [hM, show ((0 : Int32), M) = (nI 0, M) from rfl, e3]
    show Option.bind (fX5_expect (va_up A3 27 (upd (A3 27) 3 (A3 21 3))) 0) _ = _
    rw [e5]
    rfl
  · show Option.bind (fX11_next (va_up (va_up (va_up (va_up C 94 (upd (C 94) 14 (0 : Int32))) 94 (upd (upd (C 94) 14 (0 : Int32)) 11 (-1 : Int32))) 94 (upd (upd (upd (C 94) 14 (0 : Int32)) 11 (-1 : Int32)) 12 (0 : Int32))) 94 (upd (upd (upd (upd (C 94) 14 (0 : Int32)) 11 (-1 : Int32)) 12 (0 : Int32)) 10 (0 : Int32)))) _ = _
    rw [hK, e2]
    show Option.bind (jwh cX11_text_38 (nI 0, T1)) _ = _
    rw [e4]
    exact e6
  · rw [f4 98 j rfl, (l3 j hj).1, t98]
  · rw [f4 99 j rfl, (l3 j hj).2, t99]
  · rw [f4 100 j rfl, l2 j hj, t100]
