/-! text: the code's tokens, one and all -/
variable {B C A : jA3}
def tend (v : Nat → Nat) (z s : Nat) : Nat := bif Nat.blt s z then (bif isL (v s) then rn isL v z 160 s else bif isD (v s) then rn isD v z 160 s else s + 1) else z
def tcode (v : Nat → Nat) (z s : Nat) : Nat := bif Nat.blt s z then (bif isL (v s) then wcode (wrd v s (rn isL v z 160 s)) else bif isD (v s) then (bif Nat.ble (rn isD v z 160 s - s) 4 then 1000 + nm v s (rn isD v z 160 s - s) else 1) else bif isG (v s) then v s else 1) else 0
/-- where token i begins; where it ends is where the next is sought -/
def tps (v : Nat → Nat) (z : Nat) : Nat → Nat
  | 0 => 0
  | i + 1 => tend v z (rn isB v z 160 (tps v z i))
def tst (v : Nat → Nat) (z i : Nat) : Nat := rn isB v z 160 (tps v z i)
def tcd (v : Nat → Nat) (z i : Nat) : Nat := tcode v z (tst v z i)
theorem blt_f {a b : Nat} (h : ¬ a < b) : Nat.blt a b = false := ble_f h
theorem tend_le {v : Nat → Nat} {z s : Nat} (h : s ≤ z) : tend v z s ≤ z ∧ s ≤ tend v z s := by
  unfold tend
  by_cases q : s < z
  · rw [blt_t q]
    cases isL (v s)
    · cases isD (v s)
      · exact ⟨q, Nat.le_succ _⟩
      · have := rn_le (P := isD) (v := v) 160 s h
        exact ⟨this.2, this.1⟩
    · have := rn_le (P := isL) (v := v) 160 s h
      exact ⟨this.2, this.1⟩
  · rw [blt_f q]
    exact ⟨Nat.le_refl _, h⟩
theorem tend_gt {v : Nat → Nat} {z s : Nat} (q : s < z) : s < tend v z s := by
  unfold tend
  rw [blt_t q]
  cases hL : isL (v s)
  · cases hD : isD (v s)
    · exact Nat.lt_succ_self _
    · show s < rn isD v z (159 + 1) s
      rw [rn_go q hD]
      exact (rn_le (P := isD) (v := v) 159 (s + 1) q).1
  · show s < rn isL v z (159 + 1) s
    rw [rn_go q hL]
    exact (rn_le (P := isL) (v := v) 159 (s + 1) q).1
theorem tps_le {v : Nat → Nat} {z : Nat} : ∀ i, tps v z i ≤ z
  | 0 => Nat.zero_le _
  | i + 1 => (tend_le (rn_le (P := isB) (v := v) 160 _ (tps_le i)).2).1
theorem tst_le {v : Nat → Nat} {z i : Nat} : tps v z i ≤ tst v z i ∧ tst v z i ≤ z := rn_le 160 _ (tps_le i)
theorem tcd_lt {v : Nat → Nat} {z i : Nat} (h : tcd v z i ≠ 0) : tst v z i < z := by
  rcases Nat.lt_or_ge (tst v z i) z with q | q
  · exact q
  · exact absurd (by unfold tcd tcode; rw [blt_f (by omega)]; rfl) h
/-- tokens ahead are as many bytes at the least -/
theorem tps_ge {v : Nat → Nat} {z : Nat} : ∀ i, (∀ j, j < i → tcd v z j ≠ 0) → i ≤ tps v z i
  | 0, _ => Nat.zero_le _
  | i + 1, h => by
    have ih := tps_ge i (fun j hj => h j (by omega))
    have a := tst_le (v := v) (z := z) (i := i)
    have b : tst v z i < tps v z (i + 1) := tend_gt (tcd_lt (h i (by omega)))
    omega
theorem jchr_n : ∀ b, b < 256 → jchr (nI b) = nI b := by decide +kernel
theorem sg_t : ∀ b, b < 256 → (isG b = true ↔ ∃ i, i < 8 ∧ KC 13 i = (nI b).toInt8.toInt32) := by decide +kernel
theorem ce_t : ∀ b, b < 256 → ¬ fJ1_canEncode_9a6ad (nI b) = 0 := by decide +kernel
theorem r_sign (h : ∀ c, 3 ≤ c → c ≤ 13 → ∀ j, A c j = KC c j) {b : Nat} (hb : b < 256) : Run (fun x => (isG b = true → ¬ x < 0) ∧ (isG b = false → x < 0)) (fJ0_indexOf_0f7a4 A (jchr (nI b))) := by
  rw [jchr_n b hb]
  unfold fJ0_indexOf_0f7a4 fJ0_indexOf_7cf53 fJ0_isLatin1_aae02 fJ0_length_8abf5 fJ0_coder_7d493
  rw [h 10 (by omega) (by omega)]
  have hr : Run (fun x => (x = .inl () ∧ ∀ i, i < 8 → ¬ KC 13 i = (nI b).toInt8.toInt32) ∨ ∃ k, k < 8 ∧ x = .inr (nI k) ∧ KC 13 k = (nI b).toInt8.toInt32) (jwh (cJ1_indexOfChar_4cfef_7 A (8 : Int32) (nI b).toInt8.toInt32) (0 : Int32)) := by
    refine Run.up 8 (fun k t => t = nI k ∧ ∀ i, i < k → ¬ KC 13 i = (nI b).toInt8.toInt32) ?_ ?_ (Nat.zero_le _) ⟨rfl, fun i hi => absurd hi (Nat.not_lt_zero _)⟩
    · rintro k t hk ⟨rfl, hI⟩
      unfold cJ1_indexOfChar_4cfef_7
      rw [jx_n (by omega), h 13 (by omega) (by omega)]
      refine Run.im (nI_ge (b := 8) hk (by omega)) <| Run.g (vp_in_nI (by omega) (by omega)) <| Run.i (fun y => Run.rt (Or.inr ⟨k, hk, rfl, y⟩)) (fun y => Run.rt ⟨by rw [nI_1], fun i hi => ?_⟩)
      by_cases q : i = k
      · rw [q]; exact y
      · exact hI i (by omega)
    · rintro t ⟨rfl, hI⟩
      unfold cJ1_indexOfChar_4cfef_7
      exact Run.ip (nI_le (a := 8) (b := 8) (Nat.le_refl _) (by omega)) <| Run.rt (Or.inl ⟨rfl, hI⟩)
  have e1 : fJ1_indexOf_4cfef A (nI b) (0 : Int32) (8 : Int32) = fJ1_indexOfChar_4cfef A (nI b) (0 : Int32) (8 : Int32) := by
    unfold fJ1_indexOf_4cfef
    rw [if_neg (ce_t b hb), if_pos (by decide)]
    show Option.bind (fJ1_indexOfChar_4cfef A (nI b) (0 : Int32) (8 : Int32)) _ = _
    cases fJ1_indexOfChar_4cfef A (nI b) (0 : Int32) (8 : Int32) <;> rfl
  have e2 : jshr (Int32.ofNat 8) (KC 10 1) = (8 : Int32) := by decide
  refine Run.bd (R := fun x => (isG b = true → ¬ x < 0) ∧ (isG b = false → x < 0)) ?_ (fun x hx => Run.rt hx)
  rw [if_neg (by decide), if_neg (show ¬ (1 : Int32) = 0 by decide), jgd_t (show (KC 10 1).toInt8.toInt32 = KC 10 1 by decide)]
  refine Run.be (a := (8 : Int32)) (by rw [← e2]; rfl) ?_
  rw [e1]
  refine Run.bd (R := fun x => (isG b = true → ¬ x < 0) ∧ (isG b = false → x < 0)) ?_ (fun x hx => Run.rt hx)
  unfold fJ1_indexOfChar_4cfef
  obtain ⟨x, ex, ⟨rfl, q⟩ | ⟨k, hk, rfl, q⟩⟩ := hr
  · rw [ex]
    refine Run.rt ⟨fun g => ?_, fun _ => by decide⟩
    obtain ⟨i, hi, e⟩ := (sg_t b hb).mp g
    exact absurd e (q i hi)
  · rw [ex]
    refine Run.rt ⟨fun _ => nI_pos (by omega), fun g => ?_⟩
    rw [(sg_t b hb).mpr ⟨k, hk, q⟩] at g
    cases g
theorem cst_fr {A2 : jA3} {ws : List (Nat × Nat × Option Nat)} (h : ∀ c, 3 ≤ c → c ≤ 13 → ∀ j, A c j = KC c j) (f : Fr ws A A2) (hd : dj [(3, 13, none)] ws = true) : ∀ c, 3 ≤ c → c ≤ 13 → ∀ j, A2 c j = KC c j := fun c a b j => by
  rw [f.at (l := [(3, 13, none)]) hd c j (inW_rng (lo := 3) (hi := 13) rfl a b)]
  exact h c a b j
theorem wcode_lt (o : Option Nat) (h : ∀ k, o = some k → k < 12) : wcode o < 400 := by
  cases o with
  | none => show 1 < 400; omega
  | some k =>
    have := h k rfl
    unfold wcode
    show (bif Nat.blt k 6 then 200 + k else 294 + k) < 400
    cases Nat.blt k 6
    · show 294 + k < 400
      omega
    · show 200 + k < 400
      omega
theorem wrd_lt {v : Nat → Nat} {s e : Nat} : ∀ k, wrd v s e = some k → k < 12 := by
  intro k h
  unfold wrd at h
  have st : ∀ (b : Bool) (i : Nat) (r : Option Nat), i < 12 → (r = some k → k < 12) → (bif b then some i else r) = some k → k < 12 := by
    intro b i r hi hr he
    cases b
    · exact hr he
    · have : i = k := Option.some.inj he
      omega
  revert h
  refine st _ 0 _ (by omega) ?_
  refine st _ 1 _ (by omega) ?_
  refine st _ 2 _ (by omega) ?_
  refine st _ 3 _ (by omega) ?_
  refine st _ 4 _ (by omega) ?_
  refine st _ 5 _ (by omega) ?_
  refine st _ 6 _ (by omega) ?_
  refine st _ 7 _ (by omega) ?_
  refine st _ 8 _ (by omega) ?_
  refine st _ 9 _ (by omega) ?_
  refine st _ 10 _ (by omega) ?_
  refine st _ 11 _ (by omega) ?_
  intro h
  cases h
theorem tcode_lt {v : Nat → Nat} {z s : Nat} (hv : s < z → v s < 256) : tcode v z s < 20000 := by
  unfold tcode
  by_cases q : s < z
  · rw [blt_t q]
    cases isL (v s)
    · cases isD (v s)
      · cases isG (v s)
        · show 1 < 20000; omega
        · have := hv q
          show v s < 20000
          omega
      · show (bif Nat.ble (rn isD v z 160 s - s) 4 then 1000 + nm v s (rn isD v z 160 s - s) else 1) < 20000
        by_cases r : rn isD v z 160 s - s ≤ 4
        · rw [ble_t r]
          have a := nm_lt (v := v) (s := s) (rn isD v z 160 s - s) (fun i hi => rn_all (P := isD) (v := v) (z := z) 160 s (s + i) (by omega) (by omega))
          have b : 10 ^ (rn isD v z 160 s - s) ≤ 10 ^ 4 := Nat.pow_le_pow_right (by omega) r
          show 1000 + nm v s (rn isD v z 160 s - s) < 20000
          omega
        · rw [ble_f r]
          show 1 < 20000; omega
    · have := wcode_lt (wrd v s (rn isL v z 160 s)) wrd_lt
      show wcode (wrd v s (rn isL v z 160 s)) < 20000
      omega
  · rw [blt_f q]
    show 0 < 20000; omega
theorem r_token (h : ∀ c, 3 ≤ c → c ≤ 13 → ∀ j, A c j = KC c j) {v : Nat → Nat} {z s : Nat} (ht : tpB A v z) (h5 : A 22 5 = nI s) (hs : s < z) : ∃ A2, fX8_tokenAt A (nI s) = some (nI (tcode v z s), A2) ∧ Fr [(22, 22, some 5)] A A2 ∧ A2 22 5 = nI (tend v z s) := by
  obtain ⟨h1, h2, h3⟩ := id ht
  have hv := (h3 s hs).2
  have v1 : vp_in (nI s) 160 := vp_in_nI (by omega) (by omega)
  unfold fX8_tokenAt tcode tend
  rw [jgd_t v1, jx_n (by omega), (h3 s hs).1, L_cls _ hv, blt_t hs]
  cases hL : isL (v s)
  · rw [if_pos (show (if false = true then (1 : Int32) else 0) = 0 from rfl), jgd_t v1, D_cls _ hv]
    cases hD : isD (v s)
    · rw [if_pos (show (if false = true then (1 : Int32) else 0) = 0 from rfl), jgd_t v1]
      have f1 : Fr [(22, 22, some 5)] A (up5 A) := Fr.up Fr.rf (FrC.up FrC.bs rfl)
      obtain ⟨x, ex, x1, x2⟩ := r_sign (A := up5 A) (cst_fr h f1 rfl) hv
      refine ⟨up5 A, ?_, f1, by show upd (A 22) 5 (A 22 5 + 1) 5 = _; rw [upd_at, h5, nI_1]; rfl⟩
      rw [ex]
      show (if x < 0 then _ else _) = _
      cases hG : isG (v s)
      · rw [if_pos (x2 hG)]; rfl
      · rw [if_neg (x1 hG), jgd_t v1]; rfl
    · rw [if_neg (by decide)]
      obtain ⟨A2, e2, f2, g2⟩ := rn_B (P := isD) (b := cX8_tokenAt_69 (nI s)) (fun s p => b_digit s p) 160 (by omega) (show s ≤ z by omega) ht h5
      have hle := rn_le (P := isD) (v := v) 160 s (show s ≤ z by omega)
      refine ⟨A2, ?_, f2, g2⟩
      rw [e2]
      show Option.bind (fX8_numberFrom A2 (nI s)) _ = _
      rw [r_number (ht.fr f2 rfl (fun _ => rfl)) g2 hle.1 hle.2 (fun i a b => rn_all 160 s i a b)]
      show some (nI (if rn isD v z 160 s - s ≤ 4 then _ else _), A2) = some (nI (bif Nat.ble (rn isD v z 160 s - s) 4 then _ else _), A2)
      by_cases q : rn isD v z 160 s - s ≤ 4
      · rw [if_pos q, ble_t q]; rfl
      · rw [if_neg q, ble_f q]; rfl
  · rw [if_neg (by decide)]
    obtain ⟨A2, e2, f2, g2⟩ := rn_B (P := isL) (b := cX8_tokenAt_12 (nI s)) (fun s p => b_letter s p) 160 (by omega) (show s ≤ z by omega) ht h5
    have hle := rn_le (P := isL) (v := v) 160 s (show s ≤ z by omega)
    refine ⟨A2, ?_, f2, g2⟩
    rw [e2]
    show Option.bind (fX8_wordFrom A2 (nI s)) _ = _
    rw [r_word (cst_fr h f2 rfl) (ht.fr f2 rfl (fun _ => rfl)) g2 hle.1 hle.2]
    rfl
/-- all of them -/
theorem r_cut (h : ∀ c, 3 ≤ c → c ≤ 13 → ∀ j, A c j = KC c j) {v : Nat → Nat} {z : Nat} (ht : tpB A v z) : ∃ A2 N, fX8_cutUp A = some A2 ∧ N ≤ 160 ∧ Fr [(22, 22, some 4), (22, 22, some 5), (24, 24, none), (25, 25, none)] A A2 ∧ (∀ i, i < N → tcd v z i ≠ 0 ∧ tcd v z i ≠ 1) ∧ (tcd v z N = 0 ∨ tcd v z N = 1) ∧ A2 22 4 = nI (N + 1) ∧ ∀ i, i ≤ N → A2 24 i = nI (tcd v z i) ∧ A2 25 i = nI (tst v z i) := by
  unfold fX8_cutUp
  generalize hM : va_up (va_up A 22 (upd (A 22) 4 (0 : Int32))) 22 (upd (upd (A 22) 4 (0 : Int32)) 5 (0 : Int32)) = M
  have fM : Fr [(22, 22, some 4), (22, 22, some 5), (24, 24, none), (25, 25, none)] A M := by
    rw [← hM]
    exact Fr.up (Fr.up Fr.rf (FrC.up FrC.bs rfl)) (FrC.up (FrC.up (FrC.sm (FrC.up FrC.bs rfl) FrC.bs) rfl) rfl)
  have m4 : M 22 4 = 0 := by rw [← hM]; rfl
  have m5 : M 22 5 = 0 := by rw [← hM]; rfl
  have hr : Run (fun S => ∃ N, N ≤ 160 ∧ Fr [(22, 22, some 4), (22, 22, some 5), (24, 24, none), (25, 25, none)] A S ∧ (∀ i, i < N → tcd v z i ≠ 0 ∧ tcd v z i ≠ 1) ∧ (tcd v z N = 0 ∨ tcd v z N = 1) ∧ S 22 4 = nI (N + 1) ∧ ∀ i, i ≤ N → S 24 i = nI (tcd v z i) ∧ S 25 i = nI (tst v z i)) (jwh cX8_cutUp_12 ((1 : Int32), M)) := by
    refine Run.up 161 (fun c s => Fr [(22, 22, some 4), (22, 22, some 5), (24, 24, none), (25, 25, none)] A s.2 ∧ s.2 22 4 = nI c ∧ (∀ i, i < c → s.2 24 i = nI (tcd v z i) ∧ s.2 25 i = nI (tst v z i)) ∧ ((s.1 = 1 ∧ s.2 22 5 = nI (tps v z c) ∧ ∀ i, i < c → tcd v z i ≠ 0 ∧ tcd v z i ≠ 1) ∨ (s.1 = 0 ∧ ∃ N, c = N + 1 ∧ N ≤ 160 ∧ (∀ i, i < N → tcd v z i ≠ 0 ∧ tcd v z i ≠ 1) ∧ (tcd v z N = 0 ∨ tcd v z N = 1)))) ?_ ?_ (Nat.zero_le _) ⟨fM, m4, fun i hi => absurd hi (Nat.not_lt_zero _), Or.inl ⟨rfl, m5, fun i hi => absurd hi (Nat.not_lt_zero _)⟩⟩
    · rintro c ⟨s1, S⟩ hc ⟨fS, q4, q24, q⟩
      unfold cX8_cutUp_12
      rcases q with ⟨q1, q5, qI⟩ | ⟨q1, N, rfl, hN, qI, qE⟩
      · have q1 : s1 = 1 := q1
        subst q1
        have fS : Fr [(22, 22, some 4), (22, 22, some 5), (24, 24, none), (25, 25, none)] A S := fS
        have q4 : S 22 4 = nI c := q4
        have q24 : ∀ i, i < c → S 24 i = nI (tcd v z i) ∧ S 25 i = nI (tst v z i) := q24
        have q5 : S 22 5 = nI (tps v z c) := q5
        have htS : tpB S v z := ht.fr fS rfl (fun _ => rfl)
        obtain ⟨S1, e1, f1, g1⟩ := rn_B (P := isB) (b := cX8_cutUp_26) (fun s p => b_blank s p) 160 (by have := ht.1; omega) (tps_le c) htS q5
        have g1 : S1 22 5 = nI (tst v z c) := g1
        have hst := tst_le (v := v) (z := z) (i := c)
        have vc : vp_in (nI c) 161 := vp_in_nI (by omega) (by omega)
        refine Run.im (show ¬ (1 : Int32) = 0 by decide) <| Run.im (by show ¬ (160 : Int32) < S 22 4; rw [q4]; exact nI_nlt (a := 160) (b := c) (by omega) (by omega)) ?_
        show Run _ (Option.bind (jwh cX8_cutUp_26 S) _)
        rw [e1]
        refine Run.be rfl ?_
        unfold jX8_cutUp_78_12
        have s14 : S1 22 4 = nI c := by rw [f1 22 4 rfl]; exact q4
        rw [s14, jgd_t vc, jx_n (by omega), g1]
        generalize hS2 : va_up S1 25 (upd (S1 25) c (nI (tst v z c))) = S2
        have fA2 : Fr [(22, 22, some 4), (22, 22, some 5), (24, 24, none), (25, 25, none)] A S2 := by
          rw [← hS2]
          exact Fr.up (fS.tr (f1.wd rfl)) (FrC.al (fun _ => rfl))
        have s24 : S2 22 4 = nI c := by rw [← hS2]; exact s14
        have s25 : S2 22 5 = nI (tst v z c) := by rw [← hS2]; exact g1
        have s2I : ∀ i, i < c → S2 24 i = nI (tcd v z i) ∧ S2 25 i = nI (tst v z i) := fun i hi => by
          obtain ⟨a, b⟩ := q24 i hi
          rw [← hS2]
          refine ⟨by show S1 24 i = _; rw [f1 24 i rfl]; exact a, ?_⟩
          show upd (S1 25) c (nI (tst v z c)) i = _
          rw [upd_ne (by omega), f1 25 i rfl]
          exact b
        have s2c : S2 25 c = nI (tst v z c) := by rw [← hS2]; exact upd_at
        have hcl : tcd v z c < 20000 := tcode_lt (fun q => (ht.2.2 _ q).2)
        have hend : ∀ (S3 : jA3), Fr [(22, 22, some 4), (22, 22, some 5), (24, 24, none), (25, 25, none)] A S3 → S3 22 4 = nI c → S3 22 5 = nI (tps v z (c + 1)) → (∀ i, i < c → S3 24 i = nI (tcd v z i) ∧ S3 25 i = nI (tst v z i)) → S3 25 c = nI (tst v z c) → Run (SO (fun s => Fr [(22, 22, some 4), (22, 22, some 5), (24, 24, none), (25, 25, none)] A s.2 ∧ s.2 22 4 = nI (c + 1) ∧ (∀ i, i < c + 1 → s.2 24 i = nI (tcd v z i) ∧ s.2 25 i = nI (tst v z i)) ∧ ((s.1 = 1 ∧ s.2 22 5 = nI (tps v z (c + 1)) ∧ ∀ i, i < c + 1 → tcd v z i ≠ 0 ∧ tcd v z i ≠ 1) ∨ (s.1 = 0 ∧ ∃ N, c + 1 = N + 1 ∧ N ≤ 160 ∧ (∀ i, i < N → tcd v z i ≠ 0 ∧ tcd v z i ≠ 1) ∧ (tcd v z N = 0 ∨ tcd v z N = 1)))) (fun S => ∃ N, N ≤ 160 ∧ Fr [(22, 22, some 4), (22, 22, some 5), (24, 24, none), (25, 25, none)] A S ∧ (∀ i, i < N → tcd v z i ≠ 0 ∧ tcd v z i ≠ 1) ∧ (tcd v z N = 0 ∨ tcd v z N = 1) ∧ S 22 4 = nI (N + 1) ∧ ∀ i, i ≤ N → S 24 i = nI (tcd v z i) ∧ S 25 i = nI (tst v z i))) (jX8_cutUp_114_12 S3 (nI (tcd v z c))) := by
          intro S3 fS3 r4 r5 rI rc
          unfold jX8_cutUp_114_12
          rw [r4, jx_n (by omega)]
          generalize hS4 : va_up S3 24 (upd (S3 24) c (nI (tcd v z c))) = S4
          have e4 : S4 22 4 = nI c := by rw [← hS4]; exact r4
          have f4 : Fr [(22, 22, some 4), (22, 22, some 5), (24, 24, none), (25, 25, none)] A (va_up S4 22 (upd (S4 22) 4 (S4 22 4 + 1))) := by
            refine Fr.up ?_ (FrC.up FrC.bs rfl)
            rw [← hS4]
            exact Fr.up fS3 (FrC.al (fun _ => rfl))
          have g4 : va_up S4 22 (upd (S4 22) 4 (S4 22 4 + 1)) 22 4 = nI (c + 1) := by rw [ju_same, upd_at, e4, nI_1]
          have g5 : va_up S4 22 (upd (S4 22) 4 (S4 22 4 + 1)) 22 5 = nI (tps v z (c + 1)) := by
            rw [ju_same, upd_ne (by decide), ← hS4]
            exact r5
          have gI : ∀ i, i < c + 1 → va_up S4 22 (upd (S4 22) 4 (S4 22 4 + 1)) 24 i = nI (tcd v z i) ∧ va_up S4 22 (upd (S4 22) 4 (S4 22 4 + 1)) 25 i = nI (tst v z i) := fun i hi => by
            rw [ju_ne _ _ (by decide), ju_ne _ _ (by decide), ← hS4]
            show upd (S3 24) c (nI (tcd v z c)) i = _ ∧ S3 25 i = _
            by_cases q : i = c
            · rw [q, upd_at]
              exact ⟨rfl, rc⟩
            · rw [upd_ne q]
              exact rI i (by omega)
          have c0 : (nI (tcd v z c) = 0) ↔ tcd v z c = 0 := nI_eq (b := 0) (by omega) (by omega)
          have c1 : (nI (tcd v z c) = (1 : Int32)) ↔ tcd v z c = 1 := nI_eq (b := 1) (by omega) (by omega)
          refine Run.g vc <| Run.be rfl <| Run.i (fun y => Run.rt ⟨f4, g4, gI, Or.inr ⟨rfl, c, rfl, by omega, qI, Or.inl (c0.mp y)⟩⟩) (fun y => Run.i (fun y2 => Run.rt ⟨f4, g4, gI, Or.inr ⟨rfl, c, rfl, by omega, qI, Or.inr (c1.mp y2)⟩⟩) (fun y2 => Run.rt ⟨f4, g4, gI, Or.inl ⟨rfl, g5, fun i hi => ?_⟩⟩))
          by_cases q : i = c
          · rw [q]
            exact ⟨fun w => y (c0.mpr w), fun w => y2 (c1.mpr w)⟩
          · exact qI i (by omega)
        have z2 : S2 22 1 = nI z := by rw [fA2 22 1 rfl]; exact ht.2.1
        have hz := ht.1
        refine Run.be rfl ?_
        rw [z2, s25]
        by_cases q : tst v z c < z
        · obtain ⟨S3, e3, f3, g3⟩ := r_token (cst_fr h fA2 rfl) (ht.fr fA2 rfl (fun _ => rfl)) s25 q
          refine Run.im (nI_ge q (by omega)) ?_
          rw [e3]
          exact Run.be rfl <| hend S3 (fA2.tr (f3.wd rfl)) (by rw [f3 22 4 rfl]; exact s24) g3 (fun i hi => by rw [f3 24 i rfl, f3 25 i rfl]; exact s2I i hi) (by rw [f3 25 c rfl]; exact s2c)
        · have ez : tst v z c = z := by omega
          have e0 : tcd v z c = 0 := by unfold tcd tcode; rw [blt_f q]; rfl
          have ee : tps v z (c + 1) = tst v z c := by
            show tend v z (tst v z c) = tst v z c
            unfold tend
            rw [blt_f q, ez]
            rfl
          refine Run.ip (nI_le (by omega) (by omega)) ?_
          have := hend S2 fA2 s24 (by rw [ee]; exact s25) s2I s2c
          rw [e0] at this
          exact this
      · have q1 : s1 = 0 := q1
        subst q1
        refine Run.ip rfl <| Run.rt ⟨N, hN, fS, qI, qE, q4, fun i hi => q24 i (by omega)⟩
    · rintro ⟨s1, S⟩ ⟨fS, q4, q24, q⟩
      have q4 : S 22 4 = nI 161 := q4
      unfold cX8_cutUp_12
      rcases q with ⟨q1, q5, qI⟩ | ⟨q1, N, eN, hN, qI, qE⟩
      · have := tps_ge (v := v) (z := z) 161 (fun j hj => (qI j hj).1)
        have := tps_le (v := v) (z := z) 161
        have := ht.1
        omega
      · have q1 : s1 = 0 := q1
        subst q1
        refine Run.ip rfl <| Run.rt ⟨N, hN, fS, qI, qE, by rw [← eN]; exact q4, fun i hi => q24 i (by omega)⟩
  obtain ⟨S, e, N, h1, h2, h3, h4, h5, h6⟩ := hr
  exact ⟨S, N, by show Option.bind (jwh cX8_cutUp_12 ((1 : Int32), M)) _ = _; rw [e]; rfl, h1, h2, h3, h4, h5, h6⟩
