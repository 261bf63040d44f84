/-! falseOnes, there, last -/
variable {B C : jA3} {n : Nat} {S D X : Nat → Nat}
noncomputable def cif {α : Type} (c : Prop) (x y : α) : α := @ite _ c (Classical.propDecidable c) x y
theorem cif_p {α : Type} {c : Prop} {x y : α} (h : c) : cif c x y = x := by unfold cif; exact if_pos h
theorem cif_n {α : Type} {c : Prop} {x y : α} (h : ¬ c) : cif c x y = y := by unfold cif; exact if_neg h
theorem and_n (a b : Nat) : nI a &&& nI b = nI (a &&& b) := by
  apply Int32.toBitVec_inj.mp
  rw [Int32.toBitVec_and]
  show BitVec.ofNat 32 a &&& BitVec.ofNat 32 b = BitVec.ofNat 32 (a &&& b)
  apply BitVec.eq_of_getLsbD_eq
  intro i hi
  simp only [BitVec.getLsbD_and, BitVec.getLsbD_ofNat, Nat.testBit_and, hi, decide_true, Bool.true_and]
theorem orL_n (a b : Nat) : lN a ||| lN b = lN (a ||| b) := by
  apply Int64.toBitVec_inj.mp
  rw [Int64.toBitVec_or]
  show BitVec.ofNat 64 a ||| BitVec.ofNat 64 b = BitVec.ofNat 64 (a ||| b)
  apply BitVec.eq_of_getLsbD_eq
  intro i hi
  simp only [BitVec.getLsbD_or, BitVec.getLsbD_ofNat, Nat.testBit_or, hi, decide_true, Bool.true_and]
theorem m1_bits : ∀ i, i < 32 → (-1 : Int32).toBitVec.getLsbD i = true := by decide +kernel
def wo (a u : Nat) : Nat := a ^^^ (a &&& u)
theorem wo_bit (a u i : Nat) : (wo a u).testBit i = (a.testBit i && !u.testBit i) := by
  unfold wo
  rw [Nat.testBit_xor, Nat.testBit_and]
  cases a.testBit i <;> cases u.testBit i <;> rfl
theorem wo_sub (a u : Nat) : Sub (wo a u) a := fun i h => by
  rw [wo_bit, Bool.and_eq_true] at h
  exact h.1
theorem sub_lt {a b : Nat} (h : Sub a b) (hb : b < 2 ^ n) : a < 2 ^ n := by
  apply Nat.lt_pow_two_of_testBit
  intro i hi
  cases e : a.testBit i with
  | false => rfl
  | true =>
    have := bit_big hb (h i e)
    omega
theorem wo_lt {a u : Nat} (h : a < 2 ^ n) : wo a u < 2 ^ n := sub_lt (wo_sub a u) h
theorem wo_n (a u : Nat) : nI a &&& (nI u ^^^ (-1)) = nI (wo a u) := by
  apply Int32.toBitVec_inj.mp
  rw [Int32.toBitVec_and, Int32.toBitVec_xor]
  apply BitVec.eq_of_getLsbD_eq
  intro i hi
  rw [BitVec.getLsbD_and, BitVec.getLsbD_xor, m1_bits i hi]
  show ((BitVec.ofNat 32 a).getLsbD i && ((BitVec.ofNat 32 u).getLsbD i ^^ true)) = (BitVec.ofNat 32 (wo a u)).getLsbD i
  simp only [BitVec.getLsbD_ofNat, hi, decide_true, Bool.true_and, wo_bit, Bool.xor_true]
theorem zero_n {m : Nat} (h : m < 2 ^ 31) : nI m = 0 ↔ m = 0 := nI_eq (b := 0) h (by omega)
theorem bits0 {m : Nat} : m = 0 ↔ ∀ i, m.testBit i = false := by
  constructor
  · intro h i
    rw [h, Nat.zero_testBit]
  · intro h
    apply Nat.eq_of_testBit_eq
    intro i
    rw [h i, Nat.zero_testBit]
theorem sub_n {u a : Nat} (hu : u < 2 ^ 31) : (nI u &&& (nI a ^^^ (-1))) = 0 ↔ Sub u a := by
  rw [wo_n, zero_n (by
    have : wo u a < 2 ^ 31 := wo_lt hu
    exact this), bits0]
  constructor
  · intro h i q
    have := h i
    rw [wo_bit, q] at this
    cases e : a.testBit i with
    | true => rfl
    | false => rw [e] at this; cases this
  · intro h i
    rw [wo_bit]
    cases e : u.testBit i with
    | false => rfl
    | true => rw [h i e]; rfl
theorem mask_uniq {m m1 : Nat} {P : Nat → Prop} (h : m < 2 ^ n) (h1 : m1 < 2 ^ n) (p : ∀ i, i < n → (m.testBit i = true ↔ P i)) (p1 : ∀ i, i < n → (m1.testBit i = true ↔ P i)) : m = m1 :=
  Sub.eq (fun i hb => (p1 i (bit_big h hb)).mpr ((p i (bit_big h hb)).mp hb)) (fun i hb => (p i (bit_big h1 hb)).mpr ((p1 i (bit_big h1 hb)).mp hb))
def cf (D X : Nat → Nat) (v i j : Nat) : Prop := v * ad (D i) (D j) < ad (X i) (X j)
theorem cf_comm {v i j : Nat} : cf D X v i j ↔ cf D X v j i := by
  unfold cf
  rw [ad_comm (D i), ad_comm (X i)]
theorem cf_self {v i : Nat} : ¬ cf D X v i i := by
  unfold cf
  rw [ad_self, ad_self]
  omega
def Kl (D X : Nat → Nat) (n v : Nat) (A : jA3) (i : Nat) : Prop := ∃ K, A 69 i = nI K ∧ K < 2 ^ n ∧ ∀ j, j < n → (K.testBit j = true ↔ cf D X v i j)
theorem r_clash (h : bk B C n S D X) {v : Nat} (hv : v ≤ 60) : Run (fun A2 => Fr [(69, 69, none)] B A2 ∧ ∀ i, i < n → Kl D X n v A2 i) (fX0_findClashes B (nI v)) := by
  obtain ⟨g1, g2, g3, g4⟩ := id h
  unfold fX0_findClashes
  refine Run.bd (R := fun A2 => Fr [(69, 69, none)] B A2 ∧ ∀ i, i < n → Kl D X n v A2 i) ?_ (fun a h => Run.rt h)
  refine Run.up n (fun k s => s.1 = nI k ∧ Fr [(69, 69, none)] B s.2 ∧ ∀ i, i < k → Kl D X n v s.2 i) ?_ ?_ (Nat.zero_le _) ⟨rfl, Fr.rf, fun i hi => absurd hi (Nat.not_lt_zero _)⟩
  · rintro k ⟨s1, A⟩ hk ⟨e, hA, hI⟩
    have e : s1 = nI k := e
    subst e
    have hA : Fr [(69, 69, none)] B A := hA
    have hI : ∀ i, i < k → Kl D X n v A i := hI
    have a1 : A 64 4 = nI n := by rw [hA 64 4 rfl]; exact g2
    have vk : vp_in (nI k) 10 := vp_in_nI (by omega) (by omega)
    obtain ⟨-, dk, xk, -⟩ := g4 k hk
    unfold cX0_findClashes_2
    simp only [a1, jx_n (show k < 2 ^ 31 by omega)]
    refine Run.im (nI_ge hk (by omega)) <| Run.g vk <| Run.be rfl ?_
    have hin : Run (fun A2 => Fr [(69, 69, none)] B A2 ∧ ∀ i, i < k + 1 → Kl D X n v A2 i) (jwh (cX0_findClashes_19 (nI v) (nI k)) ((0 : Int32), va_up A 69 (upd (A 69) k 0))) := by
      refine Run.up n (fun j s => s.1 = nI j ∧ Fr [(69, 69, none)] B s.2 ∧ (∀ i, i < k → Kl D X n v s.2 i) ∧ ∃ K, s.2 69 k = nI K ∧ K < 2 ^ j ∧ ∀ q, q < j → (K.testBit q = true ↔ cf D X v k q)) ?_ ?_ (Nat.zero_le _) ⟨rfl, Fr.up hA (FrC.up FrC.bs rfl), fun i hi => ?_, 0, upd_at, by omega, fun q hq => absurd hq (Nat.not_lt_zero _)⟩
      · rintro j ⟨s1, T⟩ hj ⟨e, hT, p1, K, p2, p3, p4⟩
        have e : s1 = nI j := e
        subst e
        have hT : Fr [(69, 69, none)] B T := hT
        have p1 : ∀ i, i < k → Kl D X n v T i := p1
        have p2 : T 69 k = nI K := p2
        have b1 : T 64 4 = nI n := by rw [hT 64 4 rfl]; exact g2
        have c1 := r_cells (h.fr hT) hk hj
        have c2 := r_days (h.fr hT) hk hj
        obtain ⟨-, dj, xj, -⟩ := g4 j hj
        have adD := ad_le dk dj
        have adX := ad_le xk xj
        have hmul : v * ad (D k) (D j) ≤ 60 * 365 := Nat.mul_le_mul hv adD
        unfold cX0_findClashes_19
        simp only [b1, c1, c2, jx_n (show k < 2 ^ 31 by omega), p2]
        refine Run.im (nI_ge hj (by omega)) <| Run.be rfl <| Run.be rfl <| Run.i (fun q => ?_) (fun q => ?_)
        · rw [pk_mul, nI_leI (by omega) (by omega)] at q
          obtain ⟨q1, q2⟩ := mask_skip p3 p4 (show ¬ cf D X v k j by unfold cf; omega)
          exact Run.rt ⟨nI_1 j, hT, p1, K, p2, q1, q2⟩
        · rw [pk_mul, nI_leI (by omega) (by omega)] at q
          obtain ⟨q1, q2⟩ := mask_set p3 p4 (show cf D X v k j by unfold cf; omega)
          refine Run.g vk <| Run.g vk <| Run.rt ⟨nI_1 j, Fr.up hT (FrC.up FrC.bs rfl), fun i hi => ?_, K ||| 2 ^ j, ?_, q1, q2⟩
          · obtain ⟨K2, r1, r2⟩ := p1 i hi
            refine ⟨K2, ?_, r2⟩
            show upd (T 69) k _ i = _
            rw [upd_ne (by omega)]
            exact r1
          · show upd (T 69) k _ k = _
            rw [upd_at, jshl_1 (by omega), or_n]
      · rintro ⟨s1, T⟩ ⟨e, hT, p1, K, p2, p3, p4⟩
        have e : s1 = nI n := e
        subst e
        have b1 : T 64 4 = nI n := by rw [show T 64 4 = B 64 4 from hT 64 4 rfl]; exact g2
        unfold cX0_findClashes_19
        simp only [b1]
        refine Run.ip (nI_le (Nat.le_refl _) (by omega)) <| Run.rt ⟨hT, fun i hi => ?_⟩
        by_cases e : i = k
        · subst e
          exact ⟨K, p2, p3, p4⟩
        · exact p1 i (by omega)
      · obtain ⟨K2, r1, r2⟩ := hI i hi
        refine ⟨K2, ?_, r2⟩
        show upd (A 69) k 0 i = _
        rw [upd_ne (by omega)]
        exact r1
    refine Run.bd hin ?_
    rintro A2 ⟨q1, q2⟩
    exact Run.rt ⟨nI_1 k, q1, q2⟩
  · rintro ⟨s1, A⟩ ⟨e, hA, hI⟩
    have e : s1 = nI n := e
    subst e
    have a1 : A 64 4 = nI n := by rw [show A 64 4 = B 64 4 from hA 64 4 rfl]; exact g2
    unfold cX0_findClashes_2
    simp only [a1]
    exact Run.ip (nI_le (Nat.le_refl _) (by omega)) <| Run.rt ⟨hA, hI⟩
def okm (D X : Nat → Nat) (n v m : Nat) : Prop := ∀ i j, i < n → j < n → m.testBit i = true → m.testBit j = true → ¬ cf D X v i j
theorem bit_no {m k : Nat} (hm : m < 2 ^ 31) (hk : k < 32) (h : ¬ ((jshr (nI m) (nI k)) &&& (1 : Int32)) = 0) : m.testBit k = true := by
  cases e : m.testBit k with
  | true => rfl
  | false => exact absurd ((bit0 hm hk).mpr e) h
theorem r_agree {A : jA3} (hn : n ≤ 10) (g2 : A 64 4 = nI n) {v m : Nat} (hK : ∀ i, i < n → Kl D X n v A i) (hm : m < 2 ^ n) : Run (fun x => (okm D X n v m ∧ x = 1) ∨ (¬ okm D X n v m ∧ x = 0)) (fX0_agree A (nI m)) := by
  have h1024 := pow_le_1024 hn
  unfold fX0_agree
  refine Run.bd (R := fun z => (okm D X n v m ∧ z = .inl ()) ∨ (¬ okm D X n v m ∧ z = .inr 0)) ?_ ?_
  · refine Run.up n (fun k s => s = nI k ∧ ∀ i j, i < k → j < n → m.testBit i = true → m.testBit j = true → ¬ cf D X v i j) ?_ ?_ (Nat.zero_le _) ⟨rfl, fun i j hi => absurd hi (Nat.not_lt_zero _)⟩
    · rintro k s hk ⟨rfl, hI⟩
      obtain ⟨K, k1, k2, k3⟩ := hK k hk
      unfold cX0_agree_2
      have zk : nI (K &&& m) = 0 ↔ K &&& m = 0 := zero_n (Nat.lt_of_le_of_lt Nat.and_le_left (by omega))
      rw [g2, jx_n (by omega), k1, and_n]
      refine Run.im (nI_ge hk (by omega)) <| Run.i (fun q => ?_) (fun q => Run.g (vp_in_nI (by omega) (by omega)) <| Run.i (fun q2 => ?_) (fun q2 => ?_))
      · have q' := (bit0 (by omega) (by omega)).mp q
        refine Run.rt ⟨nI_1 k, fun i j hi hj hb1 hb2 => ?_⟩
        by_cases e : i = k
        · subst e
          rw [hb1] at q'
          cases q'
        · exact hI i j (by omega) hj hb1 hb2
      · refine Run.rt ⟨nI_1 k, fun i j hi hj hb1 hb2 hc => ?_⟩
        by_cases e : i = k
        · subst e
          have := bits0.mp (zk.mp q2) j
          rw [Nat.testBit_and, (k3 j hj).mpr hc, hb2] at this
          cases this
        · exact hI i j (by omega) hj hb1 hb2 hc
      · refine Run.rt (Or.inr ⟨fun hok => q2 (zk.mpr (bits0.mpr fun j => ?_)), rfl⟩)
        rw [Nat.testBit_and]
        cases e1 : K.testBit j with
        | false => rfl
        | true =>
          cases e2 : m.testBit j with
          | false => rfl
          | true =>
            have hj := bit_big hm e2
            exact absurd ((k3 j hj).mp e1) (hok k j hk hj (bit_no (by omega) (by omega) q) e2)
    · rintro s ⟨rfl, hI⟩
      unfold cX0_agree_2
      rw [g2]
      exact Run.ip (nI_le (Nat.le_refl _) (by omega)) <| Run.rt (Or.inl ⟨hI, rfl⟩)
  · rintro z (⟨h1, rfl⟩ | ⟨h1, rfl⟩)
    · exact Run.rt (Or.inl ⟨h1, rfl⟩)
    · exact Run.rt (Or.inr ⟨h1, rfl⟩)
theorem bit1_no {m k : Nat} (hm : m < 2 ^ 31) (hk : k < 32) (h : ¬ ((jshr (nI m) (nI k)) &&& (1 : Int32)) = 1) : m.testBit k = false := by
  cases e : m.testBit k with
  | false => rfl
  | true => exact absurd ((bit1 hm hk).mpr e) h
theorem r_canAll (h : bk B C n S D X) {v m : Nat} (hv : v ≤ 60) (hm : m < 2 ^ n) : Run (fun x => (okm D X n v m ∧ x = 1) ∨ (¬ okm D X n v m ∧ x = 0)) (fX11_canAll C (nI m) (nI v)) := by
  obtain ⟨g1, g2, g3, g4⟩ := id h
  have h1024 := pow_le_1024 g1
  unfold fX11_canAll
  have hok : (∀ a b, a < b → b < n → m.testBit a = true → m.testBit b = true → ¬ cf D X v a b) → okm D X n v m := fun hh i j hi hj b1 b2 => by
    rcases Nat.lt_trichotomy i j with q | q | q
    · exact hh i j q hj b1 b2
    · subst q; exact cf_self
    · exact fun z => hh j i q hi b2 b1 (cf_comm.mp z)
  refine Run.bd (R := fun z => (okm D X n v m ∧ z = .inl ()) ∨ (¬ okm D X n v m ∧ z = .inr 0)) ?_ ?_
  · refine Run.up n (fun k s => s = nI k ∧ ∀ a b, a < k → a < b → b < n → m.testBit a = true → m.testBit b = true → ¬ cf D X v a b) ?_ ?_ (Nat.zero_le _) ⟨rfl, fun a b hi => absurd hi (Nat.not_lt_zero _)⟩
    · rintro k s hk ⟨rfl, hI⟩
      obtain ⟨-, dk, xk, -, -, -, -, k1, k2⟩ := g4 k hk
      have hin : Run (fun z => (z = .inl () ∧ ∀ b, k < b → b < n → m.testBit k = true → m.testBit b = true → ¬ cf D X v k b) ∨ (z = .inr 0 ∧ ¬ okm D X n v m)) (jwh (cX11_canAll_15 C (nI m) (nI v) (nI k)) (nI (k + 1))) := by
        refine Run.up n (fun b s => s = nI b ∧ ∀ q, k < q → q < b → m.testBit k = true → m.testBit q = true → ¬ cf D X v k q) ?_ ?_ (k := k + 1) (by omega) ⟨rfl, fun q h1 h2 => by omega⟩
        · rintro b s hb ⟨rfl, hJ⟩
          obtain ⟨-, db, xb, -, -, -, -, b1, b2⟩ := g4 b hb
          have adD := ad_le dk db
          have adX := ad_le xk xb
          have hmul : v * ad (D k) (D b) ≤ 60 * 365 := Nat.mul_le_mul hv adD
          have vk : vp_in (nI k) 10 := vp_in_nI (by omega) (by omega)
          have vb : vp_in (nI b) 10 := vp_in_nI (by omega) (by omega)
          have go : (k < b → m.testBit k = true → m.testBit b = true → ¬ cf D X v k b) → Run (SO (fun s => s = nI (b + 1) ∧ ∀ q, k < q → q < b + 1 → m.testBit k = true → m.testBit q = true → ¬ cf D X v k q) (fun z => (z = .inl () ∧ ∀ b, k < b → b < n → m.testBit k = true → m.testBit b = true → ¬ cf D X v k b) ∨ (z = .inr 0 ∧ ¬ okm D X n v m))) (some (Sum.inl (nI b + 1)) : Option (Int32 ⊕ (Unit ⊕ Int32))) := fun hh => Run.rt ⟨nI_1 b, fun q h1 h2 h3 h4 => by
            by_cases e : q = b
            · subst e; exact hh h1 h3 h4
            · exact hJ q h1 (by omega) h3 h4⟩
          unfold cX11_canAll_15 fX11_canBoth
          simp only [g3, jx_n (show k < 2 ^ 31 by omega), jx_n (show b < 2 ^ 31 by omega), k1, k2, b1, b2, sz_ad (show D k ≤ 400 by omega) (show D b ≤ 400 by omega), sz_ad (show X k ≤ 400 by omega) (show X b ≤ 400 by omega)]
          refine Run.im (nI_ge hb (by omega)) <| Run.i (fun q => Run.i (fun q2 => ?_) (fun q2 => go fun _ _ h4 => ?_)) (fun q => go fun _ h3 _ => ?_)
          · have q' := (bit1 (show m < 2 ^ 31 by omega) (show k < 32 by omega)).mp q
            have q2' := (bit1 (show m < 2 ^ 31 by omega) (show b < 32 by omega)).mp q2
            rw [jgd_t vk, jgd_t vb, jgd_t vk, jgd_t vb, pk_mul]
            by_cases hc : cf D X v k b
            · rw [if_pos (nI_lt (by unfold cf at hc; exact hc) (by omega))]
              exact Run.be rfl <| Run.ip rfl <| Run.rt (Or.inr ⟨rfl, fun ho => ho k b hk hb q' q2' hc⟩)
            · rw [if_neg (nI_nlt (by unfold cf at hc; omega) (by omega))]
              exact Run.be rfl <| Run.im (by decide) <| go fun _ _ _ => hc
          · rw [bit1_no (by omega) (by omega) q2] at h4
            cases h4
          · rw [bit1_no (by omega) (by omega) q] at h3
            cases h3
        · rintro s ⟨rfl, hJ⟩
          unfold cX11_canAll_15
          rw [g3]
          exact Run.ip (nI_le (Nat.le_refl _) (by omega)) <| Run.rt (Or.inl ⟨rfl, fun b h1 h2 => hJ b h1 h2⟩)
      unfold cX11_canAll_2
      rw [g3, nI_1]
      refine Run.im (nI_ge hk (by omega)) <| Run.bd hin ?_
      rintro z (⟨rfl, hz⟩ | ⟨rfl, hz⟩)
      · refine Run.rt ⟨rfl, fun a b h1 h2 h3 h4 h5 => ?_⟩
        by_cases e : a = k
        · subst e; exact hz b h2 h3 h4 h5
        · exact hI a b (by omega) h2 h3 h4 h5
      · exact Run.rt (Or.inr ⟨hz, rfl⟩)
    · rintro s ⟨rfl, hI⟩
      unfold cX11_canAll_2
      rw [g3]
      exact Run.ip (nI_le (Nat.le_refl _) (by omega)) <| Run.rt (Or.inl ⟨hok fun a b h1 h2 h3 h4 => hI a b (by omega) h1 h2 h3 h4, rfl⟩)
  · rintro z (⟨h1, rfl⟩ | ⟨h1, rfl⟩)
    · exact Run.rt (Or.inl ⟨h1, rfl⟩)
    · exact Run.rt (Or.inr ⟨h1, rfl⟩)
noncomputable def bst (D X : Nat → Nat) (n v a : Nat) : Nat → Option Nat
  | 0 => none
  | u + 1 => match bst D X n v a u with
    | none => cif (Sub u a ∧ okm D X n v (wo a u)) (some u) none
    | some b => cif (Sub u a ∧ pc u < pc b ∧ okm D X n v (wo a u)) (some u) (some b)
theorem bst_in {v a : Nat} : ∀ {u b : Nat}, bst D X n v a u = some b → b < u ∧ Sub b a
  | 0, b, h => by cases h
  | u + 1, b, h => by
    unfold bst at h
    cases e : bst D X n v a u with
    | none =>
      rw [e] at h
      by_cases c : Sub u a ∧ okm D X n v (wo a u)
      · rw [show (match (none : Option Nat) with | none => cif (Sub u a ∧ okm D X n v (wo a u)) (some u) none | some b => cif (Sub u a ∧ pc u < pc b ∧ okm D X n v (wo a u)) (some u) (some b)) = cif (Sub u a ∧ okm D X n v (wo a u)) (some u) none from rfl, cif_p c] at h
        cases h
        exact ⟨by omega, c.1⟩
      · rw [show (match (none : Option Nat) with | none => cif (Sub u a ∧ okm D X n v (wo a u)) (some u) none | some b => cif (Sub u a ∧ pc u < pc b ∧ okm D X n v (wo a u)) (some u) (some b)) = cif (Sub u a ∧ okm D X n v (wo a u)) (some u) none from rfl, cif_n c] at h
        cases h
    | some b0 =>
      rw [e] at h
      obtain ⟨i1, i2⟩ := bst_in e
      by_cases c : Sub u a ∧ pc u < pc b0 ∧ okm D X n v (wo a u)
      · rw [show (match (some b0 : Option Nat) with | none => cif (Sub u a ∧ okm D X n v (wo a u)) (some u) none | some b => cif (Sub u a ∧ pc u < pc b ∧ okm D X n v (wo a u)) (some u) (some b)) = cif (Sub u a ∧ pc u < pc b0 ∧ okm D X n v (wo a u)) (some u) (some b0) from rfl, cif_p c] at h
        cases h
        exact ⟨by omega, c.1⟩
      · rw [show (match (some b0 : Option Nat) with | none => cif (Sub u a ∧ okm D X n v (wo a u)) (some u) none | some b => cif (Sub u a ∧ pc u < pc b ∧ okm D X n v (wo a u)) (some u) (some b)) = cif (Sub u a ∧ pc u < pc b0 ∧ okm D X n v (wo a u)) (some u) (some b0) from rfl, cif_n c] at h
        cases h
        exact ⟨by omega, i2⟩
theorem bst_none {v a u : Nat} (e : bst D X n v a u = none) : bst D X n v a (u + 1) = cif (Sub u a ∧ okm D X n v (wo a u)) (some u) none := by
  rw [bst, e]
theorem bst_some {v a u b : Nat} (e : bst D X n v a u = some b) : bst D X n v a (u + 1) = cif (Sub u a ∧ pc u < pc b ∧ okm D X n v (wo a u)) (some u) (some b) := by
  rw [bst, e]
theorem bst_stay {v a u : Nat} (h : ¬ Sub u a) : bst D X n v a (u + 1) = bst D X n v a u := by
  cases e : bst D X n v a u with
  | none => rw [bst_none e, cif_n (fun z => h z.1)]
  | some b => rw [bst_some e, cif_n (fun z => h z.1)]
theorem sub_le {u a : Nat} (h : Sub u a) : u ≤ a := by
  have e : u &&& a = u := by
    apply Nat.eq_of_testBit_eq
    intro i
    rw [Nat.testBit_and]
    cases q : u.testBit i with
    | false => rfl
    | true => rw [h i q]; rfl
  rw [← e]
  exact Nat.and_le_right
def bv : Option Nat → Int32
  | none => -1
  | some b => nI b
theorem r_falseC (h : bk B C n S D X) {v a : Nat} (hv : v ≤ 60) (ha : a < 2 ^ n) : Run (fun x => ∃ b, x = nI b ∧ b = (bst D X n v a a).getD a) (jwh (cX11_falseOf_12 C (nI v) (nI a)) ((-1 : Int32), (0 : Int32))) := by
  have h1024 := pow_le_1024 h.1
  have step : ∀ {u : Nat} {s1 : Int32}, u < a + 1 → s1 = bv (bst D X n v a u) → Run (SO (fun s => s.2 = nI (u + 1) ∧ s.1 = bv (bst D X n v a (u + 1))) (fun x => ∃ b, x = nI b ∧ b = (bst D X n v a a).getD a)) (cX11_falseOf_12 C (nI v) (nI a) (s1, nI u)) := by
    intro u s1 hu hI
    unfold cX11_falseOf_12 jX11_falseOf_48_12
    simp only [wo_n]
    refine Run.im (nI_nlt (by omega) (by omega)) <| Run.i (fun q => ?_) (fun q => ?_)
    · have hsub : Sub u a := (sub_n (by omega)).mp (by rw [wo_n]; exact q)
      obtain ⟨x, e1, hx⟩ := r_canAll h (v := v) (m := wo a u) hv (wo_lt ha)
      cases e : bst D X n v a u with
      | none =>
        rw [e] at hI
        have hI : s1 = -1 := hI
        subst hI
        refine Run.ip (by decide) <| Run.be e1 ?_
        rw [bst_none e]
        rcases hx with ⟨ok, rfl⟩ | ⟨ok, rfl⟩
        · refine Run.im (by decide) <| Run.rt ⟨nI_1 u, ?_⟩
          rw [cif_p ⟨hsub, ok⟩]
          rfl
        · refine Run.ip rfl <| Run.rt ⟨nI_1 u, ?_⟩
          rw [cif_n (fun z => ok z.2)]
          rfl
      | some b =>
        rw [e] at hI
        have hI : s1 = nI b := hI
        subst hI
        obtain ⟨b1, b2⟩ := bst_in e
        have hp1 := pc_le u (by omega)
        have hp2 := pc_le b (by omega)
        refine Run.im (nI_pos (by omega)) <| Run.be (bitsOf_n (by omega)) <| Run.be (bitsOf_n (by omega)) ?_
        rw [bst_some e]
        refine Run.i (fun q2 => Run.be e1 ?_) (fun q2 => Run.rt ⟨nI_1 u, ?_⟩)
        · rw [nI_ltI (by omega) (by omega)] at q2
          rcases hx with ⟨ok, rfl⟩ | ⟨ok, rfl⟩
          · refine Run.im (by decide) <| Run.rt ⟨nI_1 u, ?_⟩
            rw [cif_p ⟨hsub, q2, ok⟩]
            rfl
          · refine Run.ip rfl <| Run.rt ⟨nI_1 u, ?_⟩
            rw [cif_n (fun z => ok z.2.2)]
            rfl
        · rw [nI_ltI (by omega) (by omega)] at q2
          rw [cif_n (fun z => q2 z.2.1)]
          rfl
    · have hsub : ¬ Sub u a := fun z => q (by rw [← wo_n]; exact (sub_n (by omega)).mpr z)
      refine Run.rt ⟨nI_1 u, ?_⟩
      rw [bst_stay hsub]
      exact hI
  refine Run.up (a + 1) (fun u s => s.2 = nI u ∧ s.1 = bv (bst D X n v a u)) ?_ ?_ (Nat.zero_le _) ⟨rfl, rfl⟩
  · rintro u ⟨s1, s2⟩ hu ⟨e, hI⟩
    have e : s2 = nI u := e
    subst e
    exact step hu hI
  · rintro ⟨s1, s2⟩ ⟨e, hI⟩
    have e : s2 = nI (a + 1) := e
    subst e
    unfold cX11_falseOf_12
    refine Run.ip (nI_lt (by omega) (by omega)) <| Run.rt ?_
    have hok : okm D X n v (wo a a) := fun i j hi hj b1 => by
      rw [wo_bit] at b1
      cases q : a.testBit i <;> rw [q] at b1 <;> cases b1
    cases e : bst D X n v a a with
    | none =>
      rw [bst_none e, cif_p ⟨Sub.rf a, hok⟩] at hI
      exact ⟨a, hI, rfl⟩
    | some b =>
      obtain ⟨b1, b2⟩ := bst_in e
      have : ¬ pc a < pc b := by
        have := pc_lt (m := b) (m1 := a) (by omega) (by omega) b2 (by omega)
        omega
      rw [bst_some e, cif_n (fun z => this z.2.1)] at hI
      exact ⟨b, hI, rfl⟩
theorem r_false {A : jA3} (hn : n ≤ 10) (g2 : A 64 4 = nI n) {v a : Nat} (hK : ∀ i, i < n → Kl D X n v A i) (ha : a < 2 ^ n) : Run (fun x => ∃ b, x = nI b ∧ b = (bst D X n v a a).getD a ∧ Sub b a) (jwh (cX0_falseOf_23 A (nI a)) (nI a, fJ6_bitCount_0f7a4 (nI a), (0 : Int32))) := by
  have h1024 := pow_le_1024 hn
  rw [bc_cls a (by omega)]
  refine Run.up a (fun u s => s = (nI ((bst D X n v a u).getD a), nI (pc ((bst D X n v a u).getD a)), nI u)) ?_ ?_ (Nat.zero_le _) rfl
  · rintro u s hu rfl
    unfold cX0_falseOf_23
    simp only [wo_n, bc_cls u (by omega)]
    refine Run.im (nI_ge hu (by omega)) <| Run.i (fun q => ?_) (fun q => ?_)
    · have hsub : Sub u a := (sub_n (by omega)).mp (by rw [wo_n]; exact q)
      obtain ⟨x, e1, hx⟩ := r_agree (D := D) (X := X) hn g2 hK (m := wo a u) (wo_lt ha)
      have hp1 := pc_le u (by omega)
      have hpa := pc_lt (m := u) (m1 := a) (by omega) (by omega) hsub (by omega)
      have hpa2 := pc_le a (by omega)
      cases e : bst D X n v a u with
      | none =>
        refine Run.im (show ¬ nI (pc a) ≤ nI (pc u) from nI_ge (by omega) (by omega)) <| Run.be e1 ?_
        rcases hx with ⟨ok, rfl⟩ | ⟨ok, rfl⟩
        · refine Run.im (by decide) <| Run.rt ?_
          show _ = _
          rw [bst_none e, cif_p ⟨hsub, ok⟩, nI_1]
          rfl
        · refine Run.ip rfl <| Run.rt ?_
          show _ = _
          rw [bst_none e, cif_n (fun z => ok z.2), nI_1]
      | some b =>
        obtain ⟨b1, b2⟩ := bst_in e
        have hp2 := pc_le b (by omega)
        refine Run.i (fun q2 => Run.rt ?_) (fun q2 => Run.be e1 ?_)
        · have q2' : nI (pc b) ≤ nI (pc u) := q2
          rw [nI_leI (by omega) (by omega)] at q2'
          show _ = _
          rw [bst_some e, cif_n (fun z => by omega), nI_1]
        · have q2' : ¬ nI (pc b) ≤ nI (pc u) := q2
          rw [nI_leI (by omega) (by omega)] at q2'
          rcases hx with ⟨ok, rfl⟩ | ⟨ok, rfl⟩
          · refine Run.im (by decide) <| Run.rt ?_
            show _ = _
            rw [bst_some e, cif_p ⟨hsub, by omega, ok⟩, nI_1]
            rfl
          · refine Run.ip rfl <| Run.rt ?_
            show _ = _
            rw [bst_some e, cif_n (fun z => ok z.2.2), nI_1]
    · have hsub : ¬ Sub u a := fun z => q (by rw [← wo_n]; exact (sub_n (by omega)).mpr z)
      refine Run.rt ?_
      show _ = _
      rw [bst_stay hsub, nI_1]
  · rintro s rfl
    unfold cX0_falseOf_23
    refine Run.ip (nI_le (Nat.le_refl _) (by omega)) <| Run.rt ⟨_, rfl, rfl, ?_⟩
    cases e : bst D X n v a a with
    | none => exact Sub.rf a
    | some b => exact (bst_in e).2
theorem r_of (h : bk B C n S D X) {q : Nat} (hq : q < 4) : Run (fun x => ∃ m, x = nI m ∧ m < 2 ^ n ∧ ∀ i, i < n → (m.testBit i = true ↔ S i = q)) (fX0_reportsOf B (nI q)) := by
  obtain ⟨g1, g2, g3, g4⟩ := id h
  unfold fX0_reportsOf
  refine Run.bd (R := fun x => ∃ m, x = nI m ∧ m < 2 ^ n ∧ ∀ i, i < n → (m.testBit i = true ↔ S i = q)) ?_ (fun a h => Run.rt h)
  refine Run.up n (fun k s => ∃ m, s = (nI m, nI k) ∧ m < 2 ^ k ∧ ∀ i, i < k → (m.testBit i = true ↔ S i = q)) ?_ ?_ (Nat.zero_le _) ⟨0, rfl, by omega, fun i hi => absurd hi (Nat.not_lt_zero _)⟩
  · rintro k s hk ⟨m, rfl, hm, hI⟩
    obtain ⟨a0, -, -, a1, -⟩ := g4 k hk
    unfold cX0_reportsOf_4
    simp only [g2, jx_n (show k < 2 ^ 31 by omega), a1]
    refine Run.im (nI_ge hk (by omega)) <| Run.g (vp_in_nI (by omega) (by omega)) <| Run.i (fun z => ?_) (fun z => ?_)
    · obtain ⟨p1, p2⟩ := mask_set (P := fun i => S i = q) hm hI ((nI_eq (by omega) (by omega)).mp z)
      exact Run.rt ⟨m ||| 2 ^ k, by rw [jshl_1 (by omega), or_n, nI_1], p1, p2⟩
    · obtain ⟨p1, p2⟩ := mask_skip (P := fun i => S i = q) hm hI (fun w => z (by rw [w]))
      exact Run.rt ⟨m, by rw [nI_1], p1, p2⟩
  · rintro s ⟨m, rfl, hm, hI⟩
    unfold cX0_reportsOf_4
    rw [g2]
    exact Run.ip (nI_le (Nat.le_refl _) (by omega)) <| Run.rt ⟨m, rfl, hm, hI⟩
theorem r_ofC (h : bk B C n S D X) {q : Nat} (hq : q < 4) : Run (fun x => ∃ m, x = nI m ∧ m < 2 ^ n ∧ ∀ i, i < n → (m.testBit i = true ↔ S i = q)) (fX11_ofShip C (nI q)) := by
  obtain ⟨g1, g2, g3, g4⟩ := id h
  unfold fX11_ofShip
  refine Run.bd (R := fun x => ∃ m, x = nI m ∧ m < 2 ^ n ∧ ∀ i, i < n → (m.testBit i = true ↔ S i = q)) ?_ (fun a h => Run.rt h)
  refine Run.up n (fun k s => ∃ m, s = (nI m, nI k) ∧ m < 2 ^ k ∧ ∀ i, i < k → (m.testBit i = true ↔ S i = q)) ?_ ?_ (Nat.zero_le _) ⟨0, rfl, by omega, fun i hi => absurd hi (Nat.not_lt_zero _)⟩
  · rintro k s hk ⟨m, rfl, hm, hI⟩
    obtain ⟨a0, -, -, -, -, -, a1, -, -⟩ := g4 k hk
    unfold cX11_ofShip_4
    simp only [g3, jx_n (show k < 2 ^ 31 by omega), a1]
    refine Run.im (nI_ge hk (by omega)) <| Run.g (vp_in_nI (by omega) (by omega)) <| Run.i (fun z => ?_) (fun z => ?_)
    · obtain ⟨p1, p2⟩ := mask_set (P := fun i => S i = q) hm hI ((nI_eq (by omega) (by omega)).mp z)
      exact Run.rt ⟨m ||| 2 ^ k, by rw [jshl_1 (by omega), or_n, nI_1], p1, p2⟩
    · obtain ⟨p1, p2⟩ := mask_skip (P := fun i => S i = q) hm hI (fun w => z (by rw [w]))
      exact Run.rt ⟨m, by rw [nI_1], p1, p2⟩
  · rintro s ⟨m, rfl, hm, hI⟩
    unfold cX11_ofShip_4
    rw [g3]
    exact Run.ip (nI_le (Nat.le_refl _) (by omega)) <| Run.rt ⟨m, rfl, hm, hI⟩
/-- the reports of a ship, and the false ones of them: both ways -/
theorem s_false (h : bk B C n S D X) {q v : Nat} (hq : q < 4) (hv : v ≤ 60) : ∃ a f A2, a < 2 ^ n ∧ f < 2 ^ n ∧ Fr [(69, 69, none)] B A2 ∧ fX0_reportsOf B (nI q) = some (nI a) ∧ fX11_ofShip C (nI q) = some (nI a) ∧ fX0_falseOf B (nI q) (nI v) = some (nI f, A2) ∧ fX11_falseOf C (nI q) (nI v) = some (nI f) := by
  obtain ⟨x1, e1, a, rfl, ha, hab⟩ := r_of h hq
  obtain ⟨x2, e2, a2, rfl, ha2, hab2⟩ := r_ofC h hq
  have := mask_uniq ha ha2 hab hab2
  subst this
  obtain ⟨A2, e3, f3, hK⟩ := r_clash h hv
  have h2 := h.fr f3
  obtain ⟨x3, e4, a3, rfl, ha3, hab3⟩ := r_of h2 hq
  have := mask_uniq ha ha3 hab hab3
  subst this
  obtain ⟨x5, e5, f, rfl, hf, hfs⟩ := r_false h2.1 h2.2.1 hK ha
  obtain ⟨x6, e6, f2, rfl, hf2⟩ := r_falseC h hv ha
  have : f = f2 := by rw [hf, hf2]
  subst this
  refine ⟨a, f, A2, ha, sub_lt hfs ha, f3, e1, e2, ?_, ?_⟩
  · unfold fX0_falseOf
    rw [e3]
    show Option.bind (fX0_reportsOf A2 (nI q)) _ = _
    rw [e4]
    show Option.bind (jwh (cX0_falseOf_23 A2 (nI a)) (nI a, fJ6_bitCount_0f7a4 (nI a), (0 : Int32))) _ = _
    rw [e5]
    rfl
  · unfold fX11_falseOf
    rw [e2]
    show Option.bind (jwh (cX11_falseOf_12 C (nI v) (nI a)) ((-1 : Int32), (0 : Int32))) _ = _
    rw [e6]
    rfl
theorem m_falseOnes (h : Rel B C) (l1 l2 : Int32) : Sim (fun x y => x.1 = y) (fX10_falseOnes B l1 l2) (fX11_falseOnes C l1 l2) := by
  obtain ⟨n, S, D, X, hb⟩ := h.2.2.2.2.2.2.1.un
  unfold fX10_falseOnes fX11_falseOnes
  refine Sim.ii Iff.rfl (fun _ => Sim.rt rfl) (fun q1 => Sim.ii Iff.rfl (fun _ => Sim.rt rfl) (fun q2 => ?_))
  obtain ⟨q, hq, rfl⟩ := wn_n (n := 3) rfl q1
  obtain ⟨v, hv, rfl⟩ := wn_n (n := 60) rfl q2
  obtain ⟨a, f, A2, -, -, -, -, -, e1, e2⟩ := s_false hb (show q < 4 by omega) hv
  rw [e1, e2]
  exact Sim.rt rfl
def mb (D X : Nat → Nat) (n v d m c : Nat) : Prop := ∀ i, i < n → m.testBit i = true → ad (X i) c ≤ v * ad (D i) d
theorem r_may {A : jA3} (h : bk A C n S D X) {v d m c : Nat} (hv : v ≤ 60) (hd : d ≤ 365) (hm : m < 2 ^ n) (hc : c ≤ 60) : Run (fun x => (mb D X n v d m c ∧ x = 1) ∨ (¬ mb D X n v d m c ∧ x = 0)) (fX0_mayBe A (nI m) (nI v) (nI d) (nI c)) := by
  obtain ⟨g1, g2, g3, g4⟩ := id h
  have h1024 := pow_le_1024 g1
  unfold fX0_mayBe
  refine Run.bd (R := fun z => (mb D X n v d m c ∧ z = .inl ()) ∨ (¬ mb D X n v d m c ∧ z = .inr 0)) ?_ ?_
  · refine Run.up n (fun k s => s = nI k ∧ ∀ i, i < k → m.testBit i = true → ad (X i) c ≤ v * ad (D i) d) ?_ ?_ (Nat.zero_le _) ⟨rfl, fun i hi => absurd hi (Nat.not_lt_zero _)⟩
    · rintro k s hk ⟨rfl, hI⟩
      obtain ⟨-, a1, a2, -, a3, a4, -⟩ := g4 k hk
      have adD := ad_le a1 hd
      have adX := ad_le a2 hc
      have hmul : v * ad (D k) d ≤ 60 * 365 := Nat.mul_le_mul hv adD
      have vk : vp_in (nI k) 10 := vp_in_nI (by omega) (by omega)
      unfold cX0_mayBe_3
      simp only [g2, jx_n (show k < 2 ^ 31 by omega), a3, a4, jab_ad (show X k ≤ 400 by omega) (show c ≤ 400 by omega), jab_ad (show D k ≤ 400 by omega) (show d ≤ 400 by omega), pk_mul, nI_leI (show ad (X k) c < 2 ^ 31 by omega) (show v * ad (D k) d < 2 ^ 31 by omega)]
      have up : (m.testBit k = true → ad (X k) c ≤ v * ad (D k) d) → ∀ i, i < k + 1 → m.testBit i = true → ad (X i) c ≤ v * ad (D i) d := fun hh i hi hb => by
        by_cases e : i = k
        · subst e; exact hh hb
        · exact hI i (by omega) hb
      refine Run.im (nI_ge hk (by omega)) <| Run.i (fun q => Run.rt ⟨nI_1 k, up fun hb => ?_⟩) (fun q => Run.g vk <| Run.g vk <| Run.i (fun q2 => Run.rt ⟨nI_1 k, up fun _ => q2⟩) (fun q2 => Run.rt (Or.inr ⟨fun z => q2 (z k hk (bit_no (by omega) (by omega) q)), rfl⟩)))
      rw [(bit0 (by omega) (by omega)).mp q] at hb
      cases hb
    · rintro s ⟨rfl, hI⟩
      unfold cX0_mayBe_3
      rw [g2]
      exact Run.ip (nI_le (Nat.le_refl _) (by omega)) <| Run.rt (Or.inl ⟨hI, rfl⟩)
  · rintro z (⟨h1, rfl⟩ | ⟨h1, rfl⟩)
    · exact Run.rt (Or.inl ⟨h1, rfl⟩)
    · exact Run.rt (Or.inr ⟨h1, rfl⟩)
theorem r_mayC (h : bk B C n S D X) {v d m c : Nat} (l5 : Int64) (hv : v ≤ 60) (hd : d ≤ 365) (hm : m < 2 ^ n) (hc : c ≤ 60) : Run (fun x => (mb D X n v d m c ∧ x = 1) ∨ (¬ mb D X n v d m c ∧ x = 0)) (jwh (cX11_mayBe_35 C (nI v) (nI d) (nI m) l5 (nI c)) ((1 : Int32), (0 : Int32))) := by
  obtain ⟨g1, g2, g3, g4⟩ := id h
  have h1024 := pow_le_1024 g1
  refine Run.up n (fun k s => ∃ b, s = (b, nI k) ∧ (((∀ i, i < k → m.testBit i = true → ad (X i) c ≤ v * ad (D i) d) ∧ b = 1) ∨ (¬ mb D X n v d m c ∧ b = 0))) ?_ ?_ (Nat.zero_le _) ⟨1, rfl, Or.inl ⟨fun i hi => absurd hi (Nat.not_lt_zero _), rfl⟩⟩
  · rintro k s hk ⟨b, rfl, hI⟩
    obtain ⟨-, a1, a2, -, -, -, -, a3, a4⟩ := g4 k hk
    have adD := ad_le a1 hd
    have adX := ad_le a2 hc
    have hmul : v * ad (D k) d ≤ 60 * 365 := Nat.mul_le_mul hv adD
    have vk : vp_in (nI k) 10 := vp_in_nI (by omega) (by omega)
    unfold cX11_mayBe_35
    simp only [g3, jx_n (show k < 2 ^ 31 by omega), a3, a4, sz_ad (show X k ≤ 400 by omega) (show c ≤ 400 by omega), sz_ad (show D k ≤ 400 by omega) (show d ≤ 400 by omega), pk_mul, nI_leI (show ad (X k) c < 2 ^ 31 by omega) (show v * ad (D k) d < 2 ^ 31 by omega)]
    have up : (m.testBit k = true → ad (X k) c ≤ v * ad (D k) d) → ((∀ i, i < k → m.testBit i = true → ad (X i) c ≤ v * ad (D i) d) ∧ b = 1) ∨ (¬ mb D X n v d m c ∧ b = 0) → ((∀ i, i < k + 1 → m.testBit i = true → ad (X i) c ≤ v * ad (D i) d) ∧ b = 1) ∨ (¬ mb D X n v d m c ∧ b = 0) := fun hh hI => hI.imp (fun w => ⟨fun i hi hb => by
      by_cases e : i = k
      · subst e; exact hh hb
      · exact w.1 i (by omega) hb, w.2⟩) id
    refine Run.im (nI_ge hk (by omega)) <| Run.i (fun q => Run.g vk <| Run.g vk <| Run.i (fun q2 => Run.rt ⟨b, by rw [nI_1], up (fun _ => q2) hI⟩) (fun q2 => Run.rt ⟨0, by rw [nI_1], Or.inr ⟨fun z => q2 (z k hk ((bit1 (by omega) (by omega)).mp q)), rfl⟩⟩)) (fun q => Run.rt ⟨b, by rw [nI_1], up (fun hb => ?_) hI⟩)
    rw [bit1_no (by omega) (by omega) q] at hb
    cases hb
  · rintro s ⟨b, rfl, hI⟩
    unfold cX11_mayBe_35
    rw [g3]
    exact Run.ip (nI_le (Nat.le_refl _) (by omega)) <| Run.rt hI
theorem shl1L : ∀ c, c < 61 → jlshl (1 : Int64) (nI c) = lN (2 ^ c) := by decide +kernel
/-- cells where a ship may be: both ways -/
theorem s_cells (h : bk B C n S D X) {q v d : Nat} (hq : q < 4) (hv : v ≤ 60) (hd : d ≤ 365) : Sim (fun x y => ∃ M, M < 2 ^ 61 ∧ x.1 = lN M ∧ y = lN M) (fX0_cellsOf B (nI q) (nI v) (nI d)) (fX11_mayBe C (nI q) (nI v) (nI d)) := by
  obtain ⟨a, f, A2, ha, hf, fA, e1, e2, e3, e4⟩ := s_false h hq hv
  have h2 := h.fr fA
  have h1024 := pow_le_1024 h.1
  unfold fX0_cellsOf fX11_mayBe fX0_trueOf
  rw [e1, e2, e3, e4]
  refine Sim.bl (a := (nI a &&& (nI f ^^^ (-1 : Int32)), A2)) rfl <| Sim.br rfl <| Sim.br rfl ?_
  rw [wo_n]
  refine Sim.bd (R := fun x y => ∃ M, M < 2 ^ 61 ∧ x = lN M ∧ y = lN M) ?_ (fun x y z => Sim.rt z)
  refine Sim.up 61 (fun c s t => ∃ M, M < 2 ^ c ∧ s = (lN M, nI c) ∧ t = (lN M, nI c)) ?_ ?_ (Nat.zero_le _) ⟨0, by omega, rfl, rfl⟩
  · rintro c s t hc ⟨M, hM, rfl, rfl⟩
    obtain ⟨x, e5, hx⟩ := r_may h2 hv hd (wo_lt (u := f) ha) (show c ≤ 60 by omega)
    obtain ⟨y, e6, hy⟩ := r_mayC h (lN M) hv hd (wo_lt (u := f) ha) (show c ≤ 60 by omega)
    have hxy : x = y := by
      rcases hx with ⟨w, rfl⟩ | ⟨w, rfl⟩ <;> rcases hy with ⟨w2, rfl⟩ | ⟨w2, rfl⟩
      · rfl
      · exact absurd w w2
      · exact absurd w2 w
      · rfl
    subst hxy
    unfold cX0_cellsOf_14 cX11_mayBe_22
    have p1 : 2 ^ c < 2 ^ (c + 1) := Nat.pow_lt_pow_right (by omega) (by omega)
    refine Sim.iml (nI_nlt (a := 60) (b := c) (by omega) (by omega)) <| Sim.imr (nI_ge (b := 61) hc (by omega)) <| Sim.bl e5 <| Sim.br e6 <| Sim.ii Iff.rfl (fun _ => Sim.rt ⟨M, by omega, by rw [nI_1], by rw [nI_1]⟩) (fun _ => Sim.rt ⟨M ||| 2 ^ c, or_lt (by omega) p1, ?_, ?_⟩)
    · rw [shl1L c hc, orL_n, nI_1]
    · rw [shl1L c hc, orL_n, nI_1]
  · rintro s t ⟨M, hM, rfl, rfl⟩
    unfold cX0_cellsOf_14 cX11_mayBe_22
    exact Sim.ipl (nI_lt (a := 60) (b := 61) (by omega) (by omega)) <| Sim.ipr (nI_le (a := 61) (Nat.le_refl _) (by omega)) <| Sim.rt ⟨M, hM, rfl, rfl⟩
theorem m_there (h : Rel B C) (l1 l2 l3 : Int32) : Sim (fun x y => x.1 = y) (fX10_there B l1 l2 l3) (fX11_there C l1 l2 l3) := by
  obtain ⟨n, S, D, X, hb⟩ := h.2.2.2.2.2.2.1.un
  unfold fX10_there fX11_there
  refine Sim.ii Iff.rfl (fun _ => Sim.rt rfl) (fun q1 => Sim.ii Iff.rfl (fun _ => Sim.rt rfl) (fun q2 => Sim.ii Iff.rfl (fun _ => Sim.rt rfl) (fun q3 => ?_)))
  obtain ⟨q, hq, rfl⟩ := wn_n (n := 3) rfl q1
  obtain ⟨v, hv, rfl⟩ := wn_n (n := 60) rfl q2
  obtain ⟨d, hd, rfl⟩ := wn_n (n := 365) rfl q3
  refine Sim.bd (s_cells hb (by omega) hv hd) ?_
  rintro x y ⟨M, hM, e1, e2⟩
  exact Sim.rt (e1.trans e2.symm)
theorem m_last (h : Rel B C) (l1 l2 l3 : Int32) : Sim (fun x y => x.1 = y) (fX10_last B l1 l2 l3) (fX11_last C l1 l2 l3) := by
  obtain ⟨n, S, D, X, hb⟩ := h.2.2.2.2.2.2.1.un
  unfold fX10_last fX11_last fX0_latestTrue fX0_trueOf
  refine Sim.ii Iff.rfl (fun _ => Sim.rt rfl) (fun q1 => Sim.ii Iff.rfl (fun _ => Sim.rt rfl) (fun q2 => Sim.ii Iff.rfl (fun _ => Sim.rt rfl) (fun q3 => ?_)))
  obtain ⟨q, hq, rfl⟩ := wn_n (n := 3) rfl q1
  obtain ⟨v, hv, rfl⟩ := wn_n (n := 60) rfl q2
  obtain ⟨a, f, A2, ha, hf, fA, e1, e2, e3, e4⟩ := s_false hb (show q < 4 by omega) hv
  have h2 := hb.fr fA
  obtain ⟨g1, g2, g3, g4⟩ := id hb
  have h1024 := pow_le_1024 g1
  rw [e1, e2, e3, e4]
  have hs : Sim (fun x y => x = y ∧ (x = -1 ∨ ∃ r, r < n ∧ x = nI r)) (jwh (cX0_latestTrue_13 A2 (nI (wo a f))) ((-1 : Int32), (0 : Int32))) (jwh (cX11_last_51 C l3 (nI (wo a f))) ((-1 : Int32), (0 : Int32))) := by
    have hw : wo a f < 2 ^ n := wo_lt ha
    refine Sim.up n (fun k s t => s = t ∧ s.2 = nI k ∧ (s.1 = -1 ∨ ∃ r, r < n ∧ s.1 = nI r)) ?_ ?_ (Nat.zero_le _) ⟨rfl, rfl, Or.inl rfl⟩
    · rintro k ⟨s1, s2⟩ t hk ⟨rfl, e, hI⟩
      have e : s2 = nI k := e
      subst e
      have hI : s1 = -1 ∨ ∃ r, r < n ∧ s1 = nI r := hI
      obtain ⟨-, -, -, -, a1, -, -, a2, -⟩ := h2.2.2.2 k hk
      unfold cX0_latestTrue_13 cX11_last_51
      simp only [h2.2.1, g3]
      refine Sim.iml (nI_ge hk (by omega)) <| Sim.imr (nI_ge hk (by omega)) <| Sim.ix (bit01 (by omega) (by omega)) (fun _ => Sim.rt ⟨rfl, nI_1 k, hI⟩) (fun _ => Sim.ii Iff.rfl (fun _ => Sim.rt ⟨rfl, nI_1 k, Or.inr ⟨k, hk, rfl⟩⟩) (fun q5 => ?_))
      rcases hI with rfl | ⟨r, hr, rfl⟩
      · exact absurd (show (-1 : Int32) < 0 by decide) q5
      · obtain ⟨-, -, -, -, b1, -, -, b2, -⟩ := h2.2.2.2 r hr
        rw [jx_n (show k < 2 ^ 31 by omega), jx_n (show r < 2 ^ 31 by omega), a1, a2, b1, b2]
        refine Sim.gl (vp_in_nI (by omega) (by omega)) <| Sim.gl (vp_in_nI (by omega) (by omega)) <| Sim.gr (vp_in_nI (by omega) (by omega)) <| Sim.gr (vp_in_nI (by omega) (by omega)) <| Sim.ii Iff.rfl (fun _ => Sim.rt ⟨rfl, nI_1 k, Or.inr ⟨r, hr, rfl⟩⟩) (fun _ => Sim.rt ⟨rfl, nI_1 k, Or.inr ⟨k, hk, rfl⟩⟩)
    · rintro ⟨s1, s2⟩ t ⟨rfl, e, hI⟩
      have e : s2 = nI n := e
      subst e
      unfold cX0_latestTrue_13 cX11_last_51
      simp only [h2.2.1, g3]
      exact Sim.ipl (nI_le (Nat.le_refl _) (by omega)) <| Sim.ipr (nI_le (Nat.le_refl _) (by omega)) <| Sim.rt ⟨rfl, hI⟩
  obtain ⟨x, y, e5, e6, rfl, hx⟩ := hs
  have e7 : Option.bind (Option.bind (some (nI a)) fun r1 => Option.bind (some (nI f, A2)) fun r3 => some (r1 &&& (r3.1 ^^^ (-1 : Int32)), r3.2)) (fun r1 => Option.bind (jwh (cX0_latestTrue_13 r1.2 r1.1) ((-1 : Int32), (0 : Int32))) fun e3 => some (e3, r1.2)) = some (x, A2) := by
    show Option.bind (jwh (cX0_latestTrue_13 A2 (nI a &&& (nI f ^^^ (-1 : Int32)))) ((-1 : Int32), (0 : Int32))) _ = _
    rw [wo_n, e5]
    rfl
  rw [e7]
  refine Sim.bl rfl <| Sim.br rfl <| Sim.br rfl ?_
  rw [wo_n]
  refine Sim.br e6 ?_
  rcases hx with rfl | ⟨r, hr, rfl⟩
  · exact Sim.iml (show ¬ (0 : Int32) ≤ -1 by decide) <| Sim.imr (show ¬ (0 : Int32) ≤ -1 by decide) <| Sim.rt rfl
  · obtain ⟨-, -, -, -, b1, b2, -, b3, b4⟩ := h2.2.2.2 r hr
    have v1 : vp_in (nI r) 10 := vp_in_nI (by omega) (by omega)
    simp only [jx_n (show r < 2 ^ 31 by omega), b1, b2, b3, b4]
    refine Sim.ipl (nI_pos' (by omega)) <| Sim.ipr (nI_pos' (by omega)) <| Sim.ii Iff.rfl (fun _ => Sim.gl v1 <| Sim.gr v1 <| Sim.rt rfl) (fun _ => Sim.gl v1 <| Sim.gr v1 <| Sim.rt rfl)
