/-! METHODS AS FUNCTIONS: loops, guards, words for what the machine does -/
/-- a loop b comes from s to its end r -/
def jWh {σ ρ : Type} (b : σ → Option (σ ⊕ ρ)) (s : σ) (r : ρ) : Prop := ∀ P : σ → Prop, (∀ s, b s = some (.inr r) → P s) → (∀ s s2, b s = some (.inl s2) → P s2 → P s) → P s
theorem jWh.out {σ ρ : Type} {b : σ → Option (σ ⊕ ρ)} {s : σ} {r : ρ} (h : b s = some (.inr r)) : jWh b s r := fun _ h1 _ => h1 s h
theorem jWh.go {σ ρ : Type} {b : σ → Option (σ ⊕ ρ)} {s s2 : σ} {r : ρ} (h : b s = some (.inl s2)) (h2 : jWh b s2 r) : jWh b s r := fun P p1 p2 => p2 s s2 h (h2 P p1 p2)
theorem jWh.inv {σ ρ : Type} {b : σ → Option (σ ⊕ ρ)} {s : σ} {r : ρ} (h : jWh b s r) : b s = some (.inr r) ∨ ∃ s2, b s = some (.inl s2) ∧ jWh b s2 r :=
  h (fun s => b s = some (.inr r) ∨ ∃ s2, b s = some (.inl s2) ∧ jWh b s2 r) (fun _ h => Or.inl h) (fun s s2 h h2 => Or.inr ⟨s2, h, by
    rcases h2 with h2 | ⟨s3, h3, h4⟩
    · exact jWh.out h2
    · exact jWh.go h3 h4⟩)
theorem jWh.det {σ ρ : Type} {b : σ → Option (σ ⊕ ρ)} {s : σ} {r r2 : ρ} (h : jWh b s r) : jWh b s r2 → r = r2 :=
  h (fun s => jWh b s r2 → r = r2) (fun s e h2 => by
    rcases h2.inv with h2 | ⟨s3, h3, _⟩
    · rw [e] at h2; injection h2 with h2; injection h2
    · rw [e] at h3; injection h3 with h3; injection h3) (fun s s2 e ih h2 => by
    rcases h2.inv with h2 | ⟨s3, h3, h4⟩
    · rw [e] at h2; injection h2 with h2; injection h2
    · rw [e] at h3
      injection h3 with h3
      injection h3 with h3
      subst h3
      exact ih h4)
/-- a loop: b says whether it goes on or is done; none: it comes to no good end -/
noncomputable def jwh {σ ρ : Type} (b : σ → Option (σ ⊕ ρ)) (s : σ) : Option ρ := @dite _ (∃ r, jWh b s r) (Classical.propDecidable _) (fun h => some (Classical.choose h)) (fun _ => none)
theorem jwh_some {σ ρ : Type} {b : σ → Option (σ ⊕ ρ)} {s : σ} {r : ρ} : jwh b s = some r ↔ jWh b s r := by
  unfold jwh
  split
  · next h =>
    constructor
    · intro e
      injection e with e
      exact e ▸ Classical.choose_spec h
    · intro e
      rw [jWh.det (Classical.choose_spec h) e]
  · next h =>
    constructor
    · intro e
      cases e
    · intro e
      exact absurd ⟨r, e⟩ h
theorem jwh_use {σ ρ : Type} {b : σ → Option (σ ⊕ ρ)} {G : σ → Prop} {Gx : ρ → Prop} {s0 : σ} {y : ρ} (hc : ∀ s z, b s = some z → (∀ s2, z = .inl s2 → G s2) → (∀ x, z = .inr x → Gx x) → G s) (hw : jwh b s0 = some y) (hy : Gx y) : G s0 := by
  exact (jwh_some.mp hw) G (fun s e => hc _ _ e (fun _ z => by cases z) (fun x z => by cases z; exact hy)) (fun s s2 e ih => hc _ _ e (fun _ z => by cases z; exact ih) (fun x z => by cases z))
theorem jwh_use2 {σ ρ τ : Type} {b : σ → Option (σ ⊕ (ρ ⊕ τ))} {G : σ → Prop} {Gx : ρ → Prop} {Gr : τ → Prop} {s0 : σ} {y : ρ ⊕ τ} (hc : ∀ s z, b s = some z → (∀ s2, z = .inl s2 → G s2) → (∀ x, z = .inr (.inl x) → Gx x) → (∀ x, z = .inr (.inr x) → Gr x) → G s) (hw : jwh b s0 = some y) (hy : ∀ x, y = .inl x → Gx x) (hr : ∀ x, y = .inr x → Gr x) : G s0 := by
  exact (jwh_some.mp hw) G (fun s e => hc _ _ e (fun _ z => by cases z) (fun x z => by cases z; exact hy _ rfl) (fun x z => by cases z; exact hr _ rfl)) (fun s s2 e ih => hc _ _ e (fun _ z => by cases z; exact ih) (fun x z => by cases z) (fun x z => by cases z))
theorem of_bind {α β : Type} {o : Option α} {f : α → Option β} {x : β} (h : Option.bind o f = some x) : ∃ r, o = some r ∧ f r = some x := by
  cases o with
  | none => cases h
  | some r => exact ⟨r, rfl, h⟩
theorem of_pos {α : Type} {c : Prop} [Decidable c] {a b x : α} (h : (if c then a else b) = x) (h1 : c) : a = x := by rwa [if_pos h1] at h
theorem of_neg {α : Type} {c : Prop} [Decidable c] {a b x : α} (h : (if c then a else b) = x) (h1 : ¬ c) : b = x := by rwa [if_neg h1] at h
/-- what must hold, lest the machine throws -/
noncomputable def jgd {α : Type} (c : Prop) (x : Option α) : Option α := @ite _ c (Classical.propDecidable c) x none
theorem of_guard {α : Type} {c : Prop} {a : Option α} {x : α} (h : jgd c a = some x) : c ∧ a = some x := by
  unfold jgd at h
  split at h
  · exact ⟨‹_›, h⟩
  · cases h
theorem jgd_t {α : Type} {c : Prop} {x : Option α} (h : c) : jgd c x = x := by unfold jgd; exact if_pos h
def jcp (sp dp n : Int32) (n0 n1 : Nat) : Prop := ¬ sp < 0 ∧ ¬ dp < 0 ∧ ¬ n < 0 ∧ sp.toNatClampNeg + n.toNatClampNeg ≤ n0 ∧ dp.toNatClampNeg + n.toNatClampNeg ≤ n1
abbrev jx (i : Int32) : Nat := i.toNatClampNeg
abbrev jshl (x y : Int32) : Int32 := x <<< (y &&& 31)
abbrev jshr (x y : Int32) : Int32 := x >>> (y &&& 31)
abbrev jushr (x y : Int32) : Int32 := (x.toUInt32 >>> (y.toUInt32 &&& Int32.toUInt32 31)).toInt32
abbrev jrem (x y : Int32) : Int32 := x - x / y * y
abbrev jlrem (x y : Int64) : Int64 := x - x / y * y
abbrev jlshl (x : Int64) (y : Int32) : Int64 := x <<< (y.toInt64 &&& 63)
abbrev jlshr (x : Int64) (y : Int32) : Int64 := x >>> (y.toInt64 &&& 63)
abbrev jlushr (x : Int64) (y : Int32) : Int64 := (x.toUInt64 >>> (y.toInt64.toUInt64 &&& Int64.toUInt64 63)).toInt64
abbrev jchr (x : Int32) : Int32 := (x.toUInt32 % 65536).toInt32
abbrev jmax (x y : Int32) : Int32 := if x < y then y else x
abbrev jmin (x y : Int32) : Int32 := if y < x then y else x
abbrev jab (x : Int32) : Int32 := if 0 ≤ x then x else 0 - x
abbrev jlab (x : Int64) : Int64 := if 0 < x then x else -x
theorem jEv.exZ {d q : Nat} {as : List Value} {M M0 : jM} {cN zN : Nat} {e : Int32} {k : jK} {ls : jL} {st : List Value} {mt : jMt} (hm : jtab q = some mt) (h : jEv jtab d q as M cN zN (fun r M2 => r = some (.int e) ∧ M2 = M0)) (hk : jrok mt.2.2.2.1 (some (.int e)) → k ls (.int e :: st) M0) : jEv jtab d q as M cN zN (fun r M2 => k ls (r.toList ++ st) M2) := by
  cases d with
  | zero => exact absurd h id
  | succ d =>
    obtain ⟨mt2, h1, h2, h3⟩ := h
    have e2 : mt2 = mt := Option.some.inj (h1.symm.trans hm)
    subst e2
    exact ⟨mt2, h1, h2, h3.mono (fun _ _ _ _ _ _ z => z) (fun r M2 z => ⟨z.1, z.2.1, z.2.2.1, by
      have hz := z.1
      obtain ⟨z1, z2⟩ := z.2.2.2
      rw [z1] at hz
      rw [z1, z2]
      exact hk hz⟩)⟩
theorem jnar_boolean {x : Int32} (h : x = 0 ∨ x = 1) : narrow .boolean (.int x) = .int x := by
  rcases h with rfl | rfl <;> rfl
theorem jnar_byte {x : Int32} (h : x.toInt8.toInt32 = x) : narrow .byte (.int x) = .int x := by
  show Value.int _ = _
  exact congrArg Value.int h
theorem jchr_ok (x : Int32) : narrow .char (.int (jchr x)) = .int (jchr x) := by
  show Value.int _ = _
  refine congrArg Value.int ?_
  show (((x.toUInt32 % 65536).toInt32).toUInt32 % 65536).toInt32 = (x.toUInt32 % 65536).toInt32
  congr 1
  apply UInt32.toNat_inj.mp
  simp
theorem y_mpri {E : jE} {Rt : Option Value → jM → Prop} {cap : Nat × Nat} {pr : jX → Nat → jK} {bs : List Bool} {ls : jL} {v : Int32} {M : jM} (h : Rt (some (.int v)) M) : i_mask bs (i_push (.int v) (i_ireturn (E, jWP E Rt cap pr, Rt, cap))) ls [] M := ⟨v, rfl, h⟩
theorem y_mprl {E : jE} {Rt : Option Value → jM → Prop} {cap : Nat × Nat} {pr : jX → Nat → jK} {bs : List Bool} {ls : jL} {v : Int64} {M : jM} (h : Rt (some (.long v)) M) : i_mask bs (i_push (.long v) (i_lreturn (E, jWP E Rt cap pr, Rt, cap))) ls [] M := ⟨v, rfl, h⟩
theorem y_mri {E : jE} {Rt : Option Value → jM → Prop} {cap : Nat × Nat} {pr : jX → Nat → jK} {bs : List Bool} {ls : jL} {v : Int32} {M : jM} (h : Rt (some (.int v)) M) : i_mask bs (i_ireturn (E, jWP E Rt cap pr, Rt, cap)) ls [.int v] M := ⟨v, rfl, h⟩
theorem y_mrl {E : jE} {Rt : Option Value → jM → Prop} {cap : Nat × Nat} {pr : jX → Nat → jK} {bs : List Bool} {ls : jL} {v : Int64} {M : jM} (h : Rt (some (.long v)) M) : i_mask bs (i_lreturn (E, jWP E Rt cap pr, Rt, cap)) ls [.long v] M := ⟨v, rfl, h⟩
theorem y_mrv {E : jE} {Rt : Option Value → jM → Prop} {cap : Nat × Nat} {pr : jX → Nat → jK} {bs : List Bool} {ls : jL} {M : jM} (h : Rt none M) : i_mask bs (i_return (E, jWP E Rt cap pr, Rt, cap)) ls [] M := ⟨rfl, h⟩
theorem y_let {k : jK} {ls : jL} {st : List Value} {S : List jS} {A0 m1 : Nat → Nat → Int32} {L : Nat → Nat → Int64} (e : A0 = m1) (h : k ls st (S, m1, L)) : k ls st (S, A0, L) := by subst e; exact h
theorem y_letL {k : jK} {ls : jL} {st : List Value} {S : List jS} {A : Nat → Nat → Int32} {L0 m1 : Nat → Nat → Int64} (e : L0 = m1) (h : k ls st (S, A, m1)) : k ls st (S, A, L0) := by subst e; exact h
