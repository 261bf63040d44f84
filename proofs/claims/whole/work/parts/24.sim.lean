/-! TWO RUNS SIDE BY SIDE; what a run leaves as it was -/
theorem jwh_go {σ ρ : Type} {b : σ → Option (σ ⊕ ρ)} {s s2 : σ} (h : b s = some (.inl s2)) : jwh b s = jwh b s2 := by
  cases e : jwh b s2 with
  | some r => exact jwh_some.mpr (jWh.go h (jwh_some.mp e))
  | none =>
    cases e2 : jwh b s with
    | none => rfl
    | some r =>
      rcases (jwh_some.mp e2).inv with h3 | ⟨s3, h3, h4⟩
      · rw [h] at h3; injection h3 with h3; injection h3
      · rw [h] at h3
        injection h3 with h3
        injection h3 with h3
        subst h3
        rw [jwh_some.mpr h4] at e
        cases e
theorem jwh_out {σ ρ : Type} {b : σ → Option (σ ⊕ ρ)} {s : σ} {r : ρ} (h : b s = some (.inr r)) : jwh b s = some r := jwh_some.mpr (jWh.out h)
theorem of_ite {α : Type} {c : Prop} [Decidable c] {a b x : α} (h : (if c then a else b) = x) : (c ∧ a = x) ∨ (¬ c ∧ b = x) := by
  by_cases q : c
  · exact Or.inl ⟨q, by rwa [if_pos q] at h⟩
  · exact Or.inr ⟨q, by rwa [if_neg q] at h⟩
/-- one run -/
def Run {α : Type} (Q : α → Prop) (x : Option α) : Prop := ∃ a, x = some a ∧ Q a
theorem Run.rt {α : Type} {Q : α → Prop} {a : α} (h : Q a) : Run Q (some a) := ⟨a, rfl, h⟩
theorem Run.bd {α β : Type} {R : α → Prop} {Q : β → Prop} {x : Option α} {f : α → Option β} (h : Run R x) (k : ∀ a, R a → Run Q (f a)) : Run Q (Option.bind x f) := by
  obtain ⟨a, rfl, h⟩ := h
  exact k a h
theorem Run.be {α β : Type} {Q : β → Prop} {x : Option α} {f : α → Option β} {a : α} (h : x = some a) (k : Run Q (f a)) : Run Q (Option.bind x f) := by
  subst h
  exact k
theorem Run.g {α : Type} {Q : α → Prop} {x : Option α} {c : Prop} (hc : c) (h : Run Q x) : Run Q (jgd c x) := by rw [jgd_t hc]; exact h
theorem Run.i {α : Type} {Q : α → Prop} {x y : Option α} {c : Prop} [Decidable c] (h1 : c → Run Q x) (h2 : ¬ c → Run Q y) : Run Q (if c then x else y) := by
  by_cases q : c
  · rw [if_pos q]; exact h1 q
  · rw [if_neg q]; exact h2 q
theorem Run.ip {α : Type} {Q : α → Prop} {x y : Option α} {c : Prop} [Decidable c] (hc : c) (h : Run Q x) : Run Q (if c then x else y) := by rw [if_pos hc]; exact h
theorem Run.im {α : Type} {Q : α → Prop} {x y : Option α} {c : Prop} [Decidable c] (hc : ¬ c) (h : Run Q y) : Run Q (if c then x else y) := by rw [if_neg hc]; exact h
theorem Run.mono {α : Type} {Q Q2 : α → Prop} {x : Option α} (h : Run Q x) (k : ∀ a, Q a → Q2 a) : Run Q2 x := by
  obtain ⟨a, e, h⟩ := h
  exact ⟨a, e, k a h⟩
def SO {σ ρ : Type} (I : σ → Prop) (Q : ρ → Prop) : (σ ⊕ ρ) → Prop
  | .inl a => I a
  | .inr a => Q a
/-- a loop with a number that falls -/
theorem Run.dn {σ ρ : Type} {b : σ → Option (σ ⊕ ρ)} {Q : ρ → Prop} (I : Nat → σ → Prop) (h : ∀ n s, I n s → Run (SO (fun s2 => ∃ m, m < n ∧ I m s2) Q) (b s)) : ∀ {n : Nat} {s : σ}, I n s → Run Q (jwh b s) := by
  intro n
  induction n using Nat.strongRecOn with
  | ind n ih =>
    intro s hI
    obtain ⟨z, e, hz⟩ := h n s hI
    cases z with
    | inl s2 =>
      obtain ⟨m, hm, hI2⟩ := hz
      rw [jwh_go e]
      exact ih m hm hI2
    | inr r =>
      rw [jwh_out e]
      exact ⟨r, rfl, hz⟩
/-- a loop that counts up to N -/
theorem Run.up {σ ρ : Type} {b : σ → Option (σ ⊕ ρ)} {Q : ρ → Prop} (N : Nat) (I : Nat → σ → Prop) (h : ∀ k s, k < N → I k s → Run (SO (I (k + 1)) Q) (b s)) (he : ∀ s, I N s → Run (SO (fun _ => False) Q) (b s)) {k : Nat} {s : σ} (hk : k ≤ N) (h0 : I k s) : Run Q (jwh b s) := by
  refine Run.dn (fun n s => ∃ k, k ≤ N ∧ n = N - k ∧ I k s) ?_ ⟨k, hk, rfl, h0⟩
  rintro n s ⟨k, hk, rfl, hI⟩
  rcases Nat.lt_or_ge k N with hlt | hge
  · refine (h k s hlt hI).mono fun z hz => ?_
    cases z with
    | inl s2 => exact ⟨N - (k + 1), by omega, k + 1, by omega, rfl, hz⟩
    | inr r => exact hz
  · have e : k = N := by omega
    subst e
    refine (he s hI).mono fun z hz => ?_
    cases z with
    | inl s2 => exact absurd hz id
    | inr r => exact hz
/-- two runs -/
def Sim {α β : Type} (Q : α → β → Prop) (x : Option α) (y : Option β) : Prop := ∃ a b, x = some a ∧ y = some b ∧ Q a b
theorem Sim.rt {α β : Type} {Q : α → β → Prop} {a : α} {b : β} (h : Q a b) : Sim Q (some a) (some b) := ⟨a, b, rfl, rfl, h⟩
theorem Sim.bd {α β γ δ : Type} {R : α → β → Prop} {Q : γ → δ → Prop} {x : Option α} {y : Option β} {f : α → Option γ} {g : β → Option δ} (h : Sim R x y) (k : ∀ a b, R a b → Sim Q (f a) (g b)) : Sim Q (Option.bind x f) (Option.bind y g) := by
  obtain ⟨a, b, rfl, rfl, h⟩ := h
  exact k a b h
theorem Sim.bl {α γ δ : Type} {Q : γ → δ → Prop} {x : Option α} {f : α → Option γ} {y : Option δ} {a : α} (e : x = some a) (h : Sim Q (f a) y) : Sim Q (Option.bind x f) y := by
  subst e
  exact h
theorem Sim.br {α γ δ : Type} {Q : γ → δ → Prop} {x : Option α} {f : α → Option δ} {y : Option γ} {a : α} (e : x = some a) (h : Sim Q y (f a)) : Sim Q y (Option.bind x f) := by
  subst e
  exact h
theorem Sim.rl {α γ δ : Type} {Q : γ → δ → Prop} {R : α → Prop} {x : Option α} {f : α → Option γ} {y : Option δ} (e : Run R x) (h : ∀ a, R a → Sim Q (f a) y) : Sim Q (Option.bind x f) y := by
  obtain ⟨a, rfl, q⟩ := e
  exact h a q
theorem Sim.rr {α γ δ : Type} {Q : γ → δ → Prop} {R : α → Prop} {x : Option α} {f : α → Option δ} {y : Option γ} (e : Run R x) (h : ∀ a, R a → Sim Q y (f a)) : Sim Q y (Option.bind x f) := by
  obtain ⟨a, rfl, q⟩ := e
  exact h a q
theorem Sim.gl {α β : Type} {Q : α → β → Prop} {x : Option α} {y : Option β} {c : Prop} (hc : c) (h : Sim Q x y) : Sim Q (jgd c x) y := by rw [jgd_t hc]; exact h
theorem Sim.gr {α β : Type} {Q : α → β → Prop} {x : Option α} {y : Option β} {c : Prop} (hc : c) (h : Sim Q x y) : Sim Q x (jgd c y) := by rw [jgd_t hc]; exact h
theorem Sim.il {α β : Type} {Q : α → β → Prop} {x x2 : Option α} {y : Option β} {c : Prop} [Decidable c] (h1 : c → Sim Q x y) (h2 : ¬ c → Sim Q x2 y) : Sim Q (if c then x else x2) y := by
  by_cases q : c
  · rw [if_pos q]; exact h1 q
  · rw [if_neg q]; exact h2 q
theorem Sim.ir {α β : Type} {Q : α → β → Prop} {x : Option α} {y y2 : Option β} {c : Prop} [Decidable c] (h1 : c → Sim Q x y) (h2 : ¬ c → Sim Q x y2) : Sim Q x (if c then y else y2) := by
  by_cases q : c
  · rw [if_pos q]; exact h1 q
  · rw [if_neg q]; exact h2 q
theorem Sim.ii {α β : Type} {Q : α → β → Prop} {x x2 : Option α} {y y2 : Option β} {c d : Prop} [Decidable c] [Decidable d] (e : c ↔ d) (h1 : c → Sim Q x y) (h2 : ¬ c → Sim Q x2 y2) : Sim Q (if c then x else x2) (if d then y else y2) := by
  by_cases q : c
  · rw [if_pos q, if_pos (e.mp q)]; exact h1 q
  · rw [if_neg q, if_neg (fun z => q (e.mpr z))]; exact h2 q
/-- one side's yes is the other's no -/
theorem Sim.ix {α β : Type} {Q : α → β → Prop} {x x2 : Option α} {y y2 : Option β} {c d : Prop} [Decidable c] [Decidable d] (e : c ↔ ¬ d) (h1 : c → Sim Q x y2) (h2 : ¬ c → Sim Q x2 y) : Sim Q (if c then x else x2) (if d then y else y2) := by
  by_cases q : c
  · rw [if_pos q, if_neg (e.mp q)]; exact h1 q
  · rw [if_neg q, if_pos (Decidable.not_not.mp (fun z => q (e.mpr z)))]; exact h2 q
theorem Sim.ipl {α β : Type} {Q : α → β → Prop} {x x2 : Option α} {y : Option β} {c : Prop} [Decidable c] (hc : c) (h : Sim Q x y) : Sim Q (if c then x else x2) y := by rw [if_pos hc]; exact h
theorem Sim.iml {α β : Type} {Q : α → β → Prop} {x x2 : Option α} {y : Option β} {c : Prop} [Decidable c] (hc : ¬ c) (h : Sim Q x2 y) : Sim Q (if c then x else x2) y := by rw [if_neg hc]; exact h
theorem Sim.ipr {α β : Type} {Q : α → β → Prop} {x : Option α} {y y2 : Option β} {c : Prop} [Decidable c] (hc : c) (h : Sim Q x y) : Sim Q x (if c then y else y2) := by rw [if_pos hc]; exact h
theorem Sim.imr {α β : Type} {Q : α → β → Prop} {x : Option α} {y y2 : Option β} {c : Prop} [Decidable c] (hc : ¬ c) (h : Sim Q x y2) : Sim Q x (if c then y else y2) := by rw [if_neg hc]; exact h
theorem Sim.mono {α β : Type} {Q Q2 : α → β → Prop} {x : Option α} {y : Option β} (h : Sim Q x y) (k : ∀ a b, Q a b → Q2 a b) : Sim Q2 x y := by
  obtain ⟨a, b, e1, e2, h⟩ := h
  exact ⟨a, b, e1, e2, k a b h⟩
theorem Sim.of_runs {α β : Type} {Q : α → β → Prop} {P : α → Prop} {R : β → Prop} {x : Option α} {y : Option β} (h1 : Run P x) (h2 : Run R y) (k : ∀ a b, P a → R b → Q a b) : Sim Q x y := by
  obtain ⟨a, e1, h1⟩ := h1
  obtain ⟨b, e2, h2⟩ := h2
  exact ⟨a, b, e1, e2, k a b h1 h2⟩
def SR {σ τ ρ υ : Type} (I : σ → τ → Prop) (Q : ρ → υ → Prop) : (σ ⊕ ρ) → (τ ⊕ υ) → Prop
  | .inl a, .inl b => I a b
  | .inr a, .inr b => Q a b
  | _, _ => False
theorem Sim.dn {σ τ ρ υ : Type} {b1 : σ → Option (σ ⊕ ρ)} {b2 : τ → Option (τ ⊕ υ)} {Q : ρ → υ → Prop} (I : Nat → σ → τ → Prop) (h : ∀ n s t, I n s t → Sim (SR (fun s2 t2 => ∃ m, m < n ∧ I m s2 t2) Q) (b1 s) (b2 t)) : ∀ {n : Nat} {s : σ} {t : τ}, I n s t → Sim Q (jwh b1 s) (jwh b2 t) := by
  intro n
  induction n using Nat.strongRecOn with
  | ind n ih =>
    intro s t hI
    obtain ⟨z, w, e, e2, hz⟩ := h n s t hI
    cases z with
    | inl s2 =>
      cases w with
      | inl t2 =>
        obtain ⟨m, hm, hI2⟩ := hz
        rw [jwh_go e, jwh_go e2]
        exact ih m hm hI2
      | inr t2 => exact absurd hz id
    | inr r =>
      cases w with
      | inl t2 => exact absurd hz id
      | inr t2 =>
        rw [jwh_out e, jwh_out e2]
        exact ⟨r, t2, rfl, rfl, hz⟩
theorem Sim.up {σ τ ρ υ : Type} {b1 : σ → Option (σ ⊕ ρ)} {b2 : τ → Option (τ ⊕ υ)} {Q : ρ → υ → Prop} (N : Nat) (I : Nat → σ → τ → Prop) (h : ∀ k s t, k < N → I k s t → Sim (SR (I (k + 1)) Q) (b1 s) (b2 t)) (he : ∀ s t, I N s t → Sim (SR (fun _ _ => False) Q) (b1 s) (b2 t)) {k : Nat} {s : σ} {t : τ} (hk : k ≤ N) (h0 : I k s t) : Sim Q (jwh b1 s) (jwh b2 t) := by
  refine Sim.dn (fun n s t => ∃ k, k ≤ N ∧ n = N - k ∧ I k s t) ?_ ⟨k, hk, rfl, h0⟩
  rintro n s t ⟨k, hk, rfl, hI⟩
  rcases Nat.lt_or_ge k N with hlt | hge
  · refine (h k s t hlt hI).mono fun z w hz => ?_
    cases z with
    | inl s2 =>
      cases w with
      | inl t2 => exact ⟨N - (k + 1), by omega, k + 1, by omega, rfl, hz⟩
      | inr t2 => exact absurd hz id
    | inr r =>
      cases w with
      | inl t2 => exact absurd hz id
      | inr t2 => exact hz
  · have e : k = N := by omega
    subst e
    refine (he s t hI).mono fun z w hz => ?_
    cases z with
    | inl s2 =>
      cases w with
      | inl t2 => exact absurd hz id
      | inr t2 => exact absurd hz id
    | inr r =>
      cases w with
      | inl t2 => exact absurd hz id
      | inr t2 => exact hz
theorem Sim.bg {α γ δ : Type} {Q : γ → δ → Prop} {c : Prop} {x : Option α} {f : α → Option γ} {y : Option δ} (hc : c) (h : Sim Q (Option.bind x f) y) : Sim Q (Option.bind (jgd c x) f) y := by rw [jgd_t hc]; exact h
theorem Sim.bgr {α γ δ : Type} {Q : γ → δ → Prop} {c : Prop} {x : Option α} {f : α → Option δ} {y : Option γ} (hc : c) (h : Sim Q y (Option.bind x f)) : Sim Q y (Option.bind (jgd c x) f) := by rw [jgd_t hc]; exact h
/-! what is left as it was -/
def inW (ws : List (Nat × Nat × Option Nat)) (c j : Nat) : Bool := match ws with
  | [] => false
  | (lo, hi, none) :: l => (Nat.ble lo c && Nat.ble c hi) || inW l c j
  | (lo, hi, some f) :: l => (Nat.ble lo c && Nat.ble c hi && Nat.beq f j) || inW l c j
abbrev jA3 : Type := Nat → Nat → Int32
def Fr (ws : List (Nat × Nat × Option Nat)) (A A2 : jA3) : Prop := ∀ c j, inW ws c j = false → A2 c j = A c j
theorem Fr.rf {ws : List (Nat × Nat × Option Nat)} {A : jA3} : Fr ws A A := fun _ _ _ => rfl
theorem Fr.tr {ws : List (Nat × Nat × Option Nat)} {A B C : jA3} (h : Fr ws A B) (h2 : Fr ws B C) : Fr ws A C := fun c j q => (h2 c j q).trans (h c j q)
def FrC (ws : List (Nat × Nat × Option Nat)) (c : Nat) (g : Nat → Int32) (B : jA3) : Prop := ∀ j, inW ws c j = false → g j = B c j
theorem Fr.up {ws : List (Nat × Nat × Option Nat)} {A B : jA3} {c : Nat} {g : Nat → Int32} (h : Fr ws A B) (hg : FrC ws c g B) : Fr ws A (va_up B c g) := fun c2 j q => by
  by_cases e : c2 = c
  · subst e
    rw [ju_same]
    exact (hg j q).trans (h _ j q)
  · rw [ju_ne _ _ e]
    exact h c2 j q
theorem FrC.bs {ws : List (Nat × Nat × Option Nat)} {c : Nat} {B : jA3} : FrC ws c (B c) B := fun _ _ => rfl
theorem FrC.al {ws : List (Nat × Nat × Option Nat)} {c : Nat} {g : Nat → Int32} {B : jA3} (h : ∀ j, inW ws c j = true) : FrC ws c g B := fun j q => by rw [h j] at q; cases q
theorem FrC.up {ws : List (Nat × Nat × Option Nat)} {c i : Nat} {g : Nat → Int32} {v : Int32} {B : jA3} (h : FrC ws c g B) (hi : inW ws c i = true) : FrC ws c (upd g i v) B := fun j q => by
  by_cases e : j = i
  · subst e; rw [hi] at q; cases q
  · unfold upd; rw [if_neg e]; exact h j q
theorem FrC.ne {ws : List (Nat × Nat × Option Nat)} {c c2 : Nat} {g f : Nat → Int32} {B : jA3} (e : Nat.beq c c2 = false) (h : FrC ws c g B) : FrC ws c g (va_up B c2 f) := fun j q => by
  rw [ju_ne _ _ (fun z => by rw [z] at e; simp at e)]
  exact h j q
theorem FrC.sm {ws : List (Nat × Nat × Option Nat)} {c : Nat} {g f : Nat → Int32} {B : jA3} (hf : FrC ws c f B) (h : FrC ws c g B) : FrC ws c g (va_up B c f) := fun j q => by
  rw [ju_same, hf j q]
  exact h j q
def subW : List (Nat × Nat × Option Nat) → List (Nat × Nat × Option Nat) → Bool
  | [], _ => true
  | q :: l, ws => covW q ws && subW l ws
where covW (q : Nat × Nat × Option Nat) : List (Nat × Nat × Option Nat) → Bool
  | [] => false
  | p :: l => (Nat.ble p.1 q.1 && Nat.ble q.2.1 p.2.1 && (match p.2.2, q.2.2 with
      | none, _ => true
      | some a, some b => Nat.beq a b
      | some _, none => false)) || covW q l
theorem nbq {a b : Nat} : Nat.beq a b = true ↔ a = b := ⟨Nat.eq_of_beq_eq_true, fun h => h ▸ Nat.beq_refl a⟩
theorem covW_in {q : Nat × Nat × Option Nat} {c j : Nat} : ∀ {ws : List (Nat × Nat × Option Nat)}, subW.covW q ws = true → inW [q] c j = true → inW ws c j = true
  | [], h, _ => by cases h
  | p :: l, h, hq => by
    have ih := @covW_in q c j l
    obtain ⟨lo, hi, fo⟩ := p
    obtain ⟨a, b, fq⟩ := q
    cases fo <;> cases fq <;> simp only [subW.covW, inW, Bool.or_eq_true, Bool.and_eq_true, Nat.ble_eq, nbq, Bool.or_false, Bool.false_eq_true, and_true, and_false, false_or] at h hq ih ⊢ <;> first
      | exact h.elim (fun z => Or.inl (by omega)) (fun z => Or.inr (ih z hq))
      | exact Or.inr (ih h hq)
theorem subW_in {c j : Nat} : ∀ {w1 w2 : List (Nat × Nat × Option Nat)}, subW w1 w2 = true → inW w2 c j = false → inW w1 c j = false
  | [], _, _, _ => rfl
  | q :: l, w2, h, h2 => by
    simp only [subW, Bool.and_eq_true] at h
    have ih := subW_in (c := c) (j := j) h.2 h2
    have h1 : inW [q] c j = false := by
      cases e : inW [q] c j with
      | false => rfl
      | true => rw [covW_in h.1 e] at h2; cases h2
    obtain ⟨lo, hi, fo⟩ := q
    cases fo <;> simp only [inW, Bool.or_false] at h1 ⊢ <;> rw [h1, ih] <;> rfl
theorem Fr.wd {w1 w2 : List (Nat × Nat × Option Nat)} {A B : jA3} (h : Fr w1 A B) (hs : subW w1 w2 = true) : Fr w2 A B := fun c j q => h c j (subW_in hs q)
theorem Fr.lp {σ ρ : Type} {b : σ → Option (σ ⊕ ρ)} {ms : σ → jA3} {mr : ρ → jA3} {ws : List (Nat × Nat × Option Nat)} (hb : ∀ s z, b s = some z → Fr ws (ms s) (Sum.elim ms mr z)) {s0 : σ} {y : ρ} (h : jwh b s0 = some y) : Fr ws (ms s0) (mr y) := by
  refine jwh_use (b := b) (G := fun s => Fr ws (ms s) (mr y)) (Gx := fun x => Fr ws (mr x) (mr y)) ?_ h Fr.rf
  intro s z e h1 h2
  have hz := hb s z e
  cases z with
  | inl s2 => exact hz.tr (h1 s2 rfl)
  | inr x => exact hz.tr (h2 x rfl)
theorem of_elim {α β γ : Type} {o : Option (α ⊕ β)} {f : α → Option γ} {g : β → Option γ} {x : γ} (h : Option.bind o (Sum.elim f g) = some x) : (∃ a, o = some (.inl a) ∧ f a = some x) ∨ (∃ a, o = some (.inr a) ∧ g a = some x) := by
  cases o with
  | none => cases h
  | some r =>
    cases r with
    | inl a => exact Or.inl ⟨a, rfl, h⟩
    | inr a => exact Or.inr ⟨a, rfl, h⟩
theorem Fr.eq {ws : List (Nat × Nat × Option Nat)} {A M v : jA3} (e : some M = some v) (h : Fr ws A M) : Fr ws A v := Option.some.inj e ▸ h
theorem inW_one (c j : Nat) : inW [(c, c, none)] c j = true := by simp [inW]
