/-! THE ONE BESIDE THE OTHER: B holds the cells of the one, C those of the reference -/
def KC : Nat → Nat → Int32 := fun k => match k with
  | 1 => fun j => ([95, (-1), 4, (-18), (-17), (-2), 2, (-18), (-16), (-3), 3, (-18), (-17), (-5), 40, (-18), (-17), 90, (-1), 5, (-18), (-17), 1] : List Int32).getD j 0
  | 2 => fun j => ([0, 17, 22, 23] : List Int32).getD j 0
  | 3 => fun j => ([0, 0, 1] : List Int32).getD j 0
  | 4 => fun j => ([100, 100, 6] : List Int32).getD j 0
  | 5 => fun j => ([0, 0, (-9), 0, 0, 1] : List Int32).getD j 0
  | 6 => fun j => ([20, 9, 9, 9, 4095, 12] : List Int32).getD j 0
  | 7 => fun j => ([0, 0, 0, 1, 0, 4] : List Int32).getD j 0
  | 11 => fun j => ([102, 97, 114, 32, 119, 105, 110, 100, 32, 110, 111, 105, 115, 101, 32, 119, 111, 114, 100, 32, 115, 97, 105, 108, 32, 109, 105, 110, 117, 116, 101, 32] : List Int32).getD j 0
  | 12 => fun j => ([104, 97, 100, 32, 99, 104, 97, 108, 107, 32, 116, 97, 107, 101, 115, 32, 111, 114, 32, 97, 110, 100, 32, 110, 111, 116, 32] : List Int32).getD j 0
  | 13 => fun j => ([40, 41, 59, 43, 45, 42, 60, 61] : List Int32).getD j 0
  | _ => fun _ => 0
def KL : Nat → Int32 := fun j => ([102, 97, 114, 32, 119, 105, 110, 100, 32, 110, 111, 105, 115, 101, 32, 119, 111, 114, 100, 32, 115, 97, 105, 108, 32, 109, 105, 110, 117, 116, 101, 32, 104, 97, 100, 32, 99, 104, 97, 108, 107, 32, 116, 97, 107, 101, 115, 32, 111, 114, 32, 97, 110, 100, 32, 110, 111, 116, 32] : List Int32).getD j 0
def KM : Nat → Int32 := fun j => ([0, 1, 2, 3, 4, 5, 10, 11, 12, 13, 14, 15] : List Int32).getD j 0
/-- steps: the one has a number x, the reference two -/
def actOf (x : Int32) : Int32 := if 0 ≤ x then 1 else if (-6 : Int32) ≤ x then 2 else if x = -11 then 5 else if x = -12 then 6 else if x = -13 then 3 else if x = -14 then 60 else if x = -15 then 61 else if x = -16 then 43 else if x = -17 then 45 else if x = -18 then 42 else 4
def withOf (x : Int32) : Int32 := if 0 ≤ x then x else if (-6 : Int32) ≤ x then (-1 : Int32) - x else 0
def isPush (x : Int32) : Prop := (-6 : Int32) ≤ x ∧ x ≤ 9999
def isTurn (x : Int32) : Prop := x = -13 ∨ x = -19
def isTwo (x : Int32) : Prop := x = -11 ∨ x = -12 ∨ x = -14 ∨ x = -15 ∨ x = -16 ∨ x = -17 ∨ x = -18
/-- steps f from a up to b, d: how many lie on the pile ahead of each -/
def Steps (f : Nat → Int32) (a b : Nat) : Prop := ∃ d : Nat → Nat, d a = 0 ∧ d b = 1 ∧ ∀ k, a ≤ k → k < b → (isPush (f k) ∧ d (k + 1) = d k + 1) ∨ (isTurn (f k) ∧ 1 ≤ d k ∧ d (k + 1) = d k) ∨ (isTwo (f k) ∧ 2 ≤ d k ∧ d (k + 1) + 1 = d k)
def rText (B C : jA3) (q : Nat) : Prop := ∃ e : Nat → Nat, e 0 = 0 ∧ e 0 ≤ e 1 ∧ e 1 ≤ e 2 ∧ e 2 ≤ e 3 ∧ e 3 ≤ 160 ∧ (∀ p, p < 4 → B (37 + q) p = nI (e p)) ∧ (∀ p, p < 3 → Steps (B (30 + q)) (e p) (e (p + 1))) ∧
  (1 ≤ q → (∀ p, p < 3 → C 100 (3 * q + p) = nI (e (p + 1))) ∧ ∀ k, k < e 3 → C 98 (170 * q + k) = actOf (B (30 + q) k) ∧ C 99 (170 * q + k) = withOf (B (30 + q) k))
def rCst (B C : jA3) : Prop := (∀ c, 3 ≤ c → c ≤ 13 → ∀ j, B c j = KC c j) ∧ (∀ j, C 103 j = KL j) ∧ (∀ j, C 104 j = KM j)
def rPass (B C : jA3) : Prop := (∀ i, i < 6 → C 95 i = B 18 i) ∧ (∀ i, i < 6 → C 96 i = B 19 i) ∧ (∀ i, i < 6 → KC 5 i ≤ B 18 i ∧ B 18 i ≤ KC 6 i) ∧ (∀ i, i < 6 → ∃ v, v < 100 ∧ B 19 i = nI v)
def rLaw (B C : jA3) : Prop := C 94 6 = B 17 2 ∧ C 94 5 = B 20 2 ∧ ∃ t n, B 17 2 = nI t ∧ B 20 2 = nI n ∧ t < n ∧ n ≤ 6 ∧ (∀ k, k < 23 → B 30 k = KC 1 k) ∧ (∀ k, k < 4 → B 37 k = KC 2 k) ∧ ∀ q, q < n → rText B C q
def rTape (B C : jA3) : Prop := C 94 4 = B 22 1 ∧ ∃ n, n ≤ 160 ∧ B 22 1 = nI n ∧ ∀ i, i < n → ∃ v, v < 256 ∧ B 23 i = nI v ∧ C 97 i = (nI v).toInt8.toInt32
def rSay (B C : jA3) : Prop := C 94 21 = B 16 5 ∧ ∃ n, n ≤ 8 ∧ B 16 5 = nI n ∧ ∀ i, i < n → C 105 i = B 44 i ∧ C 106 i = B 45 i ∧ C 107 i = B 46 i ∧ ∃ k t m, k < 6 ∧ t < 6 ∧ m < 10 ∧ B 44 i = nI k ∧ B 45 i = nI t ∧ B 46 i = nI m
def rWord (B C : jA3) : Prop := C 94 33 = B 54 3 ∧ ∃ n, n ≤ 6 ∧ B 54 3 = nI n ∧ (∀ i, i < n → C 113 i = B 55 i ∧ C 114 i = B 63 i ∧ ∃ v o, v < 10000 ∧ o < 100 ∧ B 55 i = nI v ∧ B 63 i = nI o) ∧
  (∀ i j, i < n → j < n → C 115 (6 * i + j) = B (57 + i) j ∧ ∃ t, t < 100 ∧ B (57 + i) j = nI t) ∧
  (∀ i j, i < 6 → j < 6 → n ≤ i ∨ n ≤ j → C 115 (6 * i + j) = 0 ∧ B (57 + i) j = if i = j then 10 else 0)
def rBook (B C : jA3) : Prop := C 94 37 = B 64 4 ∧ ∃ n, n ≤ 10 ∧ B 64 4 = nI n ∧ ∀ i, i < n → C 116 i = B 65 i ∧ C 117 i = B 66 i ∧ C 118 i = B 67 i ∧ C 119 i = B 68 i ∧ ∃ s d c b, s < 4 ∧ d ≤ 365 ∧ c ≤ 60 ∧ b < 10 ∧ B 65 i = nI s ∧ B 66 i = nI d ∧ B 67 i = nI c ∧ B 68 i = nI b
def rMeet (B C : jA3) : Prop := C 94 42 = B 70 3 ∧ ∃ n, n ≤ 24 ∧ B 70 3 = nI n ∧ ∀ i, i < n → C 120 i = B 71 i ∧ C 121 i = B 72 i ∧ C 122 i = B 73 i ∧ ∃ d a b, d ≤ 365 ∧ a < 4 ∧ b < 4 ∧ B 71 i = nI d ∧ B 72 i = nI a ∧ B 73 i = nI b
def rImg (B C : jA3) : Prop := C 94 47 = B 83 3 ∧ (¬ B 83 3 = 0 → C 94 48 = B 84 2 ∧ C 94 49 = B 83 2 ∧ (∀ i, i < 6 → C 124 i = B 85 i ∧ C 125 i = B 86 i ∧ KC 5 i ≤ B 85 i ∧ B 85 i ≤ KC 6 i ∧ ∃ v, v < 100 ∧ B 86 i = nI v) ∧
  ∃ t n w m, B 84 2 = nI t ∧ B 20 2 = nI n ∧ t < n ∧ n ≤ 6 ∧ B 83 2 = nI w ∧ B 54 3 = nI m ∧ w ≤ m ∧ m ≤ 6 ∧ ∀ i j, i < w → j < w → C 126 (6 * i + j) = B (88 + i) j ∧ ∃ t, t < 100 ∧ B (88 + i) j = nI t)
def rSheet (B C : jA3) : Prop := ∀ s, s < 4 → C 127 s = B 81 s ∧ (B 81 s = -1 ∨ ∃ k n, k < 3 ∧ n ≤ 40 ∧ B 81 s = nI k ∧ B 82 s = nI n ∧ C 128 s = nI n ∧ ∀ i, i < n → C 129 (40 * s + i) = B (77 + s) i)
def Rel (B C : jA3) : Prop := rCst B C ∧ rPass B C ∧ rLaw B C ∧ rTape B C ∧ rSay B C ∧ rWord B C ∧ rBook B C ∧ rMeet B C ∧ rImg B C ∧ rSheet B C
/-! what of the cells each part reads -/
def dj1 (a b : Nat × Nat × Option Nat) : Bool := Nat.blt a.2.1 b.1 || Nat.blt b.2.1 a.1 || (match a.2.2, b.2.2 with
  | some x, some y => !(Nat.beq x y)
  | _, _ => false)
def djl (a : Nat × Nat × Option Nat) : List (Nat × Nat × Option Nat) → Bool
  | [] => true
  | b :: l => dj1 a b && djl a l
def dj : List (Nat × Nat × Option Nat) → List (Nat × Nat × Option Nat) → Bool
  | [], _ => true
  | a :: l, ws => djl a ws && dj l ws
theorem djl_in {a : Nat × Nat × Option Nat} {c j : Nat} : ∀ {ws : List (Nat × Nat × Option Nat)}, djl a ws = true → inW [a] c j = true → inW ws c j = false
  | [], _, _ => rfl
  | b :: l, h, hq => by
    have ih := @djl_in a c j l
    simp only [djl, Bool.and_eq_true] at h
    have ih2 := ih h.2 hq
    have h1 := h.1
    clear ih
    obtain ⟨lo, hi, fo⟩ := a
    obtain ⟨lo2, hi2, fo2⟩ := b
    cases fo <;> cases fo2 <;> simp only [inW, dj1, Bool.or_eq_true, Bool.and_eq_true, Nat.ble_eq, Nat.blt_eq, nbq, Bool.or_false, Bool.not_eq_true', Bool.false_eq_true, or_false, Bool.or_eq_false_iff, Bool.and_eq_false_iff, ih2, and_true] at h1 hq ⊢ <;> simp only [← Bool.not_eq_true, Nat.ble_eq, nbq] at h1 ⊢ <;> omega
theorem dj_in {c j : Nat} : ∀ {l ws : List (Nat × Nat × Option Nat)}, dj l ws = true → inW l c j = true → inW ws c j = false
  | [], _, _, h => by cases h
  | a :: l, ws, h, hq => by
    simp only [dj, Bool.and_eq_true] at h
    have e : inW (a :: l) c j = (inW [a] c j || inW l c j) := by
      obtain ⟨lo, hi, fo⟩ := a
      cases fo <;> simp only [inW, Bool.or_false]
    rw [e, Bool.or_eq_true] at hq
    rcases hq with hq | hq
    · exact djl_in h.1 hq
    · exact dj_in h.2 hq
theorem Fr.at {l ws : List (Nat × Nat × Option Nat)} {A A2 : jA3} (h : Fr ws A A2) (d : dj l ws = true) (c j : Nat) (hl : inW l c j = true) : A2 c j = A c j := h c j (dj_in d hl)
abbrev bCst : List (Nat × Nat × Option Nat) := [(3, 13, none)]
abbrev cCst : List (Nat × Nat × Option Nat) := [(103, 104, none)]
abbrev bPass : List (Nat × Nat × Option Nat) := [(18, 19, none)]
abbrev cPass : List (Nat × Nat × Option Nat) := [(95, 96, none)]
abbrev bLaw : List (Nat × Nat × Option Nat) := [(17, 17, some 2), (20, 20, some 2), (30, 35, none), (37, 42, none)]
abbrev cLaw : List (Nat × Nat × Option Nat) := [(94, 94, some 5), (94, 94, some 6), (98, 100, none)]
abbrev bTape : List (Nat × Nat × Option Nat) := [(22, 22, some 1), (23, 23, none)]
abbrev cTape : List (Nat × Nat × Option Nat) := [(94, 94, some 4), (97, 97, none)]
abbrev bSay : List (Nat × Nat × Option Nat) := [(16, 16, some 5), (44, 46, none)]
abbrev cSay : List (Nat × Nat × Option Nat) := [(94, 94, some 21), (105, 107, none)]
abbrev bWord : List (Nat × Nat × Option Nat) := [(54, 54, some 3), (55, 55, none), (57, 63, none)]
abbrev cWord : List (Nat × Nat × Option Nat) := [(94, 94, some 33), (113, 115, none)]
abbrev bBook : List (Nat × Nat × Option Nat) := [(64, 64, some 4), (65, 68, none)]
abbrev cBook : List (Nat × Nat × Option Nat) := [(94, 94, some 37), (116, 119, none)]
abbrev bMeet : List (Nat × Nat × Option Nat) := [(70, 70, some 3), (71, 73, none)]
abbrev cMeet : List (Nat × Nat × Option Nat) := [(94, 94, some 42), (120, 122, none)]
abbrev bImg : List (Nat × Nat × Option Nat) := [(20, 20, some 2), (54, 54, some 3), (83, 83, some 2), (83, 83, some 3), (84, 84, some 2), (85, 86, none), (88, 93, none)]
abbrev cImg : List (Nat × Nat × Option Nat) := [(94, 94, some 47), (94, 94, some 48), (94, 94, some 49), (124, 126, none)]
abbrev bSheet : List (Nat × Nat × Option Nat) := [(77, 82, none)]
abbrev cSheet : List (Nat × Nat × Option Nat) := [(127, 129, none)]
theorem inW_rng {ws : List (Nat × Nat × Option Nat)} {c j lo hi : Nat} (h : subW [(lo, hi, none)] ws = true) (h1 : lo ≤ c) (h2 : c ≤ hi) : inW ws c j = true := by
  cases e : inW ws c j with
  | true => rfl
  | false =>
    have h3 := subW_in (c := c) (j := j) h e
    have h4 : inW [(lo, hi, none)] c j = true := by
      simp only [inW, Bool.or_false, Bool.and_eq_true, Nat.ble_eq]
      exact ⟨h1, h2⟩
    rw [h4] at h3
    cases h3
variable {wb wc : List (Nat × Nat × Option Nat)} {B C B2 C2 : jA3}
theorem rCst.fr (h : rCst B C) (hB : Fr wb B B2) (hC : Fr wc C C2) (nb : dj bCst wb = true) (nc : dj cCst wc = true) : rCst B2 C2 := by
  refine ⟨fun c a b j => ?_, fun j => ?_, fun j => ?_⟩
  · rw [hB.at nb c j (inW_rng (lo := 3) (hi := 13) rfl a b)]; exact h.1 c a b j
  · rw [hC.at nc 103 j rfl]; exact h.2.1 j
  · rw [hC.at nc 104 j rfl]; exact h.2.2 j
theorem rPass.fr (h : rPass B C) (hB : Fr wb B B2) (hC : Fr wc C C2) (nb : dj bPass wb = true) (nc : dj cPass wc = true) : rPass B2 C2 := by
  have a1 : ∀ i, B2 18 i = B 18 i := fun i => hB.at nb 18 i rfl
  have a2 : ∀ i, B2 19 i = B 19 i := fun i => hB.at nb 19 i rfl
  have b1 : ∀ i, C2 95 i = C 95 i := fun i => hC.at nc 95 i rfl
  have b2 : ∀ i, C2 96 i = C 96 i := fun i => hC.at nc 96 i rfl
  simp only [rPass, a1, a2, b1, b2]
  exact h
theorem rLaw.fr (h : rLaw B C) (hB : Fr wb B B2) (hC : Fr wc C C2) (nb : dj bLaw wb = true) (nc : dj cLaw wc = true) : rLaw B2 C2 := by
  have a1 : C2 94 6 = C 94 6 := hC.at nc 94 6 rfl
  have a2 : C2 94 5 = C 94 5 := hC.at nc 94 5 rfl
  have a3 : B2 17 2 = B 17 2 := hB.at nb 17 2 rfl
  have a4 : B2 20 2 = B 20 2 := hB.at nb 20 2 rfl
  have a5 : ∀ i, B2 30 i = B 30 i := fun i => hB.at nb 30 i rfl
  have a6 : ∀ i, B2 37 i = B 37 i := fun i => hB.at nb 37 i rfl
  have a7 : ∀ i, C2 98 i = C 98 i := fun i => hC.at nc 98 i rfl
  have a8 : ∀ i, C2 99 i = C 99 i := fun i => hC.at nc 99 i rfl
  have a9 : ∀ i, C2 100 i = C 100 i := fun i => hC.at nc 100 i rfl
  obtain ⟨g1, g2, t, n, g3, g4, g5, g6, g7, g8, g9⟩ := h
  simp only [rLaw, a1, a2, a3, a4, a5, a6]
  refine ⟨g1, g2, t, n, g3, g4, g5, g6, g7, g8, fun q hq => ?_⟩
  have b1 : ∀ i, B2 (30 + q) i = B (30 + q) i := fun i => hB.at nb _ i (inW_rng (lo := 30) (hi := 35) rfl (by omega) (by omega))
  have b2 : ∀ i, B2 (37 + q) i = B (37 + q) i := fun i => hB.at nb _ i (inW_rng (lo := 37) (hi := 42) rfl (by omega) (by omega))
  have g := g9 q hq
  unfold rText at g ⊢
  rw [show B2 (30 + q) = B (30 + q) from funext b1, show B2 (37 + q) = B (37 + q) from funext b2]
  simp only [a7, a8, a9]
  exact g
theorem rTape.fr (h : rTape B C) (hB : Fr wb B B2) (hC : Fr wc C C2) (nb : dj bTape wb = true) (nc : dj cTape wc = true) : rTape B2 C2 := by
  have a1 : C2 94 4 = C 94 4 := hC.at nc 94 4 rfl
  have a2 : B2 22 1 = B 22 1 := hB.at nb 22 1 rfl
  have a3 : ∀ i, B2 23 i = B 23 i := fun i => hB.at nb 23 i rfl
  have a4 : ∀ i, C2 97 i = C 97 i := fun i => hC.at nc 97 i rfl
  simp only [rTape, a1, a2, a3, a4]
  exact h
theorem rSay.fr (h : rSay B C) (hB : Fr wb B B2) (hC : Fr wc C C2) (nb : dj bSay wb = true) (nc : dj cSay wc = true) : rSay B2 C2 := by
  have a1 : C2 94 21 = C 94 21 := hC.at nc 94 21 rfl
  have a2 : B2 16 5 = B 16 5 := hB.at nb 16 5 rfl
  have a3 : ∀ i, B2 44 i = B 44 i := fun i => hB.at nb 44 i rfl
  have a4 : ∀ i, B2 45 i = B 45 i := fun i => hB.at nb 45 i rfl
  have a5 : ∀ i, B2 46 i = B 46 i := fun i => hB.at nb 46 i rfl
  have a6 : ∀ i, C2 105 i = C 105 i := fun i => hC.at nc 105 i rfl
  have a7 : ∀ i, C2 106 i = C 106 i := fun i => hC.at nc 106 i rfl
  have a8 : ∀ i, C2 107 i = C 107 i := fun i => hC.at nc 107 i rfl
  simp only [rSay, a1, a2, a3, a4, a5, a6, a7, a8]
  exact h
theorem rWord.fr (h : rWord B C) (hB : Fr wb B B2) (hC : Fr wc C C2) (nb : dj bWord wb = true) (nc : dj cWord wc = true) : rWord B2 C2 := by
  have a1 : C2 94 33 = C 94 33 := hC.at nc 94 33 rfl
  have a3 : B2 54 3 = B 54 3 := hB.at nb 54 3 rfl
  have a5 : ∀ i, B2 55 i = B 55 i := fun i => hB.at nb 55 i rfl
  have a6 : ∀ i, B2 63 i = B 63 i := fun i => hB.at nb 63 i rfl
  have b5 : ∀ i, C2 113 i = C 113 i := fun i => hC.at nc 113 i rfl
  have b6 : ∀ i, C2 114 i = C 114 i := fun i => hC.at nc 114 i rfl
  have b7 : ∀ i, C2 115 i = C 115 i := fun i => hC.at nc 115 i rfl
  have b8 : ∀ i, i < 6 → ∀ j, B2 (57 + i) j = B (57 + i) j := fun i hi j => hB.at nb _ j (inW_rng (lo := 57) (hi := 63) rfl (by omega) (by omega))
  obtain ⟨g1, n, g2, g3, g4, g5, g6⟩ := h
  refine ⟨by rw [a1, a3]; exact g1, n, g2, by rw [a3]; exact g3, fun i hi => ?_, fun i j hi hj => ?_, fun i j hi hj hh => ?_⟩
  · simp only [a5, a6, b5, b6]; exact g4 i hi
  · rw [b7, b8 i (by omega)]; exact g5 i j hi hj
  · rw [b7, b8 i hi]; exact g6 i j hi hj hh
theorem rBook.fr (h : rBook B C) (hB : Fr wb B B2) (hC : Fr wc C C2) (nb : dj bBook wb = true) (nc : dj cBook wc = true) : rBook B2 C2 := by
  have a1 : C2 94 37 = C 94 37 := hC.at nc 94 37 rfl
  have a3 : B2 64 4 = B 64 4 := hB.at nb 64 4 rfl
  have a4 : ∀ i, B2 65 i = B 65 i := fun i => hB.at nb 65 i rfl
  have a5 : ∀ i, B2 66 i = B 66 i := fun i => hB.at nb 66 i rfl
  have a6 : ∀ i, B2 67 i = B 67 i := fun i => hB.at nb 67 i rfl
  have a7 : ∀ i, B2 68 i = B 68 i := fun i => hB.at nb 68 i rfl
  have b4 : ∀ i, C2 116 i = C 116 i := fun i => hC.at nc 116 i rfl
  have b5 : ∀ i, C2 117 i = C 117 i := fun i => hC.at nc 117 i rfl
  have b6 : ∀ i, C2 118 i = C 118 i := fun i => hC.at nc 118 i rfl
  have b7 : ∀ i, C2 119 i = C 119 i := fun i => hC.at nc 119 i rfl
  simp only [rBook, a1, a3, a4, a5, a6, a7, b4, b5, b6, b7]
  exact h
theorem rMeet.fr (h : rMeet B C) (hB : Fr wb B B2) (hC : Fr wc C C2) (nb : dj bMeet wb = true) (nc : dj cMeet wc = true) : rMeet B2 C2 := by
  have a1 : C2 94 42 = C 94 42 := hC.at nc 94 42 rfl
  have a3 : B2 70 3 = B 70 3 := hB.at nb 70 3 rfl
  have a5 : ∀ i, B2 71 i = B 71 i := fun i => hB.at nb 71 i rfl
  have a6 : ∀ i, B2 72 i = B 72 i := fun i => hB.at nb 72 i rfl
  have a7 : ∀ i, B2 73 i = B 73 i := fun i => hB.at nb 73 i rfl
  have b5 : ∀ i, C2 120 i = C 120 i := fun i => hC.at nc 120 i rfl
  have b6 : ∀ i, C2 121 i = C 121 i := fun i => hC.at nc 121 i rfl
  have b7 : ∀ i, C2 122 i = C 122 i := fun i => hC.at nc 122 i rfl
  simp only [rMeet, a1, a3, a5, a6, a7, b5, b6, b7]
  exact h
theorem rImg.fr (h : rImg B C) (hB : Fr wb B B2) (hC : Fr wc C C2) (nb : dj bImg wb = true) (nc : dj cImg wc = true) : rImg B2 C2 := by
  have a1 : C2 94 47 = C 94 47 := hC.at nc 94 47 rfl
  have a2 : C2 94 48 = C 94 48 := hC.at nc 94 48 rfl
  have a3 : C2 94 49 = C 94 49 := hC.at nc 94 49 rfl
  have a4 : B2 83 3 = B 83 3 := hB.at nb 83 3 rfl
  have a5 : B2 83 2 = B 83 2 := hB.at nb 83 2 rfl
  have a6 : B2 84 2 = B 84 2 := hB.at nb 84 2 rfl
  have a7 : B2 20 2 = B 20 2 := hB.at nb 20 2 rfl
  have a8 : B2 54 3 = B 54 3 := hB.at nb 54 3 rfl
  have b1 : ∀ i, B2 85 i = B 85 i := fun i => hB.at nb 85 i rfl
  have b2 : ∀ i, B2 86 i = B 86 i := fun i => hB.at nb 86 i rfl
  have b3 : ∀ i, C2 124 i = C 124 i := fun i => hC.at nc 124 i rfl
  have b4 : ∀ i, C2 125 i = C 125 i := fun i => hC.at nc 125 i rfl
  have b5 : ∀ i, C2 126 i = C 126 i := fun i => hC.at nc 126 i rfl
  have b8 : ∀ i, i < 6 → ∀ j, B2 (88 + i) j = B (88 + i) j := fun i hi j => hB.at nb _ j (inW_rng (lo := 88) (hi := 93) rfl (by omega) (by omega))
  refine ⟨by rw [a1, a4]; exact h.1, fun hn => ?_⟩
  rw [a4] at hn
  obtain ⟨g1, g2, g3, t, n, w, m, g4, g5, g6, g7, g8, g9, g10, g11, g12⟩ := h.2 hn
  refine ⟨by rw [a2, a6]; exact g1, by rw [a3, a5]; exact g2, fun i hi => ?_, t, n, w, m, by rw [a6]; exact g4, by rw [a7]; exact g5, g6, g7, by rw [a5]; exact g8, by rw [a8]; exact g9, g10, g11, fun i j hi hj => ?_⟩
  · simp only [b1, b2, b3, b4]; exact g3 i hi
  · rw [b5, b8 i (by omega)]; exact g12 i j hi hj
theorem rSheet.fr (h : rSheet B C) (hB : Fr wb B B2) (hC : Fr wc C C2) (nb : dj bSheet wb = true) (nc : dj cSheet wc = true) : rSheet B2 C2 := by
  intro s hs
  have a4 : ∀ i, B2 81 i = B 81 i := fun i => hB.at nb 81 i rfl
  have a5 : ∀ i, B2 82 i = B 82 i := fun i => hB.at nb 82 i rfl
  have a1 : ∀ i, C2 127 i = C 127 i := fun i => hC.at nc 127 i rfl
  have a2 : ∀ i, C2 128 i = C 128 i := fun i => hC.at nc 128 i rfl
  have a3 : ∀ i, C2 129 i = C 129 i := fun i => hC.at nc 129 i rfl
  have a6 : ∀ i, B2 (77 + s) i = B (77 + s) i := fun i => hB.at nb _ i (inW_rng (lo := 77) (hi := 82) rfl (by omega) (by omega))
  simp only [a1, a2, a3, a4, a5, a6]
  exact h s hs
/-- what the one may write and nobody sees it; what the reference may -/
abbrev WB : List (Nat × Nat × Option Nat) := [(16, 16, some 9), (16, 16, some 14), (21, 21, none), (22, 22, some 4), (22, 22, some 5), (24, 28, none), (43, 43, none), (47, 53, none), (69, 69, none), (74, 74, none), (94, 130, none)]
abbrev WC : List (Nat × Nat × Option Nat) := [(0, 93, none), (94, 94, some 10), (94, 94, some 11), (94, 94, some 12), (94, 94, some 13), (94, 94, some 14), (94, 94, some 15), (94, 94, some 16), (94, 94, some 25), (94, 94, some 29), (101, 102, none), (108, 112, none), (123, 123, none), (130, 130, none)]
theorem Rel.fr (h : Rel B C) (hB : Fr WB B B2) (hC : Fr WC C C2) : Rel B2 C2 := by
  obtain ⟨h1, h2, h3, h4, h5, h6, h7, h8, h9, h10⟩ := h
  exact ⟨h1.fr hB hC rfl rfl, h2.fr hB hC rfl rfl, h3.fr hB hC rfl rfl, h4.fr hB hC rfl rfl, h5.fr hB hC rfl rfl, h6.fr hB hC rfl rfl, h7.fr hB hC rfl rfl, h8.fr hB hC rfl rfl, h9.fr hB hC rfl rfl, h10.fr hB hC rfl rfl⟩
theorem Rel.sc {α β : Type} {b : α → jA3} {c : β → jA3} {x : Option α} {y : Option β} {Q : α → β → Prop} (h : Rel B C) (hs : Sim Q x y) (hB : ∀ z, x = some z → Fr WB B (b z)) (hC : ∀ z, y = some z → Fr WC C (c z)) : Sim (fun u v => Q u v ∧ Rel (b u) (c v)) x y := by
  obtain ⟨u, v, e1, e2, q⟩ := hs
  exact ⟨u, v, e1, e2, q, h.fr (hB u e1) (hC v e2)⟩
