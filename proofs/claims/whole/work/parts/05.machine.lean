/-! THE SMALL MACHINE: what a method of ours does to a heap of fixed kinds of cells, its ints as functions. References are numbers of cells. -/
def jn {α : Type} : List α → Nat → Option α
  | [], _ => none
  | a :: _, 0 => some a
  | _ :: l, n + 1 => jn l n
theorem jn_eq {α : Type} : ∀ (l : List α) (n : Nat), jn l n = l[n]?
  | [], _ => by simp [jn]
  | _ :: _, 0 => by simp [jn]
  | _ :: l, n + 1 => by simp [jn, jn_eq l n]
abbrev jL : Type := List (Option Value)
/-- a cell's kind: an array of numbers (its type, its length), an array of rows (length, which cell each is), an object (its class, its fields: a number, a long, or the cell that it refers to) -/
abbrev jS : Type := (FieldType × Nat) ⊕ ((Nat × (Nat → Option Nat)) ⊕ (Nat × List Value))
abbrev jM : Type := List jS × (Nat → Nat → Int32) × (Nat → Nat → Int64)
abbrev jK : Type := jL → List Value → jM → Prop
/-- what a call does: which method, its arguments, the heap, how many cells and places come, what holds behind it -/
abbrev jE : Type := Nat → List Value → jM → Nat → Nat → (Option Value → jM → Prop) → Prop
abbrev jX : Type := jE × (Nat → jK) × (Option Value → jM → Prop) × (Nat × Nat)
/-- how many cells of the start nobody writes: the script, the tables, the texts -/
abbrev jR : Nat := 15
def jt (ad : Nat → Nat) : Value → Value
  | .ref k => .ref (ad k)
  | v => v
theorem jt_cat (ad : Nat → Nat) (v : Value) : (jt ad v).category = v.category := by cases v <;> rfl
def jfv (v : Value) (x : Int32) (y : Int64) : Value := match v with
  | .int _ => .int x
  | .long _ => .long y
  | v => v
def jfs (ad : Nat → Nat) (f : Nat → Int32) (g : Nat → Int64) : List Value → Nat → List Value
  | [], _ => []
  | v :: l, j => jt ad (jfv v (f j) (g j)) :: jfs ad f g l (j + 1)
theorem jfs_get (ad : Nat → Nat) (f : Nat → Int32) (g : Nat → Int64) : ∀ (l : List Value) (j k : Nat), (jfs ad f g l j)[k]? = (l[k]?).map (fun v => jt ad (jfv v (f (j + k)) (g (j + k))))
  | [], _, _ => by simp [jfs]
  | _ :: _, _, 0 => by simp [jfs]
  | _ :: l, j, k + 1 => by
    simp only [jfs, List.getElem?_cons_succ]
    rw [jfs_get ad f g l (j + 1) k, show j + 1 + k = j + (k + 1) by omega]
theorem jfs_len (ad : Nat → Nat) (f : Nat → Int32) (g : Nat → Int64) : ∀ (l : List Value) (j : Nat), (jfs ad f g l j).length = l.length
  | [], _ => rfl
  | _ :: l, j => by simp [jfs, jfs_len ad f g l (j + 1)]
def jcell (ad : Nat → Nat) (cT : FieldType → ClassId) (sh : jS) (f : Nat → Int32) (g : Nat → Int64) : va_E := match sh with
  | .inl (.long, n) => .inl (cT .long, n, .inr (.inl g))
  | .inl (ty, n) => .inl (cT ty, n, .inl f)
  | .inr (.inl (n, h)) => .inl (cT (.array .int), n, .inr (.inr (.inr (.inr (fun i => (h i).map ad)))))
  | .inr (.inr (ci, fs)) => .inr (ci, jfs ad f g fs 0)
/-- places of a cell -/
def jz1 : jS → Nat
  | .inl (_, n) => n
  | .inr (.inl (n, _)) => n
  | .inr (.inr (_, fs)) => fs.length
def jsl : List jS → Nat
  | [] => 0
  | a :: l => jz1 a + jsl l
theorem jsl_app : ∀ (a b : List jS), jsl (a ++ b) = jsl a + jsl b
  | [], b => by simp [jsl]
  | x :: a, b => by simp [jsl, jsl_app a b, Nat.add_assoc]
theorem jsl_set : ∀ (l : List jS) (k : Nat) (x y : jS), l[k]? = some x → jz1 y = jz1 x → jsl (l.set k y) = jsl l
  | [], _, _, _, h, _ => by simp at h
  | a :: l, 0, x, y, h, e => by
    simp at h
    subst h
    simp [jsl, e]
  | a :: l, k + 1, x, y, h, e => by
    simp at h
    simp [jsl, jsl_set l k x y h e]
/-- the world's cells, in their order; the address of the cell k (behind those that nobody writes) is base and k -/
def jw (ad : Nat → Nat) (cT : FieldType → ClassId) (M : jM) : va_W := (List.range (M.1.length - jR)).map (fun i => (ad (jR + i), jcell ad cT (M.1.getD (jR + i) (.inl (.int, 0))) (M.2.1 (jR + i)) (M.2.2 (jR + i))))
theorem jw_get {ad : Nat → Nat} {cT : FieldType → ClassId} {M : jM} {k : Nat} {sh : jS} (hk : jR ≤ k) (h : jn M.1 k = some sh) : (jw ad cT M)[k - jR]? = some (ad k, jcell ad cT sh (M.2.1 k) (M.2.2 k)) := by
  rw [jn_eq] at h
  have hl : k < M.1.length := (List.getElem?_eq_some_iff.mp h).1
  unfold jw
  rw [List.getElem?_map, List.getElem?_range (by omega)]
  simp only [Option.map_some, show jR + (k - jR) = k by omega]
  rw [List.getD_eq_getElem?_getD, h]
  rfl
theorem jw_len (ad : Nat → Nat) (cT : FieldType → ClassId) (M : jM) : (jw ad cT M).length = M.1.length - jR := by simp [jw]
theorem jw_some {ad : Nat → Nat} {cT : FieldType → ClassId} {M : jM} {i : Nat} {q : Nat × va_E} (h : (jw ad cT M)[i]? = some q) : i < M.1.length - jR ∧ q.1 = ad (jR + i) := by
  have hl : i < M.1.length - jR := by
    have := (List.getElem?_eq_some_iff.mp h).1
    rwa [jw_len] at this
  refine ⟨hl, ?_⟩
  unfold jw at h
  rw [List.getElem?_map, List.getElem?_range hl] at h
  cases h
  rfl
theorem ju_same {α : Type} (f : Nat → α) (k : Nat) (v : α) : va_up f k v k = v := by simp [va_up]
theorem ju_ne {α : Type} (f : Nat → α) {k j : Nat} (v : α) (h : j ≠ k) : va_up f k v j = f j := by simp [va_up, h]
theorem ju_self {α : Type} (f : Nat → α) (k : Nat) : va_up f k (f k) = f := by
  funext j
  by_cases h : j = k
  · subst h; simp [va_up]
  · simp [va_up, h]
/-- a cell is written -/
theorem jw_set {ad : Nat → Nat} {cT : FieldType → ClassId} {M : jM} {k : Nat} {sh sh2 : jS} {f : Nat → Int32} {g : Nat → Int64} (hk : jR ≤ k) (h : jn M.1 k = some sh) : (jw ad cT M).set (k - jR) (ad k, jcell ad cT sh2 f g) = jw ad cT (M.1.set k sh2, va_up M.2.1 k f, va_up M.2.2 k g) := by
  rw [jn_eq] at h
  have hl : k < M.1.length := (List.getElem?_eq_some_iff.mp h).1
  apply List.ext_getElem?
  intro i
  by_cases hi : i < M.1.length - jR
  · by_cases e : i = k - jR
    · subst e
      rw [List.getElem?_set_self (by rw [jw_len]; exact hi)]
      unfold jw
      rw [List.getElem?_map, List.getElem?_range (by simp only [List.length_set]; exact hi)]
      simp only [Option.map_some, show jR + (k - jR) = k by omega]
      rw [List.getD_eq_getElem?_getD, List.getElem?_set_self hl, ju_same, ju_same]
      rfl
    · rw [List.getElem?_set_ne (fun q => e q.symm)]
      unfold jw
      rw [List.getElem?_map, List.getElem?_map, List.getElem?_range hi, List.getElem?_range (by simp only [List.length_set]; exact hi)]
      simp only [Option.map_some]
      have hne : jR + i ≠ k := by omega
      rw [ju_ne _ _ hne, ju_ne _ _ hne, List.getD_eq_getElem?_getD, List.getD_eq_getElem?_getD, List.getElem?_set_ne (fun q => hne q.symm)]
  · rw [List.getElem?_eq_none (by rw [List.length_set, jw_len]; omega), List.getElem?_eq_none (by rw [jw_len]; simp only [List.length_set]; omega)]
/-- a cell comes -/
theorem jw_push {ad : Nat → Nat} {cT : FieldType → ClassId} {M : jM} {sh : jS} {f : Nat → Int32} {g : Nat → Int64} (hR : jR ≤ M.1.length) : jw ad cT M ++ [(ad M.1.length, jcell ad cT sh f g)] = jw ad cT (M.1 ++ [sh], va_up M.2.1 M.1.length f, va_up M.2.2 M.1.length g) := by
  apply List.ext_getElem?
  intro i
  by_cases hi : i < M.1.length - jR
  · rw [List.getElem?_append_left (by rw [jw_len]; exact hi)]
    unfold jw
    rw [List.getElem?_map, List.getElem?_map, List.getElem?_range hi, List.getElem?_range (by simp only [List.length_append, List.length_singleton]; omega)]
    simp only [Option.map_some]
    have hne : jR + i ≠ M.1.length := by omega
    rw [ju_ne _ _ hne, ju_ne _ _ hne, List.getD_eq_getElem?_getD, List.getD_eq_getElem?_getD, List.getElem?_append_left (by omega)]
  · by_cases e : i = M.1.length - jR
    · subst e
      rw [List.getElem?_append_right (by rw [jw_len]; exact Nat.le_refl _), jw_len, Nat.sub_self]
      unfold jw
      rw [List.getElem?_map, List.getElem?_range (by simp only [List.length_append, List.length_singleton]; omega)]
      simp only [Option.map_some, show jR + (M.1.length - jR) = M.1.length by omega]
      rw [List.getD_eq_getElem?_getD, List.getElem?_append_right (Nat.le_refl _), Nat.sub_self, ju_same, ju_same]
      rfl
    · rw [List.getElem?_eq_none (by rw [List.length_append, jw_len, List.length_singleton]; omega), List.getElem?_eq_none (by rw [jw_len]; simp only [List.length_append, List.length_singleton]; omega)]
/-! locals -/
def jas : Nat → jL → List (Nat × Value)
  | _, [] => []
  | k, none :: l => jas (k + 1) l
  | k, some v :: l => (k, v) :: jas (k + 1) l
theorem jas_mem : ∀ (l : jL) (k j : Nat) (w : Value), (j, w) ∈ jas k l ↔ ∃ i, j = k + i ∧ l[i]? = some (some w)
  | [], k, j, w => by simp [jas]
  | none :: l, k, j, w => by
    simp only [jas]
    rw [jas_mem l (k + 1) j w]
    constructor
    · rintro ⟨i, h1, h2⟩
      exact ⟨i + 1, by omega, by simpa using h2⟩
    · rintro ⟨i, h1, h2⟩
      cases i with
      | zero => simp at h2
      | succ i => exact ⟨i, by omega, by simpa using h2⟩
  | some v :: l, k, j, w => by
    simp only [jas, List.mem_cons, Prod.mk.injEq]
    rw [jas_mem l (k + 1) j w]
    constructor
    · rintro (⟨h1, h2⟩ | ⟨i, h1, h2⟩)
      · exact ⟨0, by omega, by simp [h2]⟩
      · exact ⟨i + 1, by omega, by simpa using h2⟩
    · rintro ⟨i, h1, h2⟩
      cases i with
      | zero => exact Or.inl ⟨by omega, by simpa using h2.symm⟩
      | succ i => exact Or.inr ⟨i, by omega, by simpa using h2⟩
/-- the machine's locals hold ours -/
def jlv (ad : Nat → Nat) (la : Array Slot) (nL : Nat) (ls : jL) : Prop := ls.length = nL ∧ lv_has la nL (jas 0 (ls.map (Option.map (jt ad))))
theorem jlv.at {ad : Nat → Nat} {la : Array Slot} {nL : Nat} {ls : jL} (h : jlv ad la nL ls) {i : Nat} {v : Value} (hi : jn ls i = some (some v)) : la[i]? = some (.val (jt ad v)) := by
  rw [jn_eq] at hi
  exact h.2.2.2 (i, jt ad v) ((jas_mem _ _ _ _).mpr ⟨i, by omega, by simp [hi]⟩)
theorem jlv.weak {ad : Nat → Nat} {la : Array Slot} {nL : Nat} {ls2 : jL} {lv : List (Nat × Value)} (hn : ls2.length = nL) (h : lv_has la nL lv) (hs : ∀ (i : Nat) (v : Value), ls2[i]? = some (some v) → (i, jt ad v) ∈ lv) : jlv ad la nL ls2 := by
  refine ⟨hn, h.1, h.2.1, fun q hq => ?_⟩
  obtain ⟨j, w⟩ := q
  obtain ⟨i, h1, h2⟩ := (jas_mem _ _ _ _).mp hq
  have hj : j = i := by omega
  subst hj
  rw [List.getElem?_map] at h2
  cases h3 : ls2[j]? with
  | none => rw [h3] at h2; simp at h2
  | some o =>
    rw [h3] at h2
    cases o with
    | none => simp at h2
    | some v =>
      simp at h2
      subst h2
      exact h.2.2 _ (hs j v h3)
def jc1 : Option Value → Option Value
  | some (.long _) => none
  | some (.double _) => none
  | o => o
/-- a value of one word is kept -/
def js1 : jL → Nat → Value → jL
  | [], _, _ => []
  | _ :: l, 0, v => some v :: l
  | [a], 1, _ => [jc1 a]
  | a :: _ :: l, 1, v => jc1 a :: some v :: l
  | a :: l, n + 2, v => a :: js1 l (n + 1) v
theorem js1_len : ∀ (l : jL) (i : Nat) (v : Value), (js1 l i v).length = l.length
  | [], 0, _ => rfl
  | [], 1, _ => rfl
  | [], _ + 2, _ => rfl
  | _ :: _, 0, _ => rfl
  | [_], 1, _ => rfl
  | _ :: _ :: _, 1, _ => rfl
  | _ :: l, n + 2, v => by simp [js1, js1_len l (n + 1) v]
theorem js1_get : ∀ (l : jL) (i : Nat) (v w : Value) (j : Nat), (js1 l i v)[j]? = some (some w) → (j = i ∧ w = v) ∨ (j ≠ i ∧ l[j]? = some (some w) ∧ (j + 1 = i → ¬ w.category = 2))
  | [], 0, _, _, _, h => by simp [js1] at h
  | [], 1, _, _, _, h => by simp [js1] at h
  | [], _ + 2, _, _, _, h => by simp [js1] at h
  | a :: l, 0, v, w, j, h => by
    cases j with
    | zero => simp [js1] at h; exact Or.inl ⟨rfl, h.symm⟩
    | succ j => simp [js1] at h; exact Or.inr ⟨by omega, by simpa using h, fun q => by omega⟩
  | [a], 1, v, w, j, h => by
    cases j with
    | zero =>
      simp [js1] at h
      refine Or.inr ⟨by omega, ?_, fun _ => ?_⟩
      · cases a with
        | none => simp [jc1] at h
        | some a => cases a <;> simp [jc1] at h <;> simp [h]
      · cases a with
        | none => simp [jc1] at h
        | some a => cases a <;> simp [jc1] at h <;> (subst h; simp [Value.category])
    | succ j => simp [js1] at h
  | a :: b :: l, 1, v, w, j, h => by
    cases j with
    | zero =>
      simp [js1] at h
      refine Or.inr ⟨by omega, ?_, fun _ => ?_⟩
      · cases a with
        | none => simp [jc1] at h
        | some a => cases a <;> simp [jc1] at h <;> simp [h]
      · cases a with
        | none => simp [jc1] at h
        | some a => cases a <;> simp [jc1] at h <;> (subst h; simp [Value.category])
    | succ j =>
      cases j with
      | zero => simp [js1] at h; exact Or.inl ⟨rfl, h.symm⟩
      | succ j => simp [js1] at h; exact Or.inr ⟨by omega, by simpa using h, fun q => by omega⟩
  | a :: l, n + 2, v, w, j, h => by
    cases j with
    | zero => simp [js1] at h; exact Or.inr ⟨by omega, by simp [h], fun q => by omega⟩
    | succ j =>
      simp [js1] at h
      rcases js1_get l (n + 1) v w j h with ⟨h1, h2⟩ | ⟨h1, h2, h3⟩
      · exact Or.inl ⟨by omega, h2⟩
      · exact Or.inr ⟨by omega, by simpa using h2, fun q => h3 (by omega)⟩
