/-! THE LAW: one turn of its loop -/
abbrev VB : List (Nat × Nat × Option Nat) := [(16, 16, some 9), (16, 16, some 14), (21, 21, none), (22, 22, some 4), (22, 22, some 5), (24, 28, none), (43, 43, none), (47, 53, none), (69, 69, none), (74, 74, none)]
abbrev VC : List (Nat × Nat × Option Nat) := [(94, 94, some 10), (94, 94, some 11), (94, 94, some 12), (94, 94, some 13), (94, 94, some 14), (94, 94, some 15), (94, 94, some 16), (94, 94, some 25), (94, 94, some 29), (101, 102, none), (108, 112, none), (123, 123, none), (130, 130, none)]
variable {γ β α : Type} {A : jA3} {f : Option γ} {g : jA3 → Option β} {fv : γ → α} {gv : β → α}
theorem pair_mut (fm : γ → jA3) (gm : jA3 → β → jA3) (h : Rel A A) (m : ∀ C, Rel A C → Sim (fun x y => fv x = gv y ∧ Rel (fm x) (gm C y)) f (g C)) (w1 : ∀ z, f = some z → Fr [(15, 93, none)] A (fm z)) (w2 : ∀ C z, g C = some z → Fr [(94, 130, none)] C (gm C z)) : ∃ x y, f = some x ∧ g (fm x) = some y ∧ fv x = gv y ∧ Rel (gm (fm x) y) (gm (fm x) y) ∧ fm x 0 = A 0 := by
  obtain ⟨x, -, e1, -, -⟩ := m A h
  have f1 := w1 x e1
  obtain ⟨x2, y, e2, e3, q1, q2⟩ := m (fm x) (h.fr Fr.rf (f1.wd rfl))
  rw [e1] at e2
  obtain rfl := Option.some.inj e2
  exact ⟨x, y, e1, e3, q1, q2.fr ((w2 _ _ e3).wd rfl) Fr.rf, funext fun j => f1 0 j rfl⟩
theorem pair_scr (fm : γ → jA3) (gm : jA3 → β → jA3) (h : Rel A A) (m : ∀ C, Rel A C → Sim (fun x y => fv x = gv y) f (g C)) (w1 : ∀ z, f = some z → Fr VB A (fm z)) (w2 : ∀ C z, g C = some z → Fr VC C (gm C z)) : ∃ x y, f = some x ∧ g (fm x) = some y ∧ fv x = gv y ∧ Rel (gm (fm x) y) (gm (fm x) y) ∧ fm x 0 = A 0 := by
  obtain ⟨x, -, e1, -, -⟩ := m A h
  have f1 := w1 x e1
  have r1 : Rel A (fm x) := h.fr Fr.rf (f1.wd rfl)
  obtain ⟨x2, y, e2, e3, q1⟩ := m (fm x) r1
  rw [e1] at e2
  obtain rfl := Option.some.inj e2
  have f2 := w2 _ _ e3
  have r2 : Rel (fm x) (gm (fm x) y) := r1.fr (f1.wd rfl) (f2.wd rfl)
  exact ⟨x, y, e1, e3, q1, r2.fr (f2.wd rfl) Fr.rf, funext fun j => f1 0 j rfl⟩
/-- the law's walk at pc, with its counter i -/
def WL (n pc i : Nat) (A : jA3) (L : jL3) : Prop := jWP (jEv jtab 1000) (fun r M => r = some (.int 1) ∧ M.1 = Sh0 n) ((Sh0 n).length, jsl (Sh0 n)) pL_law pc [some (.ref 0), some (.ref 15), some (.ref 94), some (.int (nI i))] [] (Sh0 n, A, L)
theorem vi {n i k : Nat} {x : Int32} (e : x = nI k) (hk : i + k < n) (hn : n ≤ 3584) : vp_in (nI i + x) n := by
  rw [e, nI_add]
  exact vp_in_nI hk (by omega)
