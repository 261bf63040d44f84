/-! CONTRACTS: figures; other loops -/
theorem jforO {α : Type} {E : jE} {Rt : Option Value → jM → Prop} {cap : Nat × Nat} {pr : jX → Nat → jK} {h : Nat} (ls : Int32 → α → jL) (M : α → jM) (g : Nat → α → α) (i0 N : Nat) (a0 : α)
    (hx : jWP E Rt cap pr h (ls (nI (i0 + N)) (jit g N a0)) [] (M (jit g N a0)))
    (hs : ∀ i a, i < N → jWP E Rt cap pr h (ls (nI (i0 + i) + 1) (g i a)) [] (M (g i a)) → jWP E Rt cap pr h (ls (nI (i0 + i)) a) [] (M a)) : jWP E Rt cap pr h (ls (nI i0) a0) [] (M a0) := by
  have key : ∀ m i, i + m = N → jWP E Rt cap pr h (ls (nI (i0 + i)) (jit g i a0)) [] (M (jit g i a0)) := by
    intro m
    induction m with
    | zero => intro i hi; rw [show i = N by omega]; exact hx
    | succ m ih =>
      intro i hi
      refine hs i _ (by omega) ?_
      have := ih (i + 1) (by omega)
      rw [show i0 + (i + 1) = i0 + i + 1 by omega, ← nI_1 (i0 + i)] at this
      exact this
  exact key N 0 (by omega)
theorem jforE {E : jE} {Rt : Option Value → jM → Prop} {cap : Nat × Nat} {pr : jX → Nat → jK} {h : Nat} (ls : Int32 → jL) (M : jM) (c : Nat → Prop) (N : Nat) (hx : (∀ i, i < N → c i) → jWP E Rt cap pr h (ls (nI N)) [] M)
    (hs : ∀ i, i < N → (∀ j, j < i → c j) → (c i → jWP E Rt cap pr h (ls (nI i + 1)) [] M) → jWP E Rt cap pr h (ls (nI i)) [] M) : jWP E Rt cap pr h (ls 0) [] M := by
  have key : ∀ m i, i + m = N → (∀ j, j < i → c j) → jWP E Rt cap pr h (ls (nI i)) [] M := by
    intro m
    induction m with
    | zero => intro i hi hc; rw [show i = N by omega]; exact hx (fun j hj => hc j (by omega))
    | succ m ih =>
      intro i hi hc
      refine hs i (by omega) hc (fun hci => ?_)
      have := ih (i + 1) (by omega) (fun j hj => if e : j = i then e ▸ hci else hc j (by omega))
      rw [← nI_1 i] at this
      exact this
  exact key N 0 (by omega) (fun j hj => absurd hj (by omega))
theorem jnc {N : Nat} (h : N < 100000) : jnat (nI N) N := ⟨rfl, h⟩
/-- the figure at a place -/
def f_fig (x : Int32) (p : Nat) : Int32 := jit (fun _ a => a / 10) (3 - p) x - jit (fun _ a => a / 10) (3 - p) x / 10 * 10
theorem kX9_figure (d n : Nat) (A : Nat → Nat → Int32) (L : Nat → Nat → Int64) (x pl : Int32) (hp : vp_in pl 4) : jEv jtab (d + 1) 105 [.int x, .int pl] (Sh0 n, A, L) 0 0 (fun r M2 => r = some (.int (f_fig x pl.toNatClampNeg)) ∧ M2 = (Sh0 n, A, L)) := by
  obtain ⟨p, hp4, rfl⟩ := vp_in_of hp (by decide)
  rw [show (nI p).toNatClampNeg = p from nI_clamp (by omega)]
  refine jEv.mk (mt := mX9_figure) rfl (Nat.le_of_ble_eq_true rfl) ?_
  refine jWP.intro (pr := pX9_figure) (pc := 0) ?_
  refine y_mask <| x_iload rfl <| x_istore rfl <| x_iload rfl <| x_push <| x_iadd <| x_istore rfl <| y_mask <| y_goto ?_
  rw [nI_1 p]
  refine jforO (fun i a => [none, none, some (.int a), some (.int i)]) (fun _ => (Sh0 n, A, L)) (fun _ a => a / 10) (p + 1) (3 - p) x ?_ (fun i a hi hn => ?_)
  · -- end
    refine jWP.intro (pr := pX9_figure) (pc := 6) ?_
    refine y_mask <| x_iload rfl <| x_push <| y_cmp_ge (fun h1 => ?_) (fun h1 => ?_)
    · refine jWP.intro (pr := pX9_figure) (pc := 22) ?_
      refine y_mask <| x_iload rfl <| x_push <| x_irem (by decide) <| y_ireturn (ls := []) ?_
      exact ⟨trivial, jCn.mk ⟨rfl, rfl⟩⟩ -- return  h1+
    · exact absurd (jnc (N := 4) (by decide)).le (by rw [show p + 1 + (3 - p) = 4 by omega] at h1; exact h1)
  · -- step
    refine jWP.intro (pr := pX9_figure) (pc := 6) ?_
    refine y_mask <| x_iload rfl <| x_push <| y_cmp_ge (fun h1 => ?_) (fun h1 => ?_)
    · exact absurd h1 ((jnc (N := 4) (by decide)).ge (by omega))
    · refine jWP.intro (pr := pX9_figure) (pc := 11) ?_
      refine y_mask <| x_iload rfl <| x_push <| x_idiv (by decide) <| x_istore rfl <| x_iinc rfl rfl <| y_mask <| y_goto ?_
      exact hn -- goto 6  h1-

/-- are the figures of v those of h where they were heard -/
def okf (v h w : Int32) (i : Nat) : Prop := (w >>> (nI i &&& 31)) &&& 1 = 0 ∨ f_fig v i = f_fig h i
theorem jall4 {c : Nat → Prop} (h : ∀ i, i < 4 → c i) : c 0 ∧ c 1 ∧ c 2 ∧ c 3 := ⟨h 0 (by omega), h 1 (by omega), h 2 (by omega), h 3 (by omega)⟩
theorem jall4n {c : Nat → Prop} {i : Nat} (hi : i < 4) (h : ¬ c i) : ¬ (c 0 ∧ c 1 ∧ c 2 ∧ c 3) := by
  rintro ⟨h0, h1, h2, h3⟩
  rcases (show i = 0 ∨ i = 1 ∨ i = 2 ∨ i = 3 by omega) with rfl | rfl | rfl | rfl <;> contradiction
def okf4 (v h w : Int32) : Prop := okf v h w 0 ∧ okf v h w 1 ∧ okf v h w 2 ∧ okf v h w 3
noncomputable def jB (c : Prop) : Int32 := @ite Int32 c (Classical.propDecidable c) 1 0
theorem jB_t {c : Prop} (h : c) : jB c = 1 := if_pos h
theorem jB_f {c : Prop} (h : ¬ c) : jB c = 0 := if_neg h
theorem jB_ok (c : Prop) : narrow .boolean (.int (jB c)) = .int (jB c) := by
  by_cases h : c
  · rw [jB_t h]; rfl
  · rw [jB_f h]; rfl
theorem jB_0 {c : Prop} : jB c = 0 ↔ ¬ c := by
  by_cases h : c
  · rw [jB_t h]; simp [h]
  · rw [jB_f h]; simp [h]
theorem jb_B {c : Prop} [Decidable c] : jb c = jB c := by
  by_cases h : c
  · rw [jb_t h, jB_t h]
  · rw [jb_f h, jB_f h]
theorem kX9_fits (d n : Nat) (A : Nat → Nat → Int32) (L : Nat → Nat → Int64) (v h w : Int32) : jEv jtab (d + 2) 104 [.int v, .int h, .int w] (Sh0 n, A, L) 0 0 (fun r M2 => r = some (.int (jB (okf4 v h w))) ∧ M2 = (Sh0 n, A, L)) := by
  refine jEv.mk (mt := mX9_fits) rfl (Nat.le_of_ble_eq_true rfl) ?_
  refine jWP.intro (pr := pX9_fits) (pc := 0) ?_
  refine y_mask <| x_push <| x_istore rfl <| y_mask <| y_goto ?_
  refine jforE (fun i => [some (.int v), some (.int h), some (.int w), some (.int i)]) (Sh0 n, A, L) (okf v h w) 4 (fun hc => ?_) (fun i hi hc hn => ?_)
  · -- end
    refine jWP.intro (pr := pX9_fits) (pc := 2) ?_
    refine y_mask <| x_iload rfl <| x_push <| y_cmp_ge (fun h1 => ?_) (fun h1 => ?_)
    · refine jWP.intro (pr := pX9_fits) (pc := 36) ?_
      refine y_mask <| x_push <| y_ireturn (ls := []) ?_
      exact ⟨by first | rfl | exact jB_ok _, jCn.mk ⟨congrArg (fun z => some (Value.int z)) ((jB_t (jall4 hc)).symm), rfl⟩⟩ -- return  h1+
    · exact absurd (jnc (N := 4) (by decide)).le h1
  · -- step
    have hci : (nI i).toNatClampNeg = i := nI_clamp (by omega)
    refine jWP.intro (pr := pX9_fits) (pc := 2) ?_
    refine y_mask <| x_iload rfl <| x_push <| y_cmp_ge (fun h1 => ?_) (fun h1 => ?_)
    · exact absurd h1 ((jnc (N := 4) (by decide)).ge hi)
    · refine jWP.intro (pr := pX9_fits) (pc := 7) ?_
      refine y_mask <| x_iload rfl <| x_iload rfl <| x_ishr <| x_push <| x_iand <| y_if_eq (fun h2 => ?_) (fun h2 => ?_)
      · refine jWP.intro (pr := pX9_fits) (pc := 30) ?_
        refine y_mask <| x_iinc rfl rfl <| y_mask <| y_goto ?_
        exact hn (Or.inl h2) -- goto 2  h1- h2+
      · refine jWP.intro (pr := pX9_fits) (pc := 15) ?_
        refine y_mask <| x_iload rfl <| x_iload rfl <| y_invS2 (Nat.le_of_ble_eq_true rfl) <| jEv.exI (kX9_figure _ _ _ _ _ _ ?_) <| x_iload rfl <| x_iload rfl <| y_invS2 (Nat.le_of_ble_eq_true rfl) <| jEv.exI (kX9_figure _ _ _ _ _ _ ?_) <| y_cmp_eq (fun h3 => ?_) (fun h3 => ?_)
        · exact vpn hi (by decide) -- hyp0 of kX9_figure 17  h1- h2-
        · exact vpn hi (by decide) -- hyp0 of kX9_figure 22  h1- h2-
        · refine jWP.intro (pr := pX9_fits) (pc := 30) ?_
          refine y_mask <| x_iinc rfl rfl <| y_mask <| y_goto ?_
          rw [hci] at h3
          exact hn (Or.inr h3)
        · refine jWP.intro (pr := pX9_fits) (pc := 28) ?_
          refine y_mask <| x_push <| y_ireturn (ls := []) ?_
          rw [hci] at h3
          exact ⟨by first | rfl | exact jB_ok _, jCn.mk ⟨congrArg (fun z => some (Value.int z)) ((jB_f (jall4n hi (fun z => z.elim h2 h3))).symm), rfl⟩⟩

noncomputable def g_fit (A : Nat → Nat → Int32) (h w : Int32) (i : Nat) (a : Int32) : Int32 := if jB (okf4 (A 55 i) h w) = 0 then a else a ||| (1 : Int32) <<< (nI i &&& 31)
noncomputable def f_fit (A : Nat → Nat → Int32) (h w : Int32) (N : Nat) : Int32 := jit (g_fit A h w) N 0
theorem kX9_fitting (d n : Nat) (A : Nat → Nat → Int32) (L : Nat → Nat → Int64) (h w : Int32) (N : Nat) (hN : jnat (A 54 3) N) (hN6 : N ≤ 6) : jEv jtab (d + 3) 103 [.ref 54, .int h, .int w] (Sh0 n, A, L) 0 0 (fun r M2 => r = some (.int (f_fit A h w N)) ∧ M2 = (Sh0 n, A, L)) := by
  refine jEv.mk (mt := mX9_fitting) rfl (Nat.le_of_ble_eq_true rfl) ?_
  refine jWP.intro (pr := pX9_fitting) (pc := 0) ?_
  refine y_mask <| x_push <| x_istore rfl <| x_push <| x_istore rfl <| y_mask <| y_goto ?_
  refine jfor (fun i a => [some (.ref 54), some (.int h), some (.int w), some (.int a), some (.int i)]) (fun a => (Sh0 n, A, L)) (g_fit A h w) N 0 ?_ (fun i a hi hn => ?_)
  · -- end
    refine jWP.intro (pr := pX9_fitting) (pc := 5) ?_
    refine y_mask <| x_iload rfl <| x_aload rfl <| x_getI (Nat.le_of_ble_eq_true rfl) rfl rfl <| y_cmp_ge (fun h1 => ?_) (fun h1 => ?_)
    · refine jWP.intro (pr := pX9_fitting) (pc := 42) ?_
      refine y_mask <| x_iload rfl <| y_ireturn (ls := []) ?_
      exact ⟨trivial, jCn.mk ⟨rfl, rfl⟩⟩ -- return  h1+
    · exact absurd hN.le h1
  · -- step
    have hci : (nI i).toNatClampNeg = i := nI_clamp (by have := hN.2; omega)
    refine jWP.intro (pr := pX9_fitting) (pc := 5) ?_
    refine y_mask <| x_iload rfl <| x_aload rfl <| x_getI (Nat.le_of_ble_eq_true rfl) rfl rfl <| y_cmp_ge (fun h1 => ?_) (fun h1 => ?_)
    · exact absurd h1 (hN.ge hi)
    · refine jWP.intro (pr := pX9_fitting) (pc := 14) ?_
      refine y_mask <| x_aload rfl <| x_getR (Nat.le_of_ble_eq_true rfl) rfl rfl <| x_iload rfl <| x_iald rfl ?_ <| x_iload rfl <| x_iload rfl <| y_invS3 (Nat.le_of_ble_eq_true rfl) <| jEv.exI (kX9_fits _ _ _ _ _ _ _) <| y_if_eq (fun h2 => ?_) (fun h2 => ?_)
      · exact vpn2 hN hi hN6 -- index 20 of ('r', 55)  h1-
      · refine jWP.intro (pr := pX9_fitting) (pc := 36) ?_
        refine y_mask <| x_iinc rfl rfl <| y_mask <| y_goto ?_
        rw [hci] at h2
        rw [g_fit, if_pos h2] at hn
        exact hn
      · refine jWP.intro (pr := pX9_fitting) (pc := 29) ?_
        refine y_mask <| x_iload rfl <| x_push <| x_iload rfl <| x_ishl <| x_ior <| x_istore rfl <| y_mask <| y_goto ?_
        refine jWP.intro (pr := pX9_fitting) (pc := 36) ?_
        refine y_mask <| x_iinc rfl rfl <| y_mask <| y_goto ?_
        rw [hci] at h2
        rw [g_fit, if_neg h2] at hn
        exact hn

def g_alk (A : Nat → Nat → Int32) (l : Int32) (p f : Nat) (w : Nat) (a : Int32) : Int32 := if (l >>> (nI w &&& 31)) &&& 1 = 0 then a else if ¬ f_fig (A 55 w) p = nI f then a else a + 1
def g_mal (A : Nat → Nat → Int32) (l : Int32) (p N : Nat) (f : Nat) (a : Int32) : Int32 := if a < jit (g_alk A l p f) N 0 then jit (g_alk A l p f) N 0 else a
def f_mal (A : Nat → Nat → Int32) (l : Int32) (p N : Nat) : Int32 := jit (g_mal A l p N) 10 0
theorem kX9_mostAlike (d n : Nat) (A : Nat → Nat → Int32) (L : Nat → Nat → Int64) (l pl : Int32) (N : Nat) (hN : jnat (A 54 3) N) (hN6 : N ≤ 6) (hp : vp_in pl 4) : jEv jtab (d + 2) 106 [.ref 54, .int l, .int pl] (Sh0 n, A, L) 0 0 (fun r M2 => r = some (.int (f_mal A l pl.toNatClampNeg N)) ∧ M2 = (Sh0 n, A, L)) := by
  refine jEv.mk (mt := mX9_mostAlike) rfl (Nat.le_of_ble_eq_true rfl) ?_
  have h10 : jnat 10 10 := ⟨rfl, by decide⟩
  refine jWP.intro (pr := pX9_mostAlike) (pc := 0) ?_
  refine y_mask <| x_push <| x_istore rfl <| x_push <| x_istore rfl <| y_mask <| y_goto ?_
  refine jfor (fun i a => [some (.ref 54), some (.int l), some (.int pl), some (.int a), some (.int i), none, none]) (fun a => (Sh0 n, A, L)) (g_mal A l pl.toNatClampNeg N) 10 0 ?_ (fun i a hi hn => ?_)
  · -- end
    refine jWP.intro (pr := pX9_mostAlike) (pc := 5) ?_
    refine y_mask <| x_iload rfl <| x_push <| y_cmp_ge (fun h1 => ?_) (fun h1 => ?_)
    · refine jWP.intro (pr := pX9_mostAlike) (pc := 74) ?_
      refine y_mask <| x_iload rfl <| y_ireturn (ls := []) ?_
      exact ⟨trivial, jCn.mk ⟨rfl, rfl⟩⟩ -- return  h1+
    · exact absurd h10.le h1
  · -- step
    have hci : (nI i).toNatClampNeg = i := nI_clamp (by have := h10.2; omega)
    refine jWP.intro (pr := pX9_mostAlike) (pc := 5) ?_
    refine y_mask <| x_iload rfl <| x_push <| y_cmp_ge (fun h1 => ?_) (fun h1 => ?_)
    · exact absurd h1 (h10.ge hi)
    · refine jWP.intro (pr := pX9_mostAlike) (pc := 12) ?_
      refine y_mask <| x_push <| x_istore rfl <| x_push <| x_istore rfl <| y_mask <| y_goto ?_
      refine jfor (fun j b => [some (.ref 54), some (.int l), some (.int pl), some (.int a), some (.int (nI i)), some (.int b), some (.int j)]) (fun b => (Sh0 n, A, L)) (g_alk A l pl.toNatClampNeg i) N 0 ?_ (fun j b hj hm => ?_)
      · -- end
        refine jWP.intro (pr := pX9_mostAlike) (pc := 18) ?_
        refine y_mask <| x_iload rfl <| x_aload rfl <| x_getI (Nat.le_of_ble_eq_true rfl) rfl rfl <| y_cmp_ge (fun h2 => ?_) (fun h2 => ?_)
        · refine jWP.intro (pr := pX9_mostAlike) (pc := 61) ?_
          refine y_mask <| x_iload rfl <| x_iload rfl <| y_mmax (Nat.le_of_ble_eq_true rfl) <| x_istore rfl <| x_iinc rfl rfl <| y_mask <| y_goto ?_
          exact hn -- goto 5  h2+
        · exact absurd hN.le h2
      · -- step
        have hcj : (nI j).toNatClampNeg = j := nI_clamp (by have := hN.2; omega)
        refine jWP.intro (pr := pX9_mostAlike) (pc := 18) ?_
        refine y_mask <| x_iload rfl <| x_aload rfl <| x_getI (Nat.le_of_ble_eq_true rfl) rfl rfl <| y_cmp_ge (fun h2 => ?_) (fun h2 => ?_)
        · exact absurd h2 (hN.ge hj)
        · refine jWP.intro (pr := pX9_mostAlike) (pc := 27) ?_
          refine y_mask <| x_iload rfl <| x_iload rfl <| x_ishr <| x_push <| x_iand <| y_if_eq (fun h3 => ?_) (fun h3 => ?_)
          · refine jWP.intro (pr := pX9_mostAlike) (pc := 55) ?_
            refine y_mask <| x_iinc rfl rfl <| y_mask <| y_goto ?_
            rw [g_alk, if_pos h3] at hm
            exact hm
          · refine jWP.intro (pr := pX9_mostAlike) (pc := 36) ?_
            refine y_mask <| x_aload rfl <| x_getR (Nat.le_of_ble_eq_true rfl) rfl rfl <| x_iload rfl <| x_iald rfl ?_ <| x_iload rfl <| y_invS2 (Nat.le_of_ble_eq_true rfl) <| jEv.exI (kX9_figure _ _ _ _ _ _ ?_) <| x_iload rfl <| y_cmp_ne (fun h4 => ?_) (fun h4 => ?_)
            · exact vpn2 hN hj hN6 -- index 42 of ('r', 55)  h2- h3-
            · exact hp -- hyp0 of kX9_figure 44  h2- h3-
            · refine jWP.intro (pr := pX9_mostAlike) (pc := 55) ?_
              refine y_mask <| x_iinc rfl rfl <| y_mask <| y_goto ?_
              rw [hcj] at h4
              rw [g_alk, if_neg h3, if_pos h4] at hm
              exact hm
            · refine jWP.intro (pr := pX9_mostAlike) (pc := 52) ?_
              refine y_mask <| x_iinc rfl rfl <| y_mask <| y_goto ?_
              refine jWP.intro (pr := pX9_mostAlike) (pc := 55) ?_
              refine y_mask <| x_iinc rfl rfl <| y_mask <| y_goto ?_
              rw [hcj] at h4
              rw [g_alk, if_neg h3, if_neg (fun z => z h4)] at hm
              exact hm

