/-! LOOPS; CONTRACTS: words -/
def jit {α : Type} (g : Nat → α → α) : Nat → α → α
  | 0, a => a
  | n + 1, a => g n (jit g n a)
theorem jit_congr {α : Type} {g g2 : Nat → α → α} {a : α} : ∀ {N : Nat}, (∀ i a, i < N → g i a = g2 i a) → jit g N a = jit g2 N a
  | 0, _ => rfl
  | N + 1, h => by
    simp only [jit]
    rw [jit_congr (N := N) (fun i a hi => h i a (by omega)), h N _ (by omega)]
theorem jit_inv {α : Type} {g : Nat → α → α} {a : α} (P : Nat → α → Prop) (h0 : P 0 a) : ∀ {N : Nat}, (∀ i a, i < N → P i a → P (i + 1) (g i a)) → P N (jit g N a)
  | 0, _ => h0
  | N + 1, h => h N _ (by omega) (jit_inv P h0 (fun i a hi => h i a (by omega)))
theorem jfor {α : Type} {E : jE} {Rt : Option Value → jM → Prop} {cap : Nat × Nat} {pr : jX → Nat → jK} {h : Nat} (ls : Int32 → α → jL) (M : α → jM) (g : Nat → α → α) (N : Nat) (a0 : α)
    (hx : jWP E Rt cap pr h (ls (nI N) (jit g N a0)) [] (M (jit g N a0)))
    (hs : ∀ i a, i < N → jWP E Rt cap pr h (ls (nI i + 1) (g i a)) [] (M (g i a)) → jWP E Rt cap pr h (ls (nI i) a) [] (M a)) : jWP E Rt cap pr h (ls 0 a0) [] (M a0) := by
  have key : ∀ m i, i + m = N → jWP E Rt cap pr h (ls (nI i) (jit g i a0)) [] (M (jit g i a0)) := by
    intro m
    induction m with
    | zero => intro i hi; rw [show i = N by omega]; exact hx
    | succ m ih =>
      intro i hi
      refine hs i _ (by omega) ?_
      have := ih (i + 1) (by omega)
      rw [← nI_1 i] at this
      exact this
  exact key N 0 (by omega)
/-- a number that is a count -/
def jnat (x : Int32) (N : Nat) : Prop := x = nI N ∧ N < 100000
theorem jnat.ge {x : Int32} {N i : Nat} (h : jnat x N) (hi : i < N) : ¬ x ≤ nI i := by
  rw [h.1]
  have := h.2
  exact nI_ge hi (by omega)
theorem jnat.le {x : Int32} {N : Nat} (h : jnat x N) : x ≤ nI N := by
  rw [h.1]
  exact Int32.le_refl _
theorem vpn {i N : Nat} (h : i < N) (hN : N < 100000) : vp_in (nI i) N := vp_in_nI h (by omega)
theorem vpn2 {i N K : Nat} {x : Int32} (hx : jnat x K) (h : i < K) (hN : K ≤ N) : vp_in (nI i) N := by
  refine vp_in_iff.mpr ?_
  have := hx.2
  rw [nI_toInt (by omega)]
  omega
theorem kX9_has (d n : Nat) (A : Nat → Nat → Int32) (L : Nat → Nat → Int64) (w : Int32) : jEv jtab (d + 2) 96 [.ref 54, .int w] (Sh0 n, A, L) 0 0 (fun r M2 => r = some (.int (jb (0 ≤ w ∧ w ≤ A 54 3 - 1))) ∧ M2 = (Sh0 n, A, L)) := by
  refine jEv.mk (mt := mX9_has) rfl (Nat.le_of_ble_eq_true rfl) ?_
  refine jWP.intro (pr := pX9_has) (pc := 0) ?_
  refine y_mask <| x_iload rfl <| x_push <| x_aload rfl <| x_getI (Nat.le_of_ble_eq_true rfl) rfl rfl <| x_push <| x_isub <| y_invS3 (Nat.le_of_ble_eq_true rfl) <| jEv.exI (kX10_within _ _ _ _ _ _ _) <| y_ireturn (ls := []) ?_
  exact ⟨by first | rfl | exact jb_ok _, jCn.mk ⟨congrArg (fun z => some (Value.int z)) (rfl), rfl⟩⟩ -- return 

def jtk (A : Nat → Nat → Int32) (s : Int32) (w : Nat) : Int32 := A (56 + 1 + s.toNatClampNeg) w
abbrev f_all (A : Nat → Nat → Int32) (s : Int32) (N : Nat) : Int32 := jit (fun w a => a + jtk A s w) N 0
theorem kX9_allTakenOf (d n : Nat) (A : Nat → Nat → Int32) (L : Nat → Nat → Int64) (s : Int32) (N : Nat) (hN : jnat (A 54 3) N) (hN6 : N ≤ 6) (hs : vp_in s 6) : jEv jtab (d + 1) 99 [.ref 54, .int s] (Sh0 n, A, L) 0 0 (fun r M2 => r = some (.int (f_all A s N)) ∧ M2 = (Sh0 n, A, L)) := by
  refine jEv.mk (mt := mX9_allTakenOf) rfl (Nat.le_of_ble_eq_true rfl) ?_
  refine jWP.intro (pr := pX9_allTakenOf) (pc := 0) ?_
  refine y_mask <| x_push <| x_istore rfl <| x_push <| x_istore rfl <| y_mask <| y_goto ?_
  refine jfor (fun i a => [some (.ref 54), some (.int s), some (.int a), some (.int i)]) (fun a => (Sh0 n, A, L)) (fun w a => a + jtk A s w) N 0 ?_ (fun i a hi hn => ?_)
  · -- end
    refine jWP.intro (pr := pX9_allTakenOf) (pc := 4) ?_
    refine y_mask <| x_iload rfl <| x_aload rfl <| x_getI (Nat.le_of_ble_eq_true rfl) rfl rfl <| y_cmp_ge (fun h1 => ?_) (fun h1 => ?_)
    · refine jWP.intro (pr := pX9_allTakenOf) (pc := 29) ?_
      refine y_mask <| x_iload rfl <| y_ireturn (ls := []) ?_
      exact ⟨trivial, jCn.mk ⟨rfl, rfl⟩⟩ -- return  h1+
    · exact absurd hN.le h1
  · -- step
    have hci : (nI i).toNatClampNeg = i := nI_clamp (by have := hN.2; omega)
    refine jWP.intro (pr := pX9_allTakenOf) (pc := 4) ?_
    refine y_mask <| x_iload rfl <| x_aload rfl <| x_getI (Nat.le_of_ble_eq_true rfl) rfl rfl <| y_cmp_ge (fun h1 => ?_) (fun h1 => ?_)
    · exact absurd h1 (hN.ge hi)
    · refine jWP.intro (pr := pX9_allTakenOf) (pc := 12) ?_
      refine y_mask <| x_iload rfl <| x_aload rfl <| x_getR (Nat.le_of_ble_eq_true rfl) rfl rfl <| x_iload rfl <| x_row (Nat.le_of_ble_eq_true rfl) rfl ?_ <| fun hr18 => x_iload rfl <| x_iald (rows_56 hr18) ?_ <| x_iadd <| x_istore rfl <| x_iinc rfl rfl <| y_mask <| y_goto ?_
      · exact hs -- rowindex 18 of ('r', 56)  h1-
      · exact vpn2 hN hi hN6 -- index 20 of ('row', 56, 'hr18')  h1-
      · rw [hci]
        exact hn

/-- how much it counts that s was said, h being heard (a long) -/
def f_wei (A : Nat → Nat → Int32) (s h : Int32) (N : Nat) : Int64 := jit (fun w a => if nI w = s then a else a * (if 1 < f_all A (nI w) N then f_all A (nI w) N else 1).toInt64) N (A 63 s.toNatClampNeg * jtk A s h.toNatClampNeg).toInt64
theorem kX9_weight (d n : Nat) (A : Nat → Nat → Int32) (L : Nat → Nat → Int64) (s h : Int32) (N : Nat) (hN : jnat (A 54 3) N) (hN6 : N ≤ 6) (hs : vp_in s 6) (hh : vp_in h 6) : jEv jtab (d + 2) 97 [.ref 54, .int s, .int h] (Sh0 n, A, L) 0 0 (fun r M2 => r = some (.long (f_wei A s h N)) ∧ M2 = (Sh0 n, A, L)) := by
  refine jEv.mk (mt := mX9_weight) rfl (Nat.le_of_ble_eq_true rfl) ?_
  refine jWP.intro (pr := pX9_weight) (pc := 0) ?_
  refine y_mask <| x_aload rfl <| x_getR (Nat.le_of_ble_eq_true rfl) rfl rfl <| x_iload rfl <| x_iald rfl ?_ <| x_aload rfl <| x_getR (Nat.le_of_ble_eq_true rfl) rfl rfl <| x_iload rfl <| x_row (Nat.le_of_ble_eq_true rfl) rfl ?_ <| fun hr11 => x_iload rfl <| x_iald (rows_56 hr11) ?_ <| x_imul <| x_i2l <| x_lstore rfl <| x_push <| x_istore rfl <| y_mask <| y_goto ?_
  · exact hs -- index 5 of ('r', 63) 
  · exact hs -- rowindex 11 of ('r', 56) 
  · exact hh -- index 13 of ('row', 56, 'hr11') 
  · refine jfor (fun i a => [some (.ref 54), some (.int s), none, some (.long a), none, some (.int i)]) (fun a => (Sh0 n, A, L)) (fun w a => if nI w = s then a else a * (if 1 < f_all A (nI w) N then f_all A (nI w) N else 1).toInt64) N _ ?_ (fun i a hi hn => ?_)
    · -- end
      refine jWP.intro (pr := pX9_weight) (pc := 20) ?_
      refine y_mask <| x_iload rfl <| x_aload rfl <| x_getI (Nat.le_of_ble_eq_true rfl) rfl rfl <| y_cmp_ge (fun h1 => ?_) (fun h1 => ?_)
      · refine jWP.intro (pr := pX9_weight) (pc := 55) ?_
        refine y_mask <| x_lload rfl <| y_lreturn (ls := []) ?_
        exact ⟨trivial, jCn.mk ⟨rfl, rfl⟩⟩ -- return  h1+
      · exact absurd hN.le h1
    · -- step
      have hci : (nI i).toNatClampNeg = i := nI_clamp (by have := hN.2; omega)
      refine jWP.intro (pr := pX9_weight) (pc := 20) ?_
      refine y_mask <| x_iload rfl <| x_aload rfl <| x_getI (Nat.le_of_ble_eq_true rfl) rfl rfl <| y_cmp_ge (fun h1 => ?_) (fun h1 => ?_)
      · exact absurd h1 (hN.ge hi)
      · refine jWP.intro (pr := pX9_weight) (pc := 29) ?_
        refine y_mask <| x_iload rfl <| x_iload rfl <| y_cmp_eq (fun h2 => ?_) (fun h2 => ?_)
        · refine jWP.intro (pr := pX9_weight) (pc := 49) ?_
          refine y_mask <| x_iinc rfl rfl <| y_mask <| y_goto ?_
          rw [if_pos h2] at hn
          exact hn
        · refine jWP.intro (pr := pX9_weight) (pc := 35) ?_
          refine y_mask <| x_lload rfl <| x_push <| x_aload rfl <| x_iload rfl <| y_invV1 (Nat.le_of_ble_eq_true rfl) rfl (Nat.le_of_ble_eq_true rfl) <| jEv.exI (kX9_allTakenOf _ _ _ _ _ N ?_ ?_ ?_) <| y_mmax (Nat.le_of_ble_eq_true rfl) <| x_i2l <| x_lmul <| x_lstore rfl <| y_mask <| y_goto ?_
          · exact hN -- hyp0 of kX9_allTakenOf 40  h1- h2-
          · exact hN6 -- hyp1 of kX9_allTakenOf 40  h1- h2-
          · exact vpn (by omega) (by omega) -- hyp2 of kX9_allTakenOf 40  h1- h2-
          · refine jWP.intro (pr := pX9_weight) (pc := 49) ?_
            refine y_mask <| x_iinc rfl rfl <| y_mask <| y_goto ?_
            rw [if_neg h2] at hn
            exact hn

def f_wall (A : Nat → Nat → Int32) (h : Int32) (N : Nat) : Int64 := jit (fun w a => a + f_wei A (nI w) h N) N 0
theorem kX9_weightOfAll (d n : Nat) (A : Nat → Nat → Int32) (L : Nat → Nat → Int64) (h : Int32) (N : Nat) (hN : jnat (A 54 3) N) (hN6 : N ≤ 6) (hh : vp_in h 6) : jEv jtab (d + 3) 98 [.ref 54, .int h] (Sh0 n, A, L) 0 0 (fun r M2 => r = some (.long (f_wall A h N)) ∧ M2 = (Sh0 n, A, L)) := by
  refine jEv.mk (mt := mX9_weightOfAll) rfl (Nat.le_of_ble_eq_true rfl) ?_
  refine jWP.intro (pr := pX9_weightOfAll) (pc := 0) ?_
  refine y_mask <| x_push <| x_lstore rfl <| x_push <| x_istore rfl <| y_mask <| y_goto ?_
  refine jfor (fun i a => [some (.ref 54), some (.int h), some (.long a), none, some (.int i)]) (fun a => (Sh0 n, A, L)) (fun w a => a + f_wei A (nI w) h N) N 0 ?_ (fun i a hi hn => ?_)
  · -- end
    refine jWP.intro (pr := pX9_weightOfAll) (pc := 5) ?_
    refine y_mask <| x_iload rfl <| x_aload rfl <| x_getI (Nat.le_of_ble_eq_true rfl) rfl rfl <| y_cmp_ge (fun h1 => ?_) (fun h1 => ?_)
    · refine jWP.intro (pr := pX9_weightOfAll) (pc := 30) ?_
      refine y_mask <| x_lload rfl <| y_lreturn (ls := []) ?_
      exact ⟨trivial, jCn.mk ⟨rfl, rfl⟩⟩ -- return  h1+
    · exact absurd hN.le h1
  · -- step
    have hci : (nI i).toNatClampNeg = i := nI_clamp (by have := hN.2; omega)
    refine jWP.intro (pr := pX9_weightOfAll) (pc := 5) ?_
    refine y_mask <| x_iload rfl <| x_aload rfl <| x_getI (Nat.le_of_ble_eq_true rfl) rfl rfl <| y_cmp_ge (fun h1 => ?_) (fun h1 => ?_)
    · exact absurd h1 (hN.ge hi)
    · refine jWP.intro (pr := pX9_weightOfAll) (pc := 14) ?_
      refine y_mask <| x_lload rfl <| x_aload rfl <| x_iload rfl <| x_iload rfl <| y_invV2 (Nat.le_of_ble_eq_true rfl) rfl (Nat.le_of_ble_eq_true rfl) <| jEv.exL (kX9_weight _ _ _ _ _ _ N ?_ ?_ ?_ ?_) <| x_ladd <| x_lstore rfl <| x_iinc rfl rfl <| y_mask <| y_goto ?_
      · exact hN -- hyp0 of kX9_weight 19  h1-
      · exact hN6 -- hyp1 of kX9_weight 19  h1-
      · exact vpn (by omega) (by omega) -- hyp2 of kX9_weight 19  h1-
      · exact hh -- hyp3 of kX9_weight 19  h1-
      · exact hn -- goto 5  h1-

def f_lik (A : Nat → Nat → Int32) (h : Int32) (N : Nat) : Int32 × Int64 := jit (fun w a => if lg_cmp (f_wei A (nI w) h N) a.2 ≤ 0 then a else (nI w, f_wei A (nI w) h N)) N (-1, 0)
theorem kX9_likeliest (d n : Nat) (A : Nat → Nat → Int32) (L : Nat → Nat → Int64) (h : Int32) (N : Nat) (hN : jnat (A 54 3) N) (hN6 : N ≤ 6) (hh : vp_in h 6) : jEv jtab (d + 3) 100 [.ref 54, .int h] (Sh0 n, A, L) 0 0 (fun r M2 => r = some (.int ((f_lik A h N).1)) ∧ M2 = (Sh0 n, A, L)) := by
  refine jEv.mk (mt := mX9_likeliest) rfl (Nat.le_of_ble_eq_true rfl) ?_
  refine jWP.intro (pr := pX9_likeliest) (pc := 0) ?_
  refine y_mask <| x_push <| x_istore rfl <| x_push <| x_lstore rfl <| x_push <| x_istore rfl <| y_mask <| y_goto ?_
  refine jfor (fun i a => [some (.ref 54), some (.int h), some (.int a.1), some (.long a.2), none, some (.int i), none, none]) (fun a => (Sh0 n, A, L)) (fun w a => if lg_cmp (f_wei A (nI w) h N) a.2 ≤ 0 then a else (nI w, f_wei A (nI w) h N)) N (-1, 0) ?_ (fun i a hi hn => ?_)
  · -- end
    refine jWP.intro (pr := pX9_likeliest) (pc := 7) ?_
    refine y_mask <| x_iload rfl <| x_aload rfl <| x_getI (Nat.le_of_ble_eq_true rfl) rfl rfl <| y_cmp_ge (fun h1 => ?_) (fun h1 => ?_)
    · refine jWP.intro (pr := pX9_likeliest) (pc := 44) ?_
      refine y_mask <| x_iload rfl <| y_ireturn (ls := []) ?_
      exact ⟨trivial, jCn.mk ⟨rfl, rfl⟩⟩ -- return  h1+
    · exact absurd hN.le h1
  · -- step
    have hci : (nI i).toNatClampNeg = i := nI_clamp (by have := hN.2; omega)
    refine jWP.intro (pr := pX9_likeliest) (pc := 7) ?_
    refine y_mask <| x_iload rfl <| x_aload rfl <| x_getI (Nat.le_of_ble_eq_true rfl) rfl rfl <| y_cmp_ge (fun h1 => ?_) (fun h1 => ?_)
    · exact absurd h1 (hN.ge hi)
    · refine jWP.intro (pr := pX9_likeliest) (pc := 16) ?_
      refine y_mask <| x_aload rfl <| x_iload rfl <| x_iload rfl <| y_invV2 (Nat.le_of_ble_eq_true rfl) rfl (Nat.le_of_ble_eq_true rfl) <| jEv.exL (kX9_weight _ _ _ _ _ _ N ?_ ?_ ?_ ?_) <| x_lstore rfl <| x_lload rfl <| x_lload rfl <| x_lcmp <| y_if_le (fun h2 => ?_) (fun h2 => ?_)
      · exact hN -- hyp0 of kX9_weight 20  h1-
      · exact hN6 -- hyp1 of kX9_weight 20  h1-
      · exact vpn (by omega) (by omega) -- hyp2 of kX9_weight 20  h1-
      · exact hh -- hyp3 of kX9_weight 20  h1-
      · refine jWP.intro (pr := pX9_likeliest) (pc := 38) ?_
        refine y_mask <| x_iinc rfl rfl <| y_mask <| y_goto ?_
        rw [if_pos h2] at hn
        exact hn
      · refine jWP.intro (pr := pX9_likeliest) (pc := 32) ?_
        refine y_mask <| x_lload rfl <| x_lstore rfl <| x_iload rfl <| x_istore rfl <| y_mask <| y_goto ?_
        refine jWP.intro (pr := pX9_likeliest) (pc := 38) ?_
        refine y_mask <| x_iinc rfl rfl <| y_mask <| y_goto ?_
        rw [if_neg h2] at hn
        exact hn

/-- how MUDDLED a list is -/
def g_mud (A : Nat → Nat → Int32) (l : Int32) (s : Nat) (h : Nat) (a : Int32) : Int32 := if nI s = nI h then a else if (l >>> (nI s &&& 31)) &&& 1 = 0 then a else if (l >>> (nI h &&& 31)) &&& 1 = 0 then a else a + jtk A (nI s) h
def f_mud (A : Nat → Nat → Int32) (l : Int32) (N : Nat) : Int32 := jit (fun s a => jit (g_mud A l s) N a) N 0
theorem kX9_muddle (d n : Nat) (A : Nat → Nat → Int32) (L : Nat → Nat → Int64) (l : Int32) (N : Nat) (hN : jnat (A 54 3) N) (hN6 : N ≤ 6) : jEv jtab (d + 1) 102 [.ref 54, .int l] (Sh0 n, A, L) 0 0 (fun r M2 => r = some (.int (f_mud A l N)) ∧ M2 = (Sh0 n, A, L)) := by
  refine jEv.mk (mt := mX9_muddle) rfl (Nat.le_of_ble_eq_true rfl) ?_
  refine jWP.intro (pr := pX9_muddle) (pc := 0) ?_
  refine y_mask <| x_push <| x_istore rfl <| x_push <| x_istore rfl <| y_mask <| y_goto ?_
  refine jfor (fun i a => [some (.ref 54), some (.int l), some (.int a), some (.int i), none]) (fun a => (Sh0 n, A, L)) (fun s a => jit (g_mud A l s) N a) N 0 ?_ (fun i a hi hn => ?_)
  · -- end
    refine jWP.intro (pr := pX9_muddle) (pc := 4) ?_
    refine y_mask <| x_iload rfl <| x_aload rfl <| x_getI (Nat.le_of_ble_eq_true rfl) rfl rfl <| y_cmp_ge (fun h1 => ?_) (fun h1 => ?_)
    · refine jWP.intro (pr := pX9_muddle) (pc := 71) ?_
      refine y_mask <| x_iload rfl <| y_ireturn (ls := []) ?_
      exact ⟨trivial, jCn.mk ⟨rfl, rfl⟩⟩ -- return  h1+
    · exact absurd hN.le h1
  · -- step
    have hci : (nI i).toNatClampNeg = i := nI_clamp (by have := hN.2; omega)
    refine jWP.intro (pr := pX9_muddle) (pc := 4) ?_
    refine y_mask <| x_iload rfl <| x_aload rfl <| x_getI (Nat.le_of_ble_eq_true rfl) rfl rfl <| y_cmp_ge (fun h1 => ?_) (fun h1 => ?_)
    · exact absurd h1 (hN.ge hi)
    · refine jWP.intro (pr := pX9_muddle) (pc := 12) ?_
      refine y_mask <| x_push <| x_istore rfl <| y_mask <| y_goto ?_
      refine jfor (fun j b => [some (.ref 54), some (.int l), some (.int b), some (.int (nI i)), some (.int j)]) (fun b => (Sh0 n, A, L)) (g_mud A l i) N a ?_ (fun j b hj hm => ?_)
      · -- end
        refine jWP.intro (pr := pX9_muddle) (pc := 15) ?_
        refine y_mask <| x_iload rfl <| x_aload rfl <| x_getI (Nat.le_of_ble_eq_true rfl) rfl rfl <| y_cmp_ge (fun h2 => ?_) (fun h2 => ?_)
        · refine jWP.intro (pr := pX9_muddle) (pc := 65) ?_
          refine y_mask <| x_iinc rfl rfl <| y_mask <| y_goto ?_
          exact hn -- goto 4  h2+
        · exact absurd hN.le h2
      · -- step
        have hcj : (nI j).toNatClampNeg = j := nI_clamp (by have := hN.2; omega)
        refine jWP.intro (pr := pX9_muddle) (pc := 15) ?_
        refine y_mask <| x_iload rfl <| x_aload rfl <| x_getI (Nat.le_of_ble_eq_true rfl) rfl rfl <| y_cmp_ge (fun h2 => ?_) (fun h2 => ?_)
        · exact absurd h2 (hN.ge hj)
        · refine jWP.intro (pr := pX9_muddle) (pc := 24) ?_
          refine y_mask <| x_iload rfl <| x_iload rfl <| y_cmp_eq (fun h3 => ?_) (fun h3 => ?_)
          · refine jWP.intro (pr := pX9_muddle) (pc := 59) ?_
            refine y_mask <| x_iinc rfl rfl <| y_mask <| y_goto ?_
            rw [g_mud, if_pos h3] at hm
            exact hm
          · refine jWP.intro (pr := pX9_muddle) (pc := 30) ?_
            refine y_mask <| x_iload rfl <| x_iload rfl <| x_ishr <| x_push <| x_iand <| y_if_eq (fun h4 => ?_) (fun h4 => ?_)
            · refine jWP.intro (pr := pX9_muddle) (pc := 59) ?_
              refine y_mask <| x_iinc rfl rfl <| y_mask <| y_goto ?_
              rw [g_mud, if_neg h3, if_pos h4] at hm
              exact hm
            · refine jWP.intro (pr := pX9_muddle) (pc := 38) ?_
              refine y_mask <| x_iload rfl <| x_iload rfl <| x_ishr <| x_push <| x_iand <| y_if_eq (fun h5 => ?_) (fun h5 => ?_)
              · refine jWP.intro (pr := pX9_muddle) (pc := 59) ?_
                refine y_mask <| x_iinc rfl rfl <| y_mask <| y_goto ?_
                rw [g_mud, if_neg h3, if_neg h4, if_pos h5] at hm
                exact hm
              · refine jWP.intro (pr := pX9_muddle) (pc := 47) ?_
                refine y_mask <| x_iload rfl <| x_aload rfl <| x_getR (Nat.le_of_ble_eq_true rfl) rfl rfl <| x_iload rfl <| x_row (Nat.le_of_ble_eq_true rfl) rfl ?_ <| fun hr53 => x_iload rfl <| x_iald (rows_56 hr53) ?_ <| x_iadd <| x_istore rfl <| y_mask <| y_goto ?_
                · exact vpn (by omega) (by omega) -- rowindex 53 of ('r', 56)  h2- h3- h4- h5-
                · exact vpn2 hN hj hN6 -- index 56 of ('row', 56, 'hr53')  h2- h3- h4- h5-
                · refine jWP.intro (pr := pX9_muddle) (pc := 59) ?_
                  refine y_mask <| x_iinc rfl rfl <| y_mask <| y_goto ?_
                  rw [g_mud, if_neg h3, if_neg h4, if_neg h5, jtk] at hm
                  rw [hcj]
                  exact hm

abbrev jus (x : Int32) (k : Int32) : Int32 := (x.toUInt32 >>> (k.toUInt32 &&& Int32.toUInt32 31)).toInt32
/-- Integer.bitCount as the library has it -/
def jbc (x : Int32) : Int32 :=
  let a := x - (jus x 1 &&& 1431655765)
  let b := (a &&& 858993459) + (jus a 2 &&& 858993459)
  let c := (b + jus b 4) &&& 252645135
  let e := c + jus c 8
  let f := e + jus e 16
  f &&& 63
theorem kJ6_bitCount_0f7a4 (d n : Nat) (A : Nat → Nat → Int32) (L : Nat → Nat → Int64) (x : Int32) : jEv jtab (d + 1) 273 [.int x] (Sh0 n, A, L) 0 0 (fun r M2 => r = some (.int (jbc x)) ∧ M2 = (Sh0 n, A, L)) := by
  refine jEv.mk (mt := mJ6_bitCount_0f7a4) rfl (Nat.le_of_ble_eq_true rfl) ?_
  refine jWP.intro (pr := pJ6_bitCount_0f7a4) (pc := 0) ?_
  refine y_mask <| x_iload rfl <| x_iload rfl <| x_push <| x_iushr <| x_push <| x_iand <| x_isub <| x_istore rfl <| x_iload rfl <| x_push <| x_iand <| x_iload rfl <| x_push <| x_iushr <| x_push <| x_iand <| x_iadd <| x_istore rfl <| x_iload rfl <| x_iload rfl <| x_push <| x_iushr <| x_iadd <| x_push <| x_iand <| x_istore rfl <| x_iload rfl <| x_iload rfl <| x_push <| x_iushr <| x_iadd <| x_istore rfl <| x_iload rfl <| x_iload rfl <| x_push <| x_iushr <| x_iadd <| x_istore rfl <| x_iload rfl <| x_push <| y_mask <| y_goto ?_
  refine jWP.intro (pr := pJ6_bitCount_0f7a4) (pc := 51) ?_
  refine y_mask <| x_iand <| y_ireturn (ls := []) ?_
  exact ⟨trivial, jCn.mk ⟨rfl, rfl⟩⟩ -- return 

def g_cle (A : Nat → Nat → Int32) (k : Int32) (N : Nat) (l : Nat) (a : Int32 × Int32) : Int32 × Int32 := if ¬ jbc (nI l) = k then a else if a.2 < 0 then (nI l, f_mud A (nI l) N) else if a.2 ≤ f_mud A (nI l) N then a else (nI l, f_mud A (nI l) N)
def f_cle (A : Nat → Nat → Int32) (k : Int32) (N K : Nat) : Int32 × Int32 := jit (g_cle A k N) K (0, -1)
theorem kX9_clearestList (d n : Nat) (A : Nat → Nat → Int32) (L : Nat → Nat → Int64) (k : Int32) (N : Nat) (hN : jnat (A 54 3) N) (hN6 : N ≤ 6) (K : Nat) (hK : jnat ((1 : Int32) <<< (A 54 3 &&& 31)) K) : jEv jtab (d + 2) 101 [.ref 54, .int k] (Sh0 n, A, L) 0 0 (fun r M2 => r = some (.int ((f_cle A k N K).1)) ∧ M2 = (Sh0 n, A, L)) := by
  refine jEv.mk (mt := mX9_clearestList) rfl (Nat.le_of_ble_eq_true rfl) ?_
  refine jWP.intro (pr := pX9_clearestList) (pc := 0) ?_
  refine y_mask <| x_push <| x_istore rfl <| x_push <| x_istore rfl <| x_push <| x_istore rfl <| y_mask <| y_goto ?_
  refine jfor (fun i a => [some (.ref 54), some (.int k), some (.int a.1), some (.int a.2), some (.int i), none]) (fun a => (Sh0 n, A, L)) (g_cle A k N) K (0, -1) ?_ (fun i a hi hn => ?_)
  · -- end
    refine jWP.intro (pr := pX9_clearestList) (pc := 7) ?_
    refine y_mask <| x_iload rfl <| x_push <| x_aload rfl <| x_getI (Nat.le_of_ble_eq_true rfl) rfl rfl <| x_ishl <| y_cmp_ge (fun h1 => ?_) (fun h1 => ?_)
    · refine jWP.intro (pr := pX9_clearestList) (pc := 57) ?_
      refine y_mask <| x_iload rfl <| y_ireturn (ls := []) ?_
      exact ⟨trivial, jCn.mk ⟨rfl, rfl⟩⟩ -- return  h1+
    · exact absurd hK.le h1
  · -- step
    have hci : (nI i).toNatClampNeg = i := nI_clamp (by have := hK.2; omega)
    refine jWP.intro (pr := pX9_clearestList) (pc := 7) ?_
    refine y_mask <| x_iload rfl <| x_push <| x_aload rfl <| x_getI (Nat.le_of_ble_eq_true rfl) rfl rfl <| x_ishl <| y_cmp_ge (fun h1 => ?_) (fun h1 => ?_)
    · exact absurd h1 (hK.ge hi)
    · refine jWP.intro (pr := pX9_clearestList) (pc := 18) ?_
      refine y_mask <| x_iload rfl <| y_invS1 (Nat.le_of_ble_eq_true rfl) <| jEv.exI (kJ6_bitCount_0f7a4 _ _ _ _ _) <| x_iload rfl <| y_cmp_ne (fun h2 => ?_) (fun h2 => ?_)
      · refine jWP.intro (pr := pX9_clearestList) (pc := 51) ?_
        refine y_mask <| x_iinc rfl rfl <| y_mask <| y_goto ?_
        rw [g_cle, if_pos h2] at hn
        exact hn
      · refine jWP.intro (pr := pX9_clearestList) (pc := 27) ?_
        refine y_mask <| x_aload rfl <| x_iload rfl <| y_invV1 (Nat.le_of_ble_eq_true rfl) rfl (Nat.le_of_ble_eq_true rfl) <| jEv.exI (kX9_muddle _ _ _ _ _ N ?_ ?_) <| x_istore rfl <| x_iload rfl <| y_if_lt (fun h3 => ?_) (fun h3 => ?_)
        · exact hN -- hyp0 of kX9_muddle 30  h1- h2-
        · exact hN6 -- hyp1 of kX9_muddle 30  h1- h2-
        · refine jWP.intro (pr := pX9_clearestList) (pc := 45) ?_
          refine y_mask <| x_iload rfl <| x_istore rfl <| x_iload rfl <| x_istore rfl <| y_mask <| y_goto ?_
          refine jWP.intro (pr := pX9_clearestList) (pc := 51) ?_
          refine y_mask <| x_iinc rfl rfl <| y_mask <| y_goto ?_
          rw [g_cle, if_neg (fun z => z h2), if_pos h3] at hn
          exact hn
        · refine jWP.intro (pr := pX9_clearestList) (pc := 39) ?_
          refine y_mask <| x_iload rfl <| x_iload rfl <| y_cmp_ge (fun h4 => ?_) (fun h4 => ?_)
          · refine jWP.intro (pr := pX9_clearestList) (pc := 51) ?_
            refine y_mask <| x_iinc rfl rfl <| y_mask <| y_goto ?_
            rw [g_cle, if_neg (fun z => z h2), if_neg h3, if_pos h4] at hn
            exact hn
          · refine jWP.intro (pr := pX9_clearestList) (pc := 45) ?_
            refine y_mask <| x_iload rfl <| x_istore rfl <| x_iload rfl <| x_istore rfl <| y_mask <| y_goto ?_
            refine jWP.intro (pr := pX9_clearestList) (pc := 51) ?_
            refine y_mask <| x_iinc rfl rfl <| y_mask <| y_goto ?_
            rw [g_cle, if_neg (fun z => z h2), if_neg h3, if_neg h4] at hn
            exact hn

