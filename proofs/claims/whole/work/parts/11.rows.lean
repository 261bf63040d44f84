/-! ROWS OF ROWS -/
def jz0 {α : Type} (A : Nat → α) (len : Nat) (z : α) : Nat → α := fun q => if len ≤ q then z else A q
theorem jm_inner (c : ClassId) (K : Nat) : Jvm.Free.Multi.innerC c K (defaultValue .int) = vp_cell c (K, .inl (fun _ => 0)) := by
  show ({ cls := c, slots := Array.replicate K (.int 0), vm := .none } : Cell) = _
  rw [arrV_new]
  rfl
theorem jm_outer (c : ClassId) (N h0 : Nat) : ∀ i : Nat, Jvm.Free.Multi.outerC c N h0 i = arrV c N (fun j => va_rf (if j < i then some (h0 + 1 + j) else none))
  | 0 => by
    show ({ cls := c, slots := Array.replicate N .null, vm := .none } : Cell) = _
    rw [arrV_new]
    refine congrArg (arrV c N) (funext fun j => ?_)
    simp [va_rf]
  | i + 1 => by
    show (Jvm.Free.Multi.outerC c N h0 i).setSlot i (.ref (h0 + 1 + i)) = _
    rw [jm_outer c N h0 i, arrV_store]
    refine congrArg (arrV c N) (funext fun j => ?_)
    by_cases e : j = i
    · subst e
      simp [updV, va_rf]
    · by_cases h : j < i
      · simp [updV, e, h, Nat.lt_succ_of_lt h]
      · simp [updV, e, h, show ¬ j < i + 1 by omega]
theorem jsl_rep (N K : Nat) : jsl (List.replicate N (.inl (.int, K))) = N * K := by
  induction N with
  | zero => simp [jsl]
  | succ n ih => rw [List.replicate_succ]; simp [jsl, jz1, ih, Nat.succ_mul]; omega
section JMN
variable {tab : Nat → Option jMt} {p : Program} {l : Launch} {e : Env} {R : Room} {s : State} {m : MethodId} {args : Array Value} {below : List Frame} {meth : Method} {c : Code} {Q : State → Prop} {g : jG} {nL n0 z0 : Nat} {cc : ByteArray} {own nm : String} {X : jX} {pc : Nat} {k : jK}
def i_mna (X : jX) (k : jK) : jK := fun ls st M => ∃ (n q : Int32) (N K : Nat) (st' : List Value), st = .int q :: .int n :: st' ∧ ¬ n < 0 ∧ ¬ q < 0 ∧ n.toNatClampNeg = N ∧ q.toNatClampNeg = K ∧ N ≤ 1000 ∧ K ≤ 1000 ∧ M.1.length + (1 + N) ≤ X.2.2.2.1 ∧ jsl M.1 + (N + N * K) ≤ X.2.2.2.2 ∧ k ls (.ref M.1.length :: st') (M.1 ++ (.inr (.inl (N, fun i => if i < N then some (M.1.length + 1 + i) else none)) :: List.replicate N (.inl (.int, K))), jz0 M.2.1 M.1.length (fun _ => 0), jz0 M.2.2 M.1.length (fun _ => 0))
theorem x_mna {n q : Int32} {N K : Nat} {ls : jL} {st : List Value} {M : jM} (h1 : ¬ n < 0) (h2 : ¬ q < 0) (h3 : n.toNatClampNeg = N) (h4 : q.toNatClampNeg = K) (h5 : N ≤ 1000) (h6 : K ≤ 1000) (h7 : M.1.length + (1 + N) ≤ X.2.2.2.1) (h8 : jsl M.1 + (N + N * K) ≤ X.2.2.2.2) (h : k ls (.ref M.1.length :: st) (M.1 ++ (.inr (.inl (N, fun i => if i < N then some (M.1.length + 1 + i) else none)) :: List.replicate N (.inl (.int, K))), jz0 M.2.1 M.1.length (fun _ => 0), jz0 M.2.2 M.1.length (fun _ => 0))) : i_mna X k ls (.int q :: .int n :: st) M := ⟨n, q, N, K, st, rfl, h1, h2, h3, h4, h5, h6, h7, h8, h⟩
theorem s_mna (hC : jC tab p l e R s m args below meth c Q g nL n0 z0 cc own nm X) {idx : Nat} (w1 : Cond.classLink own idx "[[I" ∈ lw_tbl) (w2 : Cond.arrayClass .int ∈ lw_tbl) (hd : decode cc pc = .ok (.multianewarray idx 2, 4)) (hk : jSn p l e R s m args below meth c Q g nL n0 z0 (pc + 4) (k)) : jSn p l e R s m args below meth c Q g nL n0 z0 (pc) (i_mna X k) := by
  rintro ls st M ⟨n, q, N, K, st', rfl, q1, q2, rfl, rfl, q5, q6, q7, q8, h⟩ la H locs cells slots hl hH hS h1 h2
  have env := hC.2.2.2.2.2.1
  have r1 := hC.2.2.2.2.2.2.2.2.2.1
  have r2 := hC.2.2.2.2.2.2.2.2.2.2.1
  have hsz : H.size = jad g M.1.length := by rw [hH.2.1, hC.2.2.2.2.1.1 _ hH.1]
  intro T hT Xs
  obtain ⟨vm₁, cA, comp, -, fA, fC, hO, -, X', step⟩ := Xs.multianewarray2F hC.1 hC.2.2.2.1 (ty := .int) (index := idx) (by
      have e9 : "[" ++ (FieldType.array .int).toString = "[[I" := by decide +kernel
      rw [e9]; exact env.2.1 _ w1 rfl args) (Jvm.Stand.arrayOver_alikeB (Vm.Alike.refl _) env.2.2.2.1) (env.2.1 _ w2 rfl args) (g := F0 m pc la (List.map (jt (jad g)) (.int q :: .int n :: st'))) rfl (by rw [hC.2.1]; exact hd) rfl q1 q2 (by omega) (by show _ * 4 ≤ _; omega) (by omega) rfl rfl (by omega) (by omega)
  have ec : comp = jcT g .int := by
    have h9 : s.vm.findClass ("[" ++ FieldType.toString .int) = some (jcT g .int) := (env.1.2 0 _ rfl).2
    have e9 : "[" ++ FieldType.toString .int = (FieldType.array .int).toString := by decide +kernel
    rw [e9] at h9
    exact Option.some.inj (fC.symm.trans h9)
  have eA : cA = jcT g (.array .int) := Option.some.inj (fA.symm.trans (env.1.2 3 _ rfl).2)
  subst ec
  subst eA
  obtain ⟨f1, f2, -, -⟩ := Jvm.Free.Multi.fill_facts (T.setVm vm₁) (jcT g (.array .int)) (jcT g .int) n.toNatClampNeg q.toNatClampNeg (defaultValue .int) n.toNatClampNeg
  have fo := fun (a : Addr) (ha : a < T.heap.size) => Jvm.Free.Multi.fill_old (T.setVm vm₁) (jcT g (.array .int)) (jcT g .int) n.toNatClampNeg q.toNatClampNeg (defaultValue .int) (a := a) ha n.toNatClampNeg
  have fi := fun (j : Nat) (hj : j < n.toNatClampNeg) => Jvm.Free.Multi.fill_inner (T.setVm vm₁) (jcT g (.array .int)) (jcT g .int) n.toNatClampNeg q.toNatClampNeg (defaultValue .int) n.toNatClampNeg j hj
  have hTh : (T.setVm vm₁).heap = H := hT
  rw [hTh] at f1 f2 fi
  generalize Jvm.Free.Multi.fill (T.setVm vm₁) (jcT g (.array .int)) (jcT g .int) n.toNatClampNeg q.toNatClampNeg (defaultValue .int) n.toNatClampNeg = F at X' step f1 f2 fo fi
  have hold : ∀ x : Nat, x < H.size → F.heap[x]? = H[x]? := fun x hx => (fo x (by rw [hT]; exact hx)).trans (by rw [hTh])
  rw [jm_outer] at f2
  have hlen := hH.1
  have hnew : jH g (M.1 ++ (.inr (.inl (n.toNatClampNeg, fun i => if i < n.toNatClampNeg then some (M.1.length + 1 + i) else none)) :: List.replicate n.toNatClampNeg (.inl (.int, q.toNatClampNeg))), jz0 M.2.1 M.1.length (fun _ => 0), jz0 M.2.2 M.1.length (fun _ => 0)) F.heap := by
    refine ⟨by simp; omega, by rw [f1, hH.2.1]; simp; omega, fun j hj => ?_, ?_⟩
    · refine ⟨?_, ?_⟩
      · rw [← (hH.2.2.1 j hj).1, jn_eq, jn_eq]
        exact List.getElem?_append_left (by omega)
      · rw [← (hH.2.2.1 j hj).2]
        show (if M.1.length ≤ j then _ else _) = _
        rw [if_neg (by omega)]
    · intro i x hx
      obtain ⟨g1, g2⟩ := jw_some hx
      unfold jw at hx
      rw [List.getElem?_map, List.getElem?_range g1] at hx
      simp only [Option.map_some, Option.some.injEq] at hx
      subst hx
      simp only [List.length_append, List.length_cons, List.length_replicate] at g1
      by_cases c1 : jR + i < M.1.length
      · have hc9 : (jw (jad g) (jcT g) M)[i]? = some (jad g (jR + i), jcell (jad g) (jcT g) (M.1.getD (jR + i) (.inl (.int, 0))) (M.2.1 (jR + i)) (M.2.2 (jR + i))) := by
          unfold jw
          rw [List.getElem?_map, List.getElem?_range (by omega)]
          rfl
        have e8 : jz0 M.2.1 M.1.length (fun _ => 0) (jR + i) = M.2.1 (jR + i) := if_neg (by omega)
        have e7 : jz0 M.2.2 M.1.length (fun _ => 0) (jR + i) = M.2.2 (jR + i) := if_neg (by omega)
        rw [e8, e7, List.getD_eq_getElem?_getD, List.getElem?_append_left c1, ← List.getD_eq_getElem?_getD]
        exact (hH.2.2.2 i _ hc9).kept (hold _ ((hH.2.2.2 i _ hc9).lt))
      · have e8 : jz0 M.2.1 M.1.length (fun _ => 0) (jR + i) = fun _ => 0 := if_pos (by omega)
        have e7 : jz0 M.2.2 M.1.length (fun _ => 0) (jR + i) = fun _ => 0 := if_pos (by omega)
        rw [e8, e7, List.getD_eq_getElem?_getD, List.getElem?_append_right (by omega)]
        by_cases c2 : jR + i = M.1.length
        · rw [show jR + i - M.1.length = 0 by omega, c2]
          show F.heap[jad g M.1.length]? = some (vp_cell _ _)
          rw [← hsz, f2, vp_cell_q]
          refine congrArg some (congrArg (arrV _ _) (funext fun j => congrArg va_rf ?_))
          by_cases c3 : j < n.toNatClampNeg
          · simp only [c3, if_true, Option.map_some]
            rw [hsz, hC.2.2.2.2.1.1 _ hlen, hC.2.2.2.2.1.1 _ (by omega)]
            congr 1
            omega
          · simp only [c3, if_false, Option.map_none]
        · have c4 : jR + i - M.1.length - 1 < n.toNatClampNeg := by omega
          rw [show jR + i - M.1.length = (jR + i - M.1.length - 1) + 1 by omega, List.getElem?_cons_succ, List.getElem?_replicate, if_pos c4]
          show F.heap[jad g (jR + i)]? = some (vp_cell _ _)
          have e6 := fi _ c4
          rw [jm_inner] at e6
          rw [← e6, hC.2.2.2.2.1.1 _ (by omega), hH.2.1]
          congr 1
          omega
  obtain ⟨t, a1, b1⟩ := hk ls _ _ h la F.heap locs (cells + 1 + n.toNatClampNeg) (slots + n.toNatClampNeg + n.toNatClampNeg * q.toNatClampNeg) hl hnew ⟨by rw [f1]; have := hS.1; omega, fun x g1 g2 => (hold x (by have := hS.1; omega)).trans (hS.2.1 x g1 g2), hS.2.2⟩ (by simp; omega) (by rw [jsl_app]; simp only [jsl, jz1, jsl_rep]; omega) F rfl X'
  refine ⟨t, step t ?_, b1⟩
  have e9 : T.heap.size = jad g M.1.length := by rw [hT, hsz]
  rw [e9]
  exact a1
end JMN
