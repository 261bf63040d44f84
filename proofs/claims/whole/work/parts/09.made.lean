/-! CELLS THAT COME, COPIES, CALLS -/
section JN
variable {tab : Nat → Option jMt} {p : Program} {l : Launch} {e : Env} {R : Room} {s : State} {m : MethodId} {args : Array Value} {below : List Frame} {meth : Method} {c : Code} {Q : State → Prop} {g : jG} {nL n0 z0 : Nat} {cc : ByteArray} {own nm : String} {X : jX} {pc : Nat} {k : jK}
def i_newI (X : jX) (k : jK) : jK := fun ls st M => ∃ (n : Int32) (N : Nat) (st' : List Value), st = .int n :: st' ∧ ¬ n < 0 ∧ n.toNatClampNeg = N ∧ N ≤ 100000 ∧ M.1.length + 1 ≤ X.2.2.2.1 ∧ jsl M.1 + N ≤ X.2.2.2.2 ∧ k ls (.ref M.1.length :: st') (M.1 ++ [.inl (.int, N)], va_up M.2.1 M.1.length (fun _ => 0), va_up M.2.2 M.1.length (fun _ => 0))
theorem x_newI {n : Int32} {N : Nat} {ls : jL} {st : List Value} {M : jM} (h0 : ¬ n < 0) (hN : n.toNatClampNeg = N) (hb : N ≤ 100000) (h1 : M.1.length + 1 ≤ X.2.2.2.1) (h2 : jsl M.1 + N ≤ X.2.2.2.2) (h : k ls (.ref M.1.length :: st) (M.1 ++ [.inl (.int, N)], va_up M.2.1 M.1.length (fun _ => 0), va_up M.2.2 M.1.length (fun _ => 0))) : i_newI X k ls (.int n :: st) M := ⟨n, N, st, rfl, h0, hN, hb, h1, h2, h⟩
theorem s_newI (hC : jC tab p l e R s m args below meth c Q g nL n0 z0 cc own nm X) (hw : Cond.arrayClass .int ∈ lw_tbl) (hd : decode cc pc = .ok (.newarray .int, 2)) (hk : jSn p l e R s m args below meth c Q g nL n0 z0 (pc + 2) (k)) : jSn p l e R s m args below meth c Q g nL n0 z0 (pc) (i_newI X k) := by
  rintro ls st M ⟨n, N, st', rfl, hn0, hN, hb, hc1, hc2, h⟩ la H locs cells slots hl hH hS h1 h2
  have env := hC.2.2.2.2.2.1
  have r1 := hC.2.2.2.2.2.2.2.2.2.1
  have r2 := hC.2.2.2.2.2.2.2.2.2.2.1
  have hsz : H.size = jad g M.1.length := by rw [hH.2.1, hC.2.2.2.2.1.1 _ hH.1]
  refine va_newaK (atype := .int) hC.1 hC.2.1 (env.2.1 _ hw rfl args) rfl hd rfl hn0 hN (Nat.le_trans (Nat.mul_le_mul hb (show componentBytes (newarray.typeOf .int) ≤ 8 from Nat.le_of_ble_eq_true rfl)) (Nat.le_of_ble_eq_true rfl)) (by omega) (by omega) hsz (fun H1 cA e1 z1 o1 hAr hNm => ?_)
  have ecA : cA = jcT g .int := by
    have h9 : s.vm.findClass ("[" ++ FieldType.toString .int) = some (jcT g .int) := (env.1.2 0 _ rfl).2
    exact Option.some.inj (hNm.symm.trans h9)
  subst ecA
  have hk9 : ∀ (i : Nat) (x : Nat × va_E), (jw (jad g) (jcT g) M)[i]? = some x → H1[x.1]? = H[x.1]? := fun i x hx => o1 x.1 (by rw [← hsz]; exact (hH.2.2.2 i x hx).lt)
  refine hk ls _ _ h la H1 locs (cells + 1) (slots + N) hl (hH.push (by rw [z1, hsz]) ((hH.2.2.2.kept hk9).app (fun i x hx => ?_))) ⟨by have := hS.1; omega, fun x q1 q2 => (o1 x (by have := hS.1; omega)).trans (hS.2.1 x q1 q2), hS.2.2⟩ (by simp; omega) (by rw [jsl_app]; simp [jsl, jz1]; omega)
  have hz : i < 1 := (List.getElem?_eq_some_iff.mp hx).1
  rw [show i = 0 by omega] at hx
  cases hx
  exact e1
def i_newB (X : jX) (k : jK) : jK := fun ls st M => ∃ (n : Int32) (N : Nat) (st' : List Value), st = .int n :: st' ∧ ¬ n < 0 ∧ n.toNatClampNeg = N ∧ N ≤ 100000 ∧ M.1.length + 1 ≤ X.2.2.2.1 ∧ jsl M.1 + N ≤ X.2.2.2.2 ∧ k ls (.ref M.1.length :: st') (M.1 ++ [.inl (.byte, N)], va_up M.2.1 M.1.length (fun _ => 0), va_up M.2.2 M.1.length (fun _ => 0))
theorem x_newB {n : Int32} {N : Nat} {ls : jL} {st : List Value} {M : jM} (h0 : ¬ n < 0) (hN : n.toNatClampNeg = N) (hb : N ≤ 100000) (h1 : M.1.length + 1 ≤ X.2.2.2.1) (h2 : jsl M.1 + N ≤ X.2.2.2.2) (h : k ls (.ref M.1.length :: st) (M.1 ++ [.inl (.byte, N)], va_up M.2.1 M.1.length (fun _ => 0), va_up M.2.2 M.1.length (fun _ => 0))) : i_newB X k ls (.int n :: st) M := ⟨n, N, st, rfl, h0, hN, hb, h1, h2, h⟩
theorem s_newB (hC : jC tab p l e R s m args below meth c Q g nL n0 z0 cc own nm X) (hw : Cond.arrayClass .byte ∈ lw_tbl) (hd : decode cc pc = .ok (.newarray .byte, 2)) (hk : jSn p l e R s m args below meth c Q g nL n0 z0 (pc + 2) (k)) : jSn p l e R s m args below meth c Q g nL n0 z0 (pc) (i_newB X k) := by
  rintro ls st M ⟨n, N, st', rfl, hn0, hN, hb, hc1, hc2, h⟩ la H locs cells slots hl hH hS h1 h2
  have env := hC.2.2.2.2.2.1
  have r1 := hC.2.2.2.2.2.2.2.2.2.1
  have r2 := hC.2.2.2.2.2.2.2.2.2.2.1
  have hsz : H.size = jad g M.1.length := by rw [hH.2.1, hC.2.2.2.2.1.1 _ hH.1]
  refine va_newaK (atype := .byte) hC.1 hC.2.1 (env.2.1 _ hw rfl args) rfl hd rfl hn0 hN (Nat.le_trans (Nat.mul_le_mul hb (show componentBytes (newarray.typeOf .byte) ≤ 8 from Nat.le_of_ble_eq_true rfl)) (Nat.le_of_ble_eq_true rfl)) (by omega) (by omega) hsz (fun H1 cA e1 z1 o1 hAr hNm => ?_)
  have ecA : cA = jcT g .byte := by
    have h9 : s.vm.findClass ("[" ++ FieldType.toString .byte) = some (jcT g .byte) := (env.1.2 1 _ rfl).2
    exact Option.some.inj (hNm.symm.trans h9)
  subst ecA
  have hk9 : ∀ (i : Nat) (x : Nat × va_E), (jw (jad g) (jcT g) M)[i]? = some x → H1[x.1]? = H[x.1]? := fun i x hx => o1 x.1 (by rw [← hsz]; exact (hH.2.2.2 i x hx).lt)
  refine hk ls _ _ h la H1 locs (cells + 1) (slots + N) hl (hH.push (by rw [z1, hsz]) ((hH.2.2.2.kept hk9).app (fun i x hx => ?_))) ⟨by have := hS.1; omega, fun x q1 q2 => (o1 x (by have := hS.1; omega)).trans (hS.2.1 x q1 q2), hS.2.2⟩ (by simp; omega) (by rw [jsl_app]; simp [jsl, jz1]; omega)
  have hz : i < 1 := (List.getElem?_eq_some_iff.mp hx).1
  rw [show i = 0 by omega] at hx
  cases hx
  exact e1
def i_newJ (X : jX) (k : jK) : jK := fun ls st M => ∃ (n : Int32) (N : Nat) (st' : List Value), st = .int n :: st' ∧ ¬ n < 0 ∧ n.toNatClampNeg = N ∧ N ≤ 100000 ∧ M.1.length + 1 ≤ X.2.2.2.1 ∧ jsl M.1 + N ≤ X.2.2.2.2 ∧ k ls (.ref M.1.length :: st') (M.1 ++ [.inl (.long, N)], va_up M.2.1 M.1.length (fun _ => 0), va_up M.2.2 M.1.length (fun _ => 0))
theorem x_newJ {n : Int32} {N : Nat} {ls : jL} {st : List Value} {M : jM} (h0 : ¬ n < 0) (hN : n.toNatClampNeg = N) (hb : N ≤ 100000) (h1 : M.1.length + 1 ≤ X.2.2.2.1) (h2 : jsl M.1 + N ≤ X.2.2.2.2) (h : k ls (.ref M.1.length :: st) (M.1 ++ [.inl (.long, N)], va_up M.2.1 M.1.length (fun _ => 0), va_up M.2.2 M.1.length (fun _ => 0))) : i_newJ X k ls (.int n :: st) M := ⟨n, N, st, rfl, h0, hN, hb, h1, h2, h⟩
theorem s_newJ (hC : jC tab p l e R s m args below meth c Q g nL n0 z0 cc own nm X) (hw : Cond.arrayClass .long ∈ lw_tbl) (hd : decode cc pc = .ok (.newarray .long, 2)) (hk : jSn p l e R s m args below meth c Q g nL n0 z0 (pc + 2) (k)) : jSn p l e R s m args below meth c Q g nL n0 z0 (pc) (i_newJ X k) := by
  rintro ls st M ⟨n, N, st', rfl, hn0, hN, hb, hc1, hc2, h⟩ la H locs cells slots hl hH hS h1 h2
  have env := hC.2.2.2.2.2.1
  have r1 := hC.2.2.2.2.2.2.2.2.2.1
  have r2 := hC.2.2.2.2.2.2.2.2.2.2.1
  have hsz : H.size = jad g M.1.length := by rw [hH.2.1, hC.2.2.2.2.1.1 _ hH.1]
  refine va_newaK (atype := .long) hC.1 hC.2.1 (env.2.1 _ hw rfl args) rfl hd rfl hn0 hN (Nat.le_trans (Nat.mul_le_mul hb (show componentBytes (newarray.typeOf .long) ≤ 8 from Nat.le_of_ble_eq_true rfl)) (Nat.le_of_ble_eq_true rfl)) (by omega) (by omega) hsz (fun H1 cA e1 z1 o1 hAr hNm => ?_)
  have ecA : cA = jcT g .long := by
    have h9 : s.vm.findClass ("[" ++ FieldType.toString .long) = some (jcT g .long) := (env.1.2 2 _ rfl).2
    exact Option.some.inj (hNm.symm.trans h9)
  subst ecA
  have hk9 : ∀ (i : Nat) (x : Nat × va_E), (jw (jad g) (jcT g) M)[i]? = some x → H1[x.1]? = H[x.1]? := fun i x hx => o1 x.1 (by rw [← hsz]; exact (hH.2.2.2 i x hx).lt)
  refine hk ls _ _ h la H1 locs (cells + 1) (slots + N) hl (hH.push (by rw [z1, hsz]) ((hH.2.2.2.kept hk9).app (fun i x hx => ?_))) ⟨by have := hS.1; omega, fun x q1 q2 => (o1 x (by have := hS.1; omega)).trans (hS.2.1 x q1 q2), hS.2.2⟩ (by simp; omega) (by rw [jsl_app]; simp [jsl, jz1]; omega)
  have hz : i < 1 := (List.getElem?_eq_some_iff.mp hx).1
  rw [show i = 0 by omega] at hx
  cases hx
  exact e1
def i_new (X : jX) (ci : Nat) (ds : List Value) (k : jK) : jK := fun ls st M => M.1.length + 1 ≤ X.2.2.2.1 ∧ jsl M.1 + ds.length ≤ X.2.2.2.2 ∧ k ls (.ref M.1.length :: st) (M.1 ++ [.inr (.inr (ci, ds))], va_up M.2.1 M.1.length (fun _ => 0), va_up M.2.2 M.1.length (fun _ => 0))
theorem x_new {ci : Nat} {ds : List Value} {ls : jL} {st : List Value} {M : jM} (h1 : M.1.length + 1 ≤ X.2.2.2.1) (h2 : jsl M.1 + ds.length ≤ X.2.2.2.2) (h : k ls (.ref M.1.length :: st) (M.1 ++ [.inr (.inr (ci, ds))], va_up M.2.1 M.1.length (fun _ => 0), va_up M.2.2 M.1.length (fun _ => 0))) : i_new X ci ds k ls st M := ⟨h1, h2, h⟩
theorem s_new (hC : jC tab p l e R s m args below meth c Q g nL n0 z0 cc own nm X) {ci idx N : Nat} {C : String} {T : u_T} {ty0 : Nat → FieldType} {ds : List Value} (hc : vwCl[ci]? = some (C, T, N)) (ho : jclok C T N) (hty : ∀ k, k < N → parseFieldDescriptor (T k).2.2.1 = some (ty0 k)) (hN : ds.length = N) (hds : ∀ j, j < N → defaultValue (ty0 j) = vp_V ds j) (hz : ∀ ad, jfs ad (fun _ => 0) (fun _ => 0) ds 0 = ds) (w1 : Cond.classLink own idx C ∈ lw_tbl) (w2 : Cond.instantiable C N ∈ lw_tbl) (w3 : Cond.initialized C ∈ lw_tbl) (hd : decode cc pc = .ok (.new idx, 3)) (hk : jSn p l e R s m args below meth c Q g nL n0 z0 (pc + 3) (k)) : jSn p l e R s m args below meth c Q g nL n0 z0 (pc) (i_new X ci ds k) := by
  rintro ls st M ⟨hc1, hc2, h⟩ la H locs cells slots hl hH hS h1 h2
  have env := hC.2.2.2.2.2.1
  have r1 := hC.2.2.2.2.2.2.2.2.2.1
  have r2 := hC.2.2.2.2.2.2.2.2.2.2.1
  have hsz : H.size = jad g M.1.length := by rw [hH.2.1, hC.2.2.2.2.1.1 _ hH.1]
  have hts : ∀ w ∈ u_ws C T N, w.before args s = true := fun w hw => env.2.1 w (ho w hw).1 (ho w hw).2 args
  have hKn := env.1.1 ci _ hc
  refine W.newcK hC.1 hC.2.1 hC.2.2.2.1 (env.2.1 _ w1 rfl args) (env.2.1 _ w2 rfl args) (env.2.1 _ w3 rfl args) rfl hd (by omega) (by omega) hKn.2.1 hsz fun H1 kC hkC e1 z1 o1 => ?_
  have hk9 : ∀ (i : Nat) (x : Nat × va_E), (jw (jad g) (jcT g) M)[i]? = some x → H1[x.1]? = H[x.1]? := fun i x hx => o1 x.1 (by rw [← hsz]; exact (hH.2.2.2 i x hx).lt)
  refine hk ls _ _ h la H1 locs (cells + 1) (slots + N) hl (hH.push (by rw [z1, hsz]) ((hH.2.2.2.kept hk9).app (fun i x hx => ?_))) ⟨by have := hS.1; omega, fun x q1 q2 => (o1 x (by have := hS.1; omega)).trans (hS.2.1 x q1 q2), hS.2.2⟩ (by simp; omega) (by rw [jsl_app]; simp [jsl, jz1]; omega)
  have hz9 : i < 1 := (List.getElem?_eq_some_iff.mp hx).1
  rw [show i = 0 by omega] at hx
  cases hx
  show va_at (jDD g) vwCl (jad g M.1.length, .inr (ci, jfs (jad g) (fun _ => 0) (fun _ => 0) ds 0)) H1
  rw [hz]
  exact ⟨_, hc, (u_born ty0 hts (fun _ z => z) hKn hkC e1 hty).to hds⟩
def i_objInit (k : jK) : jK := fun ls st M => ∃ (a : Nat) (st' : List Value), st = .ref a :: st' ∧ (st'.map Value.category).sum ≤ 8 ∧ k ls st' M
theorem x_objInit {a : Nat} {ls : jL} {st : List Value} {M : jM} (hs : (st.map Value.category).sum ≤ 8) (h : k ls st M) : i_objInit k ls (.ref a :: st) M := ⟨a, st, rfl, hs, h⟩
theorem jcat_map (ad : Nat → Nat) (st : List Value) : ((st.map (jt ad)).map fun v => v.category).sum = (st.map Value.category).sum := by
  rw [List.map_map]
  congr 1
  apply List.map_congr_left
  intro v _
  exact jt_cat ad v
theorem s_objInit (hC : jC tab p l e R s m args below meth c Q g nL n0 z0 cc own nm X) {idx : Nat} (w1 : Cond.methodLink own idx Lib.objectInit ∈ lw_tbl) (w2 : Cond.instanceMethod Lib.objectInit ∈ lw_tbl) (w3 : Cond.code Lib.objectInit ⟨#[0xb1]⟩ 1 none ∈ lw_tbl) (hd : decode cc pc = .ok (.invokespecial idx, 3)) (hk : jSn p l e R s m args below meth c Q g nL n0 z0 (pc + 3) (k)) : jSn p l e R s m args below meth c Q g nL n0 z0 (pc) (i_objInit k) := by
  rintro ls st M ⟨a, st', rfl, hs, h⟩ la H locs cells slots hl hH hS h1 h2
  have env := hC.2.2.2.2.2.1
  obtain ⟨F, f1, f2, -⟩ := hC.2.2.2.2.2.2.2.1
  refine W.objInit hC.1 hC.2.1 hC.2.2.2.1 (env.2.1 _ w1 rfl args) (env.2.1 _ w2 rfl args) (env.2.1 _ w3 rfl args) rfl (by show la.size = _; rw [hl.2.1, hC.2.2.1]) rfl hd (by omega) ?_ (hk ls _ M h la H locs cells slots hl hH hS h1 h2)
  have e9 := jcat_map (jad g) st'
  show 2 * 0 + _ + 12 ≤ _
  omega
end JN
