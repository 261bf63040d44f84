/-! CALLS -/
/-- what the tables say of a method -/
def jMv (mt : jMt) (n : Nat) : Prop := Cond.code mt.1 mt.2.1 mt.2.2.1 mt.2.2.2.1 ∈ lw_tbl ∧ Cond.initialized mt.1.cls ∈ lw_tbl ∧ (mt.1.cls ≠ "java/lang/invoke/MethodHandle" ∧ mt.1.cls ≠ "java/lang/invoke/VarHandle") ∧ (parseMethodDescriptor mt.1.desc).map (fun d => d.parameters.length) = some n ∧ mt.2.2.1 ≤ 45
section JCA
variable {tab : Nat → Option jMt} {p : Program} {l : Launch} {e : Env} {R : Room} {s : State} {m : MethodId} {args : Array Value} {below : List Frame} {meth : Method} {c : Code} {Q : State → Prop} {g : jG} {nL n0 z0 : Nat} {cc : ByteArray} {own nm : String} {X : jX} {pc : Nat} {k : jK}
def i_invV (X : jX) (q np ci : Nat) (k : jK) : jK := fun ls st M => ∃ (as : List Value) (b : Nat) (fs rest : List Value) (cN zN : Nat), st = as.reverse ++ .ref b :: rest ∧ as.length = np ∧ jR ≤ b ∧ jn M.1 b = some (.inr (.inr (ci, fs))) ∧ (rest.map Value.category).sum ≤ 8 ∧ M.1.length + cN ≤ X.2.2.2.1 ∧ jsl M.1 + zN ≤ X.2.2.2.2 ∧ X.1 q (.ref b :: as) M cN zN (fun r M2 => k ls (r.toList ++ rest) M2)
def i_invT (X : jX) (q np : Nat) (k : jK) : jK := fun ls st M => ∃ (as : List Value) (b kv ci : Nat) (z : Int32) (rest : List Value) (cN zN : Nat), st = as.reverse ++ .ref b :: rest ∧ as.length = np ∧ b < jR ∧ jn M.1 b = some (.inr (.inr (ci, [.ref kv, .int z]))) ∧ (rest.map Value.category).sum ≤ 8 ∧ M.1.length + cN ≤ X.2.2.2.1 ∧ jsl M.1 + zN ≤ X.2.2.2.2 ∧ X.1 q (.ref b :: as) M cN zN (fun r M2 => k ls (r.toList ++ rest) M2)
def i_invS (X : jX) (q np : Nat) (k : jK) : jK := fun ls st M => ∃ (as rest : List Value) (cN zN : Nat), st = as.reverse ++ rest ∧ as.length = np ∧ (rest.map Value.category).sum ≤ 8 ∧ M.1.length + cN ≤ X.2.2.2.1 ∧ jsl M.1 + zN ≤ X.2.2.2.2 ∧ X.1 q as M cN zN (fun r M2 => k ls (r.toList ++ rest) M2)
def i_invI (X : jX) (q np : Nat) (k : jK) : jK := fun ls st M => ∃ (as : List Value) (b : Nat) (rest : List Value) (cN zN : Nat), st = as.reverse ++ .ref b :: rest ∧ as.length = np ∧ (rest.map Value.category).sum ≤ 8 ∧ M.1.length + cN ≤ X.2.2.2.1 ∧ jsl M.1 + zN ≤ X.2.2.2.2 ∧ X.1 q (.ref b :: as) M cN zN (fun r M2 => k ls (r.toList ++ rest) M2)
theorem x_invV0 {q b ci : Nat} {fs : List Value} {ls : jL} {st : List Value} {M : jM} {cN zN : Nat} (hb : jR ≤ b) (hs : jn M.1 b = some (.inr (.inr (ci, fs)))) (hr : (st.map Value.category).sum ≤ 8) (h1 : M.1.length + cN ≤ X.2.2.2.1) (h2 : jsl M.1 + zN ≤ X.2.2.2.2) (hE : X.1 q [.ref b] M cN zN (fun r M2 => k ls (r.toList ++ st) M2)) : i_invV X q 0 ci k ls (.ref b :: st) M := ⟨[], b, fs, st, cN, zN, rfl, rfl, hb, hs, hr, h1, h2, hE⟩
theorem x_invT0 {q b kv ci : Nat} {z : Int32} {ls : jL} {st : List Value} {M : jM} {cN zN : Nat} (hb : b < jR) (hs : jn M.1 b = some (.inr (.inr (ci, [.ref kv, .int z])))) (hr : (st.map Value.category).sum ≤ 8) (h1 : M.1.length + cN ≤ X.2.2.2.1) (h2 : jsl M.1 + zN ≤ X.2.2.2.2) (hE : X.1 q [.ref b] M cN zN (fun r M2 => k ls (r.toList ++ st) M2)) : i_invT X q 0 k ls (.ref b :: st) M := ⟨[], b, kv, ci, z, st, cN, zN, rfl, rfl, hb, hs, hr, h1, h2, hE⟩
theorem x_invI0 {q b : Nat} {ls : jL} {st : List Value} {M : jM} {cN zN : Nat} (hr : (st.map Value.category).sum ≤ 8) (h1 : M.1.length + cN ≤ X.2.2.2.1) (h2 : jsl M.1 + zN ≤ X.2.2.2.2) (hE : X.1 q [.ref b] M cN zN (fun r M2 => k ls (r.toList ++ st) M2)) : i_invI X q 0 k ls (.ref b :: st) M := ⟨[], b, st, cN, zN, rfl, rfl, hr, h1, h2, hE⟩
theorem x_invV1 {q b ci : Nat} {fs : List Value} {ls : jL} {v1 : Value} {st : List Value} {M : jM} {cN zN : Nat} (hb : jR ≤ b) (hs : jn M.1 b = some (.inr (.inr (ci, fs)))) (hr : (st.map Value.category).sum ≤ 8) (h1 : M.1.length + cN ≤ X.2.2.2.1) (h2 : jsl M.1 + zN ≤ X.2.2.2.2) (hE : X.1 q [.ref b, v1] M cN zN (fun r M2 => k ls (r.toList ++ st) M2)) : i_invV X q 1 ci k ls (v1 :: .ref b :: st) M := ⟨[v1], b, fs, st, cN, zN, rfl, rfl, hb, hs, hr, h1, h2, hE⟩
theorem x_invT1 {q b kv ci : Nat} {z : Int32} {ls : jL} {v1 : Value} {st : List Value} {M : jM} {cN zN : Nat} (hb : b < jR) (hs : jn M.1 b = some (.inr (.inr (ci, [.ref kv, .int z])))) (hr : (st.map Value.category).sum ≤ 8) (h1 : M.1.length + cN ≤ X.2.2.2.1) (h2 : jsl M.1 + zN ≤ X.2.2.2.2) (hE : X.1 q [.ref b, v1] M cN zN (fun r M2 => k ls (r.toList ++ st) M2)) : i_invT X q 1 k ls (v1 :: .ref b :: st) M := ⟨[v1], b, kv, ci, z, st, cN, zN, rfl, rfl, hb, hs, hr, h1, h2, hE⟩
theorem x_invS1 {q : Nat} {ls : jL} {v1 : Value} {st : List Value} {M : jM} {cN zN : Nat} (hr : (st.map Value.category).sum ≤ 8) (h1 : M.1.length + cN ≤ X.2.2.2.1) (h2 : jsl M.1 + zN ≤ X.2.2.2.2) (hE : X.1 q [v1] M cN zN (fun r M2 => k ls (r.toList ++ st) M2)) : i_invS X q 1 k ls (v1 :: st) M := ⟨[v1], st, cN, zN, rfl, rfl, hr, h1, h2, hE⟩
theorem x_invV2 {q b ci : Nat} {fs : List Value} {ls : jL} {v1 v2 : Value} {st : List Value} {M : jM} {cN zN : Nat} (hb : jR ≤ b) (hs : jn M.1 b = some (.inr (.inr (ci, fs)))) (hr : (st.map Value.category).sum ≤ 8) (h1 : M.1.length + cN ≤ X.2.2.2.1) (h2 : jsl M.1 + zN ≤ X.2.2.2.2) (hE : X.1 q [.ref b, v1, v2] M cN zN (fun r M2 => k ls (r.toList ++ st) M2)) : i_invV X q 2 ci k ls (v2 :: v1 :: .ref b :: st) M := ⟨[v1, v2], b, fs, st, cN, zN, rfl, rfl, hb, hs, hr, h1, h2, hE⟩
theorem x_invT2 {q b kv ci : Nat} {z : Int32} {ls : jL} {v1 v2 : Value} {st : List Value} {M : jM} {cN zN : Nat} (hb : b < jR) (hs : jn M.1 b = some (.inr (.inr (ci, [.ref kv, .int z])))) (hr : (st.map Value.category).sum ≤ 8) (h1 : M.1.length + cN ≤ X.2.2.2.1) (h2 : jsl M.1 + zN ≤ X.2.2.2.2) (hE : X.1 q [.ref b, v1, v2] M cN zN (fun r M2 => k ls (r.toList ++ st) M2)) : i_invT X q 2 k ls (v2 :: v1 :: .ref b :: st) M := ⟨[v1, v2], b, kv, ci, z, st, cN, zN, rfl, rfl, hb, hs, hr, h1, h2, hE⟩
theorem x_invS2 {q : Nat} {ls : jL} {v1 v2 : Value} {st : List Value} {M : jM} {cN zN : Nat} (hr : (st.map Value.category).sum ≤ 8) (h1 : M.1.length + cN ≤ X.2.2.2.1) (h2 : jsl M.1 + zN ≤ X.2.2.2.2) (hE : X.1 q [v1, v2] M cN zN (fun r M2 => k ls (r.toList ++ st) M2)) : i_invS X q 2 k ls (v2 :: v1 :: st) M := ⟨[v1, v2], st, cN, zN, rfl, rfl, hr, h1, h2, hE⟩
theorem x_invV3 {q b ci : Nat} {fs : List Value} {ls : jL} {v1 v2 v3 : Value} {st : List Value} {M : jM} {cN zN : Nat} (hb : jR ≤ b) (hs : jn M.1 b = some (.inr (.inr (ci, fs)))) (hr : (st.map Value.category).sum ≤ 8) (h1 : M.1.length + cN ≤ X.2.2.2.1) (h2 : jsl M.1 + zN ≤ X.2.2.2.2) (hE : X.1 q [.ref b, v1, v2, v3] M cN zN (fun r M2 => k ls (r.toList ++ st) M2)) : i_invV X q 3 ci k ls (v3 :: v2 :: v1 :: .ref b :: st) M := ⟨[v1, v2, v3], b, fs, st, cN, zN, rfl, rfl, hb, hs, hr, h1, h2, hE⟩
theorem x_invS3 {q : Nat} {ls : jL} {v1 v2 v3 : Value} {st : List Value} {M : jM} {cN zN : Nat} (hr : (st.map Value.category).sum ≤ 8) (h1 : M.1.length + cN ≤ X.2.2.2.1) (h2 : jsl M.1 + zN ≤ X.2.2.2.2) (hE : X.1 q [v1, v2, v3] M cN zN (fun r M2 => k ls (r.toList ++ st) M2)) : i_invS X q 3 k ls (v3 :: v2 :: v1 :: st) M := ⟨[v1, v2, v3], st, cN, zN, rfl, rfl, hr, h1, h2, hE⟩
theorem x_invV4 {q b ci : Nat} {fs : List Value} {ls : jL} {v1 v2 v3 v4 : Value} {st : List Value} {M : jM} {cN zN : Nat} (hb : jR ≤ b) (hs : jn M.1 b = some (.inr (.inr (ci, fs)))) (hr : (st.map Value.category).sum ≤ 8) (h1 : M.1.length + cN ≤ X.2.2.2.1) (h2 : jsl M.1 + zN ≤ X.2.2.2.2) (hE : X.1 q [.ref b, v1, v2, v3, v4] M cN zN (fun r M2 => k ls (r.toList ++ st) M2)) : i_invV X q 4 ci k ls (v4 :: v3 :: v2 :: v1 :: .ref b :: st) M := ⟨[v1, v2, v3, v4], b, fs, st, cN, zN, rfl, rfl, hb, hs, hr, h1, h2, hE⟩
theorem x_invS4 {q : Nat} {ls : jL} {v1 v2 v3 v4 : Value} {st : List Value} {M : jM} {cN zN : Nat} (hr : (st.map Value.category).sum ≤ 8) (h1 : M.1.length + cN ≤ X.2.2.2.1) (h2 : jsl M.1 + zN ≤ X.2.2.2.2) (hE : X.1 q [v1, v2, v3, v4] M cN zN (fun r M2 => k ls (r.toList ++ st) M2)) : i_invS X q 4 k ls (v4 :: v3 :: v2 :: v1 :: st) M := ⟨[v1, v2, v3, v4], st, cN, zN, rfl, rfl, hr, h1, h2, hE⟩
theorem x_invV5 {q b ci : Nat} {fs : List Value} {ls : jL} {v1 v2 v3 v4 v5 : Value} {st : List Value} {M : jM} {cN zN : Nat} (hb : jR ≤ b) (hs : jn M.1 b = some (.inr (.inr (ci, fs)))) (hr : (st.map Value.category).sum ≤ 8) (h1 : M.1.length + cN ≤ X.2.2.2.1) (h2 : jsl M.1 + zN ≤ X.2.2.2.2) (hE : X.1 q [.ref b, v1, v2, v3, v4, v5] M cN zN (fun r M2 => k ls (r.toList ++ st) M2)) : i_invV X q 5 ci k ls (v5 :: v4 :: v3 :: v2 :: v1 :: .ref b :: st) M := ⟨[v1, v2, v3, v4, v5], b, fs, st, cN, zN, rfl, rfl, hb, hs, hr, h1, h2, hE⟩
theorem x_invS5 {q : Nat} {ls : jL} {v1 v2 v3 v4 v5 : Value} {st : List Value} {M : jM} {cN zN : Nat} (hr : (st.map Value.category).sum ≤ 8) (h1 : M.1.length + cN ≤ X.2.2.2.1) (h2 : jsl M.1 + zN ≤ X.2.2.2.2) (hE : X.1 q [v1, v2, v3, v4, v5] M cN zN (fun r M2 => k ls (r.toList ++ st) M2)) : i_invS X q 5 k ls (v5 :: v4 :: v3 :: v2 :: v1 :: st) M := ⟨[v1, v2, v3, v4, v5], st, cN, zN, rfl, rfl, hr, h1, h2, hE⟩
theorem jCallB (hC : jC tab p l e R s m args below meth c Q g nL n0 z0 cc own nm X) {mt : jMt} {idx n F cN zN : Nat} (hm : jMv mt n) (hlink : Cond.methodLink own idx mt.1 ∈ lw_tbl) (f1 : F + 1 ≤ R.frames) (f2 : 64 * (F + 1) ≤ R.locals) : CallB R s args own idx mt.1 mt.2.1 mt.2.2.1 mt.2.2.2.1 [.code mt.1 mt.2.1 mt.2.2.1 mt.2.2.2.1] (jrm F cN zN) cN zN n := by
  have env := hC.2.2.2.2.2.1
  obtain ⟨m1, m2, m3, m4, m5⟩ := hm
  refine ⟨rfl, rfl, f1, by show 8 + (mt.2.2.1 + 11) + 64 * F ≤ _; omega, fun w hw a' U hW => ?_, List.mem_cons_self, env.2.1 _ m1 rfl args, env.2.1 _ m2 rfl args, m3, fun sig hsig => ?_, env.2.1 _ hlink rfl args⟩
  · rw [List.mem_singleton.mp hw]
    exact word_at hW (good_of_word rfl) (env.2.1 _ m1 rfl args)
  · rw [hsig] at m4
    exact (Option.some.inj m4).symm
theorem jCallN (hC : jC tab p l e R s m args below meth c Q g nL n0 z0 cc own nm X) {mt : jMt} {idx n F cN zN : Nat} {host : String} (hm : jMv mt n) (hlink : (own, idx, mt.1, host) ∈ jnest) (f1 : F + 1 ≤ R.frames) (f2 : 64 * (F + 1) ≤ R.locals) : va_CN R s args own idx mt.1 host mt.2.1 mt.2.2.1 mt.2.2.2.1 [.code mt.1 mt.2.1 mt.2.2.1 mt.2.2.2.1] (jrm F cN zN) cN zN n := by
  have env := hC.2.2.2.2.2.1
  obtain ⟨m1, m2, m3, m4, m5⟩ := hm
  refine ⟨⟨rfl, rfl, f1, by show 8 + (mt.2.2.1 + 11) + 64 * F ≤ _; omega, fun w hw a' U hW => ?_, List.mem_cons_self⟩, env.2.1 _ m1 rfl args, env.2.1 _ m2 rfl args, m3, fun sig hsig => ?_, va_Nw.use rfl (env.2.2.1 _ hlink)⟩
  · rw [List.mem_singleton.mp hw]
    exact word_at hW (good_of_word rfl) (env.2.1 _ m1 rfl args)
  · rw [hsig] at m4
    exact (Option.some.inj m4).symm
theorem jPreOk (hC : jC tab p l e R s m args below meth c Q g nL n0 z0 cc own nm X) {M : jM} {H : Heap} {locs : List Loc} (hH : jH g M H) (hS : va_S (jA g) s.heap H locs) (as : List Value) : ∀ U : State, U.heap = H → s.WarmedH U.vm → jPc g as M (as.map (jt (jad g))).toArray U := by
  intro U hU hW
  exact ⟨rfl, by rw [hU]; exact hH, by rw [hU]; exact hC.2.2.2.2.2.1.move hW (fun q h1 h2 => hS.2.1 q h1 h2)⟩
theorem s_invV (hC : jC tab p l e R s m args below meth c Q g nL n0 z0 cc own nm X) {q np idx ci N : Nat} {mt : jMt} {C : String} {T : u_T} (hc : vwCl[ci]? = some (C, T, N)) (hcC : C = mt.1.cls) (hlink : Cond.methodLink own idx mt.1 ∈ lw_tbl) (hin : Cond.instanceMethod mt.1 ∈ lw_tbl) (hse : Cond.selects C mt.1 mt.1 ∈ lw_tbl) (hq : tab q = some mt) (hm : jMv mt np) (hd : decode cc pc = .ok (.invokevirtual idx, 3)) (hk : jSn p l e R s m args below meth c Q g nL n0 z0 (pc + 3) (k)) : jSn p l e R s m args below meth c Q g nL n0 z0 (pc) (i_invV X q np ci k) := by
  rintro ls st M ⟨as, b, fs, rest, cN, zN, hst, hn, hb, hs, hrest, c1, c2, hE⟩ la H locs cells slots hl hH hS h1 h2
  have env := hC.2.2.2.2.2.1
  obtain ⟨F, f1, f2, hE9⟩ := hC.2.2.2.2.2.2.2.1
  obtain ⟨mt', hq', hM⟩ := hE9 _ _ _ _ _ _ hE
  cases hq.symm.trans hq'
  have r1 := hC.2.2.2.2.2.2.2.2.2.1
  have r2 := hC.2.2.2.2.2.2.2.2.2.2.1
  have hPre := jPreOk hC hH hS (.ref b :: as)
  have hrm : 2 * (F0 m pc la (List.map (jt (jad g)) st)).monitorRoom + ((List.map (jt (jad g)) rest).map fun v => v.category).sum ≤ 8 := lv_room (rest := List.map (jt (jad g)) st) (by rw [jcat_map]; exact hrest)
  subst hst
  have hr := va_runV (C := C) (b := jad g b) (R := R) (H := H) (n := np) (cells := cells) (slots := slots) (locs := locs) (below := below) (meth := meth) (e := e) (As := as.map (jt (jad g))) (rest := rest.map (jt (jad g))) (g := F0 m pc la (List.map (jt (jad g)) (as.reverse ++ .ref b :: rest))) (Ts := []) (nL := nL) ⟨hC.1, hC.2.1, hC.2.2.1, hC.2.2.2.1, fun w hw => absurd hw List.not_mem_nil⟩ hM ⟨jCallB hC hm hlink f1 f2, env.2.1 _ hin rfl args, env.2.1 _ hse rfl args⟩ ⟨jPc_blind g _ M, va_recv env.1 hH.2.2.2 hc (jw_get hb hs), hPre⟩ rfl (by simp [hn]) hl.2.1 (by simp [jt]) hrm hd ⟨by omega, by omega⟩
  refine jcall hr hS (fun r M2 H1 locs1 hp hH1 hS1 => ?_)
  obtain ⟨p1, p2, h⟩ := hp
  have hgo := hk ls _ M2 h la H1 locs1 (cells + cN) (slots + zN) hl hH1 hS1 (by omega) (by omega)
  rw [List.map_append] at hgo
  have er : List.map (jt (jad g)) r.toList = (r.map (jt (jad g))).toList := by cases r <;> rfl
  rw [er] at hgo
  exact hgo
theorem s_invT (hC : jC tab p l e R s m args below meth c Q g nL n0 z0 cc own nm X) {q np idx : Nat} {mt : jMt} (hcC : mt.1.cls = "java/lang/String") (hlink : Cond.methodLink own idx mt.1 ∈ lw_tbl) (hin : Cond.instanceMethod mt.1 ∈ lw_tbl) (hse : Cond.selects mt.1.cls mt.1 mt.1 ∈ lw_tbl) (hq : tab q = some mt) (hm : jMv mt np) (hd : decode cc pc = .ok (.invokevirtual idx, 3)) (hk : jSn p l e R s m args below meth c Q g nL n0 z0 (pc + 3) (k)) : jSn p l e R s m args below meth c Q g nL n0 z0 (pc) (i_invT X q np k) := by
  rintro ls st M ⟨as, b, kv, ci, z, rest, cN, zN, hst, hn, hb, hs, hrest, c1, c2, hE⟩ la H locs cells slots hl hH hS h1 h2
  have env := hC.2.2.2.2.2.1
  obtain ⟨F, f1, f2, hE9⟩ := hC.2.2.2.2.2.2.2.1
  obtain ⟨mt', hq', hM⟩ := hE9 _ _ _ _ _ _ hE
  cases hq.symm.trans hq'
  have r1 := hC.2.2.2.2.2.2.2.2.2.1
  have r2 := hC.2.2.2.2.2.2.2.2.2.2.1
  have hPre := jPreOk hC hH hS (.ref b :: as)
  have hrm : 2 * (F0 m pc la (List.map (jt (jad g)) st)).monitorRoom + ((List.map (jt (jad g)) rest).map fun v => v.category).sum ≤ 8 := lv_room (rest := List.map (jt (jad g)) st) (by rw [jcat_map]; exact hrest)
  subst hst
  have hr := va_runV (C := mt.1.cls) (b := jad g b) (R := R) (H := H) (n := np) (cells := cells) (slots := slots) (locs := locs) (below := below) (meth := meth) (e := e) (As := as.map (jt (jad g))) (rest := rest.map (jt (jad g))) (g := F0 m pc la (List.map (jt (jad g)) (as.reverse ++ .ref b :: rest))) (Ts := []) (nL := nL) ⟨hC.1, hC.2.1, hC.2.2.1, hC.2.2.2.1, fun w hw => absurd hw List.not_mem_nil⟩ hM ⟨jCallB hC hm hlink f1 f2, env.2.1 _ hin rfl args, env.2.1 _ hse rfl args⟩ ⟨jPc_blind g _ M, (by obtain ⟨q1, q2⟩ := hH.ro hb hs; obtain ⟨⟨cell, t1, t2, t3, t4⟩, -, -⟩ := env.2.2.2.2.1 b _ hb q1; exact ⟨cell, by rw [hS.2.1 _ (Array.getElem?_eq_some_iff.mp t1).1 t4]; exact t1, t2, by rw [hcC]; exact t3⟩), hPre⟩ rfl (by simp [hn]) hl.2.1 (by simp [jt]) hrm hd ⟨by omega, by omega⟩
  refine jcall hr hS (fun r M2 H1 locs1 hp hH1 hS1 => ?_)
  obtain ⟨p1, p2, h⟩ := hp
  have hgo := hk ls _ M2 h la H1 locs1 (cells + cN) (slots + zN) hl hH1 hS1 (by omega) (by omega)
  rw [List.map_append] at hgo
  have er : List.map (jt (jad g)) r.toList = (r.map (jt (jad g))).toList := by cases r <;> rfl
  rw [er] at hgo
  exact hgo
theorem s_invS (hC : jC tab p l e R s m args below meth c Q g nL n0 z0 cc own nm X) {q np idx : Nat} {mt : jMt} (hlink : Cond.methodLink own idx mt.1 ∈ lw_tbl) (hin : Cond.static mt.1 ∈ lw_tbl) (hq : tab q = some mt) (hm : jMv mt np) (hd : decode cc pc = .ok (.invokestatic idx, 3)) (hk : jSn p l e R s m args below meth c Q g nL n0 z0 (pc + 3) (k)) : jSn p l e R s m args below meth c Q g nL n0 z0 (pc) (i_invS X q np k) := by
  rintro ls st M ⟨as, rest, cN, zN, hst, hn, hrest, c1, c2, hE⟩ la H locs cells slots hl hH hS h1 h2
  have env := hC.2.2.2.2.2.1
  obtain ⟨F, f1, f2, hE9⟩ := hC.2.2.2.2.2.2.2.1
  obtain ⟨mt', hq', hM⟩ := hE9 _ _ _ _ _ _ hE
  cases hq.symm.trans hq'
  have r1 := hC.2.2.2.2.2.2.2.2.2.1
  have r2 := hC.2.2.2.2.2.2.2.2.2.2.1
  have hPre := jPreOk hC hH hS as
  have hrm : 2 * (F0 m pc la (List.map (jt (jad g)) st)).monitorRoom + ((List.map (jt (jad g)) rest).map fun v => v.category).sum ≤ 8 := lv_room (rest := List.map (jt (jad g)) st) (by rw [jcat_map]; exact hrest)
  subst hst
  have hr := va_runS (R := R) (H := H) (n := np) (cells := cells) (slots := slots) (locs := locs) (below := below) (meth := meth) (e := e) (As := as.map (jt (jad g))) (rest := rest.map (jt (jad g))) (g := F0 m pc la (List.map (jt (jad g)) (as.reverse ++ rest))) (Ts := []) (nL := nL) ⟨hC.1, hC.2.1, hC.2.2.1, hC.2.2.2.1, fun w hw => absurd hw List.not_mem_nil⟩ hM ⟨jCallB hC hm hlink f1 f2, env.2.1 _ hin rfl args⟩ ⟨jPc_blind g _ M, hPre⟩ rfl (by simp [hn]) hl.2.1 (by simp [jt]) hrm hd ⟨by omega, by omega⟩
  refine jcall hr hS (fun r M2 H1 locs1 hp hH1 hS1 => ?_)
  obtain ⟨p1, p2, h⟩ := hp
  have hgo := hk ls _ M2 h la H1 locs1 (cells + cN) (slots + zN) hl hH1 hS1 (by omega) (by omega)
  rw [List.map_append] at hgo
  have er : List.map (jt (jad g)) r.toList = (r.map (jt (jad g))).toList := by cases r <;> rfl
  rw [er] at hgo
  exact hgo
theorem s_invSN (hC : jC tab p l e R s m args below meth c Q g nL n0 z0 cc own nm X) {q np idx : Nat} {mt : jMt} {host : String} (hlink : (own, idx, mt.1, host) ∈ jnest) (hin : Cond.static mt.1 ∈ lw_tbl) (hq : tab q = some mt) (hm : jMv mt np) (hd : decode cc pc = .ok (.invokestatic idx, 3)) (hk : jSn p l e R s m args below meth c Q g nL n0 z0 (pc + 3) (k)) : jSn p l e R s m args below meth c Q g nL n0 z0 (pc) (i_invS X q np k) := by
  rintro ls st M ⟨as, rest, cN, zN, hst, hn, hrest, c1, c2, hE⟩ la H locs cells slots hl hH hS h1 h2
  have env := hC.2.2.2.2.2.1
  obtain ⟨F, f1, f2, hE9⟩ := hC.2.2.2.2.2.2.2.1
  obtain ⟨mt', hq', hM⟩ := hE9 _ _ _ _ _ _ hE
  cases hq.symm.trans hq'
  have r1 := hC.2.2.2.2.2.2.2.2.2.1
  have r2 := hC.2.2.2.2.2.2.2.2.2.2.1
  have hPre := jPreOk hC hH hS as
  have hrm : 2 * (F0 m pc la (List.map (jt (jad g)) st)).monitorRoom + ((List.map (jt (jad g)) rest).map fun v => v.category).sum ≤ 8 := lv_room (rest := List.map (jt (jad g)) st) (by rw [jcat_map]; exact hrest)
  subst hst
  have hr := va_runSN (R := R) (H := H) (n := np) (cells := cells) (slots := slots) (locs := locs) (below := below) (meth := meth) (e := e) (As := as.map (jt (jad g))) (rest := rest.map (jt (jad g))) (g := F0 m pc la (List.map (jt (jad g)) (as.reverse ++ rest))) (Ts := []) (nL := nL) ⟨hC.1, hC.2.1, hC.2.2.1, hC.2.2.2.1, fun w hw => absurd hw List.not_mem_nil⟩ hM ⟨jCallN hC hm hlink f1 f2, env.2.1 _ hin rfl args, trivial⟩ ⟨jPc_blind g _ M, hPre⟩ rfl (by simp [hn]) hl.2.1 (by simp [jt]) hrm hd ⟨by omega, by omega⟩
  refine jcall hr hS (fun r M2 H1 locs1 hp hH1 hS1 => ?_)
  obtain ⟨p1, p2, h⟩ := hp
  have hgo := hk ls _ M2 h la H1 locs1 (cells + cN) (slots + zN) hl hH1 hS1 (by omega) (by omega)
  rw [List.map_append] at hgo
  have er : List.map (jt (jad g)) r.toList = (r.map (jt (jad g))).toList := by cases r <;> rfl
  rw [er] at hgo
  exact hgo
theorem s_invI (hC : jC tab p l e R s m args below meth c Q g nL n0 z0 cc own nm X) {q np idx : Nat} {mt : jMt} (hlink : Cond.methodLink own idx mt.1 ∈ lw_tbl) (hin : Cond.instanceMethod mt.1 ∈ lw_tbl) (hi : mt.1.name = "<init>") (hnr : mt.2.2.2.1 = none) (hq : tab q = some mt) (hm : jMv mt np) (hd : decode cc pc = .ok (.invokespecial idx, 3)) (hk : jSn p l e R s m args below meth c Q g nL n0 z0 (pc + 3) (k)) : jSn p l e R s m args below meth c Q g nL n0 z0 (pc) (i_invI X q np k) := by
  obtain ⟨y0, cd0, mL0, ret0, pr0⟩ := mt
  have hnr : ret0 = none := hnr
  subst hnr
  rintro ls st M ⟨as, b, rest, cN, zN, hst, hn, hrest, c1, c2, hE⟩ la H locs cells slots hl hH hS h1 h2
  have env := hC.2.2.2.2.2.1
  obtain ⟨F, f1, f2, hE9⟩ := hC.2.2.2.2.2.2.2.1
  obtain ⟨mt', hq', hM⟩ := hE9 _ _ _ _ _ _ hE
  cases hq.symm.trans hq'
  have r1 := hC.2.2.2.2.2.2.2.2.2.1
  have r2 := hC.2.2.2.2.2.2.2.2.2.2.1
  have hPre := jPreOk hC hH hS (.ref b :: as)
  have hrm : 2 * (F0 m pc la (List.map (jt (jad g)) st)).monitorRoom + ((List.map (jt (jad g)) rest).map fun v => v.category).sum ≤ 8 := lv_room (rest := List.map (jt (jad g)) st) (by rw [jcat_map]; exact hrest)
  subst hst
  have hr := va_runI (b := jad g b) (R := R) (H := H) (n := np) (cells := cells) (slots := slots) (locs := locs) (below := below) (meth := meth) (e := e) (As := as.map (jt (jad g))) (rest := rest.map (jt (jad g))) (g := F0 m pc la (List.map (jt (jad g)) (as.reverse ++ .ref b :: rest))) (Ts := []) (nL := nL) ⟨hC.1, hC.2.1, hC.2.2.1, hC.2.2.2.1, fun w hw => absurd hw List.not_mem_nil⟩ hM ⟨jCallB hC hm hlink f1 f2, hi, env.2.1 _ hin rfl args⟩ ⟨jPc_blind g _ M, hPre⟩ rfl (by simp [hn]) hl.2.1 (by simp [jt]) hrm hd ⟨by omega, by omega⟩
  refine jcall hr hS (fun r M2 H1 locs1 hp hH1 hS1 => ?_)
  obtain ⟨p1, p2, h⟩ := hp
  have hgo := hk ls _ M2 h la H1 locs1 (cells + cN) (slots + zN) hl hH1 hS1 (by omega) (by omega)
  rw [List.map_append] at hgo
  have er : List.map (jt (jad g)) r.toList = (r.map (jt (jad g))).toList := by cases r <;> rfl
  rw [er] at hgo
  exact hgo
theorem s_invIN (hC : jC tab p l e R s m args below meth c Q g nL n0 z0 cc own nm X) {q np idx : Nat} {mt : jMt} {host : String} (hlink : (own, idx, mt.1, host) ∈ jnest) (hin : Cond.instanceMethod mt.1 ∈ lw_tbl) (hi : mt.1.name = "<init>") (hnr : mt.2.2.2.1 = none) (hq : tab q = some mt) (hm : jMv mt np) (hd : decode cc pc = .ok (.invokespecial idx, 3)) (hk : jSn p l e R s m args below meth c Q g nL n0 z0 (pc + 3) (k)) : jSn p l e R s m args below meth c Q g nL n0 z0 (pc) (i_invI X q np k) := by
  obtain ⟨y0, cd0, mL0, ret0, pr0⟩ := mt
  have hnr : ret0 = none := hnr
  subst hnr
  rintro ls st M ⟨as, b, rest, cN, zN, hst, hn, hrest, c1, c2, hE⟩ la H locs cells slots hl hH hS h1 h2
  have env := hC.2.2.2.2.2.1
  obtain ⟨F, f1, f2, hE9⟩ := hC.2.2.2.2.2.2.2.1
  obtain ⟨mt', hq', hM⟩ := hE9 _ _ _ _ _ _ hE
  cases hq.symm.trans hq'
  have r1 := hC.2.2.2.2.2.2.2.2.2.1
  have r2 := hC.2.2.2.2.2.2.2.2.2.2.1
  have hPre := jPreOk hC hH hS (.ref b :: as)
  have hrm : 2 * (F0 m pc la (List.map (jt (jad g)) st)).monitorRoom + ((List.map (jt (jad g)) rest).map fun v => v.category).sum ≤ 8 := lv_room (rest := List.map (jt (jad g)) st) (by rw [jcat_map]; exact hrest)
  subst hst
  have hr := va_runIN (b := jad g b) (R := R) (H := H) (n := np) (cells := cells) (slots := slots) (locs := locs) (below := below) (meth := meth) (e := e) (As := as.map (jt (jad g))) (rest := rest.map (jt (jad g))) (g := F0 m pc la (List.map (jt (jad g)) (as.reverse ++ .ref b :: rest))) (Ts := []) (nL := nL) ⟨hC.1, hC.2.1, hC.2.2.1, hC.2.2.2.1, fun w hw => absurd hw List.not_mem_nil⟩ hM ⟨jCallN hC hm hlink f1 f2, hi, env.2.1 _ hin rfl args⟩ ⟨jPc_blind g _ M, hPre⟩ rfl (by simp [hn]) hl.2.1 (by simp [jt]) hrm hd ⟨by omega, by omega⟩
  refine jcall hr hS (fun r M2 H1 locs1 hp hH1 hS1 => ?_)
  obtain ⟨p1, p2, h⟩ := hp
  have hgo := hk ls _ M2 h la H1 locs1 (cells + cN) (slots + zN) hl hH1 hS1 (by omega) (by omega)
  rw [List.map_append] at hgo
  have er : List.map (jt (jad g)) r.toList = (r.map (jt (jad g))).toList := by cases r <;> rfl
  rw [er] at hgo
  exact hgo
def i_mmax (X : jX) (k : jK) : jK := fun ls st M => ∃ (x y : Int32) (st' : List Value), st = .int y :: .int x :: st' ∧ (st'.map Value.category).sum ≤ 8 ∧ M.1.length ≤ X.2.2.2.1 ∧ jsl M.1 ≤ X.2.2.2.2 ∧ k ls (.int (if x < y then y else x) :: st') M
theorem x_mmax {ls : jL} {x y : Int32} {st : List Value} {M : jM} (hr : (st.map Value.category).sum ≤ 8) (h1 : M.1.length ≤ X.2.2.2.1) (h2 : jsl M.1 ≤ X.2.2.2.2) (h : k ls (.int (if x < y then y else x) :: st) M) : i_mmax X k ls (.int y :: .int x :: st) M := ⟨x, y, st, rfl, hr, h1, h2, h⟩
theorem s_mmax (hC : jC tab p l e R s m args below meth c Q g nL n0 z0 cc own nm X) {idx : Nat} (w1 : Cond.methodLink own idx Lib.Math.max.name ∈ lw_tbl) (w2 : Cond.static Lib.Math.max.name ∈ lw_tbl) (w3 : Cond.initialized "java/lang/Math" ∈ lw_tbl) (w4 : Cond.code Lib.Math.max.name Lib.Math.max.code 2 (some .int) ∈ lw_tbl) (hd : decode cc pc = .ok (.invokestatic idx, 3)) (hk : jSn p l e R s m args below meth c Q g nL n0 z0 (pc + 3) (k)) : jSn p l e R s m args below meth c Q g nL n0 z0 (pc) (i_mmax X k) := by
  rintro ls st M ⟨x, y, st', rfl, hr, c1, c2, h⟩ la H locs cells slots hl hH hS h1 h2
  have env := hC.2.2.2.2.2.1
  obtain ⟨F, f1, f2, -⟩ := hC.2.2.2.2.2.2.2.1
  have r1 := hC.2.2.2.2.2.2.2.2.2.1
  have r2 := hC.2.2.2.2.2.2.2.2.2.2.1
  have e9 := jcat_map (jad g) st'
  exact va_mmax hC.1 hC.2.1 (by rw [hC.2.2.1, hl.2.1]) hC.2.2.2.1 (env.2.1 _ w1 rfl args) (env.2.1 _ w2 rfl args) (env.2.1 _ w3 rfl args) (env.2.1 _ w4 rfl args) (by omega) (by omega) (by omega) (by omega) hd (hk ls _ M h la H locs cells slots hl hH hS h1 h2)
def i_mmin (X : jX) (k : jK) : jK := fun ls st M => ∃ (x y : Int32) (st' : List Value), st = .int y :: .int x :: st' ∧ (st'.map Value.category).sum ≤ 8 ∧ M.1.length ≤ X.2.2.2.1 ∧ jsl M.1 ≤ X.2.2.2.2 ∧ k ls (.int (if y < x then y else x) :: st') M
theorem x_mmin {ls : jL} {x y : Int32} {st : List Value} {M : jM} (hr : (st.map Value.category).sum ≤ 8) (h1 : M.1.length ≤ X.2.2.2.1) (h2 : jsl M.1 ≤ X.2.2.2.2) (h : k ls (.int (if y < x then y else x) :: st) M) : i_mmin X k ls (.int y :: .int x :: st) M := ⟨x, y, st, rfl, hr, h1, h2, h⟩
theorem s_mmin (hC : jC tab p l e R s m args below meth c Q g nL n0 z0 cc own nm X) {idx : Nat} (w1 : Cond.methodLink own idx Lib.Math.min.name ∈ lw_tbl) (w2 : Cond.static Lib.Math.min.name ∈ lw_tbl) (w3 : Cond.initialized "java/lang/Math" ∈ lw_tbl) (w4 : Cond.code Lib.Math.min.name Lib.Math.min.code 2 (some .int) ∈ lw_tbl) (hd : decode cc pc = .ok (.invokestatic idx, 3)) (hk : jSn p l e R s m args below meth c Q g nL n0 z0 (pc + 3) (k)) : jSn p l e R s m args below meth c Q g nL n0 z0 (pc) (i_mmin X k) := by
  rintro ls st M ⟨x, y, st', rfl, hr, c1, c2, h⟩ la H locs cells slots hl hH hS h1 h2
  have env := hC.2.2.2.2.2.1
  obtain ⟨F, f1, f2, -⟩ := hC.2.2.2.2.2.2.2.1
  have r1 := hC.2.2.2.2.2.2.2.2.2.1
  have r2 := hC.2.2.2.2.2.2.2.2.2.2.1
  have e9 := jcat_map (jad g) st'
  exact va_mmin hC.1 hC.2.1 (by rw [hC.2.2.1, hl.2.1]) hC.2.2.2.1 (env.2.1 _ w1 rfl args) (env.2.1 _ w2 rfl args) (env.2.1 _ w3 rfl args) (env.2.1 _ w4 rfl args) (by omega) (by omega) (by omega) (by omega) hd (hk ls _ M h la H locs cells slots hl hH hS h1 h2)
def i_mabs (X : jX) (k : jK) : jK := fun ls st M => ∃ (x : Int32) (st' : List Value), st = .int x :: st' ∧ (st'.map Value.category).sum ≤ 8 ∧ M.1.length ≤ X.2.2.2.1 ∧ jsl M.1 ≤ X.2.2.2.2 ∧ k ls (.int (if 0 ≤ x then x else 0 - x) :: st') M
theorem x_mabs {ls : jL} {x : Int32} {st : List Value} {M : jM} (hr : (st.map Value.category).sum ≤ 8) (h1 : M.1.length ≤ X.2.2.2.1) (h2 : jsl M.1 ≤ X.2.2.2.2) (h : k ls (.int (if 0 ≤ x then x else 0 - x) :: st) M) : i_mabs X k ls (.int x :: st) M := ⟨x, st, rfl, hr, h1, h2, h⟩
theorem s_mabs (hC : jC tab p l e R s m args below meth c Q g nL n0 z0 cc own nm X) {idx : Nat} (w1 : Cond.methodLink own idx Lib.Math.abs.name ∈ lw_tbl) (w2 : Cond.static Lib.Math.abs.name ∈ lw_tbl) (w3 : Cond.initialized "java/lang/Math" ∈ lw_tbl) (w4 : Cond.code Lib.Math.abs.name Lib.Math.abs.code 1 (some .int) ∈ lw_tbl) (hd : decode cc pc = .ok (.invokestatic idx, 3)) (hk : jSn p l e R s m args below meth c Q g nL n0 z0 (pc + 3) (k)) : jSn p l e R s m args below meth c Q g nL n0 z0 (pc) (i_mabs X k) := by
  rintro ls st M ⟨x, st', rfl, hr, c1, c2, h⟩ la H locs cells slots hl hH hS h1 h2
  have env := hC.2.2.2.2.2.1
  obtain ⟨F, f1, f2, -⟩ := hC.2.2.2.2.2.2.2.1
  have r1 := hC.2.2.2.2.2.2.2.2.2.1
  have r2 := hC.2.2.2.2.2.2.2.2.2.2.1
  have e9 := jcat_map (jad g) st'
  exact va_mabs hC.1 hC.2.1 (by rw [hC.2.2.1, hl.2.1]) hC.2.2.2.1 (env.2.1 _ w1 rfl args) (env.2.1 _ w2 rfl args) (env.2.1 _ w3 rfl args) (env.2.1 _ w4 rfl args) (by omega) (by omega) (by omega) (by omega) hd (hk ls _ M h la H locs cells slots hl hH hS h1 h2)
def i_mabs_long (X : jX) (k : jK) : jK := fun ls st M => ∃ (x : Int64) (st' : List Value), st = .long x :: st' ∧ (st'.map Value.category).sum ≤ 8 ∧ M.1.length ≤ X.2.2.2.1 ∧ jsl M.1 ≤ X.2.2.2.2 ∧ k ls (.long (if 0 < x then x else -x) :: st') M
theorem x_mabs_long {ls : jL} {x : Int64} {st : List Value} {M : jM} (hr : (st.map Value.category).sum ≤ 8) (h1 : M.1.length ≤ X.2.2.2.1) (h2 : jsl M.1 ≤ X.2.2.2.2) (h : k ls (.long (if 0 < x then x else -x) :: st) M) : i_mabs_long X k ls (.long x :: st) M := ⟨x, st, rfl, hr, h1, h2, h⟩
theorem s_mabs_long (hC : jC tab p l e R s m args below meth c Q g nL n0 z0 cc own nm X) {idx : Nat} (w1 : Cond.methodLink own idx Lib.MathLoose.abs_long.x ∈ lw_tbl) (w2 : Cond.static Lib.MathLoose.abs_long.x ∈ lw_tbl) (w3 : Cond.initialized "java/lang/Math" ∈ lw_tbl) (w4 : Cond.code Lib.MathLoose.abs_long.x Lib.MathLoose.abs_long.code 2 (some .long) ∈ lw_tbl) (hd : decode cc pc = .ok (.invokestatic idx, 3)) (hk : jSn p l e R s m args below meth c Q g nL n0 z0 (pc + 3) (k)) : jSn p l e R s m args below meth c Q g nL n0 z0 (pc) (i_mabs_long X k) := by
  rintro ls st M ⟨x, st', rfl, hr, c1, c2, h⟩ la H locs cells slots hl hH hS h1 h2
  have env := hC.2.2.2.2.2.1
  obtain ⟨F, f1, f2, -⟩ := hC.2.2.2.2.2.2.2.1
  have r1 := hC.2.2.2.2.2.2.2.2.2.1
  have r2 := hC.2.2.2.2.2.2.2.2.2.2.1
  have e9 := jcat_map (jad g) st'
  exact va_mabs_long hC.1 hC.2.1 (by rw [hC.2.2.1, hl.2.1]) hC.2.2.2.1 (env.2.1 _ w1 rfl args) (env.2.1 _ w2 rfl args) (env.2.1 _ w3 rfl args) (env.2.1 _ w4 rfl args) (by omega) (by omega) (by omega) (by omega) hd (hk ls _ M h la H locs cells slots hl hH hS h1 h2)
end JCA
