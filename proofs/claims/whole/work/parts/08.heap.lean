/-! THE HEAP'S INSTRUCTIONS -/
theorem list_set_self {α : Type} {l : List α} {k : Nat} {x : α} (h : l[k]? = some x) : l.set k x = l := by
  apply List.ext_getElem?
  intro i
  by_cases e : k = i
  · subst e
    rw [List.getElem?_set_self (List.getElem?_eq_some_iff.mp h).1, h]
  · rw [List.getElem?_set_ne e]
/-- a cell keeps its kind -/
theorem jH.wr {g : jG} {M : jM} {H H1 : Heap} (h : jH g M H) {k : Nat} {sh : jS} {f : Nat → Int32} {y : Nat → Int64} (hk : jR ≤ k) (hs : jn M.1 k = some sh) (hz : H1.size = H.size)
    (hP : va_P (jDD g) vwCl ((jw (jad g) (jcT g) M).set (k - jR) (jad g k, jcell (jad g) (jcT g) sh f y)) H1) : jH g (M.1, va_up M.2.1 k f, va_up M.2.2 k y) H1 := by
  have h9 := h.set hk hs hz hP
  rw [list_set_self (by rw [← jn_eq]; exact hs)] at h9
  exact h9
theorem jH.wrI {g : jG} {M : jM} {H H1 : Heap} (h : jH g M H) {k : Nat} {sh : jS} {f : Nat → Int32} (hk : jR ≤ k) (hs : jn M.1 k = some sh) (hz : H1.size = H.size)
    (hP : va_P (jDD g) vwCl ((jw (jad g) (jcT g) M).set (k - jR) (jad g k, jcell (jad g) (jcT g) sh f (M.2.2 k))) H1) : jH g (M.1, va_up M.2.1 k f, M.2.2) H1 := by
  have h9 := h.wr hk hs hz hP
  rw [ju_self M.2.2 k] at h9
  exact h9
theorem jH.wrL {g : jG} {M : jM} {H H1 : Heap} (h : jH g M H) {k : Nat} {sh : jS} {y : Nat → Int64} (hk : jR ≤ k) (hs : jn M.1 k = some sh) (hz : H1.size = H.size)
    (hP : va_P (jDD g) vwCl ((jw (jad g) (jcT g) M).set (k - jR) (jad g k, jcell (jad g) (jcT g) sh (M.2.1 k) y)) H1) : jH g (M.1, M.2.1, va_up M.2.2 k y) H1 := by
  have h9 := h.wr hk hs hz hP
  rw [ju_self M.2.1 k] at h9
  exact h9
theorem jH.wrS {g : jG} {M : jM} {H H1 : Heap} (h : jH g M H) {k : Nat} {sh sh2 : jS} (hk : jR ≤ k) (hs : jn M.1 k = some sh) (hz : H1.size = H.size)
    (hP : va_P (jDD g) vwCl ((jw (jad g) (jcT g) M).set (k - jR) (jad g k, jcell (jad g) (jcT g) sh2 (M.2.1 k) (M.2.2 k))) H1) : jH g (M.1.set k sh2, M.2.1, M.2.2) H1 := by
  have h9 := h.set hk hs hz hP
  rw [ju_self M.2.1 k, ju_self M.2.2 k] at h9
  exact h9
theorem jA_ad {g : jG} (hg : jGok g) {k : Nat} (hk : jR ≤ k) : jA g (jad g k) := by
  unfold jA
  rw [hg.1 k hk]
  omega
theorem jfs_setI (ad : Nat → Nat) (f : Nat → Int32) (y : Nat → Int64) (x : Int32) : ∀ (l : List Value) (i j : Nat) (z : Int32), l[j]? = some (.int z) → (jfs ad f y l i).set j (.int x) = jfs ad (upd f (i + j) x) y l i := by
  intro l i j z h
  apply List.ext_getElem?
  intro q
  have hj : j < l.length := (List.getElem?_eq_some_iff.mp h).1
  by_cases e : j = q
  · subst e
    rw [List.getElem?_set_self (by rw [jfs_len]; exact hj), jfs_get, h]
    simp [jfv, jt, upd]
  · rw [List.getElem?_set_ne e, jfs_get, jfs_get]
    have : upd f (i + j) x (i + q) = f (i + q) := by simp [upd]; omega
    rw [this]
theorem jfs_setL (ad : Nat → Nat) (f : Nat → Int32) (y : Nat → Int64) (x : Int64) : ∀ (l : List Value) (i j : Nat) (z : Int64), l[j]? = some (.long z) → (jfs ad f y l i).set j (.long x) = jfs ad f (vp_updL y (i + j) x) l i := by
  intro l i j z h
  apply List.ext_getElem?
  intro q
  have hj : j < l.length := (List.getElem?_eq_some_iff.mp h).1
  by_cases e : j = q
  · subst e
    rw [List.getElem?_set_self (by rw [jfs_len]; exact hj), jfs_get, h]
    simp [jfv, jt, vp_updL]
  · rw [List.getElem?_set_ne e, jfs_get, jfs_get]
    have : vp_updL y (i + j) x (i + q) = y (i + q) := by simp [vp_updL]; omega
    rw [this]
theorem jfs_setR (ad : Nat → Nat) (f : Nat → Int32) (y : Nat → Int64) (r : Nat) : ∀ (l : List Value) (i j : Nat), j < l.length → (jfs ad f y l i).set j (.ref (ad r)) = jfs ad f y (l.set j (.ref r)) i := by
  intro l i j hj
  apply List.ext_getElem?
  intro q
  by_cases e : j = q
  · subst e
    rw [List.getElem?_set_self (by rw [jfs_len]; exact hj), jfs_get, List.getElem?_set_self hj]
    simp [jfv, jt]
  · rw [List.getElem?_set_ne e, jfs_get, jfs_get, List.getElem?_set_ne e]
/-- a class's words stand in the tables -/
def jclok (C : String) (T : u_T) (N : Nat) : Prop := ∀ w ∈ u_ws C T N, w ∈ lw_tbl ∧ goodWord w = true
section JH
variable {tab : Nat → Option jMt} {p : Program} {l : Launch} {e : Env} {R : Room} {s : State} {m : MethodId} {args : Array Value} {below : List Frame} {meth : Method} {c : Code} {Q : State → Prop} {g : jG} {nL n0 z0 : Nat} {cc : ByteArray} {own nm : String} {X : jX} {pc : Nat} {k : jK}
def i_getf (ci j : Nat) (k : jK) : jK := fun ls st M => ∃ (a : Nat) (fs : List Value) (v : Value) (st' : List Value), st = .ref a :: st' ∧ jR ≤ a ∧ jn M.1 a = some (.inr (.inr (ci, fs))) ∧ jn fs j = some v ∧ k ls (jfv v (M.2.1 a j) (M.2.2 a j) :: st') M
theorem x_getI {ci j a : Nat} {fs : List Value} {z : Int32} {ls : jL} {st : List Value} {M : jM} (ha : jR ≤ a) (hs : jn M.1 a = some (.inr (.inr (ci, fs)))) (hv : jn fs j = some (.int z)) (h : k ls (.int (M.2.1 a j) :: st) M) : i_getf ci j k ls (.ref a :: st) M := ⟨a, fs, _, st, rfl, ha, hs, hv, h⟩
theorem x_getL {ci j a : Nat} {fs : List Value} {z : Int64} {ls : jL} {st : List Value} {M : jM} (ha : jR ≤ a) (hs : jn M.1 a = some (.inr (.inr (ci, fs)))) (hv : jn fs j = some (.long z)) (h : k ls (.long (M.2.2 a j) :: st) M) : i_getf ci j k ls (.ref a :: st) M := ⟨a, fs, _, st, rfl, ha, hs, hv, h⟩
theorem x_getR {ci j a r : Nat} {fs : List Value} {ls : jL} {st : List Value} {M : jM} (ha : jR ≤ a) (hs : jn M.1 a = some (.inr (.inr (ci, fs)))) (hv : jn fs j = some (.ref r)) (h : k ls (.ref r :: st) M) : i_getf ci j k ls (.ref a :: st) M := ⟨a, fs, _, st, rfl, ha, hs, hv, h⟩
theorem s_getf (hC : jC tab p l e R s m args below meth c Q g nL n0 z0 cc own nm X) {ci j idx N : Nat} {C : String} {T : u_T} (hc : vwCl[ci]? = some (C, T, N)) (ho : jclok C T N) (hj : j < N) (hw : Cond.fieldLink own idx (T j).1 (T j).2.1 (T j).2.2.1 ∈ lw_tbl) (hd : decode cc pc = .ok (.getfield idx, 3)) (hk : jSn p l e R s m args below meth c Q g nL n0 z0 (pc + 3) (k)) : jSn p l e R s m args below meth c Q g nL n0 z0 (pc) (i_getf ci j k) := by
  rintro ls st M ⟨a, fs, v, st', rfl, ha, hs, hv, h⟩ la H locs cells slots hl hH hS h1 h2
  have env := hC.2.2.2.2.2.1
  refine va_get (Ts := u_ws C T N) hC.1 hC.2.1 (fun w hw => env.2.1 w (ho w hw).1 (ho w hw).2 args) (fun _ z => z) hC.2.2.2.1 env.1 hH.2.2.2 (a - jR) (jw_get ha hs) hc j hj (env.2.1 _ hw rfl args) (fun _ z => z) (v := jt (jad g) (jfv v (M.2.1 a j) (M.2.2 a j))) ?_ hd (hk ls _ M h la H locs cells slots hl hH hS h1 h2)
  rw [jfs_get, ← jn_eq, hv]
  simp
def i_getS (j : Nat) (k : jK) : jK := fun ls st M => ∃ (a kv ci : Nat) (z : Int32) (v : Value) (st' : List Value), st = .ref a :: st' ∧ a < jR ∧ jn M.1 a = some (.inr (.inr (ci, [.ref kv, .int z]))) ∧ ((j = 0 ∧ v = .ref kv) ∨ (j = 1 ∧ v = .int (M.2.1 a 1))) ∧ k ls (v :: st') M
theorem x_getS0 {a kv ci : Nat} {z : Int32} {ls : jL} {st : List Value} {M : jM} (ha : a < jR) (hs : jn M.1 a = some (.inr (.inr (ci, [.ref kv, .int z])))) (h : k ls (.ref kv :: st) M) : i_getS 0 k ls (.ref a :: st) M := ⟨a, kv, ci, z, _, st, rfl, ha, hs, Or.inl ⟨rfl, rfl⟩, h⟩
theorem x_getS1 {a kv ci : Nat} {z : Int32} {ls : jL} {st : List Value} {M : jM} (ha : a < jR) (hs : jn M.1 a = some (.inr (.inr (ci, [.ref kv, .int z])))) (h : k ls (.int (M.2.1 a 1) :: st) M) : i_getS 1 k ls (.ref a :: st) M := ⟨a, kv, ci, z, _, st, rfl, ha, hs, Or.inr ⟨rfl, rfl⟩, h⟩
theorem s_getS (hC : jC tab p l e R s m args below meth c Q g nL n0 z0 cc own nm X) {j idx : Nat} {n d : String} (hj : (j = 0 ∧ n = "value" ∧ d = "[B") ∨ (j = 1 ∧ n = "coder" ∧ d = "B")) (hw : Cond.fieldLink own idx "java/lang/String" n d ∈ lw_tbl) (hd : decode cc pc = .ok (.getfield idx, 3)) (hk : jSn p l e R s m args below meth c Q g nL n0 z0 (pc + 3) (k)) : jSn p l e R s m args below meth c Q g nL n0 z0 (pc) (i_getS j k) := by
  rintro ls st M ⟨a, kv, ci, z, v, st', rfl, ha, hs, hv, h⟩ la H locs cells slots hl hH hS h1 h2
  have env := hC.2.2.2.2.2.1
  obtain ⟨r1, r2⟩ := hH.ro ha hs
  obtain ⟨q1, q2, q3⟩ := env.2.2.2.2.1 a _ ha r1
  rcases hj with ⟨rfl, rfl, rfl⟩ | ⟨rfl, rfl, rfl⟩
  · rcases hv with ⟨-, rfl⟩ | ⟨hx, -⟩
    · exact vk_getf hC.1 hC.2.1 q2 hS hC.2.2.2.1 (env.2.1 _ hw rfl args) (fun _ z => z) hd (hk ls _ M h la H locs cells slots hl hH hS h1 h2)
    · cases hx
  · rcases hv with ⟨hx, -⟩ | ⟨-, rfl⟩
    · cases hx
    · rw [r2] at h
      exact vk_getf hC.1 hC.2.1 q3 hS hC.2.2.2.1 (env.2.1 _ hw rfl args) (fun _ z => z) hd (hk ls _ M h la H locs cells slots hl hH hS h1 h2)
theorem jput_core (hC : jC tab p l e R s m args below meth c Q g nL n0 z0 cc own nm X) {ci j idx N : Nat} {C : String} {T : u_T} (hc : vwCl[ci]? = some (C, T, N)) (ho : jclok C T N) {ty0 : Nat → FieldType} (hty : ∀ k, k < N → parseFieldDescriptor (T k).2.2.1 = some (ty0 k)) (hnm : ∀ a, a < N → ∀ b, b < N → a ≠ b → (T a).2.1 ≠ (T b).2.1) (hj : j < N) (hw : Cond.fieldLink own idx (T j).1 (T j).2.1 (T j).2.2.1 ∈ lw_tbl)
    (hfin : (T j).2.2.2 = false ∨ ((T j).2.2.2 = true ∧ nm = "<init>" ∧ (T j).1 = own)) (hd : decode cc pc = .ok (.putfield idx, 3)) {H : Heap} {locs : List Loc} {cells slots : Nat} {la : Array Slot} {rest : List Value} {ws : va_W} {q0 a : Nat} {fs : List Value} {v : Value} (hP : va_P (jDD g) vwCl ws H) (hD : va_D (jA g) ws) (he : ws[q0]? = some (a, .inr (ci, fs))) (hl : j < fs.length) (hS : va_S (jA g) s.heap H locs) (hn : narrow (ty0 j) v = v) (hfit : fits (ty0 j) v = true)
    (kk : ∀ (H1 : Heap) (locs1 : List Loc), H1.size = H.size → va_P (jDD g) vwCl (ws.set q0 (a, .inr (ci, fs.set j v))) H1 → va_S (jA g) s.heap H1 locs1 → W p l e R s m args below meth c H1 locs1 cells slots Q (F0 m (pc + 3) la rest)) : W p l e R s m args below meth c H locs cells slots Q (F0 m pc la (v :: .ref a :: rest)) := by
  have env := hC.2.2.2.2.2.1
  have hown := hC.2.2.2.1
  have hts : ∀ w ∈ u_ws C T N, w.before args s = true := fun w hw => env.2.1 w (ho w hw).1 (ho w hw).2 args
  have hin : ∀ w ∈ u_ws C T N, w ∈ u_ws C T N := fun _ z => z
  have hK := env.1
  have hlink := env.2.1 _ hw rfl args
  have hap := va_apart (own := own) hts hin ty0 hty hnm hK hc
  have hdd := hty j hj
  obtain ⟨r, h1, cell, q1, q2, q3, q4⟩ := hP q0 _ he
  have hr : r = (C, T, N) := Option.some.inj (h1.symm.trans hc)
  subst hr
  obtain ⟨hSl, hfc, kC, hkC, hkind⟩ := hK.1 ci _ hc
  obtain ⟨cf, kf, fi, f, hi, hsl⟩ := hSl j hj
  have hlays := u_lays hts hin hj
  have hst := (u_facts hfc hkC hlays hi).1
  have goal : ∀ H1 : Heap, H1[a]? = some (cell.setSlot f.slot v) → H1.size = H.size → (∀ q, q ≠ a → H1[q]? = H[q]?) → W p l e R s m args below meth c H1 (locs ++ [⟨a, f.slot⟩]) cells slots Q (F0 m (pc + 3) la rest) := by
    intro H1 e1 e2 e3
    rw [hsl] at e1 ⊢
    exact kk H1 _ e2 (hP.set hD he ⟨_, hc, t_OB.to (V := updV (vp_V fs) j v) ⟨_, e1, q2, q3, t_set q4 hap hj v⟩ (fun i _ => vp_updV_set hl v i)⟩ e3) (hS.put e2 e3 (hD.2 q0 _ he))
  have hlt : f.slot < cell.slots.size := by rw [hsl]; exact k2_hasslot (q4 j hj)
  have hlay := hts _ (hin _ (u_in_lay hj))
  unfold u_lay at hlay
  rcases hfin with hf | ⟨hf, hnn, hdecl⟩
  · rw [if_neg (by rw [hf]; decide)] at hlay
    exact W.putK hC.1 hC.2.1 (f := f) ⟨hown, hlink, ⟨_, _, _, hi⟩, hst⟩ (by rw [q2]; exact u_store hfc hkC hkind hlay hi hdd hn hfit) q1 q3 hlt rfl rfl hd goal
  · rw [if_pos hf] at hlay
    have hcf : m.cls = cf := by
      obtain ⟨_, _, c', _, _, _, -, -, hf', -, -, -, hown2, -⟩ := Cond.laysFinal_spec hlay
      have e1 : c' = cf := by have := hi.symm.trans hf'; simp at this; exact this.1.symm
      rw [hdecl] at hown2
      rw [← e1]; exact Option.some.inj (hown.symm.trans hown2)
    exact W.putFinK hC.1 hC.2.1 hown hlink hi hst hcf (hC.2.2.2.2.2.2.2.2.2.2.2.trans hnn) (by rw [q2]; exact u_fits hfc hkC hkind (Or.inr hlay) hi hdd hn hfit) q1 q3 hlt rfl rfl hd goal
def i_putI (ci j : Nat) (k : jK) : jK := fun ls st M => ∃ (x z : Int32) (a : Nat) (fs : List Value) (st' : List Value), st = .int x :: .ref a :: st' ∧ jR ≤ a ∧ jn M.1 a = some (.inr (.inr (ci, fs))) ∧ jn fs j = some (.int z) ∧ k ls st' (M.1, va_up M.2.1 a (upd (M.2.1 a) j x), M.2.2)
theorem x_putI {ci j a : Nat} {fs : List Value} {x z : Int32} {ls : jL} {st : List Value} {M : jM} (ha : jR ≤ a) (hs : jn M.1 a = some (.inr (.inr (ci, fs)))) (hv : jn fs j = some (.int z)) (h : k ls st (M.1, va_up M.2.1 a (upd (M.2.1 a) j x), M.2.2)) : i_putI ci j k ls (.int x :: .ref a :: st) M := ⟨x, z, a, fs, st, rfl, ha, hs, hv, h⟩
theorem s_putI (hC : jC tab p l e R s m args below meth c Q g nL n0 z0 cc own nm X) {ci j idx N : Nat} {C : String} {T : u_T} {ty0 : Nat → FieldType} (hc : vwCl[ci]? = some (C, T, N)) (ho : jclok C T N) (hty : ∀ k, k < N → parseFieldDescriptor (T k).2.2.1 = some (ty0 k)) (hnm : ∀ a, a < N → ∀ b, b < N → a ≠ b → (T a).2.1 ≠ (T b).2.1) (hj : j < N) (hw : Cond.fieldLink own idx (T j).1 (T j).2.1 (T j).2.2.1 ∈ lw_tbl) (hfin : (T j).2.2.2 = false ∨ ((T j).2.2.2 = true ∧ nm = "<init>" ∧ (T j).1 = own)) (ht : ty0 j = .int) (hd : decode cc pc = .ok (.putfield idx, 3)) (hk : jSn p l e R s m args below meth c Q g nL n0 z0 (pc + 3) (k)) : jSn p l e R s m args below meth c Q g nL n0 z0 (pc) (i_putI ci j k) := by
  rintro ls st M ⟨x, z, a, fs, st', rfl, ha, hs, hv, h⟩ la H locs cells slots hl hH hS h1 h2
  have hv' : fs[j]? = some (.int z) := by rw [← jn_eq]; exact hv
  refine jput_core hC hc ho hty hnm hj hw hfin hd hH.2.2.2 (jD hC.2.2.2.2.1 M) (jw_get ha hs) (by rw [jfs_len]; exact (List.getElem?_eq_some_iff.mp hv').1) hS (v := .int x) (by rw [ht]; rfl) (by rw [ht]; rfl) (fun H1 locs1 z1 hP1 hS1 => ?_)
  rw [jfs_setI _ _ _ x fs 0 j z hv', Nat.zero_add] at hP1
  exact hk ls _ _ h la H1 locs1 cells slots hl (hH.wrI ha hs z1 hP1) hS1 h1 h2
def i_putZ (ci j : Nat) (k : jK) : jK := fun ls st M => ∃ (x z : Int32) (a : Nat) (fs : List Value) (st' : List Value), st = .int x :: .ref a :: st' ∧ jR ≤ a ∧ jn M.1 a = some (.inr (.inr (ci, fs))) ∧ jn fs j = some (.int z) ∧ (x = 0 ∨ x = 1) ∧ k ls st' (M.1, va_up M.2.1 a (upd (M.2.1 a) j x), M.2.2)
theorem x_putZ {ci j a : Nat} {fs : List Value} {x z : Int32} {ls : jL} {st : List Value} {M : jM} (ha : jR ≤ a) (hs : jn M.1 a = some (.inr (.inr (ci, fs)))) (hv : jn fs j = some (.int z)) (hx : x = 0 ∨ x = 1) (h : k ls st (M.1, va_up M.2.1 a (upd (M.2.1 a) j x), M.2.2)) : i_putZ ci j k ls (.int x :: .ref a :: st) M := ⟨x, z, a, fs, st, rfl, ha, hs, hv, hx, h⟩
theorem s_putZ (hC : jC tab p l e R s m args below meth c Q g nL n0 z0 cc own nm X) {ci j idx N : Nat} {C : String} {T : u_T} {ty0 : Nat → FieldType} (hc : vwCl[ci]? = some (C, T, N)) (ho : jclok C T N) (hty : ∀ k, k < N → parseFieldDescriptor (T k).2.2.1 = some (ty0 k)) (hnm : ∀ a, a < N → ∀ b, b < N → a ≠ b → (T a).2.1 ≠ (T b).2.1) (hj : j < N) (hw : Cond.fieldLink own idx (T j).1 (T j).2.1 (T j).2.2.1 ∈ lw_tbl) (hfin : (T j).2.2.2 = false ∨ ((T j).2.2.2 = true ∧ nm = "<init>" ∧ (T j).1 = own)) (ht : ty0 j = .boolean) (hd : decode cc pc = .ok (.putfield idx, 3)) (hk : jSn p l e R s m args below meth c Q g nL n0 z0 (pc + 3) (k)) : jSn p l e R s m args below meth c Q g nL n0 z0 (pc) (i_putZ ci j k) := by
  rintro ls st M ⟨x, z, a, fs, st', rfl, ha, hs, hv, hx, h⟩ la H locs cells slots hl hH hS h1 h2
  have hv' : fs[j]? = some (.int z) := by rw [← jn_eq]; exact hv
  refine jput_core hC hc ho hty hnm hj hw hfin hd hH.2.2.2 (jD hC.2.2.2.2.1 M) (jw_get ha hs) (by rw [jfs_len]; exact (List.getElem?_eq_some_iff.mp hv').1) hS (v := .int x) (by rw [ht]; rcases hx with rfl | rfl <;> rfl) (by rw [ht]; rcases hx with rfl | rfl <;> rfl) (fun H1 locs1 z1 hP1 hS1 => ?_)
  rw [jfs_setI _ _ _ x fs 0 j z hv', Nat.zero_add] at hP1
  exact hk ls _ _ h la H1 locs1 cells slots hl (hH.wrI ha hs z1 hP1) hS1 h1 h2
def i_putL (ci j : Nat) (k : jK) : jK := fun ls st M => ∃ (x z : Int64) (a : Nat) (fs : List Value) (st' : List Value), st = .long x :: .ref a :: st' ∧ jR ≤ a ∧ jn M.1 a = some (.inr (.inr (ci, fs))) ∧ jn fs j = some (.long z) ∧ k ls st' (M.1, M.2.1, va_up M.2.2 a (vp_updL (M.2.2 a) j x))
theorem x_putL {ci j a : Nat} {fs : List Value} {x z : Int64} {ls : jL} {st : List Value} {M : jM} (ha : jR ≤ a) (hs : jn M.1 a = some (.inr (.inr (ci, fs)))) (hv : jn fs j = some (.long z)) (h : k ls st (M.1, M.2.1, va_up M.2.2 a (vp_updL (M.2.2 a) j x))) : i_putL ci j k ls (.long x :: .ref a :: st) M := ⟨x, z, a, fs, st, rfl, ha, hs, hv, h⟩
theorem s_putL (hC : jC tab p l e R s m args below meth c Q g nL n0 z0 cc own nm X) {ci j idx N : Nat} {C : String} {T : u_T} {ty0 : Nat → FieldType} (hc : vwCl[ci]? = some (C, T, N)) (ho : jclok C T N) (hty : ∀ k, k < N → parseFieldDescriptor (T k).2.2.1 = some (ty0 k)) (hnm : ∀ a, a < N → ∀ b, b < N → a ≠ b → (T a).2.1 ≠ (T b).2.1) (hj : j < N) (hw : Cond.fieldLink own idx (T j).1 (T j).2.1 (T j).2.2.1 ∈ lw_tbl) (hfin : (T j).2.2.2 = false ∨ ((T j).2.2.2 = true ∧ nm = "<init>" ∧ (T j).1 = own)) (ht : ty0 j = .long) (hd : decode cc pc = .ok (.putfield idx, 3)) (hk : jSn p l e R s m args below meth c Q g nL n0 z0 (pc + 3) (k)) : jSn p l e R s m args below meth c Q g nL n0 z0 (pc) (i_putL ci j k) := by
  rintro ls st M ⟨x, z, a, fs, st', rfl, ha, hs, hv, h⟩ la H locs cells slots hl hH hS h1 h2
  have hv' : fs[j]? = some (.long z) := by rw [← jn_eq]; exact hv
  refine jput_core hC hc ho hty hnm hj hw hfin hd hH.2.2.2 (jD hC.2.2.2.2.1 M) (jw_get ha hs) (by rw [jfs_len]; exact (List.getElem?_eq_some_iff.mp hv').1) hS (v := .long x) (by rw [ht]; rfl) (by rw [ht]; rfl) (fun H1 locs1 z1 hP1 hS1 => ?_)
  rw [jfs_setL _ _ _ x fs 0 j z hv', Nat.zero_add] at hP1
  exact hk ls _ _ h la H1 locs1 cells slots hl (hH.wrL ha hs z1 hP1) hS1 h1 h2
def i_putR (ci j : Nat) (k : jK) : jK := fun ls st M => ∃ (r a : Nat) (fs : List Value) (st' : List Value), st = .ref r :: .ref a :: st' ∧ jR ≤ a ∧ jn M.1 a = some (.inr (.inr (ci, fs))) ∧ j < fs.length ∧ k ls st' (M.1.set a (.inr (.inr (ci, fs.set j (.ref r)))), M.2.1, M.2.2)
theorem x_putR {ci j a r : Nat} {fs : List Value} {ls : jL} {st : List Value} {M : jM} (ha : jR ≤ a) (hs : jn M.1 a = some (.inr (.inr (ci, fs)))) (hv : j < fs.length) (h : k ls st (M.1.set a (.inr (.inr (ci, fs.set j (.ref r)))), M.2.1, M.2.2)) : i_putR ci j k ls (.ref r :: .ref a :: st) M := ⟨r, a, fs, st, rfl, ha, hs, hv, h⟩
theorem s_putR (hC : jC tab p l e R s m args below meth c Q g nL n0 z0 cc own nm X) {ci j idx N : Nat} {C : String} {T : u_T} {ty0 : Nat → FieldType} (hc : vwCl[ci]? = some (C, T, N)) (ho : jclok C T N) (hty : ∀ k, k < N → parseFieldDescriptor (T k).2.2.1 = some (ty0 k)) (hnm : ∀ a, a < N → ∀ b, b < N → a ≠ b → (T a).2.1 ≠ (T b).2.1) (hj : j < N) (hw : Cond.fieldLink own idx (T j).1 (T j).2.1 (T j).2.2.1 ∈ lw_tbl) (hfin : (T j).2.2.2 = false ∨ ((T j).2.2.2 = true ∧ nm = "<init>" ∧ (T j).1 = own)) (ht : ∀ q : Nat, narrow (ty0 j) (.ref q) = .ref q ∧ fits (ty0 j) (.ref q) = true) (hd : decode cc pc = .ok (.putfield idx, 3)) (hk : jSn p l e R s m args below meth c Q g nL n0 z0 (pc + 3) (k)) : jSn p l e R s m args below meth c Q g nL n0 z0 (pc) (i_putR ci j k) := by
  rintro ls st M ⟨r, a, fs, st', rfl, ha, hs, hv, h⟩ la H locs cells slots hl hH hS h1 h2
  refine jput_core hC hc ho hty hnm hj hw hfin hd hH.2.2.2 (jD hC.2.2.2.2.1 M) (jw_get ha hs) (by rw [jfs_len]; exact hv) hS (v := .ref (jad g r)) (ht _).1 (ht _).2 (fun H1 locs1 z1 hP1 hS1 => ?_)
  rw [jfs_setR _ _ _ r fs 0 j hv] at hP1
  have hs' : M.1[a]? = some (.inr (.inr (ci, fs))) := by rw [← jn_eq]; exact hs
  exact hk ls _ _ h la H1 locs1 cells slots hl (hH.wrS (sh2 := .inr (.inr (ci, fs.set j (.ref r)))) ha hs z1 hP1) hS1 (by simpa using h1) (by rw [jsl_set _ _ _ _ hs' (by simp [jz1])]; exact h2)
def i_iald (k : jK) : jK := fun ls st M => ∃ (i : Int32) (a n : Nat) (st' : List Value), st = .int i :: .ref a :: st' ∧ jn M.1 a = some (.inl (.int, n)) ∧ vp_in i n ∧ k ls (.int (M.2.1 a i.toNatClampNeg) :: st') M
theorem x_iald {i : Int32} {a n : Nat} {ls : jL} {st : List Value} {M : jM} (hs : jn M.1 a = some (.inl (.int, n))) (hi : vp_in i n) (h : k ls (.int (M.2.1 a i.toNatClampNeg) :: st) M) : i_iald k ls (.int i :: .ref a :: st) M := ⟨i, a, n, st, rfl, hs, hi, h⟩
theorem s_iald (hC : jC tab p l e R s m args below meth c Q g nL n0 z0 cc own nm X) (hd : decode cc pc = .ok (.iaload, 1)) (hk : jSn p l e R s m args below meth c Q g nL n0 z0 (pc + 1) (k)) : jSn p l e R s m args below meth c Q g nL n0 z0 (pc) (i_iald k) := by
  rintro ls st M ⟨i, a, n, st', rfl, hs, hi, h⟩ la H locs cells slots hl hH hS h1 h2
  have env := hC.2.2.2.2.2.1
  by_cases ha : jR ≤ a
  · exact va_iald hC.1 hC.2.1 env.1 hH.2.2.2 (a - jR) 0 (jw_get ha hs) rfl hi hd (hk ls _ M h la H locs cells slots hl hH hS h1 h2)
  · obtain ⟨r1, r2⟩ := hH.ro (by omega) hs
    have hT := env.2.2.2.2.1 a _ (by omega) r1
    rw [r2] at h
    exact va_ti hC.1 hC.2.1 hT hS hi rfl hd (hk ls _ M h la H locs cells slots hl hH hS h1 h2)
def i_bald (k : jK) : jK := fun ls st M => ∃ (i : Int32) (a n : Nat) (st' : List Value), st = .int i :: .ref a :: st' ∧ jn M.1 a = some (.inl (.byte, n)) ∧ vp_in i n ∧ k ls (.int (M.2.1 a i.toNatClampNeg) :: st') M
theorem x_bald {i : Int32} {a n : Nat} {ls : jL} {st : List Value} {M : jM} (hs : jn M.1 a = some (.inl (.byte, n))) (hi : vp_in i n) (h : k ls (.int (M.2.1 a i.toNatClampNeg) :: st) M) : i_bald k ls (.int i :: .ref a :: st) M := ⟨i, a, n, st, rfl, hs, hi, h⟩
theorem s_bald (hC : jC tab p l e R s m args below meth c Q g nL n0 z0 cc own nm X) (hd : decode cc pc = .ok (.baload, 1)) (hk : jSn p l e R s m args below meth c Q g nL n0 z0 (pc + 1) (k)) : jSn p l e R s m args below meth c Q g nL n0 z0 (pc) (i_bald k) := by
  rintro ls st M ⟨i, a, n, st', rfl, hs, hi, h⟩ la H locs cells slots hl hH hS h1 h2
  have env := hC.2.2.2.2.2.1
  by_cases ha : jR ≤ a
  · exact va_bald hC.1 hC.2.1 env.1 hH.2.2.2 (a - jR) 1 (jw_get ha hs) rfl hi hd (hk ls _ M h la H locs cells slots hl hH hS h1 h2)
  · obtain ⟨r1, r2⟩ := hH.ro (by omega) hs
    have hT := env.2.2.2.2.1 a _ (by omega) r1
    rw [r2] at h
    exact va_tb hC.1 hC.2.1 hT hS hi rfl hd (hk ls _ M h la H locs cells slots hl hH hS h1 h2)
def i_lald (k : jK) : jK := fun ls st M => ∃ (i : Int32) (a n : Nat) (st' : List Value), st = .int i :: .ref a :: st' ∧ jR ≤ a ∧ jn M.1 a = some (.inl (.long, n)) ∧ vp_in i n ∧ k ls (.long (M.2.2 a i.toNatClampNeg) :: st') M
theorem x_lald {i : Int32} {a n : Nat} {ls : jL} {st : List Value} {M : jM} (ha : jR ≤ a) (hs : jn M.1 a = some (.inl (.long, n))) (hi : vp_in i n) (h : k ls (.long (M.2.2 a i.toNatClampNeg) :: st) M) : i_lald k ls (.int i :: .ref a :: st) M := ⟨i, a, n, st, rfl, ha, hs, hi, h⟩
theorem s_lald (hC : jC tab p l e R s m args below meth c Q g nL n0 z0 cc own nm X) (hd : decode cc pc = .ok (.laload, 1)) (hk : jSn p l e R s m args below meth c Q g nL n0 z0 (pc + 1) (k)) : jSn p l e R s m args below meth c Q g nL n0 z0 (pc) (i_lald k) := by
  rintro ls st M ⟨i, a, n, st', rfl, ha, hs, hi, h⟩ la H locs cells slots hl hH hS h1 h2
  exact va_lald hC.1 hC.2.1 hC.2.2.2.2.2.1.1 hH.2.2.2 (a - jR) 2 (jw_get ha hs) rfl hi hd (hk ls _ M h la H locs cells slots hl hH hS h1 h2)
def i_aald (k : jK) : jK := fun ls st M => ∃ (i : Int32) (a n r : Nat) (f : Nat → Option Nat) (st' : List Value), st = .int i :: .ref a :: st' ∧ jR ≤ a ∧ jn M.1 a = some (.inr (.inl (n, f))) ∧ vp_in i n ∧ f i.toNatClampNeg = some r ∧ k ls (.ref r :: st') M
theorem x_aald {i : Int32} {a n r : Nat} {f : Nat → Option Nat} {ls : jL} {st : List Value} {M : jM} (ha : jR ≤ a) (hs : jn M.1 a = some (.inr (.inl (n, f)))) (hi : vp_in i n) (hr : f i.toNatClampNeg = some r) (h : k ls (.ref r :: st) M) : i_aald k ls (.int i :: .ref a :: st) M := ⟨i, a, n, r, f, st, rfl, ha, hs, hi, hr, h⟩
theorem s_aald (hC : jC tab p l e R s m args below meth c Q g nL n0 z0 cc own nm X) (hd : decode cc pc = .ok (.aaload, 1)) (hk : jSn p l e R s m args below meth c Q g nL n0 z0 (pc + 1) (k)) : jSn p l e R s m args below meth c Q g nL n0 z0 (pc) (i_aald k) := by
  rintro ls st M ⟨i, a, n, r, f, st', rfl, ha, hs, hi, hr, h⟩ la H locs cells slots hl hH hS h1 h2
  have hlt : i.toNatClampNeg < n := Nat.not_le.mp fun q => hi (Or.inr q)
  have he := jw_get (ad := jad g) (cT := jcT g) ha hs
  have hK := hC.2.2.2.2.2.1.1
  exact W.aald (v := .ref (jad g r)) (ty := .array .int) hC.1 hC.2.1 (hH.2.2.2 _ _ he) ((hK.2 3 _ rfl).1 n (fun j => va_rf ((f j).map (jad g)))) rfl (fun q => by cases q) (by show ¬ (i < 0 ∨ (arrV _ _ _).slots.size ≤ _); rw [arrV_size]; exact hi) (by show (arrV _ _ _).slots[_]? = _; rw [arrV_read _ _ hlt]; show some (va_rf (Option.map (jad g) (f i.toNatClampNeg))) = _; rw [hr]; rfl) rfl rfl hd (hk ls _ M h la H locs cells slots hl hH hS h1 h2)
def i_alen (k : jK) : jK := fun ls st M => ∃ (a n : Nat) (ty : FieldType) (st' : List Value), st = .ref a :: st' ∧ (ty = .int ∨ ty = .byte) ∧ jn M.1 a = some (.inl (ty, n)) ∧ k ls (.int (Int32.ofNat n) :: st') M
theorem x_alen {a n : Nat} {ty : FieldType} {ls : jL} {st : List Value} {M : jM} (hs : jn M.1 a = some (.inl (ty, n))) (ht : ty = .int ∨ ty = .byte) (h : k ls (.int (Int32.ofNat n) :: st) M) : i_alen k ls (.ref a :: st) M := ⟨a, n, ty, st, rfl, ht, hs, h⟩
theorem s_alen (hC : jC tab p l e R s m args below meth c Q g nL n0 z0 cc own nm X) (hd : decode cc pc = .ok (.arraylength, 1)) (hk : jSn p l e R s m args below meth c Q g nL n0 z0 (pc + 1) (k)) : jSn p l e R s m args below meth c Q g nL n0 z0 (pc) (i_alen k) := by
  rintro ls st M ⟨a, n, ty, st', rfl, ht, hs, h⟩ la H locs cells slots hl hH hS h1 h2
  have env := hC.2.2.2.2.2.1
  by_cases ha : jR ≤ a
  · rcases ht with rfl | rfl
    · exact va_alen hC.1 hC.2.1 env.1 hH.2.2.2 (a - jR) 0 (jw_get ha hs) rfl rfl hd (hk ls _ M h la H locs cells slots hl hH hS h1 h2)
    · exact va_alen hC.1 hC.2.1 env.1 hH.2.2.2 (a - jR) 1 (jw_get ha hs) rfl rfl hd (hk ls _ M h la H locs cells slots hl hH hS h1 h2)
  · obtain ⟨r1, r2⟩ := hH.ro (by omega) hs
    have hT := env.2.2.2.2.1 a _ (by omega) r1
    exact va_tlen hC.1 hC.2.1 hT hS rfl hd (hk ls _ M h la H locs cells slots hl hH hS h1 h2)
def i_iast (k : jK) : jK := fun ls st M => ∃ (x i : Int32) (a n : Nat) (st' : List Value), st = .int x :: .int i :: .ref a :: st' ∧ jR ≤ a ∧ jn M.1 a = some (.inl (.int, n)) ∧ vp_in i n ∧ k ls st' (M.1, va_up M.2.1 a (upd (M.2.1 a) i.toNatClampNeg x), M.2.2)
theorem x_iast {x i : Int32} {a n : Nat} {ls : jL} {st : List Value} {M : jM} (ha : jR ≤ a) (hs : jn M.1 a = some (.inl (.int, n))) (hi : vp_in i n) (h : k ls st (M.1, va_up M.2.1 a (upd (M.2.1 a) i.toNatClampNeg x), M.2.2)) : i_iast k ls (.int x :: .int i :: .ref a :: st) M := ⟨x, i, a, n, st, rfl, ha, hs, hi, h⟩
theorem jarr_upd (cA : ClassId) (n q : Nat) (f : Nat → Int32) (x : Int32) : (vp_cell cA (n, .inl f)).setSlot q (.int x) = vp_cell cA (n, .inl (upd f q x)) := by
  rw [vp_cell_i, vp_cell_i, arrV_store]
  congr 1
  funext j
  by_cases e : j = q
  · subst e; simp [updV, upd]
  · simp [updV, upd, e]
theorem jarr_updL (cA : ClassId) (n q : Nat) (f : Nat → Int64) (x : Int64) : (vp_cell cA (n, .inr (.inl f))).setSlot q (.long x) = vp_cell cA (n, .inr (.inl (vp_updL f q x))) := by
  rw [vp_cell_l, vp_cell_l, arrV_store]
  congr 1
  funext j
  by_cases e : j = q
  · subst e; simp [updV, vp_updL]
  · simp [updV, vp_updL, e]
theorem s_iast (hC : jC tab p l e R s m args below meth c Q g nL n0 z0 cc own nm X) (hd : decode cc pc = .ok (.iastore, 1)) (hk : jSn p l e R s m args below meth c Q g nL n0 z0 (pc + 1) (k)) : jSn p l e R s m args below meth c Q g nL n0 z0 (pc) (i_iast k) := by
  rintro ls st M ⟨x, i, a, n, st', rfl, ha, hs, hi, h⟩ la H locs cells slots hl hH hS h1 h2
  have he := jw_get (ad := jad g) (cT := jcT g) ha hs
  have hK := hC.2.2.2.2.2.1.1
  refine W.iast hC.1 hC.2.1 (hH.2.2.2 _ _ he) ((hK.2 0 _ rfl).1 n (fun j => .int (M.2.1 a j))) (fun q => by cases q) (by show ¬ (i < 0 ∨ (arrV _ _ _).slots.size ≤ _); rw [arrV_size]; exact hi) rfl rfl hd fun H1 e z oq => ?_
  refine hk ls _ _ h la H1 _ cells slots hl (hH.wrI ha hs z (hH.2.2.2.set (jD hC.2.2.2.2.1 M) he ?_ oq)) (hS.put z oq (jA_ad hC.2.2.2.2.1 ha)) h1 h2
  show H1[jad g a]? = some (vp_cell _ _)
  rw [e]
  exact congrArg some (jarr_upd _ _ _ _ _)
def i_bast (k : jK) : jK := fun ls st M => ∃ (x i : Int32) (a n : Nat) (st' : List Value), st = .int x :: .int i :: .ref a :: st' ∧ jR ≤ a ∧ jn M.1 a = some (.inl (.byte, n)) ∧ vp_in i n ∧ k ls st' (M.1, va_up M.2.1 a (upd (M.2.1 a) i.toNatClampNeg x.toInt8.toInt32), M.2.2)
theorem x_bast {x i : Int32} {a n : Nat} {ls : jL} {st : List Value} {M : jM} (ha : jR ≤ a) (hs : jn M.1 a = some (.inl (.byte, n))) (hi : vp_in i n) (h : k ls st (M.1, va_up M.2.1 a (upd (M.2.1 a) i.toNatClampNeg x.toInt8.toInt32), M.2.2)) : i_bast k ls (.int x :: .int i :: .ref a :: st) M := ⟨x, i, a, n, st, rfl, ha, hs, hi, h⟩
theorem s_bast (hC : jC tab p l e R s m args below meth c Q g nL n0 z0 cc own nm X) (hd : decode cc pc = .ok (.bastore, 1)) (hk : jSn p l e R s m args below meth c Q g nL n0 z0 (pc + 1) (k)) : jSn p l e R s m args below meth c Q g nL n0 z0 (pc) (i_bast k) := by
  rintro ls st M ⟨x, i, a, n, st', rfl, ha, hs, hi, h⟩ la H locs cells slots hl hH hS h1 h2
  have he := jw_get (ad := jad g) (cT := jcT g) ha hs
  have hK := hC.2.2.2.2.2.1.1
  refine W.bast hC.1 hC.2.1 (hH.2.2.2 _ _ he) ((hK.2 1 _ rfl).1 n (fun j => .int (M.2.1 a j))) (fun q => by cases q) (by show ¬ (i < 0 ∨ (arrV _ _ _).slots.size ≤ _); rw [arrV_size]; exact hi) rfl rfl hd fun H1 e z oq => ?_
  refine hk ls _ _ h la H1 _ cells slots hl (hH.wrI ha hs z (hH.2.2.2.set (jD hC.2.2.2.2.1 M) he ?_ oq)) (hS.put z oq (jA_ad hC.2.2.2.2.1 ha)) h1 h2
  show H1[jad g a]? = some (vp_cell _ _)
  rw [e]
  exact congrArg some (jarr_upd _ _ _ _ x.toInt8.toInt32)
def i_last (k : jK) : jK := fun ls st M => ∃ (x : Int64) (i : Int32) (a n : Nat) (st' : List Value), st = .long x :: .int i :: .ref a :: st' ∧ jR ≤ a ∧ jn M.1 a = some (.inl (.long, n)) ∧ vp_in i n ∧ k ls st' (M.1, M.2.1, va_up M.2.2 a (vp_updL (M.2.2 a) i.toNatClampNeg x))
theorem x_last {x : Int64} {i : Int32} {a n : Nat} {ls : jL} {st : List Value} {M : jM} (ha : jR ≤ a) (hs : jn M.1 a = some (.inl (.long, n))) (hi : vp_in i n) (h : k ls st (M.1, M.2.1, va_up M.2.2 a (vp_updL (M.2.2 a) i.toNatClampNeg x))) : i_last k ls (.long x :: .int i :: .ref a :: st) M := ⟨x, i, a, n, st, rfl, ha, hs, hi, h⟩
theorem s_last (hC : jC tab p l e R s m args below meth c Q g nL n0 z0 cc own nm X) (hd : decode cc pc = .ok (.lastore, 1)) (hk : jSn p l e R s m args below meth c Q g nL n0 z0 (pc + 1) (k)) : jSn p l e R s m args below meth c Q g nL n0 z0 (pc) (i_last k) := by
  rintro ls st M ⟨x, i, a, n, st', rfl, ha, hs, hi, h⟩ la H locs cells slots hl hH hS h1 h2
  have he := jw_get (ad := jad g) (cT := jcT g) ha hs
  have hK := hC.2.2.2.2.2.1.1
  refine W.last hC.1 hC.2.1 (hH.2.2.2 _ _ he) ((hK.2 2 _ rfl).1 n (fun j => .long (M.2.2 a j))) (fun q => by cases q) (by show ¬ (i < 0 ∨ (arrV _ _ _).slots.size ≤ _); rw [arrV_size]; exact hi) rfl rfl hd fun H1 e z oq => ?_
  refine hk ls _ _ h la H1 _ cells slots hl (hH.wrL ha hs z (hH.2.2.2.set (jD hC.2.2.2.2.1 M) he ?_ oq)) (hS.put z oq (jA_ad hC.2.2.2.2.1 ha)) h1 h2
  show H1[jad g a]? = some (vp_cell _ _)
  rw [e]
  exact congrArg some (jarr_updL _ _ _ _ _)
end JH
