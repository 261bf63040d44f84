/-! THE INSTRUCTIONS: each tells what must hold for the walk to go on; s_: it is so on the machine; x_: how it is used -/
def jmask : List Bool → jL → jL
  | true :: bs, o :: l => o :: jmask bs l
  | false :: bs, _ :: l => none :: jmask bs l
  | [], l => l
  | _, [] => []
theorem jmask_len : ∀ (bs : List Bool) (l : jL), (jmask bs l).length = l.length
  | true :: bs, _ :: l => by simp [jmask, jmask_len bs l]
  | false :: bs, _ :: l => by simp [jmask, jmask_len bs l]
  | [], _ => by simp [jmask]
  | true :: _, [] => rfl
  | false :: _, [] => rfl
theorem jmask_get : ∀ (bs : List Bool) (l : jL) (i : Nat) (v : Value), (jmask bs l)[i]? = some (some v) → l[i]? = some (some v)
  | true :: bs, a :: l, i, v, h => by
    cases i with
    | zero => simpa [jmask] using h
    | succ i => simp only [jmask, List.getElem?_cons_succ] at h ⊢; exact jmask_get bs l i v h
  | false :: bs, a :: l, i, v, h => by
    cases i with
    | zero => simp [jmask] at h
    | succ i => simp only [jmask, List.getElem?_cons_succ] at h ⊢; exact jmask_get bs l i v h
  | [], l, i, v, h => by simpa [jmask] using h
  | true :: _, [], i, v, h => by simp [jmask] at h
  | false :: _, [], i, v, h => by simp [jmask] at h
/-- a long is kept -/
def js2 (ls : jL) (i : Nat) (v : Value) : jL := (js1 ls i v).set (i + 1) none
theorem js1_in {ad : Nat → Nat} {ls : jL} {i : Nat} {v : Value} (j : Nat) (w : Value) (h : (js1 ls i v)[j]? = some (some w)) : (j, jt ad w) ∈ (i, jt ad v) :: (jas 0 (ls.map (Option.map (jt ad)))).filter (fun q => !(q.1 == i) && !(q.1 + 1 == i && q.2.category == 2)) := by
  rcases js1_get ls i v w j h with ⟨h1, h2⟩ | ⟨h1, h2, h3⟩
  · subst h1; subst h2; exact List.mem_cons_self
  · refine List.mem_cons_of_mem _ (List.mem_filter.mpr ⟨(jas_mem _ _ _ _).mpr ⟨j, by omega, by simp [h2]⟩, ?_⟩)
    simp only [jt_cat, Bool.and_eq_true, Bool.not_eq_true', beq_eq_false_iff_ne, ne_eq, Bool.and_eq_false_iff]
    refine ⟨h1, ?_⟩
    by_cases e : j + 1 = i
    · exact Or.inr (h3 e)
    · exact Or.inl e
theorem js2_in {ad : Nat → Nat} {ls : jL} {i : Nat} {v : Value} (j : Nat) (w : Value) (h : (js2 ls i v)[j]? = some (some w)) : (j, jt ad w) ∈ (i, jt ad v) :: (jas 0 (ls.map (Option.map (jt ad)))).filter (fun q => !(q.1 == i) && (!(q.1 == i + 1) && !(q.1 + 1 == i && q.2.category == 2))) := by
  have hj : j ≠ i + 1 := by
    intro q
    subst q
    unfold js2 at h
    rw [List.getElem?_set] at h
    by_cases z : i + 1 < (js1 ls i v).length
    · simp [z] at h
    · simp [z] at h
  have h' : (js1 ls i v)[j]? = some (some w) := by
    unfold js2 at h
    rwa [List.getElem?_set_ne (fun q => hj q.symm)] at h
  rcases js1_get ls i v w j h' with ⟨h1, h2⟩ | ⟨h1, h2, h3⟩
  · subst h1; subst h2; exact List.mem_cons_self
  · refine List.mem_cons_of_mem _ (List.mem_filter.mpr ⟨(jas_mem _ _ _ _).mpr ⟨j, by omega, by simp [h2]⟩, ?_⟩)
    simp only [jt_cat, Bool.and_eq_true, Bool.not_eq_true', beq_eq_false_iff_ne, ne_eq, Bool.and_eq_false_iff]
    refine ⟨h1, hj, ?_⟩
    by_cases e : j + 1 = i
    · exact Or.inr (h3 e)
    · exact Or.inl e
section JI
variable {tab : Nat → Option jMt} {p : Program} {l : Launch} {e : Env} {R : Room} {s : State} {m : MethodId} {args : Array Value} {below : List Frame} {meth : Method} {c : Code} {Q : State → Prop} {g : jG} {nL n0 z0 : Nat} {cc : ByteArray} {own nm : String} {X : jX} {pc : Nat} {k : jK}
def i_iadd (k : jK) : jK := fun ls st M => ∃ (x : Int32) (y : Int32) (st' : List Value), st = .int y :: .int x :: st' ∧ k ls (.int (x + y) :: st') M
theorem s_iadd (hC : jC tab p l e R s m args below meth c Q g nL n0 z0 cc own nm X) (hd : decode cc pc = .ok (.iadd, 1)) (hk : jSn p l e R s m args below meth c Q g nL n0 z0 (pc + 1) (k)) : jSn p l e R s m args below meth c Q g nL n0 z0 (pc) (i_iadd k) := by
  rintro ls st M ⟨x, y, st', rfl, h⟩ la H locs cells slots hl hH hS h1 h2
  exact lv_iadd hC.1 hC.2.1 hd (hk ls _ M h la H locs cells slots hl hH hS h1 h2)
theorem x_iadd {ls : jL} {x : Int32} {y : Int32} {st : List Value} {M : jM} (h : k ls (.int (x + y) :: st) M) : i_iadd k ls (.int y :: .int x :: st) M := ⟨x, y, st, rfl, h⟩
def i_isub (k : jK) : jK := fun ls st M => ∃ (x : Int32) (y : Int32) (st' : List Value), st = .int y :: .int x :: st' ∧ k ls (.int (x - y) :: st') M
theorem s_isub (hC : jC tab p l e R s m args below meth c Q g nL n0 z0 cc own nm X) (hd : decode cc pc = .ok (.isub, 1)) (hk : jSn p l e R s m args below meth c Q g nL n0 z0 (pc + 1) (k)) : jSn p l e R s m args below meth c Q g nL n0 z0 (pc) (i_isub k) := by
  rintro ls st M ⟨x, y, st', rfl, h⟩ la H locs cells slots hl hH hS h1 h2
  exact lv_isub hC.1 hC.2.1 hd (hk ls _ M h la H locs cells slots hl hH hS h1 h2)
theorem x_isub {ls : jL} {x : Int32} {y : Int32} {st : List Value} {M : jM} (h : k ls (.int (x - y) :: st) M) : i_isub k ls (.int y :: .int x :: st) M := ⟨x, y, st, rfl, h⟩
def i_imul (k : jK) : jK := fun ls st M => ∃ (x : Int32) (y : Int32) (st' : List Value), st = .int y :: .int x :: st' ∧ k ls (.int (x * y) :: st') M
theorem s_imul (hC : jC tab p l e R s m args below meth c Q g nL n0 z0 cc own nm X) (hd : decode cc pc = .ok (.imul, 1)) (hk : jSn p l e R s m args below meth c Q g nL n0 z0 (pc + 1) (k)) : jSn p l e R s m args below meth c Q g nL n0 z0 (pc) (i_imul k) := by
  rintro ls st M ⟨x, y, st', rfl, h⟩ la H locs cells slots hl hH hS h1 h2
  exact lv_imul hC.1 hC.2.1 hd (hk ls _ M h la H locs cells slots hl hH hS h1 h2)
theorem x_imul {ls : jL} {x : Int32} {y : Int32} {st : List Value} {M : jM} (h : k ls (.int (x * y) :: st) M) : i_imul k ls (.int y :: .int x :: st) M := ⟨x, y, st, rfl, h⟩
def i_iand (k : jK) : jK := fun ls st M => ∃ (x : Int32) (y : Int32) (st' : List Value), st = .int y :: .int x :: st' ∧ k ls (.int (x &&& y) :: st') M
theorem s_iand (hC : jC tab p l e R s m args below meth c Q g nL n0 z0 cc own nm X) (hd : decode cc pc = .ok (.iand, 1)) (hk : jSn p l e R s m args below meth c Q g nL n0 z0 (pc + 1) (k)) : jSn p l e R s m args below meth c Q g nL n0 z0 (pc) (i_iand k) := by
  rintro ls st M ⟨x, y, st', rfl, h⟩ la H locs cells slots hl hH hS h1 h2
  exact lv_iand hC.1 hC.2.1 hd (hk ls _ M h la H locs cells slots hl hH hS h1 h2)
theorem x_iand {ls : jL} {x : Int32} {y : Int32} {st : List Value} {M : jM} (h : k ls (.int (x &&& y) :: st) M) : i_iand k ls (.int y :: .int x :: st) M := ⟨x, y, st, rfl, h⟩
def i_ior (k : jK) : jK := fun ls st M => ∃ (x : Int32) (y : Int32) (st' : List Value), st = .int y :: .int x :: st' ∧ k ls (.int (x ||| y) :: st') M
theorem s_ior (hC : jC tab p l e R s m args below meth c Q g nL n0 z0 cc own nm X) (hd : decode cc pc = .ok (.ior, 1)) (hk : jSn p l e R s m args below meth c Q g nL n0 z0 (pc + 1) (k)) : jSn p l e R s m args below meth c Q g nL n0 z0 (pc) (i_ior k) := by
  rintro ls st M ⟨x, y, st', rfl, h⟩ la H locs cells slots hl hH hS h1 h2
  exact lv_ior hC.1 hC.2.1 hd (hk ls _ M h la H locs cells slots hl hH hS h1 h2)
theorem x_ior {ls : jL} {x : Int32} {y : Int32} {st : List Value} {M : jM} (h : k ls (.int (x ||| y) :: st) M) : i_ior k ls (.int y :: .int x :: st) M := ⟨x, y, st, rfl, h⟩
def i_ixor (k : jK) : jK := fun ls st M => ∃ (x : Int32) (y : Int32) (st' : List Value), st = .int y :: .int x :: st' ∧ k ls (.int (x ^^^ y) :: st') M
theorem s_ixor (hC : jC tab p l e R s m args below meth c Q g nL n0 z0 cc own nm X) (hd : decode cc pc = .ok (.ixor, 1)) (hk : jSn p l e R s m args below meth c Q g nL n0 z0 (pc + 1) (k)) : jSn p l e R s m args below meth c Q g nL n0 z0 (pc) (i_ixor k) := by
  rintro ls st M ⟨x, y, st', rfl, h⟩ la H locs cells slots hl hH hS h1 h2
  exact lv_ixor hC.1 hC.2.1 hd (hk ls _ M h la H locs cells slots hl hH hS h1 h2)
theorem x_ixor {ls : jL} {x : Int32} {y : Int32} {st : List Value} {M : jM} (h : k ls (.int (x ^^^ y) :: st) M) : i_ixor k ls (.int y :: .int x :: st) M := ⟨x, y, st, rfl, h⟩
def i_ishl (k : jK) : jK := fun ls st M => ∃ (x : Int32) (y : Int32) (st' : List Value), st = .int y :: .int x :: st' ∧ k ls (.int (x <<< (y &&& 31)) :: st') M
theorem s_ishl (hC : jC tab p l e R s m args below meth c Q g nL n0 z0 cc own nm X) (hd : decode cc pc = .ok (.ishl, 1)) (hk : jSn p l e R s m args below meth c Q g nL n0 z0 (pc + 1) (k)) : jSn p l e R s m args below meth c Q g nL n0 z0 (pc) (i_ishl k) := by
  rintro ls st M ⟨x, y, st', rfl, h⟩ la H locs cells slots hl hH hS h1 h2
  exact lv_ishl hC.1 hC.2.1 hd (hk ls _ M h la H locs cells slots hl hH hS h1 h2)
theorem x_ishl {ls : jL} {x : Int32} {y : Int32} {st : List Value} {M : jM} (h : k ls (.int (x <<< (y &&& 31)) :: st) M) : i_ishl k ls (.int y :: .int x :: st) M := ⟨x, y, st, rfl, h⟩
def i_ishr (k : jK) : jK := fun ls st M => ∃ (x : Int32) (y : Int32) (st' : List Value), st = .int y :: .int x :: st' ∧ k ls (.int (x >>> (y &&& 31)) :: st') M
theorem s_ishr (hC : jC tab p l e R s m args below meth c Q g nL n0 z0 cc own nm X) (hd : decode cc pc = .ok (.ishr, 1)) (hk : jSn p l e R s m args below meth c Q g nL n0 z0 (pc + 1) (k)) : jSn p l e R s m args below meth c Q g nL n0 z0 (pc) (i_ishr k) := by
  rintro ls st M ⟨x, y, st', rfl, h⟩ la H locs cells slots hl hH hS h1 h2
  exact lv_ishr hC.1 hC.2.1 hd (hk ls _ M h la H locs cells slots hl hH hS h1 h2)
theorem x_ishr {ls : jL} {x : Int32} {y : Int32} {st : List Value} {M : jM} (h : k ls (.int (x >>> (y &&& 31)) :: st) M) : i_ishr k ls (.int y :: .int x :: st) M := ⟨x, y, st, rfl, h⟩
def i_iushr (k : jK) : jK := fun ls st M => ∃ (x : Int32) (y : Int32) (st' : List Value), st = .int y :: .int x :: st' ∧ k ls (.int ((x.toUInt32 >>> (y.toUInt32 &&& Int32.toUInt32 31)).toInt32) :: st') M
theorem s_iushr (hC : jC tab p l e R s m args below meth c Q g nL n0 z0 cc own nm X) (hd : decode cc pc = .ok (.iushr, 1)) (hk : jSn p l e R s m args below meth c Q g nL n0 z0 (pc + 1) (k)) : jSn p l e R s m args below meth c Q g nL n0 z0 (pc) (i_iushr k) := by
  rintro ls st M ⟨x, y, st', rfl, h⟩ la H locs cells slots hl hH hS h1 h2
  exact lv_iushr hC.1 hC.2.1 hd rfl (hk ls _ M h la H locs cells slots hl hH hS h1 h2)
theorem x_iushr {ls : jL} {x : Int32} {y : Int32} {st : List Value} {M : jM} (h : k ls (.int ((x.toUInt32 >>> (y.toUInt32 &&& Int32.toUInt32 31)).toInt32) :: st) M) : i_iushr k ls (.int y :: .int x :: st) M := ⟨x, y, st, rfl, h⟩
def i_idiv (k : jK) : jK := fun ls st M => ∃ (x : Int32) (y : Int32) (st' : List Value), st = .int y :: .int x :: st' ∧ ¬ y = 0 ∧ k ls (.int (x / y) :: st') M
theorem s_idiv (hC : jC tab p l e R s m args below meth c Q g nL n0 z0 cc own nm X) (hd : decode cc pc = .ok (.idiv, 1)) (hk : jSn p l e R s m args below meth c Q g nL n0 z0 (pc + 1) (k)) : jSn p l e R s m args below meth c Q g nL n0 z0 (pc) (i_idiv k) := by
  rintro ls st M ⟨x, y, st', rfl, hy, h⟩ la H locs cells slots hl hH hS h1 h2
  exact lv_idiv hC.1 hC.2.1 hd hy (hk ls _ M h la H locs cells slots hl hH hS h1 h2)
theorem x_idiv {ls : jL} {x : Int32} {y : Int32} {st : List Value} {M : jM} (hy : ¬ y = 0) (h : k ls (.int (x / y) :: st) M) : i_idiv k ls (.int y :: .int x :: st) M := ⟨x, y, st, rfl, hy, h⟩
def i_irem (k : jK) : jK := fun ls st M => ∃ (x : Int32) (y : Int32) (st' : List Value), st = .int y :: .int x :: st' ∧ ¬ y = 0 ∧ k ls (.int (x - x / y * y) :: st') M
theorem s_irem (hC : jC tab p l e R s m args below meth c Q g nL n0 z0 cc own nm X) (hd : decode cc pc = .ok (.irem, 1)) (hk : jSn p l e R s m args below meth c Q g nL n0 z0 (pc + 1) (k)) : jSn p l e R s m args below meth c Q g nL n0 z0 (pc) (i_irem k) := by
  rintro ls st M ⟨x, y, st', rfl, hy, h⟩ la H locs cells slots hl hH hS h1 h2
  exact lv_irem hC.1 hC.2.1 hd hy (hk ls _ M h la H locs cells slots hl hH hS h1 h2)
theorem x_irem {ls : jL} {x : Int32} {y : Int32} {st : List Value} {M : jM} (hy : ¬ y = 0) (h : k ls (.int (x - x / y * y) :: st) M) : i_irem k ls (.int y :: .int x :: st) M := ⟨x, y, st, rfl, hy, h⟩
def i_ladd (k : jK) : jK := fun ls st M => ∃ (x : Int64) (y : Int64) (st' : List Value), st = .long y :: .long x :: st' ∧ k ls (.long (x + y) :: st') M
theorem s_ladd (hC : jC tab p l e R s m args below meth c Q g nL n0 z0 cc own nm X) (hd : decode cc pc = .ok (.ladd, 1)) (hk : jSn p l e R s m args below meth c Q g nL n0 z0 (pc + 1) (k)) : jSn p l e R s m args below meth c Q g nL n0 z0 (pc) (i_ladd k) := by
  rintro ls st M ⟨x, y, st', rfl, h⟩ la H locs cells slots hl hH hS h1 h2
  exact lv_ladd hC.1 hC.2.1 hd (hk ls _ M h la H locs cells slots hl hH hS h1 h2)
theorem x_ladd {ls : jL} {x : Int64} {y : Int64} {st : List Value} {M : jM} (h : k ls (.long (x + y) :: st) M) : i_ladd k ls (.long y :: .long x :: st) M := ⟨x, y, st, rfl, h⟩
def i_lsub (k : jK) : jK := fun ls st M => ∃ (x : Int64) (y : Int64) (st' : List Value), st = .long y :: .long x :: st' ∧ k ls (.long (x - y) :: st') M
theorem s_lsub (hC : jC tab p l e R s m args below meth c Q g nL n0 z0 cc own nm X) (hd : decode cc pc = .ok (.lsub, 1)) (hk : jSn p l e R s m args below meth c Q g nL n0 z0 (pc + 1) (k)) : jSn p l e R s m args below meth c Q g nL n0 z0 (pc) (i_lsub k) := by
  rintro ls st M ⟨x, y, st', rfl, h⟩ la H locs cells slots hl hH hS h1 h2
  exact lv_lsub hC.1 hC.2.1 hd (hk ls _ M h la H locs cells slots hl hH hS h1 h2)
theorem x_lsub {ls : jL} {x : Int64} {y : Int64} {st : List Value} {M : jM} (h : k ls (.long (x - y) :: st) M) : i_lsub k ls (.long y :: .long x :: st) M := ⟨x, y, st, rfl, h⟩
def i_lmul (k : jK) : jK := fun ls st M => ∃ (x : Int64) (y : Int64) (st' : List Value), st = .long y :: .long x :: st' ∧ k ls (.long (x * y) :: st') M
theorem s_lmul (hC : jC tab p l e R s m args below meth c Q g nL n0 z0 cc own nm X) (hd : decode cc pc = .ok (.lmul, 1)) (hk : jSn p l e R s m args below meth c Q g nL n0 z0 (pc + 1) (k)) : jSn p l e R s m args below meth c Q g nL n0 z0 (pc) (i_lmul k) := by
  rintro ls st M ⟨x, y, st', rfl, h⟩ la H locs cells slots hl hH hS h1 h2
  exact lv_lmul hC.1 hC.2.1 hd (hk ls _ M h la H locs cells slots hl hH hS h1 h2)
theorem x_lmul {ls : jL} {x : Int64} {y : Int64} {st : List Value} {M : jM} (h : k ls (.long (x * y) :: st) M) : i_lmul k ls (.long y :: .long x :: st) M := ⟨x, y, st, rfl, h⟩
def i_land (k : jK) : jK := fun ls st M => ∃ (x : Int64) (y : Int64) (st' : List Value), st = .long y :: .long x :: st' ∧ k ls (.long (x &&& y) :: st') M
theorem s_land (hC : jC tab p l e R s m args below meth c Q g nL n0 z0 cc own nm X) (hd : decode cc pc = .ok (.land, 1)) (hk : jSn p l e R s m args below meth c Q g nL n0 z0 (pc + 1) (k)) : jSn p l e R s m args below meth c Q g nL n0 z0 (pc) (i_land k) := by
  rintro ls st M ⟨x, y, st', rfl, h⟩ la H locs cells slots hl hH hS h1 h2
  exact lv_land hC.1 hC.2.1 hd (hk ls _ M h la H locs cells slots hl hH hS h1 h2)
theorem x_land {ls : jL} {x : Int64} {y : Int64} {st : List Value} {M : jM} (h : k ls (.long (x &&& y) :: st) M) : i_land k ls (.long y :: .long x :: st) M := ⟨x, y, st, rfl, h⟩
def i_lor (k : jK) : jK := fun ls st M => ∃ (x : Int64) (y : Int64) (st' : List Value), st = .long y :: .long x :: st' ∧ k ls (.long (x ||| y) :: st') M
theorem s_lor (hC : jC tab p l e R s m args below meth c Q g nL n0 z0 cc own nm X) (hd : decode cc pc = .ok (.lor, 1)) (hk : jSn p l e R s m args below meth c Q g nL n0 z0 (pc + 1) (k)) : jSn p l e R s m args below meth c Q g nL n0 z0 (pc) (i_lor k) := by
  rintro ls st M ⟨x, y, st', rfl, h⟩ la H locs cells slots hl hH hS h1 h2
  exact lv_lor hC.1 hC.2.1 hd (hk ls _ M h la H locs cells slots hl hH hS h1 h2)
theorem x_lor {ls : jL} {x : Int64} {y : Int64} {st : List Value} {M : jM} (h : k ls (.long (x ||| y) :: st) M) : i_lor k ls (.long y :: .long x :: st) M := ⟨x, y, st, rfl, h⟩
def i_lxor (k : jK) : jK := fun ls st M => ∃ (x : Int64) (y : Int64) (st' : List Value), st = .long y :: .long x :: st' ∧ k ls (.long (x ^^^ y) :: st') M
theorem s_lxor (hC : jC tab p l e R s m args below meth c Q g nL n0 z0 cc own nm X) (hd : decode cc pc = .ok (.lxor, 1)) (hk : jSn p l e R s m args below meth c Q g nL n0 z0 (pc + 1) (k)) : jSn p l e R s m args below meth c Q g nL n0 z0 (pc) (i_lxor k) := by
  rintro ls st M ⟨x, y, st', rfl, h⟩ la H locs cells slots hl hH hS h1 h2
  exact lv_lxor hC.1 hC.2.1 hd (hk ls _ M h la H locs cells slots hl hH hS h1 h2)
theorem x_lxor {ls : jL} {x : Int64} {y : Int64} {st : List Value} {M : jM} (h : k ls (.long (x ^^^ y) :: st) M) : i_lxor k ls (.long y :: .long x :: st) M := ⟨x, y, st, rfl, h⟩
def i_ldiv (k : jK) : jK := fun ls st M => ∃ (x : Int64) (y : Int64) (st' : List Value), st = .long y :: .long x :: st' ∧ ¬ y = 0 ∧ k ls (.long (x / y) :: st') M
theorem s_ldiv (hC : jC tab p l e R s m args below meth c Q g nL n0 z0 cc own nm X) (hd : decode cc pc = .ok (.ldiv, 1)) (hk : jSn p l e R s m args below meth c Q g nL n0 z0 (pc + 1) (k)) : jSn p l e R s m args below meth c Q g nL n0 z0 (pc) (i_ldiv k) := by
  rintro ls st M ⟨x, y, st', rfl, hy, h⟩ la H locs cells slots hl hH hS h1 h2
  exact lv_ldiv hC.1 hC.2.1 hd hy (hk ls _ M h la H locs cells slots hl hH hS h1 h2)
theorem x_ldiv {ls : jL} {x : Int64} {y : Int64} {st : List Value} {M : jM} (hy : ¬ y = 0) (h : k ls (.long (x / y) :: st) M) : i_ldiv k ls (.long y :: .long x :: st) M := ⟨x, y, st, rfl, hy, h⟩
def i_lrem (k : jK) : jK := fun ls st M => ∃ (x : Int64) (y : Int64) (st' : List Value), st = .long y :: .long x :: st' ∧ ¬ y = 0 ∧ k ls (.long (x - x / y * y) :: st') M
theorem s_lrem (hC : jC tab p l e R s m args below meth c Q g nL n0 z0 cc own nm X) (hd : decode cc pc = .ok (.lrem, 1)) (hk : jSn p l e R s m args below meth c Q g nL n0 z0 (pc + 1) (k)) : jSn p l e R s m args below meth c Q g nL n0 z0 (pc) (i_lrem k) := by
  rintro ls st M ⟨x, y, st', rfl, hy, h⟩ la H locs cells slots hl hH hS h1 h2
  exact lv_lrem hC.1 hC.2.1 hd hy (hk ls _ M h la H locs cells slots hl hH hS h1 h2)
theorem x_lrem {ls : jL} {x : Int64} {y : Int64} {st : List Value} {M : jM} (hy : ¬ y = 0) (h : k ls (.long (x - x / y * y) :: st) M) : i_lrem k ls (.long y :: .long x :: st) M := ⟨x, y, st, rfl, hy, h⟩
def i_lshl (k : jK) : jK := fun ls st M => ∃ (x : Int64) (y : Int32) (st' : List Value), st = .int y :: .long x :: st' ∧ k ls (.long (x <<< (y.toInt64 &&& 63)) :: st') M
theorem s_lshl (hC : jC tab p l e R s m args below meth c Q g nL n0 z0 cc own nm X) (hd : decode cc pc = .ok (.lshl, 1)) (hk : jSn p l e R s m args below meth c Q g nL n0 z0 (pc + 1) (k)) : jSn p l e R s m args below meth c Q g nL n0 z0 (pc) (i_lshl k) := by
  rintro ls st M ⟨x, y, st', rfl, h⟩ la H locs cells slots hl hH hS h1 h2
  exact lv_lshl hC.1 hC.2.1 hd rfl (hk ls _ M h la H locs cells slots hl hH hS h1 h2)
theorem x_lshl {ls : jL} {x : Int64} {y : Int32} {st : List Value} {M : jM} (h : k ls (.long (x <<< (y.toInt64 &&& 63)) :: st) M) : i_lshl k ls (.int y :: .long x :: st) M := ⟨x, y, st, rfl, h⟩
def i_lshr (k : jK) : jK := fun ls st M => ∃ (x : Int64) (y : Int32) (st' : List Value), st = .int y :: .long x :: st' ∧ k ls (.long (x >>> (y.toInt64 &&& 63)) :: st') M
theorem s_lshr (hC : jC tab p l e R s m args below meth c Q g nL n0 z0 cc own nm X) (hd : decode cc pc = .ok (.lshr, 1)) (hk : jSn p l e R s m args below meth c Q g nL n0 z0 (pc + 1) (k)) : jSn p l e R s m args below meth c Q g nL n0 z0 (pc) (i_lshr k) := by
  rintro ls st M ⟨x, y, st', rfl, h⟩ la H locs cells slots hl hH hS h1 h2
  exact lv_lshr hC.1 hC.2.1 hd rfl (hk ls _ M h la H locs cells slots hl hH hS h1 h2)
theorem x_lshr {ls : jL} {x : Int64} {y : Int32} {st : List Value} {M : jM} (h : k ls (.long (x >>> (y.toInt64 &&& 63)) :: st) M) : i_lshr k ls (.int y :: .long x :: st) M := ⟨x, y, st, rfl, h⟩
def i_lushr (k : jK) : jK := fun ls st M => ∃ (x : Int64) (y : Int32) (st' : List Value), st = .int y :: .long x :: st' ∧ k ls (.long ((x.toUInt64 >>> (y.toInt64.toUInt64 &&& Int64.toUInt64 63)).toInt64) :: st') M
theorem s_lushr (hC : jC tab p l e R s m args below meth c Q g nL n0 z0 cc own nm X) (hd : decode cc pc = .ok (.lushr, 1)) (hk : jSn p l e R s m args below meth c Q g nL n0 z0 (pc + 1) (k)) : jSn p l e R s m args below meth c Q g nL n0 z0 (pc) (i_lushr k) := by
  rintro ls st M ⟨x, y, st', rfl, h⟩ la H locs cells slots hl hH hS h1 h2
  exact lv_lushr hC.1 hC.2.1 hd rfl (hk ls _ M h la H locs cells slots hl hH hS h1 h2)
theorem x_lushr {ls : jL} {x : Int64} {y : Int32} {st : List Value} {M : jM} (h : k ls (.long ((x.toUInt64 >>> (y.toInt64.toUInt64 &&& Int64.toUInt64 63)).toInt64) :: st) M) : i_lushr k ls (.int y :: .long x :: st) M := ⟨x, y, st, rfl, h⟩
def i_lcmp (k : jK) : jK := fun ls st M => ∃ (x : Int64) (y : Int64) (st' : List Value), st = .long y :: .long x :: st' ∧ k ls (.int (lg_cmp x y) :: st') M
theorem s_lcmp (hC : jC tab p l e R s m args below meth c Q g nL n0 z0 cc own nm X) (hd : decode cc pc = .ok (.lcmp, 1)) (hk : jSn p l e R s m args below meth c Q g nL n0 z0 (pc + 1) (k)) : jSn p l e R s m args below meth c Q g nL n0 z0 (pc) (i_lcmp k) := by
  rintro ls st M ⟨x, y, st', rfl, h⟩ la H locs cells slots hl hH hS h1 h2
  exact W.lcmp hC.1 hC.2.1 hd (hk ls _ M h la H locs cells slots hl hH hS h1 h2)
theorem x_lcmp {ls : jL} {x : Int64} {y : Int64} {st : List Value} {M : jM} (h : k ls (.int (lg_cmp x y) :: st) M) : i_lcmp k ls (.long y :: .long x :: st) M := ⟨x, y, st, rfl, h⟩
def i_ineg (k : jK) : jK := fun ls st M => ∃ (x : Int32) (st' : List Value), st = .int x :: st' ∧ k ls (.int (-x) :: st') M
theorem s_ineg (hC : jC tab p l e R s m args below meth c Q g nL n0 z0 cc own nm X) (hd : decode cc pc = .ok (.ineg, 1)) (hk : jSn p l e R s m args below meth c Q g nL n0 z0 (pc + 1) (k)) : jSn p l e R s m args below meth c Q g nL n0 z0 (pc) (i_ineg k) := by
  rintro ls st M ⟨x, st', rfl, h⟩ la H locs cells slots hl hH hS h1 h2
  exact lv_ineg hC.1 hC.2.1 hd (hk ls _ M h la H locs cells slots hl hH hS h1 h2)
theorem x_ineg {ls : jL} {x : Int32} {st : List Value} {M : jM} (h : k ls (.int (-x) :: st) M) : i_ineg k ls (.int x :: st) M := ⟨x, st, rfl, h⟩
def i_lneg (k : jK) : jK := fun ls st M => ∃ (x : Int64) (st' : List Value), st = .long x :: st' ∧ k ls (.long (-x) :: st') M
theorem s_lneg (hC : jC tab p l e R s m args below meth c Q g nL n0 z0 cc own nm X) (hd : decode cc pc = .ok (.lneg, 1)) (hk : jSn p l e R s m args below meth c Q g nL n0 z0 (pc + 1) (k)) : jSn p l e R s m args below meth c Q g nL n0 z0 (pc) (i_lneg k) := by
  rintro ls st M ⟨x, st', rfl, h⟩ la H locs cells slots hl hH hS h1 h2
  exact lv_lneg hC.1 hC.2.1 hd (hk ls _ M h la H locs cells slots hl hH hS h1 h2)
theorem x_lneg {ls : jL} {x : Int64} {st : List Value} {M : jM} (h : k ls (.long (-x) :: st) M) : i_lneg k ls (.long x :: st) M := ⟨x, st, rfl, h⟩
def i_i2l (k : jK) : jK := fun ls st M => ∃ (x : Int32) (st' : List Value), st = .int x :: st' ∧ k ls (.long (x.toInt64) :: st') M
theorem s_i2l (hC : jC tab p l e R s m args below meth c Q g nL n0 z0 cc own nm X) (hd : decode cc pc = .ok (.i2l, 1)) (hk : jSn p l e R s m args below meth c Q g nL n0 z0 (pc + 1) (k)) : jSn p l e R s m args below meth c Q g nL n0 z0 (pc) (i_i2l k) := by
  rintro ls st M ⟨x, st', rfl, h⟩ la H locs cells slots hl hH hS h1 h2
  exact lv_i2l hC.1 hC.2.1 hd rfl (hk ls _ M h la H locs cells slots hl hH hS h1 h2)
theorem x_i2l {ls : jL} {x : Int32} {st : List Value} {M : jM} (h : k ls (.long (x.toInt64) :: st) M) : i_i2l k ls (.int x :: st) M := ⟨x, st, rfl, h⟩
def i_l2i (k : jK) : jK := fun ls st M => ∃ (x : Int64) (st' : List Value), st = .long x :: st' ∧ k ls (.int (x.toInt32) :: st') M
theorem s_l2i (hC : jC tab p l e R s m args below meth c Q g nL n0 z0 cc own nm X) (hd : decode cc pc = .ok (.l2i, 1)) (hk : jSn p l e R s m args below meth c Q g nL n0 z0 (pc + 1) (k)) : jSn p l e R s m args below meth c Q g nL n0 z0 (pc) (i_l2i k) := by
  rintro ls st M ⟨x, st', rfl, h⟩ la H locs cells slots hl hH hS h1 h2
  exact lv_l2i hC.1 hC.2.1 hd rfl (hk ls _ M h la H locs cells slots hl hH hS h1 h2)
theorem x_l2i {ls : jL} {x : Int64} {st : List Value} {M : jM} (h : k ls (.int (x.toInt32) :: st) M) : i_l2i k ls (.long x :: st) M := ⟨x, st, rfl, h⟩
def i_i2b (k : jK) : jK := fun ls st M => ∃ (x : Int32) (st' : List Value), st = .int x :: st' ∧ k ls (.int (x.toInt8.toInt32) :: st') M
theorem s_i2b (hC : jC tab p l e R s m args below meth c Q g nL n0 z0 cc own nm X) (hd : decode cc pc = .ok (.i2b, 1)) (hk : jSn p l e R s m args below meth c Q g nL n0 z0 (pc + 1) (k)) : jSn p l e R s m args below meth c Q g nL n0 z0 (pc) (i_i2b k) := by
  rintro ls st M ⟨x, st', rfl, h⟩ la H locs cells slots hl hH hS h1 h2
  exact lv_i2b hC.1 hC.2.1 hd rfl (hk ls _ M h la H locs cells slots hl hH hS h1 h2)
theorem x_i2b {ls : jL} {x : Int32} {st : List Value} {M : jM} (h : k ls (.int (x.toInt8.toInt32) :: st) M) : i_i2b k ls (.int x :: st) M := ⟨x, st, rfl, h⟩
def i_i2s (k : jK) : jK := fun ls st M => ∃ (x : Int32) (st' : List Value), st = .int x :: st' ∧ k ls (.int (x.toInt16.toInt32) :: st') M
theorem s_i2s (hC : jC tab p l e R s m args below meth c Q g nL n0 z0 cc own nm X) (hd : decode cc pc = .ok (.i2s, 1)) (hk : jSn p l e R s m args below meth c Q g nL n0 z0 (pc + 1) (k)) : jSn p l e R s m args below meth c Q g nL n0 z0 (pc) (i_i2s k) := by
  rintro ls st M ⟨x, st', rfl, h⟩ la H locs cells slots hl hH hS h1 h2
  exact lv_i2s hC.1 hC.2.1 hd rfl (hk ls _ M h la H locs cells slots hl hH hS h1 h2)
theorem x_i2s {ls : jL} {x : Int32} {st : List Value} {M : jM} (h : k ls (.int (x.toInt16.toInt32) :: st) M) : i_i2s k ls (.int x :: st) M := ⟨x, st, rfl, h⟩
def i_i2c (k : jK) : jK := fun ls st M => ∃ (x : Int32) (st' : List Value), st = .int x :: st' ∧ k ls (.int ((x.toUInt32 % 65536).toInt32) :: st') M
theorem s_i2c (hC : jC tab p l e R s m args below meth c Q g nL n0 z0 cc own nm X) (hd : decode cc pc = .ok (.i2c, 1)) (hk : jSn p l e R s m args below meth c Q g nL n0 z0 (pc + 1) (k)) : jSn p l e R s m args below meth c Q g nL n0 z0 (pc) (i_i2c k) := by
  rintro ls st M ⟨x, st', rfl, h⟩ la H locs cells slots hl hH hS h1 h2
  exact lv_i2c hC.1 hC.2.1 hd rfl (hk ls _ M h la H locs cells slots hl hH hS h1 h2)
theorem x_i2c {ls : jL} {x : Int32} {st : List Value} {M : jM} (h : k ls (.int ((x.toUInt32 % 65536).toInt32) :: st) M) : i_i2c k ls (.int x :: st) M := ⟨x, st, rfl, h⟩
def i_push (v : Value) (k : jK) : jK := fun ls st M => k ls (v :: st) M
theorem x_push {v : Value} {ls : jL} {st : List Value} {M : jM} (h : k ls (v :: st) M) : i_push v k ls st M := h
theorem s_iconst (hC : jC tab p l e R s m args below meth c Q g nL n0 z0 cc own nm X) {n : Int} {v : Int32} (hd : decode cc pc = .ok (.iconst n, 1)) (hv : Int32.ofInt n = v) (hk : jSn p l e R s m args below meth c Q g nL n0 z0 (pc + 1) (k)) : jSn p l e R s m args below meth c Q g nL n0 z0 (pc) (i_push (.int v) k) := by
  intro ls st M h la H locs cells slots hl hH hS h1 h2
  exact lv_iconst hC.1 hC.2.1 hd hv (hk ls _ M h la H locs cells slots hl hH hS h1 h2)
theorem s_bipush (hC : jC tab p l e R s m args below meth c Q g nL n0 z0 cc own nm X) {n : Int} {v : Int32} (hd : decode cc pc = .ok (.bipush n, 2)) (hv : (Int8.ofInt n).toInt32 = v) (hk : jSn p l e R s m args below meth c Q g nL n0 z0 (pc + 2) (k)) : jSn p l e R s m args below meth c Q g nL n0 z0 (pc) (i_push (.int v) k) := by
  intro ls st M h la H locs cells slots hl hH hS h1 h2
  exact lv_bipush hC.1 hC.2.1 hd hv (hk ls _ M h la H locs cells slots hl hH hS h1 h2)
theorem s_sipush (hC : jC tab p l e R s m args below meth c Q g nL n0 z0 cc own nm X) {n : Int} {v : Int32} (hd : decode cc pc = .ok (.sipush n, 3)) (hv : (Int16.ofInt n).toInt32 = v) (hk : jSn p l e R s m args below meth c Q g nL n0 z0 (pc + 3) (k)) : jSn p l e R s m args below meth c Q g nL n0 z0 (pc) (i_push (.int v) k) := by
  intro ls st M h la H locs cells slots hl hH hS h1 h2
  exact lv_sipush hC.1 hC.2.1 hd hv (hk ls _ M h la H locs cells slots hl hH hS h1 h2)
theorem s_lconst (hC : jC tab p l e R s m args below meth c Q g nL n0 z0 cc own nm X) {n : Fin 2} {v : Int64} (hd : decode cc pc = .ok (.lconst n, 1)) (hv : Int64.ofNat (n : Nat) = v) (hk : jSn p l e R s m args below meth c Q g nL n0 z0 (pc + 1) (k)) : jSn p l e R s m args below meth c Q g nL n0 z0 (pc) (i_push (.long v) k) := by
  intro ls st M h la H locs cells slots hl hH hS h1 h2
  exact lv_lconst hC.1 hC.2.1 hd hv (hk ls _ M h la H locs cells slots hl hH hS h1 h2)
theorem s_ldc (hC : jC tab p l e R s m args below meth c Q g nL n0 z0 cc own nm X) {idx : Nat} {v : Int32} (hw : Cond.constant own idx v ∈ lw_tbl) (hd : decode cc pc = .ok (.ldc idx, 2)) (hk : jSn p l e R s m args below meth c Q g nL n0 z0 (pc + 2) (k)) : jSn p l e R s m args below meth c Q g nL n0 z0 (pc) (i_push (.int v) k) := by
  intro ls st M h la H locs cells slots hl hH hS h1 h2
  exact lv_ldc hC.1 hC.2.1 hC.2.2.2.1 (hC.2.2.2.2.2.1.2.1 _ hw rfl args) hd (hk ls _ M h la H locs cells slots hl hH hS h1 h2)
theorem s_ldcw (hC : jC tab p l e R s m args below meth c Q g nL n0 z0 cc own nm X) {idx : Nat} {v : Int32} (hw : Cond.constant own idx v ∈ lw_tbl) (hd : decode cc pc = .ok (.ldc_w idx, 3)) (hk : jSn p l e R s m args below meth c Q g nL n0 z0 (pc + 3) (k)) : jSn p l e R s m args below meth c Q g nL n0 z0 (pc) (i_push (.int v) k) := by
  intro ls st M h la H locs cells slots hl hH hS h1 h2
  exact lv_ldcw hC.1 hC.2.1 hC.2.2.2.1 (hC.2.2.2.2.2.1.2.1 _ hw rfl args) hd (hk ls _ M h la H locs cells slots hl hH hS h1 h2)
theorem s_ldc2 (hC : jC tab p l e R s m args below meth c Q g nL n0 z0 cc own nm X) {idx : Nat} {v : Int64} (hw : Cond.constantLong own idx v ∈ lw_tbl) (hd : decode cc pc = .ok (.ldc2_w idx, 3)) (hk : jSn p l e R s m args below meth c Q g nL n0 z0 (pc + 3) (k)) : jSn p l e R s m args below meth c Q g nL n0 z0 (pc) (i_push (.long v) k) := by
  intro ls st M h la H locs cells slots hl hH hS h1 h2
  exact lv_ldc2 hC.1 hC.2.1 hC.2.2.2.1 (hC.2.2.2.2.2.1.2.1 _ hw rfl args) hd (hk ls _ M h la H locs cells slots hl hH hS h1 h2)
theorem s_gets (hC : jC tab p l e R s m args below meth c Q g nL n0 z0 cc own nm X) {idx : Nat} {C n d : String} {v : Value} (hq : (C, n, d, v) ∈ jstats) (hw : Cond.fieldLink own idx C n d ∈ lw_tbl) (hd : decode cc pc = .ok (.getstatic idx, 3)) (hk : jSn p l e R s m args below meth c Q g nL n0 z0 (pc + 3) (k)) : jSn p l e R s m args below meth c Q g nL n0 z0 (pc) (i_push v k) := by
  intro ls st M h la H locs cells slots hl hH hS h1 h2
  exact va_gets hC.1 hC.2.1 (hC.2.2.2.2.2.1.2.2.2.2.2.1 _ hq) hS hC.2.2.2.1 (hC.2.2.2.2.2.1.2.1 _ hw rfl args) (fun _ z => z) hd (hk ls _ M h la H locs cells slots hl hH hS h1 h2)
theorem s_ldcS (hC : jC tab p l e R s m args below meth c Q g nL n0 z0 cc own nm X) {idx q : Nat} (hq : (own, idx, q) ∈ jstrs) (hd : decode cc pc = .ok (.ldc idx, 2)) (hk : jSn p l e R s m args below meth c Q g nL n0 z0 (pc + 2) (k)) : jSn p l e R s m args below meth c Q g nL n0 z0 (pc) (i_push (.ref q) k) := by
  intro ls st M h la H locs cells slots hl hH hS h1 h2
  obtain ⟨tx, hz⟩ := hC.2.2.2.2.2.1.2.2.2.2.2.2.1 _ hq
  exact va_ldcS hC.1 hC.2.1 hC.2.2.2.1 hz hd (hk ls _ M h la H locs cells slots hl hH hS h1 h2)
def i_fmt (k : jK) : jK := fun ls st M => k ls (.null :: st) M ∧ k ls (.ref 14 :: st) M
theorem x_fmt {ls : jL} {st : List Value} {M : jM} (h : k ls (.null :: st) M) (h2 : k ls (.ref 14 :: st) M) : i_fmt k ls st M := ⟨h, h2⟩
theorem s_fmt (hC : jC tab p l e R s m args below meth c Q g nL n0 z0 cc own nm X) {idx : Nat} (hw : Cond.fieldLink own idx "jdk/internal/util/Preconditions" "SIOOBE_FORMATTER" "Ljava/util/function/BiFunction;" ∈ lw_tbl) (hd : decode cc pc = .ok (.getstatic idx, 3)) (hk : jSn p l e R s m args below meth c Q g nL n0 z0 (pc + 3) (k)) : jSn p l e R s m args below meth c Q g nL n0 z0 (pc) (i_fmt k) := by
  rintro ls st M ⟨h, h'⟩ la H locs cells slots hl hH hS h1 h2
  have env := hC.2.2.2.2.2.1
  rcases env.2.2.2.2.2.2.2 with hz | hz
  · exact va_gets hC.1 hC.2.1 hz hS hC.2.2.2.1 (env.2.1 _ hw rfl args) (fun _ z => z) hd (hk ls _ M h la H locs cells slots hl hH hS h1 h2)
  · exact va_gets hC.1 hC.2.1 hz hS hC.2.2.2.1 (env.2.1 _ hw rfl args) (fun _ z => z) hd (hk ls _ M h' la H locs cells slots hl hH hS h1 h2)
def i_iload (i : Nat) (k : jK) : jK := fun ls st M => ∃ x : Int32, jn ls i = some (some (.int x)) ∧ k ls (.int x :: st) M
theorem x_iload {i : Nat} {ls : jL} {x : Int32} {st : List Value} {M : jM} (hi : jn ls i = some (some (.int x))) (h : k ls (.int x :: st) M) : i_iload i k ls st M := ⟨x, hi, h⟩
theorem s_iload_n (hC : jC tab p l e R s m args below meth c Q g nL n0 z0 cc own nm X) {i : Nat} {q : Fin 4} (hd : decode cc pc = .ok (.iload_n q, 1)) (hi : (q : Nat) = i) (hk : jSn p l e R s m args below meth c Q g nL n0 z0 (pc + 1) (k)) : jSn p l e R s m args below meth c Q g nL n0 z0 (pc) (i_iload i k) := by
  rintro ls st M ⟨x, hx, h⟩ la H locs cells slots hl hH hS h1 h2
  exact lv_iload_n hC.1 hC.2.1 hd hi (hl.at hx) (hk ls _ M h la H locs cells slots hl hH hS h1 h2)
theorem s_iload (hC : jC tab p l e R s m args below meth c Q g nL n0 z0 cc own nm X) {i : Nat} (hd : decode cc pc = .ok (.iload i, 2)) (hk : jSn p l e R s m args below meth c Q g nL n0 z0 (pc + 2) (k)) : jSn p l e R s m args below meth c Q g nL n0 z0 (pc) (i_iload i k) := by
  rintro ls st M ⟨x, hx, h⟩ la H locs cells slots hl hH hS h1 h2
  exact lv_iload hC.1 hC.2.1 hd (hl.at hx) (hk ls _ M h la H locs cells slots hl hH hS h1 h2)
def i_lload (i : Nat) (k : jK) : jK := fun ls st M => ∃ x : Int64, jn ls i = some (some (.long x)) ∧ k ls (.long x :: st) M
theorem x_lload {i : Nat} {ls : jL} {x : Int64} {st : List Value} {M : jM} (hi : jn ls i = some (some (.long x))) (h : k ls (.long x :: st) M) : i_lload i k ls st M := ⟨x, hi, h⟩
theorem s_lload_n (hC : jC tab p l e R s m args below meth c Q g nL n0 z0 cc own nm X) {i : Nat} {q : Fin 4} (hd : decode cc pc = .ok (.lload_n q, 1)) (hi : (q : Nat) = i) (hk : jSn p l e R s m args below meth c Q g nL n0 z0 (pc + 1) (k)) : jSn p l e R s m args below meth c Q g nL n0 z0 (pc) (i_lload i k) := by
  rintro ls st M ⟨x, hx, h⟩ la H locs cells slots hl hH hS h1 h2
  exact lv_lload_n hC.1 hC.2.1 hd hi (hl.at hx) (hk ls _ M h la H locs cells slots hl hH hS h1 h2)
theorem s_lload (hC : jC tab p l e R s m args below meth c Q g nL n0 z0 cc own nm X) {i : Nat} (hd : decode cc pc = .ok (.lload i, 2)) (hk : jSn p l e R s m args below meth c Q g nL n0 z0 (pc + 2) (k)) : jSn p l e R s m args below meth c Q g nL n0 z0 (pc) (i_lload i k) := by
  rintro ls st M ⟨x, hx, h⟩ la H locs cells slots hl hH hS h1 h2
  exact lv_lload hC.1 hC.2.1 hd (hl.at hx) (hk ls _ M h la H locs cells slots hl hH hS h1 h2)
def i_aload (i : Nat) (k : jK) : jK := fun ls st M => ∃ x : Nat, jn ls i = some (some (.ref x)) ∧ k ls (.ref x :: st) M
theorem x_aload {i : Nat} {ls : jL} {x : Nat} {st : List Value} {M : jM} (hi : jn ls i = some (some (.ref x))) (h : k ls (.ref x :: st) M) : i_aload i k ls st M := ⟨x, hi, h⟩
theorem s_aload_n (hC : jC tab p l e R s m args below meth c Q g nL n0 z0 cc own nm X) {i : Nat} {q : Fin 4} (hd : decode cc pc = .ok (.aload_n q, 1)) (hi : (q : Nat) = i) (hk : jSn p l e R s m args below meth c Q g nL n0 z0 (pc + 1) (k)) : jSn p l e R s m args below meth c Q g nL n0 z0 (pc) (i_aload i k) := by
  rintro ls st M ⟨x, hx, h⟩ la H locs cells slots hl hH hS h1 h2
  exact lv_aload_n hC.1 hC.2.1 hd hi (hl.at hx) (hk ls _ M h la H locs cells slots hl hH hS h1 h2)
theorem s_aload (hC : jC tab p l e R s m args below meth c Q g nL n0 z0 cc own nm X) {i : Nat} (hd : decode cc pc = .ok (.aload i, 2)) (hk : jSn p l e R s m args below meth c Q g nL n0 z0 (pc + 2) (k)) : jSn p l e R s m args below meth c Q g nL n0 z0 (pc) (i_aload i k) := by
  rintro ls st M ⟨x, hx, h⟩ la H locs cells slots hl hH hS h1 h2
  exact lv_aload hC.1 hC.2.1 hd (hl.at hx) (hk ls _ M h la H locs cells slots hl hH hS h1 h2)
def i_istore (i : Nat) (k : jK) : jK := fun ls st M => ∃ (x : Int32) (st' : List Value), st = .int x :: st' ∧ k (js1 ls i (.int x)) st' M
theorem x_istore {i : Nat} {ls ls2 : jL} {x : Int32} {st : List Value} {M : jM} (hl : js1 ls i (.int x) = ls2) (h : k ls2 st M) : i_istore i k ls (.int x :: st) M := ⟨x, st, rfl, by rw [hl]; exact h⟩
theorem s_istore_n (hC : jC tab p l e R s m args below meth c Q g nL n0 z0 cc own nm X) {i : Nat} {q : Fin 4} (hd : decode cc pc = .ok (.istore_n q, 1)) (hi : (q : Nat) = i) (hn : i < nL) (hk : jSn p l e R s m args below meth c Q g nL n0 z0 (pc + 1) (k)) : jSn p l e R s m args below meth c Q g nL n0 z0 (pc) (i_istore i k) := by
  rintro ls st M ⟨x, st', rfl, h⟩ la H locs cells slots hl hH hS h1 h2
  exact lv_istore_n hC.1 hC.2.1 hd hi hl.2 hn rfl (fun la2 hl2 => hk _ _ M h la2 H locs cells slots (jlv.weak (by rw [js1_len]; exact hl.1) hl2 (fun j w z => js1_in j w z)) hH hS h1 h2)
theorem s_istore (hC : jC tab p l e R s m args below meth c Q g nL n0 z0 cc own nm X) {i : Nat} (hd : decode cc pc = .ok (.istore i, 2)) (hn : i < nL) (hk : jSn p l e R s m args below meth c Q g nL n0 z0 (pc + 2) (k)) : jSn p l e R s m args below meth c Q g nL n0 z0 (pc) (i_istore i k) := by
  rintro ls st M ⟨x, st', rfl, h⟩ la H locs cells slots hl hH hS h1 h2
  exact lv_istore hC.1 hC.2.1 hd hl.2 hn rfl (fun la2 hl2 => hk _ _ M h la2 H locs cells slots (jlv.weak (by rw [js1_len]; exact hl.1) hl2 (fun j w z => js1_in j w z)) hH hS h1 h2)
def i_lstore (i : Nat) (k : jK) : jK := fun ls st M => ∃ (x : Int64) (st' : List Value), st = .long x :: st' ∧ k (js2 ls i (.long x)) st' M
theorem x_lstore {i : Nat} {ls ls2 : jL} {x : Int64} {st : List Value} {M : jM} (hl : js2 ls i (.long x) = ls2) (h : k ls2 st M) : i_lstore i k ls (.long x :: st) M := ⟨x, st, rfl, by rw [hl]; exact h⟩
theorem s_lstore_n (hC : jC tab p l e R s m args below meth c Q g nL n0 z0 cc own nm X) {i : Nat} {q : Fin 4} (hd : decode cc pc = .ok (.lstore_n q, 1)) (hi : (q : Nat) = i) (hn : i + 1 < nL) (hk : jSn p l e R s m args below meth c Q g nL n0 z0 (pc + 1) (k)) : jSn p l e R s m args below meth c Q g nL n0 z0 (pc) (i_lstore i k) := by
  rintro ls st M ⟨x, st', rfl, h⟩ la H locs cells slots hl hH hS h1 h2
  exact lv_lstore_n hC.1 hC.2.1 hd hi hl.2 hn rfl (fun la2 hl2 => hk _ _ M h la2 H locs cells slots (jlv.weak (by rw [js2, List.length_set, js1_len]; exact hl.1) hl2 (fun j w z => js2_in j w z)) hH hS h1 h2)
theorem s_lstore (hC : jC tab p l e R s m args below meth c Q g nL n0 z0 cc own nm X) {i : Nat} (hd : decode cc pc = .ok (.lstore i, 2)) (hn : i + 1 < nL) (hk : jSn p l e R s m args below meth c Q g nL n0 z0 (pc + 2) (k)) : jSn p l e R s m args below meth c Q g nL n0 z0 (pc) (i_lstore i k) := by
  rintro ls st M ⟨x, st', rfl, h⟩ la H locs cells slots hl hH hS h1 h2
  exact lv_lstore hC.1 hC.2.1 hd hl.2 hn rfl (fun la2 hl2 => hk _ _ M h la2 H locs cells slots (jlv.weak (by rw [js2, List.length_set, js1_len]; exact hl.1) hl2 (fun j w z => js2_in j w z)) hH hS h1 h2)
def i_astore (i : Nat) (k : jK) : jK := fun ls st M => ∃ (x : Nat) (st' : List Value), st = .ref x :: st' ∧ k (js1 ls i (.ref x)) st' M
theorem x_astore {i : Nat} {ls ls2 : jL} {x : Nat} {st : List Value} {M : jM} (hl : js1 ls i (.ref x) = ls2) (h : k ls2 st M) : i_astore i k ls (.ref x :: st) M := ⟨x, st, rfl, by rw [hl]; exact h⟩
theorem s_astore_n (hC : jC tab p l e R s m args below meth c Q g nL n0 z0 cc own nm X) {i : Nat} {q : Fin 4} (hd : decode cc pc = .ok (.astore_n q, 1)) (hi : (q : Nat) = i) (hn : i < nL) (hk : jSn p l e R s m args below meth c Q g nL n0 z0 (pc + 1) (k)) : jSn p l e R s m args below meth c Q g nL n0 z0 (pc) (i_astore i k) := by
  rintro ls st M ⟨x, st', rfl, h⟩ la H locs cells slots hl hH hS h1 h2
  exact lv_astore_n hC.1 hC.2.1 hd hi hl.2 hn rfl (fun la2 hl2 => hk _ _ M h la2 H locs cells slots (jlv.weak (by rw [js1_len]; exact hl.1) hl2 (fun j w z => js1_in j w z)) hH hS h1 h2)
theorem s_astore (hC : jC tab p l e R s m args below meth c Q g nL n0 z0 cc own nm X) {i : Nat} (hd : decode cc pc = .ok (.astore i, 2)) (hn : i < nL) (hk : jSn p l e R s m args below meth c Q g nL n0 z0 (pc + 2) (k)) : jSn p l e R s m args below meth c Q g nL n0 z0 (pc) (i_astore i k) := by
  rintro ls st M ⟨x, st', rfl, h⟩ la H locs cells slots hl hH hS h1 h2
  exact lv_astore hC.1 hC.2.1 hd hl.2 hn rfl (fun la2 hl2 => hk _ _ M h la2 H locs cells slots (jlv.weak (by rw [js1_len]; exact hl.1) hl2 (fun j w z => js1_in j w z)) hH hS h1 h2)
def i_iinc (i : Nat) (d : Int32) (k : jK) : jK := fun ls st M => ∃ x : Int32, jn ls i = some (some (.int x)) ∧ k (js1 ls i (.int (x + d))) st M
theorem x_iinc {i : Nat} {d : Int32} {ls ls2 : jL} {x : Int32} {st : List Value} {M : jM} (hi : jn ls i = some (some (.int x))) (hl : js1 ls i (.int (x + d)) = ls2) (h : k ls2 st M) : i_iinc i d k ls st M := ⟨x, hi, by rw [hl]; exact h⟩
theorem s_iinc (hC : jC tab p l e R s m args below meth c Q g nL n0 z0 cc own nm X) {i : Nat} {n : Int} {d : Int32} (hd : decode cc pc = .ok (.iinc i n, 3)) (hv : Int32.ofInt n = d) (hn : i < nL) (hk : jSn p l e R s m args below meth c Q g nL n0 z0 (pc + 3) (k)) : jSn p l e R s m args below meth c Q g nL n0 z0 (pc) (i_iinc i d k) := by
  rintro ls st M ⟨x, hx, h⟩ la H locs cells slots hl hH hS h1 h2
  have hm : (i, Value.int x) ∈ jas 0 (ls.map (Option.map (jt (jad g)))) := (jas_mem _ _ _ _).mpr ⟨i, by omega, by rw [jn_eq] at hx; simp [hx, jt]⟩
  obtain ⟨q, hq⟩ := List.getElem?_of_mem hm
  exact lv_iinc hC.1 hC.2.1 hd hl.2 hq (by rw [hv]) hn rfl (fun la2 hl2 => hk _ _ M h la2 H locs cells slots (jlv.weak (by rw [js1_len]; exact hl.1) hl2 (fun j w z => js1_in j w z)) hH hS h1 h2)
def i_dup (k : jK) : jK := fun ls st M => ∃ (v : Value) (st' : List Value), st = v :: st' ∧ v.category = 1 ∧ k ls (v :: v :: st') M
theorem x_dup {ls : jL} {v : Value} {st : List Value} {M : jM} (hv : v.category = 1) (h : k ls (v :: v :: st) M) : i_dup k ls (v :: st) M := ⟨v, st, rfl, hv, h⟩
theorem s_dup (hC : jC tab p l e R s m args below meth c Q g nL n0 z0 cc own nm X) (hd : decode cc pc = .ok (.dup, 1)) (hk : jSn p l e R s m args below meth c Q g nL n0 z0 (pc + 1) (k)) : jSn p l e R s m args below meth c Q g nL n0 z0 (pc) (i_dup k) := by
  rintro ls st M ⟨v, st', rfl, hv, h⟩ la H locs cells slots hl hH hS h1 h2
  exact lv_dup hC.1 hC.2.1 hd (by rw [jt_cat]; exact hv) (hk ls _ M h la H locs cells slots hl hH hS h1 h2)
def i_pop (k : jK) : jK := fun ls st M => ∃ (v : Value) (st' : List Value), st = v :: st' ∧ v.category = 1 ∧ k ls st' M
theorem x_pop {ls : jL} {v : Value} {st : List Value} {M : jM} (hv : v.category = 1) (h : k ls st M) : i_pop k ls (v :: st) M := ⟨v, st, rfl, hv, h⟩
theorem s_pop (hC : jC tab p l e R s m args below meth c Q g nL n0 z0 cc own nm X) (hd : decode cc pc = .ok (.pop, 1)) (hk : jSn p l e R s m args below meth c Q g nL n0 z0 (pc + 1) (k)) : jSn p l e R s m args below meth c Q g nL n0 z0 (pc) (i_pop k) := by
  rintro ls st M ⟨v, st', rfl, hv, h⟩ la H locs cells slots hl hH hS h1 h2
  exact lv_pop hC.1 hC.2.1 hd (by rw [jt_cat]; exact hv) (hk ls _ M h la H locs cells slots hl hH hS h1 h2)
def i_pop2 (k : jK) : jK := fun ls st M => ∃ (v : Value) (st' : List Value), st = v :: st' ∧ v.category = 2 ∧ k ls st' M
theorem x_pop2 {ls : jL} {v : Value} {st : List Value} {M : jM} (hv : v.category = 2) (h : k ls st M) : i_pop2 k ls (v :: st) M := ⟨v, st, rfl, hv, h⟩
theorem s_pop2 (hC : jC tab p l e R s m args below meth c Q g nL n0 z0 cc own nm X) (hd : decode cc pc = .ok (.pop2, 1)) (hk : jSn p l e R s m args below meth c Q g nL n0 z0 (pc + 1) (k)) : jSn p l e R s m args below meth c Q g nL n0 z0 (pc) (i_pop2 k) := by
  rintro ls st M ⟨v, st', rfl, hv, h⟩ la H locs cells slots hl hH hS h1 h2
  exact lv_pop2_2 hC.1 hC.2.1 hd (by rw [jt_cat]; exact hv) (hk ls _ M h la H locs cells slots hl hH hS h1 h2)
def i_dup2 (k : jK) : jK := fun ls st M => ∃ (v w : Value) (st' : List Value), st = v :: w :: st' ∧ v.category = 1 ∧ w.category = 1 ∧ k ls (v :: w :: v :: w :: st') M
theorem x_dup2 {ls : jL} {v w : Value} {st : List Value} {M : jM} (hv : v.category = 1) (hw : w.category = 1) (h : k ls (v :: w :: v :: w :: st) M) : i_dup2 k ls (v :: w :: st) M := ⟨v, w, st, rfl, hv, hw, h⟩
theorem s_dup2 (hC : jC tab p l e R s m args below meth c Q g nL n0 z0 cc own nm X) (hd : decode cc pc = .ok (.dup2, 1)) (hk : jSn p l e R s m args below meth c Q g nL n0 z0 (pc + 1) (k)) : jSn p l e R s m args below meth c Q g nL n0 z0 (pc) (i_dup2 k) := by
  rintro ls st M ⟨v, w, st', rfl, hv, hw, h⟩ la H locs cells slots hl hH hS h1 h2
  exact lv_dup2_11 hC.1 hC.2.1 hd (by rw [jt_cat]; exact hv) (by rw [jt_cat]; exact hw) (hk ls _ M h la H locs cells slots hl hH hS h1 h2)
def i_mask (bs : List Bool) (k : jK) : jK := fun ls st M => k (jmask bs ls) st M
theorem x_mask {bs : List Bool} {ls ls2 : jL} {st : List Value} {M : jM} (hl : jmask bs ls = ls2) (h : k ls2 st M) : i_mask bs k ls st M := by
  unfold i_mask
  rw [hl]
  exact h
theorem s_mask {bs : List Bool} (hk : jSn p l e R s m args below meth c Q g nL n0 z0 (pc) (k)) : jSn p l e R s m args below meth c Q g nL n0 z0 (pc) (i_mask bs k) := by
  intro ls st M h la H locs cells slots hl hH hS h1 h2
  refine hk _ _ M h la H locs cells slots (jlv.weak (by rw [jmask_len]; exact hl.1) hl.2 (fun j w z => ?_)) hH hS h1 h2
  exact (jas_mem _ _ _ _).mpr ⟨j, by omega, by simp [jmask_get bs ls j w z]⟩
def i_goto (X : jX) (t : Nat) : jK := fun ls st M => X.2.1 t ls st M
theorem x_goto {t : Nat} {ls : jL} {st : List Value} {M : jM} (h : X.2.1 t ls st M) : i_goto X t ls st M := h
theorem s_goto (hC : jC tab p l e R s m args below meth c Q g nL n0 z0 cc own nm X) (hJ : ∀ q, jSn p l e R s m args below meth c Q g nL n0 z0 (q) (X.2.1 q)) {off : Int} {t : Nat} (hd : decode cc pc = .ok (.goto off, 3)) (ht : (pc : Int) + off = (t : Int)) : jSn p l e R s m args below meth c Q g nL n0 z0 (pc) (i_goto X t) := by
  intro ls st M h la H locs cells slots hl hH hS h1 h2
  exact lv_goto hC.1 hC.2.1 hd ht (hJ t ls _ M h la H locs cells slots hl hH hS h1 h2)
theorem s_fall (hJ : ∀ q, jSn p l e R s m args below meth c Q g nL n0 z0 (q) (X.2.1 q)) {t : Nat} : jSn p l e R s m args below meth c Q g nL n0 z0 (t) (i_goto X t) := hJ t
def i_if_eq (X : jX) (t f : Nat) : jK := fun ls st M => ∃ (x : Int32) (st' : List Value), st = .int x :: st' ∧ (x = 0 → X.2.1 t ls st' M) ∧ (¬ x = 0 → X.2.1 f ls st' M)
theorem x_if_eq {t f : Nat} {ls : jL} {x : Int32} {st : List Value} {M : jM} (h : x = 0 → X.2.1 t ls st M) (h2 : ¬ x = 0 → X.2.1 f ls st M) : i_if_eq X t f ls (.int x :: st) M := ⟨x, st, rfl, h, h2⟩
theorem s_if_eq (hC : jC tab p l e R s m args below meth c Q g nL n0 z0 cc own nm X) (hJ : ∀ q, jSn p l e R s m args below meth c Q g nL n0 z0 (q) (X.2.1 q)) {off : Int} {t f : Nat} (hd : decode cc pc = .ok (.ifCond .eq off, 3)) (ht : (pc : Int) + off = (t : Int)) (hf : pc + 3 = f) : jSn p l e R s m args below meth c Q g nL n0 z0 (pc) (i_if_eq X t f) := by
  rintro ls st M ⟨x, st', rfl, h, h'⟩ la H locs cells slots hl hH hS h1 h2
  subst hf
  exact lv_if_eq hC.1 hC.2.1 hd ht (fun z => hJ t ls _ M (h z) la H locs cells slots hl hH hS h1 h2) (fun z => hJ _ ls _ M (h' z) la H locs cells slots hl hH hS h1 h2)
def i_if_ne (X : jX) (t f : Nat) : jK := fun ls st M => ∃ (x : Int32) (st' : List Value), st = .int x :: st' ∧ (¬ x = 0 → X.2.1 t ls st' M) ∧ (x = 0 → X.2.1 f ls st' M)
theorem x_if_ne {t f : Nat} {ls : jL} {x : Int32} {st : List Value} {M : jM} (h : ¬ x = 0 → X.2.1 t ls st M) (h2 : x = 0 → X.2.1 f ls st M) : i_if_ne X t f ls (.int x :: st) M := ⟨x, st, rfl, h, h2⟩
theorem s_if_ne (hC : jC tab p l e R s m args below meth c Q g nL n0 z0 cc own nm X) (hJ : ∀ q, jSn p l e R s m args below meth c Q g nL n0 z0 (q) (X.2.1 q)) {off : Int} {t f : Nat} (hd : decode cc pc = .ok (.ifCond .ne off, 3)) (ht : (pc : Int) + off = (t : Int)) (hf : pc + 3 = f) : jSn p l e R s m args below meth c Q g nL n0 z0 (pc) (i_if_ne X t f) := by
  rintro ls st M ⟨x, st', rfl, h, h'⟩ la H locs cells slots hl hH hS h1 h2
  subst hf
  exact lv_if_ne hC.1 hC.2.1 hd ht (fun z => hJ t ls _ M (h z) la H locs cells slots hl hH hS h1 h2) (fun z => hJ _ ls _ M (h' z) la H locs cells slots hl hH hS h1 h2)
def i_if_lt (X : jX) (t f : Nat) : jK := fun ls st M => ∃ (x : Int32) (st' : List Value), st = .int x :: st' ∧ (x < 0 → X.2.1 t ls st' M) ∧ (¬ x < 0 → X.2.1 f ls st' M)
theorem x_if_lt {t f : Nat} {ls : jL} {x : Int32} {st : List Value} {M : jM} (h : x < 0 → X.2.1 t ls st M) (h2 : ¬ x < 0 → X.2.1 f ls st M) : i_if_lt X t f ls (.int x :: st) M := ⟨x, st, rfl, h, h2⟩
theorem s_if_lt (hC : jC tab p l e R s m args below meth c Q g nL n0 z0 cc own nm X) (hJ : ∀ q, jSn p l e R s m args below meth c Q g nL n0 z0 (q) (X.2.1 q)) {off : Int} {t f : Nat} (hd : decode cc pc = .ok (.ifCond .lt off, 3)) (ht : (pc : Int) + off = (t : Int)) (hf : pc + 3 = f) : jSn p l e R s m args below meth c Q g nL n0 z0 (pc) (i_if_lt X t f) := by
  rintro ls st M ⟨x, st', rfl, h, h'⟩ la H locs cells slots hl hH hS h1 h2
  subst hf
  exact lv_if_lt hC.1 hC.2.1 hd ht (fun z => hJ t ls _ M (h z) la H locs cells slots hl hH hS h1 h2) (fun z => hJ _ ls _ M (h' z) la H locs cells slots hl hH hS h1 h2)
def i_if_ge (X : jX) (t f : Nat) : jK := fun ls st M => ∃ (x : Int32) (st' : List Value), st = .int x :: st' ∧ (0 ≤ x → X.2.1 t ls st' M) ∧ (¬ 0 ≤ x → X.2.1 f ls st' M)
theorem x_if_ge {t f : Nat} {ls : jL} {x : Int32} {st : List Value} {M : jM} (h : 0 ≤ x → X.2.1 t ls st M) (h2 : ¬ 0 ≤ x → X.2.1 f ls st M) : i_if_ge X t f ls (.int x :: st) M := ⟨x, st, rfl, h, h2⟩
theorem s_if_ge (hC : jC tab p l e R s m args below meth c Q g nL n0 z0 cc own nm X) (hJ : ∀ q, jSn p l e R s m args below meth c Q g nL n0 z0 (q) (X.2.1 q)) {off : Int} {t f : Nat} (hd : decode cc pc = .ok (.ifCond .ge off, 3)) (ht : (pc : Int) + off = (t : Int)) (hf : pc + 3 = f) : jSn p l e R s m args below meth c Q g nL n0 z0 (pc) (i_if_ge X t f) := by
  rintro ls st M ⟨x, st', rfl, h, h'⟩ la H locs cells slots hl hH hS h1 h2
  subst hf
  exact lv_if_ge hC.1 hC.2.1 hd ht (fun z => hJ t ls _ M (h z) la H locs cells slots hl hH hS h1 h2) (fun z => hJ _ ls _ M (h' z) la H locs cells slots hl hH hS h1 h2)
def i_if_gt (X : jX) (t f : Nat) : jK := fun ls st M => ∃ (x : Int32) (st' : List Value), st = .int x :: st' ∧ (0 < x → X.2.1 t ls st' M) ∧ (¬ 0 < x → X.2.1 f ls st' M)
theorem x_if_gt {t f : Nat} {ls : jL} {x : Int32} {st : List Value} {M : jM} (h : 0 < x → X.2.1 t ls st M) (h2 : ¬ 0 < x → X.2.1 f ls st M) : i_if_gt X t f ls (.int x :: st) M := ⟨x, st, rfl, h, h2⟩
theorem s_if_gt (hC : jC tab p l e R s m args below meth c Q g nL n0 z0 cc own nm X) (hJ : ∀ q, jSn p l e R s m args below meth c Q g nL n0 z0 (q) (X.2.1 q)) {off : Int} {t f : Nat} (hd : decode cc pc = .ok (.ifCond .gt off, 3)) (ht : (pc : Int) + off = (t : Int)) (hf : pc + 3 = f) : jSn p l e R s m args below meth c Q g nL n0 z0 (pc) (i_if_gt X t f) := by
  rintro ls st M ⟨x, st', rfl, h, h'⟩ la H locs cells slots hl hH hS h1 h2
  subst hf
  exact lv_if_gt hC.1 hC.2.1 hd ht (fun z => hJ t ls _ M (h z) la H locs cells slots hl hH hS h1 h2) (fun z => hJ _ ls _ M (h' z) la H locs cells slots hl hH hS h1 h2)
def i_if_le (X : jX) (t f : Nat) : jK := fun ls st M => ∃ (x : Int32) (st' : List Value), st = .int x :: st' ∧ (x ≤ 0 → X.2.1 t ls st' M) ∧ (¬ x ≤ 0 → X.2.1 f ls st' M)
theorem x_if_le {t f : Nat} {ls : jL} {x : Int32} {st : List Value} {M : jM} (h : x ≤ 0 → X.2.1 t ls st M) (h2 : ¬ x ≤ 0 → X.2.1 f ls st M) : i_if_le X t f ls (.int x :: st) M := ⟨x, st, rfl, h, h2⟩
theorem s_if_le (hC : jC tab p l e R s m args below meth c Q g nL n0 z0 cc own nm X) (hJ : ∀ q, jSn p l e R s m args below meth c Q g nL n0 z0 (q) (X.2.1 q)) {off : Int} {t f : Nat} (hd : decode cc pc = .ok (.ifCond .le off, 3)) (ht : (pc : Int) + off = (t : Int)) (hf : pc + 3 = f) : jSn p l e R s m args below meth c Q g nL n0 z0 (pc) (i_if_le X t f) := by
  rintro ls st M ⟨x, st', rfl, h, h'⟩ la H locs cells slots hl hH hS h1 h2
  subst hf
  exact lv_if_le hC.1 hC.2.1 hd ht (fun z => hJ t ls _ M (h z) la H locs cells slots hl hH hS h1 h2) (fun z => hJ _ ls _ M (h' z) la H locs cells slots hl hH hS h1 h2)
def i_cmp_eq (X : jX) (t f : Nat) : jK := fun ls st M => ∃ (x y : Int32) (st' : List Value), st = .int y :: .int x :: st' ∧ (x = y → X.2.1 t ls st' M) ∧ (¬ x = y → X.2.1 f ls st' M)
theorem x_cmp_eq {t f : Nat} {ls : jL} {x y : Int32} {st : List Value} {M : jM} (h : x = y → X.2.1 t ls st M) (h2 : ¬ x = y → X.2.1 f ls st M) : i_cmp_eq X t f ls (.int y :: .int x :: st) M := ⟨x, y, st, rfl, h, h2⟩
theorem s_cmp_eq (hC : jC tab p l e R s m args below meth c Q g nL n0 z0 cc own nm X) (hJ : ∀ q, jSn p l e R s m args below meth c Q g nL n0 z0 (q) (X.2.1 q)) {off : Int} {t f : Nat} (hd : decode cc pc = .ok (.if_icmp .eq off, 3)) (ht : (pc : Int) + off = (t : Int)) (hf : pc + 3 = f) : jSn p l e R s m args below meth c Q g nL n0 z0 (pc) (i_cmp_eq X t f) := by
  rintro ls st M ⟨x, y, st', rfl, h, h'⟩ la H locs cells slots hl hH hS h1 h2
  subst hf
  exact lv_icmp_eq hC.1 hC.2.1 hd ht (fun z => hJ t ls _ M (h z) la H locs cells slots hl hH hS h1 h2) (fun z => hJ _ ls _ M (h' z) la H locs cells slots hl hH hS h1 h2)
def i_cmp_ne (X : jX) (t f : Nat) : jK := fun ls st M => ∃ (x y : Int32) (st' : List Value), st = .int y :: .int x :: st' ∧ (¬ x = y → X.2.1 t ls st' M) ∧ (x = y → X.2.1 f ls st' M)
theorem x_cmp_ne {t f : Nat} {ls : jL} {x y : Int32} {st : List Value} {M : jM} (h : ¬ x = y → X.2.1 t ls st M) (h2 : x = y → X.2.1 f ls st M) : i_cmp_ne X t f ls (.int y :: .int x :: st) M := ⟨x, y, st, rfl, h, h2⟩
theorem s_cmp_ne (hC : jC tab p l e R s m args below meth c Q g nL n0 z0 cc own nm X) (hJ : ∀ q, jSn p l e R s m args below meth c Q g nL n0 z0 (q) (X.2.1 q)) {off : Int} {t f : Nat} (hd : decode cc pc = .ok (.if_icmp .ne off, 3)) (ht : (pc : Int) + off = (t : Int)) (hf : pc + 3 = f) : jSn p l e R s m args below meth c Q g nL n0 z0 (pc) (i_cmp_ne X t f) := by
  rintro ls st M ⟨x, y, st', rfl, h, h'⟩ la H locs cells slots hl hH hS h1 h2
  subst hf
  exact lv_icmp_ne hC.1 hC.2.1 hd ht (fun z => hJ t ls _ M (h z) la H locs cells slots hl hH hS h1 h2) (fun z => hJ _ ls _ M (h' z) la H locs cells slots hl hH hS h1 h2)
def i_cmp_lt (X : jX) (t f : Nat) : jK := fun ls st M => ∃ (x y : Int32) (st' : List Value), st = .int y :: .int x :: st' ∧ (x < y → X.2.1 t ls st' M) ∧ (¬ x < y → X.2.1 f ls st' M)
theorem x_cmp_lt {t f : Nat} {ls : jL} {x y : Int32} {st : List Value} {M : jM} (h : x < y → X.2.1 t ls st M) (h2 : ¬ x < y → X.2.1 f ls st M) : i_cmp_lt X t f ls (.int y :: .int x :: st) M := ⟨x, y, st, rfl, h, h2⟩
theorem s_cmp_lt (hC : jC tab p l e R s m args below meth c Q g nL n0 z0 cc own nm X) (hJ : ∀ q, jSn p l e R s m args below meth c Q g nL n0 z0 (q) (X.2.1 q)) {off : Int} {t f : Nat} (hd : decode cc pc = .ok (.if_icmp .lt off, 3)) (ht : (pc : Int) + off = (t : Int)) (hf : pc + 3 = f) : jSn p l e R s m args below meth c Q g nL n0 z0 (pc) (i_cmp_lt X t f) := by
  rintro ls st M ⟨x, y, st', rfl, h, h'⟩ la H locs cells slots hl hH hS h1 h2
  subst hf
  exact lv_icmp_lt hC.1 hC.2.1 hd ht (fun z => hJ t ls _ M (h z) la H locs cells slots hl hH hS h1 h2) (fun z => hJ _ ls _ M (h' z) la H locs cells slots hl hH hS h1 h2)
def i_cmp_ge (X : jX) (t f : Nat) : jK := fun ls st M => ∃ (x y : Int32) (st' : List Value), st = .int y :: .int x :: st' ∧ (y ≤ x → X.2.1 t ls st' M) ∧ (¬ y ≤ x → X.2.1 f ls st' M)
theorem x_cmp_ge {t f : Nat} {ls : jL} {x y : Int32} {st : List Value} {M : jM} (h : y ≤ x → X.2.1 t ls st M) (h2 : ¬ y ≤ x → X.2.1 f ls st M) : i_cmp_ge X t f ls (.int y :: .int x :: st) M := ⟨x, y, st, rfl, h, h2⟩
theorem s_cmp_ge (hC : jC tab p l e R s m args below meth c Q g nL n0 z0 cc own nm X) (hJ : ∀ q, jSn p l e R s m args below meth c Q g nL n0 z0 (q) (X.2.1 q)) {off : Int} {t f : Nat} (hd : decode cc pc = .ok (.if_icmp .ge off, 3)) (ht : (pc : Int) + off = (t : Int)) (hf : pc + 3 = f) : jSn p l e R s m args below meth c Q g nL n0 z0 (pc) (i_cmp_ge X t f) := by
  rintro ls st M ⟨x, y, st', rfl, h, h'⟩ la H locs cells slots hl hH hS h1 h2
  subst hf
  exact lv_icmp_ge hC.1 hC.2.1 hd ht (fun z => hJ t ls _ M (h z) la H locs cells slots hl hH hS h1 h2) (fun z => hJ _ ls _ M (h' z) la H locs cells slots hl hH hS h1 h2)
def i_cmp_gt (X : jX) (t f : Nat) : jK := fun ls st M => ∃ (x y : Int32) (st' : List Value), st = .int y :: .int x :: st' ∧ (y < x → X.2.1 t ls st' M) ∧ (¬ y < x → X.2.1 f ls st' M)
theorem x_cmp_gt {t f : Nat} {ls : jL} {x y : Int32} {st : List Value} {M : jM} (h : y < x → X.2.1 t ls st M) (h2 : ¬ y < x → X.2.1 f ls st M) : i_cmp_gt X t f ls (.int y :: .int x :: st) M := ⟨x, y, st, rfl, h, h2⟩
theorem s_cmp_gt (hC : jC tab p l e R s m args below meth c Q g nL n0 z0 cc own nm X) (hJ : ∀ q, jSn p l e R s m args below meth c Q g nL n0 z0 (q) (X.2.1 q)) {off : Int} {t f : Nat} (hd : decode cc pc = .ok (.if_icmp .gt off, 3)) (ht : (pc : Int) + off = (t : Int)) (hf : pc + 3 = f) : jSn p l e R s m args below meth c Q g nL n0 z0 (pc) (i_cmp_gt X t f) := by
  rintro ls st M ⟨x, y, st', rfl, h, h'⟩ la H locs cells slots hl hH hS h1 h2
  subst hf
  exact lv_icmp_gt hC.1 hC.2.1 hd ht (fun z => hJ t ls _ M (h z) la H locs cells slots hl hH hS h1 h2) (fun z => hJ _ ls _ M (h' z) la H locs cells slots hl hH hS h1 h2)
def i_cmp_le (X : jX) (t f : Nat) : jK := fun ls st M => ∃ (x y : Int32) (st' : List Value), st = .int y :: .int x :: st' ∧ (x ≤ y → X.2.1 t ls st' M) ∧ (¬ x ≤ y → X.2.1 f ls st' M)
theorem x_cmp_le {t f : Nat} {ls : jL} {x y : Int32} {st : List Value} {M : jM} (h : x ≤ y → X.2.1 t ls st M) (h2 : ¬ x ≤ y → X.2.1 f ls st M) : i_cmp_le X t f ls (.int y :: .int x :: st) M := ⟨x, y, st, rfl, h, h2⟩
theorem s_cmp_le (hC : jC tab p l e R s m args below meth c Q g nL n0 z0 cc own nm X) (hJ : ∀ q, jSn p l e R s m args below meth c Q g nL n0 z0 (q) (X.2.1 q)) {off : Int} {t f : Nat} (hd : decode cc pc = .ok (.if_icmp .le off, 3)) (ht : (pc : Int) + off = (t : Int)) (hf : pc + 3 = f) : jSn p l e R s m args below meth c Q g nL n0 z0 (pc) (i_cmp_le X t f) := by
  rintro ls st M ⟨x, y, st', rfl, h, h'⟩ la H locs cells slots hl hH hS h1 h2
  subst hf
  exact lv_icmp_le hC.1 hC.2.1 hd ht (fun z => hJ t ls _ M (h z) la H locs cells slots hl hH hS h1 h2) (fun z => hJ _ ls _ M (h' z) la H locs cells slots hl hH hS h1 h2)
def i_ireturn (X : jX) : jK := fun _ st M => ∃ v : Int32, st = [.int v] ∧ X.2.2.1 (some (.int v)) M
theorem x_ireturn {ls : jL} {v : Int32} {M : jM} (h : X.2.2.1 (some (.int v)) M) : i_ireturn X ls [.int v] M := ⟨v, rfl, h⟩
theorem s_ireturn (hC : jC tab p l e R s m args below meth c Q g nL n0 z0 cc own nm X) (hd : decode cc pc = .ok (.ireturn, 1)) : jSn p l e R s m args below meth c Q g nL n0 z0 (pc) (i_ireturn X) := by
  rintro ls st M ⟨v, rfl, h⟩
  exact hC.2.2.2.2.2.2.2.2.1 pc ls _ M _ _ hd (Or.inl ⟨rfl, v, rfl, rfl⟩) h
def i_lreturn (X : jX) : jK := fun _ st M => ∃ v : Int64, st = [.long v] ∧ X.2.2.1 (some (.long v)) M
theorem x_lreturn {ls : jL} {v : Int64} {M : jM} (h : X.2.2.1 (some (.long v)) M) : i_lreturn X ls [.long v] M := ⟨v, rfl, h⟩
theorem s_lreturn (hC : jC tab p l e R s m args below meth c Q g nL n0 z0 cc own nm X) (hd : decode cc pc = .ok (.lreturn, 1)) : jSn p l e R s m args below meth c Q g nL n0 z0 (pc) (i_lreturn X) := by
  rintro ls st M ⟨v, rfl, h⟩
  exact hC.2.2.2.2.2.2.2.2.1 pc ls _ M _ _ hd (Or.inr (Or.inl ⟨rfl, v, rfl, rfl⟩)) h
def i_return (X : jX) : jK := fun _ st M => st = [] ∧ X.2.2.1 none M
theorem x_return {ls : jL} {M : jM} (h : X.2.2.1 none M) : i_return X ls [] M := ⟨rfl, h⟩
theorem s_return (hC : jC tab p l e R s m args below meth c Q g nL n0 z0 cc own nm X) (hd : decode cc pc = .ok (.return_, 1)) : jSn p l e R s m args below meth c Q g nL n0 z0 (pc) (i_return X) := by
  rintro ls st M ⟨rfl, h⟩
  exact hC.2.2.2.2.2.2.2.2.1 pc ls _ M _ _ hd (Or.inr (Or.inr ⟨rfl, rfl, rfl⟩)) h
def i_no : jK := fun _ _ _ => False
theorem s_no : jSn p l e R s m args below meth c Q g nL n0 z0 (pc) (i_no) := fun _ _ _ h => absurd h id
def jsw (X : jX) (x : Int32) : List (Int32 × Nat) → Nat → jK
  | [], d => X.2.1 d
  | q :: cs, d => fun ls st M => (x = q.1 → X.2.1 q.2 ls st M) ∧ (¬ x = q.1 → jsw X x cs d ls st M)
def i_sw (X : jX) (cs : List (Int32 × Nat)) (d : Nat) : jK := fun ls st M => ∃ (x : Int32) (st' : List Value), st = .int x :: st' ∧ jsw X x cs d ls st' M
theorem x_sw {cs : List (Int32 × Nat)} {d : Nat} {ls : jL} {x : Int32} {st : List Value} {M : jM} (h : jsw X x cs d ls st M) : i_sw X cs d ls (.int x :: st) M := ⟨x, st, rfl, h⟩
theorem jsw_out {x : Int32} {ls : jL} {st : List Value} {M : jM} : ∀ (cs : List (Int32 × Nat)) (d : Nat), jsw X x cs d ls st M → (∀ q ∈ cs, ¬ x = q.1) → X.2.1 d ls st M
  | [], _, h, _ => h
  | q :: cs, d, h, hn => jsw_out cs d (h.2 (hn q List.mem_cons_self)) (fun z hz => hn z (List.mem_cons_of_mem _ hz))
theorem jsw_in {x : Int32} {ls : jL} {st : List Value} {M : jM} : ∀ (cs : List (Int32 × Nat)) (d j t : Nat), jsw X x cs d ls st M → cs[j]? = some (x, t) → (∀ i q, i < j → cs[i]? = some q → ¬ x = q.1) → X.2.1 t ls st M
  | [], _, _, _, _, h, _ => by simp at h
  | q :: cs, d, 0, t, h, hj, _ => by
    simp at hj
    subst hj
    exact h.1 rfl
  | q :: cs, d, j + 1, t, h, hj, hn => jsw_in cs d j t (h.2 (hn 0 q (by omega) (by simp))) (by simpa using hj) (fun i z hi hz => hn (i + 1) z (by omega) (by simpa using hz))
theorem s_tsw (hC : jC tab p l e R s m args below meth c Q g nL n0 z0 cc own nm X) (hJ : ∀ q, jSn p l e R s m args below meth c Q g nL n0 z0 (q) (X.2.1 q)) {dflt lo hi : Int} {offs : Array Int} {len d : Nat} {cs : List (Int32 × Nat)} (hd : decode cc pc = .ok (.tableswitch dflt lo hi offs, len)) (h0 : (pc : Int) + dflt = (d : Int)) (h9 : cs.map (fun q => (q.2 : Int) - pc) = offs.toList) (h8 : cs.map (fun q => q.1.toInt) = (List.range cs.length).map (fun (j : Nat) => lo + (j : Int))) (h7 : lo + (cs.length : Int) = hi + 1) : jSn p l e R s m args below meth c Q g nL n0 z0 (pc) (i_sw X cs d) := by
  rintro ls st M ⟨x, st', rfl, h⟩ la H locs cells slots hl hH hS h1 h2
  have key : ∀ (j : Nat) (q : Int32 × Nat), cs[j]? = some q → q.1.toInt = lo + (j : Int) := by
    intro j q hq
    have hj : j < cs.length := (List.getElem?_eq_some_iff.mp hq).1
    have e1 : (cs.map (fun q => q.1.toInt))[j]? = some q.1.toInt := by rw [List.getElem?_map, hq]; rfl
    rw [h8, List.getElem?_map, List.getElem?_range hj] at e1
    exact (Option.some.inj e1).symm
  by_cases hx : x.toInt < lo ∨ hi < x.toInt
  · refine lv_tableOut hC.1 hC.2.1 hd hx h0 (hJ d ls _ M (jsw_out cs d h (fun q hq z => ?_)) la H locs cells slots hl hH hS h1 h2)
    obtain ⟨j, hj⟩ := List.getElem?_of_mem hq
    have e1 := key j q hj
    have hl9 : j < cs.length := (List.getElem?_eq_some_iff.mp hj).1
    rw [← z] at e1
    omega
  · have hj : (x.toInt - lo).toNat < cs.length := by omega
    obtain ⟨q, hq⟩ : ∃ q, cs[(x.toInt - lo).toNat]? = some q := ⟨_, List.getElem?_eq_getElem hj⟩
    have e1 := key _ q hq
    have ex : x = q.1 := Int32.toInt_inj.mp (by rw [e1]; omega)
    obtain ⟨qc, qt⟩ := q
    dsimp only at ex e1
    subst ex
    refine lv_tableIn (tgt := qt) (off := (qt : Int) - pc) hC.1 hC.2.1 hd (by omega) (by omega) ?_ (by omega) (hJ qt ls _ M (jsw_in cs d _ qt h hq (fun i z hi hz w => ?_)) la H locs cells slots hl hH hS h1 h2)
    · rw [← Array.getElem?_toList, ← h9, List.getElem?_map, hq]
      rfl
    · have e2 := key i z hz
      rw [← w] at e2
      omega
theorem jsw_look {x : Int32} {ls : jL} {st : List Value} {M : jM} {dflt : Int} : ∀ (cs : List (Int32 × Nat)) (d : Nat), (pc : Int) + dflt = (d : Int) → jsw X x cs d ls st M → ∃ (t : Nat) (off : Int), Op.lookupswitch.offset (cs.map (fun q => (q.1.toInt, (q.2 : Int) - pc))) dflt x.toInt = off ∧ (pc : Int) + off = (t : Int) ∧ X.2.1 t ls st M
  | [], d, h0, h => ⟨d, dflt, rfl, h0, h⟩
  | q :: cs, d, h0, h => by
    by_cases hx : x = q.1
    · refine ⟨q.2, (q.2 : Int) - pc, ?_, by omega, h.1 hx⟩
      subst hx
      simp [Op.lookupswitch.offset]
    · obtain ⟨t, off, e1, e2, e3⟩ := jsw_look cs d h0 (h.2 hx)
      exact ⟨t, off, (lv_osw (k := q.1) hx rfl).trans e1, e2, e3⟩
theorem s_lsw (hC : jC tab p l e R s m args below meth c Q g nL n0 z0 cc own nm X) (hJ : ∀ q, jSn p l e R s m args below meth c Q g nL n0 z0 (q) (X.2.1 q)) {dflt : Int} {ps : Array (Int × Int)} {len d : Nat} {cs : List (Int32 × Nat)} (hd : decode cc pc = .ok (.lookupswitch dflt ps, len)) (hp : (ps.toList.zip (ps.toList.drop 1)).all (fun (a, next) => a.1 < next.1) = true) (h0 : (pc : Int) + dflt = (d : Int)) (h9 : cs.map (fun q => (q.1.toInt, (q.2 : Int) - pc)) = ps.toList) : jSn p l e R s m args below meth c Q g nL n0 z0 (pc) (i_sw X cs d) := by
  rintro ls st M ⟨x, st', rfl, h⟩ la H locs cells slots hl hH hS h1 h2
  obtain ⟨t, off, e1, e2, e3⟩ := jsw_look (pc := pc) cs d h0 h
  exact lv_lookup hC.1 hC.2.1 hd hp (by rw [← h9]; exact e1) e2 (hJ t ls _ M e3 la H locs cells slots hl hH hS h1 h2)
end JI
