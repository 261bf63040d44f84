/-! WHAT STANDS FOR A WHOLE RUN -/
abbrev jG : Type := Nat × (Nat → Nat) × va_G × (FieldType → ClassId) × List jS × (Nat → Nat → Int32)
abbrev jad (g : jG) : Nat → Nat := g.2.1
abbrev jDD (g : jG) : va_G := g.2.2.1
abbrev jcT (g : jG) : FieldType → ClassId := g.2.2.2.1
abbrev jRS (g : jG) : List jS := g.2.2.2.2.1
abbrev jRA (g : jG) : Nat → Nat → Int32 := g.2.2.2.2.2
def jA (g : jG) : Nat → Prop := fun q => g.1 ≤ q
def jGok (g : jG) : Prop := (∀ k, jR ≤ k → jad g k = g.1 + (k - jR)) ∧ True
abbrev jtys (g : jG) : List (ClassId × FieldType) := [(jcT g .int, .int), (jcT g .byte, .byte), (jcT g .long, .long), (jcT g (.array .int), .array .int)]
/-- a cell that nobody writes: a table, or a text -/
def jro (A : Nat → Prop) (U : State) (H : Heap) (ad : Nat → Nat) (a : Nat) (sh : jS) (f : Nat → Int32) : Prop := match sh with
  | .inl (ty, n) => va_T ty a n (fun j => .int (f j)) A U H
  | .inr (.inr (_, [.ref kv, .int _])) => va_O "java/lang/String" a A U H ∧ va_OF "java/lang/String" "value" "[B" (.ref (ad kv)) a A U H ∧ va_OF "java/lang/String" "coder" "B" (.int (f 1)) a A U H
  | .inr (.inl _) => True
  | _ => False
theorem jro.move {A : Nat → Prop} {s U : State} {H H1 : Heap} {ad : Nat → Nat} {a : Nat} {sh : jS} {f : Nat → Int32} (h : jro A s H ad a sh f) (hW : s.vm.Alike U.vm) (hq : ∀ q : Nat, q < H.size → ¬ A q → H1[q]? = H[q]?) : jro A U H1 ad a sh f := by
  unfold jro at h ⊢
  split at h
  · exact (h.moved hW).kept hq
  · obtain ⟨h1, h2, h3⟩ := h
    exact ⟨(h1.moved hW).kept hq, (h2.moved hW).kept hq, (h3.moved hW).kept hq⟩
  · trivial
  · exact absurd h id
def jAO (U : State) : Prop := (Cond.arrayOver (.array .int)).before #[] U = true
theorem jAO.moved {u U : State} (hvm : u.vm.Alike U.vm) (h : jAO u) : jAO U := Jvm.Stand.arrayOver_alikeB hvm h
/-- the statics that are read, the texts, the links among nest mates -/
abbrev jstats : List (String × String × String × Value) := [("ThroughATrumpet$Laws", "FIRST", "[I", .ref 1), ("ThroughATrumpet$Laws", "FIRST_ENDS", "[I", .ref 2), ("ThroughATrumpet$Laws", "LEAST", "[I", .ref 3), ("ThroughATrumpet$Laws", "MOST", "[I", .ref 4), ("ThroughATrumpet$Pass", "LEAST", "[I", .ref 5), ("ThroughATrumpet$Pass", "MOST", "[I", .ref 6), ("ThroughATrumpet$Rows", "ABOVE", "[I", .ref 7), ("java/lang/String", "COMPACT_STRINGS", "Z", .int 1)]
abbrev jstrs : List (String × Nat × Nat) := [("ThroughATrumpet$Tape", 53, 8), ("ThroughATrumpet$Tape", 59, 9), ("ThroughATrumpet$Tape", 46, 10)]
abbrev jnest : List (String × Nat × MethodName × String) := [("ThroughATrumpet", 9, ⟨"ThroughATrumpet$Rows", "<init>", "()V"⟩, "ThroughATrumpet"), ("ThroughATrumpet$Rows", 11, ⟨"ThroughATrumpet$Pass", "<init>", "()V"⟩, "ThroughATrumpet"), ("ThroughATrumpet$Laws", 9, ⟨"ThroughATrumpet$Reader", "<init>", "()V"⟩, "ThroughATrumpet"), ("ThroughATrumpet$Reader", 9, ⟨"ThroughATrumpet$Tape", "<init>", "()V"⟩, "ThroughATrumpet"), ("ThroughATrumpet", 25, ⟨"ThroughATrumpet$Books", "<init>", "()V"⟩, "ThroughATrumpet"), ("ThroughATrumpet", 32, ⟨"ThroughATrumpet$Meetings", "<init>", "()V"⟩, "ThroughATrumpet"), ("ThroughATrumpet", 39, ⟨"ThroughATrumpet$Sheets", "<init>", "()V"⟩, "ThroughATrumpet"), ("ThroughATrumpet", 46, ⟨"ThroughATrumpet$Image", "<init>", "()V"⟩, "ThroughATrumpet"), ("ThroughATrumpet$Image", 9, ⟨"ThroughATrumpet$Pass", "<init>", "()V"⟩, "ThroughATrumpet"), ("ThroughATrumpet$Pass", 32, ⟨"ThroughATrumpet", "within", "(III)Z"⟩, "ThroughATrumpet"), ("ThroughATrumpet$Tape", 73, ⟨"ThroughATrumpet", "within", "(III)Z"⟩, "ThroughATrumpet"), ("ThroughATrumpet$Rows", 141, ⟨"ThroughATrumpet", "within", "(III)Z"⟩, "ThroughATrumpet"), ("ThroughATrumpet$Words", 25, ⟨"ThroughATrumpet", "within", "(III)Z"⟩, "ThroughATrumpet")]
/-- a static that is only handed on: null, or the cell 14 -/
def jFm (g : jG) (U : State) (H : Heap) : Prop := va_Z "jdk/internal/util/Preconditions" "SIOOBE_FORMATTER" "Ljava/util/function/BiFunction;" .null (jA g) U H ∨ va_Z "jdk/internal/util/Preconditions" "SIOOBE_FORMATTER" "Ljava/util/function/BiFunction;" (.ref (jad g 14)) (jA g) U H
def jEnv (g : jG) (U : State) (H : Heap) : Prop :=
  va_K (jDD g) vwCl (jtys g) U ∧ (∀ w ∈ lw_tbl, goodWord w = true → ∀ a, w.before a U = true) ∧ (∀ q ∈ jnest, va_Nw (.methodLinkNest q.1 q.2.1 q.2.2.1 q.2.2.2) U) ∧ jAO U ∧
  (∀ (k : Nat) (sh : jS), k < jR → jn (jRS g) k = some sh → jro (jA g) U H (jad g) (jad g k) sh (jRA g k)) ∧ (∀ q ∈ jstats, va_Z q.1 q.2.1 q.2.2.1 (jt (jad g) q.2.2.2) (jA g) U H) ∧ (∀ q ∈ jstrs, ∃ tx, vk_R q.1 q.2.1 tx (jad g q.2.2) U) ∧ jFm g U H
theorem jEnv.move {g : jG} {s U : State} {H H1 : Heap} (h : jEnv g s H) (hW : s.WarmedH U.vm) (hq : ∀ q : Nat, q < H.size → ¬ jA g q → H1[q]? = H[q]?) : jEnv g U H1 := by
  obtain ⟨h1, h2, h3, h4, h5, h6, h7, h8⟩ := h
  exact ⟨h1.moved hW.alike, fun w hw hg a => word_at hW (good_of_word hg) (h2 w hw hg #[]), fun q hq => (h3 q hq).warmM hW, h4.moved hW.alike, fun k sh hk hs => (h5 k sh hk hs).move hW.alike hq, fun q hm => ((h6 q hm).moved hW.alike).kept hq, fun q hm => (h7 q hm).imp fun _ z => z.warm hW, h8.imp (fun z => (z.moved hW.alike).kept hq) (fun z => (z.moved hW.alike).kept hq)⟩
/-- the heap holds M -/
def jH (g : jG) (M : jM) (H : Heap) : Prop := jR ≤ M.1.length ∧ H.size = g.1 + (M.1.length - jR) ∧ (∀ k, k < jR → jn M.1 k = jn (jRS g) k ∧ M.2.1 k = jRA g k) ∧ va_P (jDD g) vwCl (jw (jad g) (jcT g) M) H
theorem jD {g : jG} (hg : jGok g) (M : jM) : va_D (jA g) (jw (jad g) (jcT g) M) := by
  refine ⟨fun i j p q hi hj e => ?_, fun k q hq => ?_⟩
  · obtain ⟨h1, h2⟩ := jw_some hi
    obtain ⟨h3, h4⟩ := jw_some hj
    rw [h2, h4, hg.1 _ (by omega), hg.1 _ (by omega)] at e
    omega
  · obtain ⟨h1, h2⟩ := jw_some hq
    rw [h2, hg.1 _ (by omega)]
    unfold jA
    omega
/-- a cell that nobody writes, a cell of the world -/
theorem jH.ro {g : jG} {M : jM} {H : Heap} (h : jH g M H) {k : Nat} {sh : jS} (hk : k < jR) (hs : jn M.1 k = some sh) : jn (jRS g) k = some sh ∧ M.2.1 k = jRA g k := ⟨(h.2.2.1 k hk).1.symm.trans hs, (h.2.2.1 k hk).2⟩
theorem jH.set {g : jG} {M : jM} {H H1 : Heap} (h : jH g M H) {k : Nat} {sh sh2 : jS} {f : Nat → Int32} {y : Nat → Int64} (hk : jR ≤ k) (hs : jn M.1 k = some sh) (hz : H1.size = H.size)
    (hP : va_P (jDD g) vwCl ((jw (jad g) (jcT g) M).set (k - jR) (jad g k, jcell (jad g) (jcT g) sh2 f y)) H1) : jH g (M.1.set k sh2, va_up M.2.1 k f, va_up M.2.2 k y) H1 := by
  obtain ⟨h1, h2, h3, h4⟩ := h
  refine ⟨by simpa using h1, by rw [hz, h2]; simp, fun j hj => ?_, ?_⟩
  · have hne : j ≠ k := by omega
    refine ⟨?_, ?_⟩
    · rw [← (h3 j hj).1, jn_eq, jn_eq]
      exact List.getElem?_set_ne (fun q => hne q.symm)
    · rw [← (h3 j hj).2]
      exact ju_ne _ _ hne
  · rw [← jw_set hk hs]
    exact hP
theorem jH.push {g : jG} {M : jM} {H H1 : Heap} (h : jH g M H) {sh : jS} {f : Nat → Int32} {y : Nat → Int64} (hz : H1.size = H.size + 1)
    (hP : va_P (jDD g) vwCl (jw (jad g) (jcT g) M ++ [(jad g M.1.length, jcell (jad g) (jcT g) sh f y)]) H1) : jH g (M.1 ++ [sh], va_up M.2.1 M.1.length f, va_up M.2.2 M.1.length y) H1 := by
  obtain ⟨h1, h2, h3, h4⟩ := h
  refine ⟨by simp; omega, by rw [hz, h2]; simp; omega, fun j hj => ?_, ?_⟩
  · have hne : j ≠ M.1.length := by omega
    refine ⟨?_, ?_⟩
    · rw [← (h3 j hj).1, jn_eq, jn_eq]
      exact List.getElem?_append_left (by omega)
    · rw [← (h3 j hj).2]
      exact ju_ne _ _ hne
  · rw [← jw_push h1]
    exact hP
/-! A METHOD, A CONTRACT -/
abbrev jMt : Type := MethodName × ByteArray × Nat × Option FieldType × (jX → Nat → jK)
def jPc (g : jG) (as : List Value) (M : jM) : Array Value → State → Prop := fun v U => v = (as.map (jt (jad g))).toArray ∧ jH g M U.heap ∧ jEnv g U U.heap
def jQc (g : jG) (P : Option Value → jM → Prop) : Array Value → State → Outcome → State → Prop := fun _ st o t => (∃ (r : Option Value) (M : jM), P r M ∧ o = .returned (r.map (jt (jad g))) ∧ jH g M t.heap) ∧ va_F (jA g) st t
/-- so many cells and places came -/
def jCn (M : jM) (cN zN : Nat) (P : Option Value → jM → Prop) : Option Value → jM → Prop := fun r M2 => M2.1.length = M.1.length + cN ∧ jsl M2.1 = jsl M.1 + zN ∧ P r M2
abbrev jrm (F cN zN : Nat) : Room := { frames := F, cells := cN, slots := zN, locals := 64 * F }
def jMet (tab : Nat → Option jMt) (g : jG) (l : Launch) (F : Nat) : jE := fun k as M cN zN P => ∃ mt : jMt, tab k = some mt ∧
  Met l mt.1 [.code mt.1 mt.2.1 mt.2.2.1 mt.2.2.2.1] (jrm F cN zN) (jPc g as M) (jQc g (jCn M cN zN P)) cN zN (jA g)
theorem jPc_blind (g : jG) (as : List Value) (M : jM) : FrameBlind (jPc g as M) := fun a U fr mk q => ⟨q.1, q.2.1, q.2.2.move (U := U.calling fr mk a) (State.WarmedH.refl U) (fun _ _ _ => rfl)⟩
section JS
variable {p : Program} {l : Launch} {e : Env} {R : Room} {s : State} {m : MethodId} {args : Array Value} {below : List Frame} {meth : Method} {c : Code} {Q : State → Prop} {g : jG} {nL n0 z0 : Nat}
/-- the machine, from here on, comes to Q -/
def jAt (p : Program) (l : Launch) (e : Env) (R : Room) (s : State) (m : MethodId) (args : Array Value) (below : List Frame) (meth : Method) (c : Code) (Q : State → Prop) (g : jG) (nL n0 z0 : Nat) (pc : Nat) : jK := fun ls st M =>
  ∀ (la : Array Slot) (H : Heap) (locs : List Loc) (cells slots : Nat), jlv (jad g) la nL ls → jH g M H → va_S (jA g) s.heap H locs → M.1.length = n0 + cells → jsl M.1 = z0 + slots →
    W p l e R s m args below meth c H locs cells slots Q (F0 m pc la (st.map (jt (jad g))))
/-- what a walk stands on: the machine, the code, the words, the callees, the returns -/
def jC (tab : Nat → Option jMt) (p : Program) (l : Launch) (e : Env) (R : Room) (s : State) (m : MethodId) (args : Array Value) (below : List Frame) (meth : Method) (c : Code) (Q : State → Prop) (g : jG) (nL n0 z0 : Nat) (cc : ByteArray) (own nm : String) (X : jX) : Prop :=
  p.tables.exec = Jvm.exec ∧ c.code = cc ∧ c.maxLocals = nL ∧ s.vm.findClass own = some m.cls ∧ jGok g ∧ jEnv g s s.heap ∧ g.1 ≤ s.heap.size ∧
  (∃ F : Nat, F + 1 ≤ R.frames ∧ 64 * (F + 1) ≤ R.locals ∧ ∀ k as M cN zN P, X.1 k as M cN zN P → jMet tab g l F k as M cN zN P) ∧
  (∀ pc ls st M op r, decode cc pc = .ok (op, 1) → ((op = .ireturn ∧ ∃ v, st = [.int v] ∧ r = some (.int v)) ∨ (op = .lreturn ∧ ∃ v, st = [.long v] ∧ r = some (.long v)) ∨ (op = .return_ ∧ st = [] ∧ r = none)) → X.2.2.1 r M → jAt p l e R s m args below meth c Q g nL n0 z0 pc ls st M) ∧
  X.2.2.2.1 ≤ n0 + R.cells ∧ X.2.2.2.2 ≤ z0 + R.slots ∧ meth.name = nm
abbrev jSn (p : Program) (l : Launch) (e : Env) (R : Room) (s : State) (m : MethodId) (args : Array Value) (below : List Frame) (meth : Method) (c : Code) (Q : State → Prop) (g : jG) (nL n0 z0 : Nat) (pc : Nat) (k : jK) : Prop := ∀ ls st M, k ls st M → jAt p l e R s m args below meth c Q g nL n0 z0 pc ls st M
/-- behind a call -/
theorem jcall {H : Heap} {locs : List Loc} {cells slots mc ms pc : Nat} {la : Array Slot} {st0 rest : List Value} {P : Option Value → jM → Prop} {a : Array Value} (hr : va_Run p l e R s m args below meth c H locs cells slots mc ms (F0 m pc la st0) rest (jQc g P a) (jA g)) (hS : va_S (jA g) s.heap H locs)
    (kk : ∀ (r : Option Value) (M2 : jM) (H1 : Heap) (locs1 : List Loc), P r M2 → jH g M2 H1 → va_S (jA g) s.heap H1 locs1 → W p l e R s m args below meth c H1 locs1 (cells + mc) (slots + ms) Q (F0 m (pc + 3) la ((r.map (jt (jad g))).toList ++ rest))) : W p l e R s m args below meth c H locs cells slots Q (F0 m pc la st0) := by
  intro T hT X
  obtain ⟨v, st₀, t, T', L, h0, X', hL, e1, e2, ⟨⟨r, M2, hp, hv, hH⟩, hz, hk⟩, st⟩ := hr T hT X
  cases hv
  rw [h0] at hz hk
  obtain ⟨t2, a1, b1⟩ := kk r M2 T'.heap (locs ++ L) hp (by rw [e1]; exact hH)
    ⟨Nat.le_trans hS.1 (by rw [e1]; exact hz), fun q h1 h2 => by rw [e1, hk q (Nat.lt_of_lt_of_le h1 hS.1) h2]; exact hS.2.1 q h1 h2, fun q hq => by
      rcases List.mem_append.mp hq with h | h
      · exact hS.2.2 q h
      · exact hL q h⟩ T' rfl X'
  exact ⟨t2, st t2 a1, b1⟩
end JS
