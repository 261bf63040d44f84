/-! A WALK: the least that is closed under the blocks; and WHAT IT IS ON THE MACHINE -/
def jWP (E : jE) (Rt : Option Value → jM → Prop) (cap : Nat × Nat) (pr : jX → Nat → jK) (pc : Nat) : jK := fun ls st M =>
  ∀ J : Nat → jK, (∀ (E0 : jE) (J0 : Nat → jK) (Rt0 : Option Value → jM → Prop) (pc : Nat) (ls : jL) (st : List Value) (M : jM), (∀ k as M cN zN P, E0 k as M cN zN P → E k as M cN zN P) → (∀ pc ls st M, J0 pc ls st M → J pc ls st M) → (∀ r M, Rt0 r M → Rt r M) → pr (E0, J0, Rt0, cap) pc ls st M → J pc ls st M) → J pc ls st M
theorem jWP.intro {E : jE} {Rt : Option Value → jM → Prop} {cap : Nat × Nat} {pr : jX → Nat → jK} {pc : Nat} {ls : jL} {st : List Value} {M : jM} (h : pr (E, jWP E Rt cap pr, Rt, cap) pc ls st M) : jWP E Rt cap pr pc ls st M :=
  fun J hJ => hJ E (jWP E Rt cap pr) Rt pc ls st M (fun _ _ _ _ _ _ z => z) (fun _ _ _ _ z => z J hJ) (fun _ _ z => z) h
theorem jWP.mono {E E2 : jE} {Rt Rt2 : Option Value → jM → Prop} {cap : Nat × Nat} {pr : jX → Nat → jK} {pc : Nat} {ls : jL} {st : List Value} {M : jM} (h : jWP E Rt cap pr pc ls st M) (hE : ∀ k as M cN zN P, E k as M cN zN P → E2 k as M cN zN P) (hR : ∀ r M, Rt r M → Rt2 r M) : jWP E2 Rt2 cap pr pc ls st M :=
  fun J hJ => h J (fun E0 J0 Rt0 pc ls st M q1 q2 q3 q4 => hJ E0 J0 Rt0 pc ls st M (fun k as M cN zN P z => hE _ _ _ _ _ _ (q1 k as M cN zN P z)) q2 (fun r M z => hR _ _ (q3 r M z)) q4)
/-- the locals with which a method begins -/
def jarg : List Value → jL
  | [] => []
  | .long x :: l => some (.long x) :: none :: jarg l
  | .double x :: l => some (.double x) :: none :: jarg l
  | v :: l => some v :: jarg l
def jin (as : List Value) (nL : Nat) : jL := jarg as ++ List.replicate (nL - (jarg as).length) none
theorem jarg_len (ad : Nat → Nat) : ∀ as : List Value, (jarg as).length = (lg_sl (as.map (jt ad))).length
  | [] => rfl
  | v :: as => by
    have ih := jarg_len ad as
    cases v <;> simp_all [jarg, lg_sl, jt, Value.category]
theorem jarg_get (ad : Nat → Nat) : ∀ (as : List Value) (k i : Nat) (v : Value), (jarg as)[i]? = some (some v) → (k + i, jt ad v) ∈ lv_args k (as.map (jt ad))
  | [], k, i, v, h => by simp [jarg] at h
  | w :: as, k, i, v, h => by
    have ih := jarg_get ad as
    by_cases hc : w.category = 2
    · have e : jarg (w :: as) = some w :: none :: jarg as := by cases w <;> simp_all [jarg, Value.category]
      rw [e] at h
      simp only [List.map_cons, lv_args, jt_cat, hc, if_true]
      match i, h with
      | 0, h => simp at h; subst h; simp
      | 1, h => simp at h
      | i + 2, h =>
        simp at h
        have := ih (k + 2) i v h
        rw [show k + 2 + i = k + (i + 2) by omega] at this
        exact List.mem_cons_of_mem _ this
    · have e : jarg (w :: as) = some w :: jarg as := by cases w <;> simp_all [jarg, Value.category]
      rw [e] at h
      simp only [List.map_cons, lv_args, jt_cat, hc, if_false]
      match i, h with
      | 0, h => simp at h; subst h; simp
      | i + 1, h =>
        simp at h
        have := ih (k + 1) i v h
        rw [show k + 1 + i = k + (i + 1) by omega] at this
        exact List.mem_cons_of_mem _ this
theorem jin_get {as : List Value} {nL i : Nat} {v : Value} (h : (jin as nL)[i]? = some (some v)) : (jarg as)[i]? = some (some v) := by
  unfold jin at h
  by_cases hi : i < (jarg as).length
  · rwa [List.getElem?_append_left hi] at h
  · rw [List.getElem?_append_right (by omega), List.getElem?_replicate] at h
    split at h <;> simp at h
/-- the answer is of the method's type -/
def jrok : Option FieldType → Option Value → Prop
  | none, none => True
  | some .int, some (.int _) => True
  | some .long, some (.long _) => True
  | some .boolean, some (.int v) => narrow .boolean (.int v) = .int v
  | some .char, some (.int v) => narrow .char (.int v) = .int v
  | some .byte, some (.int v) => narrow .byte (.int v) = .int v
  | _, _ => False
/-- a method comes to its end, and P holds there; d: how deep its calls go -/
def jEv (tab : Nat → Option jMt) : Nat → jE
  | 0 => fun _ _ _ _ _ _ => False
  | d + 1 => fun k as M cN zN P => ∃ mt : jMt, tab k = some mt ∧ (jarg as).length ≤ mt.2.2.1 ∧
    jWP (jEv tab d) (fun r M2 => jrok mt.2.2.2.1 r ∧ jCn M cN zN P r M2) (M.1.length + cN, jsl M.1 + zN) mt.2.2.2.2 0 (jin as mt.2.2.1) [] M
theorem jEv.post {tab : Nat → Option jMt} : ∀ {d k : Nat} {as : List Value} {M : jM} {cN zN : Nat} {P P2 : Option Value → jM → Prop}, jEv tab d k as M cN zN P → (∀ r M2, P r M2 → P2 r M2) → jEv tab d k as M cN zN P2
  | 0, _, _, _, _, _, _, _, h, _ => h
  | _ + 1, _, _, _, _, _, _, _, ⟨mt, h1, h2, h3⟩, hp => ⟨mt, h1, h2, h3.mono (fun _ _ _ _ _ _ z => z) (fun r M2 z => ⟨z.1, z.2.1, z.2.2.1, hp r M2 z.2.2.2⟩)⟩
theorem jEv.up {tab : Nat → Option jMt} : ∀ (d : Nat) (k : Nat) (as : List Value) (M : jM) (cN zN : Nat) (P : Option Value → jM → Prop), jEv tab d k as M cN zN P → jEv tab (d + 1) k as M cN zN P
  | 0, _, _, _, _, _, _, h => absurd h id
  | d + 1, _, _, _, _, _, _, ⟨mt, h1, h2, h3⟩ => ⟨mt, h1, h2, h3.mono (fun k as M cN zN P z => jEv.up d k as M cN zN P z) (fun _ _ z => z)⟩
theorem jEv.le {tab : Nat → Option jMt} {d d2 k : Nat} {as : List Value} {M : jM} {cN zN : Nat} {P : Option Value → jM → Prop} (hd : d ≤ d2) (h : jEv tab d k as M cN zN P) : jEv tab d2 k as M cN zN P := by
  induction hd with
  | refl => exact h
  | step _ ih => exact jEv.up _ _ _ _ _ _ _ ih
/-- a method's blocks are what its code does -/
def jSnd (tab : Nat → Option jMt) (mt : jMt) : Prop := plainName mt.1.cls = true ∧ ∀ (p : Program) (l : Launch) (e : Env) (R : Room) (s : State) (m : MethodId) (args : Array Value) (below : List Frame) (meth : Method) (c : Code) (Q : State → Prop) (g : jG) (n0 z0 : Nat) (X : jX),
  jC tab p l e R s m args below meth c Q g mt.2.2.1 n0 z0 mt.2.1 mt.1.cls mt.1.name X → (∀ q, jSn p l e R s m args below meth c Q g mt.2.2.1 n0 z0 q (X.2.1 q)) → ∀ q, jSn p l e R s m args below meth c Q g mt.2.2.1 n0 z0 q (mt.2.2.2.2 X q)
/-- from the entry: the walk is the machine's -/
theorem jwalk {tab : Nat → Option jMt} {p : Program} {l : Launch} {e : Env} {R : Room} {s : State} {m : MethodId} {args : Array Value} {below : List Frame} {meth : Method} {c : Code} {Q : State → Prop} {g : jG} {n0 z0 : Nat} {mt : jMt} {E : jE} {Rt : Option Value → jM → Prop} {cap : Nat × Nat} (hs : jSnd tab mt)
    (hC : ∀ (E0 : jE) (J0 : Nat → jK) (Rt0 : Option Value → jM → Prop), (∀ k as M cN zN P, E0 k as M cN zN P → E k as M cN zN P) → (∀ r M, Rt0 r M → Rt r M) → jC tab p l e R s m args below meth c Q g mt.2.2.1 n0 z0 mt.2.1 mt.1.cls mt.1.name (E0, J0, Rt0, cap)) {pc : Nat} {ls : jL} {st : List Value} {M : jM} (h : jWP E Rt cap mt.2.2.2.2 pc ls st M) : jAt p l e R s m args below meth c Q g mt.2.2.1 n0 z0 pc ls st M :=
  h (fun pc => jAt p l e R s m args below meth c Q g mt.2.2.1 n0 z0 pc) (fun E0 J0 Rt0 pc ls st M hE hJ hR hp => hs.2 p l e R s m args below meth c Q g n0 z0 (E0, J0, Rt0, cap) (hC E0 J0 Rt0 hE hR) (fun q ls st M z => hJ q ls st M z) pc ls st M hp)
theorem jlv_entry {ad : Nat → Nat} {as : List Value} {nL : Nat} (h : (jarg as).length ≤ nL) : jlv ad ((lg_sl (as.map (jt ad)) ++ List.replicate (nL - (lg_sl (as.map (jt ad))).length) Slot.unset).toArray) nL (jin as nL) :=
  jlv.weak (by unfold jin; rw [List.length_append, List.length_replicate]; omega) (lv_entry (as.map (jt ad)) (by rw [← jarg_len]; exact h)) (fun i v z => by
    have := jarg_get ad as 0 i v (jin_get z)
    rwa [Nat.zero_add] at this)
set_option maxHeartbeats 1000000 in
theorem jsound {tab : Nat → Option jMt} (hs : ∀ k mt, tab k = some mt → jSnd tab mt) {g : jG} (hg : jGok g) (l : Launch) : ∀ (d : Nat) (k : Nat) (as : List Value) (M : jM) (cN zN : Nat) (P : Option Value → jM → Prop), jEv tab d k as M cN zN P → jMet tab g l d k as M cN zN P
  | 0, _, _, _, _, _, _, h => absurd h id
  | d + 1, k, as, M, cN, zN, P, h => by
    obtain ⟨mt, hk, hal, hw⟩ := h
    refine ⟨mt, hk, Met.ofW (cc := mt.2.1) (maxL := mt.2.2.1) (ret := mt.2.2.2.1) (hs k mt hk).1 rfl ?_⟩
    intro p e s m args below meth c s₁ B hml hv
    obtain ⟨rfl, hH, hEnv⟩ := hv
    have hlocks := B.notSynchronized
    have hctx : ∀ (E0 : jE) (J0 : Nat → jK) (Rt0 : Option Value → jM → Prop), (∀ k as M cN zN P, E0 k as M cN zN P → jEv tab d k as M cN zN P) → (∀ r M', Rt0 r M' → jrok mt.2.2.2.1 r ∧ jCn M cN zN P r M') → jC tab p l e (headSpec [Cond.code mt.1 mt.2.1 mt.2.2.1 mt.2.2.2.1] (jrm (d + 1) cN zN)).room s m (as.map (jt (jad g))).toArray below meth c (MQ below (jQc g (jCn M cN zN P)) (as.map (jt (jad g))).toArray s cN zN (jA g)) g mt.2.2.1 M.1.length (jsl M.1) mt.2.1 mt.1.cls mt.1.name (E0, J0, Rt0, (M.1.length + cN, jsl M.1 + zN)) := by
      intro E0 J0 Rt0 hE0 hR0
      refine ⟨B.exec, B.bytes, hml, findClass_of_methodNamed B.named, hg, hEnv, by rw [hH.2.1]; omega, ⟨d, Nat.le_refl _, Nat.le_refl _, fun k as M cN zN P h => jsound hs hg l d k as M cN zN P (hE0 k as M cN zN P h)⟩, ?_, Nat.le_refl _, Nat.le_refl _, (name_of_methodNamed B.named B.method).1⟩
      intro pc ls st M' op r' hd hop hrt la H locs cells slots hl hH' hS' h1 h2
      obtain ⟨hrk, hcn⟩ := hR0 r' M' hrt
      obtain ⟨n1, n2, -⟩ := id hcn
      have ec : cN = cells := by omega
      have es : zN = slots := by omega
      have hq : ∀ t : State, t.heap = H → s.WarmedH t.vm → jQc g (jCn M cN zN P) (as.map (jt (jad g))).toArray s (.returned (r'.map (jt (jad g)))) t := fun t ht _ => ⟨⟨r', M', hcn, rfl, by rw [ht]; exact hH'⟩, hS'.F ht⟩
      clear hcn n1 n2
      subst ec
      subst es
      have hr := B.returns
      rcases hop with ⟨rfl, v, rfl, rfl⟩ | ⟨rfl, v, rfl, rfl⟩ | ⟨rfl, rfl, rfl⟩
      · cases hret : mt.2.2.2.1 with
        | none => rw [hret] at hrk; exact absurd hrk id
        | some ty =>
          rw [hret] at hrk hr
          cases ty <;> first | exact absurd hrk id | exact W.iret B.exec B.bytes hr hq hS'.2.2 hd | exact W.zret B.exec B.bytes hr hrk hq hS'.2.2 hd
      · cases hret : mt.2.2.2.1 with
        | none => rw [hret] at hrk; exact absurd hrk id
        | some ty =>
          rw [hret] at hrk hr
          cases ty <;> first | exact absurd hrk id | exact W.lret B.exec B.bytes hr hq hS'.2.2 hd
      · cases hret : mt.2.2.2.1 with
        | none =>
          rw [hret] at hr
          exact W.vret B.exec B.bytes hr hq hS'.2.2 hd
        | some ty => rw [hret] at hrk; cases ty <;> exact absurd hrk id
    rw [lg_entry_eq]
    exact jwalk (hs k mt hk) hctx hw _ _ _ _ _ (jlv_entry hal) hH va_S.rf rfl rfl
