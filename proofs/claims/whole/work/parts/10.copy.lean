/-! COPIES -/
section JY
variable {tab : Nat → Option jMt} {p : Program} {l : Launch} {e : Env} {R : Room} {s : State} {m : MethodId} {args : Array Value} {below : List Frame} {meth : Method} {c : Code} {Q : State → Prop} {g : jG} {nL n0 z0 : Nat} {cc : ByteArray} {own nm : String} {X : jX} {pc : Nat} {k : jK}
def i_copy (k : jK) : jK := fun ls st M => ∃ (n dp sp : Int32) (a b n0 n1 : Nat) (st' : List Value), st = .int n :: .int dp :: .ref b :: .int sp :: .ref a :: st' ∧ jR ≤ b ∧ jn M.1 a = some (.inl (.int, n0)) ∧ jn M.1 b = some (.inl (.int, n1)) ∧ ¬ sp < 0 ∧ ¬ dp < 0 ∧ ¬ n < 0 ∧ sp.toNatClampNeg + n.toNatClampNeg ≤ n0 ∧ dp.toNatClampNeg + n.toNatClampNeg ≤ n1 ∧ (st'.map Value.category).sum ≤ 8 ∧ k ls st' (M.1, va_up M.2.1 b (va_cpy (M.2.1 a) (M.2.1 b) sp.toNatClampNeg dp.toNatClampNeg n.toNatClampNeg), M.2.2)
theorem x_copy {n dp sp : Int32} {a b n0 n1 : Nat} {ls : jL} {st : List Value} {M : jM} (hb : jR ≤ b) (ha : jn M.1 a = some (.inl (.int, n0))) (hb2 : jn M.1 b = some (.inl (.int, n1))) (h1 : ¬ sp < 0) (h2 : ¬ dp < 0) (h3 : ¬ n < 0) (h4 : sp.toNatClampNeg + n.toNatClampNeg ≤ n0) (h5 : dp.toNatClampNeg + n.toNatClampNeg ≤ n1) (h6 : (st.map Value.category).sum ≤ 8) (h : k ls st (M.1, va_up M.2.1 b (va_cpy (M.2.1 a) (M.2.1 b) sp.toNatClampNeg dp.toNatClampNeg n.toNatClampNeg), M.2.2)) : i_copy k ls (.int n :: .int dp :: .ref b :: .int sp :: .ref a :: st) M := ⟨n, dp, sp, a, b, n0, n1, st, rfl, hb, ha, hb2, h1, h2, h3, h4, h5, h6, h⟩
theorem s_copy (hC : jC tab p l e R s m args below meth c Q g nL n0 z0 cc own nm X) {idx : Nat} (w1 : Cond.methodLink own idx arraycopyName ∈ lw_tbl) (w2 : Cond.native arraycopyName ∈ lw_tbl) (w3 : Cond.static arraycopyName ∈ lw_tbl) (w4 : Cond.initialized "java/lang/System" ∈ lw_tbl) (hd : decode cc pc = .ok (.invokestatic idx, 3)) (hk : jSn p l e R s m args below meth c Q g nL n0 z0 (pc + 3) (k)) : jSn p l e R s m args below meth c Q g nL n0 z0 (pc) (i_copy k) := by
  rintro ls st M ⟨n, dp, sp, a, b, na, nb, st', rfl, hb, hsa, hsb, q1, q2, q3, q4, q5, q6, h⟩ la H locs cells slots hl hH hS h1 h2
  have env := hC.2.2.2.2.2.1
  obtain ⟨F, f1, f2, -⟩ := hC.2.2.2.2.2.2.2.1
  have nn : ∀ z : Int32, ¬ z < 0 → z.toInt = (z.toNatClampNeg : Int) := by
    intro z hz
    have hz0 : (0 : Int) ≤ z.toInt := by
      have := Int32.not_lt.mp hz
      simpa using Int32.le_iff_toInt_le.mp this
    show z.toInt = ((z.toInt.toNat : Nat) : Int)
    omega
  have hsrc : ∃ cs : Cell, H[jad g a]? = some cs ∧ s.isArrayOf cs .int ∧ cs.vm ≠ .unknown ∧ na ≤ cs.slots.size ∧ ∀ j, j < na → cs.slots[j]? = some (.int (M.2.1 a j)) := by
    by_cases ha : jR ≤ a
    · have he := jw_get (ad := jad g) (cT := jcT g) ha hsa
      refine ⟨_, hH.2.2.2 _ _ he, (env.1.2 0 _ rfl).1 na (fun j => .int (M.2.1 a j)), (fun z => by cases z), ?_, fun j hj => ?_⟩
      · show na ≤ (arrV _ _ _).slots.size
        rw [arrV_size]
        exact Nat.le_refl _
      · show (arrV _ _ _).slots[j]? = _
        rw [arrV_read _ _ hj]
    · obtain ⟨r1, r2⟩ := hH.ro (by omega) hsa
      obtain ⟨cell, t1, t2, t3, t4, t5, t6, t7⟩ := env.2.2.2.2.1 a _ (by omega) r1
      refine ⟨cell, by rw [hS.2.1 _ (Array.getElem?_eq_some_iff.mp t1).1 t7]; exact t1, t2, t3, t4, fun j hj => ?_⟩
      rw [r2]
      exact t6 j hj
  obtain ⟨cs, c1, c2, c3, c4, c5⟩ := hsrc
  have he := jw_get (ad := jad g) (cT := jcT g) hb hsb
  have hc1 : H[jad g b]? = some (vp_cell (jcT g .int) (nb, .inl (M.2.1 b))) := hH.2.2.2 _ _ he
  intro T hT X
  obtain ⟨c6, k0, hk0, cm0, hkk0⟩ := c2
  obtain ⟨-, k1, hk1, cm1, hkk1⟩ := (env.1.2 0 _ rfl).1 nb (fun j => .int (M.2.1 b j))
  obtain ⟨vm', X', step⟩ := X.arraycopy hC.1 hC.2.2.2.1 (env.2.1 _ w1 rfl args) (env.2.1 _ w2 rfl args) (env.2.1 _ w3 rfl args) (env.2.1 _ w4 rfl args) (src := jad g a) (dst := jad g b) (cs := cs) (cd := vp_cell (jcT g .int) (nb, .inl (M.2.1 b))) (srcPos := sp) (destPos := dp) (n := n) (by rw [hT]; exact c1) (by rw [hT]; exact hc1)
    c6 (fun _ z => by cases z) c3 (fun z => by cases z) hk0 hk1 hkk0 hkk1 (by simp [refKind]) q1 q2 q3
    (by rw [nn sp q1, nn n q3]; omega)
    (by rw [nn dp q2, nn n q3]; show ¬ _ > ((arrV _ nb _).slots.size : Int); rw [arrV_size]; omega)
    (fun vm₁ _ i hi => by
      have e9 : cs.slots.getD (sp.toNatClampNeg + i) .null = .int (M.2.1 a (sp.toNatClampNeg + i)) := by
        rw [Array.getD_eq_getD_getElem?, c5 _ (by omega)]
        rfl
      rw [e9]
      exact ⟨rfl, trivial⟩)
    (g := F0 m pc la (List.map (jt (jad g)) (.int n :: .int dp :: .ref b :: .int sp :: .ref a :: st'))) rfl (by show la.size = _; rw [hl.2.1, hC.2.2.1]) (rest := List.map (jt (jad g)) st') rfl (by rw [hC.2.1]; exact hd) (by omega) (by
      have e9 := jcat_map (jad g) st'
      have e8 : nativeFrameWords "java/lang/System" "arraycopy" 5 ≤ 40 := by
        unfold nativeFrameWords
        split <;> omega
      show 2 * 0 + _ + _ ≤ _
      omega)
  have e1 := va_copiedX (fun z => Value.int z) cs (jcT g .int) (n1 := nb) (dp := dp.toNatClampNeg) (M.2.1 a) (M.2.1 b) c5 q4
  have e1 : copied cs (vp_cell (jcT g .int) (nb, .inl (M.2.1 b))) sp dp n = vp_cell (jcT g .int) (nb, .inl (va_cpy (M.2.1 a) (M.2.1 b) sp.toNatClampNeg dp.toNatClampNeg n.toNatClampNeg)) := e1
  rw [e1] at X' step
  have hlt : jad g b < H.size := (Array.getElem?_eq_some_iff.mp hc1).1
  have hheap : ((T.setVm vm').setCell (jad g b) (vp_cell (jcT g .int) (nb, .inl (va_cpy (M.2.1 a) (M.2.1 b) sp.toNatClampNeg dp.toNatClampNeg n.toNatClampNeg)))).heap = H.setIfInBounds (jad g b) (vp_cell (jcT g .int) (nb, .inl (va_cpy (M.2.1 a) (M.2.1 b) sp.toNatClampNeg dp.toNatClampNeg n.toNatClampNeg))) := by rw [← hT]; rfl
  have oq : ∀ q : Nat, q ≠ jad g b → (H.setIfInBounds (jad g b) (vp_cell (jcT g .int) (nb, .inl (va_cpy (M.2.1 a) (M.2.1 b) sp.toNatClampNeg dp.toNatClampNeg n.toNatClampNeg))))[q]? = H[q]? := fun q hq => by simp [Array.getElem?_setIfInBounds, Ne.symm hq]
  have hAb := jA_ad hC.2.2.2.2.1 hb
  obtain ⟨t, a1, b1⟩ := hk ls _ _ h la _ _ cells slots hl (hH.wrI hb hsb (by simp) (hH.2.2.2.set (jD hC.2.2.2.2.1 M) he (show (H.setIfInBounds (jad g b) _)[jad g b]? = some _ by simp [Array.getElem?_setIfInBounds, hlt]) oq)) ⟨by simp; exact hS.1, fun q g1 g2 => by
      rw [oq q (fun e => g2 (by rw [e]; exact hAb))]
      exact hS.2.1 q g1 g2, fun q hq => by
      rcases List.mem_append.mp hq with z | z
      · exact hS.2.2 q z
      · obtain ⟨y, -, hy⟩ := List.mem_map.mp z
        rw [← hy]
        exact hAb⟩ h1 h2 _ hheap X'
  exact ⟨t, step t a1, b1⟩
end JY
