/-! THE LAW's WALK on the small machine gives the claim -/
def lawWP (L : Nat) (xs : Nat → Int32) : Prop := jWP (jEv jtab 1000) (fun r M => r = some (.int 1) ∧ M.1 = Sh0 L) ((Sh0 L).length, jsl (Sh0 L)) pL_law 0 (jin [.ref 0] 4) [] (RS0 L, RA0 xs, fun _ _ => 0)
set_option maxRecDepth 10000 in
theorem Sh0_len (L : Nat) : (Sh0 L).length = 131 := rfl
theorem Sh0_jsl (L : Nat) : jsl (Sh0 L) ≤ L + 20000 := by
  simp only [Sh0, jsl, jz1, List.length_cons, List.length_nil]
  omega
set_option maxHeartbeats 4000000 in
theorem whole_start_of (hlaw : ∀ (L : Nat) (xs : Nat → Int32), L ≤ 3584 → lawWP L xs) {p : Program} {e : Env} {s : State} {m : MethodId} {below : List Frame} {meth : Method} {c : Code} (l : Launch) {b L : Nat} {xs : Nat → Int32} (hL : L ≤ 3584) (C0 : lw_At p s m meth c b L xs) : W p l e room_1 s m #[Value.ref b] below meth c s.heap [] 0 0 (lw_Z below #[Value.ref b] s) (entryFrame m ([Value.ref b] : List Value).toArray 4) := by
  obtain ⟨hx, hb, hr, hml, hown, hts, hX, hbl, hlocks, hgv, hnm⟩ := id C0
  obtain ⟨g, hg, g1, g0, gS, gA, hEnv⟩ := env_start hts hgv hX hbl
  have hH : jH g (RS0 L, RA0 xs, fun _ _ => 0) s.heap := by
    refine ⟨Nat.le_of_ble_eq_true rfl, by rw [g1]; rfl, fun k _ => ⟨by rw [gS], by rw [gA]⟩, fun k q hq => ?_⟩
    obtain ⟨h1, -⟩ := jw_some hq
    exact absurd h1 (Nat.not_lt_zero _)
  have hlen : (RS0 L).length = 15 := rfl
  have hsl := Sh0_jsl L
  have hctx : ∀ (E0 : jE) (J0 : Nat → jK) (Rt0 : Option Value → jM → Prop), (∀ k as M cN zN P, E0 k as M cN zN P → jEv jtab 1000 k as M cN zN P) → (∀ r M', Rt0 r M' → r = some (.int 1) ∧ M'.1 = Sh0 L) → jC jtab p l e room_1 s m #[Value.ref b] below meth c (lw_Z below #[Value.ref b] s) g mL_law.2.2.1 15 (jsl (RS0 L)) mL_law.2.1 mL_law.1.cls mL_law.1.name (E0, J0, Rt0, ((Sh0 L).length, jsl (Sh0 L))) := by
    intro E0 J0 Rt0 hE0 hR0
    refine ⟨hx, hb, hml, hown, hg, hEnv, by rw [g1]; exact Nat.le_refl _, ⟨1000, Nat.le_of_ble_eq_true rfl, Nat.le_of_ble_eq_true rfl, fun k as M cN zN P h => jsound jtab_snd hg l 1000 k as M cN zN P (hE0 k as M cN zN P h)⟩, ?_, ?_, ?_, hnm⟩
    · intro pc ls st M op r hd hop hrt la H locs cells slots hl hH' hS' h1 h2
      obtain ⟨e1, e2⟩ := hR0 r M hrt
      rcases hop with ⟨rfl, v, rfl, rfl⟩ | ⟨rfl, v, rfl, rfl⟩ | ⟨rfl, rfl, rfl⟩
      · cases e1
        rw [e2, Sh0_len] at h1
        rw [e2] at h2
        refine va_forget (fun q hq => ?_) (W.widen (k := 600000) (n := 7302250) (by omega) (by omega) (lw_ret hx hb hr hlocks hd))
        have := hS'.2.2 q hq
        unfold jA at this
        rw [← g1]
        exact this
      · cases e1
      · cases e1
    · show (Sh0 L).length ≤ 15 + 600000
      rw [Sh0_len]
      omega
    · show jsl (Sh0 L) ≤ jsl (RS0 L) + 7302250
      omega
  rw [lg_entry_eq]
  have hgo := jwalk (mt := mL_law) zL_law hctx (hlaw L xs hL)
  have hgo := hgo _ _ [] 0 0 (jlv_entry (ad := jad g) (as := [.ref 0]) (nL := 4) (Nat.le_of_ble_eq_true rfl)) hH va_S.rf rfl rfl
  have e9 : List.map (jt (jad g)) [Value.ref 0] = [Value.ref b] := by
    show [Value.ref (jad g 0)] = _
    rw [g0]
  rw [e9] at hgo
  exact hgo
