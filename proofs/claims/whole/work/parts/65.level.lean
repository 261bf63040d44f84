/-! text: the levels that are chains -/
variable {A T : jA3} {v : Nat → Nat} {z N i n d m : Nat}
def P5 (v : Nat → Nat) (z N kc kr d : Nat) : Prop := ∀ A T i n, OK A T v z N i n d → Sim (Res A v z N d n i) (fX5_readLevel kc A (nI 5) (nI d)) (rX11 kr 2 T)
def P4 (v : Nat → Nat) (z N kc kr d : Nat) : Prop := ∀ A T i n, OK A T v z N i n d → Sim (Res A v z N d n i) (fX5_readLevel kc A (nI 4) (nI d)) (fX11_term (rX11 kr) T)
def P3 (v : Nat → Nat) (z N kc kr d : Nat) : Prop := ∀ A T i n, OK A T v z N i n d → Sim (Res A v z N d n i) (fX5_readLevel kc A (nI 3) (nI d)) (fX11_sum (rX11 kr) T)
def P2 (v : Nat → Nat) (z N kc kr d : Nat) : Prop := ∀ A T i n, OK A T v z N i n d → Sim (Res A v z N d n i) (fX5_readLevel kc A (nI 2) (nI d)) (rX11 kr 1 T)
def P1 (v : Nat → Nat) (z N kc kr d : Nat) : Prop := ∀ A T i n, OK A T v z N i n d → Sim (Res A v z N d n i) (fX5_readLevel kc A (nI 1) (nI d)) (fX11_all (rX11 kr) T)
def P0 (v : Nat → Nat) (z N kc kr d : Nat) : Prop := ∀ A T i n, OK A T v z N i n d → Sim (Res A v z N d n i) (fX5_readLevel kc A (nI 0) (nI d)) (rX11 kr 0 T)
theorem key_is (h : TK T m) (h11 : T 94 11 = -1) {k : Nat} (hk : k < 6) : fX11_isKey T (nI (10 + k)) = if m = 300 + k then 1 else 0 := by
  unfold fX11_isKey
  rw [h11, if_neg (show ¬ (0 : Int32) ≤ -1 by decide)]
  rcases h with ⟨rfl, h⟩ | ⟨rfl, h⟩ | ⟨j, hj, rfl, h, h2⟩ | ⟨j, hj, rfl, h, h2⟩ | ⟨hg, hg2, h, h2⟩ | ⟨j, hj, rfl, h, h2⟩
  · rw [h, if_neg (show ¬ (4 : Int32) = 1 by decide), if_neg (by omega)]
  · rw [h, if_neg (show ¬ (5 : Int32) = 1 by decide), if_neg (by omega)]
  · rw [h, if_pos rfl, h2, if_neg (by rw [nI_eq (by omega) (by omega)]; omega), if_neg (by omega)]
  · rw [h, if_pos rfl, h2]
    by_cases q : j = k
    · rw [q, if_pos rfl, if_pos rfl]
    · rw [if_neg (by rw [nI_eq (by omega) (by omega)]; omega), if_neg (by omega)]
  · rw [h, if_neg (show ¬ (3 : Int32) = 1 by decide), if_neg (by omega)]
  · rw [h, if_neg (show ¬ (2 : Int32) = 1 by decide), if_neg (by omega)]
theorem sign_is (h : TK T m) (h11 : T 94 11 = -1) {c : Nat} (hc : isG c = true) : fX11_isSign T (nI c) = if m = c then 1 else 0 := by
  have hl := isG_lt hc
  unfold fX11_isSign
  rw [h11, if_neg (show ¬ (0 : Int32) ≤ -1 by decide)]
  rcases h with ⟨rfl, h⟩ | ⟨rfl, h⟩ | ⟨j, hj, rfl, h, h2⟩ | ⟨j, hj, rfl, h, h2⟩ | ⟨hg, hg2, h, h2⟩ | ⟨j, hj, rfl, h, h2⟩
  · rw [h, if_neg (show ¬ (4 : Int32) = 3 by decide), if_neg (by omega)]
  · rw [h, if_neg (show ¬ (5 : Int32) = 3 by decide), if_neg (by omega)]
  · rw [h, if_neg (show ¬ (1 : Int32) = 3 by decide), if_neg (by omega)]
  · rw [h, if_neg (show ¬ (1 : Int32) = 3 by decide), if_neg (by omega)]
  · rw [h, if_pos rfl, h2]
    by_cases q : m = c
    · rw [q, if_pos rfl, if_pos rfl]
    · rw [if_neg (by rw [nI_eq (by omega) (by omega)]; exact q), if_neg q]
  · rw [h, if_neg (show ¬ (2 : Int32) = 3 by decide), if_neg (by omega)]
theorem OK.lt (h : OK A T v z N i n d) (hTS : TS v z N) (hc : tcd v z i ≠ 0) (hc1 : tcd v z i ≠ 1) : i < N := by
  have h3 := h.2.2.1
  rcases Nat.lt_or_ge i N with q | q
  · exact q
  · have e : i = N := by omega
    subst e
    rcases hTS.2.2.2.1 with w | w
    · exact absurd w hc
    · exact absurd w hc1
theorem OK.neg (h : OK A T v z N i n d) : A 21 5 < 0 := by rw [h.2.2.2.2.2.2.1]; decide
theorem OK.negC (h : OK A T v z N i n d) : T 94 11 = -1 := h.2.2.2.2.2.2.2.2.1
theorem OK.tk (h : OK A T v z N i n d) : TK T (tcd v z i) := h.2.2.2.2.2.2.2.2.2.2.2.2.2.1
theorem code_is {c k : Nat} (hc : c < 20000) (hk : k < 20000) : (nI c = nI k) ↔ c = k := nI_eq (by omega) (by omega)
theorem bind_id {α : Type} (x : Option α) : (Option.bind x fun r => some r) = x := by cases x <;> rfl
theorem lev {l k : Nat} (h : OK A T v z N i n d) (hl : l = 0 ∨ l = 1 ∨ l = 3 ∨ l = 4) : fX5_readLevel (k + 1) A (nI l) (nI d) = fX5_readChain (fX5_readLevel k) A (nI l) (nI d) := by
  show gX5_readLevel (fX5_readLevel k) A (nI l) (nI d) = _
  unfold gX5_readLevel
  rw [if_pos h.neg]
  rcases hl with rfl | rfl | rfl | rfl
  · rw [if_neg (by decide), if_neg (by decide), bind_id]
  · rw [if_neg (by decide), if_neg (by decide), bind_id]
  · rw [if_neg (by decide), if_neg (by decide), bind_id]
  · rw [if_neg (by decide), if_neg (by decide), bind_id]
theorem join_eq {c : Nat} {l1 : Int32} (h : fX5_token A = some (nI c)) : fX5_joining A l1 = (if l1 = 0 then (if nI c = (303 : Int32) then some (-11 : Int32) else some (0 : Int32)) else (if l1 = (1 : Int32) then (if nI c = (304 : Int32) then some (-12 : Int32) else some (0 : Int32)) else (if l1 = (3 : Int32) then (if nI c = (43 : Int32) then some (-16 : Int32) else (if nI c = (45 : Int32) then some (-17 : Int32) else some (0 : Int32))) else (if nI c = (42 : Int32) then some (-18 : Int32) else some (0 : Int32))))) := by
  unfold fX5_joining
  rw [h]
  rfl
theorem up4 (hTS : TS v z N) {kc kr : Nat} (h5 : P5 v z N kc kr d) : P4 v z N (kc + 1) kr d := by
  intro A T i n h
  rw [lev h (by omega)]
  refine chain hTS (l := 4) (sub := fun T => rX11 kr 2 T) (c := cX11_term_4 (rX11 kr)) (fun A T i n h => by rw [nI_1]; exact h5 A T i n h) (fun A T i n h => ?_) (fun A T m h => ?_) h
  · have hc := hTS.2.2.2.2 i
    have e1 : fX5_joining A (nI 4) = some (if tcd v z i = 42 then -18 else 0) := by
      rw [join_eq (h.token hTS.2.1), if_neg (by decide), if_neg (by decide), if_neg (by decide)]
      by_cases q : tcd v z i = 42
      · rw [if_pos q, if_pos (show nI (tcd v z i) = (42 : Int32) from (code_is (k := 42) hc (by omega)).mpr q)]
      · rw [if_neg q, if_neg (show ¬ nI (tcd v z i) = (42 : Int32) from fun w => q ((code_is (k := 42) hc (by omega)).mp w))]
    have e2 : fX11_isSign T (42 : Int32) = if tcd v z i = 42 then 1 else 0 := sign_is h.tk h.negC (c := 42) rfl
    unfold cX11_term_4
    by_cases q : tcd v z i = 42
    · refine Or.inr ⟨-18, by decide, by unfold isTwo; decide, by decide, h.lt hTS (by omega) (by omega), by rw [e1, if_pos q], ?_⟩
      rw [e2, if_pos q, if_neg (by decide)]
      rfl
    · refine Or.inl ⟨by rw [e1, if_neg q], ?_⟩
      rw [e2, if_neg q, if_pos rfl]
  · unfold cX11_term_4
    rw [h.sign, if_pos rfl]
theorem up3 (hTS : TS v z N) {kc kr : Nat} (h5 : P4 v z N kc kr d) : P3 v z N (kc + 1) kr d := by
  intro A T i n h
  rw [lev h (by omega)]
  refine chain hTS (l := 3) (sub := fun T => fX11_term (rX11 kr) T) (c := cX11_sum_4 (rX11 kr)) (fun A T i n h => by rw [nI_1]; exact h5 A T i n h) (fun A T i n h => ?_) (fun A T m h => ?_) h
  · have hc := hTS.2.2.2.2 i
    have e1 : fX5_joining A (nI 3) = some (if tcd v z i = 43 then -16 else if tcd v z i = 45 then -17 else 0) := by
      rw [join_eq (h.token hTS.2.1), if_neg (by decide), if_neg (by decide), if_pos (show nI 3 = (3 : Int32) from rfl)]
      by_cases q : tcd v z i = 43
      · rw [if_pos q, if_pos (show nI (tcd v z i) = (43 : Int32) from (code_is (k := 43) hc (by omega)).mpr q)]
      · rw [if_neg q, if_neg (show ¬ nI (tcd v z i) = (43 : Int32) from fun w => q ((code_is (k := 43) hc (by omega)).mp w))]
        by_cases q2 : tcd v z i = 45
        · rw [if_pos q2, if_pos (show nI (tcd v z i) = (45 : Int32) from (code_is (k := 45) hc (by omega)).mpr q2)]
        · rw [if_neg q2, if_neg (show ¬ nI (tcd v z i) = (45 : Int32) from fun w => q2 ((code_is (k := 45) hc (by omega)).mp w))]
    have e2 : fX11_isSign T (43 : Int32) = if tcd v z i = 43 then 1 else 0 := sign_is h.tk h.negC (c := 43) rfl
    have e3 : fX11_isSign T (45 : Int32) = if tcd v z i = 45 then 1 else 0 := sign_is h.tk h.negC (c := 45) rfl
    have e16 : ∀ c, isG c = true → tcd v z i = c → T 94 16 = nI c := fun c hg hq => by
      have hl := isG_lt hg
      rcases h.tk with ⟨w, _⟩ | ⟨w, _⟩ | ⟨j, hj, w, _⟩ | ⟨j, hj, w, _⟩ | ⟨_, _, _, w⟩ | ⟨j, hj, w, _⟩
      · omega
      · omega
      · omega
      · omega
      · rw [w, hq]
      · omega
    unfold cX11_sum_4 jX11_sum_22_4
    by_cases q : tcd v z i = 43
    · refine Or.inr ⟨-16, by decide, by unfold isTwo; decide, by decide, h.lt hTS (by omega) (by omega), by rw [e1, if_pos q], ?_⟩
      rw [e2, if_pos q, if_neg (by decide), e16 43 rfl q]
      rfl
    · by_cases q2 : tcd v z i = 45
      · refine Or.inr ⟨-17, by decide, by unfold isTwo; decide, by decide, h.lt hTS (by omega) (by omega), by rw [e1, if_neg q, if_pos q2], ?_⟩
        rw [e2, if_neg q, if_pos rfl, e3, if_pos q2, if_neg (by decide), e16 45 rfl q2]
        rfl
      · refine Or.inl ⟨by rw [e1, if_neg q, if_neg q2], ?_⟩
        rw [e2, if_neg q, if_pos rfl, e3, if_neg q2, if_pos rfl]
  · unfold cX11_sum_4
    rw [h.sign, if_pos rfl, h.sign, if_pos rfl]
theorem up1 (hTS : TS v z N) {kc kr : Nat} (h5 : P2 v z N kc kr d) : P1 v z N (kc + 1) kr d := by
  intro A T i n h
  rw [lev h (by omega)]
  refine chain hTS (l := 1) (sub := fun T => rX11 kr 1 T) (c := cX11_all_4 (rX11 kr)) (fun A T i n h => by rw [nI_1]; exact h5 A T i n h) (fun A T i n h => ?_) (fun A T m h => ?_) h
  · have hc := hTS.2.2.2.2 i
    have e1 : fX5_joining A (nI 1) = some (if tcd v z i = 304 then -12 else 0) := by
      rw [join_eq (h.token hTS.2.1), if_neg (by decide), if_pos (show nI 1 = (1 : Int32) from rfl)]
      by_cases q : tcd v z i = 304
      · rw [if_pos q, if_pos (show nI (tcd v z i) = (304 : Int32) from (code_is (k := 304) hc (by omega)).mpr q)]
      · rw [if_neg q, if_neg (show ¬ nI (tcd v z i) = (304 : Int32) from fun w => q ((code_is (k := 304) hc (by omega)).mp w))]
    have e2 : fX11_isKey T (14 : Int32) = if tcd v z i = 304 then 1 else 0 := key_is h.tk h.negC (k := 4) (by omega)
    unfold cX11_all_4
    by_cases q : tcd v z i = 304
    · refine Or.inr ⟨-12, by decide, by unfold isTwo; decide, by decide, h.lt hTS (by omega) (by omega), by rw [e1, if_pos q], ?_⟩
      rw [e2, if_pos q, if_neg (by decide)]
      rfl
    · refine Or.inl ⟨by rw [e1, if_neg q], ?_⟩
      rw [e2, if_neg q, if_pos rfl]
  · unfold cX11_all_4
    rw [h.key, if_pos rfl]
theorem up0 (hTS : TS v z N) {kc kr : Nat} (h5 : P1 v z N kc kr d) : P0 v z N (kc + 1) (kr + 1) d := by
  intro A T i n h
  rw [lev h (by omega)]
  refine chain hTS (l := 0) (sub := fun T => fX11_all (rX11 kr) T) (c := cX11_either_4 (rX11 kr)) (fun A T i n h => by rw [nI_1]; exact h5 A T i n h) (fun A T i n h => ?_) (fun A T m h => ?_) h
  · have hc := hTS.2.2.2.2 i
    have e1 : fX5_joining A (nI 0) = some (if tcd v z i = 303 then -11 else 0) := by
      rw [join_eq (h.token hTS.2.1), if_pos (show nI 0 = (0 : Int32) from rfl)]
      by_cases q : tcd v z i = 303
      · rw [if_pos q, if_pos (show nI (tcd v z i) = (303 : Int32) from (code_is (k := 303) hc (by omega)).mpr q)]
      · rw [if_neg q, if_neg (show ¬ nI (tcd v z i) = (303 : Int32) from fun w => q ((code_is (k := 303) hc (by omega)).mp w))]
    have e2 : fX11_isKey T (13 : Int32) = if tcd v z i = 303 then 1 else 0 := key_is h.tk h.negC (k := 3) (by omega)
    unfold cX11_either_4
    by_cases q : tcd v z i = 303
    · refine Or.inr ⟨-11, by decide, by unfold isTwo; decide, by decide, h.lt hTS (by omega) (by omega), by rw [e1, if_pos q], ?_⟩
      rw [e2, if_pos q, if_neg (by decide)]
      rfl
    · refine Or.inl ⟨by rw [e1, if_neg q], ?_⟩
      rw [e2, if_neg q, if_pos rfl]
  · unfold cX11_either_4
    rw [h.key, if_pos rfl]
