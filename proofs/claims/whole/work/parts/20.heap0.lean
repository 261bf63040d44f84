/-! THE HEAP BEHIND THE CONSTRUCTORS; n: how long the script is -/
def Sh0 (n : Nat) : List jS := [.inl (.int, n), .inl (.int, 23), .inl (.int, 4), .inl (.int, 3), .inl (.int, 3), .inl (.int, 6), .inl (.int, 6), .inl (.int, 6), .inr (.inr (12, [.ref 11, .int 0])), .inr (.inr (12, [.ref 12, .int 0])), .inr (.inr (12, [.ref 13, .int 0])), .inl (.byte, 32), .inl (.byte, 27), .inl (.byte, 8), .inr (.inl (0, fun _ => none)), .inr (.inr (10, [.ref 16, .ref 54, .ref 64, .ref 70, .ref 75, .ref 83])), .inr (.inr (6, [.ref 17, .ref 20, .ref 44, .ref 45, .ref 46, .int 0, .ref 47, .ref 48, .ref 49, .int 0, .ref 50, .ref 51, .ref 52, .ref 53, .int 0])), .inr (.inr (4, [.ref 18, .ref 19, .int 0])), .inl (.int, 6), .inl (.int, 6), .inr (.inr (2, [.ref 21, .ref 28, .int 0, .ref 29, .ref 36, .ref 43])), .inr (.inr (5, [.ref 22, .ref 26, .ref 27, .int 0, .int 0, .int 0])), .inr (.inr (8, [.ref 23, .int 0, .ref 24, .ref 25, .int 0, .int 0])), .inl (.int, 160), .inl (.int, 161), .inl (.int, 161), .inl (.int, 160), .inl (.int, 4), .inl (.int, 6), .inr (.inl (6, fun i => if i < 6 then some (29 + 1 + i) else none)), .inl (.int, 160), .inl (.int, 160), .inl (.int, 160), .inl (.int, 160), .inl (.int, 160), .inl (.int, 160), .inr (.inl (6, fun i => if i < 6 then some (36 + 1 + i) else none)), .inl (.int, 4), .inl (.int, 4), .inl (.int, 4), .inl (.int, 4), .inl (.int, 4), .inl (.int, 4), .inl (.int, 160), .inl (.int, 8), .inl (.int, 8), .inl (.int, 8), .inl (.int, 8), .inl (.int, 8), .inl (.int, 6), .inl (.int, 8), .inl (.int, 8), .inl (.int, 96), .inl (.int, 96), .inr (.inr (9, [.ref 55, .ref 56, .ref 63, .int 0])), .inl (.int, 6), .inr (.inl (6, fun i => if i < 6 then some (56 + 1 + i) else none)), .inl (.int, 6), .inl (.int, 6), .inl (.int, 6), .inl (.int, 6), .inl (.int, 6), .inl (.int, 6), .inl (.int, 6), .inr (.inr (0, [.ref 65, .ref 66, .ref 67, .ref 68, .int 0, .ref 69])), .inl (.int, 10), .inl (.int, 10), .inl (.int, 10), .inl (.int, 10), .inl (.int, 10), .inr (.inr (3, [.ref 71, .ref 72, .ref 73, .int 0, .ref 74])), .inl (.int, 24), .inl (.int, 24), .inl (.int, 24), .inl (.int, 4), .inr (.inr (7, [.ref 76, .ref 81, .ref 82])), .inr (.inl (4, fun i => if i < 4 then some (76 + 1 + i) else none)), .inl (.int, 40), .inl (.int, 40), .inl (.int, 40), .inl (.int, 40), .inl (.int, 4), .inl (.int, 4), .inr (.inr (1, [.ref 84, .ref 87, .int 0, .int 0])), .inr (.inr (4, [.ref 85, .ref 86, .int 0])), .inl (.int, 6), .inl (.int, 6), .inr (.inl (6, fun i => if i < 6 then some (87 + 1 + i) else none)), .inl (.int, 6), .inl (.int, 6), .inl (.int, 6), .inl (.int, 6), .inl (.int, 6), .inl (.int, 6), .inr (.inr (11, [.int 0, .ref 95, .ref 96, .ref 97, .int 0, .int 0, .int 0, .ref 98, .ref 99, .ref 100, .int 0, .int 0, .int 0, .int 0, .int 0, .int 0, .int 0, .ref 101, .ref 102, .ref 103, .ref 104, .int 0, .ref 105, .ref 106, .ref 107, .int 0, .ref 108, .ref 109, .ref 110, .int 0, .ref 111, .ref 112, .long 0, .int 0, .ref 113, .ref 114, .ref 115, .int 0, .ref 116, .ref 117, .ref 118, .ref 119, .int 0, .ref 120, .ref 121, .ref 122, .ref 123, .int 0, .int 0, .int 0, .ref 124, .ref 125, .ref 126, .ref 127, .ref 128, .ref 129, .ref 130])), .inl (.int, 6), .inl (.int, 6), .inl (.byte, 160), .inl (.int, 1190), .inl (.int, 1190), .inl (.int, 21), .inl (.int, 170), .inl (.int, 6), .inl (.int, 59), .inl (.int, 12), .inl (.int, 8), .inl (.int, 8), .inl (.int, 8), .inl (.int, 8), .inl (.int, 8), .inl (.int, 8), .inl (.long, 6), .inl (.int, 8), .inl (.int, 6), .inl (.int, 6), .inl (.int, 36), .inl (.int, 10), .inl (.int, 10), .inl (.int, 10), .inl (.int, 10), .inl (.int, 24), .inl (.int, 24), .inl (.int, 24), .inl (.int, 4), .inl (.int, 6), .inl (.int, 6), .inl (.int, 36), .inl (.int, 4), .inl (.int, 4), .inl (.int, 160), .inl (.int, 40)]
theorem rows_29 {n k : Nat} (h : k < 6) : jn (Sh0 n) (29 + 1 + k) = some (.inl (.int, 160)) := by
  match k, h with
  | 0, _ => rfl
  | 1, _ => rfl
  | 2, _ => rfl
  | 3, _ => rfl
  | 4, _ => rfl
  | 5, _ => rfl
theorem rows_36 {n k : Nat} (h : k < 6) : jn (Sh0 n) (36 + 1 + k) = some (.inl (.int, 4)) := by
  match k, h with
  | 0, _ => rfl
  | 1, _ => rfl
  | 2, _ => rfl
  | 3, _ => rfl
  | 4, _ => rfl
  | 5, _ => rfl
theorem rows_56 {n k : Nat} (h : k < 6) : jn (Sh0 n) (56 + 1 + k) = some (.inl (.int, 6)) := by
  match k, h with
  | 0, _ => rfl
  | 1, _ => rfl
  | 2, _ => rfl
  | 3, _ => rfl
  | 4, _ => rfl
  | 5, _ => rfl
theorem rows_76 {n k : Nat} (h : k < 4) : jn (Sh0 n) (76 + 1 + k) = some (.inl (.int, 40)) := by
  match k, h with
  | 0, _ => rfl
  | 1, _ => rfl
  | 2, _ => rfl
  | 3, _ => rfl
theorem rows_87 {n k : Nat} (h : k < 6) : jn (Sh0 n) (87 + 1 + k) = some (.inl (.int, 6)) := by
  match k, h with
  | 0, _ => rfl
  | 1, _ => rfl
  | 2, _ => rfl
  | 3, _ => rfl
  | 4, _ => rfl
  | 5, _ => rfl
theorem vp_lt {i : Int32} {n : Nat} (h : vp_in i n) : i.toNatClampNeg < n := Nat.not_le.mp fun q => h (Or.inr q)
theorem rowle {b k : Nat} (h : jR ≤ b) : jR ≤ b + k := Nat.le_trans h (Nat.le_add_right _ _)
theorem x_row {k : jK} {i : Int32} {a N b : Nat} {ls : jL} {st : List Value} {M : jM} (ha : jR ≤ a) (hs : jn M.1 a = some (.inr (.inl (N, fun i => if i < N then some (b + i) else none)))) (hi : vp_in i N) (h : i.toNatClampNeg < N → k ls (.ref (b + i.toNatClampNeg) :: st) M) : i_aald k ls (.int i :: .ref a :: st) M :=
  x_aald ha hs hi (if_pos (vp_lt hi)) (h (vp_lt hi))
theorem jEv.mk {d k : Nat} {as : List Value} {M : jM} {cN zN : Nat} {P : Option Value → jM → Prop} {mt : jMt} (hk : jtab k = some mt) (hal : (jarg as).length ≤ mt.2.2.1) (h : jWP (jEv jtab d) (fun r M2 => jrok mt.2.2.2.1 r ∧ jCn M cN zN P r M2) (M.1.length + cN, jsl M.1 + zN) mt.2.2.2.2 0 (jin as mt.2.2.1) [] M) : jEv jtab (d + 1) k as M cN zN P := ⟨mt, hk, hal, h⟩
theorem jEv.exI {tab : Nat → Option jMt} {d q : Nat} {as : List Value} {M M0 : jM} {cN zN : Nat} {e : Int32} {k : jK} {ls : jL} {st : List Value} (h : jEv tab d q as M cN zN (fun r M2 => r = some (.int e) ∧ M2 = M0)) (hk : k ls (.int e :: st) M0) : jEv tab d q as M cN zN (fun r M2 => k ls (r.toList ++ st) M2) :=
  h.post (fun r M2 z => by rw [z.1, z.2]; exact hk)
theorem jEv.exL {tab : Nat → Option jMt} {d q : Nat} {as : List Value} {M M0 : jM} {cN zN : Nat} {e : Int64} {k : jK} {ls : jL} {st : List Value} (h : jEv tab d q as M cN zN (fun r M2 => r = some (.long e) ∧ M2 = M0)) (hk : k ls (.long e :: st) M0) : jEv tab d q as M cN zN (fun r M2 => k ls (r.toList ++ st) M2) :=
  h.post (fun r M2 z => by rw [z.1, z.2]; exact hk)
theorem jEv.exV {tab : Nat → Option jMt} {d q : Nat} {as : List Value} {M M0 : jM} {cN zN : Nat} {k : jK} {ls : jL} {st : List Value} (h : jEv tab d q as M cN zN (fun r M2 => r = none ∧ M2 = M0)) (hk : k ls st M0) : jEv tab d q as M cN zN (fun r M2 => k ls (r.toList ++ st) M2) :=
  h.post (fun r M2 z => by rw [z.1, z.2]; exact hk)
