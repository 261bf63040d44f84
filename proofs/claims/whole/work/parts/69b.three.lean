/-! text: all three -/
variable {A T : jA3} {v : Nat → Nat} {z N i n d m : Nat}
theorem rules (hTS : TS v z N) : ∀ (f p : Nat), p + f = 3 → ∀ (A T : jA3), RP v z N p A T → ∃ A2 T2, jwh cX5_readTape_24 (nI p, A) = some A2 ∧ jwh cX11_text_38 (nI p, T) = some T2 ∧ (RP v z N 3 A2 T2 ∨ ∃ m, m ≤ 160 ∧ FL A2 T2 v z N m) := by
  intro f
  induction f with
  | zero =>
    intro p hp A T h
    have e : p = 3 := by omega
    subst e
    refine ⟨A, T, jwh_out ?_, jwh_out ?_, Or.inl h⟩
    · unfold cX5_readTape_24
      rw [if_pos (show (3 : Int32) ≤ nI 3 by decide)]
    · unfold cX11_text_38
      rw [if_pos (show (2 : Int32) < nI 3 by decide)]
  | succ f ih =>
    intro p hp A T h
    obtain ⟨A1, T1, e1, e2, hR⟩ := rule_step hTS (show p < 3 by omega) h
    rw [jwh_go e1, jwh_go e2]
    rcases hR with hR | ⟨m, hm, hF⟩
    · exact ih (p + 1) (by omega) A1 T1 hR
    · obtain ⟨A2, e3, hF2⟩ := FL_tail hF f (p + 1) (by omega)
      refine ⟨A2, T1, e3, jwh_out ?_, Or.inr ⟨m, hm, hF2⟩⟩
      unfold cX11_text_38
      by_cases q : (2 : Int32) < nI (p + 1)
      · rw [if_pos q]
      · rw [if_neg q, if_pos hF.geC]
/-- the end token must stand there -/
theorem end_is (h : TK T m) : T 94 15 = 4 ↔ m = 0 := by
  rcases h with ⟨w, k1⟩ | ⟨w, k1⟩ | ⟨j, hj, w, k1, k2⟩ | ⟨j, hj, w, k1, k2⟩ | ⟨w, wl, k1, k2⟩ | ⟨j, hj, w, k1, k2⟩
  · exact ⟨fun _ => w, fun _ => k1⟩
  · rw [k1]; exact ⟨fun x => absurd x (by decide), fun x => by omega⟩
  · rw [k1]; exact ⟨fun x => absurd x (by decide), fun x => by omega⟩
  · rw [k1]; exact ⟨fun x => absurd x (by decide), fun x => by omega⟩
  · rw [k1]
    have := isG_lt w
    exact ⟨fun x => absurd x (by decide), fun x => by omega⟩
  · rw [k1]; exact ⟨fun x => absurd x (by decide), fun x => by omega⟩
