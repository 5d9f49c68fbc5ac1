theorem burnV_le {V : Nat → Nat} {m : Nat} : ∀ i k, burnV V m i k ≤ V k := by
  intro i
  induction i with
  | zero =>
    intro k
    exact Nat.le_refl _
  | succ i ih =>
    intro k
    unfold burnV
    split
    · by_cases e : k = 8 + 5 * i + 3
      · rw [e, upV_s]
        omega
      · rw [upV_o e]
        exact ih k
    · exact ih k
theorem WV.night {V : Nat → Nat} {o : Option Tri} (hV : WV V) (h : V 1 + 1 ≤ 20000) : WV (nightV V o) := by
  obtain ⟨h1, h2, h3, h4, h5⟩ := hV
  unfold nightV
  cases o with
  | none =>
    refine ⟨?_, ?_, ?_, ?_, fun i hi => ?_⟩
    · show upV _ 1 _ 6 ≤ 9
      rw [upV_o (by omega), upV_o (by omega)]
      exact h1
    · show upV _ 1 _ 0 ≤ 9
      rw [upV_o (by omega), upV_o (by omega)]
      exact h2
    · show upV _ 1 _ 1 ≤ 20000
      rw [upV_s]
      exact h
    · show upV _ 1 _ 2 ≤ 9999
      rw [upV_o (by omega), upV_s]
      split <;> omega
    · show upV _ 1 _ (8 + 5 * i) ≤ 6 ∧ upV _ 1 _ (8 + 5 * i + 1) ≤ 9 ∧ upV _ 1 _ (8 + 5 * i + 2) ≤ 15 ∧ upV _ 1 _ (8 + 5 * i + 3) ≤ 99 ∧ upV _ 1 _ (8 + 5 * i + 4) ≤ 99
      simp only [upV_o (show 8 + 5 * i ≠ 1 by omega), upV_o (show 8 + 5 * i + 1 ≠ 1 by omega), upV_o (show 8 + 5 * i + 2 ≠ 1 by omega), upV_o (show 8 + 5 * i + 3 ≠ 1 by omega), upV_o (show 8 + 5 * i + 4 ≠ 1 by omega), upV_o (show 8 + 5 * i ≠ 2 by omega), upV_o (show 8 + 5 * i + 1 ≠ 2 by omega), upV_o (show 8 + 5 * i + 2 ≠ 2 by omega), upV_o (show 8 + 5 * i + 3 ≠ 2 by omega), upV_o (show 8 + 5 * i + 4 ≠ 2 by omega)]
      exact h5 i hi
  | some t =>
    refine ⟨?_, ?_, ?_, ?_, fun i hi => ?_⟩
    · show upV _ 1 _ 6 ≤ 9
      rw [upV_o (by omega)]
      exact Nat.le_trans (burnV_le _ _) h1
    · show upV _ 1 _ 0 ≤ 9
      rw [upV_o (by omega)]
      exact Nat.le_trans (burnV_le _ _) h2
    · show upV _ 1 _ 1 ≤ 20000
      rw [upV_s]
      exact h
    · show upV _ 1 _ 2 ≤ 9999
      rw [upV_o (by omega)]
      exact Nat.le_trans (burnV_le _ _) h4
    · show upV _ 1 _ (8 + 5 * i) ≤ 6 ∧ upV _ 1 _ (8 + 5 * i + 1) ≤ 9 ∧ upV _ 1 _ (8 + 5 * i + 2) ≤ 15 ∧ upV _ 1 _ (8 + 5 * i + 3) ≤ 99 ∧ upV _ 1 _ (8 + 5 * i + 4) ≤ 99
      simp only [upV_o (show 8 + 5 * i ≠ 1 by omega), upV_o (show 8 + 5 * i + 1 ≠ 1 by omega), upV_o (show 8 + 5 * i + 2 ≠ 1 by omega), upV_o (show 8 + 5 * i + 3 ≠ 1 by omega), upV_o (show 8 + 5 * i + 4 ≠ 1 by omega)]
      obtain ⟨g1, g2, g3, g4, g5⟩ := h5 i hi
      exact ⟨Nat.le_trans (burnV_le _ _) g1, Nat.le_trans (burnV_le _ _) g2, Nat.le_trans (burnV_le _ _) g3, Nat.le_trans (burnV_le _ _) g4, Nat.le_trans (burnV_le _ _) g5⟩
theorem nightV_1 {V : Nat → Nat} {o : Option Tri} : nightV V o 1 = V 1 + 1 := by
  unfold nightV
  cases o with
  | none => exact upV_s
  | some t => exact upV_s
theorem WV.setN {V : Nat → Nat} (hV : WV V) {v : Nat} (h : v ≤ 9) : WV (upV V 0 v) := by
  obtain ⟨h1, h2, h3, h4, h5⟩ := hV
  refine ⟨?_, ?_, ?_, ?_, fun i hi => ?_⟩
  · rw [upV_o (by omega)]
    exact h1
  · rw [upV_s]
    exact h
  · rw [upV_o (by omega)]
    exact h3
  · rw [upV_o (by omega)]
    exact h4
  · rw [upV_o (by omega), upV_o (by omega), upV_o (by omega), upV_o (by omega), upV_o (by omega)]
    exact h5 i hi
theorem WV.setL {V : Nat → Nat} (hV : WV V) {v i : Nat} (h : v ≤ 99) : WV (upV V (8 + 5 * i + 3) v) := by
  obtain ⟨h1, h2, h3, h4, h5⟩ := hV
  refine ⟨?_, ?_, ?_, ?_, fun j hj => ?_⟩
  · rw [upV_o (by omega)]
    exact h1
  · rw [upV_o (by omega)]
    exact h2
  · rw [upV_o (by omega)]
    exact h3
  · rw [upV_o (by omega)]
    exact h4
  · rw [upV_o (by omega), upV_o (by omega), upV_o (by omega), upV_o (show 8 + 5 * j + 4 ≠ 8 + 5 * i + 3 by omega)]
    obtain ⟨g1, g2, g3, g4, g5⟩ := h5 j hj
    refine ⟨g1, g2, g3, ?_, g5⟩
    by_cases e : 8 + 5 * j + 3 = 8 + 5 * i + 3
    · rw [e, upV_s]
      exact h
    · rw [upV_o e]
      exact g4
theorem WV.day {V : Nat → Nat} {Z : Int32} (hV : WV V) : WV (dayV V Z) := by
  have h0 : WV (upV V 0 (dN Z % 10)) := hV.setN (by omega)
  unfold dayV
  split
  · exact h0
  · split
    · exact h0.setL (by split <;> omega)
    · exact h0
