/-! ===== the start of both, and the law's loop ===== -/
def exE (k j : Nat) : Int32 := if (k = 1 ∨ k = 20 ∨ k = 39) ∧ j = 7 then 1 else if (k = 7 ∨ k = 26 ∨ k = 45) ∧ j = 0 then 1 else if k = 58 ∧ j = 3 then 1 else if k = 58 ∧ j = 4 then -1 else if k = 90 ∧ j = 5 then -1 else if k = 91 ∧ j = 3 then 1 else 0
theorem s2_a : ∀ k, k < 105 → ∀ j, j < 24 → om_s2 k j = exE k j := by decide +kernel
theorem s2_b : ∀ j, j < 180 → om_s2 91 j = exE 91 j := by decide +kernel
theorem s2_c : ∀ j, j < 96 → om_s2 103 j = 0 := by decide +kernel
def V00 : Nat → Nat := fun _ => 0
def Sh00 : Nat → Int32 × Nat × (Nat → Int32) := fun _ => (0, 0, fun _ => 0)
theorem inv_start : Inv om_s2 := by
  have hWV : WV V00 := ⟨Nat.zero_le _, Nat.zero_le _, Nat.zero_le _, Nat.zero_le _, fun i hi => ⟨Nat.zero_le _, Nat.zero_le _, Nat.zero_le _, Nat.zero_le _, Nat.zero_le _⟩⟩
  have z : ∀ k j, k < 105 → j < 24 → exE k j = 0 → om_s2 k j = 0 := fun k j hk hj he => (s2_a k hk j hj).trans he
  have zm : ∀ i, i < 9 → ∀ f, f < 5 → exE (1 + 10 + i) f = 0 := by decide
  have zq : ∀ j, j < 53 → j ≠ 3 → exE 91 j = 0 := by decide
  refine ⟨(V00, 1, [], [], [], [], none, 0, fun _ => 0, [], Sh00), ⟨⟨hWV, Nat.zero_le _, WC_nil, WC_nil, Nat.zero_le _, Nat.zero_le _⟩, (fun t ht => by cases ht), (fun _ => rfl), Nat.zero_le _, fun k hk => ⟨Or.inl rfl, Nat.zero_le _, fun j hj => by show narF 0 0 = 0; decide⟩⟩, ⟨⟨⟨?_, ?_, ?_, ?_, ?_, fun i f hi hf => ?_, ?_, ?_, ?_, ?_⟩, ?_, ?_⟩, (fun t ht => by cases ht), ?_, fun k hk => ?_, ?_, fun k hk => ⟨?_, ?_, fun j hj => ?_⟩, ⟨?_, ?_, ?_⟩, ?_, ?_, ?_, ?_⟩, ⟨⟨⟨?_, ?_, ?_, ?_, ?_, fun i f hi hf => ?_, ?_, ?_⟩, ?_, ?_⟩, (fun t ht => by cases ht), ?_, fun k hk => ?_, ⟨?_, fun j hj => by cases hj⟩, fun k hk => ⟨?_, ?_, fun j hj => ?_⟩, ?_, ?_, ?_⟩⟩
  · exact z 1 3 (by omega) (by omega) (by decide)
  · exact z 1 4 (by omega) (by omega) (by decide)
  · exact z 1 5 (by omega) (by omega) (by decide)
  · exact z 1 6 (by omega) (by omega) (by decide)
  · exact s2_a 1 (by omega) 7 (by omega)
  · exact z (1 + 10 + i) f (by omega) (by omega) (zm i hi f hf)
  · exact ⟨z 4 1 (by omega) (by omega) (by decide), fun j hj => by cases hj⟩
  · exact ⟨z 8 1 (by omega) (by omega) (by decide), fun j hj => by cases hj⟩
  · exact z 3 0 (by omega) (by omega) (by decide)
  · exact s2_a 7 (by omega) 0 (by omega)
  · exact ⟨z 62 1 (by omega) (by omega) (by decide), fun j hj => by cases hj⟩
  · exact ⟨z 66 1 (by omega) (by omega) (by decide), fun j hj => by cases hj⟩
  · exact z 0 12 (by omega) (by omega) (by decide)
  · exact z 81 k (by omega) (by omega) (by unfold exE; repeat rw [if_neg (by omega)])
  · exact ⟨z 78 1 (by omega) (by omega) (by decide), fun j hj => by cases hj⟩
  · exact z (82 + 2 * k) 1 (by omega) (by omega) (by unfold exE; repeat rw [if_neg (by omega)])
  · exact z (82 + 2 * k) 2 (by omega) (by omega) (by unfold exE; repeat rw [if_neg (by omega)])
  · exact z (83 + 2 * k) j (by omega) (by omega) (by unfold exE; repeat rw [if_neg (by omega)])
  · exact z 59 0 (by omega) (by omega) (by decide)
  · exact z 60 0 (by omega) (by omega) (by decide)
  · exact z 61 0 (by omega) (by omega) (by decide)
  · exact z 22 0 (by omega) (by omega) (by decide)
  · exact s2_a 26 (by omega) 0 (by omega)
  · exact z 41 0 (by omega) (by omega) (by decide)
  · exact s2_a 45 (by omega) 0 (by omega)
  · exact (s2_b 6 (by omega)).trans (by decide)
  · exact (s2_b 0 (by omega)).trans (by decide)
  · exact (s2_b 1 (by omega)).trans (by decide)
  · exact (s2_b 2 (by omega)).trans (by decide)
  · exact (s2_b 3 (by omega)).trans (by decide)
  · exact (s2_b (8 + 5 * i + f) (by omega)).trans (zq _ (by omega) (by omega))
  · exact ⟨(s2_b 53 (by omega)).trans (by decide), fun j hj => by cases hj⟩
  · exact ⟨(s2_b 178 (by omega)).trans (by decide), fun j hj => by cases hj⟩
  · exact ⟨(s2_b 4 (by omega)).trans (by decide), fun j hj => by cases hj⟩
  · exact ⟨(s2_b 5 (by omega)).trans (by decide), fun j hj => by cases hj⟩
  · exact z 90 3 (by omega) (by omega) (by decide)
  · exact z 94 k (by omega) (by omega) (by unfold exE; repeat rw [if_neg (by omega)])
  · exact z 90 15 (by omega) (by omega) (by decide)
  · exact z 101 k (by omega) (by omega) (by unfold exE; repeat rw [if_neg (by omega)])
  · exact z 102 k (by omega) (by omega) (by unfold exE; repeat rw [if_neg (by omega)])
  · exact s2_c (24 * k + j) (by omega)
  · exact s2_a 90 (by omega) 5 (by omega)
  · exact z 98 0 (by omega) (by omega) (by decide)
  · exact z 99 0 (by omega) (by omega) (by decide)
