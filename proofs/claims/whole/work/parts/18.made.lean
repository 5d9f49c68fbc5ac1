def om_s0 : om_S := fun _ _ => 0
def om_r0 : om_R := fun _ _ => none
def om_i1 : Option (om_S × om_R × Nat) := f_X8_init 0 (om_z om_s0 0) (om_zr om_r0 0) 1
def om_s1 : om_S := match om_i1 with | some q => q.1 | none => om_s0
def om_r1 : om_R := match om_i1 with | some q => q.2.1 | none => om_r0
theorem om_i1_n : (om_i1.map fun q => q.2.2) = some 90 := by decide +kernel
theorem om_i1_ok : f_X8_init 0 (om_z om_s0 0) (om_zr om_r0 0) 1 = some (om_s1, om_r1, 90) := by
  have h := om_i1_n
  show om_i1 = _
  unfold om_s1 om_r1
  cases hq : om_i1 with
  | none =>
    rw [hq] at h
    cases h
  | some q =>
    obtain ⟨a, b, c⟩ := q
    rw [hq] at h
    have hc : c = 90 := Option.some.inj h
    rw [hc]
def om_i2 : Option (om_S × om_R × Nat) := f_X9_init 90 (om_z om_s1 90) (om_zr om_r1 90) 91
def om_s2 : om_S := match om_i2 with | some q => q.1 | none => om_s0
def om_r2 : om_R := match om_i2 with | some q => q.2.1 | none => om_r0
theorem om_i2_n : (om_i2.map fun q => q.2.2) = some 105 := by decide +kernel
theorem om_i2_ok : f_X9_init 90 (om_z om_s1 90) (om_zr om_r1 90) 91 = some (om_s2, om_r2, 105) := by
  have h := om_i2_n
  show om_i2 = _
  unfold om_s2 om_r2
  cases hq : om_i2 with
  | none =>
    rw [hq] at h
    cases h
  | some q =>
    obtain ⟨a, b, c⟩ := q
    rw [hq] at h
    have hc : c = 105 := Option.some.inj h
    rw [hc]
theorem om_r2_all : ((List.range 105).all fun k => (List.range 24).all fun j => decide (om_r2 k j = om_rf k j)) = true := by decide +kernel
theorem om_r2_eq {k j : Nat} (hk : k < 105) (hj : j < 24) : om_r2 k j = om_rf k j := by
  have h := om_r2_all
  rw [List.all_eq_true] at h
  have h2 := h k (List.mem_range.mpr hk)
  rw [List.all_eq_true] at h2
  exact of_decide_eq_true (h2 j (List.mem_range.mpr hj))
theorem om_nf_le : ∀ k, k < 105 → om_kc k < 20 → om_nf (om_kc k) ≤ 24 := by decide +kernel
theorem om_al_le : ∀ k, k < 105 → (om_kc k = 21 ∨ om_kc k = 22) → om_al k ≤ 24 := by decide +kernel
theorem om_kc_or : ∀ k, k < 105 → om_kc k < 20 ∨ om_kc k = 20 ∨ om_kc k = 21 ∨ om_kc k = 22 := by decide +kernel
theorem om_ent_r2 {G : om_G} {σ : om_S} {k : Nat} (hk : k < 105) : om_ent G σ om_r2 k = om_ent G σ om_rf k := by
  rcases om_kc_or k hk with h | h | h | h
  · rw [om_ent_o rfl h, om_ent_o rfl h]
    congr 2
    unfold om_fs
    refine List.map_congr_left fun j hj => ?_
    rw [om_r2_eq hk (Nat.lt_of_lt_of_le (List.mem_range.mp hj) (om_nf_le k hk h))]
  · rw [om_ent_i h, om_ent_i h]
  · rw [om_ent_m h, om_ent_m h]
    congr 7
    unfold om_rs
    funext j
    by_cases hj : j < om_al k
    · rw [if_pos hj, if_pos hj, om_r2_eq hk (Nat.lt_of_lt_of_le hj (om_al_le k hk (Or.inl h)))]
    · rw [if_neg hj, if_neg hj]
  · rw [om_ent_s h, om_ent_s h]
    congr 7
    unfold om_rs
    funext j
    by_cases hj : j < om_al k
    · rw [if_pos hj, if_pos hj, om_r2_eq hk (Nat.lt_of_lt_of_le hj (om_al_le k hk (Or.inr h)))]
    · rw [if_neg hj, if_neg hj]
theorem om_ws_r2 {G : om_G} {σ : om_S} : om_ws G σ om_r2 105 = om_ws G σ om_rf 105 := by
  unfold om_ws
  refine List.map_congr_left fun k hk => ?_
  rw [om_ent_r2 (List.mem_range.mp hk)]
theorem om_toF {x : om_X} {pc : Nat} {lv : List (Nat × om_V)} {st : List om_V} {σ : om_S} {cells slots : Nat} (K : om_J x pc lv st σ om_rf om_N cells slots) : om_J x pc lv st σ om_r2 105 cells slots := by
  obtain ⟨G, p, l, e, R, s, m, args, below, meth, c, nL1, Z⟩ := x
  intro H locs ls hP hL hl
  refine K H locs ls ?_ hL hl
  unfold om_Rep at hP ⊢
  rw [om_ws_r2] at hP
  exact hP
