def triI (o : Option Tri) : Int32 := match o with
  | none => -1
  | some t => nI t.1
theorem and_sub : ∀ m, m < 512 → ∀ s, s < 512 → ((nI s &&& (nI m ^^^ (-1 : Int32))) = 0 ↔ sB m s = true) := by
  intro m hm s hs
  rw [sB_iff, Int32.xor_neg_one]
  have hms : ∀ x, x < 512 → (nI x).toBitVec = BitVec.ofNat 32 x := fun x _ => rfl
  rw [← Int32.toBitVec_inj, Int32.toBitVec_and, Int32.toBitVec_not, hms s hs, hms m hm]
  constructor
  · intro h j hj
    have hj32 : j < 32 := by
      apply Classical.byContradiction
      intro q
      have : 2 ^ 32 ≤ 2 ^ j := Nat.pow_le_pow_right (by decide) (by omega)
      rw [Nat.testBit_lt_two_pow (show s < 2 ^ j by omega)] at hj
      cases hj
    have := congrArg (fun v : BitVec 32 => v.getLsbD j) h
    simp only [BitVec.getLsbD_and, BitVec.getLsbD_not, BitVec.getLsbD_ofNat, hj, hj32] at this
    simpa using this
  · intro h
    apply BitVec.eq_of_getLsbD_eq
    intro j hj
    simp only [BitVec.getLsbD_and, BitVec.getLsbD_not, BitVec.getLsbD_ofNat, hj]
    have := h j
    cases e1 : s.testBit j <;> cases e2 : m.testBit j <;> simp_all
theorem m_bestLoop {V : Nat → Nat} {m n : Nat} {want : Int32} {L : List Tri} (hn : n ≤ 9) (hm : m < 2 ^ n) (hL : L.length = 2 ^ n) (hix : ∀ s, s < 2 ^ n → (L.getD s (0, 0, 0)).1 = s) {σ : om_S} (h6 : σ 91 6 = nI n) (hA : ArM L (2 ^ n) σ) :
    ∀ (rest : List Tri) (s F : Nat) (b : Option Tri), L.drop s = rest → s ≤ 2 ^ n → rest.length < F → (∀ t, b = some t → t.1 < 2 ^ n ∧ σ 98 t.1 = t.2.1 ∧ σ 99 t.1 = t.2.2) →
    f_X9_tonightSet_b166 F 90 (nI m) want (triI b) (nI s) σ = some (triI (pk want (rest.filter (fun t => sB m t.1)) b), σ) ∧ (∀ t, pk want (rest.filter (fun t => sB m t.1)) b = some t → t.1 < 2 ^ n ∧ σ 98 t.1 = t.2.1 ∧ σ 99 t.1 = t.2.2) := by
  have hp := p9 hn
  have a512 : om_al 98 = 512 ∧ om_al 99 = 512 := by decide
  intro rest
  induction rest with
  | nil =>
    intro s F b hd hs hF hb
    obtain ⟨F, rfl⟩ : ∃ G, F = G + 1 := ⟨F - 1, by omega⟩
    have hil : 2 ^ n ≤ s := by
      have := congrArg List.length hd
      simp at this
      omega
    refine ⟨?_, hb⟩
    unfold f_X9_tonightSet_b166
    simp only [kM, rM, aM, om_ref_s, if_true, in6_387, cl6, h6]
    rw [shl_all n (by omega), if_pos (nI_le hil (by omega))]
    rfl
  | cons t rest ih =>
    intro s F b hd hs hF hb
    obtain ⟨F, rfl⟩ : ∃ G, F = G + 1 := ⟨F - 1, by omega⟩
    have hil : s < 2 ^ n := by
      have := congrArg List.length hd
      simp at this
      omega
    have hdi : L.getD s (0, 0, 0) = t := by
      have h2 : L[s]? = some t := by
        have := congrArg (fun l : List Tri => l[0]?) hd
        simpa using this
      rw [List.getD_eq_getElem?_getD, h2]
      rfl
    have hd' : L.drop (s + 1) = rest := by
      rw [← List.drop_drop, hd]
      rfl
    have hx := hA s hil
    have ht1 := hix s hil
    rw [hdi] at hx ht1
    simp only [List.length_cons] at hF
    have c1 : (nI s).toNatClampNeg = s := nI_clamp (by omega)
    have g1 : om_in (nI s) 512 = True := in_512 (by omega)
    have hskip := ih (s + 1) F b hd' (by omega) (by omega) hb
    have htake := ih (s + 1) F (some t) hd' (by omega) (by omega) (fun u hu => by
      cases hu
      rw [ht1]
      exact ⟨hil, hx⟩)
    have e3 : triI (some t) = nI s := by
      show nI t.1 = nI s
      rw [ht1]
    rw [e3] at htake
    unfold f_X9_tonightSet_b166
    simp only [kM, rM, aM, om_ref_s, if_true, in6_387, cl6, h6, a512.1, g1, c1, hx.1]
    rw [shl_all n (by omega), if_neg (nI_ge hil (by omega))]
    unfold f_X9_tonightSet_b204 f_X9_tonightSet_b205 f_X9_tonightSet_b238 f_X9_tonightSet_b233 f_X9_tonightSet_b239
    simp only [nI_1, kM, rM, aM, om_ref_s, if_true, a512.2, g1, c1, hx.2]
    by_cases q : sB m s = true
    · rw [if_pos ((and_sub m (by omega) s (by omega)).mpr q)]
      have ef : List.filter (fun t : Tri => sB m t.1) (t :: rest) = t :: List.filter (fun t : Tri => sB m t.1) rest := List.filter_cons_of_pos (by rw [ht1]; exact q)
      rw [ef]
      by_cases g : t.2.1 < want
      · rw [if_pos g]
        have e : pk want (t :: List.filter (fun t : Tri => sB m t.1) rest) b = pk want (List.filter (fun t : Tri => sB m t.1) rest) b := if_pos g
        rw [e]
        exact hskip
      · rw [if_neg g, if_neg (show ¬ (1 : Int32) = 0 by decide)]
        cases b with
        | none =>
          have e : pk want (t :: List.filter (fun t : Tri => sB m t.1) rest) none = pk want (List.filter (fun t : Tri => sB m t.1) rest) (some t) := if_neg g
          rw [e, if_pos (show triI none = -1 from rfl)]
          exact htake
        | some u =>
          obtain ⟨hu1, hu2, hu3⟩ := hb u rfl
          have cu : (nI u.1).toNatClampNeg = u.1 := nI_clamp (by omega)
          have gu : om_in (nI u.1) 512 = True := in_512 (by omega)
          have e : pk want (t :: List.filter (fun t : Tri => sB m t.1) rest) (some u) = if u.2.2 ≤ t.2.2 then pk want (List.filter (fun t : Tri => sB m t.1) rest) (some u) else pk want (List.filter (fun t : Tri => sB m t.1) rest) (some t) := if_neg g
          have hu0 : triI (some u) = nI u.1 := rfl
          rw [hu0] at hskip
          rw [e, hu0, if_neg (nI_nm1 (by omega)), if_pos (of_eq_true gu), cu, hu3]
          by_cases g2 : u.2.2 ≤ t.2.2
          · rw [if_pos g2, if_pos g2]
            exact hskip
          · rw [if_neg g2, if_neg g2]
            exact htake
    · rw [if_neg (fun w => q ((and_sub m (by omega) s (by omega)).mp w))]
      have ef : List.filter (fun t : Tri => sB m t.1) (t :: rest) = List.filter (fun t : Tri => sB m t.1) rest := List.filter_cons_of_neg (by rw [ht1]; exact q)
      rw [ef]
      exact hskip
