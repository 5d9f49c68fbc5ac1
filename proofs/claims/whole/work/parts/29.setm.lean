/-! ===== the choice of a set: the model's loops ===== -/
def ArM (W : List Tri) (m : Nat) (σ : om_S) : Prop := ∀ j, j < m → σ 98 j = (W.getD j (0, 0, 0)).2.1 ∧ σ 99 j = (W.getD j (0, 0, 0)).2.2
theorem ArM.congr {W : List Tri} {m : Nat} {σ σ' : om_S} (h : ArM W m σ) (e1 : σ' 98 = σ 98) (e2 : σ' 99 = σ 99) : ArM W m σ' := fun j hj => by
  rw [e1, e2]
  exact h j hj
theorem bit_all : ∀ m, m < 512 → ∀ i, i < 9 → ((((nI m >>> (nI i &&& 31)) &&& 1) = (1 : Int32)) ↔ m.testBit i = true) := by decide +kernel
theorem p9 {i : Nat} (h : i ≤ 9) : 2 ^ i ≤ 512 := Nat.pow_le_pow_right (n := 2) (by decide) h
theorem p8 {i : Nat} (h : i < 9) : 2 ^ i ≤ 256 := Nat.pow_le_pow_right (n := 2) (by decide) (show i ≤ 8 by omega)
theorem m_fillLoop {V : Nat → Nat} {Z : Int32} {C0 C1 : List Int32} {lp : Nat → Int32 → Int32 → Int32 → om_S → Option (Int32 × om_S)} {v1 v2 g d : Int32} {i : Nat} {L : List Tri} (hi : i < 9) (hL : L.length = 2 ^ i) (hd : nI (V (8 + 5 * i + 4)) = d) :
    ∀ (n s F : Nat) (σ : om_S), s + n = 2 ^ i → n < F → MT 91 V Z C0 C1 σ → ArM (L ++ L.map (tAdd (2 ^ i) g d)) (2 ^ i + s) σ →
    ∃ σ', f_X9_tonightSet_b95 lp F 90 v1 v2 (nI i) g (nI s) σ = lp 90 v1 v2 (nI (i + 1)) σ' ∧ MT 91 V Z C0 C1 σ' ∧ ArM (L ++ L.map (tAdd (2 ^ i) g d)) (2 ^ (i + 1)) σ' ∧ ∀ q, q ≠ 98 → q ≠ 99 → σ' q = σ q := by
  have hp8 := p8 hi
  have hp1 : 2 ^ (i + 1) = 2 ^ i * 2 := Nat.pow_succ _ _
  have a512 : om_al 98 = 512 ∧ om_al 99 = 512 := by decide
  intro n
  induction n with
  | zero =>
    intro s F σ hs hF hX hA
    obtain ⟨F, rfl⟩ : ∃ G, F = G + 1 := ⟨F - 1, by omega⟩
    refine ⟨σ, ?_, hX, ?_, fun _ _ _ => rfl⟩
    · unfold f_X9_tonightSet_b95
      rw [shl_all i (by omega), if_pos (nI_le (by omega) (by omega)), nI_1]
    · rw [show 2 ^ (i + 1) = 2 ^ i + s by omega]
      exact hA
  | succ n ih =>
    intro s F σ hs hF hX hA
    obtain ⟨F, rfl⟩ : ∃ G, F = G + 1 := ⟨F - 1, by omega⟩
    have c1 : (nI s).toNatClampNeg = s := nI_clamp (by omega)
    have c2 : (nI (s + 2 ^ i)).toNatClampNeg = s + 2 ^ i := nI_clamp (by omega)
    have g1 : om_in (nI s) 512 = True := in_512 (by omega)
    have g2 : om_in (nI (s + 2 ^ i)) 512 = True := in_512 (by omega)
    have hs0 := hA s (by omega)
    rw [getD_l (by omega)] at hs0
    unfold f_X9_tonightSet_b95
    rw [shl_all i (by omega), if_neg (nI_ge (by omega) (by omega))]
    simp only [kM, rM, aM, a512.1, a512.2, om_ref_s, if_true, let_s, nI_add, c1, c2, g1, g2, m_its4 hi, call_s, om_w_k (show (91 : Nat) ≠ 98 by decide), om_w_k (show (99 : Nat) ≠ 98 by decide), hs0.1, hs0.2, nI_1, hX.2.2.2.2.2.1 i 4 hi (by omega), hd]
    obtain ⟨σ', q1, q2, q3, q4⟩ := ih (s + 1) F (om_w (om_w σ 98 (s + 2 ^ i) ((L.getD s (0, 0, 0)).2.1 + g)) 99 (s + 2 ^ i) ((L.getD s (0, 0, 0)).2.2 + d)) (by omega) (by omega) (hX.congr (by rw [om_w_off (by decide), om_w_off (by decide)])) (by
      intro j hj
      rw [om_w_k (show (98 : Nat) ≠ 99 by decide)]
      by_cases e : j = s + 2 ^ i
      · subst e
        rw [show s + 2 ^ i = L.length + s by omega, getD_r (by omega), om_w_s, om_w_s]
        exact ⟨rfl, rfl⟩
      · rw [om_w_j e, om_w_j e, om_w_k (by decide)]
        exact hA j (by omega))
    exact ⟨σ', q1, q2, q3, fun q h1 h2 => by rw [q4 q h1 h2, om_w_off h2, om_w_off h1]⟩
