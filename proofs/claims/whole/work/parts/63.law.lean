/-! ===== the law ===== -/
theorem law_go {fx fm K : om_S → Option (Int32 × om_S)} {σ : om_S} (h : Sim fx fm) (hi : Inv σ) (hK : ∀ s, Inv s → ∃ τ, K s = some (1, τ)) : ∃ τ, (om_call (fx σ) fun r1 s1 => om_call (fm s1) fun r2 s2 => if r1 = r2 then K s2 else some (0, s2)) = some (1, τ) := by
  obtain ⟨r, σ1, σ2, a1, a2, a3⟩ := h σ hi
  obtain ⟨τ, hτ⟩ := hK σ2 a3
  exact ⟨τ, by rw [a1, call_s, a2, call_s, if_pos rfl, hτ]⟩
theorem om_lawLoop (L : Nat) (xs : Nat → Int32) (hL : L ≤ 3072) : ∀ (n i F : Nat) (σ : om_S), L ≤ i + 6 * n → i ≤ 4000 → n < F → Inv σ → ∃ τ, f_L_law_b18 L xs F 0 90 (nI i) σ = some (1, τ) := by
  have eL : (Int32.ofNat L - 6).toInt = (L : Int) - 6 := pk_sub_toInt (a := L) (b := 6) (by omega) (by omega)
  intro n
  induction n with
  | zero =>
    intro i F σ hi hi2 hF hI
    obtain ⟨F, rfl⟩ : ∃ G, F = G + 1 := ⟨F - 1, by omega⟩
    refine ⟨σ, ?_⟩
    rw [f_L_law_b18]
    rw [if_pos (by rw [ltI, eL, nI_toInt (by omega)]; omega)]
  | succ n ih =>
    intro i F σ hi hi2 hF hI
    obtain ⟨F, rfl⟩ : ∃ G, F = G + 1 := ⟨F - 1, by omega⟩
    rw [f_L_law_b18]
    by_cases hend : L < i + 6
    · refine ⟨σ, ?_⟩
      rw [if_pos (by rw [ltI, eL, nI_toInt (by omega)]; omega)]
    · rw [if_neg (by rw [ltI, eL, nI_toInt (by omega)]; omega)]
      have i0 : om_in (nI i) L = True := eq_true (in_nI (by omega) (by omega))
      have i1 : om_in (nI i + 1) L = True := eq_true (by rw [nI_1]; exact in_nI (by omega) (by omega))
      have i2 : om_in (nI i + 2) L = True := eq_true (by rw [show nI i + 2 = nI (i + 2) from nI_add i 2]; exact in_nI (by omega) (by omega))
      have i3 : om_in (nI i + 3) L = True := eq_true (by rw [show nI i + 3 = nI (i + 3) from nI_add i 3]; exact in_nI (by omega) (by omega))
      have i4 : om_in (nI i + 4) L = True := eq_true (by rw [show nI i + 4 = nI (i + 4) from nI_add i 4]; exact in_nI (by omega) (by omega))
      have i5 : om_in (nI i + 5) L = True := eq_true (by rw [show nI i + 5 = nI (i + 5) from nI_add i 5]; exact in_nI (by omega) (by omega))
      have hK : ∀ s, Inv s → ∃ τ, f_L_law_b1287 L xs (f_L_law_b18 L xs F) 0 90 (nI i) s = some (1, τ) := by
        intro s hs
        unfold f_L_law_b1287
        rw [show nI i + 6 = nI (i + 6) from nI_add i 6]
        exact ih (i + 6) F s (by omega) (by omega) (by omega) hs
      simp only [i0, i1, i2, i3, i4, i5, if_true]
      generalize (xs (nI i).toNatClampNeg &&& 63) = sc
      by_cases c0o : sc = 0
      · rw [if_pos c0o]
        exact law_go (op_memory _ _ _) hI hK
      rw [if_neg c0o]
      by_cases c1o : sc = 1
      · rw [if_pos c1o]
        exact law_go (op_memoryIs _ _) hI hK
      rw [if_neg c1o]
      by_cases c2o : sc = 2
      · rw [if_pos c2o]
        exact law_go (op_become _ _) hI hK
      rw [if_neg c2o]
      by_cases c3o : sc = 3
      · rw [if_pos c3o]
        exact law_go (op_as _ _) hI hK
      rw [if_neg c3o]
      by_cases c4o : sc = 4
      · rw [if_pos c4o]
        exact law_go (op_fills _ _) hI hK
      rw [if_neg c4o]
      by_cases c5o : sc = 5
      · rw [if_pos c5o]
        exact law_go (op_dear _ _) hI hK
      rw [if_neg c5o]
      by_cases c6o : sc = 6
      · rw [if_pos c6o]
        exact law_go (op_trim _ _) hI hK
      rw [if_neg c6o]
      by_cases c7o : sc = 7
      · rw [if_pos c7o]
        exact law_go (op_tells _ _) hI hK
      rw [if_neg c7o]
      by_cases c8o : sc = 8
      · rw [if_pos c8o]
        exact law_go (op_blows _) hI hK
      rw [if_neg c8o]
      by_cases c9o : sc = 9
      · rw [if_pos c9o]
        exact law_go (op_feed _ _) hI hK
      rw [if_neg c9o]
      by_cases c10o : sc = 10
      · rw [if_pos c10o]
        exact law_go (op_text _) hI hK
      rw [if_neg c10o]
      by_cases c11o : sc = 11
      · rw [if_pos c11o]
        exact law_go (op_untell _) hI hK
      rw [if_neg c11o]
      by_cases c12o : sc = 12
      · rw [if_pos c12o]
        exact law_go (op_law _ _ _ _) hI hK
      rw [if_neg c12o]
      by_cases c13o : sc = 13
      · rw [if_pos c13o]
        exact law_go (op_nights _) hI hK
      rw [if_neg c13o]
      by_cases c14o : sc = 14
      · rw [if_pos c14o]
        exact law_go (op_loose _) hI hK
      rw [if_neg c14o]
      by_cases c15o : sc = 15
      · rw [if_pos c15o]
        exact law_go (op_seed _) hI hK
      rw [if_neg c15o]
      by_cases c16o : sc = 16
      · rw [if_pos c16o]
        exact law_go (op_tonight _) hI hK
      rw [if_neg c16o]
      by_cases c17o : sc = 17
      · rw [if_pos c17o]
        exact law_go op_lasts hI hK
      rw [if_neg c17o]
      by_cases c18o : sc = 18
      · rw [if_pos c18o]
        exact law_go (op_without _) hI hK
      rw [if_neg c18o]
      by_cases c19o : sc = 19
      · rw [if_pos c19o]
        exact law_go (op_then _ _) hI hK
      rw [if_neg c19o]
      by_cases c20o : sc = 20
      · rw [if_pos c20o]
        exact law_go (op_has _) hI hK
      rw [if_neg c20o]
      by_cases c21o : sc = 21
      · rw [if_pos c21o]
        exact law_go (op_mixes _ _) hI hK
      rw [if_neg c21o]
      by_cases c22o : sc = 22
      · rw [if_pos c22o]
        exact law_go (op_odds _) hI hK
      rw [if_neg c22o]
      by_cases c23o : sc = 23
      · rw [if_pos c23o]
        exact law_go (op_fits _) hI hK
      rw [if_neg c23o]
      by_cases c24o : sc = 24
      · rw [if_pos c24o]
        exact law_go (op_voice _ _ _) hI hK
      rw [if_neg c24o]
      by_cases c25o : sc = 25
      · rw [if_pos c25o]
        exact law_go (op_body _) hI hK
      rw [if_neg c25o]
      by_cases c26o : sc = 26
      · rw [if_pos c26o]
        exact law_go (op_sheet _ _ _) hI hK
      rw [if_neg c26o]
      by_cases c27o : sc = 27
      · rw [if_pos c27o]
        exact law_go (op_put _ _ _) hI hK
      rw [if_neg c27o]
      by_cases c28o : sc = 28
      · rw [if_pos c28o]
        exact law_go (op_move _ _ _ _ _) hI hK
      rw [if_neg c28o]
      by_cases c29o : sc = 29
      · rw [if_pos c29o]
        exact law_go (op_dears _) hI hK
      rw [if_neg c29o]
      by_cases c30o : sc = 30
      · rw [if_pos c30o]
        exact law_go (op_judge _) hI hK
      rw [if_neg c30o]
      by_cases c31o : sc = 31
      · rw [if_pos c31o]
        exact law_go op_image hI hK
      rw [if_neg c31o]
      by_cases c32o : sc = 32
      · rw [if_pos c32o]
        exact law_go op_restore hI hK
      rw [if_neg c32o]
      by_cases c33o : sc = 33
      · rw [if_pos c33o]
        exact law_go (op_tell _) hI hK
      rw [if_neg c33o]
      by_cases c34o : sc = 34
      · rw [if_pos c34o]
        exact law_go op_check hI hK
      rw [if_neg c34o]
      by_cases c35o : sc = 35
      · rw [if_pos c35o]
        exact law_go (op_count _) hI hK
      rw [if_neg c35o]
      by_cases c36o : sc = 36
      · rw [if_pos c36o]
        exact law_go (op_told _) hI hK
      rw [if_neg c36o]
      exact hK σ hI
theorem om_pure (L : Nat) (xs : Nat → Int32) (hL : L ≤ 3072) : ∃ τ : om_S, f_L_law_b18 L xs om_F 0 90 0 om_s2 = some (1, τ) :=
  om_lawLoop L xs hL 600 0 om_F om_s2 (by omega) (by omega) (lt_F (by omega)) inv_start
