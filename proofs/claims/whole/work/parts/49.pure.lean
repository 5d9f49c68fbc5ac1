theorem om_pure (L : Nat) (xs : Nat → Int32) (hL : L ≤ 3072) : ∃ τ : om_S, f_L_law_b18 L xs om_F 0 90 0 om_s2 = some (1, τ) := sorry
