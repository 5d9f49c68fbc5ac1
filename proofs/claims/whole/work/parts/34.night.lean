theorem x_passNight {b : Nat} {V : Nat → Nat} {Z : Int32} {C0 C1 : List Int32} {sp : Int32} {σ : om_S} (hb : IsT b) (hV : WV V) (hC0 : WC C0) (hC1 : WC C1) (hX : XT b V Z C0 C1 σ) (h0 : Zero3 σ) :
    ∃ σ', f_X6_passNight b 58 sp σ = some (bI ((pickV V C0 C1 sp).isSome = true), σ') ∧ XT b (nightV V (pickV V C0 C1 sp)) Z C0 C1 σ' ∧ Zero3 σ' ∧ ∀ q, (q < b ∨ b + 19 ≤ q) → (q < 58 ∨ 62 ≤ q) → σ' q = σ q := by
  have hb19 : b + 19 ≤ 58 := by rcases hb with rfl | rfl | rfl <;> omega
  obtain ⟨σ1, q1, q2, q3, q4, q5⟩ := x_find (sp := sp) hb hV hC0 hC1 hX h0
  have hX1 : XT b V Z C0 C1 σ1 := hX.congr (fun k h1 h2 h3 h4 => q5 k (by unfold scrX; omega))
  unfold f_X6_passNight
  simp only [tk hb, kX, if_true, q1, call_s, bI_0]
  unfold f_X6_passNight_b38
  simp only [bI_or, if_true, let_s]
  cases ho : pickV V C0 C1 sp with
  | none =>
    rw [if_pos (by simp)]
    have hd := hX1.2.2.2.1
    have h2 := hV.2.2.2.1
    have e : (if σ1 b 6 + 1 < (9999 : Int32) then σ1 b 6 + 1 else (9999 : Int32)) = nI (if V 2 + 1 < 9999 then V 2 + 1 else 9999) := by
      rw [hd, nI_1, show (9999 : Int32) = nI 9999 from rfl]
      by_cases g : V 2 + 1 < 9999
      · rw [if_pos g, if_pos ((nI_ltI (by omega) (by omega)).mpr g)]
      · rw [if_neg g, if_neg (fun w => g ((nI_ltI (by omega) (by omega)).mp w))]
    rw [e]
    have hX2 := hX1.setN (f := 6) (v := if V 2 + 1 < 9999 then V 2 + 1 else 9999) (Or.inr (Or.inr (Or.inr rfl)))
    have hn := hX2.2.2.1
    rw [upV_o (show (1 : Nat) ≠ txS 6 by decide)] at hn
    rw [hn, nI_1]
    have hX3 := hX2.setN (f := 5) (v := V 1 + 1) (Or.inr (Or.inr (Or.inl rfl)))
    refine ⟨_, rfl, hX3, ⟨?_, ?_, ?_⟩, fun q h1 h2 => ?_⟩
    · rw [om_w_k (by omega), om_w_k (by omega)]
      exact q4.1
    · rw [om_w_k (by omega), om_w_k (by omega)]
      exact q4.2.1
    · rw [om_w_k (by omega), om_w_k (by omega)]
      exact q4.2.2
    · rw [om_w_off (by omega), om_w_off (by omega), q5 q (by unfold scrX; omega)]
  | some t =>
    rw [if_neg (by simp)]
    obtain ⟨hm, hel⟩ := pick_el hV ho
    rw [(x_foundSet hV q2 q3 ho).1]
    simp only [call_s]
    obtain ⟨σ2, r1, r2, r3⟩ := x_burn hb hV hm hel hX1
    rw [r1]
    simp only [do_s]
    have hn := r2.2.2.1
    rw [burnV_o (V 6) (fun j _ => by omega)] at hn
    rw [hn, nI_1]
    have hX3 := r2.setN (f := 5) (v := V 1 + 1) (Or.inr (Or.inr (Or.inl rfl)))
    refine ⟨_, rfl, hX3, ⟨?_, ?_, ?_⟩, fun q h1 h2 => ?_⟩
    · rw [om_w_k (by omega), r3 59 (by omega)]
      exact q4.1
    · rw [om_w_k (by omega), r3 60 (by omega)]
      exact q4.2.1
    · rw [om_w_k (by omega), r3 61 (by omega)]
      exact q4.2.2
    · rw [om_w_off (by omega), r3 q (by omega), q5 q (by unfold scrX; omega)]
