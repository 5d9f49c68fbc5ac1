def dayV (V : Nat → Nat) (Z : Int32) : Nat → Nat :=
  let V1 := upV V 0 (dN Z % 10)
  if V 6 = 0 then V1
  else if dN (zN Z) % 8 = 0 then
    let i := dN (zN (zN Z)) % V 6
    upV V1 (8 + 5 * i + 3) (if V (8 + 5 * i + 3) + dN (zN (zN (zN Z))) % 5 < 99 then V (8 + 5 * i + 3) + dN (zN (zN (zN Z))) % 5 else 99)
  else V1
def dayZ (V : Nat → Nat) (Z : Int32) : Int32 :=
  if V 6 = 0 then zN Z else if dN (zN Z) % 8 = 0 then zN (zN (zN (zN Z))) else zN (zN Z)
theorem rem_10 (z : Int32) : nI (dN z) - nI (dN z) / 10 * 10 = nI (dN z % 10) := pk_rem (a := dN z) (d := 10) (by have := dN_lt z; omega) (by omega) (by omega)
theorem rem_8 (z : Int32) : nI (dN z) - nI (dN z) / 8 * 8 = nI (dN z % 8) := pk_rem (a := dN z) (d := 8) (by have := dN_lt z; omega) (by omega) (by omega)
theorem rem_5 (z : Int32) : nI (dN z) - nI (dN z) / 5 * 5 = nI (dN z % 5) := pk_rem (a := dN z) (d := 5) (by have := dN_lt z; omega) (by omega) (by omega)
theorem z8 (a : Nat) (h : a < 2 ^ 31) : (nI a = (0 : Int32)) ↔ a = 0 := nI_eq (b := 0) h (by omega)
theorem x_day {b : Nat} {V : Nat → Nat} {Z : Int32} {C0 C1 : List Int32} {σ : om_S} (hb : IsT b) (hV : WV V) (hX : XT b V Z C0 C1 σ) :
    ∃ σ', f_X6_drawTheDay b σ = some σ' ∧ XT b (dayV V Z) (dayZ V Z) C0 C1 σ' ∧ ∀ q, (q < b ∨ b + 19 ≤ q) → σ' q = σ q := by
  have h6 := hV.1
  have hz := hX.2.2.2.2.1
  have hc := hX.1
  have hX1 := (hX.setZ (z := zN Z)).setN (f := 4) (v := dN Z % 10) (Or.inr (Or.inl rfl))
  have hs1 : ∀ q, (q < b ∨ b + 19 ≤ q) → (om_w (om_w σ b 7 (zN Z)) b 4 (nI (dN Z % 10))) q = σ q := fun q hq => by rw [om_w_off (by omega), om_w_off (by omega)]
  have hz1 : (om_w (om_w σ b 7 (zN Z)) b 4 (nI (dN Z % 10))) b 7 = zN Z := hX1.2.2.2.2.1
  have hc1 : (om_w (om_w σ b 7 (zN Z)) b 4 (nI (dN Z % 10))) b 3 = nI (V 6) := by
    rw [om_w_j (by decide), om_w_j (by decide)]
    exact hc
  unfold f_X6_drawTheDay
  simp only [tk hb, if_true, x_draw hb, call_s, let_s, hz, rem_10]
  generalize om_w (om_w σ b 7 (zN Z)) b 4 (nI (dN Z % 10)) = σ1 at hX1 hs1 hz1 hc1 ⊢
  have hX1' : XT b (upV V 0 (dN Z % 10)) (zN Z) C0 C1 σ1 := hX1
  rw [hc1]
  by_cases g0 : V 6 = 0
  · have ev : dayV V Z = upV V 0 (dN Z % 10) := if_pos g0
    have ez : dayZ V Z = zN Z := if_pos g0
    rw [if_pos (by rw [g0]; decide), ev, ez]
    exact ⟨σ1, rfl, hX1', hs1⟩
  · rw [if_neg (nI_nle (by omega) (by omega))]
    simp only [hz1, rem_8]
    have d8 := z8 (dN (zN Z) % 8) (by omega)
    by_cases g8 : dN (zN Z) % 8 = 0
    · rw [if_pos (d8.mpr g8)]
      have hc2 : om_w σ1 b 7 (zN (zN Z)) b 3 = nI (V 6) := by
        rw [om_w_j (by decide)]
        exact hc1
      have hX2 := hX1'.setZ (z := zN (zN Z))
      have hX3 := hX2.setZ (z := zN (zN (zN Z)))
      have hX4 := hX3.setZ (z := zN (zN (zN (zN Z))))
      have hc3 := hX3.1
      rw [upV_o (show (6 : Nat) ≠ 0 by decide)] at hc3
      have hd3 := dN_lt (zN (zN Z))
      have hj : dN (zN (zN Z)) % V 6 < V 6 := Nat.mod_lt _ (by omega)
      have hmm := tm hb (show dN (zN (zN Z)) % V 6 < 9 by omega)
      have h3 := hX4.2.2.2.2.2.1 (dN (zN (zN Z)) % V 6) 3 (by omega) (by omega)
      rw [upV_o (by omega)] at h3
      have hw := hV.2.2.2.2 (dN (zN (zN Z)) % V 6) (by omega)
      simp only [om_w_s, hc3]
      rw [if_pos (fun w => g0 ((z8 (V 6) (by omega)).mp w)), pk_rem (by omega) (by omega) (by omega), x_atI hb hc3 hj h6]
      simp only [call_s, om_w_s, rem_5, om_nul_s, hmm.2, if_true, h3, nI_add]
      have e : ∀ a : Nat, a ≤ 200 → (if nI a < (99 : Int32) then nI a else (99 : Int32)) = nI (if a < 99 then a else 99) := by
        intro a ha
        rw [show (99 : Int32) = nI 99 from rfl]
        by_cases g : a < 99
        · rw [if_pos g, if_pos ((nI_ltI (by omega) (by omega)).mpr g)]
        · rw [if_neg g, if_neg (fun w => g ((nI_ltI (by omega) (by omega)).mp w))]
      rw [e _ (by omega)]
      have ez : dayZ V Z = zN (zN (zN (zN Z))) := by
        unfold dayZ
        rw [if_neg g0, if_pos g8]
      have ev : dayV V Z = upV (upV V 0 (dN Z % 10)) (8 + 5 * (dN (zN (zN Z)) % V 6) + 3) (if V (8 + 5 * (dN (zN (zN Z)) % V 6) + 3) + dN (zN (zN (zN Z))) % 5 < 99 then V (8 + 5 * (dN (zN (zN Z)) % V 6) + 3) + dN (zN (zN (zN Z))) % 5 else 99) := by
        unfold dayV
        rw [if_neg g0, if_pos g8]
      rw [ez, ev]
      refine ⟨_, rfl, hX4.setM (by omega) (by omega), fun q hq => ?_⟩
      rw [om_w_off (by omega), om_w_off (by omega), om_w_off (by omega), om_w_off (by omega), hs1 q hq]
    · rw [if_neg (fun w => g8 (d8.mp w))]
      have ez : dayZ V Z = zN (zN Z) := by
        unfold dayZ
        rw [if_neg g0, if_neg g8]
      have ev : dayV V Z = upV V 0 (dN Z % 10) := by
        unfold dayV
        rw [if_neg g0, if_neg g8]
      rw [ez, ev]
      exact ⟨_, rfl, hX1'.setZ, fun q hq => by rw [om_w_off (by omega), hs1 q hq]⟩
