theorem held_99 {a : Nat} (h : a ≤ 200) : heldF 99 (nI a) = nI (if a < 99 then a else 99) := by
  unfold heldF
  rw [show (99 : Int32) = nI 99 from rfl, show (0 : Int32) = nI 0 from rfl, if_pos (nI_le (by omega) (by omega))]
  by_cases g : a ≤ 99
  · rw [if_pos (nI_le g (by omega))]
    split
    · rfl
    · rw [show a = 99 by omega]
  · rw [if_neg (nI_ge (by omega) (by omega)), if_neg (by omega)]
theorem m_day {V : Nat → Nat} {Z : Int32} {C0 C1 : List Int32} {σ : om_S} (hV : WV V) (hX : MT 91 V Z C0 C1 σ) :
    ∃ σ', f_X9_weathers 90 σ = some σ' ∧ MT 91 (dayV V Z) (dayZ V Z) C0 C1 σ' ∧ (∀ q, q ≠ 91 → σ' q = σ q) ∧ K91 σ σ' := by
  have h6 := hV.1
  have hz := hX.2.2.2.2.1
  have hc := hX.1
  have hX1 := (hX.setZ (z := zN Z)).setN (k := 0) (v := dN Z % 10) (by omega) (by omega)
  have hs1 : ∀ q, q ≠ 91 → (om_w (om_w σ 91 3 (zN Z)) 91 0 (nI (dN Z % 10))) q = σ q := fun q hq => by rw [om_w_off hq, om_w_off hq]
  have hk1 : K91 σ (om_w (om_w σ 91 3 (zN Z)) 91 0 (nI (dN Z % 10))) := (K91.refl.w (by decide) (by decide) (by decide)).w (by decide) (by decide) (by decide)
  have hz1 : (om_w (om_w σ 91 3 (zN Z)) 91 0 (nI (dN Z % 10))) 91 3 = zN Z := hX1.2.2.2.2.1
  have hc1 : (om_w (om_w σ 91 3 (zN Z)) 91 0 (nI (dN Z % 10))) 91 6 = nI (V 6) := by
    rw [om_w_j (by decide), om_w_j (by decide)]
    exact hc
  unfold f_X9_weathers
  simp only [kM, rM, aM, om_ref_s, if_true, m_draw, call_s, let_s, hz, rem_10, in0_387, cl0, in6_387, cl6]
  generalize om_w (om_w σ 91 3 (zN Z)) 91 0 (nI (dN Z % 10)) = σ1 at hX1 hs1 hz1 hc1 hk1 ⊢
  rw [hc1]
  by_cases g0 : V 6 = 0
  · have ev : dayV V Z = upV V 0 (dN Z % 10) := if_pos g0
    have ez : dayZ V Z = zN Z := if_pos g0
    rw [if_pos (by rw [g0]; decide), ev, ez]
    exact ⟨σ1, rfl, hX1, hs1, hk1⟩
  · rw [if_neg (nI_nle (by omega) (by omega))]
    simp only [hz1, rem_8]
    have d8 := z8 (dN (zN Z) % 8) (by omega)
    by_cases g8 : dN (zN Z) % 8 = 0
    · rw [if_pos (d8.mpr g8)]
      have hX2 := hX1.setZ (z := zN (zN Z))
      have hX3 := hX2.setZ (z := zN (zN (zN Z)))
      have hX4 := hX3.setZ (z := zN (zN (zN (zN Z))))
      have hc3 := hX3.1
      rw [upV_o (show (6 : Nat) ≠ 0 by decide)] at hc3
      have hd3 := dN_lt (zN (zN Z))
      have hj : dN (zN (zN Z)) % V 6 < V 6 := Nat.mod_lt _ (by omega)
      have h3 := hX3.2.2.2.2.2.1 (dN (zN (zN Z)) % V 6) 3 (by omega) (by omega)
      rw [upV_o (by omega)] at h3
      have hw := hV.2.2.2.2 (dN (zN (zN Z)) % V 6) (by omega)
      simp only [om_w_s, hc3]
      rw [if_pos (fun w => g0 ((z8 (V 6) (by omega)).mp w)), pk_rem (by omega) (by omega) (by omega), m_its3 (show dN (zN (zN Z)) % V 6 < 9 by omega)]
      have hlay : ∀ (v : Int32) (s : om_S), f_X9_lays1 90 (nI (dN (zN (zN Z)) % V 6)) 3 v s = some (om_w s 91 (8 + 5 * (dN (zN (zN Z)) % V 6) + 3) v) := fun v s => m_lays1 (f := 3) (by omega) (by omega)
      simp only [call_s, om_w_s, rem_5, h3, nI_add, m_held, do_s, hlay]
      rw [held_99 (by omega)]
      have ez : dayZ V Z = zN (zN (zN (zN Z))) := by
        unfold dayZ
        rw [if_neg g0, if_pos g8]
      have ev : dayV V Z = upV (upV V 0 (dN Z % 10)) (8 + 5 * (dN (zN (zN Z)) % V 6) + 3) (if V (8 + 5 * (dN (zN (zN Z)) % V 6) + 3) + dN (zN (zN (zN Z))) % 5 < 99 then V (8 + 5 * (dN (zN (zN Z)) % V 6) + 3) + dN (zN (zN (zN Z))) % 5 else 99) := by
        unfold dayV
        rw [if_neg g0, if_pos g8]
      rw [ez, ev]
      refine ⟨_, rfl, hX4.setM (by omega) (by omega), fun q hq => ?_, (((hk1.w (by decide) (by decide) (by decide)).w (by decide) (by decide) (by decide)).w (by decide) (by decide) (by decide)).w (by omega) (by omega) (by omega)⟩
      rw [om_w_off hq, om_w_off hq, om_w_off hq, om_w_off hq, hs1 q hq]
    · rw [if_neg (fun w => g8 (d8.mp w))]
      have ez : dayZ V Z = zN (zN Z) := by
        unfold dayZ
        rw [if_neg g0, if_neg g8]
      have ev : dayV V Z = upV V 0 (dN Z % 10) := by
        unfold dayV
        rw [if_neg g0, if_neg g8]
      rw [ez, ev]
      exact ⟨_, rfl, hX1.setZ, fun q hq => by rw [om_w_off hq, hs1 q hq], hk1.w (by decide) (by decide) (by decide)⟩
