theorem upV_same {V : Nat → Nat} {k : Nat} : upV V k (V k) = V := by
  funext j
  unfold upV
  split
  · rename_i h
    rw [h]
  · rfl
def K91 (σ σ' : om_S) : Prop := ∀ j, (j = 4 ∨ j = 5 ∨ 53 ≤ j) → σ' 91 j = σ 91 j
theorem K91.refl {σ : om_S} : K91 σ σ := fun _ _ => rfl
theorem K91.trans {σ σ1 σ2 : om_S} (h : K91 σ σ1) (h2 : K91 σ1 σ2) : K91 σ σ2 := fun j hj => by rw [h2 j hj, h j hj]
theorem K91.w {σ σ' : om_S} {k : Nat} {v : Int32} (h : K91 σ σ') (hk : k < 53) (h4 : k ≠ 4) (h5 : k ≠ 5) : K91 σ (om_w σ' 91 k v) := fun j hj => by
  rw [om_w_j (by omega)]
  exact h j hj
theorem K91.o {σ σ' : om_S} (e : σ' 91 = σ 91) : K91 σ σ' := fun j _ => by rw [e]
theorem m_burnLoop {m : Nat} {V : Nat → Nat} {Z : Int32} {C0 C1 : List Int32} (hV : WV V) (hm : m < 512) (hel : ∀ i, i < V 6 → m.testBit i = true → V (8 + 5 * i + 3) ≠ 0) :
    ∀ (n i F : Nat) (σ : om_S), i + n = V 6 → n < F → MT 91 (burnV V m i) Z C0 C1 σ →
    ∃ σ', f_X9_aNight_b7 F 90 (nI m) (nI i) σ = f_X9_aNight_b47 90 (nI m) σ' ∧ MT 91 (burnV V m (V 6)) Z C0 C1 σ' ∧ (∀ q, q ≠ 91 → σ' q = σ q) ∧ K91 σ σ' := by
  have h6 := hV.1
  intro n
  induction n with
  | zero =>
    intro i F σ hi hF hX
    obtain ⟨F, rfl⟩ : ∃ G, F = G + 1 := ⟨F - 1, by omega⟩
    have hi' : i = V 6 := by omega
    subst hi'
    have hc := hX.1
    rw [burnV_o (V 6) (fun j _ => by omega)] at hc
    refine ⟨σ, ?_, hX, fun _ _ => rfl, K91.refl⟩
    unfold f_X9_aNight_b7
    simp only [kM, rM, aM, om_ref_s, if_true, in6_387, cl6, hc]
    rw [if_pos (nI_le (Nat.le_refl _) (by omega))]
  | succ n ih =>
    intro i F σ hi hF hX
    obtain ⟨F, rfl⟩ : ∃ G, F = G + 1 := ⟨F - 1, by omega⟩
    have hc := hX.1
    rw [burnV_o i (fun j _ => by omega)] at hc
    have h3 := hX.2.2.2.2.2.1 i 3 (by omega) (by omega)
    rw [burnV_o i (fun j hj => by omega)] at h3
    have e : burnV V m (i + 1) = if m.testBit i = true then upV (burnV V m i) (8 + 5 * i + 3) (V (8 + 5 * i + 3) - 1) else burnV V m i := rfl
    have hlay : ∀ v : Int32, f_X9_lays1 90 (nI i) 3 v σ = some (om_w σ 91 (8 + 5 * i + 3) v) := fun v => m_lays1 (f := 3) (by omega) (by omega)
    unfold f_X9_aNight_b7
    simp only [kM, rM, aM, om_ref_s, if_true, in6_387, cl6, hc]
    rw [if_neg (nI_ge (by omega) (by omega)), if_neg (nI_nm1 (by omega)), m_its3 (show i < 9 by omega)]
    simp only [call_s, h3, bitv_all m hm i (by omega), hlay, do_s, nI_1]
    by_cases g : m.testBit i = true
    · rw [if_pos g] at e
      have hne := hel i (by omega) g
      obtain ⟨v, hv⟩ : ∃ v, V (8 + 5 * i + 3) = v + 1 := ⟨V (8 + 5 * i + 3) - 1, by omega⟩
      rw [g, hv, show nI (Bool.toNat true) = 1 from rfl, nI_pred]
      have hX1 := hX.setM (i := i) (f := 3) (v := v) (by omega) (by omega)
      rw [hv, Nat.add_sub_cancel] at e
      rw [← e] at hX1
      obtain ⟨σ', q1, q2, q3, q4⟩ := ih (i + 1) F _ (by omega) (by omega) hX1
      exact ⟨σ', q1, q2, fun q hq => by rw [q3 q hq, om_w_off hq], (K91.refl.w (by omega) (by omega) (by omega)).trans q4⟩
    · rw [if_neg g] at e
      rw [Bool.eq_false_iff.mpr g, show nI (Bool.toNat false) = 0 from rfl, Int32.sub_zero]
      have hX1 := hX.setM (i := i) (f := 3) (v := V (8 + 5 * i + 3)) (by omega) (by omega)
      rw [show V (8 + 5 * i + 3) = burnV V m i (8 + 5 * i + 3) from (burnV_o i (fun j hj => by omega)).symm, upV_same] at hX1
      rw [show V (8 + 5 * i + 3) = burnV V m i (8 + 5 * i + 3) from (burnV_o i (fun j hj => by omega)).symm]
      obtain ⟨σ', q1, q2, q3, q4⟩ := ih (i + 1) F _ (by omega) (by omega) (by rw [e]; exact hX1)
      exact ⟨σ', q1, q2, fun q hq => by rw [q3 q hq, om_w_off hq], (K91.refl.w (by omega) (by omega) (by omega)).trans q4⟩
theorem held_9999 {v : Nat} (h : v ≤ 9999) : heldF 9999 (nI v + 1) = nI (if v + 1 < 9999 then v + 1 else 9999) := by
  unfold heldF
  rw [nI_1, show (9999 : Int32) = nI 9999 from rfl, show (0 : Int32) = nI 0 from rfl, if_pos (nI_le (by omega) (by omega))]
  by_cases g : v + 1 ≤ 9999
  · rw [if_pos (nI_le g (by omega))]
    split
    · rfl
    · rw [show v + 1 = 9999 by omega]
  · rw [if_neg (nI_ge (by omega) (by omega)), if_neg (by omega)]
theorem m_aNight {V : Nat → Nat} {Z : Int32} {C0 C1 : List Int32} {sp : Int32} (hV : WV V) (hC0 : WC C0) (hC1 : WC C1) {σ : om_S} (hX : MT 91 V Z C0 C1 σ) (h5 : σ 90 5 = sp) (z1 : σ 98 0 = 0) (z2 : σ 99 0 = 0) :
    ∃ σ', f_X9_aNight 90 σ = some (bI ((pickV V C0 C1 sp).isSome = true), σ') ∧ MT 91 (nightV V (pickV V C0 C1 sp)) Z C0 C1 σ' ∧ σ' 98 0 = 0 ∧ σ' 99 0 = 0 ∧ (∀ q, q ≠ 91 → q ≠ 96 → q ≠ 97 → q ≠ 98 → q ≠ 99 → σ' q = σ q) ∧ K91 σ σ' := by
  have h6 := hV.1
  obtain ⟨σ1, q1, _, q3, q4, q5⟩ := m_tonightSet hV hC0 hC1 hX h5 z1 z2
  have hX1 : MT 91 V Z C0 C1 σ1 := hX.congr (q5 91 (by decide) (by decide) (by decide) (by decide))
  have hk : K91 σ σ1 := K91.o (q5 91 (by decide) (by decide) (by decide) (by decide))
  unfold f_X9_aNight
  simp only [kM, if_true, q1, call_s]
  cases ho : pickV V C0 C1 sp with
  | none =>
    have e1 : f_X9_aNight_b7 om_F 90 (triI none) 0 σ1 = f_X9_aNight_b47 90 (triI none) σ1 := by
      unfold om_F f_X9_aNight_b7
      simp only [kM, rM, aM, om_ref_s, if_true, in6_387, cl6, hX1.1]
      split
      · rfl
      · rw [if_pos (show triI none = -1 from rfl)]
    rw [e1]
    unfold f_X9_aNight_b47 f_X9_aNight_b73
    rw [if_pos (show triI none = -1 from rfl)]
    simp only [kM, rM, aM, om_ref_s, if_true, in2_387, cl2, in1_387, cl1, hX1.2.2.2.1, m_held, call_s, let_s, held_9999 hV.2.2.2.1]
    have hX2 := hX1.setN (k := 2) (v := if V 2 + 1 < 9999 then V 2 + 1 else 9999) (by omega) (by omega)
    have hn := hX2.2.2.1
    rw [upV_o (show (1 : Nat) ≠ 2 by decide)] at hn
    rw [hn, nI_1, if_pos (show triI none = -1 from rfl)]
    refine ⟨_, rfl, hX2.setN (k := 1) (v := V 1 + 1) (by omega) (by omega), ?_, ?_, fun q h1 h2 h3 h4 h5 => ?_, (hk.w (by decide) (by decide) (by decide)).w (by decide) (by decide) (by decide)⟩
    · rw [om_w_k (by decide), om_w_k (by decide)]
      exact q3
    · rw [om_w_k (by decide), om_w_k (by decide)]
      exact q4
    · rw [om_w_off h1, om_w_off h1, q5 q h2 h3 h4 h5]
  | some t =>
    obtain ⟨hm, hel⟩ := pick_el hV ho
    obtain ⟨σ2, r1, r2, r3, r4⟩ := m_burnLoop (Z := Z) (C0 := C0) (C1 := C1) hV hm hel (V 6) 0 om_F σ1 (by omega) (by unfold om_F; omega) hX1
    have e1 : f_X9_aNight_b7 om_F 90 (triI (some t)) 0 σ1 = f_X9_aNight_b47 90 (nI t.1) σ2 := r1
    rw [e1]
    have hn := r2.2.2.1
    rw [burnV_o (V 6) (fun j _ => by omega)] at hn
    unfold f_X9_aNight_b47 f_X9_aNight_b73
    rw [if_neg (nI_nm1 (by omega))]
    simp only [kM, rM, aM, om_ref_s, if_true, in1_387, cl1, let_s, hn, nI_1]
    rw [if_neg (nI_nm1 (by omega))]
    refine ⟨_, rfl, r2.setN (k := 1) (v := V 1 + 1) (by omega) (by omega), ?_, ?_, fun q h1 h2 h3 h4 h5 => ?_, (hk.trans r4).w (by decide) (by decide) (by decide)⟩
    · rw [om_w_k (by decide), r3 98 (by decide)]
      exact q3
    · rw [om_w_k (by decide), r3 99 (by decide)]
      exact q4
    · rw [om_w_off h1, r3 q h1, q5 q h2 h3 h4 h5]
