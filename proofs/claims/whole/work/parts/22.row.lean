/-! ===== rows ===== -/
def IsRow (r v cap : Nat) : Prop := om_kc r = 3 ∧ om_rf r 0 = some v ∧ om_kc v = 20 ∧ om_al v = cap ∧ r ≠ v ∧ cap < 1000
def XRow (r v : Nat) (L : List Int32) (σ : om_S) : Prop := σ r 1 = nI L.length ∧ ∀ j, j < L.length → σ v j = L.getD j 0
theorem XRow.congr {r v : Nat} {L : List Int32} {σ σ' : om_S} (h : XRow r v L σ) (h1 : σ' r = σ r) (h2 : σ' v = σ v) : XRow r v L σ' := ⟨by rw [h1]; exact h.1, fun j hj => by rw [h2]; exact h.2 j hj⟩
theorem x_size {r : Nat} {σ : om_S} (hr : om_kc r = 3) : f_X3_size r σ = some (σ r 1, σ) := by
  unfold f_X3_size
  rw [if_pos hr]
theorem x_has {r v cap : Nat} {L : List Int32} {σ : om_S} {x : Int32} (hR : IsRow r v cap) (h : XRow r v L σ) (hc : L.length ≤ cap) : f_X3_has r x σ = some (bI (0 ≤ x ∧ x < nI L.length), σ) := by
  obtain ⟨h1, h2, h3, h4, h5, h6⟩ := hR
  unfold f_X3_has
  simp only [h1, h2, h3, h4, om_ref_s, if_true, h.1]
  have e : (Int32.ofNat cap).toInt = cap := nI_toInt (by omega)
  have e2 : (nI L.length).toInt = L.length := nI_toInt (by omega)
  unfold bI
  simp only [ltI, leI, e, e2]
  have e0 : (0 : Int32).toInt = 0 := rfl
  rw [e0]
  by_cases a1 : x.toInt < 0
  · rw [if_pos a1, if_neg (by omega)]
  · rw [if_neg a1]
    by_cases a2 : (L.length : Int) ≤ x.toInt
    · rw [if_pos a2, if_neg (by omega)]
    · rw [if_neg a2, if_neg (by omega), if_pos (by omega)]
theorem x_at {r v cap : Nat} {L : List Int32} {σ : om_S} {j : Nat} (hR : IsRow r v cap) (h : XRow r v L σ) (hc : L.length ≤ cap) (hj : j < L.length) : f_X3_at r (nI j) σ = some (L.getD j 0, σ) := by
  obtain ⟨h1, h2, h3, h4, h5, h6⟩ := hR
  unfold f_X3_at
  simp only [h1, h2, h3, h4, om_ref_s, if_true, h.1]
  have e : Int32.ofNat cap = nI cap := rfl
  rw [if_neg (nI_pos (by omega)), if_neg (nI_ge hj (by omega)), e, if_neg (nI_ge (by omega) (by omega)), if_pos (in_nI (by omega) (by omega)), nI_clamp (by omega), h.2 j hj]
theorem x_add {r v cap : Nat} {L : List Int32} {σ : om_S} {x : Int32} (hR : IsRow r v cap) (h : XRow r v L σ) (hc : L.length < cap) : f_X3_add r x σ = some (1, om_w (om_w σ v L.length x) r 1 (nI (L.length + 1))) := by
  obtain ⟨h1, h2, h3, h4, h5, h6⟩ := hR
  unfold f_X3_add
  simp only [h1, h2, h3, h4, om_ref_s, if_true, h.1, let_s]
  have e : Int32.ofNat cap = nI cap := rfl
  rw [if_neg (nI_pos (by omega)), e, if_pos (nI_lt hc (by omega)), if_pos (in_nI (by omega) (by omega)), nI_clamp (by omega), om_w_k h5, h.1, nI_1]
theorem x_addFull {r v cap : Nat} {L : List Int32} {σ : om_S} {x : Int32} (hR : IsRow r v cap) (h : XRow r v L σ) (hc : L.length = cap) : f_X3_add r x σ = some (0, σ) := by
  obtain ⟨h1, h2, h3, h4, h5, h6⟩ := hR
  unfold f_X3_add
  simp only [h1, h2, h3, h4, om_ref_s, if_true, h.1, let_s]
  have e : Int32.ofNat cap = nI cap := rfl
  rw [if_neg (nI_pos (by omega)), e, if_neg (nI_nlt (by omega) (by omega))]
theorem getD_app {L M : List Int32} {j : Nat} (h : j < L.length) : (L ++ M).getD j 0 = L.getD j 0 := by
  simp [List.getD_eq_getElem?_getD, List.getElem?_append_left h]
theorem XRow.add {r v : Nat} {L : List Int32} {σ : om_S} {x : Int32} (hrv : r ≠ v) (h : XRow r v L σ) : XRow r v (L ++ [x]) (om_w (om_w σ v L.length x) r 1 (nI (L.length + 1))) := by
  refine ⟨by rw [om_w_s]; simp, fun j hj => ?_⟩
  rw [om_w_k (Ne.symm hrv)]
  simp only [List.length_append, List.length_cons, List.length_nil] at hj
  by_cases e : j = L.length
  · subst e
    rw [om_w_s]
    simp
  · rw [om_w_j e, h.2 j (by omega), getD_app (by omega)]
theorem x_clear {r : Nat} {σ : om_S} (hr : om_kc r = 3) : f_X3_clear r σ = some (om_w σ r 1 0) := by
  unfold f_X3_clear
  rw [if_pos hr]
  rfl
theorem XRow.nil {r v : Nat} {σ : om_S} : XRow r v [] (om_w σ r 1 0) := ⟨by rw [om_w_s]; rfl, fun j hj => by cases hj⟩
theorem getD_take {L : List Int32} {i j : Nat} (h : j < i) : (L.take i).getD j 0 = L.getD j 0 := by
  simp [List.getD_eq_getElem?_getD, List.getElem?_take, h]
theorem x_copyLoop {r v cap r2 v2 cap2 : Nat} {L : List Int32} (hR : IsRow r v cap) (hR2 : IsRow r2 v2 cap2) (hd1 : r2 ≠ r) (hd2 : r2 ≠ v) (hd3 : v2 ≠ r) (hd4 : v2 ≠ v) (hc : L.length ≤ cap) (hc2 : L.length ≤ cap2) :
    ∀ (n i F : Nat) (σ : om_S), i + n = L.length → n < F → XRow r v (L.take i) σ → XRow r2 v2 L σ → ∃ σ', f_X3_copyFrom_b7 F r r2 (nI i) σ = some σ' ∧ XRow r v L σ' ∧ ∀ k, k ≠ r → k ≠ v → σ' k = σ k := by
  intro n
  induction n with
  | zero =>
    intro i F σ hi hF h1 h2
    obtain ⟨F, rfl⟩ : ∃ G, F = G + 1 := ⟨F - 1, by omega⟩
    unfold f_X3_copyFrom_b7
    rw [h2.1, if_pos (nI_le (by omega) (by have := hR2.2.2.2.2.2; omega))]
    refine ⟨σ, rfl, ?_, fun _ _ _ => rfl⟩
    rw [List.take_of_length_le (by omega)] at h1
    exact h1
  | succ n ih =>
    intro i F σ hi hF h1 h2
    obtain ⟨F, rfl⟩ : ∃ G, F = G + 1 := ⟨F - 1, by omega⟩
    have hil : i < L.length := by omega
    have g6 := hR.2.2.2.2.2
    have g62 := hR2.2.2.2.2.2
    have hlen : (L.take i).length = i := by rw [List.length_take]; omega
    unfold f_X3_copyFrom_b7
    rw [h2.1, if_neg (nI_ge hil (by omega))]
    have e : Int32.ofNat cap = nI cap := rfl
    simp only [hR.2.1, om_ref_s, hR.2.2.1, if_true, hR.2.2.2.1]
    rw [e, if_neg (nI_ge (by omega) (by omega)), x_at hR2 h2 hc2 hil]
    simp only [call_s]
    rw [x_add hR h1 (by omega)]
    simp only [call_s, nI_1]
    have h1' := XRow.add (x := L.getD i 0) hR.2.2.2.2.1 h1
    have ht : L.take i ++ [L.getD i 0] = L.take (i + 1) := by
      rw [List.take_add_one]
      congr 1
      rw [List.getD_eq_getElem?_getD, List.getElem?_eq_getElem hil]
      rfl
    rw [ht] at h1'
    obtain ⟨σ', q1, q2, q3⟩ := ih (i + 1) F _ (by omega) (by omega) h1' (h2.congr (by rw [om_w_off hd1, om_w_off hd2]) (by rw [om_w_off hd3, om_w_off hd4]))
    refine ⟨σ', q1, q2, fun k hk1 hk2 => ?_⟩
    rw [q3 k hk1 hk2, om_w_off hk1, om_w_off hk2]
theorem x_copyFrom {r v cap r2 v2 cap2 : Nat} {L : List Int32} {σ : om_S} (hR : IsRow r v cap) (hR2 : IsRow r2 v2 cap2) (hd1 : r2 ≠ r) (hd2 : r2 ≠ v) (hd3 : v2 ≠ r) (hd4 : v2 ≠ v) (hc : L.length ≤ cap) (hc2 : L.length ≤ cap2) (h2 : XRow r2 v2 L σ) :
    ∃ σ', f_X3_copyFrom r r2 σ = some σ' ∧ XRow r v L σ' ∧ ∀ k, k ≠ r → k ≠ v → σ' k = σ k := by
  unfold f_X3_copyFrom
  rw [if_pos hR.1, if_pos hR2.1]
  simp only [let_s]
  have g6 := hR.2.2.2.2.2
  obtain ⟨σ', q1, q2, q3⟩ := x_copyLoop hR hR2 hd1 hd2 hd3 hd4 hc hc2 L.length 0 om_F (om_w σ r 1 0) (by omega) (by unfold om_F; omega) (by rw [List.take_zero]; exact XRow.nil) (h2.congr (om_w_off hd1) (om_w_off hd3))
  exact ⟨σ', q1, q2, fun k hk1 hk2 => by rw [q3 k hk1 hk2, om_w_off hk1]⟩
