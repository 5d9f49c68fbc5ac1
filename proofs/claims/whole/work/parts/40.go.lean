/-! ===== nights in a row ===== -/
def goV (C0 C1 : List Int32) (sp : Int32) : Nat → (Nat → Nat) → (Nat → Nat)
  | 0, V => V
  | n + 1, V => goV C0 C1 sp n (nightV V (pickV V C0 C1 sp))
def goN (C0 C1 : List Int32) (sp : Int32) : Nat → (Nat → Nat) → Nat
  | 0, _ => 0
  | n + 1, V => (if (pickV V C0 C1 sp).isSome = true then 1 else 0) + goN C0 C1 sp n (nightV V (pickV V C0 C1 sp))
def litN (C0 C1 : List Int32) (sp : Int32) : Nat → (Nat → Nat) → Nat
  | 0, _ => 0
  | n + 1, V => if (pickV V C0 C1 sp).isSome = true then litN C0 C1 sp n (nightV V (pickV V C0 C1 sp)) + 1 else 0
def looseT (C0 C1 : List Int32) : Nat → (Nat → Nat) → Int32 → (Nat → Nat) × Int32 × Nat
  | 0, V, Z => (V, Z, 0)
  | n + 1, V, Z => ((looseT C0 C1 n (nightV (dayV V Z) (pickV (dayV V Z) C0 C1 (-1))) (dayZ V Z)).1, (looseT C0 C1 n (nightV (dayV V Z) (pickV (dayV V Z) C0 C1 (-1))) (dayZ V Z)).2.1, (if (pickV (dayV V Z) C0 C1 (-1)).isSome = true then 1 else 0) + (looseT C0 C1 n (nightV (dayV V Z) (pickV (dayV V Z) C0 C1 (-1))) (dayZ V Z)).2.2)
def xfr (b : Nat) (σ σ' : om_S) : Prop := ∀ q, (q < b ∨ b + 19 ≤ q) → (q < 58 ∨ 62 ≤ q) → σ' q = σ q
theorem xfr.refl {b : Nat} {σ : om_S} : xfr b σ σ := fun _ _ _ => rfl
theorem xfr.trans {b : Nat} {σ σ1 σ2 : om_S} (h : xfr b σ σ1) (h2 : xfr b σ1 σ2) : xfr b σ σ2 := fun q a c => by rw [h2 q a c, h q a c]
def mfr (σ σ' : om_S) : Prop := (∀ q, q ≠ 91 → q ≠ 96 → q ≠ 97 → q ≠ 98 → q ≠ 99 → σ' q = σ q) ∧ K91 σ σ'
theorem mfr.refl {σ : om_S} : mfr σ σ := ⟨fun _ _ _ _ _ _ => rfl, K91.refl⟩
theorem mfr.trans {σ σ1 σ2 : om_S} (h : mfr σ σ1) (h2 : mfr σ1 σ2) : mfr σ σ2 := ⟨fun q a b c d e => by rw [h2.1 q a b c d e, h.1 q a b c d e], h.2.trans h2.2⟩
theorem nightV_6 {V : Nat → Nat} {o : Option Tri} : nightV V o 6 = V 6 := by
  unfold nightV
  cases o with
  | none =>
    show upV _ 1 _ 6 = _
    rw [upV_o (by omega), upV_o (by omega)]
  | some t =>
    show upV _ 1 _ 6 = _
    rw [upV_o (by omega), burnV_o (V 6) (fun j _ => by omega)]
theorem goV_6 {C0 C1 : List Int32} {sp : Int32} : ∀ (n : Nat) (V : Nat → Nat), goV C0 C1 sp n V 6 = V 6 := by
  intro n
  induction n with
  | zero =>
    intro V
    rfl
  | succ n ih =>
    intro V
    show goV C0 C1 sp n (nightV V (pickV V C0 C1 sp)) 6 = V 6
    rw [ih, nightV_6]
theorem goV_1 {C0 C1 : List Int32} {sp : Int32} : ∀ (n : Nat) (V : Nat → Nat), goV C0 C1 sp n V 1 = V 1 + n := by
  intro n
  induction n with
  | zero =>
    intro V
    rfl
  | succ n ih =>
    intro V
    show goV C0 C1 sp n (nightV V (pickV V C0 C1 sp)) 1 = V 1 + (n + 1)
    rw [ih, nightV_1]
    omega
theorem WV.go {C0 C1 : List Int32} {sp : Int32} : ∀ (n : Nat) {V : Nat → Nat}, WV V → V 1 + n ≤ 20000 → WV (goV C0 C1 sp n V) := by
  intro n
  induction n with
  | zero =>
    intro V h _
    exact h
  | succ n ih =>
    intro V h h1
    exact ih (h.night (by omega)) (by rw [nightV_1]; omega)
theorem dayV_1 {V : Nat → Nat} {Z : Int32} : dayV V Z 1 = V 1 := by
  unfold dayV
  split
  · exact upV_o (by omega)
  · split
    · rw [upV_o (by omega), upV_o (by omega)]
    · exact upV_o (by omega)
theorem looseT_1 {C0 C1 : List Int32} : ∀ (n : Nat) (V : Nat → Nat) (Z : Int32), (looseT C0 C1 n V Z).1 1 = V 1 + n := by
  intro n
  induction n with
  | zero =>
    intro V Z
    rfl
  | succ n ih =>
    intro V Z
    show (looseT C0 C1 n (nightV (dayV V Z) (pickV (dayV V Z) C0 C1 (-1))) (dayZ V Z)).1 1 = V 1 + (n + 1)
    rw [ih, nightV_1, dayV_1]
    omega
theorem WV.loose {C0 C1 : List Int32} : ∀ (n : Nat) {V : Nat → Nat} (Z : Int32), WV V → V 1 + n ≤ 20000 → WV (looseT C0 C1 n V Z).1 := by
  intro n
  induction n with
  | zero =>
    intro V Z h _
    exact h
  | succ n ih =>
    intro V Z h h1
    exact ih (dayZ V Z) (h.day.night (by rw [dayV_1]; omega)) (by rw [nightV_1, dayV_1]; omega)
theorem pick_c {p : Prop} [Decidable p] {c g : Nat} : nI (c + ((if p then 1 else 0) + g)) = nI (if p then c + 1 + g else c + g) := by
  by_cases h : p
  · rw [if_pos h, if_pos h, Nat.add_assoc]
  · rw [if_neg h, if_neg h, Nat.zero_add]
theorem x_nightsLoop {Z : Int32} {C0 C1 : List Int32} (hC0 : WC C0) (hC1 : WC C1) (N : Nat) (hN : N < 2 ^ 31) :
    ∀ (n i c F : Nat) (V : Nat → Nat) (σ : om_S), i + n = N → n < F → V 1 + n ≤ 20000 → WV V → XT 1 V Z C0 C1 σ → Zero3 σ →
    ∃ σ', f_X8_nights_b41 F 0 (nI N) (nI c) (nI i) σ = some (nI (c + goN C0 C1 (-1) n V), σ') ∧ XT 1 (goV C0 C1 (-1) n V) Z C0 C1 σ' ∧ Zero3 σ' ∧ xfr 1 σ σ' := by
  intro n
  induction n with
  | zero =>
    intro i c F V σ hi hF hV1 hV hX z
    obtain ⟨F, rfl⟩ : ∃ G, F = G + 1 := ⟨F - 1, by omega⟩
    refine ⟨σ, ?_, hX, z, xfr.refl⟩
    unfold f_X8_nights_b41
    rw [if_pos (nI_le (by omega) (by omega))]
    exact Eq.refl _
  | succ n ih =>
    intro i c F V σ hi hF hV1 hV hX z
    obtain ⟨F, rfl⟩ : ∃ G, F = G + 1 := ⟨F - 1, by omega⟩
    obtain ⟨σ1, q1, q2, q3, q4⟩ := x_passNight (sp := -1) (Or.inl rfl) hV hC0 hC1 hX z
    obtain ⟨σ', r1, r2, r3, r4⟩ := ih (i + 1) (if (pickV V C0 C1 (-1)).isSome = true then c + 1 else c) F (nightV V (pickV V C0 C1 (-1))) σ1 (by omega) (by omega) (by rw [nightV_1]; omega) (hV.night (by omega)) q2 q3
    refine ⟨σ', ?_, r2, r3, xfr.trans q4 r4⟩
    unfold f_X8_nights_b41
    rw [if_neg (nI_ge (by omega) (by omega))]
    simp only [kX, rX, om_ref_s, if_true, q1, call_s, bI_0]
    unfold f_X8_nights_b64
    have e : goN C0 C1 (-1) (n + 1) V = (if (pickV V C0 C1 (-1)).isSome = true then 1 else 0) + goN C0 C1 (-1) n (nightV V (pickV V C0 C1 (-1))) := rfl
    rw [e, pick_c]
    by_cases g : (pickV V C0 C1 (-1)).isSome = true
    · rw [if_neg (fun w => w g), nI_1, nI_1, if_pos g]
      rw [if_pos g] at r1
      exact r1
    · rw [if_pos g, nI_1, if_neg g]
      rw [if_neg g] at r1
      exact r1
theorem m_goLoop {Z : Int32} {C0 C1 : List Int32} {sp : Int32} (hC0 : WC C0) (hC1 : WC C1) (N : Nat) (hN : N < 2 ^ 31) :
    ∀ (n i c F : Nat) (V : Nat → Nat) (σ : om_S), i + n = N → n < F → V 1 + n ≤ 20000 → WV V → MT 91 V Z C0 C1 σ → σ 90 5 = sp → σ 98 0 = 0 → σ 99 0 = 0 →
    ∃ σ', f_X9_goes_b4 F 90 (nI N) (nI c) (nI i) σ = some (nI (c + goN C0 C1 sp n V), σ') ∧ MT 91 (goV C0 C1 sp n V) Z C0 C1 σ' ∧ σ' 98 0 = 0 ∧ σ' 99 0 = 0 ∧ mfr σ σ' := by
  intro n
  induction n with
  | zero =>
    intro i c F V σ hi hF hV1 hV hX h5 z1 z2
    obtain ⟨F, rfl⟩ : ∃ G, F = G + 1 := ⟨F - 1, by omega⟩
    refine ⟨σ, ?_, hX, z1, z2, mfr.refl⟩
    unfold f_X9_goes_b4
    rw [if_pos (nI_le (by omega) (by omega))]
    exact Eq.refl _
  | succ n ih =>
    intro i c F V σ hi hF hV1 hV hX h5 z1 z2
    obtain ⟨F, rfl⟩ : ∃ G, F = G + 1 := ⟨F - 1, by omega⟩
    obtain ⟨σ1, q1, q2, q3, q4, q5, q6⟩ := m_aNight hV hC0 hC1 hX h5 z1 z2
    obtain ⟨σ', r1, r2, r3, r4, r5⟩ := ih (i + 1) (if (pickV V C0 C1 sp).isSome = true then c + 1 else c) F (nightV V (pickV V C0 C1 sp)) σ1 (by omega) (by omega) (by rw [nightV_1]; omega) (hV.night (by omega)) q2 (by rw [q5 90 (by decide) (by decide) (by decide) (by decide) (by decide)]; exact h5) q3 q4
    refine ⟨σ', ?_, r2, r3, r4, mfr.trans ⟨q5, q6⟩ r5⟩
    unfold f_X9_goes_b4
    rw [if_neg (nI_ge (by omega) (by omega)), q1]
    simp only [call_s, bI_0]
    unfold f_X9_goes_b22
    have e : goN C0 C1 sp (n + 1) V = (if (pickV V C0 C1 sp).isSome = true then 1 else 0) + goN C0 C1 sp n (nightV V (pickV V C0 C1 sp)) := rfl
    rw [e, pick_c]
    by_cases g : (pickV V C0 C1 sp).isSome = true
    · rw [if_neg (fun w => w g), nI_1, nI_1, if_pos g]
      rw [if_pos g] at r1
      exact r1
    · rw [if_pos g, nI_1, Int32.add_zero, if_neg g]
      rw [if_neg g] at r1
      exact r1
theorem x_looseLoop {C0 C1 : List Int32} (hC0 : WC C0) (hC1 : WC C1) (N : Nat) (hN : N < 2 ^ 31) :
    ∀ (n i c F : Nat) (V : Nat → Nat) (Z : Int32) (σ : om_S), i + n = N → n < F → V 1 + n ≤ 20000 → WV V → XT 1 V Z C0 C1 σ → Zero3 σ →
    ∃ σ', f_X8_loose_b41 F 0 (nI N) (nI c) (nI i) σ = some (nI (c + (looseT C0 C1 n V Z).2.2), σ') ∧ XT 1 (looseT C0 C1 n V Z).1 (looseT C0 C1 n V Z).2.1 C0 C1 σ' ∧ Zero3 σ' ∧ xfr 1 σ σ' := by
  intro n
  induction n with
  | zero =>
    intro i c F V Z σ hi hF hV1 hV hX z
    obtain ⟨F, rfl⟩ : ∃ G, F = G + 1 := ⟨F - 1, by omega⟩
    refine ⟨σ, ?_, hX, z, xfr.refl⟩
    unfold f_X8_loose_b41
    rw [if_pos (nI_le (by omega) (by omega))]
    exact Eq.refl _
  | succ n ih =>
    intro i c F V Z σ hi hF hV1 hV hX z
    obtain ⟨F, rfl⟩ : ∃ G, F = G + 1 := ⟨F - 1, by omega⟩
    obtain ⟨σ0, p1, p2, p3⟩ := x_day (Or.inl rfl) hV hX
    have z0 : Zero3 σ0 := by
      unfold Zero3
      rw [p3 59 (by omega), p3 60 (by omega), p3 61 (by omega)]
      exact z
    obtain ⟨σ1, q1, q2, q3, q4⟩ := x_passNight (sp := -1) (Or.inl rfl) hV.day hC0 hC1 p2 z0
    obtain ⟨σ', r1, r2, r3, r4⟩ := ih (i + 1) (if (pickV (dayV V Z) C0 C1 (-1)).isSome = true then c + 1 else c) F (nightV (dayV V Z) (pickV (dayV V Z) C0 C1 (-1))) (dayZ V Z) σ1 (by omega) (by omega) (by rw [nightV_1, dayV_1]; omega) (hV.day.night (by rw [dayV_1]; omega)) q2 q3
    refine ⟨σ', ?_, r2, r3, xfr.trans (fun q a _ => p3 q a) (xfr.trans q4 r4)⟩
    unfold f_X8_loose_b41
    rw [if_neg (nI_ge (by omega) (by omega))]
    simp only [kX, rX, om_ref_s, if_true, p1, do_s, q1, call_s, bI_0]
    unfold f_X8_loose_b71
    have e : (looseT C0 C1 (n + 1) V Z).2.2 = (if (pickV (dayV V Z) C0 C1 (-1)).isSome = true then 1 else 0) + (looseT C0 C1 n (nightV (dayV V Z) (pickV (dayV V Z) C0 C1 (-1))) (dayZ V Z)).2.2 := rfl
    rw [e, pick_c]
    by_cases g : (pickV (dayV V Z) C0 C1 (-1)).isSome = true
    · rw [if_neg (fun w => w g), nI_1, nI_1, if_pos g]
      rw [if_pos g] at r1
      exact r1
    · rw [if_pos g, nI_1, if_neg g]
      rw [if_neg g] at r1
      exact r1
theorem m_looseLoop {C0 C1 : List Int32} (hC0 : WC C0) (hC1 : WC C1) (N : Nat) (hN : N < 2 ^ 31) :
    ∀ (n i c F : Nat) (V : Nat → Nat) (Z : Int32) (σ : om_S), i + n = N → n < F → V 1 + n ≤ 20000 → WV V → MT 91 V Z C0 C1 σ → σ 90 5 = -1 → σ 98 0 = 0 → σ 99 0 = 0 →
    ∃ σ', f_X9_loose_b23 F 90 (nI N) (nI c) (nI i) σ = some (nI (c + (looseT C0 C1 n V Z).2.2), σ') ∧ MT 91 (looseT C0 C1 n V Z).1 (looseT C0 C1 n V Z).2.1 C0 C1 σ' ∧ σ' 98 0 = 0 ∧ σ' 99 0 = 0 ∧ mfr σ σ' := by
  intro n
  induction n with
  | zero =>
    intro i c F V Z σ hi hF hV1 hV hX h5 z1 z2
    obtain ⟨F, rfl⟩ : ∃ G, F = G + 1 := ⟨F - 1, by omega⟩
    refine ⟨σ, ?_, hX, z1, z2, mfr.refl⟩
    unfold f_X9_loose_b23
    rw [if_pos (nI_le (by omega) (by omega))]
    exact Eq.refl _
  | succ n ih =>
    intro i c F V Z σ hi hF hV1 hV hX h5 z1 z2
    obtain ⟨F, rfl⟩ : ∃ G, F = G + 1 := ⟨F - 1, by omega⟩
    obtain ⟨σ0, p1, p2, p3, p4⟩ := m_day hV hX
    have f0 : mfr σ σ0 := ⟨fun q h _ _ _ _ => p3 q h, p4⟩
    obtain ⟨σ1, q1, q2, q3, q4, q5, q6⟩ := m_aNight (sp := -1) hV.day hC0 hC1 p2 (by rw [p3 90 (by decide)]; exact h5) (by rw [p3 98 (by decide)]; exact z1) (by rw [p3 99 (by decide)]; exact z2)
    obtain ⟨σ', r1, r2, r3, r4, r5⟩ := ih (i + 1) (if (pickV (dayV V Z) C0 C1 (-1)).isSome = true then c + 1 else c) F (nightV (dayV V Z) (pickV (dayV V Z) C0 C1 (-1))) (dayZ V Z) σ1 (by omega) (by omega) (by rw [nightV_1, dayV_1]; omega) (hV.day.night (by rw [dayV_1]; omega)) q2 (by rw [q5 90 (by decide) (by decide) (by decide) (by decide) (by decide), p3 90 (by decide)]; exact h5) q3 q4
    refine ⟨σ', ?_, r2, r3, r4, mfr.trans f0 (mfr.trans ⟨q5, q6⟩ r5)⟩
    unfold f_X9_loose_b23
    rw [if_neg (nI_ge (by omega) (by omega)), p1]
    simp only [do_s, q1, call_s, bI_0]
    unfold f_X9_loose_b46
    have e : (looseT C0 C1 (n + 1) V Z).2.2 = (if (pickV (dayV V Z) C0 C1 (-1)).isSome = true then 1 else 0) + (looseT C0 C1 n (nightV (dayV V Z) (pickV (dayV V Z) C0 C1 (-1))) (dayZ V Z)).2.2 := rfl
    rw [e, pick_c]
    by_cases g : (pickV (dayV V Z) C0 C1 (-1)).isSome = true
    · rw [if_neg (fun w => w g), nI_1, nI_1, if_pos g]
      rw [if_pos g] at r1
      exact r1
    · rw [if_pos g, nI_1, Int32.add_zero, if_neg g]
      rw [if_neg g] at r1
      exact r1
theorem x_litLoop {Z : Int32} {C0 C1 : List Int32} {sp : Int32} (hC0 : WC C0) (hC1 : WC C1) :
    ∀ (n i F : Nat) (V : Nat → Nat) (σ : om_S), i + n = 60 → n < F → V 1 + n ≤ 20000 → WV V → XT 39 V Z C0 C1 σ → Zero3 σ →
    ∃ σ', f_X8_litNightsAhead_b13 F 0 sp (nI i) σ = some (nI (litN C0 C1 sp n V + i), σ') ∧ Zero3 σ' ∧ xfr 39 σ σ' ∧ ∃ V', XT 39 V' Z C0 C1 σ' := by
  intro n
  induction n with
  | zero =>
    intro i F V σ hi hF hV1 hV hX z
    obtain ⟨F, rfl⟩ : ∃ G, F = G + 1 := ⟨F - 1, by omega⟩
    refine ⟨σ, ?_, z, xfr.refl, V, hX⟩
    unfold f_X8_litNightsAhead_b13
    rw [show (60 : Int32) = nI 60 from rfl, if_pos (nI_le (by omega) (by omega))]
    unfold litN
    rw [Nat.zero_add]
  | succ n ih =>
    intro i F V σ hi hF hV1 hV hX z
    obtain ⟨F, rfl⟩ : ∃ G, F = G + 1 := ⟨F - 1, by omega⟩
    obtain ⟨σ1, q1, q2, q3, q4⟩ := x_passNight (sp := sp) (Or.inr (Or.inr rfl)) hV hC0 hC1 hX z
    unfold f_X8_litNightsAhead_b13 litN
    rw [show (60 : Int32) = nI 60 from rfl, if_neg (nI_ge (by omega) (by omega))]
    simp only [kX, rX, om_ref_s, if_true, q1, call_s, bI_0]
    by_cases g : (pickV V C0 C1 sp).isSome = true
    · obtain ⟨σ', r1, r2, r3, r4⟩ := ih (i + 1) F (nightV V (pickV V C0 C1 sp)) σ1 (by omega) (by omega) (by rw [nightV_1]; omega) (hV.night (by omega)) q2 q3
      refine ⟨σ', ?_, r2, xfr.trans q4 r3, r4⟩
      rw [if_neg (fun w => w g), nI_1, if_pos g, r1, Nat.add_assoc, Nat.add_comm 1 i]
    · refine ⟨σ1, ?_, q3, q4, _, q2⟩
      rw [if_pos g, if_neg g, Nat.zero_add]
theorem m_litLoop {Z : Int32} {C0 C1 : List Int32} {sp : Int32} (hC0 : WC C0) (hC1 : WC C1) :
    ∀ (n i F : Nat) (V : Nat → Nat) (σ : om_S), i + n = 60 → n < F → V 1 + n ≤ 20000 → WV V → MT 91 V Z C0 C1 σ → σ 90 5 = sp → σ 98 0 = 0 → σ 99 0 = 0 →
    ∃ σ', f_X9_litNights_b6 F 90 (nI i) σ = f_X9_litNights_b25 90 (nI (litN C0 C1 sp n V + i)) σ' ∧ σ' 98 0 = 0 ∧ σ' 99 0 = 0 ∧ mfr σ σ' := by
  intro n
  induction n with
  | zero =>
    intro i F V σ hi hF hV1 hV hX h5 z1 z2
    obtain ⟨F, rfl⟩ : ∃ G, F = G + 1 := ⟨F - 1, by omega⟩
    refine ⟨σ, ?_, z1, z2, mfr.refl⟩
    unfold f_X9_litNights_b6
    rw [show (60 : Int32) = nI 60 from rfl, if_pos (nI_le (by omega) (by omega))]
    unfold litN
    rw [Nat.zero_add]
  | succ n ih =>
    intro i F V σ hi hF hV1 hV hX h5 z1 z2
    obtain ⟨F, rfl⟩ : ∃ G, F = G + 1 := ⟨F - 1, by omega⟩
    obtain ⟨σ1, q1, q2, q3, q4, q5, q6⟩ := m_aNight hV hC0 hC1 hX h5 z1 z2
    unfold f_X9_litNights_b6 litN
    rw [show (60 : Int32) = nI 60 from rfl, if_neg (nI_ge (by omega) (by omega)), q1]
    simp only [call_s, bI_0]
    by_cases g : (pickV V C0 C1 sp).isSome = true
    · obtain ⟨σ', r1, r2, r3, r4⟩ := ih (i + 1) F (nightV V (pickV V C0 C1 sp)) σ1 (by omega) (by omega) (by rw [nightV_1]; omega) (hV.night (by omega)) q2 (by rw [q5 90 (by decide) (by decide) (by decide) (by decide) (by decide)]; exact h5) q3 q4
      refine ⟨σ', ?_, r2, r3, mfr.trans ⟨q5, q6⟩ r4⟩
      rw [if_neg (fun w => w g), nI_1, if_pos g, r1, Nat.add_assoc, Nat.add_comm 1 i]
    · refine ⟨σ1, ?_, q3, q4, q5, q6⟩
      rw [if_pos g, if_neg g, Nat.zero_add]
theorem x_thenLoop {Z : Int32} {C0 C1 : List Int32} (hC0 : WC C0) (hC1 : WC C1) (N m : Nat) (hN : N < 2 ^ 31) :
    ∀ (n i F : Nat) (V : Nat → Nat) (σ : om_S), i + n = N → n < F → V 1 + n ≤ 20000 → WV V → m < V 6 → XT 39 V Z C0 C1 σ → Zero3 σ →
    ∃ σ', f_X8_then_b40 F 0 (nI m) (nI N) (nI i) σ = some (nI (goV C0 C1 (-1) n V (8 + 5 * m + 3)), σ') ∧ Zero3 σ' ∧ xfr 39 σ σ' ∧ ∃ V', XT 39 V' Z C0 C1 σ' := by
  intro n
  induction n with
  | zero =>
    intro i F V σ hi hF hV1 hV hm hX z
    obtain ⟨F, rfl⟩ : ∃ G, F = G + 1 := ⟨F - 1, by omega⟩
    have h6 := hV.1
    refine ⟨σ, ?_, z, xfr.refl, V, hX⟩
    unfold f_X8_then_b40
    rw [if_pos (nI_le (by omega) (by omega))]
    simp only [kX, rX, om_ref_s, if_true, x_atI (b := 39) (Or.inr (Or.inr rfl)) hX.1 hm h6, call_s, om_nul_s, (tm (b := 39) (Or.inr (Or.inr rfl)) (show m < 9 by omega)).2]
    rw [hX.2.2.2.2.2.1 m 3 (by omega) (by omega)]
    exact Eq.refl _
  | succ n ih =>
    intro i F V σ hi hF hV1 hV hm hX z
    obtain ⟨F, rfl⟩ : ∃ G, F = G + 1 := ⟨F - 1, by omega⟩
    obtain ⟨σ1, q1, q2, q3, q4⟩ := x_passNight (sp := -1) (Or.inr (Or.inr rfl)) hV hC0 hC1 hX z
    obtain ⟨σ', r1, r2, r3, r4⟩ := ih (i + 1) F (nightV V (pickV V C0 C1 (-1))) σ1 (by omega) (by omega) (by rw [nightV_1]; omega) (hV.night (by omega)) (by rw [nightV_6]; exact hm) q2 q3
    refine ⟨σ', ?_, r2, xfr.trans q4 r3, r4⟩
    unfold f_X8_then_b40
    rw [if_neg (nI_ge (by omega) (by omega))]
    simp only [kX, rX, om_ref_s, if_true, q1, call_s, nI_1]
    exact r1
