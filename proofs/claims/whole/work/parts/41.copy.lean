/-! ===== copies of towers, rows laid aside ===== -/
theorem x_memCopy {a c : Nat} {σ : om_S} (ha : om_kc a = 1) (hc : om_kc c = 1) (hd : c ≠ a) : ∃ σ', f_X1_copyFrom a c σ = some σ' ∧ (∀ f, f < 5 → σ' a f = σ c f) ∧ ∀ q, q ≠ a → σ' q = σ q := by
  unfold f_X1_copyFrom
  simp only [ha, hc, if_true, let_s]
  refine ⟨_, rfl, fun f hf => ?_, fun q hq => by rw [om_w_off hq, om_w_off hq, om_w_off hq, om_w_off hq, om_w_off hq]⟩
  simp only [om_w_off hd]
  by_cases h4 : f = 4
  · subst h4
    rw [om_w_s]
  rw [om_w_j h4]
  by_cases h3 : f = 3
  · subst h3
    rw [om_w_s]
  rw [om_w_j h3]
  by_cases h2 : f = 2
  · subst h2
    rw [om_w_s]
  rw [om_w_j h2]
  by_cases h1 : f = 1
  · subst h1
    rw [om_w_s]
  rw [om_w_j h1, show f = 0 by omega, om_w_s]
theorem x_textCopy {t r v k t2 r2 v2 k2 : Nat} {C : List Int32} {σ : om_S} (hT : IsTx t r v k) (hT2 : IsTx t2 r2 v2 k2) (d1 : r2 ≠ r) (d2 : r2 ≠ v) (d3 : v2 ≠ r) (d4 : v2 ≠ v) (hc : C.length ≤ 60) (h : XRow r2 v2 C σ) :
    ∃ σ', f_X5_copyFrom t t2 σ = some σ' ∧ XRow r v C σ' ∧ ∀ q, q ≠ r → q ≠ v → σ' q = σ q := by
  obtain ⟨σ', q1, q2, q3⟩ := x_copyFrom hT.2.2.1 hT2.2.2.1 d1 d2 d3 d4 hc hc h
  refine ⟨σ', ?_, q2, q3⟩
  unfold f_X5_copyFrom
  simp only [hT.1, hT2.1, if_true, hT.2.1, hT2.2.1, om_ref_s, hT.2.2.1.1, hT2.2.2.1.1, q1, do_s]
theorem far {b b2 : Nat} (h : IsT b) (h2 : IsT b2) (hd : b ≠ b2) : b + 19 ≤ b2 ∨ b2 + 19 ≤ b := by
  unfold IsT at h h2
  omega
theorem x_towerCopyEnd {b b2 : Nat} {V : Nat → Nat} {Z : Int32} {C0 C1 : List Int32} {σ : om_S} (hb : IsT b) (hb2 : IsT b2) (hd : b ≠ b2) (hC0 : C0.length ≤ 60) (hC1 : C1.length ≤ 60) (hX : XT b2 V Z C0 C1 σ) (u0 : σ (b + 2) 0 = nI 0) (u1 : σ (b + 6) 0 = nI 1)
    (hm : ∀ i f, i < 9 → f < 5 → σ (b + 10 + i) f = nI (V (8 + 5 * i + f))) :
    ∃ σ', f_X6_copyFrom_b56 b b2 σ = some σ' ∧ XT b V Z C0 C1 σ' ∧ ∀ q, (q < b ∨ b + 19 ≤ q) → σ' q = σ q := by
  have hf := far hb hb2 hd
  obtain ⟨σ1, p1, p2, p3⟩ := x_textCopy (tx0 hb) (tx0 hb2) (by omega) (by omega) (by omega) (by omega) hC0 hX.2.2.2.2.2.2.1
  have hX1 : XT b2 V Z C0 C1 σ1 := hX.congr fun k h1 h2 _ _ => p3 k (by omega) (by omega)
  obtain ⟨σ2, r1, r2, r3⟩ := x_textCopy (tx1 hb) (tx1 hb2) (by omega) (by omega) (by omega) (by omega) hC1 hX1.2.2.2.2.2.2.2.1
  have hX2 : XT b2 V Z C0 C1 σ2 := hX1.congr fun k h1 h2 _ _ => r3 k (by omega) (by omega)
  have hs : ∀ q, q ≠ b + 3 → q ≠ b + 4 → q ≠ b + 7 → q ≠ b + 8 → σ2 q = σ q := fun q a1 a2 a3 a4 => by rw [r3 q a3 a4, p3 q a1 a2]
  unfold f_X6_copyFrom_b56
  simp only [tr1 hb, tr1 hb2, tr2 hb, tr2 hb2, om_ref_s, tk2 hb, tk2 hb2, tk6 hb, tk6 hb2, if_true, p1, do_s, r1, let_s]
  obtain ⟨g1, g2, g3, g4, g5, g6, g7, g8, g9, g10⟩ := hX2
  have hne : b2 ≠ b := fun w => hd w.symm
  simp only [om_w_off hne, g1, g2, g3, g4, g5]
  refine ⟨_, rfl, ⟨?_, ?_, ?_, ?_, ?_, fun i f hi hf2 => ?_, ?_, ?_, ?_, ?_⟩, fun q hq => ?_⟩
  · rw [om_w_j (by decide), om_w_j (by decide), om_w_j (by decide), om_w_j (by decide), om_w_s]
  · rw [om_w_j (by decide), om_w_j (by decide), om_w_j (by decide), om_w_s]
  · rw [om_w_j (by decide), om_w_j (by decide), om_w_s]
  · rw [om_w_j (by decide), om_w_s]
  · rw [om_w_s]
  · rw [om_w_k (by omega), om_w_k (by omega), om_w_k (by omega), om_w_k (by omega), om_w_k (by omega), hs _ (by omega) (by omega) (by omega) (by omega)]
    exact hm i f hi hf2
  · exact p2.congr (by rw [om_w_off (by omega), om_w_off (by omega), om_w_off (by omega), om_w_off (by omega), om_w_off (by omega), r3 _ (by omega) (by omega)]) (by rw [om_w_off (by omega), om_w_off (by omega), om_w_off (by omega), om_w_off (by omega), om_w_off (by omega), r3 _ (by omega) (by omega)])
  · exact r2.congr (by rw [om_w_off (by omega), om_w_off (by omega), om_w_off (by omega), om_w_off (by omega), om_w_off (by omega)]) (by rw [om_w_off (by omega), om_w_off (by omega), om_w_off (by omega), om_w_off (by omega), om_w_off (by omega)])
  · rw [om_w_k (by omega), om_w_k (by omega), om_w_k (by omega), om_w_k (by omega), om_w_k (by omega), hs _ (by omega) (by omega) (by omega) (by omega)]
    exact u0
  · rw [om_w_k (by omega), om_w_k (by omega), om_w_k (by omega), om_w_k (by omega), om_w_k (by omega), hs _ (by omega) (by omega) (by omega) (by omega)]
    exact u1
  · rw [om_w_off (by omega), om_w_off (by omega), om_w_off (by omega), om_w_off (by omega), om_w_off (by omega), hs _ (by omega) (by omega) (by omega) (by omega)]
theorem x_towerCopyLoop {b b2 : Nat} {V : Nat → Nat} {Z : Int32} {C0 C1 : List Int32} (hb : IsT b) (hb2 : IsT b2) (hd : b ≠ b2) (hC0 : C0.length ≤ 60) (hC1 : C1.length ≤ 60) :
    ∀ (n i F : Nat) (σ : om_S), i + n = 9 → n < F → XT b2 V Z C0 C1 σ → σ (b + 2) 0 = nI 0 → σ (b + 6) 0 = nI 1 → (∀ j f, j < i → f < 5 → σ (b + 10 + j) f = nI (V (8 + 5 * j + f))) →
    ∃ σ', f_X6_copyFrom_b2 F b b2 (nI i) σ = some σ' ∧ XT b V Z C0 C1 σ' ∧ ∀ q, (q < b ∨ b + 19 ≤ q) → σ' q = σ q := by
  have hf := far hb hb2 hd
  have h9 : Int32.ofNat 9 = nI 9 := rfl
  intro n
  induction n with
  | zero =>
    intro i F σ hi hF hX u0 u1 hm
    obtain ⟨F, rfl⟩ : ∃ G, F = G + 1 := ⟨F - 1, by omega⟩
    obtain ⟨σ', q1, q2⟩ := x_towerCopyEnd hb hb2 hd hC0 hC1 hX u0 u1 (fun i f h1 h2 => hm i f (by omega) h2)
    refine ⟨σ', ?_, q2⟩
    unfold f_X6_copyFrom_b2
    simp only [tr0 hb, om_ref_s, tk1 hb, ta1 hb, if_true]
    rw [h9, if_pos (nI_le (by omega) (by omega)), q1]
  | succ n ih =>
    intro i F σ hi hF hX u0 u1 hm
    obtain ⟨F, rfl⟩ : ∃ G, F = G + 1 := ⟨F - 1, by omega⟩
    have hi9 : i < 9 := by omega
    obtain ⟨σ1, p1, p2, p3⟩ := x_memCopy (σ := σ) (tm hb hi9).2 (tm hb2 hi9).2 (by omega)
    have hX1 : XT b2 V Z C0 C1 σ1 := hX.congr fun k h1 h2 _ _ => p3 k (by omega)
    obtain ⟨σ', q1, q2, q3⟩ := ih (i + 1) F σ1 (by omega) (by omega) hX1 (by rw [p3 _ (by omega)]; exact u0) (by rw [p3 _ (by omega)]; exact u1) (fun j f hj hf => by
      by_cases e : j = i
      · subst e
        rw [p2 f hf]
        exact hX.2.2.2.2.2.1 j f hi9 hf
      · rw [p3 _ (by omega)]
        exact hm j f (by omega) hf)
    refine ⟨σ', ?_, q2, fun q hq => by rw [q3 q hq, p3 q (by omega)]⟩
    have c : (nI i).toNatClampNeg = i := nI_clamp (by omega)
    unfold f_X6_copyFrom_b2
    simp only [tr0 hb, tr0 hb2, om_ref_s, tk1 hb, tk1 hb2, ta1 hb, ta1 hb2, if_true, c, (tm hb hi9).1, (tm hb hi9).2, (tm hb2 hi9).1, (tm hb2 hi9).2, p1, do_s, f_X6_copyFrom_b50, nI_1]
    rw [h9, if_neg (nI_ge (by omega) (by omega)), if_neg (nI_ge (by omega) (by omega)), if_pos (in_nI (by omega) (by omega)), if_pos (in_nI (by omega) (by omega)), q1]
theorem x_towerCopy {b b2 : Nat} {V : Nat → Nat} {Z : Int32} {C0 C1 : List Int32} {σ : om_S} (hb : IsT b) (hb2 : IsT b2) (hd : b ≠ b2) (hC0 : C0.length ≤ 60) (hC1 : C1.length ≤ 60) (hX : XT b2 V Z C0 C1 σ) (u0 : σ (b + 2) 0 = nI 0) (u1 : σ (b + 6) 0 = nI 1) :
    ∃ σ', f_X6_copyFrom b b2 σ = some σ' ∧ XT b V Z C0 C1 σ' ∧ ∀ q, (q < b ∨ b + 19 ≤ q) → σ' q = σ q := by
  unfold f_X6_copyFrom
  rw [if_pos (tk hb), if_pos (tk hb2)]
  exact x_towerCopyLoop hb hb2 hd hC0 hC1 9 0 om_F σ rfl (by unfold om_F; omega) hX u0 u1 (fun j f hj => by omega)
theorem m_layDown {σ : om_S} : ∃ σ', f_X9_layDown 90 σ = some σ' ∧ (∀ j, j < 53 → σ' 93 j = σ 91 j) ∧ ∀ q, q ≠ 93 → σ' q = σ q := by
  have key : ∀ (n i F : Nat) (τ : om_S), i + n = 53 → n < F → (∀ j, j < i → τ 93 j = σ 91 j) → (∀ q, q ≠ 93 → τ q = σ q) → ∃ σ', f_X9_layDown_b2 F 90 (nI i) τ = some σ' ∧ (∀ j, j < 53 → σ' 93 j = σ 91 j) ∧ ∀ q, q ≠ 93 → σ' q = σ q := by
    intro n
    induction n with
    | zero =>
      intro i F τ hi hF h1 h2
      obtain ⟨F, rfl⟩ : ∃ G, F = G + 1 := ⟨F - 1, by omega⟩
      refine ⟨τ, ?_, fun j hj => h1 j (by omega), h2⟩
      unfold f_X9_layDown_b2
      rw [show (53 : Int32) = nI 53 from rfl, if_pos (nI_le (by omega) (by omega))]
    | succ n ih =>
      intro i F τ hi hF h1 h2
      obtain ⟨F, rfl⟩ : ∃ G, F = G + 1 := ⟨F - 1, by omega⟩
      have c : (nI i).toNatClampNeg = i := nI_clamp (by omega)
      obtain ⟨σ', q1, q2⟩ := ih (i + 1) F (om_w τ 93 i (τ 91 i)) (by omega) (by omega) (fun j hj => by
        by_cases e : j = i
        · subst e
          rw [om_w_s, h2 91 (by decide)]
        · rw [om_w_j e, h1 j (by omega)]) (fun q hq => by rw [om_w_off hq, h2 q hq])
      refine ⟨σ', ?_, q2⟩
      unfold f_X9_layDown_b2
      simp only [kM, rM, aM, om_ref_s, if_true, let_s, c, nI_1]
      rw [show (53 : Int32) = nI 53 from rfl, if_neg (nI_ge (by omega) (by omega)), if_pos (in_nI (by omega) (by omega)), if_pos (in_nI (by omega) (by omega)), q1]
  unfold f_X9_layDown
  rw [if_pos kM.1]
  exact key 53 0 om_F σ rfl (by unfold om_F; omega) (fun j hj => by omega) (fun _ _ => rfl)
theorem m_layBack {σ : om_S} : ∃ σ', f_X9_layBack 90 σ = some σ' ∧ (∀ j, j < 53 → σ' 91 j = σ 93 j) ∧ (∀ j, 53 ≤ j → σ' 91 j = σ 91 j) ∧ ∀ q, q ≠ 91 → σ' q = σ q := by
  have key : ∀ (n i F : Nat) (τ : om_S), i + n = 53 → n < F → (∀ j, j < i → τ 91 j = σ 93 j) → (∀ j, 53 ≤ j → τ 91 j = σ 91 j) → (∀ q, q ≠ 91 → τ q = σ q) → ∃ σ', f_X9_layBack_b2 F 90 (nI i) τ = some σ' ∧ (∀ j, j < 53 → σ' 91 j = σ 93 j) ∧ (∀ j, 53 ≤ j → σ' 91 j = σ 91 j) ∧ ∀ q, q ≠ 91 → σ' q = σ q := by
    intro n
    induction n with
    | zero =>
      intro i F τ hi hF h1 h3 h2
      obtain ⟨F, rfl⟩ : ∃ G, F = G + 1 := ⟨F - 1, by omega⟩
      refine ⟨τ, ?_, fun j hj => h1 j (by omega), h3, h2⟩
      unfold f_X9_layBack_b2
      rw [show (53 : Int32) = nI 53 from rfl, if_pos (nI_le (by omega) (by omega))]
    | succ n ih =>
      intro i F τ hi hF h1 h3 h2
      obtain ⟨F, rfl⟩ : ∃ G, F = G + 1 := ⟨F - 1, by omega⟩
      have c : (nI i).toNatClampNeg = i := nI_clamp (by omega)
      obtain ⟨σ', q1, q2⟩ := ih (i + 1) F (om_w τ 91 i (τ 93 i)) (by omega) (by omega) (fun j hj => by
        by_cases e : j = i
        · subst e
          rw [om_w_s, h2 93 (by decide)]
        · rw [om_w_j e, h1 j (by omega)]) (fun j hj => by rw [om_w_j (by omega), h3 j hj]) (fun q hq => by rw [om_w_off hq, h2 q hq])
      refine ⟨σ', ?_, q2⟩
      unfold f_X9_layBack_b2
      simp only [kM, rM, aM, om_ref_s, if_true, let_s, c, nI_1]
      rw [show (53 : Int32) = nI 53 from rfl, if_neg (nI_ge (by omega) (by omega)), if_pos (in_nI (by omega) (by omega)), if_pos (in_nI (by omega) (by omega)), q1]
  unfold f_X9_layBack
  rw [if_pos kM.1]
  exact key 53 0 om_F σ rfl (by unfold om_F; omega) (fun j hj => by omega) (fun _ _ => rfl) (fun _ _ => rfl)
theorem m_copyAll {a c : Nat} {σ : om_S} (ha : om_kc a = 20) (hc : om_kc c = 20) (ha2 : om_al a = 387) (hc2 : om_al c = 387) (hd : a ≠ c) : ∃ σ', f_X9_copyAll a c σ = some σ' ∧ (∀ j, j < 387 → σ' c j = σ a j) ∧ ∀ q, q ≠ c → σ' q = σ q := by
  have key : ∀ (n i F : Nat) (τ : om_S), i + n = 387 → n < F → (∀ j, j < i → τ c j = σ a j) → (∀ q, q ≠ c → τ q = σ q) → ∃ σ', f_X9_copyAll_b2 F a c (nI i) τ = some σ' ∧ (∀ j, j < 387 → σ' c j = σ a j) ∧ ∀ q, q ≠ c → σ' q = σ q := by
    intro n
    induction n with
    | zero =>
      intro i F τ hi hF h1 h2
      obtain ⟨F, rfl⟩ : ∃ G, F = G + 1 := ⟨F - 1, by omega⟩
      refine ⟨τ, ?_, fun j hj => h1 j (by omega), h2⟩
      unfold f_X9_copyAll_b2
      rw [show (387 : Int32) = nI 387 from rfl, if_pos (nI_le (by omega) (by omega))]
    | succ n ih =>
      intro i F τ hi hF h1 h2
      obtain ⟨F, rfl⟩ : ∃ G, F = G + 1 := ⟨F - 1, by omega⟩
      have cc : (nI i).toNatClampNeg = i := nI_clamp (by omega)
      obtain ⟨σ', q1, q2⟩ := ih (i + 1) F (om_w τ c i (τ a i)) (by omega) (by omega) (fun j hj => by
        by_cases e : j = i
        · subst e
          rw [om_w_s, h2 a hd]
        · rw [om_w_j e, h1 j (by omega)]) (fun q hq => by rw [om_w_off hq, h2 q hq])
      refine ⟨σ', ?_, q2⟩
      unfold f_X9_copyAll_b2
      simp only [ha2, hc2, let_s, cc, nI_1]
      rw [show (387 : Int32) = nI 387 from rfl, if_neg (nI_ge (by omega) (by omega)), if_pos (in_nI (by omega) (by omega)), if_pos (in_nI (by omega) (by omega)), q1]
  unfold f_X9_copyAll
  rw [if_pos ha, if_pos hc]
  exact key 387 0 om_F σ rfl (by unfold om_F; omega) (fun j hj => by omega) (fun _ _ => rfl)
