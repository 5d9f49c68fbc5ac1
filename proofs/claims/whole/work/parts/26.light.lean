/-! ===== light, what one gives, what is wanted ===== -/
def lightV (V : Nat → Nat) (C0 : List Int32) (i w : Nat) : Int32 :=
  textF 0 C0 (burnF (nI (V (8 + 5 * i))) (nI (V (8 + 5 * i + 1))) (nI (many w)) (nI (V (8 + 5 * i + 3))) (nI (V 1))) (nI (many w)) (nI (V 1) - nI (V 1) / 7 * 7)
def smokeV (V : Nat → Nat) (i w : Nat) : Int32 := smokeF (nI (V (8 + 5 * i))) (nI (V (8 + 5 * i + 1))) (nI (V 0)) (nI (many w))
def givesV (V : Nat → Nat) (C0 : List Int32) (i w : Nat) : Int32 := lightV V C0 i w - smokeV V i w
def kwo (V : Nat → Nat) : Nat → Nat
  | 0 => 0
  | i + 1 => if V (8 + 5 * i + 3) = 0 then kwo V i else kwo V i ||| V (8 + 5 * i + 2)
def wantedV (V : Nat → Nat) (C1 : List Int32) : Int32 := textF 1 C1 (nI (V 0)) (nI (V 1) - nI (V 1) / 7 * 7) (nI (many (kwo V (V 6))))
theorem or_all : ∀ a, a < 16 → ∀ c, c < 16 → nI a ||| nI c = nI (a ||| c) ∧ (a ||| c) < 16 := by decide +kernel
theorem kwo_lt {V : Nat → Nat} (hV : WV V) : ∀ i, i ≤ 9 → kwo V i < 16 := by
  intro i
  induction i with
  | zero =>
    intro _
    exact (by decide : (0 : Nat) < 16)
  | succ i ih =>
    intro hi
    unfold kwo
    by_cases h : V (8 + 5 * i + 3) = 0
    · rw [if_pos h]
      exact ih (by omega)
    · rw [if_neg h]
      exact (or_all _ (ih (by omega)) _ (by have := (hV.2.2.2.2 i (by omega)).2.2.1; omega)).2
theorem x_light {b i : Nat} {V : Nat → Nat} {Z : Int32} {C0 C1 : List Int32} {σ : om_S} (hb : IsT b) (hV : WV V) (hC : WC C0) (h : XT b V Z C0 C1 σ) (hi : i < 9) :
    ∃ σ', f_X6_light b (b + 10 + i) σ = some (lightV V C0 i (V (8 + 5 * i + 2)), σ') ∧ ∀ q, q ≠ b + 5 → σ' q = σ q := by
  have hm := tm hb hi
  have hw := hV.2.2.2.2 i hi
  obtain ⟨h1, h2, h3, h4, h5, h6, h7, h8, h9, h10⟩ := h
  have e2 := h6 i 2 hi (by omega)
  have hu := x_burns (n := nI (V 1)) hm.2 e2 (by omega)
  rw [h6 i 1 hi (by omega), h6 i 3 hi (by omega), show σ (b + 10 + i) 0 = nI (V (8 + 5 * i)) from h6 i 0 hi (by omega)] at hu
  obtain ⟨σ', q1, q2⟩ := x_gives (a := burnF (nI (V (8 + 5 * i))) (nI (V (8 + 5 * i + 1))) (nI (many (V (8 + 5 * i + 2)))) (nI (V (8 + 5 * i + 3))) (nI (V 1))) (b := nI (many (V (8 + 5 * i + 2)))) (c := nI (V 1) - nI (V 1) / 7 * 7) (tx0 hb) (by omega) h9 hC h7
  refine ⟨σ', ?_, q2⟩
  unfold f_X6_light
  simp only [tk hb, hm.2, if_true, tr1 hb, om_ref_s, tk2 hb, h3, hu, call_s, e2, x_bits (show V (8 + 5 * i + 2) < 16 by omega), q1]
  rfl
theorem x_smokeV {b i : Nat} {V : Nat → Nat} {Z : Int32} {C0 C1 : List Int32} {σ : om_S} (hb : IsT b) (hV : WV V) (h : XT b V Z C0 C1 σ) (hi : i < 9) :
    f_X1_smoke (b + 10 + i) (nI (V 0)) σ = some (smokeV V i (V (8 + 5 * i + 2)), σ) := by
  have hm := tm hb hi
  have hw := hV.2.2.2.2 i hi
  obtain ⟨h1, h2, h3, h4, h5, h6, h7, h8, h9, h10⟩ := h
  have e2 := h6 i 2 hi (by omega)
  rw [x_smoke hm.2 e2 (by omega), h6 i 1 hi (by omega), show σ (b + 10 + i) 0 = nI (V (8 + 5 * i)) from h6 i 0 hi (by omega)]
  rfl
theorem x_givesM {b i : Nat} {V : Nat → Nat} {Z : Int32} {C0 C1 : List Int32} {σ : om_S} (hb : IsT b) (hV : WV V) (hC : WC C0) (h : XT b V Z C0 C1 σ) (hi : i < 9) :
    ∃ σ', f_X6_gives b (b + 10 + i) σ = some (givesV V C0 i (V (8 + 5 * i + 2)), σ') ∧ ∀ q, q ≠ b + 5 → σ' q = σ q := by
  obtain ⟨σ', q1, q2⟩ := x_light hb hV hC h hi
  have h' : XT b V Z C0 C1 σ' := h.congr fun k _ _ h5 _ => q2 k h5
  refine ⟨σ', ?_, q2⟩
  have hm := tm hb hi
  unfold f_X6_gives
  simp only [tk hb, hm.2, if_true, q1, call_s, h'.2.1, x_smokeV hb hV h' hi]
  rfl
theorem x_kwo {b : Nat} {V : Nat → Nat} {Z : Int32} {C0 C1 : List Int32} {σ : om_S} (hb : IsT b) (hV : WV V) (h : XT b V Z C0 C1 σ) :
    f_X6_keepersWithOil b σ = some (nI (many (kwo V (V 6))), σ) := by
  have key : ∀ (n i F : Nat), i + n = V 6 → n < F → f_X6_keepersWithOil_b4 F b (nI (kwo V i)) (nI i) σ = some (nI (many (kwo V (V 6))), σ) := by
    intro n
    induction n with
    | zero =>
      intro i F hi hF
      obtain ⟨F, rfl⟩ : ∃ G, F = G + 1 := ⟨F - 1, by omega⟩
      have h6 := hV.1
      unfold f_X6_keepersWithOil_b4
      rw [h.1, if_pos (nI_le (by omega) (by omega)), x_bits (kwo_lt hV i (by omega))]
      simp only [call_s]
      rw [show i = V 6 by omega]
    | succ n ih =>
      intro i F hi hF
      obtain ⟨F, rfl⟩ : ∃ G, F = G + 1 := ⟨F - 1, by omega⟩
      have h6 := hV.1
      have hw := hV.2.2.2.2 i (by omega)
      have hm := tm hb (show i < 9 by omega)
      unfold f_X6_keepersWithOil_b4
      rw [h.1, if_neg (nI_ge (by omega) (by omega)), x_atI hb h.1 (by omega) h6]
      simp only [call_s, om_nul_s, hm.2, if_true, h.2.2.2.2.2.1 i 3 (by omega) (by omega), h.2.2.2.2.2.1 i 2 (by omega) (by omega)]
      unfold f_X6_keepersWithOil_b36
      rw [nI_1]
      have e : kwo V (i + 1) = if V (8 + 5 * i + 3) = 0 then kwo V i else kwo V i ||| V (8 + 5 * i + 2) := rfl
      by_cases hl : V (8 + 5 * i + 3) = 0
      · rw [hl, if_pos (by decide)]
        rw [if_pos hl] at e
        rw [← e]
        exact ih (i + 1) F (by omega) (by omega)
      · rw [if_neg (nI_nle (by omega) (by omega)), (or_all _ (kwo_lt hV i (by omega)) _ (by omega)).1]
        rw [if_neg hl] at e
        rw [← e]
        exact ih (i + 1) F (by omega) (by omega)
  unfold f_X6_keepersWithOil
  rw [if_pos (tk hb)]
  exact key (V 6) 0 om_F (by omega) (by have := hV.1; unfold om_F; omega)
theorem x_wanted {b : Nat} {V : Nat → Nat} {Z : Int32} {C0 C1 : List Int32} {σ : om_S} (hb : IsT b) (hV : WV V) (hC : WC C1) (h : XT b V Z C0 C1 σ) :
    ∃ σ', f_X6_wanted b σ = some (wantedV V C1, σ') ∧ ∀ q, q ≠ b + 9 → σ' q = σ q := by
  have hk := x_kwo hb hV h
  obtain ⟨h1, h2, h3, h4, h5, h6, h7, h8, h9, h10⟩ := h
  obtain ⟨σ', q1, q2⟩ := x_gives (a := nI (V 0)) (b := nI (V 1) - nI (V 1) / 7 * 7) (c := nI (many (kwo V (V 6)))) (tx1 hb) (by omega) h10 hC h8
  refine ⟨σ', ?_, q2⟩
  unfold f_X6_wanted
  simp only [tk hb, if_true, tr2 hb, om_ref_s, tk6 hb, hk, call_s, h2, h3, q1]
  rfl
theorem m_lightBy {i w : Nat} {V : Nat → Nat} {Z : Int32} {C0 C1 : List Int32} {σ : om_S} (hC : WC C0) (h : MT 91 V Z C0 C1 σ) (hi : i < 9) (hw : w < 16) :
    ∃ σ', f_X9_lightBy 90 (nI i) (nI w) σ = some (lightV V C0 i w, σ') ∧ ∀ q, q ≠ 96 → q ≠ 97 → σ' q = σ q := by
  obtain ⟨h1, h2, h3, h4, h5, h6, h7, h8⟩ := h
  have e0 : σ 91 (8 + 5 * i) = nI (V (8 + 5 * i)) := h6 i 0 hi (by omega)
  have e1 := h6 i 1 hi (by omega)
  have e3 := h6 i 3 hi (by omega)
  obtain ⟨σ', q1, q2⟩ := m_told (u := 0) (a := burnF (nI (V (8 + 5 * i))) (nI (V (8 + 5 * i + 1))) (nI (many w)) (nI (V (8 + 5 * i + 3))) (nI (V 1))) (b := nI (many w)) (c := nI (V 1) - nI (V 1) / 7 * 7) (by omega) hC h7
  rw [if_pos rfl] at q1
  refine ⟨σ', ?_, q2⟩
  unfold f_X9_lightBy
  simp only [kM, rM, aM, om_ref_s, if_true, m_many hw, call_s, m_burns hi, in1_387, cl1, e0, e1, e3, h3, q1]
  rfl
theorem m_smokeV {i w : Nat} {V : Nat → Nat} {Z : Int32} {C0 C1 : List Int32} {σ : om_S} (h : MT 91 V Z C0 C1 σ) (hi : i < 9) :
    f_X9_smokeOf 90 (nI i) (nI (many w)) σ = some (smokeV V i w, σ) := by
  obtain ⟨h1, h2, h3, h4, h5, h6, h7, h8⟩ := h
  have e0 : σ 91 (8 + 5 * i) = nI (V (8 + 5 * i)) := h6 i 0 hi (by omega)
  have e1 := h6 i 1 hi (by omega)
  rw [m_smoke hi (many_le w), e0, e1, h2]
  rfl
theorem m_givesBy {i w : Nat} {V : Nat → Nat} {Z : Int32} {C0 C1 : List Int32} {σ : om_S} (hC : WC C0) (h : MT 91 V Z C0 C1 σ) (hi : i < 9) (hw : w < 16) :
    ∃ σ', f_X9_givesBy 90 (nI i) (nI w) σ = some (givesV V C0 i w, σ') ∧ ∀ q, q ≠ 96 → q ≠ 97 → σ' q = σ q := by
  obtain ⟨σ', q1, q2⟩ := m_lightBy hC h hi hw
  have h' : MT 91 V Z C0 C1 σ' := h.congr (q2 91 (by decide) (by decide))
  refine ⟨σ', ?_, q2⟩
  unfold f_X9_givesBy
  simp only [kM, if_true, q1, call_s, m_many hw, m_smokeV h' hi]
  rfl
theorem m_wanted {V : Nat → Nat} {Z : Int32} {C0 C1 : List Int32} {σ : om_S} (hV : WV V) (hC : WC C1) (h : MT 91 V Z C0 C1 σ) :
    ∃ σ', f_X9_wanted 90 σ = some (wantedV V C1, σ') ∧ ∀ q, q ≠ 96 → q ≠ 97 → σ' q = σ q := by
  have h' := h
  obtain ⟨h1, h2, h3, h4, h5, h6, h7, h8⟩ := h
  have key : ∀ (n i F : Nat), i + n = V 6 → n < F → ∃ σ', f_X9_wanted_b4 F 90 (nI (kwo V i)) (nI i) σ = some (wantedV V C1, σ') ∧ ∀ q, q ≠ 96 → q ≠ 97 → σ' q = σ q := by
    intro n
    induction n with
    | zero =>
      intro i F hi hF
      obtain ⟨F, rfl⟩ : ∃ G, F = G + 1 := ⟨F - 1, by omega⟩
      have g6 := hV.1
      obtain ⟨σ', q1, q2⟩ := m_told (u := 1) (a := nI (V 0)) (b := nI (V 1) - nI (V 1) / 7 * 7) (c := nI (many (kwo V (V 6)))) (by omega) hC h8
      rw [if_neg (by decide)] at q1
      refine ⟨σ', ?_, q2⟩
      unfold f_X9_wanted_b4
      simp only [kM, rM, aM, om_ref_s, if_true, in0_387, in1_387, in6_387, cl0, cl1, cl6, h1, h2, h3]
      rw [if_pos (nI_le (by omega) (by omega)), m_many (kwo_lt hV i (by omega)), show i = V 6 by omega]
      simp only [call_s, q1]
      rfl
    | succ n ih =>
      intro i F hi hF
      obtain ⟨F, rfl⟩ : ∃ G, F = G + 1 := ⟨F - 1, by omega⟩
      have g6 := hV.1
      have hw := hV.2.2.2.2 i (by omega)
      unfold f_X9_wanted_b4
      simp only [kM, rM, aM, om_ref_s, if_true, in0_387, in1_387, in6_387, cl0, cl1, cl6, h1, h2, h3]
      rw [if_neg (nI_ge (by omega) (by omega))]
      simp only [m_its3 (show i < 9 by omega), m_its2 (show i < 9 by omega), call_s, h6 i 3 (by omega) (by omega), h6 i 2 (by omega) (by omega)]
      unfold f_X9_wanted_b35
      rw [nI_1]
      have e : kwo V (i + 1) = if V (8 + 5 * i + 3) = 0 then kwo V i else kwo V i ||| V (8 + 5 * i + 2) := rfl
      by_cases hl : V (8 + 5 * i + 3) = 0
      · rw [hl, if_pos (by decide)]
        rw [if_pos hl] at e
        rw [Int32.or_zero, ← e]
        exact ih (i + 1) F (by omega) (by omega)
      · rw [if_neg (nI_nle (by omega) (by omega)), (or_all _ (kwo_lt hV i (by omega)) _ (by omega)).1]
        rw [if_neg hl] at e
        rw [← e]
        exact ih (i + 1) F (by omega) (by omega)
  unfold f_X9_wanted
  rw [if_pos kM.1]
  exact key (V 6) 0 om_F (by omega) (by have := hV.1; unfold om_F; omega)
