/-! ===== a tower, and the row of numbers that stands for it ===== -/
def IsT (b : Nat) : Prop := b = 1 ∨ b = 20 ∨ b = 39
theorem tk {b : Nat} (h : IsT b) : om_kc b = 6 := by rcases h with rfl | rfl | rfl <;> decide
theorem tk1 {b : Nat} (h : IsT b) : om_kc (b + 1) = 21 := by rcases h with rfl | rfl | rfl <;> decide
theorem ta1 {b : Nat} (h : IsT b) : om_al (b + 1) = 9 := by rcases h with rfl | rfl | rfl <;> decide
theorem tr0 {b : Nat} (h : IsT b) : om_rf b 0 = some (b + 1) := by rcases h with rfl | rfl | rfl <;> decide
theorem tr1 {b : Nat} (h : IsT b) : om_rf b 1 = some (b + 2) := by rcases h with rfl | rfl | rfl <;> decide
theorem tr2 {b : Nat} (h : IsT b) : om_rf b 2 = some (b + 6) := by rcases h with rfl | rfl | rfl <;> decide
theorem tk2 {b : Nat} (h : IsT b) : om_kc (b + 2) = 5 := by rcases h with rfl | rfl | rfl <;> decide
theorem tk6 {b : Nat} (h : IsT b) : om_kc (b + 6) = 5 := by rcases h with rfl | rfl | rfl <;> decide
theorem tm_all : ∀ i, i < 9 → (om_rf 2 i = some (11 + i) ∧ om_kc (11 + i) = 1) ∧ (om_rf 21 i = some (30 + i) ∧ om_kc (30 + i) = 1) ∧ (om_rf 40 i = some (49 + i) ∧ om_kc (49 + i) = 1) := by decide +kernel
theorem tm {b i : Nat} (h : IsT b) (hi : i < 9) : om_rf (b + 1) i = some (b + 10 + i) ∧ om_kc (b + 10 + i) = 1 := by
  rcases h with rfl | rfl | rfl
  · exact (tm_all i hi).1
  · exact (tm_all i hi).2.1
  · exact (tm_all i hi).2.2
theorem tx0 {b : Nat} (h : IsT b) : IsTx (b + 2) (b + 3) (b + 4) (b + 5) := by
  refine ⟨tk2 h, ?_, ⟨?_, ?_, ?_, ?_, by omega, by omega⟩, ?_, ?_, ?_, by omega, by omega, by omega⟩ <;> rcases h with rfl | rfl | rfl <;> decide
theorem tx1 {b : Nat} (h : IsT b) : IsTx (b + 6) (b + 7) (b + 8) (b + 9) := by
  refine ⟨tk6 h, ?_, ⟨?_, ?_, ?_, ?_, by omega, by omega⟩, ?_, ?_, ?_, by omega, by omega, by omega⟩ <;> rcases h with rfl | rfl | rfl <;> decide
def XT (b : Nat) (V : Nat → Nat) (Z : Int32) (C0 C1 : List Int32) (σ : om_S) : Prop :=
  σ b 3 = nI (V 6) ∧ σ b 4 = nI (V 0) ∧ σ b 5 = nI (V 1) ∧ σ b 6 = nI (V 2) ∧ σ b 7 = Z ∧ (∀ i f, i < 9 → f < 5 → σ (b + 10 + i) f = nI (V (8 + 5 * i + f))) ∧ XRow (b + 3) (b + 4) C0 σ ∧ XRow (b + 7) (b + 8) C1 σ ∧ σ (b + 2) 0 = nI 0 ∧ σ (b + 6) 0 = nI 1
theorem XT.congr {b : Nat} {V : Nat → Nat} {Z : Int32} {C0 C1 : List Int32} {σ σ' : om_S} (h : XT b V Z C0 C1 σ) (e : ∀ k, b ≤ k → k < b + 19 → k ≠ b + 5 → k ≠ b + 9 → σ' k = σ k) : XT b V Z C0 C1 σ' := by
  obtain ⟨h1, h2, h3, h4, h5, h6, h7, h8, h9, h10⟩ := h
  have e0 := e b (by omega) (by omega) (by omega) (by omega)
  refine ⟨by rw [e0]; exact h1, by rw [e0]; exact h2, by rw [e0]; exact h3, by rw [e0]; exact h4, by rw [e0]; exact h5, fun i f hi hf => ?_, h7.congr (e _ (by omega) (by omega) (by omega) (by omega)) (e _ (by omega) (by omega) (by omega) (by omega)), h8.congr (e _ (by omega) (by omega) (by omega) (by omega)) (e _ (by omega) (by omega) (by omega) (by omega)), ?_, ?_⟩
  · rw [e (b + 10 + i) (by omega) (by omega) (by omega) (by omega)]
    exact h6 i f hi hf
  · rw [e (b + 2) (by omega) (by omega) (by omega) (by omega)]
    exact h9
  · rw [e (b + 6) (by omega) (by omega) (by omega) (by omega)]
    exact h10
def WV (V : Nat → Nat) : Prop := V 6 ≤ 9 ∧ V 0 ≤ 9 ∧ V 1 ≤ 20000 ∧ V 2 ≤ 9999 ∧ ∀ i, i < 9 → V (8 + 5 * i) ≤ 6 ∧ V (8 + 5 * i + 1) ≤ 9 ∧ V (8 + 5 * i + 2) ≤ 15 ∧ V (8 + 5 * i + 3) ≤ 99 ∧ V (8 + 5 * i + 4) ≤ 99
def MT (a : Nat) (V : Nat → Nat) (Z : Int32) (C0 C1 : List Int32) (σ : om_S) : Prop :=
  σ a 6 = nI (V 6) ∧ σ a 0 = nI (V 0) ∧ σ a 1 = nI (V 1) ∧ σ a 2 = nI (V 2) ∧ σ a 3 = Z ∧ (∀ i f, i < 9 → f < 5 → σ a (8 + 5 * i + f) = nI (V (8 + 5 * i + f))) ∧ MText a 0 C0 σ ∧ MText a 1 C1 σ
theorem MT.congr {a : Nat} {V : Nat → Nat} {Z : Int32} {C0 C1 : List Int32} {σ σ' : om_S} (h : MT a V Z C0 C1 σ) (e : σ' a = σ a) : MT a V Z C0 C1 σ' := by
  obtain ⟨h1, h2, h3, h4, h5, h6, h7, h8⟩ := h
  refine ⟨by rw [e]; exact h1, by rw [e]; exact h2, by rw [e]; exact h3, by rw [e]; exact h4, by rw [e]; exact h5, fun i f hi hf => by rw [e]; exact h6 i f hi hf, h7.congr e, h8.congr e⟩
theorem x_atNo {b c : Nat} {x : Int32} {σ : om_S} (hb : IsT b) (h : σ b 3 = nI c) (hx : x < 0 ∨ nI c ≤ x) : f_X6_at b x σ = some (none, σ) := by
  unfold f_X6_at
  simp only [tk hb, tr0 hb, om_ref_s, tk1 hb, if_true, h]
  by_cases h1 : x < 0
  · rw [if_pos h1]
  · rw [if_neg h1, if_pos (hx.resolve_left h1)]
theorem x_atI {b c i : Nat} {σ : om_S} (hb : IsT b) (h : σ b 3 = nI c) (hi : i < c) (hc : c ≤ 9) : f_X6_at b (nI i) σ = some (some (b + 10 + i), σ) := by
  have h9 : Int32.ofNat 9 = nI 9 := rfl
  have hci : (nI i).toNatClampNeg = i := nI_clamp (by omega)
  unfold f_X6_at
  simp only [tk hb, tr0 hb, om_ref_s, tk1 hb, ta1 hb, if_true, h, hci, (tm hb (show i < 9 by omega)).1, (tm hb (show i < 9 by omega)).2]
  rw [if_neg (nI_pos (by omega)), if_neg (nI_ge hi (by omega)), h9, if_neg (nI_ge (by omega) (by omega)), if_pos (in_nI (by omega) (by omega))]
def many (w : Nat) : Nat := w % 2 + w / 2 % 2 + w / 4 % 2 + w / 8 % 2
theorem many_le (w : Nat) : many w ≤ 4 := by
  unfold many
  omega
theorem bits_all : ∀ w, w < 16 → (f_J6_bitCount_0f7a4 (nI w) om_s0).map Prod.fst = some (nI (many w)) := by decide +kernel
theorem bits_s {v : Int32} {σ : om_S} : f_J6_bitCount_0f7a4 v σ = (f_J6_bitCount_0f7a4 v om_s0).map (fun q => (q.1, σ)) := rfl
theorem x_bits {w : Nat} {σ : om_S} (h : w < 16) : f_J6_bitCount_0f7a4 (nI w) σ = some (nI (many w), σ) := by
  have h1 := bits_all w h
  rw [bits_s]
  cases hq : f_J6_bitCount_0f7a4 (nI w) om_s0 with
  | none =>
    rw [hq] at h1
    cases h1
  | some q =>
    rw [hq] at h1
    have h2 : q.1 = nI (many w) := Option.some.inj h1
    show some (q.1, σ) = _
    rw [h2]
theorem manyIn_all : ∀ w, w < 16 → (f_X9_manyIn (nI w) om_s0).map Prod.fst = some (nI (many w)) := by decide +kernel
theorem manyIn_s {v0 : Int32} {σ : om_S} : ∀ (F : Nat) (v1 v2 : Int32), f_X9_manyIn_b4 F v0 v1 v2 σ = (f_X9_manyIn_b4 F v0 v1 v2 om_s0).map (fun q => (q.1, σ)) := by
  intro F
  induction F with
  | zero =>
    intro v1 v2
    rfl
  | succ F ih =>
    intro v1 v2
    unfold f_X9_manyIn_b4
    simp only [let_s]
    by_cases h : (4 : Int32) ≤ v2
    · rw [if_pos h, if_pos h]
      rfl
    · rw [if_neg h, if_neg h]
      exact ih _ _
theorem m_many {w : Nat} {σ : om_S} (h : w < 16) : f_X9_manyIn (nI w) σ = some (nI (many w), σ) := by
  have h1 := manyIn_all w h
  unfold f_X9_manyIn at h1 ⊢
  rw [manyIn_s]
  cases hq : f_X9_manyIn_b4 om_F (nI w) 0 0 om_s0 with
  | none =>
    rw [hq] at h1
    cases h1
  | some q =>
    rw [hq] at h1
    have h2 : q.1 = nI (many w) := Option.some.inj h1
    show some (q.1, σ) = _
    rw [h2]
def burnF (k m w l n : Int32) : Int32 := if k = 1 then (10 + m) + 5 else if k = 2 then 2 * (10 + m) else if k = 3 then (10 + m) / 2 else if k = 4 then (10 + m) + 5 + 10 * (w - 1) else if k = 5 then 2 * (10 + m) + (n - n / 5 * 5) else if k = 6 then 4 + l / 10 else 10 + m
def smokeF (k m wt w : Int32) : Int32 := if k = 1 then (if w < 3 then wt / 3 else wt / 3 + 3) else if k = 2 then 0 else if k = 3 then wt / 3 + m + 2 else if k = 4 then (if w < 3 then wt / 3 else wt / 3 + 3) + w else if k = 5 then wt else if k = 6 then 0 else wt / 3
theorem x_burns {a w : Nat} {n : Int32} {σ : om_S} (ha : om_kc a = 1) (hw : σ a 2 = nI w) (hw2 : w < 16) : f_X1_burns a n σ = some (burnF (σ a 0) (σ a 1) (nI (many w)) (σ a 3) n, σ) := by
  unfold f_X1_burns burnF
  simp only [ha, if_true, let_s, hw, x_bits hw2, call_s, ite_s]
theorem x_smoke {a w : Nat} {wt : Int32} {σ : om_S} (ha : om_kc a = 1) (hw : σ a 2 = nI w) (hw2 : w < 16) : f_X1_smoke a wt σ = some (smokeF (σ a 0) (σ a 1) wt (nI (many w)), σ) := by
  unfold f_X1_smoke f_X1_smoke_b24 smokeF
  simp only [ha, if_true, hw, x_bits hw2, call_s, ite_s]
  by_cases h : nI (many w) < 3 <;> simp only [h, if_true, if_false]
theorem ix_mem (i f : Nat) : (8 : Int32) + 5 * nI i + nI f = nI (8 + 5 * i + f) := by
  rw [show (5 : Int32) = nI 5 from rfl, show (8 : Int32) = nI 8 from rfl, pk_mul, nI_add, nI_add]
theorem m_its {i f : Nat} {σ : om_S} (hi : i < 9) (hf : f < 5) : f_X9_its 90 (nI i) (nI f) σ = some (σ 91 (8 + 5 * i + f), σ) := by
  have c : (nI (8 + 5 * i + f)).toNatClampNeg = 8 + 5 * i + f := nI_clamp (by omega)
  unfold f_X9_its
  simp only [kM, rM, aM, om_ref_s, if_true, ix_mem, c]
  rw [if_pos (in_nI (by omega) (by omega))]
theorem m_lays1 {i f : Nat} {v : Int32} {σ : om_S} (hi : i < 9) (hf : f < 5) : f_X9_lays1 90 (nI i) (nI f) v σ = some (om_w σ 91 (8 + 5 * i + f) v) := by
  have c : (nI (8 + 5 * i + f)).toNatClampNeg = 8 + 5 * i + f := nI_clamp (by omega)
  unfold f_X9_lays1
  simp only [kM, rM, aM, om_ref_s, if_true, ix_mem, c, let_s]
  rw [if_pos (in_nI (by omega) (by omega))]
theorem m_its0 {i : Nat} {σ : om_S} (hi : i < 9) : f_X9_its 90 (nI i) 0 σ = some (σ 91 (8 + 5 * i), σ) := m_its (f := 0) hi (by omega)
theorem m_its1 {i : Nat} {σ : om_S} (hi : i < 9) : f_X9_its 90 (nI i) 1 σ = some (σ 91 (8 + 5 * i + 1), σ) := m_its (f := 1) hi (by omega)
theorem m_its2 {i : Nat} {σ : om_S} (hi : i < 9) : f_X9_its 90 (nI i) 2 σ = some (σ 91 (8 + 5 * i + 2), σ) := m_its (f := 2) hi (by omega)
theorem m_its3 {i : Nat} {σ : om_S} (hi : i < 9) : f_X9_its 90 (nI i) 3 σ = some (σ 91 (8 + 5 * i + 3), σ) := m_its (f := 3) hi (by omega)
theorem m_its4 {i : Nat} {σ : om_S} (hi : i < 9) : f_X9_its 90 (nI i) 4 σ = some (σ 91 (8 + 5 * i + 4), σ) := m_its (f := 4) hi (by omega)
theorem cl0 : (0 : Int32).toNatClampNeg = 0 := rfl
theorem cl1 : (1 : Int32).toNatClampNeg = 1 := by decide
theorem cl2 : (2 : Int32).toNatClampNeg = 2 := by decide
theorem cl6 : (6 : Int32).toNatClampNeg = 6 := by decide
theorem in0_387 : om_in 0 387 = True := eq_true (by decide)
theorem in1_387 : om_in 1 387 = True := eq_true (by decide)
theorem in2_387 : om_in 2 387 = True := eq_true (by decide)
theorem in6_387 : om_in 6 387 = True := eq_true (by decide)
theorem m_burns {i : Nat} {w : Int32} {σ : om_S} (hi : i < 9) : f_X9_burnsOf 90 (nI i) w σ = some (burnF (σ 91 (8 + 5 * i)) (σ 91 (8 + 5 * i + 1)) w (σ 91 (8 + 5 * i + 3)) (σ 91 1), σ) := by
  unfold f_X9_burnsOf burnF
  simp only [kM, rM, aM, om_ref_s, if_true, m_its0 hi, m_its1 hi, m_its3 hi, call_s, in1_387, cl1, ite_s]
theorem m_smoke {i w : Nat} {σ : om_S} (hi : i < 9) (hw : w ≤ 4) : f_X9_smokeOf 90 (nI i) (nI w) σ = some (smokeF (σ 91 (8 + 5 * i)) (σ 91 (8 + 5 * i + 1)) (σ 91 0) (nI w), σ) := by
  unfold f_X9_smokeOf f_X9_smokeOf_b19 smokeF
  have e : ((nI w ≤ 2) ↔ nI w < 3) := by
    rw [show (2 : Int32) = nI 2 from rfl, show (3 : Int32) = nI 3 from rfl, nI_leI (by omega) (by omega), nI_ltI (by omega) (by omega)]
    omega
  simp only [kM, rM, aM, om_ref_s, if_true, m_its0 hi, m_its1 hi, call_s, in0_387, cl0, ite_s, let_s, e]
  by_cases h : nI w < 3 <;> simp only [h, if_true, if_false, Int32.add_zero]
