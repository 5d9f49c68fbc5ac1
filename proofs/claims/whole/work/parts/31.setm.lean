theorem m_setLoop {V : Nat → Nat} {Z : Int32} {C0 C1 : List Int32} {sp want : Int32} (hV : WV V) (hC0 : WC C0) :
    ∀ (n i F : Nat) (σ : om_S), i + n = V 6 → n < F → MT 91 V Z C0 C1 σ → ArM (FL V C0 (eB V sp) i) (2 ^ i) σ →
    ∃ σ', f_X9_tonightSet_b55 F 90 (nI (mk (eB V sp) (V 6))) want (nI i) σ = some (triI (pk want (TL V C0 sp (V 6)) none), σ') ∧ (∀ t, pk want (TL V C0 sp (V 6)) none = some t → t.1 < 2 ^ (V 6) ∧ σ' 98 t.1 = t.2.1 ∧ σ' 99 t.1 = t.2.2) ∧ σ' 98 0 = 0 ∧ σ' 99 0 = 0 ∧ ∀ q, q ≠ 96 → q ≠ 97 → q ≠ 98 → q ≠ 99 → σ' q = σ q := by
  have h6 := hV.1
  intro n
  induction n with
  | zero =>
    intro i F σ hi hF hX hA
    obtain ⟨F, rfl⟩ : ∃ G, F = G + 1 := ⟨F - 1, by omega⟩
    have hi' : i = V 6 := by omega
    subst hi'
    have hl := FL_len V C0 (eB V sp) (V 6)
    have hp := p9 h6
    obtain ⟨q1, q2⟩ := m_bestLoop (V := V) (n := V 6) (want := want) (L := FL V C0 (eB V sp) (V 6)) h6 (mk_lt (eB V sp) (V 6)) hl (FL_ix V C0 (eB V sp) (V 6)) hX.1 hA (FL V C0 (eB V sp) (V 6)) 0 om_F none rfl (Nat.zero_le _) (by unfold om_F; omega) (fun t ht => by cases ht)
    rw [← TL_FL] at q1 q2
    have hz : (FL V C0 (eB V sp) (V 6)).getD 0 (0, 0, 0) = (0, 0, 0) := by
      have : ∀ k, (FL V C0 (eB V sp) k).getD 0 (0, 0, 0) = (0, 0, 0) := by
        intro k
        induction k with
        | zero => rfl
        | succ k ihk =>
          have hk := FL_len V C0 (eB V sp) k
          have hk2 : 0 < 2 ^ k := Nat.pow_pos (by decide)
          unfold FL
          rw [getD_l (by omega)]
          exact ihk
      exact this _
    have hz2 := hA 0 (Nat.pow_pos (by decide))
    rw [hz] at hz2
    refine ⟨σ, ?_, q2, hz2.1, hz2.2, fun _ _ _ _ _ => rfl⟩
    unfold f_X9_tonightSet_b55
    simp only [kM, rM, aM, om_ref_s, if_true, in6_387, cl6, hX.1]
    rw [if_pos (nI_le (Nat.le_refl _) (by omega))]
    exact q1
  | succ n ih =>
    intro i F σ hi hF hX hA
    obtain ⟨F, rfl⟩ : ∃ G, F = G + 1 := ⟨F - 1, by omega⟩
    have hw := hV.2.2.2.2 i (by omega)
    have hl := FL_len V C0 (eB V sp) i
    have hm := mk_lt (eB V sp) (V 6)
    have hp := p9 h6
    have hp8 := p8 (show i < 9 by omega)
    have fin : ∀ (σ1 : om_S) (g : Int32), g = (if eB V sp i = true then givesV V C0 i (V (8 + 5 * i + 2)) else 0) → MT 91 V Z C0 C1 σ1 → (∀ q, q ≠ 96 → q ≠ 97 → σ1 q = σ q) →
        ∃ σ', f_X9_tonightSet_b90 (f_X9_tonightSet_b55 F) 90 (nI (mk (eB V sp) (V 6))) want (nI i) g σ1 = some (triI (pk want (TL V C0 sp (V 6)) none), σ') ∧ (∀ t, pk want (TL V C0 sp (V 6)) none = some t → t.1 < 2 ^ (V 6) ∧ σ' 98 t.1 = t.2.1 ∧ σ' 99 t.1 = t.2.2) ∧ σ' 98 0 = 0 ∧ σ' 99 0 = 0 ∧ ∀ q, q ≠ 96 → q ≠ 97 → q ≠ 98 → q ≠ 99 → σ' q = σ q := by
      intro σ1 g hg hX1 hf
      obtain ⟨σ2, r1, r2, r3, r4⟩ := m_fillLoop (C0 := C0) (C1 := C1) (V := V) (Z := Z) (lp := f_X9_tonightSet_b55 F) (v1 := nI (mk (eB V sp) (V 6))) (v2 := want) (g := g) (d := nI (V (8 + 5 * i + 4))) (i := i) (L := FL V C0 (eB V sp) i) (by omega) hl rfl (2 ^ i) 0 om_F σ1 (by omega) (by unfold om_F; omega) hX1 (fun j hj => by
        rw [getD_l (by omega), hf 98 (by decide) (by decide), hf 99 (by decide) (by decide)]
        exact hA j (by omega))
      have e : FL V C0 (eB V sp) (i + 1) = FL V C0 (eB V sp) i ++ (FL V C0 (eB V sp) i).map (tAdd (2 ^ i) g (nI (V (8 + 5 * i + 4)))) := by
        rw [hg]
        rfl
      rw [← e] at r3
      obtain ⟨σ', s1, s2, s3, s4, s5⟩ := ih (i + 1) F σ2 (by omega) (by omega) r2 r3
      refine ⟨σ', ?_, s2, s3, s4, fun q h1 h2 h3 h4 => by rw [s5 q h1 h2 h3 h4, r4 q h3 h4, hf q h1 h2]⟩
      unfold f_X9_tonightSet_b90
      exact r1.trans s1
    unfold f_X9_tonightSet_b55
    simp only [kM, rM, aM, om_ref_s, if_true, in6_387, cl6, hX.1]
    rw [if_neg (nI_ge (by omega) (by omega))]
    have hb := bit_all (mk (eB V sp) (V 6)) (by omega) i (by omega)
    rw [mk_tb (eB V sp) (V 6) i (by omega)] at hb
    by_cases g : eB V sp i = true
    · rw [if_pos (hb.mpr g), m_its2 (show i < 9 by omega)]
      simp only [call_s, hX.2.2.2.2.2.1 i 2 (by omega) (by omega)]
      obtain ⟨σ1, q1, q2⟩ := m_givesBy (i := i) (w := V (8 + 5 * i + 2)) hC0 hX (by omega) (by omega)
      rw [q1]
      simp only [call_s]
      exact fin σ1 _ (by rw [if_pos g]) (hX.congr (q2 91 (by decide) (by decide))) q2
    · rw [if_neg (fun w => g (hb.mp w))]
      exact fin σ 0 (by rw [if_neg g]) hX (fun _ _ _ => rfl)
theorem m_mayLoop {V : Nat → Nat} {Z : Int32} {C0 C1 : List Int32} {sp : Int32} (hV : WV V) (hC0 : WC C0) (hC1 : WC C1) {σ : om_S} (hX : MT 91 V Z C0 C1 σ) (h5 : σ 90 5 = sp) (z1 : σ 98 0 = 0) (z2 : σ 99 0 = 0) :
    ∀ (n i F : Nat), i + n = V 6 → n < F →
    ∃ σ', f_X9_tonightSet_b4 F 90 (nI (mk (eB V sp) i)) (nI i) σ = some (triI (pickV V C0 C1 sp), σ') ∧ (∀ t, pickV V C0 C1 sp = some t → t.1 < 2 ^ (V 6) ∧ σ' 98 t.1 = t.2.1 ∧ σ' 99 t.1 = t.2.2) ∧ σ' 98 0 = 0 ∧ σ' 99 0 = 0 ∧ ∀ q, q ≠ 96 → q ≠ 97 → q ≠ 98 → q ≠ 99 → σ' q = σ q := by
  have h6 := hV.1
  intro n
  induction n with
  | zero =>
    intro i F hi hF
    obtain ⟨F, rfl⟩ : ∃ G, F = G + 1 := ⟨F - 1, by omega⟩
    have hi' : i = V 6 := by omega
    subst hi'
    obtain ⟨σ1, q1, q2⟩ := m_wanted hV hC1 hX
    obtain ⟨σ', r1, r2, r3, r4, r5⟩ := m_setLoop (sp := sp) (want := wantedV V C1) hV hC0 (V 6) 0 om_F σ1 (by omega) (by unfold om_F; omega) (hX.congr (q2 91 (by decide) (by decide))) (fun j hj => by
      have hj0 : j = 0 := by
        have : j < 1 := hj
        omega
      subst hj0
      rw [q2 98 (by decide) (by decide), q2 99 (by decide) (by decide), z1, z2]
      exact ⟨rfl, rfl⟩)
    refine ⟨σ', ?_, r2, r3, r4, fun q h1 h2 h3 h4 => by rw [r5 q h1 h2 h3 h4, q2 q h1 h2]⟩
    unfold f_X9_tonightSet_b4
    simp only [kM, rM, aM, om_ref_s, if_true, in6_387, cl6, hX.1]
    rw [if_pos (nI_le (Nat.le_refl _) (by omega)), q1]
    simp only [call_s]
    exact r1
  | succ n ih =>
    intro i F hi hF
    obtain ⟨F, rfl⟩ : ∃ G, F = G + 1 := ⟨F - 1, by omega⟩
    have hw := hV.2.2.2.2 i (by omega)
    have hm := mk_lt (eB V sp) i
    unfold f_X9_tonightSet_b4
    simp only [kM, rM, aM, om_ref_s, if_true, in6_387, cl6, hX.1]
    rw [if_neg (nI_ge (by omega) (by omega)), m_its3 (show i < 9 by omega)]
    simp only [call_s, hX.2.2.2.2.2.1 i 3 (by omega) (by omega), h5]
    unfold f_X9_tonightSet_b39 f_X9_tonightSet_b40
    simp only [nI_1, Int32.or_zero, shl_all i (by omega)]
    have e : mk (eB V sp) (i + 1) = if eB V sp i = true then mk (eB V sp) i + 2 ^ i else mk (eB V sp) i := rfl
    have go := ih (i + 1) F (by omega) (by omega)
    by_cases g1 : V (8 + 5 * i + 3) = 0
    · rw [g1, if_pos (by decide)]
      rw [if_neg (by unfold eB; rw [decide_eq_true_iff]; exact fun w => w.1 g1)] at e
      rw [← e]
      exact go
    · rw [if_neg (nI_nle (by omega) (by omega))]
      by_cases g2 : nI i = sp
      · rw [if_pos g2]
        rw [if_neg (by unfold eB; rw [decide_eq_true_iff]; exact fun w => w.2 g2)] at e
        rw [← e]
        exact go
      · rw [if_neg g2, orp_all i (by omega) _ hm]
        rw [if_pos (by unfold eB; rw [decide_eq_true_iff]; exact ⟨g1, g2⟩)] at e
        rw [← e]
        exact go
theorem m_tonightSet {V : Nat → Nat} {Z : Int32} {C0 C1 : List Int32} {sp : Int32} (hV : WV V) (hC0 : WC C0) (hC1 : WC C1) {σ : om_S} (hX : MT 91 V Z C0 C1 σ) (h5 : σ 90 5 = sp) (z1 : σ 98 0 = 0) (z2 : σ 99 0 = 0) :
    ∃ σ', f_X9_tonightSet 90 σ = some (triI (pickV V C0 C1 sp), σ') ∧ (∀ t, pickV V C0 C1 sp = some t → t.1 < 2 ^ (V 6) ∧ σ' 98 t.1 = t.2.1 ∧ σ' 99 t.1 = t.2.2) ∧ σ' 98 0 = 0 ∧ σ' 99 0 = 0 ∧ ∀ q, q ≠ 96 → q ≠ 97 → q ≠ 98 → q ≠ 99 → σ' q = σ q := by
  have := hV.1
  unfold f_X9_tonightSet
  rw [if_pos kM.1]
  exact m_mayLoop hV hC0 hC1 hX h5 z1 z2 (V 6) 0 om_F (by omega) (by unfold om_F; omega)
