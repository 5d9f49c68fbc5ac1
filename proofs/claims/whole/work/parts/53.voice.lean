/-! ===== voices ===== -/
def glV (kd : Nat) (sp x : Int32) : Int32 × List Int32 := if kd = 1 then (x + sp - 4, [20, 10]) else if kd = 4 then ((x + sp - 4) * 3, [50, 20, 10]) else if kd = 6 then (9, [70]) else (x + sp, [10])
def tEV (kd : Nat) (sp x : Int32) : Int32 × List Int32 := ((glV kd sp x).1 * 2, 11 :: (glV kd sp x).2)
def tuV (kd : Nat) (m sp x : Int32) : Int32 × List Int32 := if kd = 2 then (0 - (tEV kd sp x).1, 30 :: (tEV kd sp x).2) else if kd = 5 then (0 - (tEV kd sp (x + 1)).1, 60 :: 30 :: (tEV kd sp (x + 1)).2) else if kd = 6 then ((tEV kd sp x).1 + m, 71 :: (tEV kd sp x).2) else tEV kd sp x
def gEV (kd : Nat) (m sp x : Int32) : Int32 × List Int32 := ((tuV kd m sp x).1 - m, 12 :: (tuV kd m sp x).2)
def guV (kd : Nat) (m sp x : Int32) : Int32 × List Int32 := if kd = 3 then ((gEV kd m sp (x / 2)).1, 40 :: (gEV kd m sp (x / 2)).2) else if kd = 4 then ((gEV kd m sp x).1 ^^^ sp, 51 :: (gEV kd m sp x).2) else gEV kd m sp x
theorem glV_len (kd : Nat) (sp x : Int32) : (glV kd sp x).2.length ≤ 3 := by
  unfold glV
  repeat' split
  all_goals simp
theorem tEV_len (kd : Nat) (sp x : Int32) : (tEV kd sp x).2.length ≤ 4 := by
  have := glV_len kd sp x
  unfold tEV
  simp only [List.length_cons]
  omega
theorem tuV_len (kd : Nat) (m sp x : Int32) : (tuV kd m sp x).2.length ≤ 6 := by
  have h1 := tEV_len kd sp x
  have h2 := tEV_len kd sp (x + 1)
  unfold tuV
  repeat' split
  all_goals first | omega | (simp only [List.length_cons]; omega)
theorem gEV_len (kd : Nat) (m sp x : Int32) : (gEV kd m sp x).2.length ≤ 7 := by
  have := tuV_len kd m sp x
  unfold gEV
  simp only [List.length_cons]
  omega
theorem guV_len (kd : Nat) (m sp x : Int32) : (guV kd m sp x).2.length ≤ 8 := by
  have h1 := gEV_len kd m sp x
  have h2 := gEV_len kd m sp (x / 2)
  unfold guV
  repeat' split
  all_goals first | omega | (simp only [List.length_cons]; omega)
def XVb (kd : Nat) (m sp fl : Int32) (σ0 : om_S) (L : List Int32) (σ : om_S) : Prop := XRow 78 79 L σ ∧ σ 77 1 = nI kd ∧ σ 77 2 = m ∧ σ 77 3 = sp ∧ σ 77 4 = fl ∧ ∀ q, q ≠ 77 → q ≠ 78 → q ≠ 79 → σ q = σ0 q
def MVb (kd i : Nat) (m fl : Int32) (σ0 : om_S) (L : List Int32) (σ : om_S) : Prop := (σ 90 15 = nI L.length ∧ ∀ j, j < L.length → σ 100 j = L.getD j 0) ∧ σ 90 17 = nI i ∧ σ 90 18 = fl ∧ σ 91 (8 + 5 * i) = nI kd ∧ σ 91 (8 + 5 * i + 1) = m ∧ (∀ q, q ≠ 90 → q ≠ 100 → σ q = σ0 q) ∧ ∀ j, j ≠ 15 → j ≠ 17 → j ≠ 18 → σ 90 j = σ0 90 j
theorem x_addV {kd : Nat} {m sp fl c : Int32} {σ0 σ : om_S} {L : List Int32} (h : XVb kd m sp fl σ0 L σ) (hl : L.length < 30) : ∃ σ', f_X3_add 78 c σ = some (1, σ') ∧ XVb kd m sp fl σ0 (L ++ [c]) σ' := by
  obtain ⟨h1, h2, h3, h4, h5, h6⟩ := h
  refine ⟨_, x_add R78 h1 hl, XRow.add (by omega) h1, ?_, ?_, ?_, ?_, fun q a b d => ?_⟩
  · rw [om_w_k (by omega), om_w_k (by omega)]
    exact h2
  · rw [om_w_k (by omega), om_w_k (by omega)]
    exact h3
  · rw [om_w_k (by omega), om_w_k (by omega)]
    exact h4
  · rw [om_w_k (by omega), om_w_k (by omega)]
    exact h5
  · rw [om_w_off b, om_w_off d]
    exact h6 q a b d
theorem m_starts {kd i : Nat} {m fl c : Int32} {σ0 σ : om_S} {L : List Int32} (h : MVb kd i m fl σ0 L σ) (hl : L.length < 30) : ∃ σ', f_X9_starts 90 c σ = some σ' ∧ MVb kd i m fl σ0 (L ++ [c]) σ' := by
  obtain ⟨⟨h1, h1b⟩, h2, h3, h4, h5, h6, h7⟩ := h
  have cl : (nI L.length).toNatClampNeg = L.length := nI_clamp (by omega)
  have hi : om_in (nI L.length) 30 = True := eq_true (in_nI (by omega) (by omega))
  refine ⟨om_w (om_w σ 100 L.length c) 90 15 (nI (L.length + 1)), ?_, ⟨?_, fun j hj => ?_⟩, ?_, ?_, ?_, ?_, fun q a b => ?_, fun j a b d => ?_⟩
  · unfold f_X9_starts
    simp only [kM, rM, aM, om_ref_s, if_true, h1, cl, hi, let_s]
    rw [if_neg (show ¬ (30 : Int32) ≤ nI L.length from nI_ge (b := 30) (by omega) (by omega)), om_w_k (by omega), h1, nI_1]
  · rw [om_w_s]
    simp
  · rw [om_w_k (by omega)]
    simp only [List.length_append, List.length_cons, List.length_nil] at hj
    by_cases e : j = L.length
    · subst e
      rw [om_w_s]
      simp
    · rw [om_w_j e, h1b j (by omega), getD_app (by omega)]
  · rw [om_w_j (by omega), om_w_k (by omega)]
    exact h2
  · rw [om_w_j (by omega), om_w_k (by omega)]
    exact h3
  · rw [om_w_k (by omega), om_w_k (by omega)]
    exact h4
  · rw [om_w_k (by omega), om_w_k (by omega)]
    exact h5
  · rw [om_w_off a, om_w_off b]
    exact h6 q a b
  · rw [om_w_j a, om_w_k (by omega)]
    exact h7 j a b d
theorem m_kindNow {kd i : Nat} {m fl : Int32} {σ0 σ : om_S} {L : List Int32} (hi : i < 9) (h : MVb kd i m fl σ0 L σ) : f_X9_kindNow 90 σ = some (nI kd, σ) := by
  unfold f_X9_kindNow
  rw [if_pos kM.1, h.2.1, m_its0 hi, call_s, h.2.2.2.1]
theorem m_mNow {kd i : Nat} {m fl : Int32} {σ0 σ : om_S} {L : List Int32} (hi : i < 9) (h : MVb kd i m fl σ0 L σ) : f_X9_mNow 90 σ = some (m, σ) := by
  unfold f_X9_mNow
  rw [if_pos kM.1, h.2.1, m_its1 hi, call_s, h.2.2.2.2.1]
theorem ln1 {L : List Int32} {a : Int32} : (L ++ [a]).length = L.length + 1 := by simp
theorem ap1 {L M : List Int32} {a : Int32} : (L ++ [a]) ++ M = L ++ (a :: M) := by simp
theorem ab1 : abF 1 = 0 := by decide
theorem ab2 : abF 2 = 0 := by decide
theorem ab3 : abF 3 = 0 := by decide
theorem ab4 : abF 4 = 1 := by decide
theorem ab5 : abF 5 = 2 := by decide
theorem ab6 : abF 6 = 0 := by decide
theorem x_glow {kd : Nat} {m sp fl x : Int32} {σ0 σ : om_S} {L : List Int32} (hk : kd ≤ 6) (hl : L.length ≤ 26) (h : XVb kd m sp fl σ0 L σ) : ∃ σ', f_X7_glow 77 x σ = some ((glV kd sp x).1, σ') ∧ XVb kd m sp fl σ0 (L ++ (glV kd sp x).2) σ' := by
  rcases (show kd = 0 ∨ kd = 1 ∨ kd = 2 ∨ kd = 3 ∨ kd = 4 ∨ kd = 5 ∨ kd = 6 by omega) with rfl | rfl | rfl | rfl | rfl | rfl | rfl
  · obtain ⟨σ1, a1, b1⟩ := x_addV (c := 10) h (by omega)
    refine ⟨σ1, ?_, ?_⟩
    · unfold f_X7_glow
      simp only [kX, rf_77_0, kc_78, om_ref_s, if_true, h.2.1, a1, call_s, b1.2.2.1, b1.2.2.2.1]
      rw [if_neg (by decide), if_neg (by decide), if_neg (by decide)]
      exact Eq.refl _
    · first | exact b1 | (simp only [List.append_assoc, List.cons_append, List.nil_append] at b1; exact b1)
  · obtain ⟨σ1, a1, b1⟩ := x_addV (c := 20) h (by omega)
    obtain ⟨σ2, a2, b2⟩ := x_addV (c := 10) b1 (by simp only [ln1]; omega)
    refine ⟨σ2, ?_, ?_⟩
    · unfold f_X7_glow
      simp only [kX, rf_77_0, kc_78, om_ref_s, if_true, h.2.1, a1, a2, call_s, b2.2.2.1, b2.2.2.2.1]
      rw [if_pos (by decide)]
      exact Eq.refl _
    · first | exact b2 | (simp only [List.append_assoc, List.cons_append, List.nil_append] at b2; exact b2)
  · obtain ⟨σ1, a1, b1⟩ := x_addV (c := 10) h (by omega)
    refine ⟨σ1, ?_, ?_⟩
    · unfold f_X7_glow
      simp only [kX, rf_77_0, kc_78, om_ref_s, if_true, h.2.1, a1, call_s, b1.2.2.1, b1.2.2.2.1]
      rw [if_neg (by decide), if_neg (by decide), if_neg (by decide)]
      exact Eq.refl _
    · first | exact b1 | (simp only [List.append_assoc, List.cons_append, List.nil_append] at b1; exact b1)
  · obtain ⟨σ1, a1, b1⟩ := x_addV (c := 10) h (by omega)
    refine ⟨σ1, ?_, ?_⟩
    · unfold f_X7_glow
      simp only [kX, rf_77_0, kc_78, om_ref_s, if_true, h.2.1, a1, call_s, b1.2.2.1, b1.2.2.2.1]
      rw [if_neg (by decide), if_neg (by decide), if_neg (by decide)]
      exact Eq.refl _
    · first | exact b1 | (simp only [List.append_assoc, List.cons_append, List.nil_append] at b1; exact b1)
  · obtain ⟨σ1, a1, b1⟩ := x_addV (c := 50) h (by omega)
    obtain ⟨σ2, a2, b2⟩ := x_addV (c := 20) b1 (by simp only [ln1]; omega)
    obtain ⟨σ3, a3, b3⟩ := x_addV (c := 10) b2 (by simp only [ln1]; omega)
    refine ⟨σ3, ?_, ?_⟩
    · unfold f_X7_glow
      simp only [kX, rf_77_0, kc_78, om_ref_s, if_true, h.2.1, a1, a2, a3, call_s, b3.2.2.1, b3.2.2.2.1]
      rw [if_neg (by decide), if_pos (by decide)]
      exact Eq.refl _
    · first | exact b3 | (simp only [List.append_assoc, List.cons_append, List.nil_append] at b3; exact b3)
  · obtain ⟨σ1, a1, b1⟩ := x_addV (c := 10) h (by omega)
    refine ⟨σ1, ?_, ?_⟩
    · unfold f_X7_glow
      simp only [kX, rf_77_0, kc_78, om_ref_s, if_true, h.2.1, a1, call_s, b1.2.2.1, b1.2.2.2.1]
      rw [if_neg (by decide), if_neg (by decide), if_neg (by decide)]
      exact Eq.refl _
    · first | exact b1 | (simp only [List.append_assoc, List.cons_append, List.nil_append] at b1; exact b1)
  · obtain ⟨σ1, a1, b1⟩ := x_addV (c := 70) h (by omega)
    refine ⟨σ1, ?_, ?_⟩
    · unfold f_X7_glow
      simp only [kX, rf_77_0, kc_78, om_ref_s, if_true, h.2.1, a1, call_s, b1.2.2.1, b1.2.2.2.1]
      rw [if_neg (by decide), if_neg (by decide), if_pos (by decide)]
      exact Eq.refl _
    · first | exact b1 | (simp only [List.append_assoc, List.cons_append, List.nil_append] at b1; exact b1)
theorem x_tE {kd : Nat} {m sp fl x : Int32} {σ0 σ : om_S} {L : List Int32} (hk : kd ≤ 6) (hl : L.length ≤ 24) (h : XVb kd m sp fl σ0 L σ) : ∃ σ', f_X7_turnAsEvening 77 x σ = some ((tEV kd sp x).1, σ') ∧ XVb kd m sp fl σ0 (L ++ (tEV kd sp x).2) σ' := by
  obtain ⟨σ1, a1, b1⟩ := x_addV (c := 11) h (by omega)
  obtain ⟨σ2, a2, b2⟩ := x_glow (kd := kd) (x := x) (by omega) (by simp only [ln1]; omega) b1
  refine ⟨σ2, ?_, ?_⟩
  · unfold f_X7_turnAsEvening
    simp only [kX, rf_77_0, kc_78, om_ref_s, if_true, h.2.1, a1, a2, call_s, b2.2.2.1, b2.2.2.2.1]
    exact Eq.refl _
  · first | exact b2 | (simp only [List.append_assoc, List.cons_append, List.nil_append] at b2; exact b2)
theorem x_turn {kd : Nat} {m sp fl x : Int32} {σ0 σ : om_S} {L : List Int32} (hk : kd ≤ 6) (hl : L.length ≤ 20) (h : XVb kd m sp fl σ0 L σ) : ∃ σ', f_X7_turn 77 x σ = some ((tuV kd m sp x).1, σ') ∧ XVb kd m sp fl σ0 (L ++ (tuV kd m sp x).2) σ' := by
  rcases (show kd = 0 ∨ kd = 1 ∨ kd = 2 ∨ kd = 3 ∨ kd = 4 ∨ kd = 5 ∨ kd = 6 by omega) with rfl | rfl | rfl | rfl | rfl | rfl | rfl
  · obtain ⟨σ1, a1, b1⟩ := x_tE (kd := 0) (x := x) (by omega) (by omega) h
    refine ⟨σ1, ?_, ?_⟩
    · unfold f_X7_turn
      simp only [kX, rf_77_0, kc_78, om_ref_s, if_true, h.2.1, a1, call_s, b1.2.2.1, b1.2.2.2.1]
      rw [if_neg (by decide), if_neg (by decide), if_neg (by decide)]
      exact Eq.refl _
    · first | exact b1 | (simp only [List.append_assoc, List.cons_append, List.nil_append] at b1; exact b1)
  · obtain ⟨σ1, a1, b1⟩ := x_tE (kd := 1) (x := x) (by omega) (by omega) h
    refine ⟨σ1, ?_, ?_⟩
    · unfold f_X7_turn
      simp only [kX, rf_77_0, kc_78, om_ref_s, if_true, h.2.1, a1, call_s, b1.2.2.1, b1.2.2.2.1]
      rw [if_neg (by decide), if_neg (by decide), if_neg (by decide)]
      exact Eq.refl _
    · first | exact b1 | (simp only [List.append_assoc, List.cons_append, List.nil_append] at b1; exact b1)
  · obtain ⟨σ1, a1, b1⟩ := x_addV (c := 30) h (by omega)
    obtain ⟨σ2, a2, b2⟩ := x_tE (kd := 2) (x := x) (by omega) (by simp only [ln1]; omega) b1
    refine ⟨σ2, ?_, ?_⟩
    · unfold f_X7_turn
      simp only [kX, rf_77_0, kc_78, om_ref_s, if_true, h.2.1, a1, a2, call_s, b2.2.2.1, b2.2.2.2.1]
      rw [if_pos (by decide)]
      exact Eq.refl _
    · first | exact b2 | (simp only [List.append_assoc, List.cons_append, List.nil_append] at b2; exact b2)
  · obtain ⟨σ1, a1, b1⟩ := x_tE (kd := 3) (x := x) (by omega) (by omega) h
    refine ⟨σ1, ?_, ?_⟩
    · unfold f_X7_turn
      simp only [kX, rf_77_0, kc_78, om_ref_s, if_true, h.2.1, a1, call_s, b1.2.2.1, b1.2.2.2.1]
      rw [if_neg (by decide), if_neg (by decide), if_neg (by decide)]
      exact Eq.refl _
    · first | exact b1 | (simp only [List.append_assoc, List.cons_append, List.nil_append] at b1; exact b1)
  · obtain ⟨σ1, a1, b1⟩ := x_tE (kd := 4) (x := x) (by omega) (by omega) h
    refine ⟨σ1, ?_, ?_⟩
    · unfold f_X7_turn
      simp only [kX, rf_77_0, kc_78, om_ref_s, if_true, h.2.1, a1, call_s, b1.2.2.1, b1.2.2.2.1]
      rw [if_neg (by decide), if_neg (by decide), if_neg (by decide)]
      exact Eq.refl _
    · first | exact b1 | (simp only [List.append_assoc, List.cons_append, List.nil_append] at b1; exact b1)
  · obtain ⟨σ1, a1, b1⟩ := x_addV (c := 60) h (by omega)
    obtain ⟨σ2, a2, b2⟩ := x_addV (c := 30) b1 (by simp only [ln1]; omega)
    obtain ⟨σ3, a3, b3⟩ := x_tE (kd := 5) (x := x + 1) (by omega) (by simp only [ln1]; omega) b2
    refine ⟨σ3, ?_, ?_⟩
    · unfold f_X7_turn
      simp only [kX, rf_77_0, kc_78, om_ref_s, if_true, h.2.1, a1, a2, a3, call_s, b3.2.2.1, b3.2.2.2.1]
      rw [if_neg (by decide), if_pos (by decide)]
      exact Eq.refl _
    · first | exact b3 | (simp only [List.append_assoc, List.cons_append, List.nil_append] at b3; exact b3)
  · obtain ⟨σ1, a1, b1⟩ := x_addV (c := 71) h (by omega)
    obtain ⟨σ2, a2, b2⟩ := x_tE (kd := 6) (x := x) (by omega) (by simp only [ln1]; omega) b1
    refine ⟨σ2, ?_, ?_⟩
    · unfold f_X7_turn
      simp only [kX, rf_77_0, kc_78, om_ref_s, if_true, h.2.1, a1, a2, call_s, b2.2.2.1, b2.2.2.2.1]
      rw [if_neg (by decide), if_neg (by decide), if_pos (by decide)]
      exact Eq.refl _
    · first | exact b2 | (simp only [List.append_assoc, List.cons_append, List.nil_append] at b2; exact b2)
theorem x_gE {kd : Nat} {m sp fl x : Int32} {σ0 σ : om_S} {L : List Int32} (hk : kd ≤ 6) (hl : L.length ≤ 16) (h : XVb kd m sp fl σ0 L σ) : ∃ σ', f_X7_gutterAsEvening 77 x σ = some ((gEV kd m sp x).1, σ') ∧ XVb kd m sp fl σ0 (L ++ (gEV kd m sp x).2) σ' := by
  obtain ⟨σ1, a1, b1⟩ := x_addV (c := 12) h (by omega)
  obtain ⟨σ2, a2, b2⟩ := x_turn (kd := kd) (x := x) (by omega) (by simp only [ln1]; omega) b1
  refine ⟨σ2, ?_, ?_⟩
  · unfold f_X7_gutterAsEvening
    simp only [kX, rf_77_0, kc_78, om_ref_s, if_true, h.2.1, a1, a2, call_s, b2.2.2.1, b2.2.2.2.1]
    exact Eq.refl _
  · first | exact b2 | (simp only [List.append_assoc, List.cons_append, List.nil_append] at b2; exact b2)
theorem x_gutter {kd : Nat} {m sp fl x : Int32} {σ0 σ : om_S} {L : List Int32} (hk : kd ≤ 6) (hl : L.length ≤ 12) (h : XVb kd m sp fl σ0 L σ) : ∃ σ', f_X7_gutter 77 x σ = some ((guV kd m sp x).1, σ') ∧ XVb kd m sp fl σ0 (L ++ (guV kd m sp x).2) σ' := by
  rcases (show kd = 0 ∨ kd = 1 ∨ kd = 2 ∨ kd = 3 ∨ kd = 4 ∨ kd = 5 ∨ kd = 6 by omega) with rfl | rfl | rfl | rfl | rfl | rfl | rfl
  · obtain ⟨σ1, a1, b1⟩ := x_gE (kd := 0) (x := x) (by omega) (by omega) h
    refine ⟨σ1, ?_, ?_⟩
    · unfold f_X7_gutter
      simp only [kX, rf_77_0, kc_78, om_ref_s, if_true, h.2.1, a1, call_s, b1.2.2.1, b1.2.2.2.1]
      rw [if_neg (by decide), if_neg (by decide)]
      exact Eq.refl _
    · first | exact b1 | (simp only [List.append_assoc, List.cons_append, List.nil_append] at b1; exact b1)
  · obtain ⟨σ1, a1, b1⟩ := x_gE (kd := 1) (x := x) (by omega) (by omega) h
    refine ⟨σ1, ?_, ?_⟩
    · unfold f_X7_gutter
      simp only [kX, rf_77_0, kc_78, om_ref_s, if_true, h.2.1, a1, call_s, b1.2.2.1, b1.2.2.2.1]
      rw [if_neg (by decide), if_neg (by decide)]
      exact Eq.refl _
    · first | exact b1 | (simp only [List.append_assoc, List.cons_append, List.nil_append] at b1; exact b1)
  · obtain ⟨σ1, a1, b1⟩ := x_gE (kd := 2) (x := x) (by omega) (by omega) h
    refine ⟨σ1, ?_, ?_⟩
    · unfold f_X7_gutter
      simp only [kX, rf_77_0, kc_78, om_ref_s, if_true, h.2.1, a1, call_s, b1.2.2.1, b1.2.2.2.1]
      rw [if_neg (by decide), if_neg (by decide)]
      exact Eq.refl _
    · first | exact b1 | (simp only [List.append_assoc, List.cons_append, List.nil_append] at b1; exact b1)
  · obtain ⟨σ1, a1, b1⟩ := x_addV (c := 40) h (by omega)
    obtain ⟨σ2, a2, b2⟩ := x_gE (kd := 3) (x := x / 2) (by omega) (by simp only [ln1]; omega) b1
    refine ⟨σ2, ?_, ?_⟩
    · unfold f_X7_gutter
      simp only [kX, rf_77_0, kc_78, om_ref_s, if_true, h.2.1, a1, a2, call_s, b2.2.2.1, b2.2.2.2.1]
      rw [if_pos (by decide)]
      exact Eq.refl _
    · first | exact b2 | (simp only [List.append_assoc, List.cons_append, List.nil_append] at b2; exact b2)
  · obtain ⟨σ1, a1, b1⟩ := x_addV (c := 51) h (by omega)
    obtain ⟨σ2, a2, b2⟩ := x_gE (kd := 4) (x := x) (by omega) (by simp only [ln1]; omega) b1
    refine ⟨σ2, ?_, ?_⟩
    · unfold f_X7_gutter
      simp only [kX, rf_77_0, kc_78, om_ref_s, if_true, h.2.1, a1, a2, call_s, b2.2.2.1, b2.2.2.2.1]
      rw [if_neg (by decide), if_pos (by decide)]
      exact Eq.refl _
    · first | exact b2 | (simp only [List.append_assoc, List.cons_append, List.nil_append] at b2; exact b2)
  · obtain ⟨σ1, a1, b1⟩ := x_gE (kd := 5) (x := x) (by omega) (by omega) h
    refine ⟨σ1, ?_, ?_⟩
    · unfold f_X7_gutter
      simp only [kX, rf_77_0, kc_78, om_ref_s, if_true, h.2.1, a1, call_s, b1.2.2.1, b1.2.2.2.1]
      rw [if_neg (by decide), if_neg (by decide)]
      exact Eq.refl _
    · first | exact b1 | (simp only [List.append_assoc, List.cons_append, List.nil_append] at b1; exact b1)
  · obtain ⟨σ1, a1, b1⟩ := x_gE (kd := 6) (x := x) (by omega) (by omega) h
    refine ⟨σ1, ?_, ?_⟩
    · unfold f_X7_gutter
      simp only [kX, rf_77_0, kc_78, om_ref_s, if_true, h.2.1, a1, call_s, b1.2.2.1, b1.2.2.2.1]
      rw [if_neg (by decide), if_neg (by decide)]
      exact Eq.refl _
    · first | exact b1 | (simp only [List.append_assoc, List.cons_append, List.nil_append] at b1; exact b1)
