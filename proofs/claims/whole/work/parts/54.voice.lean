/-! ===== voices, the model ===== -/
theorem m_glAs0 {kd i d : Nat} {m fl x : Int32} {σ0 σ : om_S} {L : List Int32} (hi : i < 9) (hl : L.length ≤ 28) (h : MVb kd i m fl σ0 L σ) : ∃ σ', grp_X9_glowsAs (d + 1) 90 0 x σ = some (x + nI i, σ') ∧ MVb kd i m fl σ0 (L ++ [10]) σ' := by
  obtain ⟨σ1, a1, b1⟩ := m_starts (c := 10) h (by omega)
  refine ⟨σ1, ?_, b1⟩
  show fo_X9_glowsAs (grp_X9_glowsAs d) 90 0 x σ = _
  unfold fo_X9_glowsAs
  rw [if_pos kM.1, if_pos rfl, a1, do_s, b1.2.1]
theorem m_glAs1 {kd i d : Nat} {m fl x : Int32} {σ0 σ : om_S} {L : List Int32} (hi : i < 9) (hl : L.length ≤ 26) (h : MVb kd i m fl σ0 L σ) : ∃ σ', grp_X9_glowsAs (d + 2) 90 1 x σ = some (x + nI i - 4, σ') ∧ MVb kd i m fl σ0 (L ++ [20, 10]) σ' := by
  obtain ⟨σ1, a1, b1⟩ := m_starts (c := 20) h (by omega)
  obtain ⟨σ2, a2, b2⟩ := m_glAs0 (d := d) (x := x) hi (by simp only [ln1]; omega) b1
  refine ⟨σ2, ?_, by simp only [List.append_assoc, List.cons_append, List.nil_append] at b2; exact b2⟩
  show fo_X9_glowsAs (grp_X9_glowsAs (d + 1)) 90 1 x σ = _
  unfold fo_X9_glowsAs
  rw [if_pos kM.1, if_neg (by decide), if_pos rfl, a1, do_s, m_above, call_s, ab1, a2, call_s]
theorem m_glAs2 {kd i d : Nat} {m fl x : Int32} {σ0 σ : om_S} {L : List Int32} (hi : i < 9) (hl : L.length ≤ 26) (h : MVb kd i m fl σ0 L σ) : ∃ σ', grp_X9_glowsAs (d + 2) 90 2 x σ = some (x + nI i, σ') ∧ MVb kd i m fl σ0 (L ++ [10]) σ' := by
  obtain ⟨σ2, a2, b2⟩ := m_glAs0 (d := d) (x := x) hi (by omega) h
  refine ⟨σ2, ?_, b2⟩
  show fo_X9_glowsAs (grp_X9_glowsAs (d + 1)) 90 2 x σ = _
  unfold fo_X9_glowsAs
  rw [if_pos kM.1, if_neg (by decide), if_neg (by decide), if_neg (by decide), if_neg (by decide), m_above, call_s, ab2, a2, call_s]
theorem m_glow {kd i d : Nat} {m fl x : Int32} {σ0 σ : om_S} {L : List Int32} (hk : kd ≤ 6) (hi : i < 9) (hl : L.length ≤ 24) (h : MVb kd i m fl σ0 L σ) : ∃ σ', f_X9_glowsAs 90 (nI kd) x σ = some ((glV kd (nI i) x).1, σ') ∧ MVb kd i m fl σ0 (L ++ (glV kd (nI i) x).2) σ' := by
  rcases (show kd = 0 ∨ kd = 1 ∨ kd = 2 ∨ kd = 3 ∨ kd = 4 ∨ kd = 5 ∨ kd = 6 by omega) with rfl | rfl | rfl | rfl | rfl | rfl | rfl
  · exact m_glAs0 (d := 11) hi (by omega) h
  · exact m_glAs1 (d := 10) hi (by omega) h
  · exact m_glAs2 (d := 10) hi (by omega) h
  · obtain ⟨σ2, a2, b2⟩ := m_glAs0 (d := 10) (x := x) hi (by omega) h
    refine ⟨σ2, ?_, b2⟩
    show fo_X9_glowsAs (grp_X9_glowsAs (10 + 1)) 90 (nI 3) x σ = _
    unfold fo_X9_glowsAs
    rw [if_pos kM.1, if_neg (by decide), if_neg (by decide), if_neg (by decide), if_neg (by decide), m_above, call_s, show abF (nI 3) = 0 from ab3, a2, call_s]
    exact Eq.refl _
  · obtain ⟨σ1, a1, b1⟩ := m_starts (c := 50) h (by omega)
    obtain ⟨σ2, a2, b2⟩ := m_glAs1 (d := 9) (x := x) hi (by simp only [ln1]; omega) b1
    refine ⟨σ2, ?_, by simp only [List.append_assoc, List.cons_append, List.nil_append] at b2; exact b2⟩
    show fo_X9_glowsAs (grp_X9_glowsAs (9 + 2)) 90 (nI 4) x σ = _
    unfold fo_X9_glowsAs
    rw [if_pos kM.1, if_neg (by decide), if_neg (by decide), if_pos (by decide), a1, do_s, m_above, call_s, ab4, a2, call_s]
    exact Eq.refl _
  · obtain ⟨σ2, a2, b2⟩ := m_glAs2 (d := 9) (x := x) hi (by omega) h
    refine ⟨σ2, ?_, b2⟩
    show fo_X9_glowsAs (grp_X9_glowsAs (9 + 2)) 90 (nI 5) x σ = _
    unfold fo_X9_glowsAs
    rw [if_pos kM.1, if_neg (by decide), if_neg (by decide), if_neg (by decide), if_neg (by decide), m_above, call_s, show abF (nI 5) = 2 from ab5, a2, call_s]
    exact Eq.refl _
  · obtain ⟨σ1, a1, b1⟩ := m_starts (c := 70) h (by omega)
    refine ⟨σ1, ?_, b1⟩
    show fo_X9_glowsAs (grp_X9_glowsAs 11) 90 (nI 6) x σ = _
    unfold fo_X9_glowsAs
    rw [if_pos kM.1, if_neg (by decide), if_neg (by decide), if_neg (by decide), if_pos (by decide), a1, do_s]
    exact Eq.refl _
theorem m_tuAs0 {kd i d : Nat} {m fl x : Int32} {σ0 σ : om_S} {L : List Int32} (hk : kd ≤ 6) (hi : i < 9) (hl : L.length ≤ 22) (h : MVb kd i m fl σ0 L σ) : ∃ σ', grp_X9_turnsAs (d + 1) 90 0 x σ = some ((tEV kd (nI i) x).1, σ') ∧ MVb kd i m fl σ0 (L ++ (tEV kd (nI i) x).2) σ' := by
  obtain ⟨σ1, a1, b1⟩ := m_starts (c := 11) h (by omega)
  obtain ⟨σ2, a2, b2⟩ := m_glow (d := d) (x := x) hk hi (by simp only [ln1]; omega) b1
  refine ⟨σ2, ?_, by simp only [List.append_assoc, List.cons_append, List.nil_append] at b2; exact b2⟩
  show fo_X9_turnsAs (grp_X9_turnsAs d) 90 0 x σ = _
  unfold fo_X9_turnsAs
  rw [if_pos kM.1, if_pos rfl, a1, do_s, m_kindNow hi b1, call_s, a2, call_s]
  exact Eq.refl _
theorem m_tuAs2 {kd i d : Nat} {m fl x : Int32} {σ0 σ : om_S} {L : List Int32} (hk : kd ≤ 6) (hi : i < 9) (hl : L.length ≤ 20) (h : MVb kd i m fl σ0 L σ) : ∃ σ', grp_X9_turnsAs (d + 2) 90 2 x σ = some (0 - (tEV kd (nI i) x).1, σ') ∧ MVb kd i m fl σ0 (L ++ (30 :: (tEV kd (nI i) x).2)) σ' := by
  obtain ⟨σ1, a1, b1⟩ := m_starts (c := 30) h (by omega)
  obtain ⟨σ2, a2, b2⟩ := m_tuAs0 (d := d) (x := x) hk hi (by simp only [ln1]; omega) b1
  refine ⟨σ2, ?_, by simp only [List.append_assoc, List.cons_append, List.nil_append] at b2; exact b2⟩
  show fo_X9_turnsAs (grp_X9_turnsAs (d + 1)) 90 2 x σ = _
  unfold fo_X9_turnsAs
  rw [if_pos kM.1, if_neg (by decide), if_pos rfl, a1, do_s, m_above, call_s, ab2, a2, call_s]
theorem m_tuAs1 {kd i d : Nat} {m fl x : Int32} {σ0 σ : om_S} {L : List Int32} (hk : kd ≤ 6) (hi : i < 9) (hl : L.length ≤ 20) (h : MVb kd i m fl σ0 L σ) : ∃ σ', grp_X9_turnsAs (d + 2) 90 1 x σ = some ((tEV kd (nI i) x).1, σ') ∧ MVb kd i m fl σ0 (L ++ (tEV kd (nI i) x).2) σ' := by
  obtain ⟨σ2, a2, b2⟩ := m_tuAs0 (d := d) (x := x) hk hi (by omega) h
  refine ⟨σ2, ?_, b2⟩
  show fo_X9_turnsAs (grp_X9_turnsAs (d + 1)) 90 1 x σ = _
  unfold fo_X9_turnsAs
  rw [if_pos kM.1, if_neg (by decide), if_neg (by decide), if_neg (by decide), if_neg (by decide), m_above, call_s, ab1, a2, call_s]
theorem m_turn {kd i d : Nat} {m fl x : Int32} {σ0 σ : om_S} {L : List Int32} (hk : kd ≤ 6) (hi : i < 9) (hl : L.length ≤ 18) (h : MVb kd i m fl σ0 L σ) : ∃ σ', f_X9_turnsAs 90 (nI kd) x σ = some ((tuV kd m (nI i) x).1, σ') ∧ MVb kd i m fl σ0 (L ++ (tuV kd m (nI i) x).2) σ' := by
  rcases (show kd = 0 ∨ kd = 1 ∨ kd = 2 ∨ kd = 3 ∨ kd = 4 ∨ kd = 5 ∨ kd = 6 by omega) with rfl | rfl | rfl | rfl | rfl | rfl | rfl
  · exact m_tuAs0 (d := 11) (by omega) hi (by omega) h
  · exact m_tuAs1 (d := 10) (by omega) hi (by omega) h
  · exact m_tuAs2 (d := 10) (by omega) hi (by omega) h
  · obtain ⟨σ2, a2, b2⟩ := m_tuAs0 (d := 10) (x := x) (by omega) hi (by omega) h
    refine ⟨σ2, ?_, b2⟩
    show fo_X9_turnsAs (grp_X9_turnsAs (10 + 1)) 90 (nI 3) x σ = _
    unfold fo_X9_turnsAs
    rw [if_pos kM.1, if_neg (by decide), if_neg (by decide), if_neg (by decide), if_neg (by decide), m_above, call_s, show abF (nI 3) = 0 from ab3, a2, call_s]
    exact Eq.refl _
  · obtain ⟨σ2, a2, b2⟩ := m_tuAs1 (d := 9) (x := x) (by omega) hi (by omega) h
    refine ⟨σ2, ?_, b2⟩
    show fo_X9_turnsAs (grp_X9_turnsAs (9 + 2)) 90 (nI 4) x σ = _
    unfold fo_X9_turnsAs
    rw [if_pos kM.1, if_neg (by decide), if_neg (by decide), if_neg (by decide), if_neg (by decide), m_above, call_s, show abF (nI 4) = 1 from ab4, a2, call_s]
    exact Eq.refl _
  · obtain ⟨σ1, a1, b1⟩ := m_starts (c := 60) h (by omega)
    obtain ⟨σ2, a2, b2⟩ := m_tuAs2 (d := 9) (x := x + 1) (by omega) hi (by simp only [ln1]; omega) b1
    refine ⟨σ2, ?_, by simp only [List.append_assoc, List.cons_append, List.nil_append] at b2; exact b2⟩
    show fo_X9_turnsAs (grp_X9_turnsAs (9 + 2)) 90 (nI 5) x σ = _
    unfold fo_X9_turnsAs
    rw [if_pos kM.1, if_neg (by decide), if_neg (by decide), if_pos (by decide), a1, do_s, m_above, call_s, ab5, a2, call_s]
    exact Eq.refl _
  · obtain ⟨σ1, a1, b1⟩ := m_starts (c := 71) h (by omega)
    obtain ⟨σ2, a2, b2⟩ := m_tuAs0 (d := 10) (x := x) (by omega) hi (by simp only [ln1]; omega) b1
    refine ⟨σ2, ?_, by simp only [List.append_assoc, List.cons_append, List.nil_append] at b2; exact b2⟩
    show fo_X9_turnsAs (grp_X9_turnsAs (10 + 1)) 90 (nI 6) x σ = _
    unfold fo_X9_turnsAs
    rw [if_pos kM.1, if_neg (by decide), if_neg (by decide), if_neg (by decide), if_pos (by decide), a1, do_s, m_above, call_s, ab6, a2, call_s, m_mNow hi b2, call_s]
    exact Eq.refl _
theorem m_guAs0 {kd i d : Nat} {m fl x : Int32} {σ0 σ : om_S} {L : List Int32} (hk : kd ≤ 6) (hi : i < 9) (hl : L.length ≤ 16) (h : MVb kd i m fl σ0 L σ) : ∃ σ', grp_X9_guttersAs (d + 1) 90 0 x σ = some ((gEV kd m (nI i) x).1, σ') ∧ MVb kd i m fl σ0 (L ++ (gEV kd m (nI i) x).2) σ' := by
  obtain ⟨σ1, a1, b1⟩ := m_starts (c := 12) h (by omega)
  obtain ⟨σ2, a2, b2⟩ := m_turn (d := d) (x := x) hk hi (by simp only [ln1]; omega) b1
  refine ⟨σ2, ?_, by simp only [List.append_assoc, List.cons_append, List.nil_append] at b2; exact b2⟩
  show fo_X9_guttersAs (grp_X9_guttersAs d) 90 0 x σ = _
  unfold fo_X9_guttersAs
  rw [if_pos kM.1, if_pos rfl, a1, do_s, m_kindNow hi b1, call_s, a2, call_s, m_mNow hi b2, call_s]
  exact Eq.refl _
theorem m_guAs1 {kd i d : Nat} {m fl x : Int32} {σ0 σ : om_S} {L : List Int32} (hk : kd ≤ 6) (hi : i < 9) (hl : L.length ≤ 16) (h : MVb kd i m fl σ0 L σ) : ∃ σ', grp_X9_guttersAs (d + 2) 90 1 x σ = some ((gEV kd m (nI i) x).1, σ') ∧ MVb kd i m fl σ0 (L ++ (gEV kd m (nI i) x).2) σ' := by
  obtain ⟨σ2, a2, b2⟩ := m_guAs0 (d := d) (x := x) hk hi (by omega) h
  refine ⟨σ2, ?_, b2⟩
  show fo_X9_guttersAs (grp_X9_guttersAs (d + 1)) 90 1 x σ = _
  unfold fo_X9_guttersAs
  rw [if_pos kM.1, if_neg (by decide), if_neg (by decide), if_neg (by decide), m_above, call_s, ab1, a2, call_s]
theorem m_guAs2 {kd i d : Nat} {m fl x : Int32} {σ0 σ : om_S} {L : List Int32} (hk : kd ≤ 6) (hi : i < 9) (hl : L.length ≤ 16) (h : MVb kd i m fl σ0 L σ) : ∃ σ', grp_X9_guttersAs (d + 2) 90 2 x σ = some ((gEV kd m (nI i) x).1, σ') ∧ MVb kd i m fl σ0 (L ++ (gEV kd m (nI i) x).2) σ' := by
  obtain ⟨σ2, a2, b2⟩ := m_guAs0 (d := d) (x := x) hk hi (by omega) h
  refine ⟨σ2, ?_, b2⟩
  show fo_X9_guttersAs (grp_X9_guttersAs (d + 1)) 90 2 x σ = _
  unfold fo_X9_guttersAs
  rw [if_pos kM.1, if_neg (by decide), if_neg (by decide), if_neg (by decide), m_above, call_s, ab2, a2, call_s]
theorem m_gutter {kd i d : Nat} {m fl x : Int32} {σ0 σ : om_S} {L : List Int32} (hk : kd ≤ 6) (hi : i < 9) (hl : L.length ≤ 14) (h : MVb kd i m fl σ0 L σ) : ∃ σ', f_X9_guttersAs 90 (nI kd) x σ = some ((guV kd m (nI i) x).1, σ') ∧ MVb kd i m fl σ0 (L ++ (guV kd m (nI i) x).2) σ' := by
  rcases (show kd = 0 ∨ kd = 1 ∨ kd = 2 ∨ kd = 3 ∨ kd = 4 ∨ kd = 5 ∨ kd = 6 by omega) with rfl | rfl | rfl | rfl | rfl | rfl | rfl
  · exact m_guAs0 (d := 11) (by omega) hi (by omega) h
  · exact m_guAs1 (d := 10) (by omega) hi (by omega) h
  · exact m_guAs2 (d := 10) (by omega) hi (by omega) h
  · obtain ⟨σ1, a1, b1⟩ := m_starts (c := 40) h (by omega)
    obtain ⟨σ2, a2, b2⟩ := m_guAs0 (d := 10) (x := x / 2) (by omega) hi (by simp only [ln1]; omega) b1
    refine ⟨σ2, ?_, by simp only [List.append_assoc, List.cons_append, List.nil_append] at b2; exact b2⟩
    show fo_X9_guttersAs (grp_X9_guttersAs (10 + 1)) 90 (nI 3) x σ = _
    unfold fo_X9_guttersAs
    rw [if_pos kM.1, if_neg (by decide), if_pos (by decide), a1, do_s, m_above, call_s, ab3, a2, call_s]
    exact Eq.refl _
  · obtain ⟨σ1, a1, b1⟩ := m_starts (c := 51) h (by omega)
    obtain ⟨σ2, a2, b2⟩ := m_guAs1 (d := 9) (x := x) (by omega) hi (by simp only [ln1]; omega) b1
    refine ⟨σ2, ?_, by simp only [List.append_assoc, List.cons_append, List.nil_append] at b2; exact b2⟩
    show fo_X9_guttersAs (grp_X9_guttersAs (9 + 2)) 90 (nI 4) x σ = _
    unfold fo_X9_guttersAs
    rw [if_pos kM.1, if_neg (by decide), if_neg (by decide), if_pos (by decide), a1, do_s, m_above, call_s, ab4, a2, call_s, b2.2.1]
    exact Eq.refl _
  · obtain ⟨σ2, a2, b2⟩ := m_guAs2 (d := 9) (x := x) (by omega) hi (by omega) h
    refine ⟨σ2, ?_, b2⟩
    show fo_X9_guttersAs (grp_X9_guttersAs (9 + 2)) 90 (nI 5) x σ = _
    unfold fo_X9_guttersAs
    rw [if_pos kM.1, if_neg (by decide), if_neg (by decide), if_neg (by decide), m_above, call_s, show abF (nI 5) = 2 from ab5, a2, call_s]
    exact Eq.refl _
  · obtain ⟨σ2, a2, b2⟩ := m_guAs0 (d := 10) (x := x) (by omega) hi (by omega) h
    refine ⟨σ2, ?_, b2⟩
    show fo_X9_guttersAs (grp_X9_guttersAs (10 + 1)) 90 (nI 6) x σ = _
    unfold fo_X9_guttersAs
    rw [if_pos kM.1, if_neg (by decide), if_neg (by decide), if_neg (by decide), m_above, call_s, show abF (nI 6) = 0 from ab6, a2, call_s]
    exact Eq.refl _
def pfl (m sp : Int32) : Int32 := if m - sp = 0 then 1 else 0
def pEV (m sp x : Int32) : Int32 := if m - sp = 0 then 0 else x / (m - sp)
def paV (kd : Nat) (m sp x : Int32) : Int32 × List Int32 := if kd = 1 ∨ kd = 4 then (if m - sp = 0 then (0, [21, 13]) else (x / (m - sp) + (tuV kd m sp 1).1, 21 :: 13 :: (tuV kd m sp 1).2)) else (pEV m sp x, [13])
theorem paV_len (kd : Nat) (m sp x : Int32) : (paV kd m sp x).2.length ≤ 8 := by
  have h1 := tuV_len kd m sp 1
  unfold paV
  repeat' split
  all_goals first | omega | (simp only [List.length_cons, List.length_nil]; omega)
theorem MVb.flag {kd i : Nat} {m fl f2 : Int32} {σ0 σ : om_S} {L : List Int32} (h : MVb kd i m fl σ0 L σ) : MVb kd i m f2 σ0 L (om_w σ 90 18 f2) := by
  obtain ⟨⟨h1, h1b⟩, h2, h3, h4, h5, h6, h7⟩ := h
  refine ⟨⟨by rw [om_w_j (by omega)]; exact h1, fun j hj => by rw [om_w_k (by omega)]; exact h1b j hj⟩, by rw [om_w_j (by omega)]; exact h2, om_w_s, by rw [om_w_k (by omega)]; exact h4, by rw [om_w_k (by omega)]; exact h5, fun q a b => by rw [om_w_off a]; exact h6 q a b, fun j a b d => by rw [om_w_j d]; exact h7 j a b d⟩
theorem XVb.flag {kd : Nat} {m sp fl f2 : Int32} {σ0 σ : om_S} {L : List Int32} (h : XVb kd m sp fl σ0 L σ) : XVb kd m sp f2 σ0 L (om_w σ 77 4 f2) := by
  obtain ⟨h1, h2, h3, h4, h5, h6⟩ := h
  exact ⟨h1.congr (om_w_off (by omega)) (om_w_off (by omega)), by rw [om_w_j (by omega)]; exact h2, by rw [om_w_j (by omega)]; exact h3, by rw [om_w_j (by omega)]; exact h4, om_w_s, fun q a b d => by rw [om_w_off a]; exact h6 q a b d⟩
theorem m_paAs0 {kd i d : Nat} {m fl x : Int32} {σ0 σ : om_S} {L : List Int32} (hi : i < 9) (hl : L.length ≤ 16) (h : MVb kd i m fl σ0 L σ) : ∃ σ', grp_X9_partsAs (d + 1) 90 0 x σ = some (pEV m (nI i) x, σ') ∧ MVb kd i m (pfl m (nI i)) σ0 (L ++ [13]) σ' := by
  obtain ⟨σ1, a1, b1⟩ := m_starts (c := 13) h (by omega)
  refine ⟨om_w σ1 90 18 (pfl m (nI i)), ?_, b1.flag⟩
  show fo_X9_partsAs (grp_X9_partsAs d) 90 0 x σ = _
  unfold fo_X9_partsAs f_X9_partsAs_b54
  rw [if_pos kM.1, if_pos rfl, a1, do_s, m_mNow hi b1, call_s, b1.2.1]
  unfold pEV pfl
  by_cases e : m - nI i = 0
  · rw [if_pos e, if_pos (Or.inr rfl), let_s, if_pos e, if_pos e, if_pos e]
  · rw [if_neg e, if_pos (Or.inl rfl), let_s, if_neg e, if_neg e, if_neg e]
    by_cases e1 : m - nI i = -1
    · rw [if_pos e1, e1, div_m1]
    · rw [if_neg e1, if_pos e]
theorem m_paAs1 {kd i d : Nat} {m fl x : Int32} {σ0 σ : om_S} {L : List Int32} (hk : kd ≤ 6) (hi : i < 9) (hl : L.length ≤ 14) (h : MVb kd i m fl σ0 L σ) : ∃ σ', grp_X9_partsAs (d + 2) 90 1 x σ = some (if m - nI i = 0 then 0 else x / (m - nI i) + (tuV kd m (nI i) 1).1, σ') ∧ MVb kd i m (pfl m (nI i)) σ0 (L ++ (if m - nI i = 0 then [21, 13] else 21 :: 13 :: (tuV kd m (nI i) 1).2)) σ' := by
  obtain ⟨σ1, a1, b1⟩ := m_starts (c := 21) h (by omega)
  obtain ⟨σ2, a2, b2⟩ := m_paAs0 (d := d) (x := x) hi (by simp only [ln1]; omega) b1
  by_cases e : m - nI i = 0
  · refine ⟨σ2, ?_, ?_⟩
    · show fo_X9_partsAs (grp_X9_partsAs (d + 1)) 90 1 x σ = _
      unfold fo_X9_partsAs
      rw [if_pos kM.1, if_neg (by decide), if_pos rfl, a1, do_s, m_above, call_s, ab1, a2, call_s, b2.2.2.1, if_pos e]
      unfold pfl
      rw [if_pos e, if_neg (by decide)]
    · rw [if_pos e]
      simp only [List.append_assoc, List.cons_append, List.nil_append] at b2
      exact b2
  · obtain ⟨σ3, a3, b3⟩ := m_turn (d := d) (x := 1) hk hi (by simp only [ln1]; omega) b2
    refine ⟨σ3, ?_, ?_⟩
    · show fo_X9_partsAs (grp_X9_partsAs (d + 1)) 90 1 x σ = _
      unfold fo_X9_partsAs
      rw [if_pos kM.1, if_neg (by decide), if_pos rfl, a1, do_s, m_above, call_s, ab1, a2, call_s, b2.2.2.1, if_neg e]
      unfold pfl pEV
      rw [if_neg e, if_pos rfl, m_kindNow hi b2, call_s, a3, call_s, if_neg e]
    · rw [if_neg e]
      simp only [List.append_assoc, List.cons_append, List.nil_append] at b3
      exact b3
theorem m_paAs2 {kd i d : Nat} {m fl x : Int32} {σ0 σ : om_S} {L : List Int32} (hi : i < 9) (hl : L.length ≤ 14) (h : MVb kd i m fl σ0 L σ) : ∃ σ', grp_X9_partsAs (d + 2) 90 2 x σ = some (pEV m (nI i) x, σ') ∧ MVb kd i m (pfl m (nI i)) σ0 (L ++ [13]) σ' := by
  obtain ⟨σ2, a2, b2⟩ := m_paAs0 (d := d) (x := x) hi (by omega) h
  refine ⟨σ2, ?_, b2⟩
  show fo_X9_partsAs (grp_X9_partsAs (d + 1)) 90 2 x σ = _
  unfold fo_X9_partsAs
  rw [if_pos kM.1, if_neg (by decide), if_neg (by decide), m_above, call_s, ab2, a2, call_s]
theorem m_part {kd i d : Nat} {m fl x : Int32} {σ0 σ : om_S} {L : List Int32} (hk : kd ≤ 6) (hi : i < 9) (hl : L.length ≤ 12) (h : MVb kd i m fl σ0 L σ) : ∃ σ', f_X9_partsAs 90 (nI kd) x σ = some ((paV kd m (nI i) x).1, σ') ∧ MVb kd i m (pfl m (nI i)) σ0 (L ++ (paV kd m (nI i) x).2) σ' := by
  rcases (show kd = 0 ∨ kd = 1 ∨ kd = 2 ∨ kd = 3 ∨ kd = 4 ∨ kd = 5 ∨ kd = 6 by omega) with rfl | rfl | rfl | rfl | rfl | rfl | rfl
  · unfold paV
    rw [if_neg (show ¬ (0 = 1 ∨ 0 = 4) by decide)]
    exact m_paAs0 (d := 11) hi (by omega) h
  · unfold paV
    rw [if_pos (show 1 = 1 ∨ 1 = 4 by decide)]
    obtain ⟨σ2, a2, b2⟩ := m_paAs1 (kd := 1) (d := 10) (x := x) (by omega) hi (by omega) h
    refine ⟨σ2, ?_, ?_⟩
    · refine Eq.trans (show f_X9_partsAs 90 (nI 1) x σ = grp_X9_partsAs (10 + 2) 90 1 x σ from rfl) (a2.trans ?_)
      by_cases e : m - nI i = 0
      · rw [if_pos e, if_pos e]
      · rw [if_neg e, if_neg e]
    · by_cases e : m - nI i = 0
      · rw [if_pos e] at b2 ⊢
        exact b2
      · rw [if_neg e] at b2 ⊢
        exact b2
  · unfold paV
    rw [if_neg (show ¬ (2 = 1 ∨ 2 = 4) by decide)]
    exact m_paAs2 (d := 10) hi (by omega) h
  · unfold paV
    rw [if_neg (show ¬ (3 = 1 ∨ 3 = 4) by decide)]
    obtain ⟨σ2, a2, b2⟩ := m_paAs0 (d := 10) (x := x) hi (by omega) h
    refine ⟨σ2, ?_, ?_⟩
    · show fo_X9_partsAs (grp_X9_partsAs (10 + 1)) 90 (nI 3) x σ = _
      unfold fo_X9_partsAs
      rw [if_pos kM.1, if_neg (by decide), if_neg (by decide), m_above, call_s, show abF (nI 3) = 0 from ab3, a2, call_s]
    · exact b2
  · unfold paV
    rw [if_pos (show 4 = 1 ∨ 4 = 4 by decide)]
    obtain ⟨σ2, a2, b2⟩ := m_paAs1 (d := 9) (x := x) (by omega) hi (by omega) h
    refine ⟨σ2, ?_, ?_⟩
    · show fo_X9_partsAs (grp_X9_partsAs (9 + 2)) 90 (nI 4) x σ = _
      unfold fo_X9_partsAs
      rw [if_pos kM.1, if_neg (by decide), if_neg (by decide), m_above, call_s, show abF (nI 4) = 1 from ab4, a2, call_s]
      by_cases e : m - nI i = 0
      · rw [if_pos e, if_pos e]
      · rw [if_neg e, if_neg e]
    · by_cases e : m - nI i = 0
      · rw [if_pos e] at b2 ⊢
        exact b2
      · rw [if_neg e] at b2 ⊢
        exact b2
  · unfold paV
    rw [if_neg (show ¬ (5 = 1 ∨ 5 = 4) by decide)]
    obtain ⟨σ2, a2, b2⟩ := m_paAs2 (d := 9) (x := x) hi (by omega) h
    refine ⟨σ2, ?_, ?_⟩
    · show fo_X9_partsAs (grp_X9_partsAs (9 + 2)) 90 (nI 5) x σ = _
      unfold fo_X9_partsAs
      rw [if_pos kM.1, if_neg (by decide), if_neg (by decide), m_above, call_s, show abF (nI 5) = 2 from ab5, a2, call_s]
    · exact b2
  · unfold paV
    rw [if_neg (show ¬ (6 = 1 ∨ 6 = 4) by decide)]
    obtain ⟨σ2, a2, b2⟩ := m_paAs0 (d := 10) (x := x) hi (by omega) h
    refine ⟨σ2, ?_, ?_⟩
    · show fo_X9_partsAs (grp_X9_partsAs (10 + 1)) 90 (nI 6) x σ = _
      unfold fo_X9_partsAs
      rw [if_pos kM.1, if_neg (by decide), if_neg (by decide), m_above, call_s, show abF (nI 6) = 0 from ab6, a2, call_s]
    · exact b2
theorem x_part {kd : Nat} {m sp x : Int32} {σ0 σ : om_S} {L : List Int32} (hk : kd ≤ 6) (hl : L.length ≤ 12) (h : XVb kd m sp 0 σ0 L σ) : ∃ σ', f_X7_part 77 x σ = some ((paV kd m sp x).1, σ') ∧ XVb kd m sp (pfl m sp) σ0 (L ++ (paV kd m sp x).2) σ' := by
  have h36 : ∀ (v2 : Int32) (M : List Int32) (τ : om_S), M.length ≤ 14 → XVb kd m sp 0 σ0 M τ → ∃ σ', f_X7_part_b36 77 x v2 τ = some (if m - sp = 0 then 0 else if v2 = 0 then x / (m - sp) else x / (m - sp) + (tuV kd m sp 1).1, σ') ∧ XVb kd m sp (pfl m sp) σ0 (M ++ (if m - sp = 0 then [13] else if v2 = 0 then [13] else 13 :: (tuV kd m sp 1).2)) σ' := by
    intro v2 M τ hM hh
    obtain ⟨σ1, a1, b1⟩ := x_addV (c := 13) hh (by omega)
    unfold f_X7_part_b36 pfl
    simp only [rf_77_0, kc_78, om_ref_s, if_true, a1, call_s, b1.2.2.1, b1.2.2.2.1, let_s]
    by_cases e : m - sp = 0
    · refine ⟨om_w σ1 77 4 1, by rw [if_pos e, if_pos e], ?_⟩
      rw [if_pos e, if_pos e]
      exact b1.flag
    · simp only [if_neg e]
      by_cases e2 : v2 = 0
      · refine ⟨σ1, by rw [if_pos e, if_pos e2, if_pos e2], ?_⟩
        rw [if_pos e2]
        exact b1
      · obtain ⟨σ2, a2, b2⟩ := x_turn (kd := kd) (x := 1) hk (by simp only [ln1]; omega) b1
        refine ⟨σ2, by rw [if_pos e, if_neg e2, a2, call_s, if_neg e2], ?_⟩
        rw [if_neg e2]
        simp only [List.append_assoc, List.cons_append, List.nil_append] at b2
        exact b2
  unfold f_X7_part
  rw [if_pos kc_77, h.2.1]
  have hdance : (kd = 1 ∨ kd = 4) → ∃ σ', f_X7_part_b16 77 x σ = some ((paV kd m sp x).1, σ') ∧ XVb kd m sp (pfl m sp) σ0 (L ++ (paV kd m sp x).2) σ' := by
    intro hd
    obtain ⟨σ1, a1, b1⟩ := x_addV (c := 21) h (by omega)
    obtain ⟨σ2, a2, b2⟩ := h36 1 (L ++ [21]) σ1 (by simp only [ln1]; omega) b1
    refine ⟨σ2, ?_, ?_⟩
    · unfold f_X7_part_b16 f_X7_part_b21
      rw [if_neg (by decide)]
      simp only [rf_77_0, kc_78, om_ref_s, if_true, a1, call_s, a2]
      unfold paV
      rw [if_pos hd]
      by_cases e : m - sp = 0
      · rw [if_pos e, if_pos e]
      · rw [if_neg e, if_neg e, if_neg (by decide)]
    · unfold paV
      rw [if_pos hd]
      by_cases e : m - sp = 0
      · rw [if_pos e] at b2 ⊢
        simp only [List.append_assoc, List.cons_append, List.nil_append] at b2
        exact b2
      · rw [if_neg e, if_neg (by decide)] at b2
        rw [if_neg e]
        simp only [List.append_assoc, List.cons_append, List.nil_append] at b2
        exact b2
  have hplain : ¬ (kd = 1 ∨ kd = 4) → ∃ σ', f_X7_part_b21 77 x 0 σ = some ((paV kd m sp x).1, σ') ∧ XVb kd m sp (pfl m sp) σ0 (L ++ (paV kd m sp x).2) σ' := by
    intro hd
    obtain ⟨σ2, a2, b2⟩ := h36 0 L σ (by omega) h
    refine ⟨σ2, ?_, ?_⟩
    · unfold f_X7_part_b21
      rw [if_pos rfl, a2]
      unfold paV pEV
      rw [if_neg hd]
      by_cases e : m - sp = 0
      · rw [if_pos e, if_pos e]
      · rw [if_neg e, if_neg e, if_pos rfl]
    · unfold paV
      rw [if_neg hd]
      by_cases e : m - sp = 0
      · rw [if_pos e] at b2
        exact b2
      · rw [if_neg e, if_pos rfl] at b2
        exact b2
  rcases (show kd = 0 ∨ kd = 1 ∨ kd = 2 ∨ kd = 3 ∨ kd = 4 ∨ kd = 5 ∨ kd = 6 by omega) with rfl | rfl | rfl | rfl | rfl | rfl | rfl
  · rw [if_neg (by decide), if_neg (by decide)]
    exact hplain (by decide)
  · rw [if_pos (by decide)]
    exact hdance (by decide)
  · rw [if_neg (by decide), if_neg (by decide)]
    exact hplain (by decide)
  · rw [if_neg (by decide), if_neg (by decide)]
    exact hplain (by decide)
  · rw [if_neg (by decide), if_pos (by decide)]
    exact hdance (by decide)
  · rw [if_neg (by decide), if_neg (by decide)]
    exact hplain (by decide)
  · rw [if_neg (by decide), if_neg (by decide)]
    exact hplain (by decide)
