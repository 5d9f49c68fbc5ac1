/-! ===== text ===== -/
theorem T71 : IsTx 71 72 73 74 := ⟨kc_71, rf_71_1, R72, rf_71_2, kc_74, al_74, by omega, by omega, by omega⟩
/-- the class reads: accepted with its codes, or the place of the fault -/
theorem readBoth {u : Nat} {T : List Int32} (hT : T.length ≤ 60) (hu : u < 2) :
    (∃ D, WC D ∧ (∀ s0 σ, XP u T s0 0 [] σ → ∃ σ', (om_call (f_X2_readChain 70 0 0 σ) fun r s => if r = 0 then f_X2_read_b52 70 s else if s 70 3 = s 75 1 then f_X2_read_b53 70 1 s else f_X2_read_b52 70 s) = some (-1, σ') ∧ XRow 72 73 D σ' ∧ ∀ q, (q < 70 ∨ 77 ≤ q) → σ' q = s0 q) ∧ ∀ t0 τ, MP u T t0 0 0 [] τ → ∃ τ', f_X9_whole 90 τ = some (1, τ') ∧ τ' 90 6 = nI T.length ∧ MP u T t0 0 T.length D τ') ∨
    (∃ p, p ≤ 60 ∧ (∀ s0 σ, XP u T s0 0 [] σ → ∃ σ', (om_call (f_X2_readChain 70 0 0 σ) fun r s => if r = 0 then f_X2_read_b52 70 s else if s 70 3 = s 75 1 then f_X2_read_b53 70 1 s else f_X2_read_b52 70 s) = some (nI p, σ') ∧ ∀ q, (q < 70 ∨ 77 ≤ q) → σ' q = s0 q) ∧ ∀ t0 τ, MP u T t0 0 0 [] τ → ∃ τ' r, f_X9_whole 90 τ = some (r, τ') ∧ (r = 0 ∨ (r = 1 ∧ τ' 90 6 ≠ nI T.length)) ∧ MF t0 p τ') := by
  obtain ⟨p, a1, a2, hcase⟩ := readJ hT hu
  rcases hcase with ⟨fx, fm⟩ | ⟨D, b1, b2, b3, fx, fm⟩
  · refine Or.inr ⟨p, by omega, fun s0 σ h => ?_, fun t0 τ h => ?_⟩
    · obtain ⟨σ', c1, c2⟩ := fx σ h
      refine ⟨σ', ?_, c2.2⟩
      rw [show f_X2_readChain 70 0 0 σ = _ from c1, call_s, if_pos rfl]
      unfold f_X2_read_b52 f_X2_read_b53
      rw [if_pos rfl, c2.1]
    · obtain ⟨τ', c1, c2⟩ := fm τ h
      exact ⟨τ', 0, c1, Or.inl rfl, c2⟩
  · rw [List.nil_append] at fx fm
    by_cases e : p = T.length
    · subst e
      refine Or.inl ⟨D, ⟨by omega, Or.inr ?_⟩, fun s0 σ h => ?_, fun t0 τ h => ?_⟩
      · have := b3 [] 0 rfl
        rw [List.append_nil] at this
        exact this
      · obtain ⟨σ', c1, c2⟩ := fx σ h
        refine ⟨σ', ?_, c2.2.2.2.1, c2.2.2.2.2⟩
        rw [show f_X2_readChain 70 0 0 σ = _ from c1, call_s, if_neg (by decide), c2.1, c2.2.2.1.1, if_pos rfl]
        unfold f_X2_read_b53
        rw [if_neg (by decide)]
      · obtain ⟨τ', c1, c2⟩ := fm τ h
        exact ⟨τ', c1, c2.1, c2⟩
    · refine Or.inr ⟨p, by omega, fun s0 σ h => ?_, fun t0 τ h => ?_⟩
      · obtain ⟨σ', c1, c2⟩ := fx σ h
        refine ⟨σ', ?_, c2.2.2.2.2⟩
        rw [show f_X2_readChain 70 0 0 σ = _ from c1, call_s, if_neg (by decide), c2.1, c2.2.2.1.1, if_neg (fun q => e ((nI_eq (by omega) (by omega)).mp q))]
        unfold f_X2_read_b52 f_X2_read_b53
        rw [if_pos rfl, c2.1]
      · obtain ⟨τ', c1, c2⟩ := fm τ h
        refine ⟨τ', 1, c1, Or.inr ⟨rfl, ?_⟩, c2.fail⟩
        rw [c2.1]
        exact fun q => e ((nI_eq (by omega) (by omega)).mp q)
theorem x_read {u : Nat} {T : List Int32} {σ : om_S} (hT : T.length ≤ 60) (hR : XRow 62 63 T σ) : ∃ σ4, XP u T σ 0 [] σ4 ∧ f_X2_read 70 62 (nI u) σ = om_call (f_X2_readChain 70 0 0 σ4) fun r s => if r = 0 then f_X2_read_b52 70 s else if s 70 3 = s 75 1 then f_X2_read_b53 70 1 s else f_X2_read_b52 70 s := by
  obtain ⟨σ2, p1, p2, p3⟩ := x_copyFrom (L := T) (σ := om_w σ 72 1 0) R75 R62 (by omega) (by omega) (by omega) (by omega) hT hT (hR.congr (om_w_off (by omega)) (om_w_off (by omega)))
  refine ⟨om_w (om_w σ2 70 2 (nI u)) 70 3 0, ⟨om_w_s, by rw [om_w_j (by omega), om_w_s], p2.congr (by rw [om_w_off (by omega), om_w_off (by omega)]) (by rw [om_w_off (by omega), om_w_off (by omega)]), (XRow.nil (r := 72) (v := 73) (σ := σ)).congr (by rw [om_w_off (by omega), om_w_off (by omega), p3 _ (by omega) (by omega)]) (by rw [om_w_off (by omega), om_w_off (by omega), p3 _ (by omega) (by omega)]), fun q hq => by rw [om_w_off (by omega), om_w_off (by omega), p3 q (by omega) (by omega), om_w_off (by omega)]⟩, ?_⟩
  unfold f_X2_read
  simp only [kX, rf_70_0, kc_71, rf_70_1, kc_75, om_ref_s, if_true, x_clearT T71, do_s, p1, let_s, x_size kc_75, call_s]
theorem m_textLoop {u n : Nat} {σ0 : om_S} (hu : u < 2) (hn : n ≤ 60) (h8 : σ0 90 8 = nI n) :
    ∀ m i F σ, i + m = 2 * n → m < F → (∀ k, k < i → σ 91 (54 + 125 * u + k) = σ0 95 k) → (∀ j, (j < 54 + 125 * u ∨ 54 + 125 * u + 2 * n ≤ j) → σ 91 j = σ0 91 j) → (∀ q, q ≠ 91 → σ q = σ0 q) →
    ∃ σ', f_X9_text_b101 F 90 (nI (53 + 125 * u)) (nI i) σ = some (1, σ') ∧ (∀ k, k < 2 * n → σ' 91 (54 + 125 * u + k) = σ0 95 k) ∧ (∀ j, (j < 54 + 125 * u ∨ 54 + 125 * u + 2 * n ≤ j) → σ' 91 j = σ0 91 j) ∧ ∀ q, q ≠ 91 → σ' q = σ0 q := by
  have e2 : (2 : Int32) * nI n = nI (2 * n) := pk_mul 2 n
  intro m
  induction m with
  | zero =>
    intro i F σ hi hF g1 g2 g3
    obtain ⟨F, rfl⟩ : ∃ G, F = G + 1 := ⟨F - 1, by omega⟩
    refine ⟨σ, ?_, fun k hk => g1 k (by omega), g2, g3⟩
    unfold f_X9_text_b101
    rw [g3 90 (by omega), h8, e2, if_pos (nI_le (by omega) (by omega))]
  | succ m ih =>
    intro i F σ hi hF g1 g2 g3
    obtain ⟨F, rfl⟩ : ∃ G, F = G + 1 := ⟨F - 1, by omega⟩
    have c1 : (nI i).toNatClampNeg = i := nI_clamp (by omega)
    have c2 : (nI (54 + 125 * u + i)).toNatClampNeg = 54 + 125 * u + i := nI_clamp (by omega)
    have ei : nI (53 + 125 * u + 1) + nI i = nI (54 + 125 * u + i) := by
      rw [nI_add]
      congr 1
      omega
    obtain ⟨σ', q1, q2, q3, q4⟩ := ih (i + 1) F (om_w σ 91 (54 + 125 * u + i) (σ 95 i)) (by omega) (by omega) (fun k hk => by
      by_cases e : k = i
      · rw [e, om_w_s, g3 95 (by omega)]
      · rw [om_w_j (by omega)]
        exact g1 k (by omega)) (fun j hj => by rw [om_w_j (by omega)]; exact g2 j hj) (fun q hq => by rw [om_w_off hq]; exact g3 q hq)
    refine ⟨σ', ?_, q2, q3, q4⟩
    unfold f_X9_text_b101
    rw [g3 90 (by omega), h8, e2, if_neg (nI_ge (by omega) (by omega))]
    simp only [kM, rM, aM, om_ref_s, if_true, let_s, ei, c1, c2, nI_1]
    rw [if_pos (in_nI (by omega) (by omega)), if_pos (in_nI (by omega) (by omega)), q1]
theorem ix_u (u : Nat) : (53 : Int32) + 125 * nI u = nI (53 + 125 * u) := by
  rw [show (125 : Int32) = nI 125 from rfl, pk_mul]
  exact nI_add 53 (125 * u)
/-- the model's text, accepted -/
theorem m_textY {u : Nat} {T D : List Int32} {t0 τ : om_S} (hu : u < 2) (hD : D.length ≤ 60) (hT : T.length ≤ 60) (h : MP u T t0 0 T.length D τ) : ∃ σ', f_X9_text_b60 90 (nI u) 1 τ = some (1, σ') ∧ MText 91 u D σ' ∧ σ' 91 4 = 0 ∧ (∀ j, j ≠ 4 → (j < 53 + 125 * u ∨ 53 + 125 * u + 121 ≤ j) → σ' 91 j = t0 91 j) ∧ (∀ q, q ≠ 90 → q ≠ 91 → q ≠ 95 → σ' q = t0 q) ∧ ∀ j, j ≠ 6 → j ≠ 7 → j ≠ 8 → j ≠ 9 → σ' 90 j = t0 90 j := by
  obtain ⟨h1, h2, h3, h4, h5, h6, h7, h8⟩ := h
  have c1 : (nI (53 + 125 * u)).toNatClampNeg = 53 + 125 * u := nI_clamp (by omega)
  have i1 : om_in (nI (53 + 125 * u)) 387 = True := eq_true (in_nI (by omega) (by omega))
  obtain ⟨σ', q1, q2, q3, q4⟩ := m_textLoop (u := u) (n := D.length) (σ0 := om_w (om_w τ 91 4 0) 91 (53 + 125 * u) (nI D.length)) hu hD (by rw [om_w_k (by omega), om_w_k (by omega)]; exact h3) (2 * D.length) 0 om_F _ (by omega) (lt_F (by omega)) (fun k hk => by omega) (fun _ _ => rfl) (fun _ _ => rfl)
  refine ⟨σ', ?_, ⟨?_, fun k hk => ?_⟩, ?_, fun j a b => ?_, fun q a b c => ?_, fun j a b c d => ?_⟩
  · unfold f_X9_text_b60
    simp only [kM, rM, aM, om_ref_s, if_true, let_s, in4_387, cl4, ix_u, c1, i1]
    rw [if_neg (by decide), om_w_k (by omega), h3]
    exact q1
  · rw [q3 _ (by omega), om_w_s]
  · have e1 := q2 (2 * k) (by omega)
    have e2 := q2 (2 * k + 1) (by omega)
    rw [om_w_k (by omega), om_w_k (by omega)] at e1 e2
    refine ⟨e1.trans (h5 k hk).1, ?_⟩
    rw [show 55 + 125 * u + 2 * k = 54 + 125 * u + (2 * k + 1) by omega]
    exact e2.trans (h5 k hk).2
  · rw [q3 4 (by omega), om_w_j (by omega), om_w_s]
  · rw [q3 j (by omega), om_w_j (by omega), om_w_j a, h7 91 (by omega) (by omega)]
  · rw [q4 q b, om_w_off b, om_w_off b]
    exact h7 q a c
  · rw [q4 90 (by omega), om_w_k (by omega), om_w_k (by omega)]
    exact h8 j a b c d
theorem m_textN {u p : Nat} {t0 τ : om_S} (h : MF t0 p τ) : f_X9_text_b60 90 (nI u) 0 τ = some (-10 - nI p, om_w τ 91 4 0) := by
  unfold f_X9_text_b60
  simp only [kM, rM, aM, om_ref_s, if_true, let_s, in4_387, cl4]
  rw [om_w_k (by omega), h.1]
theorem m_text0 {u : Nat} {T : List Int32} {τ : om_S} (h01 : (0 : Int32) ≤ nI u ∧ nI u ≤ 1) (hR : NRow 91 4 303 T τ) : ∃ τ6, MP u T τ 0 0 [] τ6 ∧ f_X9_text 90 (nI u) τ = om_call (f_X9_whole 90 τ6) fun r s => if r = 0 then f_X9_text_b59 90 (nI u) s else if s 90 6 = s 91 4 then f_X9_text_b60 90 (nI u) 1 s else f_X9_text_b59 90 (nI u) s := by
  refine ⟨om_w (om_w (om_w (om_w τ 90 9 (nI u)) 90 6 0) 90 7 0) 90 8 0, ⟨?_, ?_, om_w_s, ?_, (fun k hk => by cases hk), ?_, fun q a b => by rw [om_w_off a, om_w_off a, om_w_off a, om_w_off a], fun j a b c d => by rw [om_w_j c, om_w_j b, om_w_j a, om_w_j d]⟩, ?_⟩
  · rw [om_w_j (by omega), om_w_j (by omega), om_w_s]
    rfl
  · rw [om_w_j (by omega), om_w_s]
    rfl
  · rw [om_w_j (by omega), om_w_j (by omega), om_w_j (by omega), om_w_s]
  · exact hR.congr (by rw [om_w_k (by omega), om_w_k (by omega), om_w_k (by omega), om_w_k (by omega)]) (fun j _ _ => by rw [om_w_k (by omega), om_w_k (by omega), om_w_k (by omega), om_w_k (by omega)])
  · unfold f_X9_text
    simp only [kM, rM, aM, om_ref_s, if_true, m_in, call_s, let_s, in4_387, cl4]
    rw [bI_y h01]
theorem op_text (a : Int32) : Sim (fun σ => f_X8_text 0 a σ) (fun σ => f_X9_text 90 a σ) := by
  refine sim_of fun s σ w hx => ?_
  obtain ⟨V, Z, C0, C1, T, W, K, g, E, Tr, Sh⟩ := s
  have hC0 : WC C0 := w.1.2.2.1
  have hC1 : WC C1 := w.1.2.2.2.1
  have hT : T.length ≤ 60 := w.1.2.2.2.2.1
  by_cases h : (0 : Int32) ≤ a ∧ a ≤ 1
  · obtain ⟨u, hu, rfl⟩ := win (n := 1) h (by decide) rfl (by decide)
    obtain ⟨σ4, x1, x2⟩ := x_read (u := u) hT hx.1.2.1
    have hxt : f_X8_text 0 (nI u) σ = om_call (f_X2_read 70 62 (nI u) σ) fun r s => if r = -1 then om_do (f_X5_copyFrom (3 + 4 * u) 71 (om_w s 62 1 0)) fun s => some (1, s) else some (-10 - r, om_w s 62 1 0) := by
      unfold f_X8_text f_X6_textOf
      simp only [kX, rX, om_ref_s, if_true]
      rcases (show u = 0 ∨ u = 1 by omega) with rfl | rfl
      · rw [if_pos (by decide), tr1 T1]
        simp only [om_ref_s, tk2 T1, if_true, call_s, om_nul_s, x_clear kc_62, do_s, rf_70_0, kc_71]
      · rw [if_neg (by decide), if_pos (by decide), tr2 T1]
        simp only [om_ref_s, tk6 T1, if_true, call_s, om_nul_s, x_clear kc_62, do_s, rf_70_0, kc_71]
    have hframe : ∀ σ5 : om_S, (∀ q, (q < 70 ∨ 77 ≤ q) → σ5 q = σ q) → HX (V, Z, C0, C1, [], W, K, g, E, Tr, Sh) (om_w σ5 62 1 0) := by
      intro σ5 hf
      have h1 : HX (V, Z, C0, C1, T, W, K, g, E, Tr, Sh) σ5 := hx.scr0 (fun q _ _ _ _ b => hf q (by omega)) (hx.xz.congr (fun q hq => hf q (by omega)))
      exact h1.row XRow.nil (h1.1.2.2.congr (om_w_off (by omega)) (om_w_off (by omega))) (fun q d _ _ _ => om_w_off d)
    have hmframe : ∀ τ τ5 : om_S, HM (V, Z, C0, C1, T, W, K, g, E, Tr, Sh) τ → (∀ q, q ≠ 90 → q ≠ 95 → τ5 q = τ q) → (∀ j, j ≠ 6 → j ≠ 7 → j ≠ 8 → j ≠ 9 → τ5 90 j = τ 90 j) → HM (V, Z, C0, C1, [], W, K, g, E, Tr, Sh) (om_w τ5 91 4 0) := by
      intro τ τ5 hm hf hg
      have h1 : HM (V, Z, C0, C1, T, W, K, g, E, Tr, Sh) τ5 := hm.scr ⟨fun q b _ c _ _ _ _ _ => hf q b c, hg 3 (by omega) (by omega) (by omega) (by omega), hg 15 (by omega) (by omega) (by omega) (by omega), by rw [hg 5 (by omega) (by omega) (by omega) (by omega)]; exact hm.mz.1, by rw [hf 98 (by omega) (by omega)]; exact hm.mz.2.1, by rw [hf 99 (by omega) (by omega)]; exact hm.mz.2.2⟩
      exact h1.row hC0.1 hC1.1 ⟨om_w_s, fun j hj => by cases hj⟩ (h1.1.2.2.w (by omega) (by omega)) (fun j b _ _ => om_w_j b) (fun q hq => om_w_off hq)
    rcases readBoth (u := u) (T := T) hT (by omega) with ⟨D, hD, fx, fm⟩ | ⟨p, hp, fx, fm⟩
    · obtain ⟨σ5, c1, c2, c3⟩ := fx σ σ4 x1
      have hx5 := hframe σ5 c3
      have hms : ∀ τ, HM (V, Z, C0, C1, T, W, K, g, E, Tr, Sh) τ → ∃ τ', f_X9_text 90 (nI u) τ = some (1, τ') ∧ MText 91 u D τ' ∧ τ' 91 4 = 0 ∧ (∀ j, j ≠ 4 → (j < 53 + 125 * u ∨ 53 + 125 * u + 121 ≤ j) → τ' 91 j = τ 91 j) ∧ (∀ q, q ≠ 90 → q ≠ 91 → q ≠ 95 → τ' q = τ q) ∧ ∀ j, j ≠ 6 → j ≠ 7 → j ≠ 8 → j ≠ 9 → τ' 90 j = τ 90 j := by
        intro τ hm
        obtain ⟨τ6, m1, m2⟩ := m_text0 (u := u) h hm.1.2.1
        obtain ⟨τ7, n1, n2, n3⟩ := fm τ τ6 m1
        obtain ⟨τ8, k1, k2⟩ := m_textY (by omega) hD.1 hT n3
        refine ⟨τ8, ?_, k2⟩
        rw [m2, n1, call_s, if_neg (by decide), n2, n3.2.2.2.2.2.1.1, if_pos rfl, k1]
      rcases (show u = 0 ∨ u = 1 by omega) with rfl | rfl
      · obtain ⟨σ6, d1, d2, d3⟩ := x_textCopy (C := D) (σ := om_w σ5 62 1 0) (tx0 T1) T71 (by omega) (by omega) (by omega) (by omega) hD.1 (c2.congr (om_w_off (by omega)) (om_w_off (by omega)))
        refine ⟨1, (V, Z, D, C1, [], W, K, g, E, Tr, Sh), ⟨⟨w.1.1, w.1.2.1, hD, hC1, Nat.zero_le _, w.1.2.2.2.2.2⟩, w.2⟩, ⟨σ6, ?_, hx5.tw ⟨hx5.1.1.txt d2 (hx5.1.1.2.2.2.2.2.2.2.1.congr (d3 _ (by omega) (by omega)) (d3 _ (by omega) (by omega))) (fun q _ _ a b _ _ _ _ => d3 q (by omega) (by omega)), hx5.1.2.1.congr (d3 _ (by omega) (by omega)) (d3 _ (by omega) (by omega)), hx5.1.2.2.congr (d3 _ (by omega) (by omega)) (d3 _ (by omega) (by omega))⟩ (hx5.xz.congr (fun q hq => d3 q (by omega) (by omega))) (fun q hq => d3 q (by omega) (by omega)), fun q hq => by rw [d3 q (by omega) (by omega), om_w_off (by omega), c3 q (by omega)]⟩, fun τ hm => ?_⟩
        · show f_X8_text 0 (nI 0) σ = _
          rw [hxt, x2, c1, call_s, if_pos rfl, show f_X5_copyFrom (3 + 4 * 0) 71 (om_w σ5 62 1 0) = _ from d1, do_s]
        · obtain ⟨τ', e1, e2, e3, e4, e5, e6⟩ := hms τ hm
          refine ⟨τ', e1, hm.tw ⟨hm.1.1.txt e2 (hm.1.1.2.2.2.2.2.2.2.move hC1.1 (fun j a b => e4 j (by omega) (by omega))) (fun j a b c => e4 j b (by omega)), ⟨e3, fun j hj => by cases hj⟩, hm.1.2.2.congr (e4 5 (by omega) (by omega)) (fun j a b => e4 j (by omega) (by omega))⟩ ⟨?_, ?_, ?_⟩ (fun q hq => e5 q (by omega) (by omega) (by omega)) (e6 3 (by omega) (by omega) (by omega) (by omega)) (e6 15 (by omega) (by omega) (by omega) (by omega)), fun q hq => e5 q (by omega) (by omega) (by omega)⟩
          · rw [e6 5 (by omega) (by omega) (by omega) (by omega)]
            exact hm.mz.1
          · rw [e5 98 (by omega) (by omega) (by omega)]
            exact hm.mz.2.1
          · rw [e5 99 (by omega) (by omega) (by omega)]
            exact hm.mz.2.2
      · obtain ⟨σ6, d1, d2, d3⟩ := x_textCopy (C := D) (σ := om_w σ5 62 1 0) (tx1 T1) T71 (by omega) (by omega) (by omega) (by omega) hD.1 (c2.congr (om_w_off (by omega)) (om_w_off (by omega)))
        refine ⟨1, (V, Z, C0, D, [], W, K, g, E, Tr, Sh), ⟨⟨w.1.1, w.1.2.1, hC0, hD, Nat.zero_le _, w.1.2.2.2.2.2⟩, w.2⟩, ⟨σ6, ?_, hx5.tw ⟨hx5.1.1.txt (hx5.1.1.2.2.2.2.2.2.1.congr (d3 _ (by omega) (by omega)) (d3 _ (by omega) (by omega))) d2 (fun q _ _ _ _ _ a b _ => d3 q (by omega) (by omega)), hx5.1.2.1.congr (d3 _ (by omega) (by omega)) (d3 _ (by omega) (by omega)), hx5.1.2.2.congr (d3 _ (by omega) (by omega)) (d3 _ (by omega) (by omega))⟩ (hx5.xz.congr (fun q hq => d3 q (by omega) (by omega))) (fun q hq => d3 q (by omega) (by omega)), fun q hq => by rw [d3 q (by omega) (by omega), om_w_off (by omega), c3 q (by omega)]⟩, fun τ hm => ?_⟩
        · show f_X8_text 0 (nI 1) σ = _
          rw [hxt, x2, c1, call_s, if_pos rfl, show f_X5_copyFrom (3 + 4 * 1) 71 (om_w σ5 62 1 0) = _ from d1, do_s]
        · obtain ⟨τ', e1, e2, e3, e4, e5, e6⟩ := hms τ hm
          refine ⟨τ', e1, hm.tw ⟨hm.1.1.txt (hm.1.1.2.2.2.2.2.2.1.move hC0.1 (fun j a b => e4 j (by omega) (by omega))) e2 (fun j a b c => e4 j b (by omega)), ⟨e3, fun j hj => by cases hj⟩, hm.1.2.2.congr (e4 5 (by omega) (by omega)) (fun j a b => e4 j (by omega) (by omega))⟩ ⟨?_, ?_, ?_⟩ (fun q hq => e5 q (by omega) (by omega) (by omega)) (e6 3 (by omega) (by omega) (by omega) (by omega)) (e6 15 (by omega) (by omega) (by omega) (by omega)), fun q hq => e5 q (by omega) (by omega) (by omega)⟩
          · rw [e6 5 (by omega) (by omega) (by omega) (by omega)]
            exact hm.mz.1
          · rw [e5 98 (by omega) (by omega) (by omega)]
            exact hm.mz.2.1
          · rw [e5 99 (by omega) (by omega) (by omega)]
            exact hm.mz.2.2
    · obtain ⟨σ5, c1, c3⟩ := fx σ σ4 x1
      refine ⟨-10 - nI p, (V, Z, C0, C1, [], W, K, g, E, Tr, Sh), ⟨⟨w.1.1, w.1.2.1, hC0, hC1, Nat.zero_le _, w.1.2.2.2.2.2⟩, w.2⟩, ⟨_, ?_, hframe σ5 c3, fun q hq => by rw [om_w_off (by omega), c3 q (by omega)]⟩, fun τ hm => ?_⟩
      · show f_X8_text 0 (nI u) σ = _
        rw [hxt, x2, c1, call_s, if_neg (nI_nm1 (by omega))]
      · obtain ⟨τ6, m1, m2⟩ := m_text0 (u := u) h hm.1.2.1
        obtain ⟨τ7, r, n1, n2, n3⟩ := fm τ τ6 m1
        refine ⟨om_w τ7 91 4 0, ?_, hmframe τ τ7 hm n3.2.1 n3.2.2, fun q hq => by rw [om_w_off (by omega), n3.2.1 q (by omega) (by omega)]⟩
        show f_X9_text 90 (nI u) τ = _
        rw [m2, n1, call_s]
        unfold f_X9_text_b59
        rcases n2 with rfl | ⟨rfl, n2⟩
        · rw [if_pos rfl, m_textN n3]
        · rw [if_neg (by decide), if_neg (fun q => n2 (by rw [q, n3.2.1 91 (by omega) (by omega)]; exact hm.1.2.1.1)), m_textN n3]
  · have nv : ∀ j : Nat, j < 2 → a ≠ nI j := by
      intro j hj e
      refine h ?_
      rw [e]
      exact ⟨nI_le (a := 0) (Nat.zero_le _) (by omega), nI_le (b := 1) (by omega) (by omega)⟩
    refine ⟨rfE 1, (V, Z, C0, C1, T, W, K, g, upE E 1, Tr, Sh), w, XO.no0 hx (k := 1) (by omega) ?_, fun τ hm => MO.no0 hm (k := 1) (by omega) ?_⟩
    · show f_X8_text 0 a σ = _
      unfold f_X8_text f_X6_textOf
      simp only [kX, rX, om_ref_s, if_true, call_s, let_s, om_nul_s, om_nul_n, tr1 T1]
      rw [if_neg (show ¬ a = 0 from nv 0 (by omega)), if_neg (show ¬ a = 1 from nv 1 (by omega)), call_s, om_nul_n]
      exact Eq.refl _
    · show f_X9_text 90 a τ = _
      unfold f_X9_text 
      simp only [kM, rM, aM, om_ref_s, if_true, call_s, let_s, m_in]
      rw [bI_n h]
      exact Eq.refl _
