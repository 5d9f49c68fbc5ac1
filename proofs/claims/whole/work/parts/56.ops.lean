/-! ===== feed, untell ===== -/
def byI (w : Int64) (i : Nat) : Int32 := (((w.toUInt64 >>> ((8 * nI i).toInt64.toUInt64 &&& Int64.toUInt64 63)).toInt64).toInt32) &&& (255 : Int32)
theorem amt : ∀ i, i < 8 → ((8 * nI i).toInt64.toUInt64 &&& Int64.toUInt64 63).toNat % 64 = 8 * i ∧ ((((8 * nI i).toInt64 &&& 63)).toBitVec.smod 64).toNat = 8 * i := by decide +kernel
theorem byI_m (w : Int64) {i : Nat} (h : i < 8) : ((w >>> ((8 * nI i).toInt64 &&& 63)) &&& (255 : Int64)).toInt32 = byI w i := (fbk w (8 * i) _ _ (by omega) (amt i h).1 (amt i h).2).symm
def fdT (w : Int64) : Nat → Nat → List Int32 → List Int32
  | 0, _, T => T
  | m + 1, i, T => fdT w m (i + 1) (T ++ [byI w i])
theorem fdT_len (w : Int64) : ∀ (m i : Nat) (T : List Int32), (fdT w m i T).length = T.length + m := by
  intro m
  induction m with
  | zero =>
    intro i T
    rfl
  | succ m ih =>
    intro i T
    show (fdT w m (i + 1) (T ++ [byI w i])).length = _
    rw [ih, ln1]
    omega
theorem x_feedLoop {w : Int64} (n : Nat) (hn : n ≤ 8) : ∀ (m i F : Nat) (T : List Int32) (σ : om_S), i + m = n → m < F → T.length + m ≤ 60 → XRow 62 63 T σ → ∃ σ', f_X8_feed_b39 F 0 w (nI n) (nI i) σ = some (nI (T.length + m), σ') ∧ XRow 62 63 (fdT w m i T) σ' ∧ ∀ q, q ≠ 62 → q ≠ 63 → σ' q = σ q := by
  intro m
  induction m with
  | zero =>
    intro i F T σ hi hF hT hR
    obtain ⟨F, rfl⟩ : ∃ G, F = G + 1 := ⟨F - 1, by omega⟩
    refine ⟨σ, ?_, hR, fun _ _ _ => rfl⟩
    unfold f_X8_feed_b39
    rw [if_pos (nI_le (by omega) (by omega))]
    simp only [rX, kX, om_ref_s, if_true, x_size kc_62, call_s, hR.1]
    exact Eq.refl _
  | succ m ih =>
    intro i F T σ hi hF hT hR
    obtain ⟨F, rfl⟩ : ∃ G, F = G + 1 := ⟨F - 1, by omega⟩
    have ha := x_add (x := byI w i) R62 hR (show T.length < 60 by omega)
    obtain ⟨σ', q1, q2, q3⟩ := ih (i + 1) F (T ++ [byI w i]) _ (by omega) (by omega) (by rw [ln1]; omega) (XRow.add (x := byI w i) (by omega) hR)
    refine ⟨σ', ?_, q2, fun q a b => by rw [q3 q a b, om_w_off a, om_w_off b]⟩
    unfold f_X8_feed_b39
    rw [if_neg (nI_ge (by omega) (by omega))]
    simp only [rX, kX, om_ref_s, if_true]
    rw [show ((((w.toUInt64 >>> ((8 * nI i).toInt64.toUInt64 &&& Int64.toUInt64 63)).toInt64).toInt32) &&& (255 : Int32)) = byI w i from rfl, ha, call_s, nI_1, q1, ln1, show T.length + 1 + m = T.length + (m + 1) by omega]
theorem m_feedLoop {w : Int64} (n : Nat) (hn : n ≤ 8) : ∀ (m i F : Nat) (T : List Int32) (σ : om_S), i + m = n → m < F → T.length + m ≤ 60 → NRow 91 4 303 T σ → ∃ σ', f_X9_feed_b38 F 90 w (nI n) (nI i) σ = some (nI (T.length + m), σ') ∧ NRow 91 4 303 (fdT w m i T) σ' ∧ (∀ q, q ≠ 91 → σ' q = σ q) ∧ ∀ j, j ≠ 4 → (j < 303 ∨ 363 ≤ j) → σ' 91 j = σ 91 j := by
  intro m
  induction m with
  | zero =>
    intro i F T σ hi hF hT hR
    obtain ⟨F, rfl⟩ : ∃ G, F = G + 1 := ⟨F - 1, by omega⟩
    refine ⟨σ, ?_, hR, fun _ _ => rfl, fun _ _ _ => rfl⟩
    unfold f_X9_feed_b38
    rw [if_pos (nI_le (by omega) (by omega))]
    simp only [kM, rM, aM, om_ref_s, if_true, in4_387, cl4, hR.1]
    exact Eq.refl _
  | succ m ih =>
    intro i F T σ hi hF hT hR
    obtain ⟨F, rfl⟩ : ∃ G, F = G + 1 := ⟨F - 1, by omega⟩
    have c : (nI (303 + T.length)).toNatClampNeg = 303 + T.length := nI_clamp (by omega)
    have hi2 : om_in (nI (303 + T.length)) 387 = True := eq_true (in_nI (by omega) (by omega))
    obtain ⟨σ', q1, q2, q3, q4⟩ := ih (i + 1) F (T ++ [byI w i]) _ (by omega) (by omega) (by rw [ln1]; omega) (NRow.add (x := byI w i) (by omega) hR)
    refine ⟨σ', ?_, q2, fun q a => by rw [q3 q a, om_w_off a, om_w_off a], fun j a b => by rw [q4 j a b, om_w_j a, om_w_j (by omega)]⟩
    unfold f_X9_feed_b38
    rw [if_neg (nI_ge (by omega) (by omega))]
    simp only [kM, rM, aM, om_ref_s, if_true, in4_387, cl4, hR.1, show (303 : Int32) + nI T.length = nI (303 + T.length) from nI_add 303 T.length, c, hi2, let_s]
    rw [byI_m w (show i < 8 by omega), show om_w σ 91 (303 + T.length) (byI w i) 91 4 = nI T.length from (om_w_j (by omega)).trans hR.1, nI_1, nI_1, q1, ln1, show T.length + 1 + m = T.length + (m + 1) by omega]
theorem op_feed (b : Int64) (v : Int32) : Sim (fun σ => f_X8_feed 0 b v σ) (fun σ => f_X9_feed 90 b v σ) := by
  refine sim_of fun s σ w hx => ?_
  obtain ⟨V, Z, C0, C1, T, W, K, g, E, Tr, Sh⟩ := s
  have hC0 : WC C0 := w.1.2.2.1
  have hC1 : WC C1 := w.1.2.2.2.1
  have hT : T.length ≤ 60 := w.1.2.2.2.2.1
  have hW : W.length ≤ 24 := w.1.2.2.2.2.2
  by_cases h : (1 : Int32) ≤ v ∧ v ≤ 8
  · obtain ⟨n, hn, rfl⟩ := win (n := 8) h (by decide) rfl (by decide)
    by_cases hl : T.length + n ≤ 60
    · obtain ⟨σ', q1, q2, q3⟩ := x_feedLoop (w := b) n hn n 0 om_F T σ (by omega) (lt_F (by omega)) hl hx.1.2.1
      refine ⟨nI (T.length + n), (V, Z, C0, C1, fdT b n 0 T, W, K, g, E, Tr, Sh), ⟨⟨w.1.1, w.1.2.1, hC0, hC1, by show (fdT b n 0 T).length ≤ 60; rw [fdT_len]; exact hl, hW⟩, w.2⟩, ⟨σ', ?_, hx.row q2 (hx.1.2.2.congr (q3 _ (by omega) (by omega)) (q3 _ (by omega) (by omega))) (fun q a d _ _ => q3 q a d), fun q hq => q3 q (by omega) (by omega)⟩, fun τ hm => ?_⟩
      · show f_X8_feed 0 b (nI n) σ = _
        unfold f_X8_feed
        simp only [kX, rX, om_ref_s, if_true, x_isWithin, call_s, x_size kc_62, hx.1.2.1.1, nI_add]
        rw [bI_y h, if_pos (show nI (T.length + n) ≤ 60 from nI_le (b := 60) hl (by omega))]
        exact q1
      · obtain ⟨τ', r1, r2, r3, r4⟩ := m_feedLoop (w := b) n hn n 0 om_F T τ (by omega) (lt_F (by omega)) hl hm.1.2.1
        refine ⟨τ', ?_, hm.row hC0.1 hC1.1 r2 (hm.1.2.2.congr (r4 5 (by omega) (by omega)) (fun j a _ => r4 j (by omega) (by omega))) (fun j a _ d => r4 j a (by omega)) r3, fun q hq => r3 q (by omega)⟩
        show f_X9_feed 90 b (nI n) τ = _
        unfold f_X9_feed
        simp only [kM, rM, aM, om_ref_s, if_true, m_in, call_s, in4_387, cl4, hm.1.2.1.1, nI_add]
        rw [bI_y h, if_pos (show nI (T.length + n) ≤ 60 from nI_le (b := 60) hl (by omega))]
        exact r1
    · refine ⟨rfE 4, (V, Z, C0, C1, T, W, K, g, upE E 4, Tr, Sh), w, XO.no0 hx (k := 4) (by omega) ?_, fun τ hm => MO.no0 hm (k := 4) (by omega) ?_⟩
      · show f_X8_feed 0 b (nI n) σ = _
        unfold f_X8_feed
        simp only [kX, rX, om_ref_s, if_true, x_isWithin, call_s, x_size kc_62, hx.1.2.1.1, nI_add]
        rw [bI_y h, if_neg (show ¬ nI (T.length + n) ≤ 60 from nI_ge (a := 60) (by omega) (by omega))]
        exact Eq.refl _
      · show f_X9_feed 90 b (nI n) τ = _
        unfold f_X9_feed
        simp only [kM, rM, aM, om_ref_s, if_true, m_in, call_s, in4_387, cl4, hm.1.2.1.1, nI_add]
        rw [bI_y h, if_neg (show ¬ nI (T.length + n) ≤ 60 from nI_ge (a := 60) (by omega) (by omega))]
        exact Eq.refl _
  · refine ⟨rfE 1, (V, Z, C0, C1, T, W, K, g, upE E 1, Tr, Sh), w, XO.no0 hx (k := 1) (by omega) ?_, fun τ hm => MO.no0 hm (k := 1) (by omega) ?_⟩
    · show f_X8_feed 0 b v σ = _
      unfold f_X8_feed 
      simp only [kX, rX, om_ref_s, if_true, call_s, let_s, om_nul_s, om_nul_n, x_isWithin]
      rw [bI_n h]
      exact Eq.refl _
    · show f_X9_feed 90 b v τ = _
      unfold f_X9_feed 
      simp only [kM, rM, aM, om_ref_s, if_true, call_s, let_s, m_in]
      rw [bI_n h]
      exact Eq.refl _
theorem XT.txt {V : Nat → Nat} {Z : Int32} {C0 C1 C0' C1' : List Int32} {σ σ' : om_S} (h : XT 1 V Z C0 C1 σ) (h0 : XRow 4 5 C0' σ') (h1 : XRow 8 9 C1' σ') (e : ∀ q, 1 ≤ q → q < 20 → q ≠ 4 → q ≠ 5 → q ≠ 6 → q ≠ 8 → q ≠ 9 → q ≠ 10 → σ' q = σ q) : XT 1 V Z C0' C1' σ' := by
  obtain ⟨e1, e2, e3, e4, e5, e6, e7, e8, e9, e10⟩ := h
  have f1 := e 1 (by omega) (by omega) (by omega) (by omega) (by omega) (by omega) (by omega) (by omega)
  refine ⟨by rw [f1]; exact e1, by rw [f1]; exact e2, by rw [f1]; exact e3, by rw [f1]; exact e4, by rw [f1]; exact e5, fun i f hi hf => ?_, h0, h1, ?_, ?_⟩
  · rw [e (1 + 10 + i) (by omega) (by omega) (by omega) (by omega) (by omega) (by omega) (by omega) (by omega)]
    exact e6 i f hi hf
  · rw [e 3 (by omega) (by omega) (by omega) (by omega) (by omega) (by omega) (by omega) (by omega)]
    exact e9
  · rw [e 7 (by omega) (by omega) (by omega) (by omega) (by omega) (by omega) (by omega) (by omega)]
    exact e10
theorem MT.txt {V : Nat → Nat} {Z : Int32} {C0 C1 C0' C1' : List Int32} {σ σ' : om_S} (h : MT 91 V Z C0 C1 σ) (h0 : MText 91 0 C0' σ') (h1 : MText 91 1 C1' σ') (e : ∀ j, j < 53 → j ≠ 4 → j ≠ 5 → σ' 91 j = σ 91 j) : MT 91 V Z C0' C1' σ' := by
  obtain ⟨e1, e2, e3, e4, e5, e6, e7, e8⟩ := h
  exact ⟨by rw [e 6 (by omega) (by omega) (by omega)]; exact e1, by rw [e 0 (by omega) (by omega) (by omega)]; exact e2, by rw [e 1 (by omega) (by omega) (by omega)]; exact e3, by rw [e 2 (by omega) (by omega) (by omega)]; exact e4, by rw [e 3 (by omega) (by omega) (by omega)]; exact e5, fun i f hi hf => by rw [e _ (by omega) (by omega) (by omega)]; exact e6 i f hi hf, h0, h1⟩
theorem x_clearT {t r v k : Nat} {σ : om_S} (hT : IsTx t r v k) : f_X5_clear t σ = some (om_w σ r 1 0) := by
  unfold f_X5_clear
  simp only [hT.1, hT.2.1, om_ref_s, hT.2.2.1.1, if_true, x_clear hT.2.2.1.1, do_s]
theorem x_untellAt {t r v k : Nat} {C : List Int32} {σ : om_S} (hT : IsTx t r v k) (hl : C.length ≤ 60) (hR : XRow r v C σ) : (if σ r 1 ≤ 0 then f_X8_untell_b34 t 0 σ else f_X8_untell_b34 t 1 σ) = some (if C.length = 0 then 0 else 1, om_w σ r 1 0) := by
  unfold f_X8_untell_b34
  rw [x_clearT hT, do_s, do_s, hR.1]
  by_cases e : C.length = 0
  · rw [if_pos (show nI C.length ≤ 0 by rw [e]; decide), if_pos e]
  · rw [if_neg (nI_nle (by omega) (by omega)), if_neg e]
theorem hasTxt {u : Nat} {C : List Int32} {σ : om_S} (hu : u < 2) (hC : C.length ≤ 60) (h : MText 91 u C σ) : f_X9_hasText 90 (nI u) σ = some (if C.length = 0 then 0 else 1, σ) := by
  have c : (nI (53 + 125 * u)).toNatClampNeg = 53 + 125 * u := nI_clamp (by omega)
  have hi : om_in (nI (53 + 125 * u)) 387 = True := eq_true (in_nI (by omega) (by omega))
  have e : (53 : Int32) + 125 * nI u = nI (53 + 125 * u) := by
    rw [show (125 : Int32) = nI 125 from rfl, pk_mul]
    exact nI_add 53 (125 * u)
  unfold f_X9_hasText
  simp only [kM, rM, aM, om_ref_s, if_true, e, c, hi, h.1]
  by_cases e : C.length = 0
  · rw [if_pos (show nI C.length ≤ 0 by rw [e]; decide), if_pos e]
  · rw [if_neg (nI_nle (by omega) (by omega)), if_neg e]
theorem m_untellAt {u : Nat} {C : List Int32} {τ : om_S} (hu : u < 2) (hC : C.length ≤ 60) (h : MText 91 u C τ) (h01 : (0 : Int32) ≤ nI u ∧ nI u ≤ 1) : f_X9_untell 90 (nI u) τ = some (if C.length = 0 then 0 else 1, om_w τ 91 (53 + 125 * u) 0) := by
  have c : (nI (53 + 125 * u)).toNatClampNeg = 53 + 125 * u := nI_clamp (by omega)
  have hi : om_in (nI (53 + 125 * u)) 387 = True := eq_true (in_nI (by omega) (by omega))
  have e : (53 : Int32) + 125 * nI u = nI (53 + 125 * u) := by
    rw [show (125 : Int32) = nI 125 from rfl, pk_mul]
    exact nI_add 53 (125 * u)
  unfold f_X9_untell f_X9_untell_b28
  simp only [kM, rM, aM, om_ref_s, if_true, m_in, call_s, hasTxt hu hC h, e, c, hi, let_s]
  rw [bI_y h01]
  by_cases e0 : C.length = 0
  · rw [if_pos e0, if_pos rfl]
  · rw [if_neg e0, if_neg (by decide)]
theorem WC_nil : WC [] := ⟨Nat.zero_le _, Or.inl rfl⟩
theorem op_untell (a : Int32) : Sim (fun σ => f_X8_untell 0 a σ) (fun σ => f_X9_untell 90 a σ) := by
  refine sim_of fun s σ w hx => ?_
  obtain ⟨V, Z, C0, C1, T, W, K, g, E, Tr, Sh⟩ := s
  have hC0 : WC C0 := w.1.2.2.1
  have hC1 : WC C1 := w.1.2.2.2.1
  by_cases h : (0 : Int32) ≤ a ∧ a ≤ 1
  · obtain ⟨u, hu, rfl⟩ := win (n := 1) h (by decide) rfl (by decide)
    rcases (show u = 0 ∨ u = 1 by omega) with rfl | rfl
    · refine ⟨if C0.length = 0 then 0 else 1, (V, Z, [], C1, T, W, K, g, E, Tr, Sh), ⟨⟨w.1.1, w.1.2.1, WC_nil, w.1.2.2.2⟩, w.2⟩, ⟨om_w σ 4 1 0, ?_, hx.tw ⟨hx.1.1.txt XRow.nil (hx.1.1.2.2.2.2.2.2.2.1.congr (om_w_off (by omega)) (om_w_off (by omega))) (fun q _ _ d _ _ _ _ _ => om_w_off d), hx.1.2.1.congr (om_w_off (by omega)) (om_w_off (by omega)), hx.1.2.2.congr (om_w_off (by omega)) (om_w_off (by omega))⟩ (hx.xz.congr (fun q hq => om_w_off (by omega))) (fun q hq => om_w_off (by omega)), fun q hq => om_w_off (by omega)⟩, fun τ hm => ⟨om_w τ 91 (53 + 125 * 0) 0, m_untellAt (by omega) hC0.1 hm.1.1.2.2.2.2.2.2.1 h, hm.tw ⟨hm.1.1.txt ⟨om_w_s, fun k hk => by cases hk⟩ (hm.1.1.2.2.2.2.2.2.2.move hC1.1 (fun j a _ => om_w_j (by omega))) (fun j a _ _ => om_w_j (by omega)), hm.1.2.1.w (by omega) (by omega), hm.1.2.2.w (by omega) (by omega)⟩ (hm.mz.congr (fun q hq => om_w_off (by omega))) (fun q hq => om_w_off (by omega)) (om_w_k (by omega)) (om_w_k (by omega)), fun q hq => om_w_off (by omega)⟩⟩
      show f_X8_untell 0 (nI 0) σ = _
      unfold f_X8_untell f_X6_textOf
      simp only [kX, rX, om_ref_s, if_true, call_s, tr1 T1, tk2 T1]
      rw [if_pos (by decide), call_s, om_nul_s, if_pos (tk2 T1), (tx0 T1).2.1]
      simp only [om_ref_s, (tx0 T1).2.2.1.1, if_true, x_size (tx0 T1).2.2.1.1, call_s]
      exact x_untellAt (tx0 T1) hC0.1 hx.1.1.2.2.2.2.2.2.1
    · refine ⟨if C1.length = 0 then 0 else 1, (V, Z, C0, [], T, W, K, g, E, Tr, Sh), ⟨⟨w.1.1, w.1.2.1, hC0, WC_nil, w.1.2.2.2.2⟩, w.2⟩, ⟨om_w σ 8 1 0, ?_, hx.tw ⟨hx.1.1.txt (hx.1.1.2.2.2.2.2.2.1.congr (om_w_off (by omega)) (om_w_off (by omega))) XRow.nil (fun q _ _ _ _ _ d _ _ => om_w_off d), hx.1.2.1.congr (om_w_off (by omega)) (om_w_off (by omega)), hx.1.2.2.congr (om_w_off (by omega)) (om_w_off (by omega))⟩ (hx.xz.congr (fun q hq => om_w_off (by omega))) (fun q hq => om_w_off (by omega)), fun q hq => om_w_off (by omega)⟩, fun τ hm => ⟨om_w τ 91 (53 + 125 * 1) 0, m_untellAt (by omega) hC1.1 hm.1.1.2.2.2.2.2.2.2 h, hm.tw ⟨hm.1.1.txt (hm.1.1.2.2.2.2.2.2.1.move hC0.1 (fun j a b => om_w_j (by omega))) ⟨om_w_s, fun k hk => by cases hk⟩ (fun j a _ _ => om_w_j (by omega)), hm.1.2.1.w (by omega) (by omega), hm.1.2.2.w (by omega) (by omega)⟩ (hm.mz.congr (fun q hq => om_w_off (by omega))) (fun q hq => om_w_off (by omega)) (om_w_k (by omega)) (om_w_k (by omega)), fun q hq => om_w_off (by omega)⟩⟩
      show f_X8_untell 0 (nI 1) σ = _
      unfold f_X8_untell f_X6_textOf
      simp only [kX, rX, om_ref_s, if_true, call_s, tr2 T1, tk6 T1]
      rw [if_neg (by decide), if_pos (by decide), call_s, om_nul_s, if_pos (tk6 T1), (tx1 T1).2.1]
      simp only [om_ref_s, (tx1 T1).2.2.1.1, if_true, x_size (tx1 T1).2.2.1.1, call_s]
      exact x_untellAt (tx1 T1) hC1.1 hx.1.1.2.2.2.2.2.2.2.1
  · have nv : ∀ j : Nat, j < 2 → a ≠ nI j := by
      intro j hj e
      refine h ?_
      rw [e]
      exact ⟨nI_le (a := 0) (Nat.zero_le _) (by omega), nI_le (b := 1) (by omega) (by omega)⟩
    refine ⟨rfE 1, (V, Z, C0, C1, T, W, K, g, upE E 1, Tr, Sh), w, XO.no0 hx (k := 1) (by omega) ?_, fun τ hm => MO.no0 hm (k := 1) (by omega) ?_⟩
    · show f_X8_untell 0 a σ = _
      unfold f_X8_untell f_X6_textOf
      simp only [kX, rX, om_ref_s, if_true, call_s, let_s, om_nul_s, om_nul_n, tr1 T1]
      rw [if_neg (show ¬ a = 0 from nv 0 (by omega)), if_neg (show ¬ a = 1 from nv 1 (by omega)), call_s, om_nul_n]
      exact Eq.refl _
    · show f_X9_untell 90 a τ = _
      unfold f_X9_untell 
      simp only [kM, rM, aM, om_ref_s, if_true, call_s, let_s, m_in]
      rw [bI_n h]
      exact Eq.refl _
