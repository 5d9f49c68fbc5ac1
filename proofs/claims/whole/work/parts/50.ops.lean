/-! ===== put, sheet, move ===== -/
theorem in_lt {b : Int32} {n : Nat} (hn : n < 1000) : ((0 : Int32) ≤ b ∧ b ≤ nI n - 1) ↔ ((0 : Int32) ≤ b ∧ b < nI n) := by
  have e : (nI n - 1).toInt = (n : Int) - 1 := pk_sub_toInt (a := n) (b := 1) (by omega) (by omega)
  have e2 : (nI n).toInt = (n : Int) := nI_toInt (by omega)
  simp only [ltI, leI, e, e2]
  omega
theorem ltN {b : Int32} {n : Nat} (hn : n < 1000) (h : (0 : Int32) ≤ b ∧ b < nI n) : ∃ j, j < n ∧ b = nI j := by
  rcases pk_ix b (n := n) (by omega) with q | q | q
  · have := h.1
    rw [leI] at this
    rw [ltI] at q
    exact absurd (Int.lt_of_lt_of_le q this) (Int.lt_irrefl _)
  · have := h.2
    rw [ltI] at this
    rw [leI] at q
    exact absurd (Int.lt_of_lt_of_le this q) (Int.lt_irrefl _)
  · exact q
def upF (f : Nat → Int32) (j : Nat) (v : Int32) : Nat → Int32 := fun l => if l = j then v else f l
theorem op_put (a b c : Int32) : Sim (fun σ => f_X8_put 0 a b c σ) (fun σ => f_X9_put 90 a b c σ) := by
  refine sim_of fun s σ w hx => ?_
  obtain ⟨V, Z, C0, C1, T, W, K, g, E, Tr, Sh⟩ := s
  rcases shc a with ⟨hn, hn2⟩ | ⟨k, hk, rfl, h⟩
  · refine ⟨rfE 1, (V, Z, C0, C1, T, W, K, g, upE E 1, Tr, Sh), w, XO.no0 hx (k := 1) (by omega) ?_, fun τ hm => MO.no0 hm (k := 1) (by omega) ?_⟩
    · show f_X8_put 0 a b c σ = _
      unfold f_X8_put 
      simp only [kX, rX, om_ref_s, if_true, call_s, let_s, om_nul_s, om_nul_n, x_shNo hn2]
      exact Eq.refl _
    · show f_X9_put 90 a b c τ = _
      unfold f_X9_put 
      simp only [kM, rM, aM, om_ref_s, if_true, call_s, let_s, m_isSheet]
      rw [bI_n hn]
      exact Eq.refl _
  · obtain ⟨hb, hs24, hnar⟩ := w.2.2.2.2 k hk
    have hS := hx.2.2.2.2.2.1 k hk
    have c0 : (nI k).toNatClampNeg = k := nI_clamp (by omega)
    have c1 : om_in (nI k) 4 = True := eq_true (in_nI (by omega) (by omega))
    by_cases e0 : (Sh k).1 = 0
    · refine ⟨rfE 2, (V, Z, C0, C1, T, W, K, g, upE E 2, Tr, Sh), w, XO.no0 hx (k := 2) (by omega) ?_, fun τ hm => MO.no0 hm (k := 2) (by omega) ?_⟩
      · show f_X8_put 0 (nI k) b c σ = _
        unfold f_X8_put 
        simp only [kX, rX, om_ref_s, if_true, call_s, let_s, om_nul_s, om_nul_n, x_shYes hk, (sh_all k hk).2.1, x_miss hk, hS.1]
        rw [bI_y e0]
        exact Eq.refl _
      · show f_X9_put 90 (nI k) b c τ = _
        unfold f_X9_put 
        simp only [kM, rM, aM, om_ref_s, if_true, call_s, let_s, m_isSheet, c0, c1, (hm.2.2.2.2.2.1 k hk).1]
        rw [bI_y h, if_pos e0]
        exact Eq.refl _
    · by_cases hh : (0 : Int32) ≤ b ∧ b < nI (Sh k).2.1
      · obtain ⟨j, hj, rfl⟩ := ltN (by omega) hh
        have hj24 : j < 24 := by omega
        refine ⟨1, (V, Z, C0, C1, T, W, K, g, E, Tr, upS Sh k ((Sh k).1, (Sh k).2.1, upF (Sh k).2.2 j (narF (Sh k).1 c))), w.sh ⟨hb, hs24, fun l hl => ?_⟩, ⟨om_w σ (83 + 2 * k) j (narF (Sh k).1 c), ?_, hx.sh (fun q a b => om_w_off b) hk ⟨?_, ?_, fun l hl => ?_⟩, fun q hq => om_w_off (by omega)⟩, fun τ hm => ⟨om_w τ 103 (24 * k + j) (narF (Sh k).1 c), ?_, hm.sh (fun q a b d e => om_w_off d) hk ⟨?_, ?_, fun l hl => ?_⟩ (fun q hq => om_w_k (by omega)) (fun q hq => om_w_k (by omega)) (fun q hq => om_w_j (by omega)), fun q hq => om_w_off (by omega)⟩⟩
        · unfold upF
          by_cases e : l = j
          · show narF _ (if l = j then _ else _) = (if l = j then _ else _)
            rw [if_pos e, nar_nar]
          · show narF _ (if l = j then _ else _) = (if l = j then _ else _)
            rw [if_neg e, hnar l hl]
        · show f_X8_put 0 (nI k) (nI j) c σ = _
          unfold f_X8_put
          simp only [kX, rX, om_ref_s, if_true, x_shYes hk, call_s, om_nul_s, (sh_all k hk).2.1, x_miss hk, hS.1, x_shHas hk hS.2.1 hs24, x_shWrite hk hS.2.1 hs24 hj]
          rw [bI_n e0, bI_y hh, do_s]
        · rw [om_w_k (by omega)]
          exact hS.1
        · rw [om_w_k (by omega)]
          exact hS.2.1
        · show _ = (if l = j then _ else _)
          by_cases e : l = j
          · rw [e, om_w_s, if_pos rfl]
          · rw [om_w_j e, if_neg e]
            exact hS.2.2 l hl
        · have hb2 : (Sh k).1 = 8 ∨ (Sh k).1 = 16 ∨ (Sh k).1 = 32 := hb.resolve_left e0
          have hS2 := hm.2.2.2.2.2.1 k hk
          show f_X9_put 90 (nI k) (nI j) c τ = _
          unfold f_X9_put
          simp only [kM, rM, aM, om_ref_s, if_true, m_isSheet, call_s, let_s, c0, c1, hS2.1, hS2.2.1, m_in, ix24, cl_s hk hj24, in_s hk hj24]
          rw [bI_y h, if_neg e0, bI_y ((in_lt (by omega)).mpr hh), nar_shl hb2]
        · rw [om_w_k (by omega)]
          exact (hm.2.2.2.2.2.1 k hk).1
        · rw [om_w_k (by omega)]
          exact (hm.2.2.2.2.2.1 k hk).2.1
        · show _ = (if l = j then _ else _)
          by_cases e : l = j
          · rw [e, om_w_s, if_pos rfl]
          · rw [om_w_j (by omega), if_neg e]
            exact (hm.2.2.2.2.2.1 k hk).2.2 l hl
      · refine ⟨rfE 1, (V, Z, C0, C1, T, W, K, g, upE E 1, Tr, Sh), w, XO.no0 hx (k := 1) (by omega) ?_, fun τ hm => MO.no0 hm (k := 1) (by omega) ?_⟩
        · show f_X8_put 0 (nI k) b c σ = _
          unfold f_X8_put 
          simp only [kX, rX, om_ref_s, if_true, call_s, let_s, om_nul_s, om_nul_n, x_shYes hk, (sh_all k hk).2.1, x_miss hk, hS.1, x_shHas hk hS.2.1 hs24]
          rw [bI_n e0, bI_n hh]
          exact Eq.refl _
        · show f_X9_put 90 (nI k) b c τ = _
          unfold f_X9_put 
          simp only [kM, rM, aM, om_ref_s, if_true, call_s, let_s, m_isSheet, c0, c1, (hm.2.2.2.2.2.1 k hk).1, (hm.2.2.2.2.2.1 k hk).2.1, m_in]
          rw [bI_y h, if_neg e0, bI_n (fun q => hh ((in_lt (by omega)).mp q))]
          exact Eq.refl _
theorem x_remake {k n : Nat} {b : Int32} {σ : om_S} (hk : k < 4) : ∃ σ', f_X4_remake (82 + 2 * k) b (nI n) σ = some σ' ∧ XSh k (b, n, fun _ => 0) σ' ∧ ∀ q, q ≠ 82 + 2 * k → q ≠ 83 + 2 * k → σ' q = σ q := by
  obtain ⟨_, h1, h2, h3, h4⟩ := sh_all k hk
  have key : ∀ (m i F : Nat) (τ : om_S), i + m = 24 → m < F → τ (82 + 2 * k) 1 = b → τ (82 + 2 * k) 2 = nI n → (∀ j, j < i → τ (83 + 2 * k) j = 0) → (∀ q, q ≠ 82 + 2 * k → q ≠ 83 + 2 * k → τ q = σ q) → ∃ σ', f_X4_remake_b12 F (82 + 2 * k) (nI i) τ = some σ' ∧ XSh k (b, n, fun _ => 0) σ' ∧ ∀ q, q ≠ 82 + 2 * k → q ≠ 83 + 2 * k → σ' q = σ q := by
    intro m
    induction m with
    | zero =>
      intro i F τ hi hF g1 g2 g3 g4
      obtain ⟨F, rfl⟩ : ∃ G, F = G + 1 := ⟨F - 1, by omega⟩
      refine ⟨τ, ?_, ⟨g1, g2, fun j hj => g3 j (by omega)⟩, g4⟩
      unfold f_X4_remake_b12
      simp only [h2, h3, h4, om_ref_s, if_true]
      rw [if_pos (show Int32.ofNat 24 ≤ nI i from nI_le (a := 24) (by omega) (by omega))]
    | succ m ih =>
      intro i F τ hi hF g1 g2 g3 g4
      obtain ⟨F, rfl⟩ : ∃ G, F = G + 1 := ⟨F - 1, by omega⟩
      have c : (nI i).toNatClampNeg = i := nI_clamp (by omega)
      obtain ⟨σ', q1, q2⟩ := ih (i + 1) F (om_w τ (83 + 2 * k) i 0) (by omega) (by omega) (by rw [om_w_k (by omega)]; exact g1) (by rw [om_w_k (by omega)]; exact g2) (fun j hj => by
        by_cases e : j = i
        · rw [e, om_w_s]
        · rw [om_w_j e]
          exact g3 j (by omega)) (fun q a d => by rw [om_w_off d, g4 q a d])
      refine ⟨σ', ?_, q2⟩
      unfold f_X4_remake_b12
      simp only [h2, h3, h4, om_ref_s, if_true, c, let_s, nI_1]
      rw [if_neg (show ¬ Int32.ofNat 24 ≤ nI i from nI_ge (b := 24) (by omega) (by omega)), if_pos (in_nI (by omega) (by omega)), q1]
  obtain ⟨σ', q1, q2⟩ := key 24 0 om_F (om_w (om_w σ (82 + 2 * k) 1 b) (82 + 2 * k) 2 (nI n)) (by omega) (lt_F (by omega)) (by rw [om_w_j (by omega), om_w_s]) om_w_s (fun j hj => by omega) (fun q a d => by rw [om_w_off a, om_w_off a])
  refine ⟨σ', ?_, q2⟩
  unfold f_X4_remake
  simp only [h1, if_true, let_s]
  exact q1
theorem m_remake {k n : Nat} {b : Int32} {σ : om_S} (hk : k < 4) : ∃ σ', f_X9_sheet_b86 90 (nI k) 102 (nI k) (nI n) (om_w σ 101 k b) = some (1, σ') ∧ MSh k (b, n, fun _ => 0) σ' ∧ (∀ q, q ≠ 101 → q ≠ 102 → q ≠ 103 → σ' q = σ q) ∧ (∀ j, j ≠ k → σ' 101 j = σ 101 j) ∧ (∀ j, j ≠ k → σ' 102 j = σ 102 j) ∧ (∀ j, (j < 24 * k ∨ 24 * k + 24 ≤ j) → σ' 103 j = σ 103 j) := by
  have c0 : (nI k).toNatClampNeg = k := nI_clamp (by omega)
  have key : ∀ (m i F : Nat) (τ : om_S), i + m = 24 → m < F → (∀ j, j < i → τ 103 (24 * k + j) = 0) → ∃ σ', f_X9_sheet_b90 F 90 (nI k) (nI i) τ = some (1, σ') ∧ (∀ j, j < 24 → σ' 103 (24 * k + j) = 0) ∧ (∀ q, q ≠ 103 → σ' q = τ q) ∧ (∀ j, (j < 24 * k ∨ 24 * k + 24 ≤ j) → σ' 103 j = τ 103 j) := by
    intro m
    induction m with
    | zero =>
      intro i F τ hi hF g3
      obtain ⟨F, rfl⟩ : ∃ G, F = G + 1 := ⟨F - 1, by omega⟩
      refine ⟨τ, ?_, fun j hj => g3 j (by omega), fun _ _ => rfl, fun _ _ => rfl⟩
      unfold f_X9_sheet_b90
      rw [if_pos (show (24 : Int32) ≤ nI i from nI_le (a := 24) (by omega) (by omega))]
    | succ m ih =>
      intro i F τ hi hF g3
      obtain ⟨F, rfl⟩ : ∃ G, F = G + 1 := ⟨F - 1, by omega⟩
      have hi24 : i < 24 := by omega
      obtain ⟨σ', q1, q2, q3, q4⟩ := ih (i + 1) F (om_w τ 103 (24 * k + i) 0) (by omega) (by omega) (fun j hj => by
        by_cases e : j = i
        · rw [e, om_w_s]
        · rw [om_w_j (by omega)]
          exact g3 j (by omega))
      refine ⟨σ', ?_, q2, fun q hq => by rw [q3 q hq, om_w_off hq], fun j hj => by rw [q4 j hj, om_w_j (by omega)]⟩
      unfold f_X9_sheet_b90
      simp only [kM, rM, aM, om_ref_s, if_true, let_s, ix24, cl_s hk hi24, in_s hk hi24, nI_1]
      rw [if_neg (show ¬ (24 : Int32) ≤ nI i from nI_ge (b := 24) (by omega) (by omega)), q1]
  obtain ⟨σ', q1, q2, q3, q4⟩ := key 24 0 om_F (om_w (om_w σ 101 k b) 102 k (nI n)) (by omega) (lt_F (by omega)) (fun j hj => by omega)
  refine ⟨σ', ?_, ⟨?_, ?_, q2⟩, fun q a d e => by rw [q3 q e, om_w_off d, om_w_off a], fun j hj => ?_, fun j hj => ?_, fun j hj => ?_⟩
  · unfold f_X9_sheet_b86
    simp only [aM, c0, let_s]
    rw [if_pos (in_nI (by omega) (by omega))]
    exact q1
  · rw [q3 101 (by omega), om_w_k (by omega), om_w_s]
  · rw [q3 102 (by omega), om_w_s]
  · rw [q3 101 (by omega), om_w_k (by omega), om_w_j hj]
  · rw [q3 102 (by omega), om_w_j hj, om_w_k (by omega)]
  · rw [q4 j hj, om_w_k (by omega), om_w_k (by omega)]
theorem okS {V : Nat → Nat} {Z : Int32} {C0 C1 T W : List Int32} {K : Option oA_K} {g : Int32} {E : Nat → Int32} {Tr : List Int32} {Sh : Nat → Int32 × Nat × (Nat → Int32)} {k n : Nat} {b : Int32} {fx fm : om_S → Option (Int32 × om_S)} {σ : om_S} (w : WF (V, Z, C0, C1, T, W, K, g, E, Tr, Sh)) (hx : HX (V, Z, C0, C1, T, W, K, g, E, Tr, Sh) σ) (hk : k < 4) (hb : b = 0 ∨ b = 8 ∨ b = 16 ∨ b = 32) (hn : n ≤ 24) (e1 : fx σ = f_X8_sheet_b82 (82 + 2 * k) b (nI n) σ) (e2 : ∀ τ, fm τ = f_X9_sheet_b86 90 (nI k) 102 (nI k) (nI n) (om_w τ 101 k b)) :
    ∃ r s', WF s' ∧ XO fx r s' σ ∧ ∀ τ, HM (V, Z, C0, C1, T, W, K, g, E, Tr, Sh) τ → MO fm r s' τ := by
  obtain ⟨σ', q1, q2, q3⟩ := x_remake (n := n) (b := b) (σ := σ) hk
  refine ⟨1, (V, Z, C0, C1, T, W, K, g, E, Tr, upS Sh k (b, n, fun _ => 0)), w.sh ⟨hb, hn, fun j hj => ?_⟩, ⟨σ', ?_, hx.sh q3 hk q2, fun q hq => q3 q (by omega) (by omega)⟩, fun τ hm => ?_⟩
  · show narF b 0 = 0
    rcases hb with rfl | rfl | rfl | rfl <;> decide
  · rw [e1]
    unfold f_X8_sheet_b82
    rw [q1, do_s]
  · obtain ⟨τ', r1, r2, r3, r4, r5, r6⟩ := m_remake (n := n) (b := b) (σ := τ) hk
    exact ⟨τ', (e2 τ).trans r1, hm.sh (fun q a d e _ => r3 q a d e) hk r2 r4 r5 r6, fun q hq => r3 q (by omega) (by omega) (by omega)⟩
theorem n80 : ((8 : Int32) = 0) = False := eq_false (by decide)
theorem n160 : ((16 : Int32) = 0) = False := eq_false (by decide)
theorem n320 : ((32 : Int32) = 0) = False := eq_false (by decide)
theorem x_bits40 {b c : Int32} {k : Nat} {σ : om_S} (hk : k < 4) (hb : b = 0 ∨ b = 8 ∨ b = 16 ∨ b = 32) : f_X8_sheet 0 (nI k) b c σ = f_X8_sheet_b40 0 b c (82 + 2 * k) σ := by
  unfold f_X8_sheet
  simp only [kX, if_true, x_shYes hk, call_s, om_nul_s, (sh_all k hk).2.1]
  rcases hb with rfl | rfl | rfl | rfl
  · rw [if_pos rfl]
  · rw [if_neg (by decide), if_pos rfl]
  · rw [if_neg (by decide), if_neg (by decide), if_pos rfl]
  · rw [if_neg (by decide), if_neg (by decide), if_neg (by decide), if_pos rfl]
theorem m_bits35 {b c : Int32} {k : Nat} {σ : om_S} (h : (0 : Int32) ≤ nI k ∧ nI k ≤ 3) (hb : b = 0 ∨ b = 8 ∨ b = 16 ∨ b = 32) : f_X9_sheet 90 (nI k) b c σ = f_X9_sheet_b35 90 (nI k) b c σ := by
  unfold f_X9_sheet
  simp only [kM, if_true, m_isSheet, call_s]
  rw [bI_y h]
  rcases hb with rfl | rfl | rfl | rfl
  · rw [if_pos rfl]
  · rw [if_neg (by decide), if_pos rfl]
  · rw [if_neg (by decide), if_neg (by decide), if_pos rfl]
  · rw [if_neg (by decide), if_neg (by decide), if_neg (by decide), if_pos rfl]
theorem m_b65 {b c : Int32} {k n : Nat} {σ : om_S} (hk : k < 4) (h : (b = 0 ∧ n = 0) ∨ (¬ b = 0 ∧ c = nI n)) : f_X9_sheet_b65 90 (nI k) b c σ = f_X9_sheet_b86 90 (nI k) 102 (nI k) (nI n) (om_w σ 101 k b) := by
  have c0 : (nI k).toNatClampNeg = k := nI_clamp (by omega)
  unfold f_X9_sheet_b65
  simp only [kM, rM, aM, om_ref_s, if_true, let_s, c0]
  rw [if_pos (in_nI (by omega) (by omega))]
  rcases h with ⟨h1, h2⟩ | ⟨h1, h2⟩
  · rw [if_pos h1, h2]
    exact Eq.refl _
  · rw [if_neg h1, h2]
theorem op_sheet (a b c : Int32) : Sim (fun σ => f_X8_sheet 0 a b c σ) (fun σ => f_X9_sheet 90 a b c σ) := by
  refine sim_of fun s σ w hx => ?_
  obtain ⟨V, Z, C0, C1, T, W, K, g, E, Tr, Sh⟩ := s
  rcases shc a with ⟨hn, hn2⟩ | ⟨k, hk, rfl, h⟩
  · refine ⟨rfE 1, (V, Z, C0, C1, T, W, K, g, upE E 1, Tr, Sh), w, XO.no0 hx (k := 1) (by omega) ?_, fun τ hm => MO.no0 hm (k := 1) (by omega) ?_⟩
    · show f_X8_sheet 0 a b c σ = _
      unfold f_X8_sheet f_X8_sheet_b34
      simp only [kX, rX, om_ref_s, if_true, call_s, let_s, om_nul_s, om_nul_n, x_shNo hn2]
      exact Eq.refl _
    · show f_X9_sheet 90 a b c τ = _
      unfold f_X9_sheet f_X9_sheet_b29
      simp only [kM, rM, aM, om_ref_s, if_true, call_s, let_s, m_isSheet]
      rw [bI_n hn]
      exact Eq.refl _
  · by_cases hb : b = 0 ∨ b = 8 ∨ b = 16 ∨ b = 32
    · by_cases e0 : b = 0
      · refine okS (b := b) (n := 0) w hx hk hb (by omega) ?_ (fun τ => ?_)
        · show f_X8_sheet 0 (nI k) b c σ = _
          rw [x_bits40 hk hb]
          unfold f_X8_sheet_b40 f_X8_sheet_b54 f_X8_sheet_b70
          rw [if_pos e0, if_pos e0, if_pos e0]
          exact Eq.refl _
        · show f_X9_sheet 90 (nI k) b c τ = _
          rw [m_bits35 h hb]
          unfold f_X9_sheet_b35 f_X9_sheet_b49
          rw [if_pos e0, if_pos e0]
          exact m_b65 hk (Or.inl ⟨e0, rfl⟩)
      · by_cases hc : (0 : Int32) ≤ c
        · by_cases hc2 : c ≤ 24
          · obtain ⟨n, hn, rfl⟩ := win (n := 24) ⟨hc, hc2⟩ (by decide) rfl (by decide)
            refine okS (b := b) (n := n) w hx hk hb hn ?_ (fun τ => ?_)
            · show f_X8_sheet 0 (nI k) b (nI n) σ = _
              rw [x_bits40 hk hb]
              unfold f_X8_sheet_b40 f_X8_sheet_b54 f_X8_sheet_b70
              rw [if_neg e0, if_pos hc, if_neg e0, if_pos hc2, if_neg e0]
            · show f_X9_sheet 90 (nI k) b (nI n) τ = _
              rw [m_bits35 h hb]
              unfold f_X9_sheet_b35 f_X9_sheet_b49
              rw [if_neg e0, if_pos hc, if_neg e0, if_pos hc2]
              exact m_b65 hk (Or.inr ⟨e0, rfl⟩)
          · refine ⟨rfE 1, (V, Z, C0, C1, T, W, K, g, upE E 1, Tr, Sh), w, XO.no0 hx (k := 1) (by omega) ?_, fun τ hm => MO.no0 hm (k := 1) (by omega) ?_⟩
            · show f_X8_sheet 0 (nI k) b c σ = _
              rw [x_bits40 hk hb]
              unfold f_X8_sheet_b40 f_X8_sheet_b54
              rw [if_neg e0, if_pos hc, if_neg e0, if_neg hc2]
              exact Eq.refl _
            · show f_X9_sheet 90 (nI k) b c τ = _
              rw [m_bits35 h hb]
              unfold f_X9_sheet_b35 f_X9_sheet_b49
              rw [if_neg e0, if_pos hc, if_neg e0, if_neg hc2]
              exact Eq.refl _
        · refine ⟨rfE 3, (V, Z, C0, C1, T, W, K, g, upE E 3, Tr, Sh), w, XO.no0 hx (k := 3) (by omega) ?_, fun τ hm => MO.no0 hm (k := 3) (by omega) ?_⟩
          · show f_X8_sheet 0 (nI k) b c σ = _
            rw [x_bits40 hk hb]
            unfold f_X8_sheet_b40
            rw [if_neg e0, if_neg hc]
            exact Eq.refl _
          · show f_X9_sheet 90 (nI k) b c τ = _
            rw [m_bits35 h hb]
            unfold f_X9_sheet_b35
            rw [if_neg e0, if_neg hc]
            exact Eq.refl _
    · have nb : ¬ b = 0 ∧ ¬ b = 8 ∧ ¬ b = 16 ∧ ¬ b = 32 := ⟨fun q => hb (Or.inl q), fun q => hb (Or.inr (Or.inl q)), fun q => hb (Or.inr (Or.inr (Or.inl q))), fun q => hb (Or.inr (Or.inr (Or.inr q)))⟩
      refine ⟨rfE 1, (V, Z, C0, C1, T, W, K, g, upE E 1, Tr, Sh), w, XO.no0 hx (k := 1) (by omega) ?_, fun τ hm => MO.no0 hm (k := 1) (by omega) ?_⟩
      · show f_X8_sheet 0 (nI k) b c σ = _
        unfold f_X8_sheet f_X8_sheet_b34
        simp only [kX, rX, om_ref_s, if_true, call_s, let_s, om_nul_s, om_nul_n, x_shYes hk, (sh_all k hk).2.1, nb.1, nb.2.1, nb.2.2.1, nb.2.2.2, if_false]
        exact Eq.refl _
      · show f_X9_sheet 90 (nI k) b c τ = _
        unfold f_X9_sheet f_X9_sheet_b29
        simp only [kM, rM, aM, om_ref_s, if_true, call_s, let_s, m_isSheet, nb.1, nb.2.1, nb.2.2.1, nb.2.2.2, if_false]
        rw [bI_y h]
        exact Eq.refl _
