/-! ===== dears, judge, sheet, put ===== -/
def okD (x : Int32) : Prop := (0 : Int32) ≤ x ∧ x ≤ 99
def dearR (p : Int32 × Nat × (Nat → Int32)) : Nat → Nat → (Nat → Nat) → Nat × (Nat → Nat)
  | 0, i, V => (i, V)
  | m + 1, i, V => if i < p.2.1 ∧ i < V 6 ∧ (0 : Int32) ≤ p.2.2 i ∧ p.2.2 i ≤ 99 then dearR p m (i + 1) (upV V (8 + 5 * i + 4) (p.2.2 i).toNatClampNeg) else (i, V)
theorem dearR_ok {p : Int32 × Nat × (Nat → Int32)} : ∀ (m i : Nat) (V : Nat → Nat), WV V → i + m ≤ 24 → WV (dearR p m i V).2 ∧ (dearR p m i V).2 1 = V 1 ∧ (dearR p m i V).1 ≤ 24 := by
  intro m
  induction m with
  | zero =>
    intro i V hV hi
    exact ⟨hV, rfl, hi⟩
  | succ m ih =>
    intro i V hV hi
    unfold dearR
    by_cases e : i < p.2.1 ∧ i < V 6 ∧ (0 : Int32) ≤ p.2.2 i ∧ p.2.2 i ≤ 99
    · rw [if_pos e]
      obtain ⟨d, hd, hd2⟩ := win (n := 99) e.2.2 (by decide) rfl (by decide)
      have c : (p.2.2 i).toNatClampNeg = d := by
        rw [hd2]
        exact nI_clamp (by omega)
      obtain ⟨a, b, c2⟩ := ih (i + 1) (upV V (8 + 5 * i + 4) (p.2.2 i).toNatClampNeg) (hV.setF (f := 4) (by omega) (by rw [c]; exact hd)) (by omega)
      exact ⟨a, by rw [b, upV_o (by omega)], c2⟩
    · rw [if_neg e]
      exact ⟨hV, rfl, by show i ≤ 24; omega⟩
theorem x_dearLoop {Z : Int32} {C0 C1 T W : List Int32} {K : Option oA_K} {g : Int32} {E : Nat → Int32} {Tr : List Int32} {Sh : Nat → Int32 × Nat × (Nat → Int32)} {k : Nat} {p : Int32 × Nat × (Nat → Int32)} (hk : k < 4) (hn : p.2.1 ≤ 24) (hp : Sh k = p) :
    ∀ (m i F : Nat) (V : Nat → Nat) (σ : om_S), i + m = 24 → m < F → WV V → HX (V, Z, C0, C1, T, W, K, g, E, Tr, Sh) σ → ∃ σ', f_X8_dears_b31 F 0 (82 + 2 * k) (nI i) σ = some (nI (dearR p m i V).1, σ') ∧ HX ((dearR p m i V).2, Z, C0, C1, T, W, K, g, E, Tr, Sh) σ' ∧ ∀ q, 90 ≤ q → σ' q = σ q := by
  intro m
  induction m with
  | zero =>
    intro i F V σ hi hF hV hx
    obtain ⟨F, rfl⟩ : ∃ G, F = G + 1 := ⟨F - 1, by omega⟩
    refine ⟨σ, ?_, hx, fun _ _ => rfl⟩
    unfold f_X8_dears_b31
    rw [if_pos (show (24 : Int32) ≤ nI i from nI_le (a := 24) (by omega) (by omega))]
    exact Eq.refl _
  | succ m ih =>
    intro i F V σ hi hF hV hx
    obtain ⟨F, rfl⟩ : ∃ G, F = G + 1 := ⟨F - 1, by omega⟩
    have h6 : V 6 ≤ 9 := hV.1
    have hS := hx.2.2.2.2.2.1 k hk
    rw [hp] at hS
    unfold f_X8_dears_b31 dearR
    rw [if_neg (show ¬ (24 : Int32) ≤ nI i from nI_ge (b := 24) (by omega) (by omega)), x_shHas hk hS.2.1 hn, call_s]
    by_cases h1 : i < p.2.1
    · rw [bI_y (hasY h1 (by omega))]
      simp only [kX, rX, om_ref_s, if_true]
      by_cases h2 : i < V 6
      · have hi9 : i < 9 := by omega
        rw [x_atI T1 hx.1.1.1 h2 h6, call_s, om_nul_s, if_pos (tk1m hi9), x_shAt hk hS.2.1 hn h1, call_s, x_isWithin, call_s, x_shAt hk hS.2.1 hn h1, call_s, hS.2.2 i (by omega)]
        by_cases h3 : (0 : Int32) ≤ p.2.2 i ∧ p.2.2 i ≤ 99
        · obtain ⟨d, hd, hd2⟩ := win (n := 99) h3 (by decide) rfl (by decide)
          have c : (p.2.2 i).toNatClampNeg = d := by
            rw [hd2]
            exact nI_clamp (by omega)
          have hx1 := hx.setM (i := i) (f := 4) (v := d) hi9 (by omega)
          obtain ⟨σ', q1, q2, q3⟩ := ih (i + 1) F (upV V (8 + 5 * i + 4) d) _ (by omega) (by omega) (hV.setF (f := 4) (by omega) hd) hx1
          refine ⟨σ', ?_, ?_, fun q hq => by rw [q3 q hq, om_w_off (by omega)]⟩
          · rw [bI_y h3, if_pos ⟨h1, h2, h3⟩, c, let_s, nI_1, ← q1, hd2]
          · rw [if_pos ⟨h1, h2, h3⟩, c]
            exact q2
        · refine ⟨σ, ?_, ?_, fun _ _ => rfl⟩
          · rw [bI_n h3, if_neg (fun q => h3 q.2.2)]
          · rw [if_neg (fun q => h3 q.2.2)]
            exact hx
      · refine ⟨σ, ?_, ?_, fun _ _ => rfl⟩
        · rw [x_atNo (c := V 6) T1 hx.1.1.1 (Or.inr (nI_le (by omega) (by omega))), call_s, om_nul_n, if_neg (fun q => h2 q.2.1)]
        · rw [if_neg (fun q => h2 q.2.1)]
          exact hx
    · refine ⟨σ, ?_, ?_, fun _ _ => rfl⟩
      · rw [bI_n (hasN (by omega) (by omega)), if_neg (fun q => h1 q.1)]
      · rw [if_neg (fun q => h1 q.1)]
        exact hx
theorem m_dearLoop {Z : Int32} {C0 C1 T W : List Int32} {K : Option oA_K} {g : Int32} {E : Nat → Int32} {Tr : List Int32} {Sh : Nat → Int32 × Nat × (Nat → Int32)} {k : Nat} {p : Int32 × Nat × (Nat → Int32)} (hk : k < 4) (hn : p.2.1 ≤ 24) (hp : Sh k = p) :
    ∀ (m i F : Nat) (V : Nat → Nat) (σ : om_S), i + m = 24 → m < F → WV V → HM (V, Z, C0, C1, T, W, K, g, E, Tr, Sh) σ → ∃ σ', f_X9_dears_b18 F 90 (nI k) (nI i) σ = some (nI (dearR p m i V).1, σ') ∧ HM ((dearR p m i V).2, Z, C0, C1, T, W, K, g, E, Tr, Sh) σ' ∧ ∀ q, q < 90 → σ' q = σ q := by
  have c0 : (nI k).toNatClampNeg = k := nI_clamp (by omega)
  have c1 : om_in (nI k) 4 = True := eq_true (in_nI (by omega) (by omega))
  intro m
  induction m with
  | zero =>
    intro i F V σ hi hF hV hm
    obtain ⟨F, rfl⟩ : ∃ G, F = G + 1 := ⟨F - 1, by omega⟩
    have hS := hm.2.2.2.2.2.1 k hk
    rw [hp] at hS
    refine ⟨σ, ?_, hm, fun _ _ => rfl⟩
    unfold f_X9_dears_b18
    simp only [kM, rM, aM, om_ref_s, if_true, c0, c1, hS.2.1]
    rw [if_pos (nI_le (by omega) (by omega))]
    exact Eq.refl _
  | succ m ih =>
    intro i F V σ hi hF hV hm
    obtain ⟨F, rfl⟩ : ∃ G, F = G + 1 := ⟨F - 1, by omega⟩
    have h6 : V 6 ≤ 9 := hV.1
    have hS := hm.2.2.2.2.2.1 k hk
    rw [hp] at hS
    have hi24 : i < 24 := by omega
    unfold f_X9_dears_b18 dearR
    simp only [kM, rM, aM, om_ref_s, if_true, c0, c1, hS.2.1, ix24, cl_s hk hi24, in_s hk hi24]
    by_cases h1 : i < p.2.1
    · rw [if_neg (nI_ge h1 (by omega))]
      by_cases h2 : i < V 6
      · have hi9 : i < 9 := by omega
        rw [isMem_y h6 hm.1.1 h2, call_s, if_neg (by decide), m_in, call_s, hS.2.2 i hi24]
        by_cases h3 : (0 : Int32) ≤ p.2.2 i ∧ p.2.2 i ≤ 99
        · obtain ⟨d, hd, hd2⟩ := win (n := 99) h3 (by decide) rfl (by decide)
          have c : (p.2.2 i).toNatClampNeg = d := by
            rw [hd2]
            exact nI_clamp (by omega)
          have hm1 := hm.setM (i := i) (f := 4) (v := d) hi9 (by omega)
          have hl : f_X9_lays1 90 (nI i) 4 (p.2.2 i) σ = _ := m_lays1 (f := 4) hi9 (by omega)
          obtain ⟨σ', q1, q2, q3⟩ := ih (i + 1) F (upV V (8 + 5 * i + 4) d) _ (by omega) (by omega) (hV.setF (f := 4) (by omega) hd) hm1
          refine ⟨σ', ?_, ?_, fun q hq => by rw [q3 q hq, om_w_off (by omega)]⟩
          · rw [bI_y h3, if_pos ⟨h1, h2, h3⟩, c, hl, do_s, nI_1, ← q1, hd2]
          · rw [if_pos ⟨h1, h2, h3⟩, c]
            exact q2
        · refine ⟨σ, ?_, ?_, fun _ _ => rfl⟩
          · rw [bI_n h3, if_neg (fun q => h3 q.2.2)]
          · rw [if_neg (fun q => h3 q.2.2)]
            exact hm
      · refine ⟨σ, ?_, ?_, fun _ _ => rfl⟩
        · rw [isMem_n (V := V) h6 hm.1.1 (Or.inr (nI_le (by omega) (by omega))), call_s, if_pos rfl, if_neg (fun q => h2 q.2.1)]
        · rw [if_neg (fun q => h2 q.2.1)]
          exact hm
    · refine ⟨σ, ?_, ?_, fun _ _ => rfl⟩
      · rw [if_pos (nI_le (by omega) (by omega)), if_neg (fun q => h1 q.1)]
      · rw [if_neg (fun q => h1 q.1)]
        exact hm
theorem op_dears (a : Int32) : Sim (fun σ => f_X8_dears 0 a σ) (fun σ => f_X9_dears 90 a σ) := by
  refine sim_of fun s σ w hx => ?_
  obtain ⟨V, Z, C0, C1, T, W, K, g, E, Tr, Sh⟩ := s
  rcases shc a with ⟨hn, hn2⟩ | ⟨k, hk, rfl, h⟩
  · refine ⟨rfE 1, (V, Z, C0, C1, T, W, K, g, upE E 1, Tr, Sh), w, XO.no0 hx (k := 1) (by omega) ?_, fun τ hm => MO.no0 hm (k := 1) (by omega) ?_⟩
    · show f_X8_dears 0 a σ = _
      unfold f_X8_dears 
      simp only [kX, rX, om_ref_s, if_true, call_s, let_s, om_nul_s, om_nul_n, x_shNo hn2]
      exact Eq.refl _
    · show f_X9_dears 90 a τ = _
      unfold f_X9_dears 
      simp only [kM, rM, aM, om_ref_s, if_true, call_s, let_s, m_lacksN hn, n10, if_false]
      exact Eq.refl _
  · obtain ⟨hb, hs24, hnar⟩ := w.2.2.2.2 k hk
    have hS := hx.2.2.2.2.2.1 k hk
    by_cases e0 : (Sh k).1 = 0
    · refine ⟨rfE 2, (V, Z, C0, C1, T, W, K, g, upE E 2, Tr, Sh), w, XO.no0 hx (k := 2) (by omega) ?_, fun τ hm => MO.no0 hm (k := 2) (by omega) ?_⟩
      · show f_X8_dears 0 (nI k) σ = _
        unfold f_X8_dears 
        simp only [kX, rX, om_ref_s, if_true, call_s, let_s, om_nul_s, om_nul_n, x_shYes hk, (sh_all k hk).2.1, x_miss hk, hS.1]
        rw [bI_y e0]
        exact Eq.refl _
      · show f_X9_dears 90 (nI k) τ = _
        unfold f_X9_dears 
        simp only [kM, rM, aM, om_ref_s, if_true, call_s, let_s, m_lacks hk h, (hm.2.2.2.2.2.1 k hk).1, if_pos e0, n20, if_false]
        exact Eq.refl _
    · have hV : WV V := w.1.1
      obtain ⟨σ', q1, q2, q3⟩ := x_dearLoop hk hs24 rfl 24 0 om_F V σ (by omega) (lt_F (by omega)) hV hx
      obtain ⟨a1, a2, a3⟩ := dearR_ok (p := Sh k) 24 0 V hV (by omega)
      refine ⟨nI (dearR (Sh k) 24 0 V).1, ((dearR (Sh k) 24 0 V).2, Z, C0, C1, T, W, K, g, E, Tr, Sh), w.setV a1 (by rw [a2]; exact w.1.2.1), ⟨σ', ?_, q2, q3⟩, fun τ hm => ?_⟩
      · show f_X8_dears 0 (nI k) σ = _
        unfold f_X8_dears
        simp only [kX, rX, om_ref_s, if_true, x_shYes hk, call_s, om_nul_s, (sh_all k hk).2.1, x_miss hk, hS.1]
        rw [bI_n e0]
        exact q1
      · obtain ⟨τ', r1, r2, r3⟩ := m_dearLoop hk hs24 rfl 24 0 om_F V τ (by omega) (lt_F (by omega)) hV hm
        refine ⟨τ', ?_, r2, r3⟩
        show f_X9_dears 90 (nI k) τ = _
        unfold f_X9_dears
        simp only [kM, if_true, m_lacks hk h, (hm.2.2.2.2.2.1 k hk).1, if_neg e0, call_s]
        exact r1
def judR (V : Nat → Nat) (C0 : List Int32) (p : Int32 × Nat × (Nat → Int32)) : Nat → Nat → Nat
  | 0, i => i
  | m + 1, i => if i < p.2.1 ∧ i < V 6 ∧ p.2.2 i = lightV V C0 i (V (8 + 5 * i + 2)) then judR V C0 p m (i + 1) else i
theorem x_judLoop {V : Nat → Nat} {Z : Int32} {C0 C1 : List Int32} {k : Nat} {p : Int32 × Nat × (Nat → Int32)} (hV : WV V) (hC0 : WC C0) (hk : k < 4) (hn : p.2.1 ≤ 24) :
    ∀ (m i F : Nat) (σ : om_S), i + m = 24 → m < F → XT 1 V Z C0 C1 σ → XSh k p σ → ∃ σ', f_X8_judge_b31 F 0 (82 + 2 * k) (nI i) σ = some (nI (judR V C0 p m i), σ') ∧ ∀ q, q ≠ 6 → σ' q = σ q := by
  have h6 : V 6 ≤ 9 := hV.1
  intro m
  induction m with
  | zero =>
    intro i F σ hi hF hX hS
    obtain ⟨F, rfl⟩ : ∃ G, F = G + 1 := ⟨F - 1, by omega⟩
    refine ⟨σ, ?_, fun _ _ => rfl⟩
    unfold f_X8_judge_b31
    rw [if_pos (show (24 : Int32) ≤ nI i from nI_le (a := 24) (by omega) (by omega))]
    exact Eq.refl _
  | succ m ih =>
    intro i F σ hi hF hX hS
    obtain ⟨F, rfl⟩ : ∃ G, F = G + 1 := ⟨F - 1, by omega⟩
    unfold f_X8_judge_b31 judR
    rw [if_neg (show ¬ (24 : Int32) ≤ nI i from nI_ge (b := 24) (by omega) (by omega)), x_shHas hk hS.2.1 hn, call_s]
    by_cases h1 : i < p.2.1
    · rw [bI_y (hasY h1 (by omega))]
      simp only [kX, rX, om_ref_s, if_true]
      by_cases h2 : i < V 6
      · have hi9 : i < 9 := by omega
        obtain ⟨σ1, p1, p2⟩ := x_light T1 hV hC0 hX hi9
        rw [x_atI T1 hX.1 h2 h6, call_s, om_nul_s, if_pos (tk1m hi9), x_shAt hk hS.2.1 hn h1, call_s, p1, call_s, hS.2.2 i (by omega)]
        by_cases h3 : p.2.2 i = lightV V C0 i (V (8 + 5 * i + 2))
        · obtain ⟨σ', q1, q2⟩ := ih (i + 1) F σ1 (by omega) (by omega) (hX.congr fun q _ _ a _ => p2 q a) (hS.congr (p2 _ (by omega)) (p2 _ (by omega)))
          refine ⟨σ', ?_, fun q hq => by rw [q2 q hq, p2 q hq]⟩
          rw [if_pos h3, if_pos ⟨h1, h2, h3⟩, nI_1, q1]
        · refine ⟨σ1, ?_, p2⟩
          rw [if_neg h3, if_neg (fun q => h3 q.2.2)]
      · refine ⟨σ, ?_, fun _ _ => rfl⟩
        rw [x_atNo T1 hX.1 (Or.inr (nI_le (by omega) (by omega))), call_s, om_nul_n, if_neg (fun q => h2 q.2.1)]
    · refine ⟨σ, ?_, fun _ _ => rfl⟩
      rw [bI_n (hasN (by omega) (by omega)), if_neg (fun q => h1 q.1)]
theorem m_judLoop {V : Nat → Nat} {Z : Int32} {C0 C1 : List Int32} {k : Nat} {p : Int32 × Nat × (Nat → Int32)} (hV : WV V) (hC0 : WC C0) (hk : k < 4) (hn : p.2.1 ≤ 24) :
    ∀ (m i F : Nat) (σ : om_S), i + m = 24 → m < F → MT 91 V Z C0 C1 σ → MSh k p σ → ∃ σ', f_X9_judge_b18 F 90 (nI k) (nI i) σ = some (nI (judR V C0 p m i), σ') ∧ ∀ q, q ≠ 96 → q ≠ 97 → σ' q = σ q := by
  have h6 : V 6 ≤ 9 := hV.1
  have c0 : (nI k).toNatClampNeg = k := nI_clamp (by omega)
  have c1 : om_in (nI k) 4 = True := eq_true (in_nI (by omega) (by omega))
  intro m
  induction m with
  | zero =>
    intro i F σ hi hF hX hS
    obtain ⟨F, rfl⟩ : ∃ G, F = G + 1 := ⟨F - 1, by omega⟩
    refine ⟨σ, ?_, fun _ _ _ => rfl⟩
    unfold f_X9_judge_b18
    simp only [kM, rM, aM, om_ref_s, if_true, c0, c1, hS.2.1]
    rw [if_pos (nI_le (by omega) (by omega))]
    exact Eq.refl _
  | succ m ih =>
    intro i F σ hi hF hX hS
    obtain ⟨F, rfl⟩ : ∃ G, F = G + 1 := ⟨F - 1, by omega⟩
    have hi24 : i < 24 := by omega
    unfold f_X9_judge_b18 judR
    simp only [kM, rM, aM, om_ref_s, if_true, c0, c1, hS.2.1, ix24, cl_s hk hi24, in_s hk hi24]
    by_cases h1 : i < p.2.1
    · rw [if_neg (nI_ge h1 (by omega))]
      by_cases h2 : i < V 6
      · have hi9 : i < 9 := by omega
        have hw : V (8 + 5 * i + 2) ≤ 15 := (hV.2.2.2.2 i hi9).2.2.1
        obtain ⟨σ1, p1, p2⟩ := m_lightBy (w := V (8 + 5 * i + 2)) hC0 hX hi9 (by omega)
        have hS1 : MSh k p σ1 := hS.congr (p2 _ (by omega) (by omega)) (p2 _ (by omega) (by omega)) (p2 _ (by omega) (by omega))
        rw [isMem_y h6 hX h2, call_s, if_neg (by decide), m_its2 hi9, call_s, hX.2.2.2.2.2.1 i 2 hi9 (by omega), p1, call_s, hS1.2.2 i hi24]
        by_cases h3 : p.2.2 i = lightV V C0 i (V (8 + 5 * i + 2))
        · obtain ⟨σ', q1, q2⟩ := ih (i + 1) F σ1 (by omega) (by omega) (hX.congr (p2 91 (by omega) (by omega))) hS1
          refine ⟨σ', ?_, fun q a b => by rw [q2 q a b, p2 q a b]⟩
          rw [if_pos h3.symm, if_pos ⟨h1, h2, h3⟩, nI_1, q1]
        · refine ⟨σ1, ?_, p2⟩
          rw [if_neg (fun q => h3 q.symm), if_neg (fun q => h3 q.2.2)]
      · refine ⟨σ, ?_, fun _ _ _ => rfl⟩
        rw [isMem_n h6 hX (Or.inr (nI_le (by omega) (by omega))), call_s, if_pos rfl, if_neg (fun q => h2 q.2.1)]
    · refine ⟨σ, ?_, fun _ _ _ => rfl⟩
      rw [if_pos (nI_le (by omega) (by omega)), if_neg (fun q => h1 q.1)]
theorem op_judge (a : Int32) : Sim (fun σ => f_X8_judge 0 a σ) (fun σ => f_X9_judge 90 a σ) := by
  refine sim_of fun s σ w hx => ?_
  obtain ⟨V, Z, C0, C1, T, W, K, g, E, Tr, Sh⟩ := s
  rcases shc a with ⟨hn, hn2⟩ | ⟨k, hk, rfl, h⟩
  · refine ⟨rfE 1, (V, Z, C0, C1, T, W, K, g, upE E 1, Tr, Sh), w, XO.no0 hx (k := 1) (by omega) ?_, fun τ hm => MO.no0 hm (k := 1) (by omega) ?_⟩
    · show f_X8_judge 0 a σ = _
      unfold f_X8_judge 
      simp only [kX, rX, om_ref_s, if_true, call_s, let_s, om_nul_s, om_nul_n, x_shNo hn2]
      exact Eq.refl _
    · show f_X9_judge 90 a τ = _
      unfold f_X9_judge 
      simp only [kM, rM, aM, om_ref_s, if_true, call_s, let_s, m_lacksN hn, n10, if_false]
      exact Eq.refl _
  · obtain ⟨hb, hs24, hnar⟩ := w.2.2.2.2 k hk
    have hS := hx.2.2.2.2.2.1 k hk
    by_cases e0 : (Sh k).1 = 0
    · refine ⟨rfE 2, (V, Z, C0, C1, T, W, K, g, upE E 2, Tr, Sh), w, XO.no0 hx (k := 2) (by omega) ?_, fun τ hm => MO.no0 hm (k := 2) (by omega) ?_⟩
      · show f_X8_judge 0 (nI k) σ = _
        unfold f_X8_judge 
        simp only [kX, rX, om_ref_s, if_true, call_s, let_s, om_nul_s, om_nul_n, x_shYes hk, (sh_all k hk).2.1, x_miss hk, hS.1]
        rw [bI_y e0]
        exact Eq.refl _
      · show f_X9_judge 90 (nI k) τ = _
        unfold f_X9_judge 
        simp only [kM, rM, aM, om_ref_s, if_true, call_s, let_s, m_lacks hk h, (hm.2.2.2.2.2.1 k hk).1, if_pos e0, n20, if_false]
        exact Eq.refl _
    · have hV : WV V := w.1.1
      obtain ⟨σ', q1, q2⟩ := x_judLoop hV w.1.2.2.1 hk hs24 24 0 om_F σ (by omega) (lt_F (by omega)) hx.1.1 hS
      refine ⟨nI (judR V C0 (Sh k) 24 0), (V, Z, C0, C1, T, W, K, g, E, Tr, Sh), w, XO.scr hx (xscr.l hx (fun q a _ => q2 q a)) ?_, fun τ hm => ?_⟩
      · show f_X8_judge 0 (nI k) σ = _
        unfold f_X8_judge
        simp only [kX, rX, om_ref_s, if_true, x_shYes hk, call_s, om_nul_s, (sh_all k hk).2.1, x_miss hk, hS.1]
        rw [bI_n e0]
        exact q1
      · obtain ⟨τ', r1, r2⟩ := m_judLoop hV w.1.2.2.1 hk hs24 24 0 om_F τ (by omega) (lt_F (by omega)) hm.1.1 (hm.2.2.2.2.2.1 k hk)
        refine MO.scr hm (mscr.l hm r2) ?_
        show f_X9_judge 90 (nI k) τ = _
        unfold f_X9_judge
        simp only [kM, if_true, m_lacks hk h, (hm.2.2.2.2.2.1 k hk).1, if_neg e0, call_s]
        exact r1
theorem nar_nar (b v : Int32) : narF b (narF b v) = narF b v := by
  unfold narF
  by_cases e8 : b = 8
  · simp only [if_pos e8]
    simp
  · simp only [if_neg e8]
    by_cases e16 : b = 16
    · simp only [if_pos e16]
      simp
    · simp only [if_neg e16]
theorem toInt_c (v : Int32) : v.toInt = if 2 * v.toBitVec.toNat < 2 ^ 32 then (v.toBitVec.toNat : Int) else (v.toBitVec.toNat : Int) - (2 ^ 32 : Nat) := BitVec.toInt_eq_toNat_cond v.toBitVec
theorem nar_shl8 (v : Int32) : (v <<< (24 : Int32)) >>> (24 : Int32) = v.toInt8.toInt32 := by
  apply Int32.toInt_inj.mp
  rw [pk_shr (v <<< (24 : Int32)) 24 24 (by decide), Int8.toInt_toInt32, Int32.toInt_toInt8, Int.shiftRight_eq_div_pow, toInt_c, toInt_c v, pk_shl v 24 24 (by decide), Int.bmod_def]
  have h : v.toBitVec.toNat < 2 ^ 32 := v.toBitVec.isLt
  generalize v.toBitVec.toNat = n at h ⊢
  repeat' split
  all_goals omega
theorem nar_shl16 (v : Int32) : (v <<< (16 : Int32)) >>> (16 : Int32) = v.toInt16.toInt32 := by
  apply Int32.toInt_inj.mp
  rw [pk_shr (v <<< (16 : Int32)) 16 16 (by decide), Int16.toInt_toInt32, Int32.toInt_toInt16, Int.shiftRight_eq_div_pow, toInt_c, toInt_c v, pk_shl v 16 16 (by decide), Int.bmod_def]
  have h : v.toBitVec.toNat < 2 ^ 32 := v.toBitVec.isLt
  generalize v.toBitVec.toNat = n at h ⊢
  repeat' split
  all_goals omega
theorem nar_shl0 (v : Int32) : (v <<< (0 : Int32)) >>> (0 : Int32) = v := by
  apply Int32.toInt_inj.mp
  rw [pk_shr (v <<< (0 : Int32)) 0 0 (by decide), Int.shiftRight_eq_div_pow, toInt_c, toInt_c v, pk_shl v 0 0 (by decide)]
  have h : v.toBitVec.toNat < 2 ^ 32 := v.toBitVec.isLt
  generalize v.toBitVec.toNat = n at h ⊢
  repeat' split
  all_goals omega
theorem nar_shl {b v : Int32} (hb : b = 8 ∨ b = 16 ∨ b = 32) : (v <<< ((32 - b) &&& 31)) >>> ((32 - b) &&& 31) = narF b v := by
  rcases hb with rfl | rfl | rfl
  · unfold narF
    rw [if_pos rfl, show ((32 : Int32) - 8) &&& 31 = 24 by decide, nar_shl8]
  · unfold narF
    rw [if_neg (by decide), if_pos rfl, show ((32 : Int32) - 16) &&& 31 = 16 by decide, nar_shl16]
  · unfold narF
    rw [if_neg (by decide), if_neg (by decide), show ((32 : Int32) - 32) &&& 31 = 0 by decide, nar_shl0]
