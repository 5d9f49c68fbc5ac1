/-! ===== the plain calls, second half ===== -/
theorem upV_comm {V : Nat → Nat} {k k2 a b : Nat} (h : k ≠ k2) : upV (upV V k a) k2 b = upV (upV V k2 b) k a := by
  funext j
  unfold upV
  by_cases e : j = k
  · subst e
    rw [if_neg h, if_pos rfl, if_pos rfl]
  · rw [if_neg e, if_neg e]
theorem dv10 {j : Nat} (h : j < 10000) : nI j / 10 = nI (j / 10) := pk_div (d := 10) (by omega) (by omega) (by omega)
theorem rm10 {j : Nat} (h : j < 10000) : nI j - nI j / 10 * 10 = nI (j % 10) := pk_rem (d := 10) (by omega) (by omega) (by omega)
theorem dv100 {j : Nat} (h : j < 10000) : nI j / 100 = nI (j / 100) := pk_div (d := 100) (by omega) (by omega) (by omega)
theorem rm100 {j : Nat} (h : j < 10000) : nI j - nI j / 100 * 100 = nI (j % 100) := pk_rem (d := 100) (by omega) (by omega) (by omega)
def bt (w k : Nat) : Nat := w / 2 ^ k % 2
def btC (w k : Nat) : Nat := if bt w k = 1 then w - 2 ^ k else w
def btS (w k : Nat) : Nat := if bt w k = 1 then w else w + 2 ^ k
theorem bt_a : ∀ w, w < 16 → ∀ k, k < 4 → ((nI w = nI (2 ^ k)) ↔ w = 2 ^ k) := by decide +kernel
theorem bt_b : ∀ w, w < 16 → ∀ k, k < 4 → ((nI w &&& nI (2 ^ k) = 0) ↔ bt w k = 0) := by decide +kernel
theorem bt_c : ∀ w, w < 16 → ∀ k, k < 4 → ((nI w >>> (nI k &&& 31)) &&& 1 = nI (bt w k)) := by decide +kernel
theorem bt_d : ∀ w, w < 16 → ∀ k, k < 4 → (nI w &&& (nI (2 ^ k) ^^^ (-1 : Int32)) = nI (btC w k)) ∧ btC w k ≤ 15 := by decide +kernel
theorem bt_e : ∀ w, w < 16 → ∀ k, k < 4 → (nI w ||| nI (2 ^ k) = nI (btS w k)) ∧ btS w k ≤ 15 := by decide +kernel
theorem bt_01 (w k : Nat) : bt w k = 0 ∨ bt w k = 1 := by
  unfold bt
  omega
theorem op_become (a v : Int32) : Sim (fun σ => f_X8_become 0 a v σ) (fun σ => f_X9_become 90 a v σ) := by
  refine sim_of fun s σ w hx => ?_
  obtain ⟨V, Z, C0, C1, T, W, K, g, E, Tr, Sh⟩ := s
  have h6 : V 6 ≤ 9 := w.1.1.1
  rcases memc V w.1.1 a with hn | ⟨i, hi, hi9, rfl⟩
  · refine ⟨rfE 1, (V, Z, C0, C1, T, W, K, g, upE E 1, Tr, Sh), w, XO.no0 hx (k := 1) (by omega) ?_, fun τ hm => MO.no0 hm (k := 1) (by omega) ?_⟩
    · show f_X8_become 0 a v σ = _
      unfold f_X8_become f_X8_become_b20
      simp only [kX, rX, om_ref_s, if_true, call_s, let_s, om_nul_s, om_nul_n, x_atNo T1 hx.1.1.1 hn]
      exact Eq.refl _
    · show f_X9_become 90 a v τ = _
      unfold f_X9_become f_X9_become_b15
      simp only [kM, rM, aM, om_ref_s, if_true, call_s, let_s, isMem_n h6 hm.1.1 hn]
      exact Eq.refl _
  · have hat := x_atI T1 hx.1.1.1 hi h6
    by_cases h : (0 : Int32) ≤ v ∧ v ≤ 69
    · obtain ⟨j, hj, rfl⟩ := win (n := 69) h (by decide) rfl (by decide)
      refine ⟨nI (V (8 + 5 * i)), (upV (upV V (8 + 5 * i + 0) (j / 10)) (8 + 5 * i + 1) (j % 10), Z, C0, C1, T, W, K, g, E, Tr, Sh), w.setV ((w.1.1.setF (f := 0) (by omega) (by rw [if_pos rfl]; omega)).setF (by omega) (by rw [if_neg (by omega), if_pos rfl]; omega)) (by rw [upV_o (by omega), upV_o (by omega)]; exact w.1.2.1), ⟨_, ?_, (hx.setM (f := 0) (v := j / 10) hi9 (by omega)).setM (f := 1) (v := j % 10) hi9 (by omega), fun q hq => by rw [om_w_off (by omega), om_w_off (by omega)]⟩, fun τ hm => ⟨_, ?_, by rw [upV_comm (by omega)]; exact (hm.setM (f := 1) (v := j % 10) hi9 (by omega)).setM (f := 0) (v := j / 10) hi9 (by omega), fun q hq => by rw [om_w_off (by omega), om_w_off (by omega)]⟩⟩
      · show f_X8_become 0 (nI i) (nI j) σ = _
        unfold f_X8_become
        simp only [kX, rX, om_ref_s, if_true, call_s, let_s, om_nul_s, hat, tk1m hi9, x_isKindN]
        rw [bI_y h, rm10 (by omega), dv10 (by omega), show σ (1 + 10 + i) 0 = _ from hx.1.1.2.2.2.2.2.1 i 0 hi9 (by omega)]
        exact Eq.refl _
      · have hl := m_lays1 (v := nI (j % 10)) (σ := τ) hi9 (show 1 < 5 by omega)
        have hc := ch1 (v := nI (j / 10)) (σ := om_w τ 91 (8 + 5 * i + 1) (nI (j % 10))) hi9 (show 0 < 5 by omega)
        show f_X9_become 90 (nI i) (nI j) τ = _
        unfold f_X9_become
        simp only [kM, if_true, call_s, isMem_y h6 hm.1.1 hi, m_isKind, n10, if_false]
        rw [bI_y h, rm10 (by omega), dv10 (by omega), show (1 : Int32) = nI 1 from rfl, hl, do_s, show (0 : Int32) = nI 0 from rfl, hc, call_s, om_w_j (by omega), show τ 91 (8 + 5 * i + 0) = _ from hm.1.1.2.2.2.2.2.1 i 0 hi9 (by omega)]
        exact Eq.refl _
    · refine ⟨rfE 1, (V, Z, C0, C1, T, W, K, g, upE E 1, Tr, Sh), w, XO.no0 hx (k := 1) (by omega) ?_, fun τ hm => MO.no0 hm (k := 1) (by omega) ?_⟩
      · show f_X8_become 0 (nI i) v σ = _
        unfold f_X8_become f_X8_become_b20
        simp only [kX, rX, om_ref_s, if_true, call_s, let_s, om_nul_s, om_nul_n, hat, tk1m hi9, x_isKindN]
        rw [bI_n h]
        exact Eq.refl _
      · show f_X9_become 90 (nI i) v τ = _
        unfold f_X9_become f_X9_become_b15
        simp only [kM, rM, aM, om_ref_s, if_true, call_s, let_s, isMem_y h6 hm.1.1 hi, m_isKind, n10, if_false]
        rw [bI_n h]
        exact Eq.refl _
theorem op_tells (a v : Int32) : Sim (fun σ => f_X8_tells 0 a v σ) (fun σ => f_X9_tells 90 a v σ) := by
  refine sim_of fun s σ w hx => ?_
  obtain ⟨V, Z, C0, C1, T, W, K, g, E, Tr, Sh⟩ := s
  have h6 : V 6 ≤ 9 := w.1.1.1
  rcases memc V w.1.1 a with hn | ⟨i, hi, hi9, rfl⟩
  · refine ⟨rfE 1, (V, Z, C0, C1, T, W, K, g, upE E 1, Tr, Sh), w, XO.no0 hx (k := 1) (by omega) ?_, fun τ hm => MO.no0 hm (k := 1) (by omega) ?_⟩
    · show f_X8_tells 0 a v σ = _
      unfold f_X8_tells f_X8_tells_b20
      simp only [kX, rX, om_ref_s, if_true, call_s, let_s, om_nul_s, om_nul_n, x_atNo T1 hx.1.1.1 hn]
      exact Eq.refl _
    · show f_X9_tells 90 a v τ = _
      unfold f_X9_tells f_X9_tells_b15
      simp only [kM, rM, aM, om_ref_s, if_true, call_s, let_s, isMem_n h6 hm.1.1 hn]
      exact Eq.refl _
  · have hat := x_atI T1 hx.1.1.1 hi h6
    by_cases h : (0 : Int32) ≤ v ∧ v ≤ 3
    · obtain ⟨k, hk, rfl⟩ := win (n := 3) h (by decide) rfl (by decide)
      have hw : V (8 + 5 * i + 2) < 16 := by
        have : V (8 + 5 * i + 2) ≤ 15 := (w.1.1.2.2.2.2 i hi9).2.2.1
        omega
      have hk4 : k < 4 := by omega
      refine ⟨nI (bt (V (8 + 5 * i + 2)) k), (upV V (8 + 5 * i + 2) (btS (V (8 + 5 * i + 2)) k), Z, C0, C1, T, W, K, g, E, Tr, Sh), w.setV (w.1.1.setF (by omega) (bt_e _ hw k hk4).2) (by rw [upV_o (by omega)]; exact w.1.2.1), ⟨_, ?_, hx.setM (f := 2) hi9 (by omega), fun q hq => om_w_off (by omega)⟩, fun τ hm => ⟨_, ?_, hm.setM (f := 2) hi9 (by omega), fun q hq => om_w_off (by omega)⟩⟩
      · show f_X8_tells 0 (nI i) (nI k) σ = _
        unfold f_X8_tells f_X8_tells_b46
        simp only [kX, rX, om_ref_s, if_true, call_s, let_s, om_nul_s, hat, tk1m hi9, x_isKeeper, shl_all k (by omega), hx.1.1.2.2.2.2.2.1 i 2 hi9 (by omega), (bt_e _ hw k hk4).1]
        rw [bI_y h]
        rcases bt_01 (V (8 + 5 * i + 2)) k with e | e
        · rw [if_pos ((bt_b _ hw k hk4).mpr e), e]
          exact Eq.refl _
        · rw [if_neg (fun q => by have := (bt_b _ hw k hk4).mp q; omega), e]
          exact Eq.refl _
      · have hl := m_lays1 (v := nI (btS (V (8 + 5 * i + 2)) k)) (σ := τ) hi9 (show 2 < 5 by omega)
        show f_X9_tells 90 (nI i) (nI k) τ = _
        unfold f_X9_tells
        simp only [kM, if_true, call_s, isMem_y h6 hm.1.1 hi, m_isKeeper, n10, if_false, m_its2 hi9, hm.1.1.2.2.2.2.2.1 i 2 hi9 (by omega), shl_all k (by omega), (bt_e _ hw k hk4).1, bt_c _ hw k hk4]
        rw [bI_y h, show (2 : Int32) = nI 2 from rfl, hl, do_s]
    · refine ⟨rfE 1, (V, Z, C0, C1, T, W, K, g, upE E 1, Tr, Sh), w, XO.no0 hx (k := 1) (by omega) ?_, fun τ hm => MO.no0 hm (k := 1) (by omega) ?_⟩
      · show f_X8_tells 0 (nI i) v σ = _
        unfold f_X8_tells f_X8_tells_b20
        simp only [kX, rX, om_ref_s, if_true, call_s, let_s, om_nul_s, om_nul_n, hat, tk1m hi9, x_isKeeper]
        rw [bI_n h]
        exact Eq.refl _
      · show f_X9_tells 90 (nI i) v τ = _
        unfold f_X9_tells f_X9_tells_b15
        simp only [kM, rM, aM, om_ref_s, if_true, call_s, let_s, isMem_y h6 hm.1.1 hi, m_isKeeper, n10, if_false]
        rw [bI_n h]
        exact Eq.refl _
theorem op_trim (a v : Int32) : Sim (fun σ => f_X8_trim 0 a v σ) (fun σ => f_X9_trim 90 a v σ) := by
  refine sim_of fun s σ w hx => ?_
  obtain ⟨V, Z, C0, C1, T, W, K, g, E, Tr, Sh⟩ := s
  have h6 : V 6 ≤ 9 := w.1.1.1
  rcases memc V w.1.1 a with hn | ⟨i, hi, hi9, rfl⟩
  · refine ⟨rfE 1, (V, Z, C0, C1, T, W, K, g, upE E 1, Tr, Sh), w, XO.no0 hx (k := 1) (by omega) ?_, fun τ hm => MO.no0 hm (k := 1) (by omega) ?_⟩
    · show f_X8_trim 0 a v σ = _
      unfold f_X8_trim f_X8_trim_b20
      simp only [kX, rX, om_ref_s, if_true, call_s, let_s, om_nul_s, om_nul_n, x_atNo T1 hx.1.1.1 hn]
      exact Eq.refl _
    · show f_X9_trim 90 a v τ = _
      unfold f_X9_trim f_X9_trim_b15
      simp only [kM, rM, aM, om_ref_s, if_true, call_s, let_s, isMem_n h6 hm.1.1 hn]
      exact Eq.refl _
  · have hat := x_atI T1 hx.1.1.1 hi h6
    by_cases h : (0 : Int32) ≤ v ∧ v ≤ 3
    · obtain ⟨k, hk, rfl⟩ := win (n := 3) h (by decide) rfl (by decide)
      have hw : V (8 + 5 * i + 2) < 16 := by
        have : V (8 + 5 * i + 2) ≤ 15 := (w.1.1.2.2.2.2 i hi9).2.2.1
        omega
      have hk4 : k < 4 := by omega
      by_cases he : V (8 + 5 * i + 2) = 2 ^ k
      · refine ⟨rfE 3, (V, Z, C0, C1, T, W, K, g, upE E 3, Tr, Sh), w, XO.no0 hx (k := 3) (by omega) ?_, fun τ hm => MO.no0 hm (k := 3) (by omega) ?_⟩
        · show f_X8_trim 0 (nI i) (nI k) σ = _
          unfold f_X8_trim 
          simp only [kX, rX, om_ref_s, if_true, call_s, let_s, om_nul_s, om_nul_n, hat, tk1m hi9, x_isKeeper, shl_all k (show k < 10 by omega), hx.1.1.2.2.2.2.2.1 i 2 hi9 (show 2 < 5 by omega)]
          rw [bI_y h, if_pos ((bt_a _ hw k hk4).mpr he)]
          exact Eq.refl _
        · show f_X9_trim 90 (nI i) (nI k) τ = _
          unfold f_X9_trim 
          simp only [kM, rM, aM, om_ref_s, if_true, call_s, let_s, isMem_y h6 hm.1.1 hi, m_isKeeper, n10, if_false, m_its2 hi9, shl_all k (show k < 10 by omega), hm.1.1.2.2.2.2.2.1 i 2 hi9 (show 2 < 5 by omega)]
          rw [bI_y h, if_pos ((bt_a _ hw k hk4).mpr he)]
          exact Eq.refl _
      · refine ⟨nI (bt (V (8 + 5 * i + 2)) k), (upV V (8 + 5 * i + 2) (btC (V (8 + 5 * i + 2)) k), Z, C0, C1, T, W, K, g, E, Tr, Sh), w.setV (w.1.1.setF (by omega) (bt_d _ hw k hk4).2) (by rw [upV_o (by omega)]; exact w.1.2.1), ⟨_, ?_, hx.setM (f := 2) hi9 (by omega), fun q hq => om_w_off (by omega)⟩, fun τ hm => ⟨_, ?_, hm.setM (f := 2) hi9 (by omega), fun q hq => om_w_off (by omega)⟩⟩
        · show f_X8_trim 0 (nI i) (nI k) σ = _
          unfold f_X8_trim f_X8_trim_b61
          simp only [kX, rX, om_ref_s, if_true, call_s, let_s, om_nul_s, hat, tk1m hi9, x_isKeeper, shl_all k (show k < 10 by omega), hx.1.1.2.2.2.2.2.1 i 2 hi9 (show 2 < 5 by omega), (bt_d _ hw k hk4).1]
          rw [bI_y h, if_neg (fun q => he ((bt_a _ hw k hk4).mp q))]
          rcases bt_01 (V (8 + 5 * i + 2)) k with e | e
          · rw [if_pos ((bt_b _ hw k hk4).mpr e), e]
            exact Eq.refl _
          · rw [if_neg (fun q => by have := (bt_b _ hw k hk4).mp q; omega), e]
            exact Eq.refl _
        · have hl := m_lays1 (v := nI (btC (V (8 + 5 * i + 2)) k)) (σ := τ) hi9 (show 2 < 5 by omega)
          show f_X9_trim 90 (nI i) (nI k) τ = _
          unfold f_X9_trim
          simp only [kM, if_true, call_s, isMem_y h6 hm.1.1 hi, m_isKeeper, n10, if_false, m_its2 hi9, hm.1.1.2.2.2.2.2.1 i 2 hi9 (show 2 < 5 by omega), shl_all k (show k < 10 by omega), (bt_d _ hw k hk4).1, bt_c _ hw k hk4]
          rw [bI_y h, if_neg (fun q => he ((bt_a _ hw k hk4).mp q)), show (2 : Int32) = nI 2 from rfl, hl, do_s]
    · refine ⟨rfE 1, (V, Z, C0, C1, T, W, K, g, upE E 1, Tr, Sh), w, XO.no0 hx (k := 1) (by omega) ?_, fun τ hm => MO.no0 hm (k := 1) (by omega) ?_⟩
      · show f_X8_trim 0 (nI i) v σ = _
        unfold f_X8_trim f_X8_trim_b20
        simp only [kX, rX, om_ref_s, if_true, call_s, let_s, om_nul_s, om_nul_n, hat, tk1m hi9, x_isKeeper]
        rw [bI_n h]
        exact Eq.refl _
      · show f_X9_trim 90 (nI i) v τ = _
        unfold f_X9_trim f_X9_trim_b15
        simp only [kM, rM, aM, om_ref_s, if_true, call_s, let_s, isMem_y h6 hm.1.1 hi, m_isKeeper, n10, if_false]
        rw [bI_n h]
        exact Eq.refl _
