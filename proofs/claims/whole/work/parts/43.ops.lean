/-! ===== the plain calls ===== -/
theorem xscr.l {s : oA_S} {σ σ' : om_S} (h : HX s σ) (e : ∀ q, q ≠ 6 → q ≠ 10 → σ' q = σ q) : xscr σ σ' := ⟨fun q a b _ _ => e q a b, h.xz.congr (fun q hq => e q (by omega) (by omega))⟩
theorem mscr.l {s : oA_S} {σ σ' : om_S} (h : HM s σ) (e : ∀ q, q ≠ 96 → q ≠ 97 → σ' q = σ q) : mscr σ σ' := ⟨fun q _ _ _ a b _ _ _ => e q a b, by rw [e 90 (by omega) (by omega)], by rw [e 90 (by omega) (by omega)], h.mz.congr (fun q hq => e q (by omega) (by omega))⟩
theorem XO.scr {f : om_S → Option (Int32 × om_S)} {r : Int32} {s : oA_S} {σ σ' : om_S} (h : HX s σ) (hs : xscr σ σ') (e : f σ = some (r, σ')) : XO f r s σ := ⟨σ', e, h.scr hs, fun q hq => hs.1 q (by omega) (by omega) (by omega) (by omega)⟩
theorem MO.scr {f : om_S → Option (Int32 × om_S)} {r : Int32} {s : oA_S} {σ σ' : om_S} (h : HM s σ) (hs : mscr σ σ') (e : f σ = some (r, σ')) : MO f r s σ := ⟨σ', e, h.scr hs, fun q hq => hs.1 q (by omega) (by omega) (by omega) (by omega) (by omega) (by omega) (by omega) (by omega)⟩
theorem XO.id {f : om_S → Option (Int32 × om_S)} {r : Int32} {s : oA_S} {σ : om_S} (h : HX s σ) (e : f σ = some (r, σ)) : XO f r s σ := ⟨σ, e, h, fun _ _ => rfl⟩
theorem MO.id {f : om_S → Option (Int32 × om_S)} {r : Int32} {s : oA_S} {σ : om_S} (h : HM s σ) (e : f σ = some (r, σ)) : MO f r s σ := ⟨σ, e, h, fun _ _ => rfl⟩
theorem x_isKindN {v : Int32} {σ : om_S} : f_X8_isKindAndNumber v σ = some (bI (0 ≤ v ∧ v ≤ 69), σ) := x_isWithin (lo := 0) (hi := 69)
theorem m_isKind {v : Int32} {σ : om_S} : f_X9_isKind v σ = some (bI (0 ≤ v ∧ v ≤ 69), σ) := by
  unfold f_X9_isKind
  rw [m_in, call_s, if_pos (of_eq_true (bI_or _))]
theorem x_isKeeper {v : Int32} {σ : om_S} : f_X8_isKeeper v σ = some (bI (0 ≤ v ∧ v ≤ 3), σ) := by
  have e0 : (0 : Int32).toInt = 0 := rfl
  have e4 : (4 : Int32).toInt = 4 := rfl
  have e3 : (3 : Int32).toInt = 3 := rfl
  unfold f_X8_isKeeper bI
  simp only [ltI, leI, e0, e3, e4]
  by_cases h1 : v.toInt < 0
  · rw [if_pos h1, if_neg (by omega)]
  · rw [if_neg h1]
    by_cases h2 : 4 ≤ v.toInt
    · rw [if_pos h2, if_neg (by omega)]
    · rw [if_neg h2, if_pos (by omega)]
theorem m_isKeeper {v : Int32} {σ : om_S} : f_X9_isKeeper v σ = some (bI (0 ≤ v ∧ v ≤ 3), σ) := by
  unfold f_X9_isKeeper
  rw [m_in, call_s, if_pos (of_eq_true (bI_or _))]
theorem T1 : IsT 1 := Or.inl rfl
theorem tk1m {i : Nat} (h : i < 9) : om_kc (1 + 10 + i) = 1 := (tm T1 h).2
theorem ch1 {i f : Nat} {v : Int32} {σ : om_S} (hi : i < 9) (hf : f < 5) : f_X9_change1 90 ((8 + 5 * nI i) + nI f) v σ = some (σ 91 (8 + 5 * i + f), om_w σ 91 (8 + 5 * i + f) v) := by
  rw [ix_mem]
  exact m_change1 (by omega)
theorem op_blows (a : Int32) : Sim (fun σ => f_X8_blows 0 a σ) (fun σ => f_X9_blows 90 a σ) := by
  refine sim_of fun s σ w hx => ?_
  obtain ⟨V, Z, C0, C1, T, W, K, g, E, Tr, Sh⟩ := s
  by_cases h : (0 : Int32) ≤ a ∧ a ≤ 9
  · obtain ⟨j, hj, rfl⟩ := win (n := 9) h (by decide) rfl (by decide)
    refine ⟨nI (V 0), (upV V 0 j, Z, C0, C1, T, W, K, g, E, Tr, Sh), w.setV (w.1.1.setN hj) (by rw [upV_o (by omega)]; exact w.1.2.1), ⟨_, ?_, hx.setN (f := 4) (v := j) (by omega), fun q hq => om_w_off (by omega)⟩, fun τ hm => ⟨_, ?_, hm.setN (k := 0) (v := j) (by omega) (by omega) (by omega) (by omega), fun q hq => om_w_off (by omega)⟩⟩
    · show f_X8_blows 0 (nI j) σ = _
      unfold f_X8_blows
      simp only [kX, rX, om_ref_s, if_true, x_isWithin, call_s, let_s]
      rw [bI_y h, hx.1.1.2.1]
    · show f_X9_blows 90 (nI j) τ = _
      unfold f_X9_blows
      simp only [kM, if_true, m_in, call_s]
      rw [bI_y h, show f_X9_change1 90 0 (nI j) τ = _ from m_change1 (k := 0) (by omega), call_s, hm.1.1.2.1]
  · refine ⟨rfE 1, (V, Z, C0, C1, T, W, K, g, upE E 1, Tr, Sh), w, XO.no0 hx (k := 1) (by omega) ?_, fun τ hm => MO.no0 hm (k := 1) (by omega) ?_⟩
    · show f_X8_blows 0 a σ = _
      unfold f_X8_blows
      simp only [kX, rX, om_ref_s, if_true, x_isWithin, call_s, let_s]
      rw [bI_n h]
      exact Eq.refl _
    · show f_X9_blows 90 a τ = _
      unfold f_X9_blows
      simp only [kM, if_true, m_in, call_s]
      rw [bI_n h]
      exact Eq.refl _
theorem om_nul_n {β : Type} {c : Nat} {A : Option β} {κ : Nat → Option β} : om_nul none c A κ = A := by
  unfold om_nul
  exact Eq.refl _
theorem op_seed (a : Int32) : Sim (fun σ => f_X8_seed 0 a σ) (fun σ => f_X9_seed 90 a σ) := by
  refine sim_of fun s σ w hx => ?_
  obtain ⟨V, Z, C0, C1, T, W, K, g, E, Tr, Sh⟩ := s
  refine ⟨Z, (V, a, C0, C1, T, W, K, g, E, Tr, Sh), w, ⟨_, ?_, hx.setZ, fun q hq => om_w_off (by omega)⟩, fun τ hm => ⟨_, ?_, hm.setZ, fun q hq => om_w_off (by omega)⟩⟩
  · show f_X8_seed 0 a σ = _
    unfold f_X8_seed
    simp only [kX, rX, om_ref_s, if_true, let_s]
    rw [hx.1.1.2.2.2.2.1]
  · show f_X9_seed 90 a τ = _
    unfold f_X9_seed
    simp only [kM, if_true]
    rw [show f_X9_change1 90 3 a τ = _ from m_change1 (k := 3) (by omega), call_s, hm.1.1.2.2.2.2.1]
/-- the number of a memory: none, or one -/
theorem memc (V : Nat → Nat) (hV : WV V) (a : Int32) : (a < 0 ∨ nI (V 6) ≤ a) ∨ ∃ i, i < V 6 ∧ i < 9 ∧ a = nI i := by
  have h6 := hV.1
  rcases pk_ix a (n := V 6) (by omega) with h | h | ⟨i, h, e⟩
  · exact Or.inl (Or.inl h)
  · exact Or.inl (Or.inr h)
  · exact Or.inr ⟨i, h, by omega, e⟩
theorem op_fills (a v : Int32) : Sim (fun σ => f_X8_fills 0 a v σ) (fun σ => f_X9_fills 90 a v σ) := by
  refine sim_of fun s σ w hx => ?_
  obtain ⟨V, Z, C0, C1, T, W, K, g, E, Tr, Sh⟩ := s
  have h6 := w.1.1.1
  rcases memc V w.1.1 a with hn | ⟨i, hi, hi9, rfl⟩
  · refine ⟨rfE 1, (V, Z, C0, C1, T, W, K, g, upE E 1, Tr, Sh), w, XO.no0 hx (k := 1) (by omega) ?_, fun τ hm => MO.no0 hm (k := 1) (by omega) ?_⟩
    · show f_X8_fills 0 a v σ = _
      unfold f_X8_fills f_X8_fills_b23
      simp only [kX, rX, om_ref_s, if_true, call_s, let_s, om_nul_s, om_nul_n, x_atNo T1 hx.1.1.1 hn]
      exact Eq.refl _
    · show f_X9_fills 90 a v τ = _
      unfold f_X9_fills f_X9_fills_b34
      simp only [kM, rM, aM, om_ref_s, if_true, call_s, let_s, isMem_n h6 hm.1.1 hn]
      exact Eq.refl _
  · have hat := x_atI T1 hx.1.1.1 hi h6
    by_cases h : (0 : Int32) ≤ v ∧ v ≤ 99
    · obtain ⟨j, hj, rfl⟩ := win (n := 99) h (by decide) rfl (by decide)
      refine ⟨nI (V (8 + 5 * i + 3)), (upV V (8 + 5 * i + 3) j, Z, C0, C1, T, W, K, g, E, Tr, Sh), w.setV (w.1.1.setF (by omega) hj) (by rw [upV_o (by omega)]; exact w.1.2.1), ⟨_, ?_, hx.setM (f := 3) (v := j) hi9 (by omega), fun q hq => om_w_off (by omega)⟩, fun τ hm => ⟨_, ?_, hm.setM (f := 3) (v := j) hi9 (by omega), fun q hq => om_w_off (by omega)⟩⟩
      · show f_X8_fills 0 (nI i) (nI j) σ = _
        unfold f_X8_fills
        simp only [kX, rX, om_ref_s, if_true, call_s, let_s, om_nul_s, hat, tk1m hi9, x_isWithin]
        rw [bI_y h, hx.1.1.2.2.2.2.2.1 i 3 hi9 (by omega)]
      · have hc := ch1 (v := nI j) (σ := τ) hi9 (show 3 < 5 by omega)
        show f_X9_fills 90 (nI i) (nI j) τ = _
        unfold f_X9_fills
        simp only [kM, if_true, call_s, isMem_y h6 hm.1.1 hi, m_in, n10, if_false]
        rw [bI_y h, show (3 : Int32) = nI 3 from rfl, hc, call_s, hm.1.1.2.2.2.2.2.1 i 3 hi9 (by omega)]
    · refine ⟨rfE 1, (V, Z, C0, C1, T, W, K, g, upE E 1, Tr, Sh), w, XO.no0 hx (k := 1) (by omega) ?_, fun τ hm => MO.no0 hm (k := 1) (by omega) ?_⟩
      · show f_X8_fills 0 (nI i) v σ = _
        unfold f_X8_fills f_X8_fills_b23
        simp only [kX, rX, om_ref_s, if_true, call_s, let_s, om_nul_s, om_nul_n, hat, tk1m hi9, x_isWithin]
        rw [bI_n h]
        exact Eq.refl _
      · show f_X9_fills 90 (nI i) v τ = _
        unfold f_X9_fills f_X9_fills_b34
        simp only [kM, rM, aM, om_ref_s, if_true, call_s, let_s, isMem_y h6 hm.1.1 hi, m_in, n10, if_false]
        rw [bI_n h]
        exact Eq.refl _
theorem op_dear (a v : Int32) : Sim (fun σ => f_X8_dear 0 a v σ) (fun σ => f_X9_dear 90 a v σ) := by
  refine sim_of fun s σ w hx => ?_
  obtain ⟨V, Z, C0, C1, T, W, K, g, E, Tr, Sh⟩ := s
  have h6 := w.1.1.1
  rcases memc V w.1.1 a with hn | ⟨i, hi, hi9, rfl⟩
  · refine ⟨rfE 1, (V, Z, C0, C1, T, W, K, g, upE E 1, Tr, Sh), w, XO.no0 hx (k := 1) (by omega) ?_, fun τ hm => MO.no0 hm (k := 1) (by omega) ?_⟩
    · show f_X8_dear 0 a v σ = _
      unfold f_X8_dear f_X8_dear_b23
      simp only [kX, rX, om_ref_s, if_true, call_s, let_s, om_nul_s, om_nul_n, x_atNo T1 hx.1.1.1 hn]
      exact Eq.refl _
    · show f_X9_dear 90 a v τ = _
      unfold f_X9_dear f_X9_dear_b34
      simp only [kM, rM, aM, om_ref_s, if_true, call_s, let_s, isMem_n h6 hm.1.1 hn]
      exact Eq.refl _
  · have hat := x_atI T1 hx.1.1.1 hi h6
    by_cases h : (0 : Int32) ≤ v ∧ v ≤ 99
    · obtain ⟨j, hj, rfl⟩ := win (n := 99) h (by decide) rfl (by decide)
      refine ⟨nI (V (8 + 5 * i + 4)), (upV V (8 + 5 * i + 4) j, Z, C0, C1, T, W, K, g, E, Tr, Sh), w.setV (w.1.1.setF (by omega) hj) (by rw [upV_o (by omega)]; exact w.1.2.1), ⟨_, ?_, hx.setM (f := 4) (v := j) hi9 (by omega), fun q hq => om_w_off (by omega)⟩, fun τ hm => ⟨_, ?_, hm.setM (f := 4) (v := j) hi9 (by omega), fun q hq => om_w_off (by omega)⟩⟩
      · show f_X8_dear 0 (nI i) (nI j) σ = _
        unfold f_X8_dear
        simp only [kX, rX, om_ref_s, if_true, call_s, let_s, om_nul_s, hat, tk1m hi9, x_isWithin]
        rw [bI_y h, hx.1.1.2.2.2.2.2.1 i 4 hi9 (by omega)]
      · have hc := ch1 (v := nI j) (σ := τ) hi9 (show 4 < 5 by omega)
        show f_X9_dear 90 (nI i) (nI j) τ = _
        unfold f_X9_dear
        simp only [kM, if_true, call_s, isMem_y h6 hm.1.1 hi, m_in, n10, if_false]
        rw [bI_y h, show (4 : Int32) = nI 4 from rfl, hc, call_s, hm.1.1.2.2.2.2.2.1 i 4 hi9 (by omega)]
    · refine ⟨rfE 1, (V, Z, C0, C1, T, W, K, g, upE E 1, Tr, Sh), w, XO.no0 hx (k := 1) (by omega) ?_, fun τ hm => MO.no0 hm (k := 1) (by omega) ?_⟩
      · show f_X8_dear 0 (nI i) v σ = _
        unfold f_X8_dear f_X8_dear_b23
        simp only [kX, rX, om_ref_s, if_true, call_s, let_s, om_nul_s, om_nul_n, hat, tk1m hi9, x_isWithin]
        rw [bI_n h]
        exact Eq.refl _
      · show f_X9_dear 90 (nI i) v τ = _
        unfold f_X9_dear f_X9_dear_b34
        simp only [kM, rM, aM, om_ref_s, if_true, call_s, let_s, isMem_y h6 hm.1.1 hi, m_in, n10, if_false]
        rw [bI_n h]
        exact Eq.refl _
