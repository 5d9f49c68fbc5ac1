/-! ===== voice, feed, untell ===== -/
theorem HX.tr {V : Nat → Nat} {Z : Int32} {C0 C1 T W : List Int32} {K : Option oA_K} {g : Int32} {E : Nat → Int32} {Tr : List Int32} {Sh : Nat → Int32 × Nat × (Nat → Int32)} {Tr' : List Int32} {σ σ' : om_S} (h : HX (V, Z, C0, C1, T, W, K, g, E, Tr, Sh) σ) (hT : XRow 78 79 Tr' σ') (hf : ∀ q, q ≠ 77 → q ≠ 78 → q ≠ 79 → σ' q = σ q) : HX (V, Z, C0, C1, T, W, K, g, E, Tr', Sh) σ' := by
  obtain ⟨h1, h2, h3, h4, h5, h6, h7⟩ := h
  have f : ∀ q, q < 77 ∨ 80 ≤ q → σ' q = σ q := fun q hq => hf q (by omega) (by omega) (by omega)
  refine ⟨h1.congr (fun q a b _ _ => f q (by omega)) (f _ (by omega)) (f _ (by omega)) (f _ (by omega)) (f _ (by omega)), fun t ht => (h2 t ht).congr (fun q a b _ _ => f q (by omega)) (f _ (by omega)) (f _ (by omega)) (f _ (by omega)) (f _ (by omega)), ?_, fun j hj => ?_, hT, fun j hj => (h6 j hj).congr (f _ (by omega)) (f _ (by omega)), h7.congr (fun q hq => f q (by omega))⟩
  · rw [f 0 (by omega)]
    exact h3
  · rw [f 81 (by omega)]
    exact h4 j hj
theorem HM.tr {V : Nat → Nat} {Z : Int32} {C0 C1 T W : List Int32} {K : Option oA_K} {g : Int32} {E : Nat → Int32} {Tr : List Int32} {Sh : Nat → Int32 × Nat × (Nat → Int32)} {Tr' : List Int32} {σ σ' : om_S} (h : HM (V, Z, C0, C1, T, W, K, g, E, Tr, Sh) σ) (hT : σ' 90 15 = nI Tr'.length ∧ ∀ j, j < Tr'.length → σ' 100 j = Tr'.getD j 0) (f : ∀ q, q ≠ 90 → q ≠ 100 → σ' q = σ q) (g9 : ∀ j, j ≠ 15 → j ≠ 17 → j ≠ 18 → σ' 90 j = σ 90 j) : HM (V, Z, C0, C1, T, W, K, g, E, Tr', Sh) σ' := by
  obtain ⟨h1, h2, h3, h4, h5, h6, h7⟩ := h
  refine ⟨h1.congr (f _ (by omega) (by omega)), fun t ht => (h2 t ht).congr (f _ (by omega) (by omega)), ?_, fun j hj => ?_, hT, fun j hj => (h6 j hj).congr (f _ (by omega) (by omega)) (f _ (by omega) (by omega)) (f _ (by omega) (by omega)), ?_, ?_, ?_⟩
  · rw [g9 3 (by omega) (by omega) (by omega)]
    exact h3
  · rw [f 94 (by omega) (by omega)]
    exact h4 j hj
  · rw [g9 5 (by omega) (by omega) (by omega)]
    exact h7.1
  · rw [f 98 (by omega) (by omega)]
    exact h7.2.1
  · rw [f 99 (by omega) (by omega)]
    exact h7.2.2
theorem WF.tr {V : Nat → Nat} {Z : Int32} {C0 C1 T W : List Int32} {K : Option oA_K} {g : Int32} {E : Nat → Int32} {Tr : List Int32} {Sh : Nat → Int32 × Nat × (Nat → Int32)} {Tr' : List Int32} (w : WF (V, Z, C0, C1, T, W, K, g, E, Tr, Sh)) (h : Tr'.length ≤ 30) : WF (V, Z, C0, C1, T, W, K, g, E, Tr', Sh) := ⟨w.1, w.2.1, w.2.2.1, h, w.2.2.2.2⟩
def voV (p kd : Nat) (m sp x : Int32) : Int32 × List Int32 := if p = 0 then glV kd sp x else if p = 1 then tuV kd m sp x else if p = 2 then guV kd m sp x else paV kd m sp x
def voF (p : Nat) (m sp : Int32) : Int32 := if p = 3 then pfl m sp else 0
theorem voV_len (p kd : Nat) (m sp x : Int32) : (voV p kd m sp x).2.length ≤ 30 := by
  have h1 := glV_len kd sp x
  have h2 := tuV_len kd m sp x
  have h3 := guV_len kd m sp x
  have h4 := paV_len kd m sp x
  unfold voV
  repeat' split
  all_goals omega
theorem x_speak {c p kd : Nat} {m sp x : Int32} {σ : om_S} (hp : p ≤ 3) (hk : kd ≤ 6) (hc : om_kc c = 1) (hlt : c < 70) (h0 : σ c 0 = nI kd) (h1 : σ c 1 = m) : ∃ σ', f_X7_speak 77 c sp (nI p) x σ = some ((voV p kd m sp x).1, σ') ∧ XVb kd m sp (voF p m sp) σ (voV p kd m sp x).2 σ' := by
  have hS : XVb kd m sp 0 σ [] (om_w (om_w (om_w (om_w (om_w σ 78 1 0) 77 1 (nI kd)) 77 2 m) 77 3 sp) 77 4 0) := by
    refine ⟨(XRow.nil (r := 78) (v := 79) (σ := σ)).congr (by rw [om_w_off (by omega), om_w_off (by omega), om_w_off (by omega), om_w_off (by omega)]) (by rw [om_w_off (by omega), om_w_off (by omega), om_w_off (by omega), om_w_off (by omega)]), ?_, ?_, ?_, om_w_s, fun q a b d => by rw [om_w_off a, om_w_off a, om_w_off a, om_w_off a, om_w_off b]⟩
    · rw [om_w_j (by omega), om_w_j (by omega), om_w_j (by omega), om_w_s]
    · rw [om_w_j (by omega), om_w_j (by omega), om_w_s]
    · rw [om_w_j (by omega), om_w_s]
  have hne1 : c ≠ 78 := by omega
  have hne2 : c ≠ 77 := by omega
  unfold f_X7_speak
  simp only [kc_77, hc, if_true, rf_77_0, kc_78, om_ref_s, x_clear kc_78, do_s, let_s, om_w_off hne1, om_w_off hne2, h0, h1]
  generalize (om_w (om_w (om_w (om_w (om_w σ 78 1 0) 77 1 (nI kd)) 77 2 m) 77 3 sp) 77 4 0) = S at hS ⊢
  rcases (show p = 0 ∨ p = 1 ∨ p = 2 ∨ p = 3 by omega) with rfl | rfl | rfl | rfl
  · obtain ⟨σ1, a1, b1⟩ := x_glow (x := x) hk (by decide) hS
    refine ⟨σ1, ?_, b1⟩
    rw [if_pos (by decide), a1, call_s]
    exact Eq.refl _
  · obtain ⟨σ1, a1, b1⟩ := x_turn (x := x) hk (by decide) hS
    refine ⟨σ1, ?_, b1⟩
    rw [if_neg (by decide), if_pos (by decide), a1, call_s]
    exact Eq.refl _
  · obtain ⟨σ1, a1, b1⟩ := x_gutter (x := x) hk (by decide) hS
    refine ⟨σ1, ?_, b1⟩
    rw [if_neg (by decide), if_neg (by decide), if_pos (by decide), a1, call_s]
    exact Eq.refl _
  · obtain ⟨σ1, a1, b1⟩ := x_part (x := x) hk (by decide) hS
    refine ⟨σ1, ?_, b1⟩
    rw [if_neg (by decide), if_neg (by decide), if_neg (by decide), a1, call_s]
    exact Eq.refl _
theorem m_speak {i p kd : Nat} {m x : Int32} {σ : om_S} (hp : p ≤ 3) (hk : kd ≤ 6) (hi : i < 9) (h0 : σ 91 (8 + 5 * i) = nI kd) (h1 : σ 91 (8 + 5 * i + 1) = m) : ∃ σ', MVb kd i m (voF p m (nI i)) σ (voV p kd m (nI i) x).2 σ' ∧ (om_call (f_X9_kindNow 90 (om_w (om_w (om_w σ 90 15 0) 90 17 (nI i)) 90 18 0)) fun (r3o : Int32) (σ6o : om_S) => if nI p = 0 then (om_call (f_X9_glowsAs 90 r3o x σ6o) fun (r4o : Int32) (σ7o : om_S) => f_X9_voice_b95 90 r4o σ7o) else (if nI p = (1 : Int32) then (om_call (f_X9_turnsAs 90 r3o x σ6o) fun (r5o : Int32) (σ8o : om_S) => f_X9_voice_b95 90 r5o σ8o) else (if nI p = (2 : Int32) then (om_call (f_X9_guttersAs 90 r3o x σ6o) fun (r6o : Int32) (σ9o : om_S) => f_X9_voice_b95 90 r6o σ9o) else (om_call (f_X9_partsAs 90 r3o x σ6o) fun (r7o : Int32) (σ10o : om_S) => f_X9_voice_b95 90 r7o σ10o)))) = f_X9_voice_b95 90 (voV p kd m (nI i) x).1 σ' := by
  have hS : MVb kd i m 0 σ [] (om_w (om_w (om_w σ 90 15 0) 90 17 (nI i)) 90 18 0) := by
    refine ⟨⟨by rw [om_w_j (by omega), om_w_j (by omega), om_w_s]; rfl, fun j hj => by cases hj⟩, by rw [om_w_j (by omega), om_w_s], om_w_s, ?_, ?_, fun q a b => by rw [om_w_off a, om_w_off a, om_w_off a], fun j a b d => by rw [om_w_j d, om_w_j b, om_w_j a]⟩
    · rw [om_w_k (by omega), om_w_k (by omega), om_w_k (by omega)]
      exact h0
    · rw [om_w_k (by omega), om_w_k (by omega), om_w_k (by omega)]
      exact h1
  generalize (om_w (om_w (om_w σ 90 15 0) 90 17 (nI i)) 90 18 0) = S at hS ⊢
  rw [m_kindNow hi hS, call_s]
  rcases (show p = 0 ∨ p = 1 ∨ p = 2 ∨ p = 3 by omega) with rfl | rfl | rfl | rfl
  · obtain ⟨σ1, a1, b1⟩ := m_glow (d := 0) (x := x) hk hi (by decide) hS
    refine ⟨σ1, b1, ?_⟩
    rw [if_pos (by decide), a1, call_s]
    exact Eq.refl _
  · obtain ⟨σ1, a1, b1⟩ := m_turn (d := 0) (x := x) hk hi (by decide) hS
    refine ⟨σ1, b1, ?_⟩
    rw [if_neg (by decide), if_pos (by decide), a1, call_s]
    exact Eq.refl _
  · obtain ⟨σ1, a1, b1⟩ := m_gutter (d := 0) (x := x) hk hi (by decide) hS
    refine ⟨σ1, b1, ?_⟩
    rw [if_neg (by decide), if_neg (by decide), if_pos (by decide), a1, call_s]
    exact Eq.refl _
  · obtain ⟨σ1, a1, b1⟩ := m_part (d := 0) (x := x) hk hi (by decide) hS
    refine ⟨σ1, b1, ?_⟩
    rw [if_neg (by decide), if_neg (by decide), if_neg (by decide), a1, call_s]
    exact Eq.refl _
theorem op_voice (a v x : Int32) : Sim (fun σ => f_X8_voice 0 a v x σ) (fun σ => f_X9_voice 90 a v x σ) := by
  refine sim_of fun s σ w hx => ?_
  obtain ⟨V, Z, C0, C1, T, W, K, g, E, Tr, Sh⟩ := s
  have h6 : V 6 ≤ 9 := w.1.1.1
  rcases memc V w.1.1 a with hn | ⟨i, hi, hi9, rfl⟩
  · refine ⟨rfE 1, (V, Z, C0, C1, T, W, K, g, upE E 1, Tr, Sh), w, XO.no0 hx (k := 1) (by omega) ?_, fun τ hm => MO.no0 hm (k := 1) (by omega) ?_⟩
    · show f_X8_voice 0 a v x σ = _
      unfold f_X8_voice f_X8_voice_b24
      simp only [kX, rX, om_ref_s, if_true, call_s, let_s, om_nul_s, om_nul_n, x_atNo T1 hx.1.1.1 hn]
      exact Eq.refl _
    · show f_X9_voice 90 a v x τ = _
      unfold f_X9_voice f_X9_voice_b17
      simp only [kM, rM, aM, om_ref_s, if_true, call_s, let_s, isMem_n h6 hm.1.1 hn]
      exact Eq.refl _
  · have hat := x_atI T1 hx.1.1.1 hi h6
    have hk : V (8 + 5 * i) ≤ 6 := (w.1.1.2.2.2.2 i hi9).1
    by_cases h : (0 : Int32) ≤ v ∧ v ≤ 3
    · obtain ⟨p, hp, rfl⟩ := win (n := 3) h (by decide) rfl (by decide)
      obtain ⟨σ1, a1, b1⟩ := x_speak (p := p) (x := x) (kd := V (8 + 5 * i)) (m := nI (V (8 + 5 * i + 1))) (sp := nI i) hp hk (tk1m hi9) (by omega) (hx.1.1.2.2.2.2.2.1 i 0 hi9 (by omega)) (hx.1.1.2.2.2.2.2.1 i 1 hi9 (by omega))
      have hx1 := hx.tr b1.1 b1.2.2.2.2.2
      have hge : ∀ q, 90 ≤ q → σ1 q = σ q := fun q hq => b1.2.2.2.2.2 q (by omega) (by omega) (by omega)
      have hlen := voV_len p (V (8 + 5 * i)) (nI (V (8 + 5 * i + 1))) (nI i) x
      have hxs : f_X8_voice 0 (nI i) (nI p) x σ = if voF p (nI (V (8 + 5 * i + 1))) (nI i) = 0 then some ((voV p (V (8 + 5 * i)) (nI (V (8 + 5 * i + 1))) (nI i) x).1, σ1) else om_call (f_X8_refuse 0 6 σ1) fun r s => some (r, s) := by
        unfold f_X8_voice
        simp only [kX, rX, om_ref_s, if_true, call_s, om_nul_s, hat, tk1m hi9, x_isWithin, a1, b1.2.2.2.2.1]
        rw [bI_y h]
      have hms : ∀ τ, HM (V, Z, C0, C1, T, W, K, g, E, Tr, Sh) τ → ∃ τ1, f_X9_voice 90 (nI i) (nI p) x τ = (if voF p (nI (V (8 + 5 * i + 1))) (nI i) = 0 then some ((voV p (V (8 + 5 * i)) (nI (V (8 + 5 * i + 1))) (nI i) x).1, τ1) else om_call (f_X9_error 90 6 τ1) fun r s => some (r, s)) ∧ HM (V, Z, C0, C1, T, W, K, g, E, (voV p (V (8 + 5 * i)) (nI (V (8 + 5 * i + 1))) (nI i) x).2, Sh) τ1 ∧ ∀ q, q < 90 → τ1 q = τ q := by
        intro τ hm
        obtain ⟨τ1, c1, c2⟩ := m_speak (p := p) (x := x) (kd := V (8 + 5 * i)) (m := nI (V (8 + 5 * i + 1))) hp hk hi9 (hm.1.1.2.2.2.2.2.1 i 0 hi9 (by omega)) (hm.1.1.2.2.2.2.2.1 i 1 hi9 (by omega))
        refine ⟨τ1, ?_, hm.tr c1.1 c1.2.2.2.2.2.1 c1.2.2.2.2.2.2, fun q hq => c1.2.2.2.2.2.1 q (by omega) (by omega)⟩
        unfold f_X9_voice
        simp only [kM, if_true, call_s, isMem_y h6 hm.1.1 hi, m_in, n10, if_false, let_s]
        rw [bI_y h, c2]
        unfold f_X9_voice_b95
        rw [c1.2.2.1]
      by_cases hfl : voF p (nI (V (8 + 5 * i + 1))) (nI i) = 0
      · refine ⟨(voV p (V (8 + 5 * i)) (nI (V (8 + 5 * i + 1))) (nI i) x).1, (V, Z, C0, C1, T, W, K, g, E, (voV p (V (8 + 5 * i)) (nI (V (8 + 5 * i + 1))) (nI i) x).2, Sh), w.tr hlen, ⟨σ1, hxs.trans (if_pos hfl), hx1, hge⟩, fun τ hm => ?_⟩
        obtain ⟨τ1, c1, c2, c3⟩ := hms τ hm
        exact ⟨τ1, c1.trans (if_pos hfl), c2, c3⟩
      · refine ⟨rfE 6, (V, Z, C0, C1, T, W, K, g, upE E 6, (voV p (V (8 + 5 * i)) (nI (V (8 + 5 * i + 1))) (nI i) x).2, Sh), w.tr hlen, XO.no hx1 (k := 6) (by omega) hge (hxs.trans (if_neg hfl)), fun τ hm => ?_⟩
        obtain ⟨τ1, c1, c2, c3⟩ := hms τ hm
        exact MO.no c2 (k := 6) (by omega) c3 (c1.trans (if_neg hfl))
    · refine ⟨rfE 1, (V, Z, C0, C1, T, W, K, g, upE E 1, Tr, Sh), w, XO.no0 hx (k := 1) (by omega) ?_, fun τ hm => MO.no0 hm (k := 1) (by omega) ?_⟩
      · show f_X8_voice 0 (nI i) v x σ = _
        unfold f_X8_voice f_X8_voice_b24
        simp only [kX, rX, om_ref_s, if_true, call_s, let_s, om_nul_s, om_nul_n, hat, tk1m hi9, x_isWithin]
        rw [bI_n h]
        exact Eq.refl _
      · show f_X9_voice 90 (nI i) v x τ = _
        unfold f_X9_voice f_X9_voice_b17
        simp only [kM, rM, aM, om_ref_s, if_true, call_s, let_s, isMem_y h6 hm.1.1 hi, m_in, n10, if_false]
        rw [bI_n h]
        exact Eq.refl _
theorem fbk (w : Int64) (k : Nat) (s : UInt64) (d : Int64) (hk : k = 0 ∨ k = 8 ∨ k = 16 ∨ k = 24 ∨ k = 32 ∨ k = 40 ∨ k = 48 ∨ k = 56) (hs : s.toNat % 64 = k) (hd : (d.toBitVec.smod 64).toNat = k) : ((w.toUInt64 >>> s).toInt64.toInt32 &&& 255) = ((w >>> d) &&& (255 : Int64)).toInt32 := by
  apply Int32.toBitVec_inj.mp
  apply BitVec.eq_of_toNat_eq
  have e1 : ((w.toUInt64 >>> s).toInt64.toInt32 &&& 255).toBitVec.toNat = (w.toUInt64 >>> s).toNat % 2 ^ 32 % 2 ^ 8 := by
    show ((w.toUInt64 >>> s).toBitVec.signExtend 32 &&& 255#32).toNat = _
    rw [BitVec.signExtend_eq_setWidth_of_le _ (by decide), BitVec.toNat_and, BitVec.toNat_setWidth, show (255#32).toNat = 2 ^ 8 - 1 from rfl, Nat.and_two_pow_sub_one_eq_mod]
    rfl
  have e2 : ((w >>> d) &&& (255 : Int64)).toInt32.toBitVec.toNat = (w.toBitVec.sshiftRight k).toNat % 2 ^ 8 % 2 ^ 32 := by
    show ((w.toBitVec.sshiftRight (d.toBitVec.smod 64).toNat &&& 255#64).signExtend 32).toNat = _
    rw [BitVec.signExtend_eq_setWidth_of_le _ (by decide), hd, BitVec.toNat_setWidth, BitVec.toNat_and, show (255#64).toNat = 2 ^ 8 - 1 from rfl, Nat.and_two_pow_sub_one_eq_mod]
  have e3 : (w.toUInt64 >>> s).toNat = w.toBitVec.toNat / 2 ^ k := by
    rw [UInt64.toNat_shiftRight, hs, Nat.shiftRight_eq_div_pow]
    rfl
  have e4 : (w.toBitVec.sshiftRight k).toInt = w.toBitVec.toInt / 2 ^ k := by
    rw [BitVec.toInt_sshiftRight, Int.shiftRight_eq_div_pow]
    norm_cast
  rw [e1, e2, e3]
  rw [BitVec.toInt_eq_toNat_cond, BitVec.toInt_eq_toNat_cond] at e4
  have h1 : w.toBitVec.toNat < 2 ^ 64 := w.toBitVec.isLt
  have h2 : (w.toBitVec.sshiftRight k).toNat < 2 ^ 64 := BitVec.isLt _
  generalize w.toBitVec.toNat = n at e4 h1 ⊢
  generalize (w.toBitVec.sshiftRight k).toNat = b at e4 h2 ⊢
  rcases hk with rfl | rfl | rfl | rfl | rfl | rfl | rfl | rfl
  all_goals
    revert e4
    split <;> split <;> intro e4 <;> omega
