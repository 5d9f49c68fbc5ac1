/-! ===== memories made and asked ===== -/
theorem upV_congr {V V' : Nat → Nat} {k v j : Nat} (h : V j = V' j) : upV V k v j = upV V' k v j := by
  unfold upV
  by_cases e : j = k
  · rw [if_pos e, if_pos e]
  · rw [if_neg e, if_neg e, h]
theorem x_isFull {V : Nat → Nat} {σ : om_S} (h6 : V 6 ≤ 9) (h : σ 1 3 = nI (V 6)) : f_X6_isFull 1 σ = some (bI (V 6 = 9), σ) := by
  unfold f_X6_isFull
  simp only [kX, tr0 T1, om_ref_s, tk1 T1, ta1 T1, if_true, h]
  have e9 : Int32.ofNat 9 = nI 9 := rfl
  rw [e9]
  by_cases e : V 6 = 9
  · rw [if_neg (nI_nlt (by omega) (by omega)), bI_t e]
  · rw [if_pos (nI_lt (by omega) (by omega)), bI_f e]
def addV (V : Nat → Nat) (a b c d e : Nat) (i : Nat) : Nat → Nat := upV (upV (upV (upV (upV V (8 + 5 * i + 0) a) (8 + 5 * i + 1) b) (8 + 5 * i + 2) c) (8 + 5 * i + 3) d) (8 + 5 * i + 4) e
theorem addV_comm {V : Nat → Nat} {a b c d e i n : Nat} : upV (addV V a b c d e i) 6 n = addV (upV V 6 n) a b c d e i := by
  funext j
  unfold addV
  by_cases h : j = 6
  · rw [h, upV_s, upV_o (by omega), upV_o (by omega), upV_o (by omega), upV_o (by omega), upV_o (by omega), upV_s]
  · rw [upV_o h]
    exact upV_congr (upV_congr (upV_congr (upV_congr (upV_congr (upV_o h).symm))))
theorem WV.add {V : Nat → Nat} (hV : WV V) {a b c d e i : Nat} (h1 : a ≤ 6) (h2 : b ≤ 9) (h3 : c ≤ 15) (h4 : d ≤ 99) (h5 : e ≤ 99) : WV (addV V a b c d e i) :=
  ((((hV.setF (f := 0) (by omega) h1).setF (f := 1) (by omega) h2).setF (f := 2) (by omega) h3).setF (f := 3) (by omega) h4).setF (f := 4) (by omega) h5
theorem op_memory (a b c : Int32) : Sim (fun σ => f_X8_memory 0 a b c σ) (fun σ => f_X9_memory 90 a b c σ) := by
  refine sim_of fun s σ w hx => ?_
  obtain ⟨V, Z, C0, C1, T, W, K, g, E, Tr, Sh⟩ := s
  have h6 : V 6 ≤ 9 := w.1.1.1
  by_cases ga : (0 : Int32) ≤ a ∧ a ≤ 69
  · by_cases gb : (1 : Int32) ≤ b ∧ b ≤ 15
    · by_cases gc : (0 : Int32) ≤ c ∧ c ≤ 9999
      · by_cases e9 : V 6 = 9
        · refine ⟨rfE 4, (V, Z, C0, C1, T, W, K, g, upE E 4, Tr, Sh), w, XO.no0 hx (k := 4) (by omega) ?_, fun τ hm => MO.no0 hm (k := 4) (by omega) ?_⟩
          · show f_X8_memory 0 a b c σ = _
            unfold f_X8_memory 
            simp only [kX, rX, om_ref_s, if_true, call_s, let_s, om_nul_s, om_nul_n, x_isKindN, x_isWithin, x_isFull h6 hx.1.1.1]
            rw [bI_y ga, bI_y gb, bI_y gc, bI_y e9]
            exact Eq.refl _
          · show f_X9_memory 90 a b c τ = _
            unfold f_X9_memory 
            simp only [kM, rM, aM, om_ref_s, if_true, call_s, let_s, m_isKind, m_in, in6_387, cl6, hm.1.1.1]
            rw [bI_y ga, bI_y gb, bI_y gc, if_pos (show nI (V 6) = 9 from congrArg nI e9)]
            exact Eq.refl _
        · obtain ⟨j, hj, rfl⟩ := win (n := 69) ga (by decide) rfl (by decide)
          obtain ⟨k, hk, rfl⟩ := win (n := 15) gb (by decide) rfl (by decide)
          obtain ⟨l, hl, rfl⟩ := win (n := 9999) gc (by decide) rfl (by decide)
          have hi9 : V 6 < 9 := by omega
          have hX1 := (((((hx.setN (f := 3) (v := V 6 + 1) (by omega)).setM (i := V 6) (f := 0) (v := j / 10) hi9 (by omega)).setM (i := V 6) (f := 1) (v := j % 10) hi9 (by omega)).setM (i := V 6) (f := 2) (v := k) hi9 (by omega)).setM (i := V 6) (f := 3) (v := l / 100) hi9 (by omega)).setM (i := V 6) (f := 4) (v := l % 100) hi9 (by omega)
          refine ⟨nI (V 6), (addV (upV V 6 (V 6 + 1)) (j / 10) (j % 10) k (l / 100) (l % 100) (V 6), Z, C0, C1, T, W, K, g, E, Tr, Sh), w.setV ((w.1.1.setC (by omega)).add (by omega) (by omega) (by omega) (by omega) (by omega)) ?_, ⟨_, ?_, hX1, fun q hq => ?_⟩, fun τ hm => ?_⟩
          · unfold addV
            rw [upV_o (by omega), upV_o (by omega), upV_o (by omega), upV_o (by omega), upV_o (by omega), upV_o (by omega)]
            exact w.1.2.1
          · have h1 : om_w σ 1 3 (nI (V 6 + 1)) 1 3 = nI (V 6 + 1) := om_w_s
            have hat := x_atI T1 h1 (show V 6 < V 6 + 1 by omega) (by omega)
            show f_X8_memory 0 (nI j) (nI k) (nI l) σ = _
            unfold f_X8_memory f_X6_add f_X6_add_b23
            simp only [kX, rX, om_ref_s, if_true, call_s, let_s, x_isKindN, x_isWithin, x_isFull h6 hx.1.1.1, hx.1.1.1, nI_1, hat, om_nul_s, tk1m hi9]
            rw [bI_y ga, bI_y gb, bI_y gc, bI_n e9, bI_n e9, call_s, rm10 (j := j) (by omega), dv10 (j := j) (by omega), rm100 (j := l) (by omega), dv100 (j := l) (by omega)]
          · rw [om_w_off (by omega), om_w_off (by omega), om_w_off (by omega), om_w_off (by omega), om_w_off (by omega), om_w_off (by omega)]
          · have hM1 := (((((hm.setM (i := V 6) (f := 0) (v := j / 10) hi9 (by omega)).setM (i := V 6) (f := 1) (v := j % 10) hi9 (by omega)).setM (i := V 6) (f := 2) (v := k) hi9 (by omega)).setM (i := V 6) (f := 3) (v := l / 100) hi9 (by omega)).setM (i := V 6) (f := 4) (v := l % 100) hi9 (by omega)).setN (k := 6) (v := V 6 + 1) (by omega) (by omega) (by omega) (by omega)
            have hM2 := hM1
            rw [show upV (upV (upV (upV (upV (upV V (8 + 5 * V 6 + 0) (j / 10)) (8 + 5 * V 6 + 1) (j % 10)) (8 + 5 * V 6 + 2) k) (8 + 5 * V 6 + 3) (l / 100)) (8 + 5 * V 6 + 4) (l % 100)) 6 (V 6 + 1) = _ from addV_comm] at hM2
            refine ⟨_, ?_, hM2, fun q hq => by rw [om_w_off (by omega), om_w_off (by omega), om_w_off (by omega), om_w_off (by omega), om_w_off (by omega), om_w_off (by omega)]⟩
            have l0 : ∀ (v : Int32) (s : om_S), f_X9_lays1 90 (nI (V 6)) 0 v s = some (om_w s 91 (8 + 5 * V 6 + 0) v) := fun v s => m_lays1 (f := 0) hi9 (by omega)
            have l1 : ∀ (v : Int32) (s : om_S), f_X9_lays1 90 (nI (V 6)) 1 v s = some (om_w s 91 (8 + 5 * V 6 + 1) v) := fun v s => m_lays1 (f := 1) hi9 (by omega)
            have l2 : ∀ (v : Int32) (s : om_S), f_X9_lays1 90 (nI (V 6)) 2 v s = some (om_w s 91 (8 + 5 * V 6 + 2) v) := fun v s => m_lays1 (f := 2) hi9 (by omega)
            have l3 : ∀ (v : Int32) (s : om_S), f_X9_lays1 90 (nI (V 6)) 3 v s = some (om_w s 91 (8 + 5 * V 6 + 3) v) := fun v s => m_lays1 (f := 3) hi9 (by omega)
            have l4 : ∀ (v : Int32) (s : om_S), f_X9_lays1 90 (nI (V 6)) 4 v s = some (om_w s 91 (8 + 5 * V 6 + 4) v) := fun v s => m_lays1 (f := 4) hi9 (by omega)
            show f_X9_memory 90 (nI j) (nI k) (nI l) τ = _
            unfold f_X9_memory
            simp only [kM, rM, aM, om_ref_s, if_true, call_s, let_s, m_isKind, m_in, in6_387, cl6, hm.1.1.1, do_s, l0, l1, l2, l3, l4]
            rw [bI_y ga, bI_y gb, bI_y gc, if_neg (show ¬ nI (V 6) = 9 from fun q => e9 ((nI_eq (b := 9) (by omega) (by omega)).mp q)), rm10 (j := j) (by omega), dv10 (j := j) (by omega), rm100 (j := l) (by omega), dv100 (j := l) (by omega), om_w_j (by omega), om_w_j (by omega), om_w_j (by omega), om_w_j (by omega), om_w_j (by omega), hm.1.1.1, nI_1]
      · refine ⟨rfE 1, (V, Z, C0, C1, T, W, K, g, upE E 1, Tr, Sh), w, XO.no0 hx (k := 1) (by omega) ?_, fun τ hm => MO.no0 hm (k := 1) (by omega) ?_⟩
        · show f_X8_memory 0 a b c σ = _
          unfold f_X8_memory f_X8_memory_b28
          simp only [kX, rX, om_ref_s, if_true, call_s, let_s, om_nul_s, om_nul_n, x_isKindN, x_isWithin]
          rw [bI_y ga, bI_y gb, bI_n gc]
          exact Eq.refl _
        · show f_X9_memory 90 a b c τ = _
          unfold f_X9_memory f_X9_memory_b28
          simp only [kM, rM, aM, om_ref_s, if_true, call_s, let_s, m_isKind, m_in]
          rw [bI_y ga, bI_y gb, bI_n gc]
          exact Eq.refl _
    · refine ⟨rfE 1, (V, Z, C0, C1, T, W, K, g, upE E 1, Tr, Sh), w, XO.no0 hx (k := 1) (by omega) ?_, fun τ hm => MO.no0 hm (k := 1) (by omega) ?_⟩
      · show f_X8_memory 0 a b c σ = _
        unfold f_X8_memory f_X8_memory_b28
        simp only [kX, rX, om_ref_s, if_true, call_s, let_s, om_nul_s, om_nul_n, x_isKindN, x_isWithin]
        rw [bI_y ga, bI_n gb]
        exact Eq.refl _
      · show f_X9_memory 90 a b c τ = _
        unfold f_X9_memory f_X9_memory_b28
        simp only [kM, rM, aM, om_ref_s, if_true, call_s, let_s, m_isKind, m_in]
        rw [bI_y ga, bI_n gb]
        exact Eq.refl _
  · refine ⟨rfE 1, (V, Z, C0, C1, T, W, K, g, upE E 1, Tr, Sh), w, XO.no0 hx (k := 1) (by omega) ?_, fun τ hm => MO.no0 hm (k := 1) (by omega) ?_⟩
    · show f_X8_memory 0 a b c σ = _
      unfold f_X8_memory f_X8_memory_b28
      simp only [kX, rX, om_ref_s, if_true, call_s, let_s, om_nul_s, om_nul_n, x_isKindN, x_isWithin]
      rw [bI_n ga]
      exact Eq.refl _
    · show f_X9_memory 90 a b c τ = _
      unfold f_X9_memory f_X9_memory_b28
      simp only [kM, rM, aM, om_ref_s, if_true, call_s, let_s, m_isKind, m_in]
      rw [bI_n ga]
      exact Eq.refl _
theorem c52 : ((5 : Int32) ≤ 0) = False := eq_false (by decide)
theorem its_f {i f : Nat} {σ : om_S} (hi : i < 9) (hf : f < 5) (n : Int32) (hn : n = nI f) : f_X9_its 90 (nI i) n σ = some (σ 91 (8 + 5 * i + f), σ) := by
  rw [hn]
  exact m_its hi hf
theorem op_memoryIs (a v : Int32) : Sim (fun σ => f_X8_memoryIs 0 a v σ) (fun σ => f_X9_memoryIs 90 a v σ) := by
  refine sim_of fun s σ w hx => ?_
  obtain ⟨V, Z, C0, C1, T, W, K, g, E, Tr, Sh⟩ := s
  have h6 : V 6 ≤ 9 := w.1.1.1
  rcases memc V w.1.1 a with hn | ⟨i, hi, hi9, rfl⟩
  · refine ⟨rfE 1, (V, Z, C0, C1, T, W, K, g, upE E 1, Tr, Sh), w, XO.no0 hx (k := 1) (by omega) ?_, fun τ hm => MO.no0 hm (k := 1) (by omega) ?_⟩
    · show f_X8_memoryIs 0 a v σ = _
      unfold f_X8_memoryIs 
      simp only [kX, rX, om_ref_s, if_true, call_s, let_s, om_nul_s, om_nul_n, x_atNo T1 hx.1.1.1 hn]
      exact Eq.refl _
    · show f_X9_memoryIs 90 a v τ = _
      unfold f_X9_memoryIs f_X9_memoryIs_b18
      simp only [kM, rM, aM, om_ref_s, if_true, call_s, let_s, isMem_n h6 hm.1.1 hn]
      exact Eq.refl _
  · have hat := x_atI T1 hx.1.1.1 hi h6
    have hw : V (8 + 5 * i + 2) ≤ 15 := (w.1.1.2.2.2.2 i hi9).2.2.1
    by_cases h : (0 : Int32) ≤ v ∧ v ≤ 6
    · obtain ⟨f, hf, rfl⟩ := win (n := 6) h (by decide) rfl (by decide)
      by_cases h5 : f < 5
      · refine ⟨nI (V (8 + 5 * i + f)), (V, Z, C0, C1, T, W, K, g, E, Tr, Sh), w, XO.id hx ?_, fun τ hm => MO.id hm ?_⟩
        · have e := hx.1.1.2.2.2.2.2.1 i f hi9 h5
          show f_X8_memoryIs 0 (nI i) (nI f) σ = _
          unfold f_X8_memoryIs
          simp only [kX, rX, om_ref_s, if_true, call_s, om_nul_s, hat, tk1m hi9]
          rcases (show f = 0 ∨ f = 1 ∨ f = 2 ∨ f = 3 ∨ f = 4 by omega) with rfl | rfl | rfl | rfl | rfl
          · rw [if_pos (by decide), e]
          · rw [if_neg (by decide), if_pos (by decide), e]
          · rw [if_neg (by decide), if_neg (by decide), if_pos (by decide), e]
          · rw [if_neg (by decide), if_neg (by decide), if_neg (by decide), if_pos (by decide), e]
          · rw [if_neg (by decide), if_neg (by decide), if_neg (by decide), if_neg (by decide), if_pos (by decide), e]
        · show f_X9_memoryIs 90 (nI i) (nI f) τ = _
          unfold f_X9_memoryIs
          simp only [kM, if_true, call_s, isMem_y h6 hm.1.1 hi, m_in, n10, if_false, m_its2 hi9, m_its hi9 h5]
          rw [bI_y h, if_neg (show ¬ (5 : Int32) ≤ nI f from nI_ge (a := f) (b := 5) h5 (by omega)), hm.1.1.2.2.2.2.2.1 i f hi9 h5]
      · by_cases e5 : f = 5
        · subst e5
          obtain ⟨σ', q1, q2⟩ := x_light T1 w.1.1 w.1.2.2.1 hx.1.1 hi9
          refine ⟨lightV V C0 i (V (8 + 5 * i + 2)), (V, Z, C0, C1, T, W, K, g, E, Tr, Sh), w, XO.scr hx (xscr.l hx (fun q a _ => q2 q a)) ?_, fun τ hm => ?_⟩
          · show f_X8_memoryIs 0 (nI i) (nI 5) σ = _
            unfold f_X8_memoryIs
            simp only [kX, rX, om_ref_s, if_true, call_s, om_nul_s, hat, tk1m hi9, q1]
            rw [if_neg (by decide), if_neg (by decide), if_neg (by decide), if_neg (by decide), if_neg (by decide), if_pos (by decide)]
          · obtain ⟨τ', r1, r2⟩ := m_lightBy (w := V (8 + 5 * i + 2)) w.1.2.2.1 hm.1.1 hi9 (by omega)
            refine MO.scr hm (mscr.l hm r2) ?_
            show f_X9_memoryIs 90 (nI i) (nI 5) τ = _
            unfold f_X9_memoryIs
            simp only [kM, if_true, call_s, isMem_y h6 hm.1.1 hi, m_in, n10, if_false, m_its2 hi9, hm.1.1.2.2.2.2.2.1 i 2 hi9 (by omega), r1]
            rw [bI_y h, if_pos (by decide), if_pos (by decide)]
        · have e6 : f = 6 := by omega
          subst e6
          refine ⟨smokeV V i (V (8 + 5 * i + 2)), (V, Z, C0, C1, T, W, K, g, E, Tr, Sh), w, XO.id hx ?_, fun τ hm => MO.id hm ?_⟩
          · show f_X8_memoryIs 0 (nI i) (nI 6) σ = _
            unfold f_X8_memoryIs
            simp only [kX, rX, om_ref_s, if_true, call_s, om_nul_s, hat, tk1m hi9, hx.1.1.2.1, x_smokeV T1 w.1.1 hx.1.1 hi9]
            rw [if_neg (by decide), if_neg (by decide), if_neg (by decide), if_neg (by decide), if_neg (by decide), if_neg (by decide), if_pos (by decide)]
          · show f_X9_memoryIs 90 (nI i) (nI 6) τ = _
            unfold f_X9_memoryIs
            simp only [kM, if_true, call_s, isMem_y h6 hm.1.1 hi, m_in, n10, if_false, m_its2 hi9, hm.1.1.2.2.2.2.2.1 i 2 hi9 (by omega), m_many (show V (8 + 5 * i + 2) < 16 by omega), m_smokeV (w := V (8 + 5 * i + 2)) hm.1.1 hi9]
            rw [bI_y h, if_pos (by decide), if_neg (by decide)]
    · have nv : ∀ j : Nat, j < 7 → v ≠ nI j := by
        intro j hj e
        refine h ?_
        rw [e]
        exact ⟨nI_le (a := 0) (Nat.zero_le _) (by omega), nI_le (b := 6) (by omega) (by omega)⟩
      refine ⟨rfE 1, (V, Z, C0, C1, T, W, K, g, upE E 1, Tr, Sh), w, XO.no0 hx (k := 1) (by omega) ?_, fun τ hm => MO.no0 hm (k := 1) (by omega) ?_⟩
      · show f_X8_memoryIs 0 (nI i) v σ = _
        unfold f_X8_memoryIs 
        simp only [kX, rX, om_ref_s, if_true, call_s, let_s, om_nul_s, om_nul_n, hat, tk1m hi9]
        rw [if_neg (show ¬ v = 0 from nv 0 (by omega)), if_neg (show ¬ v = 1 from nv 1 (by omega)), if_neg (show ¬ v = 2 from nv 2 (by omega)), if_neg (show ¬ v = 3 from nv 3 (by omega)), if_neg (show ¬ v = 4 from nv 4 (by omega)), if_neg (show ¬ v = 5 from nv 5 (by omega)), if_neg (show ¬ v = 6 from nv 6 (by omega))]
        exact Eq.refl _
      · show f_X9_memoryIs 90 (nI i) v τ = _
        unfold f_X9_memoryIs f_X9_memoryIs_b18
        simp only [kM, rM, aM, om_ref_s, if_true, call_s, let_s, isMem_y h6 hm.1.1 hi, m_in, n10, if_false]
        rw [bI_n h]
        exact Eq.refl _
def abF (v : Int32) : Int32 := if v = 4 then 1 else if v = 5 then 2 else 0
def isO (k t : Int32) : Prop := k = t ∨ abF k = t ∨ abF (abF k) = t
theorem m_above {v : Int32} {σ : om_S} : f_X9_above v σ = some (abF v, σ) := by
  unfold f_X9_above abF
  simp only [ite_s]
theorem as_all : ∀ k, k < 7 → ∀ t, t < 7 → (f_X1_isOf_b7 om_F (nI t) (nI k) 0 om_s0).map Prod.fst = some (if nI k = nI t ∨ abF (nI k) = nI t ∨ abF (abF (nI k)) = nI t then 1 else 0) := by decide +kernel
theorem as_s {σ : om_S} {v1 : Int32} : ∀ (F : Nat) (v2 v3 : Int32), f_X1_isOf_b7 F v1 v2 v3 σ = (f_X1_isOf_b7 F v1 v2 v3 om_s0).map (fun q => (q.1, σ)) := by
  intro F
  induction F with
  | zero =>
    intro v2 v3
    rfl
  | succ F ih =>
    intro v2 v3
    unfold f_X1_isOf_b7 f_X1_isOf_b42 f_X1_isOf_b43
    simp only [ih]
    repeat' split
    all_goals first | rfl | simp_all
theorem x_isOf {a k t : Nat} {σ : om_S} (ha : om_kc a = 1) (h0 : σ a 0 = nI k) (hk : k < 7) (ht : t < 7) : f_X1_isOf a (nI t) σ = some (if nI k = nI t ∨ abF (nI k) = nI t ∨ abF (abF (nI k)) = nI t then 1 else 0, σ) := by
  have h1 := as_all k hk t ht
  unfold f_X1_isOf
  rw [if_pos ha, h0, as_s]
  cases hq : f_X1_isOf_b7 om_F (nI t) (nI k) 0 om_s0 with
  | none =>
    rw [hq] at h1
    cases h1
  | some q =>
    rw [hq] at h1
    have h2 := Option.some.inj h1
    show some (q.1, σ) = _
    rw [h2]
theorem ab_0 : ∀ k, k < 7 → abF (abF (nI k)) = 0 ∧ (nI k = 0 → abF (nI k) = 0) ∧ (abF (nI k) = 0 ∨ abF (nI k) ≠ 0) := by decide +kernel
theorem ab_00 : abF 0 = 0 := by decide
theorem m_asLoop {x t : Int32} {σ : om_S} {F k : Nat} (hk : k < 7) : ∃ r, f_X9_as_b31 (F + 3) 90 x t (nI k) σ = f_X9_as_b48 90 x t r σ ∧ (r = t ↔ (nI k = t ∨ abF (nI k) = t ∨ abF (abF (nI k)) = t)) := by
  obtain ⟨a1, a2, _⟩ := ab_0 k hk
  unfold f_X9_as_b31
  by_cases e1 : nI k = t
  · rw [if_pos e1]
    exact ⟨_, rfl, fun _ => Or.inl e1, fun _ => e1⟩
  rw [if_neg e1]
  by_cases e2 : nI k = 0
  · rw [if_pos e2]
    refine ⟨_, rfl, fun h => Or.inl h, fun h => ?_⟩
    rw [a2 e2, ab_00] at h
    rcases h with h | h | h
    · exact h
    · rw [e2, h]
    · rw [e2, h]
  rw [if_neg e2, m_above, call_s]
  unfold f_X9_as_b31
  by_cases e3 : abF (nI k) = t
  · rw [if_pos e3]
    exact ⟨_, rfl, fun _ => Or.inr (Or.inl e3), fun _ => e3⟩
  rw [if_neg e3]
  by_cases e4 : abF (nI k) = 0
  · rw [if_pos e4]
    refine ⟨_, rfl, fun h => Or.inr (Or.inl h), fun h => ?_⟩
    rcases h with h | h | h
    · exact absurd h e1
    · exact h
    · rw [a1] at h
      rw [e4, h]
  rw [if_neg e4, m_above, call_s]
  unfold f_X9_as_b31
  have e5 : abF (abF (nI k)) = 0 := a1
  by_cases e6 : abF (abF (nI k)) = t
  · rw [if_pos e6]
    exact ⟨_, rfl, fun _ => Or.inr (Or.inr e6), fun _ => e6⟩
  · rw [if_neg e6, if_pos e5]
    exact ⟨_, rfl, fun h => absurd h e6, fun h => by
      rcases h with h | h | h
      · exact absurd h e1
      · exact absurd h e3
      · exact h⟩
theorem op_as (a v : Int32) : Sim (fun σ => f_X8_as 0 a v σ) (fun σ => f_X9_as 90 a v σ) := by
  refine sim_of fun s σ w hx => ?_
  obtain ⟨V, Z, C0, C1, T, W, K, g, E, Tr, Sh⟩ := s
  have h6 : V 6 ≤ 9 := w.1.1.1
  rcases memc V w.1.1 a with hn | ⟨i, hi, hi9, rfl⟩
  · refine ⟨rfE 1, (V, Z, C0, C1, T, W, K, g, upE E 1, Tr, Sh), w, XO.no0 hx (k := 1) (by omega) ?_, fun τ hm => MO.no0 hm (k := 1) (by omega) ?_⟩
    · show f_X8_as 0 a v σ = _
      unfold f_X8_as f_X8_as_b23
      simp only [kX, rX, om_ref_s, if_true, call_s, let_s, om_nul_s, om_nul_n, x_atNo T1 hx.1.1.1 hn]
      exact Eq.refl _
    · show f_X9_as 90 a v τ = _
      unfold f_X9_as f_X9_as_b18
      simp only [kM, rM, aM, om_ref_s, if_true, call_s, let_s, isMem_n h6 hm.1.1 hn]
      exact Eq.refl _
  · have hat := x_atI T1 hx.1.1.1 hi h6
    have hk : V (8 + 5 * i) ≤ 6 := (w.1.1.2.2.2.2 i hi9).1
    by_cases h : (0 : Int32) ≤ v ∧ v ≤ 6
    · obtain ⟨t, ht, rfl⟩ := win (n := 6) h (by decide) rfl (by decide)
      have ho := x_isOf (k := V (8 + 5 * i)) (t := t) (σ := σ) (tk1m hi9) (hx.1.1.2.2.2.2.2.1 i 0 hi9 (by omega)) (by omega) (by omega)
      by_cases ho2 : nI (V (8 + 5 * i)) = nI t ∨ abF (nI (V (8 + 5 * i))) = nI t ∨ abF (abF (nI (V (8 + 5 * i)))) = nI t
      · refine ⟨nI (V (8 + 5 * i + 1)), (V, Z, C0, C1, T, W, K, g, E, Tr, Sh), w, XO.id hx ?_, fun τ hm => MO.id hm ?_⟩
        · show f_X8_as 0 (nI i) (nI t) σ = _
          rw [if_pos ho2] at ho
          unfold f_X8_as
          simp only [kX, rX, om_ref_s, if_true, call_s, om_nul_s, hat, tk1m hi9, x_isWithin, ho, n10, if_false]
          rw [bI_y h, hx.1.1.2.2.2.2.2.1 i 1 hi9 (by omega)]
        · obtain ⟨r, r1, r2⟩ := m_asLoop (x := nI i) (t := nI t) (σ := τ) (F := 4997) (k := V (8 + 5 * i)) (by omega)
          show f_X9_as 90 (nI i) (nI t) τ = _
          unfold f_X9_as
          simp only [kM, if_true, call_s, isMem_y h6 hm.1.1 hi, m_in, n10, if_false, m_its0 hi9]
          rw [bI_y h, show τ 91 (8 + 5 * i) = nI (V (8 + 5 * i)) from hm.1.1.2.2.2.2.2.1 i 0 hi9 (by omega), show om_F = 4997 + 3 from rfl, r1]
          unfold f_X9_as_b48
          rw [if_pos (r2.mpr ho2), m_its1 hi9, call_s, hm.1.1.2.2.2.2.2.1 i 1 hi9 (by omega)]
      · refine ⟨rfE 5, (V, Z, C0, C1, T, W, K, g, upE E 5, Tr, Sh), w, XO.no0 hx (k := 5) (by omega) ?_, fun τ hm => MO.no0 hm (k := 5) (by omega) ?_⟩
        · show f_X8_as 0 (nI i) (nI t) σ = _
          rw [if_neg ho2] at ho
          unfold f_X8_as
          simp only [kX, rX, om_ref_s, if_true, call_s, om_nul_s, hat, tk1m hi9, x_isWithin, ho, n10, if_false]
          rw [bI_y h]
          exact Eq.refl _
        · obtain ⟨r, r1, r2⟩ := m_asLoop (x := nI i) (t := nI t) (σ := τ) (F := 4997) (k := V (8 + 5 * i)) (by omega)
          show f_X9_as 90 (nI i) (nI t) τ = _
          unfold f_X9_as
          simp only [kM, if_true, call_s, isMem_y h6 hm.1.1 hi, m_in, n10, if_false, m_its0 hi9]
          rw [bI_y h, show τ 91 (8 + 5 * i) = nI (V (8 + 5 * i)) from hm.1.1.2.2.2.2.2.1 i 0 hi9 (by omega), show om_F = 4997 + 3 from rfl, r1]
          unfold f_X9_as_b48
          rw [if_neg (fun q => ho2 (r2.mp q))]
          exact Eq.refl _
    · refine ⟨rfE 1, (V, Z, C0, C1, T, W, K, g, upE E 1, Tr, Sh), w, XO.no0 hx (k := 1) (by omega) ?_, fun τ hm => MO.no0 hm (k := 1) (by omega) ?_⟩
      · show f_X8_as 0 (nI i) v σ = _
        unfold f_X8_as f_X8_as_b23
        simp only [kX, rX, om_ref_s, if_true, call_s, let_s, om_nul_s, om_nul_n, hat, tk1m hi9, x_isWithin]
        rw [bI_n h]
        exact Eq.refl _
      · show f_X9_as 90 (nI i) v τ = _
        unfold f_X9_as f_X9_as_b18
        simp only [kM, rM, aM, om_ref_s, if_true, call_s, let_s, isMem_y h6 hm.1.1 hi, m_in, n10, if_false]
        rw [bI_n h]
        exact Eq.refl _
theorem op_law (a b c d : Int32) : Sim (fun σ => f_X8_law 0 a b c d σ) (fun σ => f_X9_law 90 a b c d σ) := by
  refine sim_of fun s σ w hx => ?_
  obtain ⟨V, Z, C0, C1, T, W, K, g, E, Tr, Sh⟩ := s
  by_cases h : (0 : Int32) ≤ a ∧ a ≤ 1
  · obtain ⟨u, hu, rfl⟩ := win (n := 1) h (by decide) rfl (by decide)
    rcases (show u = 0 ∨ u = 1 by omega) with rfl | rfl
    · obtain ⟨σ', q1, q2⟩ := x_gives (a := b) (b := c) (c := d) (tx0 T1) (by omega) hx.1.1.2.2.2.2.2.2.2.2.1 w.1.2.2.1 hx.1.1.2.2.2.2.2.2.1
      refine ⟨textF 0 C0 b c d, (V, Z, C0, C1, T, W, K, g, E, Tr, Sh), w, XO.scr hx (xscr.l hx (fun q a _ => q2 q a)) ?_, fun τ hm => ?_⟩
      · show f_X8_law 0 (nI 0) b c d σ = _
        unfold f_X8_law f_X6_textOf
        simp only [kX, rX, om_ref_s, if_true, call_s, tr1 T1, tk2 T1]
        rw [if_pos (by decide), call_s, om_nul_s, if_pos (tk2 T1), q1, call_s]
      · obtain ⟨τ', r1, r2⟩ := m_told (u := 0) (a := b) (b := c) (c := d) (by omega) w.1.2.2.1 hm.1.1.2.2.2.2.2.2.1
        rw [if_pos rfl] at r1
        refine MO.scr hm (mscr.l hm r2) ?_
        show f_X9_law 90 (nI 0) b c d τ = _
        unfold f_X9_law
        simp only [kM, if_true, m_in, call_s, r1]
        rw [bI_y h, if_pos (by decide)]
    · obtain ⟨σ', q1, q2⟩ := x_gives (a := b) (b := c) (c := d) (tx1 T1) (by omega) hx.1.1.2.2.2.2.2.2.2.2.2 w.1.2.2.2.1 hx.1.1.2.2.2.2.2.2.2.1
      refine ⟨textF 1 C1 b c d, (V, Z, C0, C1, T, W, K, g, E, Tr, Sh), w, XO.scr hx (xscr.l hx (fun q _ a => q2 q a)) ?_, fun τ hm => ?_⟩
      · show f_X8_law 0 (nI 1) b c d σ = _
        unfold f_X8_law f_X6_textOf
        simp only [kX, rX, om_ref_s, if_true, call_s, tr2 T1, tk6 T1]
        rw [if_neg (by decide), if_pos (by decide), call_s, om_nul_s, if_pos (tk6 T1), q1, call_s]
      · obtain ⟨τ', r1, r2⟩ := m_told (u := 1) (a := b) (b := c) (c := d) (by omega) w.1.2.2.2.1 hm.1.1.2.2.2.2.2.2.2
        rw [if_neg (by decide)] at r1
        refine MO.scr hm (mscr.l hm r2) ?_
        show f_X9_law 90 (nI 1) b c d τ = _
        unfold f_X9_law
        simp only [kM, if_true, m_in, call_s, r1]
        rw [bI_y h, if_neg (by decide)]
  · have nv : ∀ j : Nat, j < 2 → a ≠ nI j := by
      intro j hj e
      refine h ?_
      rw [e]
      exact ⟨nI_le (a := 0) (Nat.zero_le _) (by omega), nI_le (b := 1) (by omega) (by omega)⟩
    refine ⟨rfE 1, (V, Z, C0, C1, T, W, K, g, upE E 1, Tr, Sh), w, XO.no0 hx (k := 1) (by omega) ?_, fun τ hm => MO.no0 hm (k := 1) (by omega) ?_⟩
    · show f_X8_law 0 a b c d σ = _
      unfold f_X8_law f_X6_textOf
      simp only [kX, rX, om_ref_s, if_true, call_s, let_s, om_nul_s, om_nul_n, tr1 T1]
      rw [if_neg (show ¬ a = 0 from nv 0 (by omega)), if_neg (show ¬ a = 1 from nv 1 (by omega)), call_s, om_nul_n]
      exact Eq.refl _
    · show f_X9_law 90 a b c d τ = _
      unfold f_X9_law 
      simp only [kM, rM, aM, om_ref_s, if_true, call_s, let_s, m_in]
      rw [bI_n h]
      exact Eq.refl _
