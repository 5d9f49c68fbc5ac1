/-! ===== texts worked out: both sides ===== -/
def textF (u : Nat) (C : List Int32) (a b c : Int32) : Int32 := heldF (if u = 0 then 99 else 199) (if C.length = 0 then (if u = 0 then a else 5 + 3 * a) else evT a b c C)
def WC (C : List Int32) : Prop := C.length ≤ 60 ∧ (C = [] ∨ HH C 0)
theorem x_gives {t r v k u : Nat} {a b c : Int32} {C : List Int32} {σ : om_S} (hT : IsTx t r v k) (hu : u < 2) (h0 : σ t 0 = nI u) (hC : WC C) (hr : XRow r v C σ) :
    ∃ σ', f_X5_gives t a b c σ = some (textF u C a b c, σ') ∧ ∀ q, q ≠ k → σ' q = σ q := by
  have hu0 : ((σ t 0 = 0) ↔ u = 0) := by
    rw [h0]
    have := nI_eq (a := u) (b := 0) (by omega) (by omega)
    rw [← this]
    rfl
  have hT' := hT
  obtain ⟨t1, t2, t3, t4, t5, t6, t7, t8, t9⟩ := hT
  unfold f_X5_gives
  simp only [t1, t2, om_ref_s, if_true, t3.1, x_size t3.1, call_s, hr.1]
  by_cases hn : C.length = 0
  · have hz : nI C.length = 0 := by rw [hn]; rfl
    rw [if_pos hz]
    unfold f_X5_gives_b27
    simp only [x_held t1, call_s]
    refine ⟨σ, ?_, fun _ _ => rfl⟩
    unfold textF
    by_cases h2 : u = 0
    · rw [if_pos (hu0.mpr h2), if_pos (hu0.mpr h2), if_pos h2, if_pos hn, if_pos h2]
    · rw [if_neg (fun q => h2 (hu0.mp q)), if_neg (fun q => h2 (hu0.mp q)), if_neg h2, if_pos hn, if_neg h2]
  · rw [if_neg (nI_ne0 (by omega) (by have := hC.1; omega))]
    have hH : HH C 0 := by
      rcases hC.2 with h | h
      · rw [h] at hn
        exact absurd rfl hn
      · exact h
    obtain ⟨σ', q1, q2⟩ := x_evLoop (a := a) (b := b) (c := c) hT' C C 0 [] om_F σ rfl (Nat.zero_le _) hC.1 hH (Nat.le_refl _) (fun j hj => by cases hj) hr (by have := hC.1; unfold om_F; omega)
    refine ⟨σ', ?_, q2⟩
    have e : ([] : List Int32).length = 0 := rfl
    rw [e] at q1
    rw [show (0 : Int32) = nI 0 from rfl, q1]
    unfold textF evT
    rw [if_neg hn]
    by_cases h2 : u = 0
    · rw [if_pos (hu0.mpr h2), if_pos h2]
    · rw [if_neg (fun q => h2 (hu0.mp q)), if_neg h2]
def chn (u i : Nat) : Nat := if u = 0 then (if i = 0 then 108 else if i = 1 then 111 else 110) else (if i = 0 then 119 else if i = 1 then 100 else 107)
def enc (u : Nat) (d : Int32) : Int32 × Int32 := if d < -3 then (if d = -33 then (2, 0) else (3, -d)) else if d < 0 then (1, nI (chn u (if d = -1 then 0 else if d = -2 then 1 else 2))) else (0, d)
def MText (a u : Nat) (C : List Int32) (σ : om_S) : Prop := σ a (53 + 125 * u) = nI C.length ∧ ∀ k, k < C.length → σ a (54 + 125 * u + 2 * k) = (enc u (C.getD k 0)).1 ∧ σ a (55 + 125 * u + 2 * k) = (enc u (C.getD k 0)).2
theorem MText.congr {a u : Nat} {C : List Int32} {σ σ' : om_S} (h : MText a u C σ) (e : σ' a = σ a) : MText a u C σ' := by
  unfold MText at h ⊢
  rw [e]
  exact h
def Named (u : Nat) (a b c : Int32) (σ : om_S) : Prop := σ 96 (chn u 0) = a ∧ σ 96 (chn u 1) = b ∧ σ 96 (chn u 2) = c
theorem chn_lt (u i : Nat) : chn u i < 128 := by
  unfold chn
  repeat' split
  all_goals omega
theorem Named.val {u : Nat} {a b c d : Int32} {σ : om_S} (h : Named u a b c σ) (hd : d < 0) : σ 96 (chn u (if d = -1 then 0 else if d = -2 then 1 else 2)) = valF a b c d := by
  unfold valF
  rw [if_pos hd]
  by_cases h1 : d = -1
  · rw [if_pos h1, if_pos h1]
    exact h.1
  · rw [if_neg h1, if_neg h1]
    by_cases h2 : d = -2
    · rw [if_pos h2, if_pos h2]
      exact h.2.1
    · rw [if_neg h2, if_neg h2]
      exact h.2.2
theorem ix1 (u i : Nat) : (nI (53 + 125 * u) + 1) + 2 * nI i = nI (54 + 125 * u + 2 * i) := by
  rw [nI_1, show (2 : Int32) = nI 2 from rfl, pk_mul, nI_add]
  congr 1
  omega
theorem ix2 (u i : Nat) : (nI (53 + 125 * u) + 2) + 2 * nI i = nI (55 + 125 * u + 2 * i) := by
  rw [show (2 : Int32) = nI 2 from rfl, pk_mul, nI_add, nI_add]
  congr 1
  omega
theorem n10 : ((1 : Int32) = 0) = False := eq_false (by decide)
theorem n20 : ((2 : Int32) = 0) = False := eq_false (by decide)
theorem n21 : ((2 : Int32) = 1) = False := eq_false (by decide)
theorem n30 : ((3 : Int32) = 0) = False := eq_false (by decide)
theorem n31 : ((3 : Int32) = 1) = False := eq_false (by decide)
theorem n32 : ((3 : Int32) = 2) = False := eq_false (by decide)
theorem m_evLoop {u : Nat} {a b c : Int32} (hu : u < 2) : ∀ (rest : List Int32) (L : List Int32) (i : Nat) (st : List Int32) (F : Nat) (σ : om_S),
    L.drop i = rest → i ≤ L.length → L.length ≤ 60 → HH rest st.length → st.length ≤ i → Stk 97 st σ → MText 91 u L σ → Named u a b c σ → rest.length < F →
    ∃ σ', f_X9_worked_b13 F 90 (nI (53 + 125 * u)) (nI st.length) (nI i) σ = some ((evS a b c rest st).headD 0, σ') ∧ ∀ q, q ≠ 97 → σ' q = σ q := by
  intro rest
  induction rest with
  | nil =>
    intro L i st F σ hd hi hL hh hsi hst hr hN hF
    obtain ⟨F, rfl⟩ : ∃ G, F = G + 1 := ⟨F - 1, by omega⟩
    have hil : L.length ≤ i := by
      have := congrArg List.length hd
      simp at this
      omega
    unfold f_X9_worked_b13
    simp only [rM, om_ref_s, kM, aM, if_true]
    have h1 : st.length = 1 := hh
    have c0 : (nI (53 + 125 * u)).toNatClampNeg = 53 + 125 * u := nI_clamp (by omega)
    rw [if_pos (in_nI (by omega) (by omega)), c0, hr.1, if_pos (nI_le hil (by omega)), if_pos (in_0 (by omega) (by omega))]
    refine ⟨σ, ?_, fun _ _ => rfl⟩
    have h0 := hst 0 (by omega)
    rw [show (0 : Int32).toNatClampNeg = 0 from rfl, h0, h1]
    match st, h1 with
    | [x], _ => rfl
  | cons d rest ih =>
    intro L i st F σ hd hi hL hh hsi hst hr hN hF
    obtain ⟨F, rfl⟩ : ∃ G, F = G + 1 := ⟨F - 1, by omega⟩
    have hil : i < L.length := by
      have := congrArg List.length hd
      simp at this
      omega
    have hdi : L.getD i 0 = d := by
      have h2 : L[i]? = some d := by
        have := congrArg (fun l : List Int32 => l[0]?) hd
        simpa using this
      rw [List.getD_eq_getElem?_getD, h2]
      rfl
    have hd' : L.drop (i + 1) = rest := by
      rw [← List.drop_drop, hd]
      rfl
    have hx := hr.2 i hil
    rw [hdi] at hx
    simp only [List.length_cons] at hF
    have c0 : (nI (53 + 125 * u)).toNatClampNeg = 53 + 125 * u := nI_clamp (by omega)
    have c1 : (nI (54 + 125 * u + 2 * i)).toNatClampNeg = 54 + 125 * u + 2 * i := nI_clamp (by omega)
    have c2 : (nI (55 + 125 * u + 2 * i)).toNatClampNeg = 55 + 125 * u + 2 * i := nI_clamp (by omega)
    unfold f_X9_worked_b13
    simp only [rM, om_ref_s, kM, aM, if_true, let_s, ix1, ix2, c0, c1, c2]
    rw [if_pos (in_nI (by omega) (by omega)), hr.1, if_neg (nI_ge hil (by omega)), if_pos (in_nI (by omega) (by omega)), if_pos (in_nI (by omega) (by omega)), hx.1, hx.2]
    have hgo : ∀ y : Int32, y = valF a b c d → ¬ d < -3 → HH rest (st.length + 1) → ∃ σ', f_X9_worked_b87 (f_X9_worked_b13 F) 90 (nI (53 + 125 * u)) (nI st.length) (nI i) 97 (nI st.length) y σ = some ((evS a b c (d :: rest) st).headD 0, σ') ∧ ∀ q, q ≠ 97 → σ' q = σ q := by
      intro y hy h3 hh
      subst hy
      unfold f_X9_worked_b87 f_X9_worked_b157
      simp only [aM]
      rw [if_pos (in_nI (by omega) (by omega)), nI_clamp (by omega)]
      simp only [let_s, nI_1]
      obtain ⟨σ', q1, q2⟩ := ih L (i + 1) (valF a b c d :: st) F (om_w σ 97 st.length (valF a b c d)) hd' (by omega) hL hh (by simp only [List.length_cons]; omega) hst.push (hr.congr (om_w_off (by decide))) ⟨by rw [om_w_k (by decide)]; exact hN.1, by rw [om_w_k (by decide)]; exact hN.2.1, by rw [om_w_k (by decide)]; exact hN.2.2⟩ (by omega)
      refine ⟨σ', ?_, fun q hq => by rw [q2 q hq, om_w_off hq]⟩
      rw [show nI (st.length + 1) = nI (valF a b c d :: st).length from rfl, q1, evS_val h3]
    have h65 : ∀ x1 x2 : Int32, f_X9_worked_b65 (f_X9_worked_b13 F) 90 (nI (53 + 125 * u)) (nI st.length) (nI i) x1 x2 σ = if x1 = 0 then f_X9_worked_b87 (f_X9_worked_b13 F) 90 (nI (53 + 125 * u)) (nI st.length) (nI i) 97 (nI st.length) x2 σ else if om_in x2 128 then f_X9_worked_b87 (f_X9_worked_b13 F) 90 (nI (53 + 125 * u)) (nI st.length) (nI i) 97 (nI st.length) (σ 96 x2.toNatClampNeg) σ else none := by
      intro x1 x2
      unfold f_X9_worked_b65
      simp only [rM, om_ref_s, kM, aM, if_true]
    rcases hh with ⟨h3, hh⟩ | ⟨h3, h4, hh⟩ | ⟨h3, h4, h5, h6, hh⟩
    · by_cases g1 : d < 0
      · have hE : enc u d = (1, nI (chn u (if d = -1 then 0 else if d = -2 then 1 else 2))) := by
          unfold enc
          rw [if_neg h3, if_pos g1]
        rw [hE]
        simp only [h65, n10, if_false, if_true]
        rw [if_pos (in_nI (chn_lt _ _) (by omega)), nI_clamp (by have := chn_lt u (if d = -1 then 0 else if d = -2 then 1 else 2); omega), hN.val g1]
        exact hgo _ rfl h3 hh
      · have hE : enc u d = (0, d) := by
          unfold enc
          rw [if_neg h3, if_neg g1]
        rw [hE]
        simp only [h65, if_true]
        exact hgo d (by unfold valF; rw [if_neg g1]) h3 hh
    · subst h3
      have hE : enc u (-33) = (2, 0) := rfl
      rw [hE]
      match st, h4 with
      | x :: st, _ =>
        simp only [List.length_cons] at hsi ⊢
        have hm1 : nI (st.length + 1) - 1 = nI st.length := nI_pred _
        have c3 : (nI st.length).toNatClampNeg = st.length := nI_clamp (by omega)
        simp only [hm1, c3, n20, n21, if_false, if_true]
        rw [if_pos (in_nI (by omega) (by omega)), hst.top]
        have hgo2 : ∀ y : Int32, y = (if x = 0 then 1 else 0) → ∃ σ', f_X9_worked_b123 (f_X9_worked_b13 F) 90 (nI (53 + 125 * u)) (nI (st.length + 1)) (nI i) 97 (nI st.length) y σ = some ((evS a b c (-33 :: rest) (x :: st)).headD 0, σ') ∧ ∀ q, q ≠ 97 → σ' q = σ q := by
          intro y hy
          unfold f_X9_worked_b123 f_X9_worked_b157
          simp only [aM, c3]
          rw [if_pos (in_nI (by omega) (by omega))]
          simp only [let_s, nI_1]
          obtain ⟨σ', q1, q2⟩ := ih L (i + 1) (y :: st) F (om_w σ 97 st.length y) hd' (by omega) hL hh (by simp only [List.length_cons]; omega) hst.tl.push (hr.congr (om_w_off (by decide))) ⟨by rw [om_w_k (by decide)]; exact hN.1, by rw [om_w_k (by decide)]; exact hN.2.1, by rw [om_w_k (by decide)]; exact hN.2.2⟩ (by omega)
          refine ⟨σ', ?_, fun q hq => by rw [q2 q hq, om_w_off hq]⟩
          rw [show nI (st.length + 1) = nI (y :: st).length from rfl, q1, evS_not, hy]
        by_cases g : x = 0
        · rw [if_pos g]
          exact hgo2 1 (by rw [if_pos g])
        · rw [if_neg g]
          exact hgo2 0 (by rw [if_neg g])
    · have hE : enc u d = (3, -d) := by
        unfold enc
        rw [if_pos h4, if_neg h5]
      rw [hE]
      match st, h6 with
      | y :: x :: st, _ =>
        simp only [List.length_cons] at hsi hh ⊢
        have hm1 : nI (st.length + 1 + 1) + -1 = nI (st.length + 1) := pk_m1 _
        have hm2 : nI (st.length + 1) - 1 = nI st.length := nI_pred _
        have c3 : (nI st.length).toNatClampNeg = st.length := nI_clamp (by omega)
        have c4 : (nI (st.length + 1)).toNatClampNeg = st.length + 1 := nI_clamp (by omega)
        simp only [hm1, hm2, c3, c4, n30, n31, n32, if_false, m_joined h3, call_s]
        rw [if_pos (in_nI (by omega) (by omega)), if_pos (in_nI (by omega) (by omega)), if_pos (in_nI (by omega) (by omega))]
        have htop : σ 97 (st.length + 1) = y := hst.top
        have htop2 : σ 97 st.length = x := hst.tl.top
        rw [htop, htop2]
        unfold f_X9_worked_b157
        rw [nI_1]
        obtain ⟨σ', q1, q2⟩ := ih L (i + 1) (joinF (-d) x y :: st) F (om_w σ 97 st.length (joinF (-d) x y)) hd' (by omega) hL hh (by simp only [List.length_cons]; omega) hst.tl.tl.push (hr.congr (om_w_off (by decide))) ⟨by rw [om_w_k (by decide)]; exact hN.1, by rw [om_w_k (by decide)]; exact hN.2.1, by rw [om_w_k (by decide)]; exact hN.2.2⟩ (by omega)
        refine ⟨σ', ?_, fun q hq => by rw [q2 q hq, om_w_off hq]⟩
        rw [show nI (st.length + 1) = nI (joinF (-d) x y :: st).length from rfl, q1, evS_join h4 h5]
theorem m_held {m x : Int32} {σ : om_S} : f_X9_held x 0 m σ = some (heldF m x, σ) := by
  unfold f_X9_held heldF
  simp only [ite_s]
theorem m_hasText {u : Nat} {C : List Int32} {σ : om_S} (hu : u < 2) (h : MText 91 u C σ) (hC : C.length ≤ 60) : f_X9_hasText 90 (nI u) σ = some (bI (C.length ≠ 0), σ) := by
  unfold f_X9_hasText
  have e : (53 : Int32) + 125 * nI u = nI (53 + 125 * u) := by
    rw [show (125 : Int32) = nI 125 from rfl, show (53 : Int32) = nI 53 from rfl, pk_mul, nI_add]
  have c0 : (nI (53 + 125 * u)).toNatClampNeg = 53 + 125 * u := nI_clamp (by omega)
  simp only [rM, om_ref_s, kM, aM, if_true, e, c0]
  rw [if_pos (in_nI (by omega) (by omega)), h.1]
  by_cases hn : C.length = 0
  · rw [hn, if_pos (by decide), bI_f (by omega)]
  · rw [if_neg (nI_nle (by omega) (by omega)), bI_t hn]
theorem m_told {u : Nat} {a b c : Int32} {C : List Int32} {σ : om_S} (hu : u < 2) (hC : WC C) (h : MText 91 u C σ) :
    ∃ σ', (if u = 0 then f_X9_lightTold 90 a b c σ else f_X9_wantedTold 90 a b c σ) = some (textF u C a b c, σ') ∧ ∀ q, q ≠ 96 → q ≠ 97 → σ' q = σ q := by
  have key : ∀ σ1 : om_S, MText 91 u C σ1 → Named u a b c σ1 → C.length ≠ 0 → ∃ σ', f_X9_worked 90 (nI u) σ1 = some (evT a b c C, σ') ∧ ∀ q, q ≠ 97 → σ' q = σ1 q := by
    intro σ1 h1 h2 hn
    have hH : HH C 0 := by
      rcases hC.2 with h | h
      · rw [h] at hn
        exact absurd rfl hn
      · exact h
    obtain ⟨σ', q1, q2⟩ := m_evLoop (a := a) (b := b) (c := c) hu C C 0 [] om_F σ1 rfl (Nat.zero_le _) hC.1 hH (Nat.le_refl _) (fun j hj => by cases hj) h1 h2 (by have := hC.1; unfold om_F; omega)
    refine ⟨σ', ?_, q2⟩
    unfold f_X9_worked
    have e : (53 : Int32) + 125 * nI u = nI (53 + 125 * u) := by
      rw [show (125 : Int32) = nI 125 from rfl, show (53 : Int32) = nI 53 from rfl, pk_mul, nI_add]
    simp only [kM, if_true, let_s, e]
    exact q1
  have hu2 : u = 0 ∨ u = 1 := by omega
  rcases hu2 with rfl | rfl
  · rw [if_pos rfl]
    unfold f_X9_lightTold
    simp only [rM, om_ref_s, kM, aM, if_true, let_s]
    rw [if_pos (by decide), if_pos (by decide), if_pos (by decide)]
    generalize hs : om_w (om_w (om_w σ 96 (Int32.toNatClampNeg 108) a) 96 (Int32.toNatClampNeg 111) b) 96 (Int32.toNatClampNeg 110) c = σ1
    have hof : ∀ q, q ≠ 96 → σ1 q = σ q := fun q hq => by rw [← hs, om_w_off hq, om_w_off hq, om_w_off hq]
    have hN : Named 0 a b c σ1 := by
      rw [← hs]
      refine ⟨?_, ?_, ?_⟩
      · show om_w (om_w (om_w σ 96 108 a) 96 111 b) 96 110 c 96 108 = a
        simp [om_w]
      · show om_w (om_w (om_w σ 96 108 a) 96 111 b) 96 110 c 96 111 = b
        simp [om_w]
      · show om_w (om_w (om_w σ 96 108 a) 96 111 b) 96 110 c 96 110 = c
        simp [om_w]
    have h1 := h.congr (hof 91 (by decide))
    rw [show (0 : Int32) = nI 0 from rfl, m_hasText (by omega) h1 hC.1]
    simp only [call_s]
    rw [show nI 0 = (0 : Int32) from rfl]
    simp only [bI_0]
    unfold f_X9_lightTold_b41
    by_cases hn : C.length = 0
    · rw [if_pos (by omega), m_held]
      simp only [call_s]
      refine ⟨σ1, ?_, fun q h1 h2 => hof q h1⟩
      unfold textF
      rw [if_pos rfl, if_pos hn, if_pos rfl]
    · rw [if_neg (by omega)]
      obtain ⟨σ', q1, q2⟩ := key σ1 h1 hN hn
      rw [show (0 : Int32) = nI 0 from rfl, q1]
      simp only [call_s]
      rw [show nI 0 = (0 : Int32) from rfl, m_held]
      simp only [call_s]
      refine ⟨σ', ?_, fun q h1 h2 => by rw [q2 q h2, hof q h1]⟩
      unfold textF
      rw [if_pos rfl, if_neg hn]
  · rw [if_neg (by decide)]
    unfold f_X9_wantedTold
    simp only [rM, om_ref_s, kM, aM, if_true, let_s]
    rw [if_pos (by decide), if_pos (by decide), if_pos (by decide)]
    generalize hs : om_w (om_w (om_w σ 96 (Int32.toNatClampNeg 119) a) 96 (Int32.toNatClampNeg 100) b) 96 (Int32.toNatClampNeg 107) c = σ1
    have hof : ∀ q, q ≠ 96 → σ1 q = σ q := fun q hq => by rw [← hs, om_w_off hq, om_w_off hq, om_w_off hq]
    have hN : Named 1 a b c σ1 := by
      rw [← hs]
      refine ⟨?_, ?_, ?_⟩
      · show om_w (om_w (om_w σ 96 119 a) 96 100 b) 96 107 c 96 119 = a
        simp [om_w]
      · show om_w (om_w (om_w σ 96 119 a) 96 100 b) 96 107 c 96 100 = b
        simp [om_w]
      · show om_w (om_w (om_w σ 96 119 a) 96 100 b) 96 107 c 96 107 = c
        simp [om_w]
    have h1 := h.congr (hof 91 (by decide))
    rw [show f_X9_hasText 90 1 σ1 = _ from m_hasText (u := 1) (by omega) h1 hC.1]
    simp only [call_s, bI_0]
    unfold f_X9_wantedTold_b45
    by_cases hn : C.length = 0
    · rw [if_pos (by omega), m_held]
      simp only [call_s]
      refine ⟨σ1, ?_, fun q h1 h2 => hof q h1⟩
      unfold textF
      rw [if_neg (by decide), if_pos hn, if_neg (by decide)]
    · rw [if_neg (by omega)]
      obtain ⟨σ', q1, q2⟩ := key σ1 h1 hN hn
      rw [show f_X9_worked 90 1 σ1 = _ from q1]
      simp only [call_s]
      rw [m_held]
      simp only [call_s]
      refine ⟨σ', ?_, fun q h1 h2 => by rw [q2 q h2, hof q h1]⟩
      unfold textF
      rw [if_neg (by decide), if_neg hn]
