/-! ===== tape, what waits, images, counts ===== -/
theorem R62 : IsRow 62 63 60 := ⟨kc_62, rf_62_0, kc_63, al_63, by omega, by omega⟩
theorem R64 : IsRow 64 65 60 := ⟨kc_64, rf_64_0, kc_65, al_65, by omega, by omega⟩
theorem R66 : IsRow 66 67 24 := ⟨kc_66, rf_66_0, kc_67, al_67, by omega, by omega⟩
theorem R68 : IsRow 68 69 24 := ⟨kc_68, rf_68_0, kc_69, al_69, by omega, by omega⟩
theorem R78 : IsRow 78 79 30 := ⟨kc_78, rf_78_0, kc_79, al_79, by omega, by omega⟩
theorem MText.move {a a2 u : Nat} {C : List Int32} {σ σ' : om_S} (hC : C.length ≤ 60) (h : MText a u C σ) (e : ∀ j, 53 + 125 * u ≤ j → j < 53 + 125 * u + 125 → σ' a2 j = σ a j) : MText a2 u C σ' := by
  refine ⟨by rw [e _ (by omega) (by omega)]; exact h.1, fun k hk => ?_⟩
  rw [e _ (by omega) (by omega), e _ (by omega) (by omega)]
  exact h.2 k hk
theorem MT.move {a a2 : Nat} {V : Nat → Nat} {Z : Int32} {C0 C1 : List Int32} {σ σ' : om_S} (hC0 : C0.length ≤ 60) (hC1 : C1.length ≤ 60) (h : MT a V Z C0 C1 σ) (e : ∀ j, j ≠ 4 → j ≠ 5 → j < 303 → σ' a2 j = σ a j) : MT a2 V Z C0 C1 σ' := by
  obtain ⟨h1, h2, h3, h4, h5, h6, h7, h8⟩ := h
  refine ⟨by rw [e _ (by omega) (by omega) (by omega)]; exact h1, by rw [e _ (by omega) (by omega) (by omega)]; exact h2, by rw [e _ (by omega) (by omega) (by omega)]; exact h3, by rw [e _ (by omega) (by omega) (by omega)]; exact h4, by rw [e _ (by omega) (by omega) (by omega)]; exact h5, fun i f hi hf => by rw [e _ (by omega) (by omega) (by omega)]; exact h6 i f hi hf, h7.move hC0 (fun j a b => e j (by omega) (by omega) (by omega)), h8.move hC1 (fun j a b => e j (by omega) (by omega) (by omega))⟩
theorem MKp.move {a a2 : Nat} {t : oA_K} {σ σ' : om_S} (w : WKp t) (h : MKp a t σ) (e : ∀ j, j < 387 → σ' a2 j = σ a j) : MKp a2 t σ' := by
  obtain ⟨_, _, w1, w2, w3, w4⟩ := w
  exact ⟨h.1.move w1.1 w2.1 (fun j _ _ a => e j (by omega)), h.2.1.congr (e _ (by omega)) (fun j a b => e j (by omega)), h.2.2.congr (e _ (by omega)) (fun j a b => e j (by omega))⟩
theorem op_image : Sim (fun σ => f_X8_image 0 σ) (fun σ => f_X9_image 90 σ) := by
  refine sim_of fun s σ w hx => ?_
  obtain ⟨V, Z, C0, C1, T, W, K, g, E, Tr, Sh⟩ := s
  have hz := hx.xz
  have hC0 : WC C0 := w.1.2.2.1
  have hC1 : WC C1 := w.1.2.2.2.1
  have hT : T.length ≤ 60 := w.1.2.2.2.2.1
  have hW : W.length ≤ 24 := w.1.2.2.2.2.2
  obtain ⟨σ1, p1, p2, p3⟩ := x_towerCopy (b := 20) (b2 := 1) (Or.inr (Or.inl rfl)) T1 (by omega) hC0.1 hC1.1 hx.1.1 hz.2.1 hz.2.2.1
  obtain ⟨σ2, r1, r2, r3⟩ := x_copyFrom (L := T) (σ := σ1) R64 R62 (by omega) (by omega) (by omega) (by omega) hT hT (hx.1.2.1.congr (p3 _ (by omega)) (p3 _ (by omega)))
  obtain ⟨σ3, v1, v2, v3⟩ := x_copyFrom (L := W) (σ := σ2) R68 R66 (by omega) (by omega) (by omega) (by omega) hW hW (hx.1.2.2.congr (by rw [r3 _ (by omega) (by omega), p3 _ (by omega)]) (by rw [r3 _ (by omega) (by omega), p3 _ (by omega)]))
  have hf : ∀ q, (q < 20 ∨ 39 ≤ q) → q ≠ 64 → q ≠ 65 → q ≠ 68 → q ≠ 69 → σ3 q = σ q := fun q a b c d e => by rw [v3 q d e, r3 q b c, p3 q (by omega)]
  have e12 : σ3 0 12 = g := by
    rw [hf 0 (by omega) (by omega) (by omega) (by omega) (by omega)]
    exact hx.2.2.1
  have hXK : XKp 20 64 65 68 69 (V, Z, C0, C1, T, W) σ3 := ⟨p2.congr (fun q a b _ _ => by rw [v3 q (by omega) (by omega), r3 q (by omega) (by omega)]), r2.congr (v3 _ (by omega) (by omega)) (v3 _ (by omega) (by omega)), v2⟩
  refine ⟨g + 1, (V, Z, C0, C1, T, W, some (V, Z, C0, C1, T, W), g + 1, E, Tr, Sh), ⟨w.1, fun t ht => ?_, fun q => (by cases q), w.2.2.2⟩, ⟨om_w σ3 0 12 (g + 1), ?_, ⟨?_, fun t ht => ?_, om_w_s, fun k hk => ?_, ?_, fun k hk => ?_, ?_⟩, fun q hq => by rw [om_w_off (by omega), hf q (by omega) (by omega) (by omega) (by omega) (by omega)]⟩, fun τ hm => ?_⟩
  · cases ht
    exact w.1
  · show f_X8_image 0 σ = _
    unfold f_X8_image
    simp only [kX, rX, om_ref_s, if_true, p1, do_s, r1, v1, let_s, e12, om_w_s]
  · exact hx.1.congr (fun q a b _ _ => by rw [om_w_off (by omega), hf q (by omega) (by omega) (by omega) (by omega) (by omega)]) (by rw [om_w_off (by omega), hf _ (by omega) (by omega) (by omega) (by omega) (by omega)]) (by rw [om_w_off (by omega), hf _ (by omega) (by omega) (by omega) (by omega) (by omega)]) (by rw [om_w_off (by omega), hf _ (by omega) (by omega) (by omega) (by omega) (by omega)]) (by rw [om_w_off (by omega), hf _ (by omega) (by omega) (by omega) (by omega) (by omega)])
  · cases ht
    exact hXK.congr (fun q a b _ _ => om_w_off (by omega)) (om_w_off (by omega)) (om_w_off (by omega)) (om_w_off (by omega)) (om_w_off (by omega))
  · rw [om_w_k (by omega), hf 81 (by omega) (by omega) (by omega) (by omega) (by omega)]
    exact hx.2.2.2.1 k hk
  · exact hx.2.2.2.2.1.congr (by rw [om_w_off (by omega), hf _ (by omega) (by omega) (by omega) (by omega) (by omega)]) (by rw [om_w_off (by omega), hf _ (by omega) (by omega) (by omega) (by omega) (by omega)])
  · exact (hx.2.2.2.2.2.1 k hk).congr (by rw [om_w_off (by omega), hf _ (by omega) (by omega) (by omega) (by omega) (by omega)]) (by rw [om_w_off (by omega), hf _ (by omega) (by omega) (by omega) (by omega) (by omega)])
  · refine ⟨?_, ?_, ?_, ?_, ?_⟩
    · unfold Zero3
      rw [om_w_off (show 59 ≠ 0 by omega), om_w_off (show 60 ≠ 0 by omega), om_w_off (show 61 ≠ 0 by omega), hf 59 (by omega) (by omega) (by omega) (by omega) (by omega), hf 60 (by omega) (by omega) (by omega) (by omega) (by omega), hf 61 (by omega) (by omega) (by omega) (by omega) (by omega)]
      exact hz.1
    · rw [om_w_k (by omega)]
      exact hXK.1.2.2.2.2.2.2.2.2.1
    · rw [om_w_k (by omega)]
      exact hXK.1.2.2.2.2.2.2.2.2.2
    · rw [om_w_k (by omega), hf 41 (by omega) (by omega) (by omega) (by omega) (by omega)]
      exact hz.2.2.2.1
    · rw [om_w_k (by omega), hf 45 (by omega) (by omega) (by omega) (by omega) (by omega)]
      exact hz.2.2.2.2
  · obtain ⟨τ1, a1, a2, a3⟩ := m_copyAll (a := 91) (c := 92) (σ := τ) kc_91 kc_92 al_91 al_92 (by omega)
    have e3 : τ1 90 3 = g := by
      rw [a3 90 (by omega)]
      exact hm.2.2.1
    have hMK : MKp 92 (V, Z, C0, C1, T, W) τ1 := hm.1.move w.1 a2
    refine ⟨om_w τ1 90 3 (g + 1), ?_, ⟨hm.1.congr (by rw [om_w_off (by omega), a3 91 (by omega)]), fun t ht => ?_, om_w_s, fun k hk => ?_, ⟨?_, fun j hj => ?_⟩, fun k hk => ?_, ?_, ?_, ?_⟩, fun q hq => by rw [om_w_off (by omega), a3 q (by omega)]⟩
    · show f_X9_image 90 τ = _
      unfold f_X9_image
      simp only [kM, rM, aM, om_ref_s, if_true, a1, do_s, let_s, e3, om_w_s]
    · cases ht
      exact hMK.congr (om_w_off (by omega))
    · rw [om_w_k (by omega), a3 94 (by omega)]
      exact hm.2.2.2.1 k hk
    · rw [om_w_j (by omega), a3 90 (by omega)]
      exact hm.2.2.2.2.1.1
    · rw [om_w_k (by omega), a3 100 (by omega)]
      exact hm.2.2.2.2.1.2 j hj
    · exact (hm.2.2.2.2.2.1 k hk).congr (by rw [om_w_off (by omega), a3 _ (by omega)]) (by rw [om_w_off (by omega), a3 _ (by omega)]) (by rw [om_w_off (by omega), a3 _ (by omega)])
    · rw [om_w_j (by omega), a3 90 (by omega)]
      exact hm.mz.1
    · rw [om_w_k (by omega), a3 98 (by omega)]
      exact hm.mz.2.1
    · rw [om_w_k (by omega), a3 99 (by omega)]
      exact hm.mz.2.2
theorem op_restore : Sim (fun σ => f_X8_restore 0 σ) (fun σ => f_X9_restore 90 σ) := by
  refine sim_of fun s σ w hx => ?_
  obtain ⟨V, Z, C0, C1, T, W, K, g, E, Tr, Sh⟩ := s
  have hz := hx.xz
  by_cases g0 : g = 0
  · refine ⟨rfE 2, (V, Z, C0, C1, T, W, K, g, upE E 2, Tr, Sh), w, XO.no0 hx (k := 2) (by omega) ?_, fun τ hm => MO.no0 hm (k := 2) (by omega) ?_⟩
    · show f_X8_restore 0 σ = _
      unfold f_X8_restore
      rw [if_pos kX.1, if_pos (show σ 0 12 = 0 from hx.2.2.1.trans g0)]
      exact Eq.refl _
    · show f_X9_restore 90 τ = _
      unfold f_X9_restore
      rw [if_pos kM.1, if_pos (show τ 90 3 = 0 from hm.2.2.1.trans g0)]
      exact Eq.refl _
  obtain ⟨t, ht⟩ : ∃ t, K = some t := by
    cases hK : K with
    | none => exact absurd (w.2.2.1 hK) g0
    | some t => exact ⟨t, rfl⟩
  have hXK := hx.2.1 t ht
  have hWK := w.2.1 t ht
  obtain ⟨V', Z', C0', C1', T', W'⟩ := t
  obtain ⟨w1, w2, w3, w4, w5, w6⟩ := hWK
  obtain ⟨σ1, p1, p2, p3⟩ := x_towerCopy (b := 1) (b2 := 20) T1 (Or.inr (Or.inl rfl)) (by omega) w3.1 w4.1 hXK.1 hx.1.1.2.2.2.2.2.2.2.2.1 hx.1.1.2.2.2.2.2.2.2.2.2
  obtain ⟨σ2, r1, r2, r3⟩ := x_copyFrom (L := T') (σ := σ1) R62 R64 (by omega) (by omega) (by omega) (by omega) w5 w5 (hXK.2.1.congr (p3 _ (by omega)) (p3 _ (by omega)))
  obtain ⟨σ3, v1, v2, v3⟩ := x_copyFrom (L := W') (σ := σ2) R66 R68 (by omega) (by omega) (by omega) (by omega) w6 w6 (hXK.2.2.congr (by rw [r3 _ (by omega) (by omega), p3 _ (by omega)]) (by rw [r3 _ (by omega) (by omega), p3 _ (by omega)]))
  have hf : ∀ q, (q < 1 ∨ 20 ≤ q) → q ≠ 62 → q ≠ 63 → q ≠ 66 → q ≠ 67 → σ3 q = σ q := fun q a b c d e => by rw [v3 q d e, r3 q b c, p3 q (by omega)]
  have hX3 : XKp 1 62 63 66 67 (V', Z', C0', C1', T', W') σ3 := ⟨p2.congr (fun q a b _ _ => by rw [v3 q (by omega) (by omega), r3 q (by omega) (by omega)]), r2.congr (v3 _ (by omega) (by omega)) (v3 _ (by omega) (by omega)), v2⟩
  refine ⟨nI (V' 1), (V', Z', C0', C1', T', W', K, g, E, Tr, Sh), ⟨⟨w1, w2, w3, w4, w5, w6⟩, w.2⟩, ⟨σ3, ?_, hx.tw hX3 (hz.congr (fun q hq => hf q (by omega) (by omega) (by omega) (by omega) (by omega))) (fun q hq => hf q (by omega) (by omega) (by omega) (by omega) (by omega)), fun q hq => hf q (by omega) (by omega) (by omega) (by omega) (by omega)⟩, fun τ hm => ?_⟩
  · show f_X8_restore 0 σ = _
    unfold f_X8_restore
    simp only [kX, rX, om_ref_s, if_true, p1, do_s, r1, v1]
    rw [if_neg (show ¬ σ 0 12 = 0 from fun q => g0 (hx.2.2.1.symm.trans q)), hX3.1.2.2.1]
  · obtain ⟨τ1, a1, a2, a3⟩ := m_copyAll (a := 92) (c := 91) (σ := τ) kc_92 kc_91 al_92 al_91 (by omega)
    have hMK : MKp 91 (V', Z', C0', C1', T', W') τ1 := (hm.2.1 _ ht).move ⟨w1, w2, w3, w4, w5, w6⟩ a2
    refine ⟨τ1, ?_, hm.tw hMK (hm.mz.congr (fun q hq => a3 q (by omega))) (fun q hq => a3 q (by omega)) (by rw [a3 90 (by omega)]) (by rw [a3 90 (by omega)]), fun q hq => a3 q (by omega)⟩
    show f_X9_restore 90 τ = _
    unfold f_X9_restore
    simp only [kM, rM, aM, om_ref_s, if_true, a1, do_s, in1_387, cl1, hMK.1.2.2.1]
    rw [if_neg (show ¬ τ 90 3 = 0 from fun q => g0 (hm.2.2.1.symm.trans q))]
theorem HX.row {V : Nat → Nat} {Z : Int32} {C0 C1 T W : List Int32} {K : Option oA_K} {g : Int32} {E : Nat → Int32} {Tr : List Int32} {Sh : Nat → Int32 × Nat × (Nat → Int32)} {T' W' : List Int32} {σ σ' : om_S} (h : HX (V, Z, C0, C1, T, W, K, g, E, Tr, Sh) σ) (hT : XRow 62 63 T' σ') (hW : XRow 66 67 W' σ') (hf : ∀ q, q ≠ 62 → q ≠ 63 → q ≠ 66 → q ≠ 67 → σ' q = σ q) : HX (V, Z, C0, C1, T', W', K, g, E, Tr, Sh) σ' :=
  h.tw ⟨h.1.1.congr (fun q _ _ _ _ => hf q (by omega) (by omega) (by omega) (by omega)), hT, hW⟩ (h.xz.congr (fun q hq => hf q (by omega) (by omega) (by omega) (by omega))) (fun q hq => hf q (by omega) (by omega) (by omega) (by omega))
theorem HM.row {V : Nat → Nat} {Z : Int32} {C0 C1 T W : List Int32} {K : Option oA_K} {g : Int32} {E : Nat → Int32} {Tr : List Int32} {Sh : Nat → Int32 × Nat × (Nat → Int32)} {T' W' : List Int32} {σ σ' : om_S} (hC0 : C0.length ≤ 60) (hC1 : C1.length ≤ 60) (h : HM (V, Z, C0, C1, T, W, K, g, E, Tr, Sh) σ) (hT : NRow 91 4 303 T' σ') (hW : NRow 91 5 363 W' σ') (hs : ∀ j, j ≠ 4 → j ≠ 5 → j < 303 → σ' 91 j = σ 91 j) (hf : ∀ q, q ≠ 91 → σ' q = σ q) : HM (V, Z, C0, C1, T', W', K, g, E, Tr, Sh) σ' :=
  h.tw ⟨h.1.1.move hC0 hC1 hs, hT, hW⟩ (h.mz.congr (fun q hq => hf q (by omega))) (fun q hq => hf q (by omega)) (by rw [hf 90 (by omega)]) (by rw [hf 90 (by omega)])
theorem NRow.add {a c o : Nat} {L : List Int32} {σ : om_S} {x : Int32} (hc : c < o) (h : NRow a c o L σ) : NRow a c o (L ++ [x]) (om_w (om_w σ a (o + L.length) x) a c (nI (L.length + 1))) := by
  refine ⟨by rw [om_w_s]; simp, fun j hj => ?_⟩
  rw [om_w_j (by omega)]
  simp only [List.length_append, List.length_cons, List.length_nil] at hj
  by_cases e : j = L.length
  · subst e
    rw [om_w_s]
    simp
  · rw [om_w_j (by omega), h.2 j (by omega), getD_app (by omega)]
theorem in4_387 : om_in 4 387 = True := eq_true (by decide)
theorem in5_387 : om_in 5 387 = True := eq_true (by decide)
theorem in3_387 : om_in 3 387 = True := eq_true (by decide)
theorem cl4 : (4 : Int32).toNatClampNeg = 4 := by decide
theorem cl5 : (5 : Int32).toNatClampNeg = 5 := by decide
theorem cl3 : (3 : Int32).toNatClampNeg = 3 := by decide
theorem op_tell (v : Int32) : Sim (fun σ => f_X8_tell 0 v σ) (fun σ => f_X9_tell 90 v σ) := by
  refine sim_of fun s σ w hx => ?_
  obtain ⟨V, Z, C0, C1, T, W, K, g, E, Tr, Sh⟩ := s
  have hC0 : WC C0 := w.1.2.2.1
  have hC1 : WC C1 := w.1.2.2.2.1
  have hW : W.length ≤ 24 := w.1.2.2.2.2.2
  by_cases hl : W.length = 24
  · refine ⟨rfE 4, (V, Z, C0, C1, T, W, K, g, upE E 4, Tr, Sh), w, XO.no0 hx (k := 4) (by omega) ?_, fun τ hm => MO.no0 hm (k := 4) (by omega) ?_⟩
    · show f_X8_tell 0 v σ = _
      unfold f_X8_tell
      simp only [kX, rX, om_ref_s, if_true, x_addFull R66 hx.1.2.2 hl, call_s]
      exact Eq.refl _
    · show f_X9_tell 90 v τ = _
      unfold f_X9_tell
      simp only [kM, rM, aM, om_ref_s, if_true, in5_387, cl5, hm.1.2.2.1]
      rw [if_pos (show nI W.length = 24 by rw [hl]; rfl)]
      exact Eq.refl _
  · have hX1 := XRow.add (x := v) (show 66 ≠ 67 by omega) hx.1.2.2
    refine ⟨nI (W.length + 1), (V, Z, C0, C1, T, W ++ [v], K, g, E, Tr, Sh), ⟨⟨w.1.1, w.1.2.1, hC0, hC1, w.1.2.2.2.2.1, ?_⟩, w.2⟩, ⟨_, ?_, hx.row (hx.1.2.1.congr (by rw [om_w_off (by omega), om_w_off (by omega)]) (by rw [om_w_off (by omega), om_w_off (by omega)])) hX1 (fun q _ _ a b => by rw [om_w_off a, om_w_off b]), fun q hq => by rw [om_w_off (by omega), om_w_off (by omega)]⟩, fun τ hm => ⟨om_w (om_w τ 91 (363 + W.length) v) 91 5 (nI (W.length + 1)), ?_, hm.row hC0.1 hC1.1 (hm.1.2.1.congr (by rw [om_w_j (by omega), om_w_j (by omega)]) (fun j a b => by have b2 : j < 303 + T.length := b; have : T.length ≤ 60 := w.1.2.2.2.2.1; rw [om_w_j (by omega), om_w_j (by omega)])) (NRow.add (by omega) hm.1.2.2) (fun j a b c => by rw [om_w_j b, om_w_j (by omega)]) (fun q hq => by rw [om_w_off hq, om_w_off hq]), fun q hq => by rw [om_w_off (by omega), om_w_off (by omega)]⟩⟩
    · show (W ++ [v]).length ≤ 24
      simp only [List.length_append, List.length_cons, List.length_nil]
      omega
    · show f_X8_tell 0 v σ = _
      unfold f_X8_tell
      simp only [kX, rX, om_ref_s, if_true, x_add (x := v) R66 hx.1.2.2 (show W.length < 24 by omega), call_s, n10, if_false, x_size kc_66, om_w_s]
    · have c : (nI (363 + W.length)).toNatClampNeg = 363 + W.length := nI_clamp (by omega)
      have hi : om_in (nI (363 + W.length)) 387 = True := eq_true (in_nI (by omega) (by omega))
      have e363 : (363 : Int32) + nI W.length = nI (363 + W.length) := nI_add 363 W.length
      show f_X9_tell 90 v τ = _
      unfold f_X9_tell
      simp only [kM, rM, aM, om_ref_s, if_true, in5_387, cl5, hm.1.2.2.1, e363, c, hi, let_s]
      rw [if_neg (show ¬ nI W.length = 24 from fun q => hl ((nI_eq (b := 24) (by omega) (by omega)).mp q)), show om_w τ 91 (363 + W.length) v 91 5 = nI W.length from (om_w_j (by omega)).trans hm.1.2.2.1, nI_1, om_w_s]
def chkR (V : Nat → Nat) (W : List Int32) : Nat → Nat → Nat
  | 0, _ => 0
  | m + 1, i => if i < V 6 ∧ nI (V (8 + 5 * i + 3)) = W.getD i 0 then chkR V W m (i + 1) else 1 + i
theorem x_chkLoop {V : Nat → Nat} {Z : Int32} {C0 C1 W : List Int32} {σ : om_S} (hV : WV V) (hW : W.length ≤ 24) (hX : XT 1 V Z C0 C1 σ) (hR : XRow 66 67 W σ) :
    ∀ (m i F : Nat), i + m = W.length → m + 1 < F → f_X8_check_b4 F 0 0 (nI i) σ = f_X8_check_b57 0 (nI (chkR V W m i)) σ := by
  have h6 : V 6 ≤ 9 := hV.1
  intro m
  induction m with
  | zero =>
    intro i F hi hF
    obtain ⟨F, rfl⟩ : ∃ G, F = G + 1 := ⟨F - 1, by omega⟩
    unfold f_X8_check_b4
    simp only [kX, rX, om_ref_s, if_true, x_size kc_66, call_s, hR.1]
    rw [if_pos (nI_le (by omega) (by omega))]
    exact Eq.refl _
  | succ m ih =>
    intro i F hi hF
    obtain ⟨F, rfl⟩ : ∃ G, F = G + 1 := ⟨F - 1, by omega⟩
    obtain ⟨F, rfl⟩ : ∃ G, F = G + 1 := ⟨F - 1, by omega⟩
    have hbad : f_X8_check_b47 (f_X8_check_b4 (F + 1)) 0 (nI i) σ = f_X8_check_b57 0 (nI (1 + i)) σ := by
      unfold f_X8_check_b47 f_X8_check_b51 f_X8_check_b4
      simp only [kX, rX, om_ref_s, if_true, x_size kc_66, call_s, hR.1, nI_1]
      rw [show (1 : Int32) + nI i = nI (1 + i) from nI_add 1 i, if_neg (nI_ne0 (by omega) (by omega)), ite_self]
    rw [f_X8_check_b4]
    unfold chkR
    simp only [kX, rX, om_ref_s, if_true, x_size kc_66, call_s, hR.1]
    rw [if_neg (nI_ge (by omega) (by omega))]
    by_cases h1 : i < V 6
    · rw [x_atI T1 hX.1 h1 h6, call_s, om_nul_s, if_pos (tk1m (by omega)), x_at R66 hR hW (by omega), call_s, hX.2.2.2.2.2.1 i 3 (by omega) (by omega)]
      by_cases h2 : nI (V (8 + 5 * i + 3)) = W.getD i 0
      · rw [if_pos h2, if_pos ⟨h1, h2⟩, ← ih (i + 1) (F + 1) (by omega) (by omega)]
        unfold f_X8_check_b51
        rw [nI_1]
      · rw [if_neg h2, if_neg (fun q => h2 q.2), hbad]
    · rw [x_atNo T1 hX.1 (Or.inr (nI_le (by omega) (by omega))), call_s, om_nul_n, if_neg (fun q => h1 q.1), hbad]
theorem m_chkLoop {V : Nat → Nat} {Z : Int32} {C0 C1 W : List Int32} {σ : om_S} (hV : WV V) (hW : W.length ≤ 24) (hX : MT 91 V Z C0 C1 σ) (hR : ∀ j, j < W.length → σ 91 (363 + j) = W.getD j 0) :
    ∀ (m i F : Nat), i + m = W.length → m < F → f_X9_check_b16 F 90 (nI W.length) (nI i) σ = some (nI (chkR V W m i), σ) := by
  have h6 : V 6 ≤ 9 := hV.1
  intro m
  induction m with
  | zero =>
    intro i F hi hF
    obtain ⟨F, rfl⟩ : ∃ G, F = G + 1 := ⟨F - 1, by omega⟩
    unfold f_X9_check_b16
    rw [if_pos (nI_le (by omega) (by omega))]
    exact Eq.refl _
  | succ m ih =>
    intro i F hi hF
    obtain ⟨F, rfl⟩ : ∃ G, F = G + 1 := ⟨F - 1, by omega⟩
    have c : (nI (363 + i)).toNatClampNeg = 363 + i := nI_clamp (by omega)
    have hi2 : om_in (nI (363 + i)) 387 = True := eq_true (in_nI (by omega) (by omega))
    unfold f_X9_check_b16 chkR
    simp only [kM, rM, aM, om_ref_s, if_true, show (363 : Int32) + nI i = nI (363 + i) from nI_add 363 i, c, hi2, nI_1]
    rw [if_neg (nI_ge (by omega) (by omega))]
    by_cases h1 : i < V 6
    · rw [isMem_y h6 hX h1, call_s, if_neg (by decide), m_its3 (by omega), call_s, hR i (by omega), hX.2.2.2.2.2.1 i 3 (by omega) (by omega)]
      by_cases h2 : nI (V (8 + 5 * i + 3)) = W.getD i 0
      · rw [if_pos h2.symm, if_pos ⟨h1, h2⟩, ih (i + 1) F (by omega) (by omega)]
      · rw [if_neg (fun q => h2 q.symm), if_neg (fun q => h2 q.2), show (1 : Int32) + nI i = nI (1 + i) from nI_add 1 i]
    · rw [isMem_n h6 hX (Or.inr (nI_le (by omega) (by omega))), call_s, if_pos rfl, if_neg (fun q => h1 q.1), show (1 : Int32) + nI i = nI (1 + i) from nI_add 1 i]
theorem op_check : Sim (fun σ => f_X8_check 0 σ) (fun σ => f_X9_check 90 σ) := by
  refine sim_of fun s σ w hx => ?_
  obtain ⟨V, Z, C0, C1, T, W, K, g, E, Tr, Sh⟩ := s
  have hV : WV V := w.1.1
  have hC0 : WC C0 := w.1.2.2.1
  have hC1 : WC C1 := w.1.2.2.2.1
  have hT : T.length ≤ 60 := w.1.2.2.2.2.1
  have hW : W.length ≤ 24 := w.1.2.2.2.2.2
  refine ⟨nI (chkR V W W.length 0), (V, Z, C0, C1, T, [], K, g, E, Tr, Sh), ⟨⟨hV, w.1.2.1, hC0, hC1, hT, Nat.zero_le _⟩, w.2⟩, ⟨om_w σ 66 1 0, ?_, hx.row (hx.1.2.1.congr (om_w_off (by omega)) (om_w_off (by omega))) XRow.nil (fun q _ _ a _ => om_w_off a), fun q hq => om_w_off (by omega)⟩, fun τ hm => ⟨om_w τ 91 5 0, ?_, hm.row hC0.1 hC1.1 (hm.1.2.1.congr (om_w_j (by omega)) (fun j a b => om_w_j (by omega))) ⟨om_w_s, fun j hj => by cases hj⟩ (fun j a b c => om_w_j b) (fun q hq => om_w_off hq), fun q hq => om_w_off (by omega)⟩⟩
  · show f_X8_check 0 σ = _
    unfold f_X8_check
    rw [if_pos kX.1, show f_X8_check_b4 om_F 0 0 0 σ = _ from x_chkLoop hV hW hx.1.1 hx.1.2.2 W.length 0 om_F (by omega) (lt_F (by omega))]
    unfold f_X8_check_b57
    simp only [rX, kX, om_ref_s, if_true, x_clear kc_66, do_s]
  · have hX1 : MT 91 V Z C0 C1 (om_w τ 91 5 0) := hm.1.1.move hC0.1 hC1.1 (fun j _ a _ => om_w_j a)
    have hl := m_chkLoop hV hW hX1 (fun j hj => by rw [om_w_j (by omega)]; exact hm.1.2.2.2 j hj) W.length 0 om_F (by omega) (lt_F (by omega))
    show f_X9_check 90 τ = _
    unfold f_X9_check
    simp only [kM, rM, aM, om_ref_s, if_true, in5_387, cl5, hm.1.2.2.1, let_s]
    exact hl
theorem op_count (v : Int32) : Sim (fun σ => f_X8_count 0 v σ) (fun σ => f_X9_count 90 v σ) := by
  refine sim_of fun s σ w hx => ?_
  obtain ⟨V, Z, C0, C1, T, W, K, g, E, Tr, Sh⟩ := s
  by_cases h : (0 : Int32) ≤ v ∧ v ≤ 7
  · obtain ⟨f, hf, rfl⟩ := win (n := 7) h (by decide) rfl (by decide)
    have hxx := hx
    obtain ⟨⟨⟨x1, x2, x3, x4, x5, _⟩, x6, x7⟩, _, _, _, x8, _⟩ := hxx
    have key : ∀ r, f_X8_count 0 (nI f) σ = some (r, σ) → (∀ τ, HM (V, Z, C0, C1, T, W, K, g, E, Tr, Sh) τ → f_X9_count 90 (nI f) τ = some (r, τ)) → ∃ r s', WF s' ∧ XO (fun σ => f_X8_count 0 (nI f) σ) r s' σ ∧ ∀ τ, HM (V, Z, C0, C1, T, W, K, g, E, Tr, Sh) τ → MO (fun σ => f_X9_count 90 (nI f) σ) r s' τ := fun r h1 h2 => ⟨r, (V, Z, C0, C1, T, W, K, g, E, Tr, Sh), w, XO.id hx h1, fun τ hm => MO.id hm (h2 τ hm)⟩
    rcases (show f = 0 ∨ f = 1 ∨ f = 2 ∨ f = 3 ∨ f = 4 ∨ f = 5 ∨ f = 6 ∨ f = 7 by omega) with rfl | rfl | rfl | rfl | rfl | rfl | rfl | rfl
    · refine key (nI (V 6)) ?_ (fun τ hm => ?_)
      · unfold f_X8_count
        simp only [kX, rX, om_ref_s, if_true, x_size kc_62, x_size kc_66, x_size kc_78, call_s, rf_77_0, kc_78, x1]
        rw [if_pos (by decide)]
      · unfold f_X9_count
        simp only [kM, rM, aM, om_ref_s, if_true, in0_387, in1_387, in2_387, in3_387, in4_387, in5_387, in6_387, cl0, cl1, cl2, cl3, cl4, cl5, cl6, hm.1.1.1]
        rw [if_pos (by decide)]
    · refine key (nI (V 0)) ?_ (fun τ hm => ?_)
      · unfold f_X8_count
        simp only [kX, rX, om_ref_s, if_true, x_size kc_62, x_size kc_66, x_size kc_78, call_s, rf_77_0, kc_78, x2]
        rw [if_neg (by decide), if_pos (by decide)]
      · unfold f_X9_count
        simp only [kM, rM, aM, om_ref_s, if_true, in0_387, in1_387, in2_387, in3_387, in4_387, in5_387, in6_387, cl0, cl1, cl2, cl3, cl4, cl5, cl6, hm.1.1.2.1]
        rw [if_neg (by decide), if_pos (by decide)]
    · refine key (nI (V 1)) ?_ (fun τ hm => ?_)
      · unfold f_X8_count
        simp only [kX, rX, om_ref_s, if_true, x_size kc_62, x_size kc_66, x_size kc_78, call_s, rf_77_0, kc_78, x3]
        rw [if_neg (by decide), if_neg (by decide), if_pos (by decide)]
      · unfold f_X9_count
        simp only [kM, rM, aM, om_ref_s, if_true, in0_387, in1_387, in2_387, in3_387, in4_387, in5_387, in6_387, cl0, cl1, cl2, cl3, cl4, cl5, cl6, hm.1.1.2.2.1]
        rw [if_neg (by decide), if_neg (by decide), if_pos (by decide)]
    · refine key (nI (V 2)) ?_ (fun τ hm => ?_)
      · unfold f_X8_count
        simp only [kX, rX, om_ref_s, if_true, x_size kc_62, x_size kc_66, x_size kc_78, call_s, rf_77_0, kc_78, x4]
        rw [if_neg (by decide), if_neg (by decide), if_neg (by decide), if_pos (by decide)]
      · unfold f_X9_count
        simp only [kM, rM, aM, om_ref_s, if_true, in0_387, in1_387, in2_387, in3_387, in4_387, in5_387, in6_387, cl0, cl1, cl2, cl3, cl4, cl5, cl6, hm.1.1.2.2.2.1]
        rw [if_neg (by decide), if_neg (by decide), if_neg (by decide), if_pos (by decide)]
    · refine key (nI T.length) ?_ (fun τ hm => ?_)
      · unfold f_X8_count
        simp only [kX, rX, om_ref_s, if_true, x_size kc_62, x_size kc_66, x_size kc_78, call_s, rf_77_0, kc_78, x6.1]
        rw [if_neg (by decide), if_neg (by decide), if_neg (by decide), if_neg (by decide), if_pos (by decide)]
      · unfold f_X9_count
        simp only [kM, rM, aM, om_ref_s, if_true, in0_387, in1_387, in2_387, in3_387, in4_387, in5_387, in6_387, cl0, cl1, cl2, cl3, cl4, cl5, cl6, hm.1.2.1.1]
        rw [if_neg (by decide), if_neg (by decide), if_neg (by decide), if_neg (by decide), if_pos (by decide)]
    · refine key (nI W.length) ?_ (fun τ hm => ?_)
      · unfold f_X8_count
        simp only [kX, rX, om_ref_s, if_true, x_size kc_62, x_size kc_66, x_size kc_78, call_s, rf_77_0, kc_78, x7.1]
        rw [if_neg (by decide), if_neg (by decide), if_neg (by decide), if_neg (by decide), if_neg (by decide), if_pos (by decide)]
      · unfold f_X9_count
        simp only [kM, rM, aM, om_ref_s, if_true, in0_387, in1_387, in2_387, in3_387, in4_387, in5_387, in6_387, cl0, cl1, cl2, cl3, cl4, cl5, cl6, hm.1.2.2.1]
        rw [if_neg (by decide), if_neg (by decide), if_neg (by decide), if_neg (by decide), if_neg (by decide), if_pos (by decide)]
    · refine key (nI Tr.length) ?_ (fun τ hm => ?_)
      · unfold f_X8_count
        simp only [kX, rX, om_ref_s, if_true, x_size kc_62, x_size kc_66, x_size kc_78, call_s, rf_77_0, kc_78, x8.1]
        rw [if_neg (by decide), if_neg (by decide), if_neg (by decide), if_neg (by decide), if_neg (by decide), if_neg (by decide), if_pos (by decide)]
      · unfold f_X9_count
        simp only [kM, rM, aM, om_ref_s, if_true, in0_387, in1_387, in2_387, in3_387, in4_387, in5_387, in6_387, cl0, cl1, cl2, cl3, cl4, cl5, cl6, hm.2.2.2.2.1.1]
        rw [if_neg (by decide), if_neg (by decide), if_neg (by decide), if_neg (by decide), if_neg (by decide), if_neg (by decide), if_pos (by decide)]
    · refine key (Z) ?_ (fun τ hm => ?_)
      · unfold f_X8_count
        simp only [kX, rX, om_ref_s, if_true, x_size kc_62, x_size kc_66, x_size kc_78, call_s, rf_77_0, kc_78, x5]
        rw [if_neg (by decide), if_neg (by decide), if_neg (by decide), if_neg (by decide), if_neg (by decide), if_neg (by decide), if_neg (by decide), if_pos (by decide)]
      · unfold f_X9_count
        simp only [kM, rM, aM, om_ref_s, if_true, in0_387, in1_387, in2_387, in3_387, in4_387, in5_387, in6_387, cl0, cl1, cl2, cl3, cl4, cl5, cl6, hm.1.1.2.2.2.2.1]
        rw [if_neg (by decide), if_neg (by decide), if_neg (by decide), if_neg (by decide), if_neg (by decide), if_neg (by decide), if_neg (by decide), if_pos (by decide)]
  · have nv : ∀ j : Nat, j < 8 → v ≠ nI j := by
      intro j hj e
      refine h ?_
      rw [e]
      exact ⟨nI_le (a := 0) (Nat.zero_le _) (by omega), nI_le (b := 7) (by omega) (by omega)⟩
    refine ⟨rfE 1, (V, Z, C0, C1, T, W, K, g, upE E 1, Tr, Sh), w, XO.no0 hx (k := 1) (by omega) ?_, fun τ hm => MO.no0 hm (k := 1) (by omega) ?_⟩
    · show f_X8_count 0 v σ = _
      unfold f_X8_count 
      simp only [kX, rX, om_ref_s, if_true, call_s, let_s, om_nul_s, om_nul_n, x_size kc_62]
      rw [if_neg (show ¬ v = 0 from nv 0 (by omega)), if_neg (show ¬ v = 1 from nv 1 (by omega)), if_neg (show ¬ v = 2 from nv 2 (by omega)), if_neg (show ¬ v = 3 from nv 3 (by omega)), if_neg (show ¬ v = 4 from nv 4 (by omega)), if_neg (show ¬ v = 5 from nv 5 (by omega)), if_neg (show ¬ v = 6 from nv 6 (by omega)), if_neg (show ¬ v = 7 from nv 7 (by omega))]
      exact Eq.refl _
    · show f_X9_count 90 v τ = _
      unfold f_X9_count 
      simp only [kM, rM, aM, om_ref_s, if_true, call_s, let_s, in0_387]
      rw [if_neg (show ¬ v = 0 from nv 0 (by omega)), if_neg (show ¬ v = 1 from nv 1 (by omega)), if_neg (show ¬ v = 2 from nv 2 (by omega)), if_neg (show ¬ v = 3 from nv 3 (by omega)), if_neg (show ¬ v = 4 from nv 4 (by omega)), if_neg (show ¬ v = 5 from nv 5 (by omega)), if_neg (show ¬ v = 6 from nv 6 (by omega)), if_neg (show ¬ v = 7 from nv 7 (by omega))]
      exact Eq.refl _
theorem op_told (v : Int32) : Sim (fun σ => f_X8_told 0 v σ) (fun σ => f_X9_told 90 v σ) := by
  refine sim_of fun s σ w hx => ?_
  obtain ⟨V, Z, C0, C1, T, W, K, g, E, Tr, Sh⟩ := s
  by_cases h : (1 : Int32) ≤ v ∧ v ≤ 6
  · obtain ⟨k, hk, rfl⟩ := win (n := 6) h (by decide) rfl (by decide)
    have c : (nI k).toNatClampNeg = k := nI_clamp (by omega)
    have hi : om_in (nI k) 7 = True := eq_true (in_nI (by omega) (by omega))
    refine ⟨E k, (V, Z, C0, C1, T, W, K, g, E, Tr, Sh), w, XO.id hx ?_, fun τ hm => MO.id hm ?_⟩
    · show f_X8_told 0 (nI k) σ = _
      unfold f_X8_told
      simp only [kX, rX, om_ref_s, if_true, x_isWithin, call_s, al_81, c, hi]
      rw [bI_y h, hx.2.2.2.1 k (by omega)]
    · show f_X9_told 90 (nI k) τ = _
      unfold f_X9_told
      simp only [kM, rM, aM, om_ref_s, if_true, m_in, call_s, c, hi]
      rw [bI_y h, hm.2.2.2.1 k (by omega)]
  · refine ⟨rfE 1, (V, Z, C0, C1, T, W, K, g, upE E 1, Tr, Sh), w, XO.no0 hx (k := 1) (by omega) ?_, fun τ hm => MO.no0 hm (k := 1) (by omega) ?_⟩
    · show f_X8_told 0 v σ = _
      unfold f_X8_told 
      simp only [kX, rX, om_ref_s, if_true, call_s, let_s, om_nul_s, om_nul_n, x_isWithin]
      rw [bI_n h]
      exact Eq.refl _
    · show f_X9_told 90 v τ = _
      unfold f_X9_told 
      simp only [kM, rM, aM, om_ref_s, if_true, call_s, let_s, m_in]
      rw [bI_n h]
      exact Eq.refl _
theorem op_body (v : Int32) : Sim (fun σ => f_X8_body 0 v σ) (fun σ => f_X9_body 90 v σ) := by
  refine sim_of fun s σ w hx => ?_
  obtain ⟨V, Z, C0, C1, T, W, K, g, E, Tr, Sh⟩ := s
  have hTr : Tr.length ≤ 30 := w.2.2.2.1
  by_cases h : (0 : Int32) ≤ v ∧ v < nI Tr.length
  · obtain ⟨j, hj, rfl⟩ := ltN (by omega) h
    have c : (nI j).toNatClampNeg = j := nI_clamp (by omega)
    have hi : om_in (nI j) 30 = True := eq_true (in_nI (by omega) (by omega))
    refine ⟨Tr.getD j 0, (V, Z, C0, C1, T, W, K, g, E, Tr, Sh), w, XO.id hx ?_, fun τ hm => MO.id hm ?_⟩
    · show f_X8_body 0 (nI j) σ = _
      unfold f_X8_body
      simp only [kX, rX, om_ref_s, if_true, rf_77_0, kc_78, x_has R78 hx.2.2.2.2.1 hTr, call_s, x_at R78 hx.2.2.2.2.1 hTr hj]
      rw [bI_y h]
    · show f_X9_body 90 (nI j) τ = _
      unfold f_X9_body
      simp only [kM, rM, aM, om_ref_s, if_true, m_in, call_s, hm.2.2.2.2.1.1, c, hi, hm.2.2.2.2.1.2 j hj]
      rw [bI_y ((in_lt (by omega)).mpr h)]
  · refine ⟨rfE 2, (V, Z, C0, C1, T, W, K, g, upE E 2, Tr, Sh), w, XO.no0 hx (k := 2) (by omega) ?_, fun τ hm => MO.no0 hm (k := 2) (by omega) ?_⟩
    · show f_X8_body 0 v σ = _
      unfold f_X8_body 
      simp only [kX, rX, om_ref_s, if_true, call_s, let_s, om_nul_s, om_nul_n, rf_77_0, kc_78, x_has R78 hx.2.2.2.2.1 hTr]
      rw [bI_n h]
      exact Eq.refl _
    · show f_X9_body 90 v τ = _
      unfold f_X9_body 
      simp only [kM, rM, aM, om_ref_s, if_true, call_s, let_s, m_in, hm.2.2.2.2.1.1]
      rw [bI_n (fun q => h ((in_lt (by omega)).mp q))]
      exact Eq.refl _
