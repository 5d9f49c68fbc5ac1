/-! ===== nights, and what would be ===== -/
theorem HX.night {V : Nat → Nat} {Z : Int32} {C0 C1 T W : List Int32} {K : Option oA_K} {g : Int32} {E : Nat → Int32} {Tr : List Int32} {Sh : Nat → Int32 × Nat × (Nat → Int32)} {V' : Nat → Nat} {Z' : Int32} {σ σ' : om_S} (h : HX (V, Z, C0, C1, T, W, K, g, E, Tr, Sh) σ) (hT : XT 1 V' Z' C0 C1 σ') (hz : Zero3 σ') (hf : xfr 1 σ σ') : HX (V', Z', C0, C1, T, W, K, g, E, Tr, Sh) σ' := by
  have hz0 := h.xz
  refine HX.tw h ⟨hT, h.1.2.1.congr (hf _ (by omega) (by omega)) (hf _ (by omega) (by omega)), h.1.2.2.congr (hf _ (by omega) (by omega)) (hf _ (by omega) (by omega))⟩ ⟨hz, ?_, ?_, ?_, ?_⟩ (fun q hq => hf q (by omega) (by omega))
  · rw [hf 22 (by omega) (by omega)]
    exact hz0.2.1
  · rw [hf 26 (by omega) (by omega)]
    exact hz0.2.2.1
  · rw [hf 41 (by omega) (by omega)]
    exact hz0.2.2.2.1
  · rw [hf 45 (by omega) (by omega)]
    exact hz0.2.2.2.2
theorem HM.night {V : Nat → Nat} {Z : Int32} {C0 C1 T W : List Int32} {K : Option oA_K} {g : Int32} {E : Nat → Int32} {Tr : List Int32} {Sh : Nat → Int32 × Nat × (Nat → Int32)} {V' : Nat → Nat} {Z' : Int32} {σ σ' : om_S} (h : HM (V, Z, C0, C1, T, W, K, g, E, Tr, Sh) σ) (hT : MT 91 V' Z' C0 C1 σ') (z1 : σ' 98 0 = 0) (z2 : σ' 99 0 = 0) (hf : mfr σ σ') : HM (V', Z', C0, C1, T, W, K, g, E, Tr, Sh) σ' := by
  have e90 := hf.1 90 (by omega) (by omega) (by omega) (by omega) (by omega)
  refine HM.tw h ⟨hT, h.1.2.1.congr (hf.2 4 (by omega)) (fun j a b => hf.2 j (by omega)), h.1.2.2.congr (hf.2 5 (by omega)) (fun j a b => hf.2 j (by omega))⟩ ⟨?_, z1, z2⟩ (fun q hq => hf.1 q (by omega) (by omega) (by omega) (by omega) (by omega)) (by rw [e90]) (by rw [e90])
  rw [e90]
  exact h.mz.1
theorem lt_F {n : Nat} (h : n < 5000) : n < om_F := by
  unfold om_F
  exact h
theorem m_why {V : Nat → Nat} {Z : Int32} {C0 C1 : List Int32} {σ : om_S} {n m : Nat} {hi : Int32} (h : MT 91 V Z C0 C1 σ) (hV : WV V) (hn : n < 1000) (hw : (1 : Int32) ≤ nI n ∧ nI n ≤ hi) : f_X9_whyNot 90 (nI n) hi σ = some (if V 1 + n ≤ 9999 then 0 else 3, σ) := by
  have h1 := hV.2.2.1
  unfold f_X9_whyNot
  simp only [kM, rM, aM, om_ref_s, if_true, m_in, call_s, in1_387, cl1, h.2.2.1, nI_add]
  rw [bI_y hw]
  by_cases e : V 1 + n ≤ 9999
  · rw [if_pos (show nI (V 1 + n) ≤ 9999 from nI_le (b := 9999) e (by omega)), if_pos e]
  · rw [if_neg (show ¬ nI (V 1 + n) ≤ 9999 from nI_ge (a := 9999) (by omega) (by omega)), if_neg e]
theorem m_whyN {σ : om_S} {a hi : Int32} (hw : ¬ ((1 : Int32) ≤ a ∧ a ≤ hi)) : f_X9_whyNot 90 a hi σ = some (1, σ) := by
  unfold f_X9_whyNot
  simp only [kM, rM, aM, om_ref_s, if_true, m_in, call_s]
  rw [bI_n hw]
theorem n3_0 : ((3 : Int32) = 0) = False := eq_false (by decide)
theorem op_nights (a : Int32) : Sim (fun σ => f_X8_nights 0 a σ) (fun σ => f_X9_nights 90 a σ) := by
  refine sim_of fun s σ w hx => ?_
  obtain ⟨V, Z, C0, C1, T, W, K, g, E, Tr, Sh⟩ := s
  have hV : WV V := w.1.1
  have h1 : V 1 ≤ 9999 := w.1.2.1
  by_cases h : (1 : Int32) ≤ a ∧ a ≤ 60
  · obtain ⟨n, hn, rfl⟩ := win (n := 60) h (by decide) rfl (by decide)
    by_cases hl : V 1 + n ≤ 9999
    · obtain ⟨σ', q1, q2, q3, q4⟩ := x_nightsLoop w.1.2.2.1 w.1.2.2.2.1 n (by omega) n 0 0 om_F V σ (by omega) (lt_F (by omega)) (by omega) hV hx.1.1 hx.xz.1
      have q1' : f_X8_nights_b41 om_F 0 (nI n) 0 0 σ = some (nI (goN C0 C1 (-1) n V), σ') := by
        rw [Nat.zero_add] at q1
        exact q1
      refine ⟨nI (goN C0 C1 (-1) n V), (goV C0 C1 (-1) n V, Z, C0, C1, T, W, K, g, E, Tr, Sh), w.setV (WV.go n hV (by omega)) (by rw [goV_1]; exact hl), ⟨σ', ?_, hx.night q2 q3 q4, fun q hq => q4 q (by omega) (by omega)⟩, fun τ hm => ?_⟩
      · show f_X8_nights 0 (nI n) σ = _
        unfold f_X8_nights
        simp only [kX, rX, om_ref_s, if_true, x_isWithin, call_s, hx.1.1.2.2.1, nI_add]
        rw [bI_y h, if_pos (show nI (V 1 + n) ≤ 9999 from nI_le (b := 9999) hl (by omega)), q1']
      · obtain ⟨τ', r1, r2, r3, r4, r5⟩ := m_goLoop (sp := -1) w.1.2.2.1 w.1.2.2.2.1 n (by omega) n 0 0 om_F V τ (by omega) (lt_F (by omega)) (by omega) hV hm.1.1 hm.mz.1 hm.mz.2.1 hm.mz.2.2
        have r1' : f_X9_goes_b4 om_F 90 (nI n) 0 0 τ = some (nI (goN C0 C1 (-1) n V), τ') := by
          rw [Nat.zero_add] at r1
          exact r1
        refine ⟨τ', ?_, hm.night r2 r3 r4 r5, fun q hq => r5.1 q (by omega) (by omega) (by omega) (by omega) (by omega)⟩
        show f_X9_nights 90 (nI n) τ = _
        unfold f_X9_nights f_X9_goes
        simp only [kM, if_true, m_why (m := 0) hm.1.1 hV (show n < 1000 by omega) h, if_pos hl, call_s, r1']
    · refine ⟨rfE 3, (V, Z, C0, C1, T, W, K, g, upE E 3, Tr, Sh), w, XO.no0 hx (k := 3) (by omega) ?_, fun τ hm => MO.no0 hm (k := 3) (by omega) ?_⟩
      · show f_X8_nights 0 (nI n) σ = _
        unfold f_X8_nights
        simp only [kX, rX, om_ref_s, if_true, x_isWithin, call_s, hx.1.1.2.2.1, nI_add]
        rw [bI_y h, if_neg (show ¬ nI (V 1 + n) ≤ 9999 from nI_ge (a := 9999) (by omega) (by omega))]
        exact Eq.refl _
      · show f_X9_nights 90 (nI n) τ = _
        unfold f_X9_nights
        simp only [kM, if_true, m_why (m := 0) hm.1.1 hV (show n < 1000 by omega) h, if_neg hl, call_s, n3_0, if_false]
        exact Eq.refl _
  · refine ⟨rfE 1, (V, Z, C0, C1, T, W, K, g, upE E 1, Tr, Sh), w, XO.no0 hx (k := 1) (by omega) ?_, fun τ hm => MO.no0 hm (k := 1) (by omega) ?_⟩
    · show f_X8_nights 0 a σ = _
      unfold f_X8_nights 
      simp only [kX, rX, om_ref_s, if_true, call_s, let_s, om_nul_s, om_nul_n, x_isWithin]
      rw [bI_n h]
      exact Eq.refl _
    · show f_X9_nights 90 a τ = _
      unfold f_X9_nights 
      simp only [kM, rM, aM, om_ref_s, if_true, call_s, let_s, m_whyN h, n10, if_false]
      exact Eq.refl _
theorem op_loose (a : Int32) : Sim (fun σ => f_X8_loose 0 a σ) (fun σ => f_X9_loose 90 a σ) := by
  refine sim_of fun s σ w hx => ?_
  obtain ⟨V, Z, C0, C1, T, W, K, g, E, Tr, Sh⟩ := s
  have hV : WV V := w.1.1
  have h1 : V 1 ≤ 9999 := w.1.2.1
  by_cases h : (1 : Int32) ≤ a ∧ a ≤ 30
  · obtain ⟨n, hn, rfl⟩ := win (n := 30) h (by decide) rfl (by decide)
    by_cases hl : V 1 + n ≤ 9999
    · obtain ⟨σ', q1, q2, q3, q4⟩ := x_looseLoop w.1.2.2.1 w.1.2.2.2.1 n (by omega) n 0 0 om_F V Z σ (by omega) (lt_F (by omega)) (by omega) hV hx.1.1 hx.xz.1
      have q1' : f_X8_loose_b41 om_F 0 (nI n) 0 0 σ = some (nI ((looseT C0 C1 n V Z).2.2), σ') := by
        rw [Nat.zero_add] at q1
        exact q1
      refine ⟨nI ((looseT C0 C1 n V Z).2.2), ((looseT C0 C1 n V Z).1, (looseT C0 C1 n V Z).2.1, C0, C1, T, W, K, g, E, Tr, Sh), w.setV (WV.loose n Z hV (by omega)) (by rw [looseT_1]; exact hl), ⟨σ', ?_, hx.night q2 q3 q4, fun q hq => q4 q (by omega) (by omega)⟩, fun τ hm => ?_⟩
      · show f_X8_loose 0 (nI n) σ = _
        unfold f_X8_loose
        simp only [kX, rX, om_ref_s, if_true, x_isWithin, call_s, hx.1.1.2.2.1, nI_add]
        rw [bI_y h, if_pos (show nI (V 1 + n) ≤ 9999 from nI_le (b := 9999) hl (by omega)), q1']
      · obtain ⟨τ', r1, r2, r3, r4, r5⟩ := m_looseLoop w.1.2.2.1 w.1.2.2.2.1 n (by omega) n 0 0 om_F V Z τ (by omega) (lt_F (by omega)) (by omega) hV hm.1.1 hm.mz.1 hm.mz.2.1 hm.mz.2.2
        have r1' : f_X9_loose_b23 om_F 90 (nI n) 0 0 τ = some (nI ((looseT C0 C1 n V Z).2.2), τ') := by
          rw [Nat.zero_add] at r1
          exact r1
        refine ⟨τ', ?_, hm.night r2 r3 r4 r5, fun q hq => r5.1 q (by omega) (by omega) (by omega) (by omega) (by omega)⟩
        show f_X9_loose 90 (nI n) τ = _
        unfold f_X9_loose 
        simp only [kM, if_true, m_why (m := 0) hm.1.1 hV (show n < 1000 by omega) h, if_pos hl, call_s, r1']
    · refine ⟨rfE 3, (V, Z, C0, C1, T, W, K, g, upE E 3, Tr, Sh), w, XO.no0 hx (k := 3) (by omega) ?_, fun τ hm => MO.no0 hm (k := 3) (by omega) ?_⟩
      · show f_X8_loose 0 (nI n) σ = _
        unfold f_X8_loose
        simp only [kX, rX, om_ref_s, if_true, x_isWithin, call_s, hx.1.1.2.2.1, nI_add]
        rw [bI_y h, if_neg (show ¬ nI (V 1 + n) ≤ 9999 from nI_ge (a := 9999) (by omega) (by omega))]
        exact Eq.refl _
      · show f_X9_loose 90 (nI n) τ = _
        unfold f_X9_loose
        simp only [kM, if_true, m_why (m := 0) hm.1.1 hV (show n < 1000 by omega) h, if_neg hl, call_s, n3_0, if_false]
        exact Eq.refl _
  · refine ⟨rfE 1, (V, Z, C0, C1, T, W, K, g, upE E 1, Tr, Sh), w, XO.no0 hx (k := 1) (by omega) ?_, fun τ hm => MO.no0 hm (k := 1) (by omega) ?_⟩
    · show f_X8_loose 0 a σ = _
      unfold f_X8_loose 
      simp only [kX, rX, om_ref_s, if_true, call_s, let_s, om_nul_s, om_nul_n, x_isWithin]
      rw [bI_n h]
      exact Eq.refl _
    · show f_X9_loose 90 a τ = _
      unfold f_X9_loose 
      simp only [kM, rM, aM, om_ref_s, if_true, call_s, let_s, m_whyN h, n10, if_false]
      exact Eq.refl _
theorem xscr.find {s : oA_S} {σ σ' : om_S} (h : HX s σ) (hz : Zero3 σ') (e : ∀ q, ¬ scrX 1 q → σ' q = σ q) : xscr σ σ' := by
  have hz0 := h.xz
  refine ⟨fun q a b c d => e q (by unfold scrX; omega), hz, ?_, ?_, ?_, ?_⟩
  · rw [e 22 (by unfold scrX; omega)]
    exact hz0.2.1
  · rw [e 26 (by unfold scrX; omega)]
    exact hz0.2.2.1
  · rw [e 41 (by unfold scrX; omega)]
    exact hz0.2.2.2.1
  · rw [e 45 (by unfold scrX; omega)]
    exact hz0.2.2.2.2
theorem mscr.set {s : oA_S} {σ σ' : om_S} (h : HM s σ) (z1 : σ' 98 0 = 0) (z2 : σ' 99 0 = 0) (e : ∀ q, q ≠ 96 → q ≠ 97 → q ≠ 98 → q ≠ 99 → σ' q = σ q) : mscr σ σ' := by
  have e90 := e 90 (by omega) (by omega) (by omega) (by omega)
  refine ⟨fun q _ _ _ a b c d _ => e q a b c d, by rw [e90], by rw [e90], ?_, z1, z2⟩
  rw [e90]
  exact h.mz.1
theorem XO.no1 {V : Nat → Nat} {Z : Int32} {C0 C1 T W : List Int32} {K : Option oA_K} {g : Int32} {E : Nat → Int32} {Tr : List Int32} {Sh : Nat → Int32 × Nat × (Nat → Int32)} {f : om_S → Option (Int32 × om_S)} {k : Nat} {σ σ1 : om_S} (h : HX (V, Z, C0, C1, T, W, K, g, E, Tr, Sh) σ) (hs : xscr σ σ1) (hk : k < 7) (e : f σ = om_call (f_X8_refuse 0 (nI k) σ1) fun r s => some (r, s)) : XO f (rfE k) (V, Z, C0, C1, T, W, K, g, upE E k, Tr, Sh) σ := XO.no (h.scr hs) hk (fun q hq => hs.1 q (by omega) (by omega) (by omega) (by omega)) e
theorem MO.no1 {V : Nat → Nat} {Z : Int32} {C0 C1 T W : List Int32} {K : Option oA_K} {g : Int32} {E : Nat → Int32} {Tr : List Int32} {Sh : Nat → Int32 × Nat × (Nat → Int32)} {f : om_S → Option (Int32 × om_S)} {k : Nat} {σ σ1 : om_S} (h : HM (V, Z, C0, C1, T, W, K, g, E, Tr, Sh) σ) (hs : mscr σ σ1) (hk : k < 7) (e : f σ = om_call (f_X9_error 90 (nI k) σ1) fun r s => some (r, s)) : MO f (rfE k) (V, Z, C0, C1, T, W, K, g, upE E k, Tr, Sh) σ := MO.no (h.scr hs) hk (fun q hq => hs.1 q (by omega) (by omega) (by omega) (by omega) (by omega) (by omega) (by omega) (by omega)) e
theorem mscr.trans {σ σ1 σ2 : om_S} (h : mscr σ σ1) (h2 : mscr σ1 σ2) : mscr σ σ2 := ⟨fun q a b c d e f g i => by rw [h2.1 q a b c d e f g i, h.1 q a b c d e f g i], by rw [h2.2.1, h.2.1], by rw [h2.2.2.1, h.2.2.1], h2.2.2.2⟩
theorem xscr.trans {σ σ1 σ2 : om_S} (h : xscr σ σ1) (h2 : xscr σ1 σ2) : xscr σ σ2 := ⟨fun q a b c d => by rw [h2.1 q a b c d, h.1 q a b c d], h2.2⟩
theorem op_tonight (a : Int32) : Sim (fun σ => f_X8_tonight 0 a σ) (fun σ => f_X9_tonight 90 a σ) := by
  refine sim_of fun s σ w hx => ?_
  obtain ⟨V, Z, C0, C1, T, W, K, g, E, Tr, Sh⟩ := s
  have hV : WV V := w.1.1
  have h6 : V 6 ≤ 9 := hV.1
  have hC0 : WC C0 := w.1.2.2.1
  have hC1 : WC C1 := w.1.2.2.2.1
  by_cases h : (0 : Int32) ≤ a ∧ a ≤ 3
  · obtain ⟨n, hn, rfl⟩ := win (n := 3) h (by decide) rfl (by decide)
    have hms : ∀ τ, HM (V, Z, C0, C1, T, W, K, g, E, Tr, Sh) τ → ∃ τ', f_X9_tonightSet 90 τ = some (triI (pickV V C0 C1 (-1)), τ') ∧ (∀ t, pickV V C0 C1 (-1) = some t → t.1 < 2 ^ (V 6) ∧ τ' 98 t.1 = t.2.1 ∧ τ' 99 t.1 = t.2.2) ∧ mscr τ τ' := by
      intro τ hm
      obtain ⟨τ', r1, r2, r3, r4, r5⟩ := m_tonightSet (sp := -1) hV hC0 hC1 hm.1.1 hm.mz.1 hm.mz.2.1 hm.mz.2.2
      exact ⟨τ', r1, r2, mscr.set hm r3 r4 r5⟩
    by_cases e3 : n = 3
    · subst e3
      obtain ⟨σ', q1, q2⟩ := x_wanted T1 hV hC1 hx.1.1
      refine ⟨wantedV V C1, (V, Z, C0, C1, T, W, K, g, E, Tr, Sh), w, XO.scr hx (xscr.l hx (fun q _ a => q2 q a)) ?_, fun τ hm => ?_⟩
      · show f_X8_tonight 0 (nI 3) σ = _
        unfold f_X8_tonight
        simp only [kX, rX, om_ref_s, if_true, x_isWithin, call_s, q1]
        rw [bI_y h, if_pos (by decide)]
      · obtain ⟨τ1, r1, r2, r3⟩ := hms τ hm
        have hm1 := hm.scr r3
        obtain ⟨τ2, p1, p2⟩ := m_wanted hV hC1 hm1.1.1
        refine MO.scr hm (r3.trans (mscr.l hm1 p2)) ?_
        show f_X9_tonight 90 (nI 3) τ = _
        unfold f_X9_tonight
        simp only [kM, if_true, m_in, call_s, r1, p1]
        rw [bI_y h, if_pos (by decide)]
    · have n3 : ¬ nI n = 3 := fun q => e3 ((nI_eq (b := 3) (by omega) (by omega)).mp q)
      obtain ⟨σ', q1, q2, q3, q4, q5⟩ := x_find (sp := -1) T1 hV hC0 hC1 hx.1.1 hx.xz.1
      have hs := xscr.find hx q4 q5
      cases ho : pickV V C0 C1 (-1) with
      | none =>
        refine ⟨rfE 2, (V, Z, C0, C1, T, W, K, g, upE E 2, Tr, Sh), w, XO.no1 hx hs (k := 2) (by omega) ?_, fun τ hm => ?_⟩
        · show f_X8_tonight 0 (nI n) σ = _
          unfold f_X8_tonight
          simp only [kX, rX, om_ref_s, if_true, x_isWithin, call_s, q1]
          rw [bI_y h, if_neg n3, bI_n (by rw [ho]; exact Bool.false_ne_true)]
          exact Eq.refl _
        · obtain ⟨τ1, r1, r2, r3⟩ := hms τ hm
          refine MO.no1 hm r3 (k := 2) (by omega) ?_
          show f_X9_tonight 90 (nI n) τ = _
          unfold f_X9_tonight
          simp only [kM, if_true, m_in, call_s, r1]
          rw [bI_y h, if_neg n3, ho, if_pos (show triI none = -1 from rfl)]
          exact Eq.refl _
      | some t =>
        have hf := x_foundSet hV q2 q3 ho
        have h9 := p9 h6
        have hsome : (pickV V C0 C1 (-1)).isSome = true := by
          rw [ho]
          rfl
        refine ⟨if n = 0 then nI t.1 else if n = 1 then t.2.2 else t.2.1, (V, Z, C0, C1, T, W, K, g, E, Tr, Sh), w, XO.scr hx hs ?_, fun τ hm => ?_⟩
        · show f_X8_tonight 0 (nI n) σ = _
          unfold f_X8_tonight
          simp only [kX, rX, om_ref_s, if_true, x_isWithin, call_s, q1, hf.1, hf.2.1, hf.2.2]
          rw [bI_y h, if_neg n3, bI_y hsome]
          rcases (show n = 0 ∨ n = 1 ∨ n = 2 by omega) with rfl | rfl | rfl
          · rw [if_pos (by decide), if_pos rfl]
          · rw [if_neg (by decide), if_pos (by decide), if_neg (by decide), if_pos rfl]
          · rw [if_neg (by decide), if_neg (by decide), if_neg (by decide), if_neg (by decide)]
        · obtain ⟨τ1, r1, r2, r3⟩ := hms τ hm
          obtain ⟨g1, g2, g3⟩ := r2 t ho
          refine MO.scr hm r3 ?_
          have c : (nI t.1).toNatClampNeg = t.1 := nI_clamp (by omega)
          show f_X9_tonight 90 (nI n) τ = _
          unfold f_X9_tonight
          simp only [kM, rM, aM, om_ref_s, if_true, m_in, call_s, r1]
          rw [bI_y h, if_neg n3, ho, show triI (some t) = nI t.1 from rfl, if_neg (nI_nm1 (by omega))]
          rcases (show n = 0 ∨ n = 1 ∨ n = 2 by omega) with rfl | rfl | rfl
          · rw [if_pos (by decide), if_pos rfl]
          · rw [if_neg (by decide), if_pos (by decide), if_pos (in_nI (by omega) (by omega)), c, g3, if_neg (by decide), if_pos rfl]
          · rw [if_neg (by decide), if_neg (by decide), if_pos (in_nI (by omega) (by omega)), c, g2, if_neg (by decide), if_neg (by decide)]
  · refine ⟨rfE 1, (V, Z, C0, C1, T, W, K, g, upE E 1, Tr, Sh), w, XO.no0 hx (k := 1) (by omega) ?_, fun τ hm => MO.no0 hm (k := 1) (by omega) ?_⟩
    · show f_X8_tonight 0 a σ = _
      unfold f_X8_tonight 
      simp only [kX, rX, om_ref_s, if_true, call_s, let_s, om_nul_s, om_nul_n, x_isWithin]
      rw [bI_n h]
      exact Eq.refl _
    · show f_X9_tonight 90 a τ = _
      unfold f_X9_tonight 
      simp only [kM, rM, aM, om_ref_s, if_true, call_s, let_s, m_in]
      rw [bI_n h]
      exact Eq.refl _
theorem m_sand {σ σ1 σ2 : om_S} (d1 : ∀ j, j < 53 → σ1 93 j = σ 91 j) (d2 : ∀ q, q ≠ 93 → σ1 q = σ q) (hf : mfr σ1 σ2) : ∃ σ3, f_X9_layBack 90 σ2 = some σ3 ∧ σ3 91 = σ 91 ∧ (∀ q, q ≠ 91 → q ≠ 93 → q ≠ 96 → q ≠ 97 → q ≠ 98 → q ≠ 99 → σ3 q = σ q) ∧ σ3 98 = σ2 98 ∧ σ3 99 = σ2 99 := by
  obtain ⟨σ3, b1, b2, b3, b4⟩ := m_layBack (σ := σ2)
  refine ⟨σ3, b1, ?_, fun q h1 h2 h3 h4 h5 h6 => by rw [b4 q h1, hf.1 q h1 h3 h4 h5 h6, d2 q h2], b4 98 (by omega), b4 99 (by omega)⟩
  funext j
  by_cases hj : j < 53
  · rw [b2 j hj, hf.1 93 (by omega) (by omega) (by omega) (by omega) (by omega), d1 j hj]
  · rw [b3 j (by omega), hf.2 j (by omega), d2 91 (by omega)]
theorem x_litAll {V : Nat → Nat} {Z : Int32} {C0 C1 : List Int32} {sp : Int32} {σ : om_S} (hV : WV V) (hC0 : WC C0) (hC1 : WC C1) (h1 : V 1 ≤ 9999) (hX : XT 1 V Z C0 C1 σ) (hz : XZ σ) : ∃ σ', f_X8_litNightsAhead 0 sp σ = some (nI (litN C0 C1 sp 60 V), σ') ∧ xscr σ σ' := by
  obtain ⟨σ1, p1, p2, p3⟩ := x_towerCopy (b := 39) (b2 := 1) (Or.inr (Or.inr rfl)) T1 (by omega) hC0.1 hC1.1 hX hz.2.2.2.1 hz.2.2.2.2
  have z1 : Zero3 σ1 := by
    unfold Zero3
    rw [p3 59 (by omega), p3 60 (by omega), p3 61 (by omega)]
    exact hz.1
  obtain ⟨σ2, r1, r2, r3, V', r4⟩ := x_litLoop (sp := sp) hC0 hC1 60 0 om_F V σ1 (by omega) (lt_F (by omega)) (by omega) hV p2 z1
  refine ⟨σ2, ?_, fun q a b c d => by rw [r3 q (by omega) (by omega), p3 q (by omega)], r2, ?_, ?_, r4.2.2.2.2.2.2.2.2.1, r4.2.2.2.2.2.2.2.2.2⟩
  · unfold f_X8_litNightsAhead
    simp only [kX, rX, om_ref_s, if_true, p1, do_s]
    exact r1
  · rw [r3 22 (by omega) (by omega), p3 22 (by omega)]
    exact hz.2.1
  · rw [r3 26 (by omega) (by omega), p3 26 (by omega)]
    exact hz.2.2.1
theorem m_litAll {V : Nat → Nat} {Z : Int32} {C0 C1 : List Int32} {sp : Int32} {σ : om_S} (hV : WV V) (hC0 : WC C0) (hC1 : WC C1) (h1 : V 1 ≤ 9999) (hX : MT 91 V Z C0 C1 σ) (h5 : σ 90 5 = sp) (z1 : σ 98 0 = 0) (z2 : σ 99 0 = 0) : ∃ σ', f_X9_litNights 90 σ = some (nI (litN C0 C1 sp 60 V), σ') ∧ (∀ q, q ≠ 93 → q ≠ 96 → q ≠ 97 → q ≠ 98 → q ≠ 99 → σ' q = σ q) ∧ σ' 98 0 = 0 ∧ σ' 99 0 = 0 := by
  obtain ⟨σ1, d1, d2, d3⟩ := m_layDown (σ := σ)
  obtain ⟨σ2, r1, r2, r3, r4⟩ := m_litLoop (sp := sp) hC0 hC1 60 0 om_F V σ1 (by omega) (lt_F (by omega)) (by omega) hV (hX.congr (d3 91 (by omega))) (by rw [d3 90 (by omega)]; exact h5) (by rw [d3 98 (by omega)]; exact z1) (by rw [d3 99 (by omega)]; exact z2)
  obtain ⟨σ3, b1, b2, b3, b4, b5⟩ := m_sand d2 d3 r4
  refine ⟨σ3, ?_, fun q a b c d e => ?_, by rw [b4]; exact r2, by rw [b5]; exact r3⟩
  · unfold f_X9_litNights
    rw [if_pos kM.1, d1, do_s, show f_X9_litNights_b6 om_F 90 0 σ1 = _ from r1]
    unfold f_X9_litNights_b25
    rw [b1, do_s]
    exact Eq.refl _
  · by_cases e91 : q = 91
    · rw [e91, b2]
    · exact b3 q e91 a b c d e
theorem mscr.lay {s : oA_S} {σ σ' : om_S} (h : HM s σ) (z1 : σ' 98 0 = 0) (z2 : σ' 99 0 = 0) (e : ∀ q, q ≠ 93 → q ≠ 96 → q ≠ 97 → q ≠ 98 → q ≠ 99 → σ' q = σ q) : mscr σ σ' := by
  have e90 := e 90 (by omega) (by omega) (by omega) (by omega) (by omega)
  refine ⟨fun q _ a _ b c d f _ => e q a b c d f, by rw [e90], by rw [e90], ?_, z1, z2⟩
  rw [e90]
  exact h.mz.1
theorem op_lasts : Sim (fun σ => f_X8_lasts 0 σ) (fun σ => f_X9_lasts 90 σ) := by
  refine sim_of fun s σ w hx => ?_
  obtain ⟨V, Z, C0, C1, T, W, K, g, E, Tr, Sh⟩ := s
  obtain ⟨σ', q1, q2⟩ := x_litAll (sp := -1) w.1.1 w.1.2.2.1 w.1.2.2.2.1 w.1.2.1 hx.1.1 hx.xz
  refine ⟨nI (litN C0 C1 (-1) 60 V), (V, Z, C0, C1, T, W, K, g, E, Tr, Sh), w, XO.scr hx q2 ?_, fun τ hm => ?_⟩
  · show f_X8_lasts 0 σ = _
    unfold f_X8_lasts
    rw [if_pos kX.1, q1, call_s]
  · obtain ⟨τ', r1, r2, r3, r4⟩ := m_litAll (sp := -1) w.1.1 w.1.2.2.1 w.1.2.2.2.1 w.1.2.1 hm.1.1 hm.mz.1 hm.mz.2.1 hm.mz.2.2
    refine MO.scr hm (mscr.lay hm r3 r4 r2) ?_
    show f_X9_lasts 90 τ = _
    unfold f_X9_lasts
    rw [if_pos kM.1, r1, call_s]
theorem op_without (a : Int32) : Sim (fun σ => f_X8_without 0 a σ) (fun σ => f_X9_without 90 a σ) := by
  refine sim_of fun s σ w hx => ?_
  obtain ⟨V, Z, C0, C1, T, W, K, g, E, Tr, Sh⟩ := s
  have h6 : V 6 ≤ 9 := w.1.1.1
  rcases memc V w.1.1 a with hn | ⟨i, hi, hi9, rfl⟩
  · refine ⟨rfE 1, (V, Z, C0, C1, T, W, K, g, upE E 1, Tr, Sh), w, XO.no0 hx (k := 1) (by omega) ?_, fun τ hm => MO.no0 hm (k := 1) (by omega) ?_⟩
    · show f_X8_without 0 a σ = _
      unfold f_X8_without 
      simp only [kX, rX, om_ref_s, if_true, call_s, let_s, om_nul_s, om_nul_n, x_atNo T1 hx.1.1.1 hn]
      exact Eq.refl _
    · show f_X9_without 90 a τ = _
      unfold f_X9_without 
      simp only [kM, rM, aM, om_ref_s, if_true, call_s, let_s, isMem_n h6 hm.1.1 hn]
      exact Eq.refl _
  · have hat := x_atI T1 hx.1.1.1 hi h6
    obtain ⟨σ1, q1, q2⟩ := x_litAll (sp := -1) w.1.1 w.1.2.2.1 w.1.2.2.2.1 w.1.2.1 hx.1.1 hx.xz
    have hx1 := hx.scr q2
    obtain ⟨σ2, p1, p2⟩ := x_litAll (sp := nI i) w.1.1 w.1.2.2.1 w.1.2.2.2.1 w.1.2.1 hx1.1.1 hx1.xz
    refine ⟨nI (litN C0 C1 (-1) 60 V) - nI (litN C0 C1 (nI i) 60 V), (V, Z, C0, C1, T, W, K, g, E, Tr, Sh), w, XO.scr hx (q2.trans p2) ?_, fun τ hm => ?_⟩
    · show f_X8_without 0 (nI i) σ = _
      unfold f_X8_without
      simp only [kX, rX, om_ref_s, if_true, call_s, om_nul_s, hat, tk1m hi9, q1, p1]
    · obtain ⟨τ1, r1, r2, r3, r4⟩ := m_litAll (sp := -1) w.1.1 w.1.2.2.1 w.1.2.2.2.1 w.1.2.1 hm.1.1 hm.mz.1 hm.mz.2.1 hm.mz.2.2
      have hm1 := hm.scr (mscr.lay hm r3 r4 r2)
      obtain ⟨τ2, v1, v2, v3, v4⟩ := m_litAll (σ := om_w τ1 90 5 (nI i)) (sp := nI i) w.1.1 w.1.2.2.1 w.1.2.2.2.1 w.1.2.1 (hm1.1.1.congr (om_w_off (by omega))) om_w_s (by rw [om_w_k (by omega)]; exact r3) (by rw [om_w_k (by omega)]; exact r4)
      have e90 := r2 90 (by omega) (by omega) (by omega) (by omega) (by omega)
      have f90 := v2 90 (by omega) (by omega) (by omega) (by omega) (by omega)
      refine MO.scr (σ' := om_w τ2 90 5 (-1)) hm ⟨fun q a b c d e f g _ => ?_, ?_, ?_, om_w_s, ?_, ?_⟩ ?_
      · rw [om_w_off a, v2 q b d e f g, om_w_off a, r2 q b d e f g]
      · rw [om_w_j (by omega), f90, om_w_j (by omega), e90]
      · rw [om_w_j (by omega), f90, om_w_j (by omega), e90]
      · rw [om_w_k (by omega)]
        exact v3
      · rw [om_w_k (by omega)]
        exact v4
      · show f_X9_without 90 (nI i) τ = _
        unfold f_X9_without
        simp only [kM, if_true, call_s, let_s, isMem_y h6 hm.1.1 hi, n10, if_false, r1, v1]
theorem op_then (a v : Int32) : Sim (fun σ => f_X8_then 0 a v σ) (fun σ => f_X9_then 90 a v σ) := by
  refine sim_of fun s σ w hx => ?_
  obtain ⟨V, Z, C0, C1, T, W, K, g, E, Tr, Sh⟩ := s
  have hV : WV V := w.1.1
  have h6 : V 6 ≤ 9 := hV.1
  have h1 : V 1 ≤ 9999 := w.1.2.1
  have hC0 : WC C0 := w.1.2.2.1
  have hC1 : WC C1 := w.1.2.2.2.1
  rcases memc V w.1.1 a with hn | ⟨i, hi, hi9, rfl⟩
  · refine ⟨rfE 1, (V, Z, C0, C1, T, W, K, g, upE E 1, Tr, Sh), w, XO.no0 hx (k := 1) (by omega) ?_, fun τ hm => MO.no0 hm (k := 1) (by omega) ?_⟩
    · show f_X8_then 0 a v σ = _
      unfold f_X8_then f_X8_then_b21
      simp only [kX, rX, om_ref_s, if_true, call_s, let_s, om_nul_s, om_nul_n, x_atNo T1 hx.1.1.1 hn]
      exact Eq.refl _
    · show f_X9_then 90 a v τ = _
      unfold f_X9_then f_X9_then_b18
      simp only [kM, rM, aM, om_ref_s, if_true, call_s, let_s, isMem_n h6 hm.1.1 hn]
      exact Eq.refl _
  · have hat := x_atI T1 hx.1.1.1 hi h6
    by_cases h : (0 : Int32) ≤ v ∧ v ≤ 60
    · obtain ⟨n, hn, rfl⟩ := win (n := 60) h (by decide) rfl (by decide)
      have hz := hx.xz
      obtain ⟨σ1, p1, p2, p3⟩ := x_towerCopy (b := 39) (b2 := 1) (Or.inr (Or.inr rfl)) T1 (by omega) hC0.1 hC1.1 hx.1.1 hz.2.2.2.1 hz.2.2.2.2
      have z1 : Zero3 σ1 := by
        unfold Zero3
        rw [p3 59 (by omega), p3 60 (by omega), p3 61 (by omega)]
        exact hz.1
      obtain ⟨σ2, r1, r2, r3, V', r4⟩ := x_thenLoop hC0 hC1 n i (by omega) n 0 om_F V σ1 (by omega) (lt_F (by omega)) (by omega) hV hi p2 z1
      have hs : xscr σ σ2 := by
        refine ⟨fun q a b c d => by rw [r3 q (by omega) (by omega), p3 q (by omega)], r2, ?_, ?_, r4.2.2.2.2.2.2.2.2.1, r4.2.2.2.2.2.2.2.2.2⟩
        · rw [r3 22 (by omega) (by omega), p3 22 (by omega)]
          exact hz.2.1
        · rw [r3 26 (by omega) (by omega), p3 26 (by omega)]
          exact hz.2.2.1
      refine ⟨nI (goV C0 C1 (-1) n V (8 + 5 * i + 3)), (V, Z, C0, C1, T, W, K, g, E, Tr, Sh), w, XO.scr hx hs ?_, fun τ hm => ?_⟩
      · show f_X8_then 0 (nI i) (nI n) σ = _
        unfold f_X8_then
        simp only [kX, rX, om_ref_s, if_true, call_s, om_nul_s, hat, tk1m hi9, x_isWithin, p1, do_s]
        rw [bI_y h]
        exact r1
      · obtain ⟨τ1, d1, d2, d3⟩ := m_layDown (σ := τ)
        obtain ⟨τ2, v1, v2, v3, v4, v5⟩ := m_goLoop (sp := -1) hC0 hC1 n (by omega) n 0 0 om_F V τ1 (by omega) (lt_F (by omega)) (by omega) hV (hm.1.1.congr (d3 91 (by omega))) (by rw [d3 90 (by omega)]; exact hm.mz.1) (by rw [d3 98 (by omega)]; exact hm.mz.2.1) (by rw [d3 99 (by omega)]; exact hm.mz.2.2)
        obtain ⟨τ3, b1, b2, b3, b4, b5⟩ := m_sand d2 d3 v5
        refine MO.scr (σ' := τ3) hm (mscr.lay hm (by rw [b4]; exact v3) (by rw [b5]; exact v4) (fun q a b c d e => ?_)) ?_
        · by_cases e91 : q = 91
          · rw [e91, b2]
          · exact b3 q e91 a b c d e
        · have v1' : f_X9_goes_b4 om_F 90 (nI n) 0 0 τ1 = _ := v1
          show f_X9_then 90 (nI i) (nI n) τ = _
          unfold f_X9_then f_X9_goes
          simp only [kM, if_true, call_s, isMem_y h6 hm.1.1 hi, m_in, n10, if_false, d1, do_s]
          rw [bI_y h, v1', call_s, m_its3 hi9, call_s, b1, do_s, v2.2.2.2.2.2.1 i 3 hi9 (by omega)]
    · refine ⟨rfE 1, (V, Z, C0, C1, T, W, K, g, upE E 1, Tr, Sh), w, XO.no0 hx (k := 1) (by omega) ?_, fun τ hm => MO.no0 hm (k := 1) (by omega) ?_⟩
      · show f_X8_then 0 (nI i) v σ = _
        unfold f_X8_then f_X8_then_b21
        simp only [kX, rX, om_ref_s, if_true, call_s, let_s, om_nul_s, om_nul_n, hat, tk1m hi9, x_isWithin]
        rw [bI_n h]
        exact Eq.refl _
      · show f_X9_then 90 (nI i) v τ = _
        unfold f_X9_then f_X9_then_b18
        simp only [kM, rM, aM, om_ref_s, if_true, call_s, let_s, isMem_y h6 hm.1.1 hi, m_in, n10, if_false]
        rw [bI_n h]
        exact Eq.refl _
