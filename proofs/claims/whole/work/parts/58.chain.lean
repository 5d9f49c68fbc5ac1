/-! ===== reading: signs of one level ===== -/
abbrev om_C1 : Type := Nat → Int32 → Int32 → om_S → Option (Int32 × om_S)
abbrev om_C2 : Type := Nat → Int32 → om_S → Option (Int32 × om_S)
theorem chainLoop {u : Nat} {T : List Int32} {rc1 : om_C1} {rc2 rc3 rc4 : om_C2} {gm : Nat → om_S → Option (Int32 × om_S)} {fm : om_S → Option (Int32 × om_S)} {o L : Nat} (hT : T.length ≤ 60) (hL : L < 5)
    (hsub : ∀ p C, p ≤ T.length → C.length ≤ p → PJ u T (rc1 70 (nI (L + 1)) (nI o)) fm o p C (p + 1) PP)
    (hstep : ∀ F p C t0 τ, p ≤ T.length → MP u T t0 o p C τ → gm (F + 1) τ = if lvl (nx T p) = nI L then om_call (fm (om_w τ 90 6 (nI (p + 1)))) (fun r s => if r = 0 then some (0, s) else om_do (f_X9_step1 90 3 (nx T p) s) (fun s => gm F s)) else some (1, τ)) :
    ∀ n p C i Fx Fm, p ≤ T.length → T.length ≤ p + n → n < Fx → n < Fm → i < p → C.length ≤ p → PJ u T (fun σ => f_X2_readChain_b39 rc1 rc2 rc3 rc4 Fx 70 (nI L) (nI o) 60 (nI i) σ) (fun τ => gm Fm τ) o p C p LQ := by
  intro n
  induction n with
  | zero =>
    intro p C i Fx Fm hp hn hFx hFm hi hC
    obtain ⟨Fx, rfl⟩ : ∃ G, Fx = G + 1 := ⟨Fx - 1, by omega⟩
    obtain ⟨Fm, rfl⟩ : ∃ G, Fm = G + 1 := ⟨Fm - 1, by omega⟩
    have g : ¬ lvl (nx T p) = nI L := fun g => by
      have := (lvl_lt hL g).1
      omega
    refine ⟨p, Nat.le_refl _, hp, Or.inr ⟨[], Nat.le_refl _, by simp, LQ_nil, fun σ h => ⟨σ, ?_, by rw [List.append_nil]; exact h⟩, fun τ h => ⟨τ, ?_, by rw [List.append_nil]; exact h⟩⟩⟩
    · show f_X2_readChain_b39 rc1 rc2 rc3 rc4 (Fx + 1) 70 (nI L) (nI o) 60 (nI i) σ = _
      unfold f_X2_readChain_b39
      rw [if_neg (show ¬ (60 : Int32) ≤ nI i from nI_ge (b := 60) (by omega) (by omega)), x_next hT hp h, call_s, x_lvl, call_s, if_neg g]
    · show gm (Fm + 1) τ = _
      rw [hstep Fm p C _ τ hp h, if_neg g]
  | succ n ih =>
    intro p C i Fx Fm hp hn hFx hFm hi hC
    obtain ⟨Fx, rfl⟩ : ∃ G, Fx = G + 1 := ⟨Fx - 1, by omega⟩
    obtain ⟨Fm, rfl⟩ : ∃ G, Fm = G + 1 := ⟨Fm - 1, by omega⟩
    by_cases g : lvl (nx T p) = nI L
    · obtain ⟨hpl, hs⟩ := lvl_lt hL g
      have hxs : ∀ s0 σ, XP u T s0 p C σ → f_X2_readChain_b39 rc1 rc2 rc3 rc4 (Fx + 1) 70 (nI L) (nI o) 60 (nI i) σ = om_call (rc1 70 (nI (L + 1)) (nI o) (om_w σ 70 3 (nI (p + 1)))) (fun r s => if r = 0 then some (0, s) else om_call (f_X3_add 72 (-(nx T p)) s) (fun _ s => f_X2_readChain_b39 rc1 rc2 rc3 rc4 Fx 70 (nI L) (nI o) 60 (nI (i + 1)) s)) := by
        intro s0 σ h
        rw [f_X2_readChain_b39]
        rw [if_neg (show ¬ (60 : Int32) ≤ nI i from nI_ge (b := 60) (by omega) (by omega)), x_next hT hp h, call_s, x_lvl, call_s, if_pos g, x_next hT hp h, call_s]
        simp only [let_s, h.1, nI_1, rf_70_0, kc_71, rf_71_1, kc_72, om_ref_s, if_true]
      obtain ⟨p1, a1, a2, hcase⟩ := hsub (p + 1) C (by omega) (by omega)
      rcases hcase with ⟨fx, fm'⟩ | ⟨D1, b1, b2, b3, fx, fm'⟩
      · refine ⟨p1, by omega, a2, Or.inl ⟨fun σ h => ?_, fun τ h => ?_⟩⟩
        · obtain ⟨σ', c1, c2⟩ := fx _ h.pl
          exact ⟨σ', by show f_X2_readChain_b39 rc1 rc2 rc3 rc4 (Fx + 1) 70 (nI L) (nI o) 60 (nI i) σ = _; rw [hxs _ σ h, c1, call_s, if_pos rfl], c2⟩
        · obtain ⟨τ', c1, c2⟩ := fm' _ h.pl
          exact ⟨τ', by show gm (Fm + 1) τ = _; rw [hstep Fm p C _ τ hp h, if_pos g, c1, call_s, if_pos rfl], c2⟩
      · have hl1 : (C ++ D1).length < 60 := by
          rw [List.length_append]
          omega
        have hl2 : (C ++ D1 ++ [-(nx T p)]).length ≤ p1 := by
          rw [ln1, List.length_append]
          omega
        obtain ⟨he, _⟩ := sgn_enc (u := u) hs
        obtain ⟨p2, d1, d2, hcase2⟩ := ih p1 (C ++ D1 ++ [-(nx T p)]) (i + 1) Fx Fm a2 (by omega) (by omega) (by omega) (by omega) hl2
        have hX : ∀ s0 σ, XP u T s0 p C σ → ∃ σ2, XP u T s0 p1 (C ++ D1 ++ [-(nx T p)]) σ2 ∧ f_X2_readChain_b39 rc1 rc2 rc3 rc4 (Fx + 1) 70 (nI L) (nI o) 60 (nI i) σ = f_X2_readChain_b39 rc1 rc2 rc3 rc4 Fx 70 (nI L) (nI o) 60 (nI (i + 1)) σ2 := by
          intro s0 σ h
          obtain ⟨σ1, c1, c2⟩ := fx _ h.pl
          obtain ⟨σ2, c3, c4⟩ := c2.add (d := -(nx T p)) hl1
          exact ⟨σ2, c4, by rw [hxs _ σ h, c1, call_s, if_neg (by decide), c3, call_s]⟩
        have hM : ∀ t0 τ, MP u T t0 o p C τ → ∃ τ2, MP u T t0 o p1 (C ++ D1 ++ [-(nx T p)]) τ2 ∧ gm (Fm + 1) τ = gm Fm τ2 := by
          intro t0 τ h
          obtain ⟨τ1, c1, c2⟩ := fm' _ h.pl
          obtain ⟨τ2, c3, c4⟩ := c2.step hl1 he
          exact ⟨τ2, c4, by rw [hstep Fm p C _ τ hp h, if_pos g, c1, call_s, if_neg (by decide), c3, do_s]⟩
        rcases hcase2 with ⟨fx2, fm2⟩ | ⟨D2, e1, e2, e3, fx2, fm2⟩
        · refine ⟨p2, by omega, d2, Or.inl ⟨fun σ h => ?_, fun τ h => ?_⟩⟩
          · obtain ⟨σ2, c4, c5⟩ := hX _ σ h
            obtain ⟨σ3, c6, c7⟩ := fx2 σ2 c4
            exact ⟨σ3, c5.trans c6, c7⟩
          · obtain ⟨τ2, c4, c5⟩ := hM _ τ h
            obtain ⟨τ3, c6, c7⟩ := fm2 τ2 c4
            exact ⟨τ3, c5.trans c6, c7⟩
        · have happ : C ++ D1 ++ [-(nx T p)] ++ D2 = C ++ (D1 ++ [-(nx T p)] ++ D2) := by simp only [List.append_assoc]
          refine ⟨p2, by omega, d2, Or.inr ⟨D1 ++ [-(nx T p)] ++ D2, by omega, ?_, LQ_sgn (u := u) b3 hs e3, fun σ h => ?_, fun τ h => ?_⟩⟩
          · rw [List.length_append, ln1]
            omega
          · obtain ⟨σ2, c4, c5⟩ := hX _ σ h
            obtain ⟨σ3, c6, c7⟩ := fx2 σ2 c4
            rw [happ] at c7
            exact ⟨σ3, c5.trans c6, c7⟩
          · obtain ⟨τ2, c4, c5⟩ := hM _ τ h
            obtain ⟨τ3, c6, c7⟩ := fm2 τ2 c4
            rw [happ] at c7
            exact ⟨τ3, c5.trans c6, c7⟩
    · refine ⟨p, Nat.le_refl _, hp, Or.inr ⟨[], Nat.le_refl _, by simp, LQ_nil, fun σ h => ⟨σ, ?_, by rw [List.append_nil]; exact h⟩, fun τ h => ⟨τ, ?_, by rw [List.append_nil]; exact h⟩⟩⟩
      · show f_X2_readChain_b39 rc1 rc2 rc3 rc4 (Fx + 1) 70 (nI L) (nI o) 60 (nI i) σ = _
        unfold f_X2_readChain_b39
        rw [if_neg (show ¬ (60 : Int32) ≤ nI i from nI_ge (b := 60) (by omega) (by omega)), x_next hT hp h, call_s, x_lvl, call_s, if_neg g]
      · show gm (Fm + 1) τ = _
        rw [hstep Fm p C _ τ hp h, if_neg g]
theorem chainJ {u : Nat} {T : List Int32} {rc1 : om_C1} {rc2 rc3 rc4 : om_C2} {gm : Nat → om_S → Option (Int32 × om_S)} {fm fmL : om_S → Option (Int32 × om_S)} {o L : Nat} (hT : T.length ≤ 60) (hL : L < 5) (hL2 : L ≠ 2)
    (hsub : ∀ p C, p ≤ T.length → C.length ≤ p → PJ u T (rc1 70 (nI (L + 1)) (nI o)) fm o p C (p + 1) PP)
    (hstep : ∀ F p C t0 τ, p ≤ T.length → MP u T t0 o p C τ → gm (F + 1) τ = if lvl (nx T p) = nI L then om_call (fm (om_w τ 90 6 (nI (p + 1)))) (fun r s => if r = 0 then some (0, s) else om_do (f_X9_step1 90 3 (nx T p) s) (fun s => gm F s)) else some (1, τ))
    (hm : ∀ τ, fmL τ = om_call (fm τ) (fun r s => if r = 0 then some (0, s) else gm om_F s)) :
    ∀ p C, p ≤ T.length → C.length ≤ p → PJ u T (fo_X2_readChain rc1 rc2 rc3 rc4 70 (nI L) (nI o)) fmL o p C (p + 1) PP := by
  intro p C hp hC
  have hxs : ∀ σ, fo_X2_readChain rc1 rc2 rc3 rc4 70 (nI L) (nI o) σ = om_call (rc1 70 (nI (L + 1)) (nI o) σ) (fun r s => if r = 0 then some (0, s) else f_X2_readChain_b39 rc1 rc2 rc3 rc4 om_F 70 (nI L) (nI o) 60 0 s) := by
    intro σ
    unfold fo_X2_readChain f_X2_readChain_b35
    rw [if_pos kc_70, if_pos (show nI L ≤ 4 from nI_le (b := 4) (by omega) (by omega)), nI_1]
    simp only [if_neg (show ¬ nI L = 2 from fun q => hL2 ((nI_eq (b := 2) (by omega) (by omega)).mp q))]
  obtain ⟨p1, a1, a2, hcase⟩ := hsub p C hp hC
  rcases hcase with ⟨fx, fm'⟩ | ⟨D1, b1, b2, b3, fx, fm'⟩
  · refine ⟨p1, by omega, a2, Or.inl ⟨fun σ h => ?_, fun τ h => ?_⟩⟩
    · obtain ⟨σ', c1, c2⟩ := fx _ h
      exact ⟨σ', by rw [hxs σ, c1, call_s, if_pos rfl], c2⟩
    · obtain ⟨τ', c1, c2⟩ := fm' _ h
      exact ⟨τ', by rw [hm τ, c1, call_s, if_pos rfl], c2⟩
  · have hl2 : (C ++ D1).length ≤ p1 := by
      rw [List.length_append]
      omega
    obtain ⟨p2, d1, d2, hcase2⟩ := chainLoop (rc2 := rc2) (rc3 := rc3) (rc4 := rc4) hT hL hsub hstep T.length p1 (C ++ D1) 0 om_F om_F a2 (by omega) (lt_F (by omega)) (lt_F (by omega)) (by omega) hl2
    have hX : ∀ s0 σ, XP u T s0 p C σ → ∃ σ2, XP u T s0 p1 (C ++ D1) σ2 ∧ fo_X2_readChain rc1 rc2 rc3 rc4 70 (nI L) (nI o) σ = f_X2_readChain_b39 rc1 rc2 rc3 rc4 om_F 70 (nI L) (nI o) 60 (nI 0) σ2 := by
      intro s0 σ h
      obtain ⟨σ1, c1, c2⟩ := fx _ h
      exact ⟨σ1, c2, by rw [hxs σ, c1, call_s, if_neg (by decide)]; exact Eq.refl _⟩
    have hM : ∀ t0 τ, MP u T t0 o p C τ → ∃ τ2, MP u T t0 o p1 (C ++ D1) τ2 ∧ fmL τ = gm om_F τ2 := by
      intro t0 τ h
      obtain ⟨τ1, c1, c2⟩ := fm' _ h
      exact ⟨τ1, c2, by rw [hm τ, c1, call_s, if_neg (by decide)]⟩
    rcases hcase2 with ⟨fx2, fm2⟩ | ⟨D2, e1, e2, e3, fx2, fm2⟩
    · refine ⟨p2, by omega, d2, Or.inl ⟨fun σ h => ?_, fun τ h => ?_⟩⟩
      · obtain ⟨σ2, c4, c5⟩ := hX _ σ h
        obtain ⟨σ3, c6, c7⟩ := fx2 σ2 c4
        exact ⟨σ3, c5.trans c6, c7⟩
      · obtain ⟨τ2, c4, c5⟩ := hM _ τ h
        obtain ⟨τ3, c6, c7⟩ := fm2 τ2 c4
        exact ⟨τ3, c5.trans c6, c7⟩
    · refine ⟨p2, by omega, d2, Or.inr ⟨D1 ++ D2, by omega, ?_, PP_LQ b3 e3, fun σ h => ?_, fun τ h => ?_⟩⟩
      · rw [List.length_append]
        omega
      · obtain ⟨σ2, c4, c5⟩ := hX _ σ h
        obtain ⟨σ3, c6, c7⟩ := fx2 σ2 c4
        rw [List.append_assoc] at c7
        exact ⟨σ3, c5.trans c6, c7⟩
      · obtain ⟨τ2, c4, c5⟩ := hM _ τ h
        obtain ⟨τ3, c6, c7⟩ := fm2 τ2 c4
        rw [List.append_assoc] at c7
        exact ⟨τ3, c5.trans c6, c7⟩
/-- comparisons: one sign at most -/
theorem chainJ2 {u : Nat} {T : List Int32} {rc1 : om_C1} {rc2 rc3 rc4 : om_C2} {fm fmL : om_S → Option (Int32 × om_S)} {o : Nat} (hT : T.length ≤ 60)
    (hsub : ∀ p C, p ≤ T.length → C.length ≤ p → PJ u T (rc1 70 (nI 3) (nI o)) fm o p C (p + 1) PP)
    (hm : ∀ p C t0 τ, p ≤ T.length → MP u T t0 o p C τ → ∀ τ1 p1 C1, p1 ≤ T.length → fm τ = some (1, τ1) → MP u T t0 o p1 C1 τ1 → fmL τ = if lvl (nx T p1) = nI 2 then om_call (fm (om_w τ1 90 6 (nI (p1 + 1)))) (fun r s => if r = 0 then some (0, s) else om_do (f_X9_step1 90 3 (nx T p1) s) (fun s => some (1, s))) else some (1, τ1))
    (hm0 : ∀ τ τ1, fm τ = some (0, τ1) → fmL τ = some (0, τ1)) :
    ∀ p C, p ≤ T.length → C.length ≤ p → PJ u T (fo_X2_readChain rc1 rc2 rc3 rc4 70 (nI 2) (nI o)) fmL o p C (p + 1) PP := by
  intro p C hp hC
  have hxs : ∀ σ, fo_X2_readChain rc1 rc2 rc3 rc4 70 (nI 2) (nI o) σ = om_call (rc1 70 (nI 3) (nI o) σ) (fun r s => if r = 0 then some (0, s) else f_X2_readChain_b39 rc1 rc2 rc3 rc4 (4998 + 2) 70 (nI 2) (nI o) 1 0 s) := by
    intro σ
    unfold fo_X2_readChain f_X2_readChain_b35
    rw [if_pos kc_70, if_pos (by decide), nI_1]
    simp only [if_pos (show nI 2 = 2 from rfl)]
    exact Eq.refl _
  have hx2 : ∀ s0 σ p1 C1, p1 ≤ T.length → XP u T s0 p1 C1 σ → f_X2_readChain_b39 rc1 rc2 rc3 rc4 (4998 + 2) 70 (nI 2) (nI o) 1 0 σ = if lvl (nx T p1) = nI 2 then om_call (rc1 70 (nI 3) (nI o) (om_w σ 70 3 (nI (p1 + 1)))) (fun r s => if r = 0 then some (0, s) else om_call (f_X3_add 72 (-(nx T p1)) s) (fun _ s => some (1, s))) else some (1, σ) := by
    intro s0 σ p1 C1 hp1 h
    have hend : ∀ s, f_X2_readChain_b39 rc1 rc2 rc3 rc4 (4998 + 1) 70 (nI 2) (nI o) 1 (0 + 1) s = some (1, s) := by
      intro s
      rw [f_X2_readChain_b39]
      rw [if_pos (by decide)]
    rw [f_X2_readChain_b39]
    rw [if_neg (by decide), x_next hT hp1 h, call_s, x_lvl, call_s, x_next hT hp1 h, call_s]
    simp only [let_s, h.1, nI_1, rf_70_0, kc_71, rf_71_1, kc_72, om_ref_s, if_true, hend]
  obtain ⟨p1, a1, a2, hcase⟩ := hsub p C hp hC
  rcases hcase with ⟨fx, fm'⟩ | ⟨D1, b1, b2, b3, fx, fm'⟩
  · refine ⟨p1, by omega, a2, Or.inl ⟨fun σ h => ?_, fun τ h => ?_⟩⟩
    · obtain ⟨σ', c1, c2⟩ := fx _ h
      exact ⟨σ', by rw [hxs σ, c1, call_s, if_pos rfl], c2⟩
    · obtain ⟨τ', c1, c2⟩ := fm' _ h
      exact ⟨τ', hm0 τ τ' c1, c2⟩
  · have hl2 : (C ++ D1).length ≤ p1 := by
      rw [List.length_append]
      omega
    by_cases g : lvl (nx T p1) = nI 2
    · obtain ⟨hpl, hs⟩ := lvl_lt (by omega) g
      obtain ⟨he, _⟩ := sgn_enc (u := u) hs
      obtain ⟨p2, d1, d2, hcase2⟩ := hsub (p1 + 1) (C ++ D1) (by omega) (by omega)
      have hX : ∀ s0 σ, XP u T s0 p C σ → ∃ σ1, XP u T s0 p1 (C ++ D1) σ1 ∧ fo_X2_readChain rc1 rc2 rc3 rc4 70 (nI 2) (nI o) σ = om_call (rc1 70 (nI 3) (nI o) (om_w σ1 70 3 (nI (p1 + 1)))) (fun r s => if r = 0 then some (0, s) else om_call (f_X3_add 72 (-(nx T p1)) s) (fun _ s => some (1, s))) := by
        intro s0 σ h
        obtain ⟨σ1, c1, c2⟩ := fx _ h
        exact ⟨σ1, c2, by rw [hxs σ, c1, call_s, if_neg (by decide), hx2 _ σ1 p1 _ a2 c2, if_pos g]⟩
      have hM : ∀ t0 τ, MP u T t0 o p C τ → ∃ τ1, MP u T t0 o p1 (C ++ D1) τ1 ∧ fmL τ = om_call (fm (om_w τ1 90 6 (nI (p1 + 1)))) (fun r s => if r = 0 then some (0, s) else om_do (f_X9_step1 90 3 (nx T p1) s) (fun s => some (1, s))) := by
        intro t0 τ h
        obtain ⟨τ1, c1, c2⟩ := fm' _ h
        exact ⟨τ1, c2, by rw [hm p C _ τ hp h τ1 p1 _ a2 c1 c2, if_pos g]⟩
      rcases hcase2 with ⟨fx2, fm2⟩ | ⟨D2, e1, e2, e3, fx2, fm2⟩
      · refine ⟨p2, by omega, d2, Or.inl ⟨fun σ h => ?_, fun τ h => ?_⟩⟩
        · obtain ⟨σ1, c4, c5⟩ := hX _ σ h
          obtain ⟨σ3, c6, c7⟩ := fx2 _ c4.pl
          exact ⟨σ3, by rw [c5, c6, call_s, if_pos rfl], c7⟩
        · obtain ⟨τ1, c4, c5⟩ := hM _ τ h
          obtain ⟨τ3, c6, c7⟩ := fm2 _ c4.pl
          exact ⟨τ3, by rw [c5, c6, call_s, if_pos rfl], c7⟩
      · have hl3 : (C ++ D1 ++ D2).length < 60 := by
          rw [List.length_append, List.length_append]
          omega
        have happ : C ++ D1 ++ D2 ++ [-(nx T p1)] = C ++ (D1 ++ (D2 ++ [-(nx T p1)] ++ [])) := by simp only [List.append_assoc, List.append_nil]
        refine ⟨p2, by omega, d2, Or.inr ⟨D1 ++ (D2 ++ [-(nx T p1)] ++ []), by omega, ?_, PP_LQ b3 (LQ_sgn (u := u) e3 hs LQ_nil), fun σ h => ?_, fun τ h => ?_⟩⟩
        · rw [List.append_nil, List.length_append, ln1]
          omega
        · obtain ⟨σ1, c4, c5⟩ := hX _ σ h
          obtain ⟨σ3, c6, c7⟩ := fx2 _ c4.pl
          obtain ⟨σ4, c8, c9⟩ := c7.add (d := -(nx T p1)) hl3
          rw [happ] at c9
          exact ⟨σ4, by rw [c5, c6, call_s, if_neg (by decide), c8, call_s], c9⟩
        · obtain ⟨τ1, c4, c5⟩ := hM _ τ h
          obtain ⟨τ3, c6, c7⟩ := fm2 _ c4.pl
          obtain ⟨τ4, c8, c9⟩ := c7.step hl3 he
          rw [happ] at c9
          exact ⟨τ4, by rw [c5, c6, call_s, if_neg (by decide), c8, do_s], c9⟩
    · refine ⟨p1, by omega, a2, Or.inr ⟨D1, b1, b2, b3, fun σ h => ?_, fun τ h => ?_⟩⟩
      · obtain ⟨σ1, c1, c2⟩ := fx _ h
        exact ⟨σ1, by rw [hxs σ, c1, call_s, if_neg (by decide), hx2 _ σ1 p1 _ a2 c2, if_neg g], c2⟩
      · obtain ⟨τ1, c1, c2⟩ := fm' _ h
        exact ⟨τ1, by rw [hm p C _ τ hp h τ1 p1 _ a2 c1 c2, if_neg g], c2⟩
