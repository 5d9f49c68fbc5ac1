/-! ===== reading: one unit, all depths ===== -/
theorem PJ.stop {u : Nat} {T : List Int32} {fx fm : om_S → Option (Int32 × om_S)} {o p lo : Nat} {C : List Int32} {Pr : List Int32 → Prop} (hp : p ≤ T.length) (hx : ∀ s0 σ, XP u T s0 p C σ → fx σ = some (0, σ)) (hm : ∀ t0 τ, MP u T t0 o p C τ → ∃ τ', fm τ = some (0, τ') ∧ MF t0 p τ') : PJ u T fx fm o p C lo Pr :=
  ⟨p, Nat.le_refl _, hp, Or.inl ⟨fun σ h => ⟨σ, hx _ σ h, h.fail⟩, fun τ h => hm _ τ h⟩⟩
theorem x_num48 {u p : Nat} {T C : List Int32} {s0 σ : om_S} {v : Int32} (hl : C.length < 60) (h : XP u T s0 p C σ) : ∃ σ', f_X2_readNumber_b48 70 v σ = some σ' ∧ XP u T s0 p (C ++ [v]) σ' := by
  obtain ⟨σ', c1, c2⟩ := h.add (d := v) hl
  refine ⟨σ', ?_, c2⟩
  unfold f_X2_readNumber_b48
  simp only [rf_70_0, kc_71, rf_71_1, kc_72, om_ref_s, if_true, c1, call_s]
theorem enc_num {u v : Nat} (h : v < 10000) : enc u (nI v) = (0, nI v) ∧ ¬ nI v < -3 := by
  have h0 : ¬ nI v < 0 := nI_pos (by omega)
  have h3 : ¬ nI v < -3 := by
    intro q
    apply h0
    rw [ltI] at q ⊢
    exact Int.lt_trans q (by decide)
  refine ⟨?_, h3⟩
  unfold enc
  rw [if_neg h3, if_neg h0]
theorem unitJ {u : Nat} {T : List Int32} {o d e : Nat} (hT : T.length ≤ 60) (hu : u < 2) (ho : o ≤ 5)
    (hU : o < 5 → ∀ p C, p ≤ T.length → C.length ≤ p → PJ u T ((grp_X2_readChain d).2.1 70 (nI (o + 1))) ((grp_X9_whole e).2.2.2.2.2 90) (o + 1) p C (p + 1) PP)
    (hC : o < 5 → ∀ p C, p ≤ T.length → C.length ≤ p → PJ u T ((grp_X2_readChain d).1 70 (nI 0) (nI (o + 1))) ((grp_X9_whole e).1 90) (o + 1) p C (p + 1) PP) :
    ∀ p C, p ≤ T.length → C.length ≤ p → PJ u T ((grp_X2_readChain (d + 2)).2.1 70 (nI o)) ((grp_X9_whole (e + 1)).2.2.2.2.2 90) o p C (p + 1) PP := by
  intro p C hp hCl
  have hx0 : ∀ σ, (grp_X2_readChain (d + 2)).2.1 70 (nI o) σ = fo_X2_readUnit (grp_X2_readChain (d + 1)).1 (grp_X2_readChain (d + 1)).2.1 (grp_X2_readChain (d + 1)).2.2.1 (grp_X2_readChain (d + 1)).2.2.2 70 (nI o) σ := fun σ => rfl
  have hm0 : ∀ τ, (grp_X9_whole (e + 1)).2.2.2.2.2 90 τ = fo_X9_one (grp_X9_whole e).1 (grp_X9_whole e).2.1 (grp_X9_whole e).2.2.1 (grp_X9_whole e).2.2.2.1 (grp_X9_whole e).2.2.2.2.1 (grp_X9_whole e).2.2.2.2.2 90 τ := fun τ => rfl
  have hnot0 : ∀ x σ, (grp_X2_readChain (d + 1)).2.2.1 70 x σ = fo_X2_readNot (grp_X2_readChain d).1 (grp_X2_readChain d).2.1 (grp_X2_readChain d).2.2.1 (grp_X2_readChain d).2.2.2 70 x σ := fun x σ => rfl
  have hbr0 : ∀ x σ, (grp_X2_readChain (d + 1)).2.2.2 70 x σ = fo_X2_readBracketed (grp_X2_readChain d).1 (grp_X2_readChain d).2.1 (grp_X2_readChain d).2.2.1 (grp_X2_readChain d).2.2.2 70 x σ := fun x σ => rfl
  by_cases g : (48 : Int32) ≤ nx T p ∧ nx T p ≤ 57
  · -- a number
    have hnm : nmI u (nx T p) = 0 := by
      by_cases e0 : nmI u (nx T p) = 0
      · exact e0
      · exact absurd g (nm_facts hu e0).2.2.1
    obtain ⟨p', v', a1, a2, a3, a4, fx, fm⟩ := numLoop (u := u) (o := o) (r1 := (grp_X9_whole e).1) (r2 := (grp_X9_whole e).2.1) (r3 := (grp_X9_whole e).2.2.1) (r4 := (grp_X9_whole e).2.2.2.1) (r5 := (grp_X9_whole e).2.2.2.2.1) (r6 := (grp_X9_whole e).2.2.2.2.2) hT 4 0 0 p om_F om_F C (by omega) (lt_F (by omega)) (lt_F (by omega)) (by decide) hp
    have hlt := a4 (by omega) g
    obtain ⟨en, hn3⟩ := enc_num (u := u) a3
    refine ⟨p', a1, a2, Or.inr ⟨[nI v'], hlt, by simp only [List.length_cons, List.length_nil]; omega, PP_val hn3, fun σ h => ?_, fun τ h => ?_⟩⟩
    · obtain ⟨σ1, c1, c2⟩ := fx _ σ h
      obtain ⟨σ2, c3, c4⟩ := x_num48 (v := nI v') (by omega) c1
      refine ⟨σ2, ?_, c4⟩
      rw [hx0]
      unfold fo_X2_readUnit f_X2_readNumber
      rw [if_pos kc_70, x_next hT hp h, call_s, x_isDigit, call_s, bI_y g, if_pos kc_70, show f_X2_readNumber_b4 om_F 70 0 0 σ = _ from c2, c3, do_s]
    · obtain ⟨τ1, c1, c2⟩ := fm _ τ h
      obtain ⟨τ2, c3, c4⟩ := c1.step (by omega) en
      refine ⟨τ2, ?_, c4⟩
      rw [hm0]
      unfold fo_X9_one
      rw [if_pos kM.1, m_look hT hp h, call_s, m_isName hu h.2.2.2.1, call_s, hnm, if_pos rfl, if_pos rfl, m_in, call_s, bI_y g]
      refine Eq.trans c2 ?_
      unfold f_X9_one_b94
      rw [c3, do_s]
  by_cases gn : nmI u (nx T p) = 0
  rotate_left
  · -- a name
    obtain ⟨n1, n2, n3, n4⟩ := nm_facts hu gn
    have hpl : p < T.length := by
      by_cases hh : p < T.length
      · exact hh
      · exfalso
        apply gn
        unfold nx
        rw [if_neg hh]
        rcases (show u = 0 ∨ u = 1 by omega) with rfl | rfl <;> decide
    refine ⟨p + 1, by omega, by omega, Or.inr ⟨[-(nI (nmI u (nx T p)))], Nat.le_refl _, by simp, PP_val n2, fun σ h => ?_, fun τ h => ?_⟩⟩
    · obtain ⟨σ1, c1, c2⟩ := (h.pl (p2 := p + 1)).add (d := -(nI (nmI u (nx T p)))) (by omega)
      refine ⟨σ1, ?_, c2⟩
      rw [hx0]
      unfold fo_X2_readUnit
      rw [if_pos kc_70, x_next hT hp h, call_s, x_isDigit, call_s, bI_n g, x_nameOf hu h.2.1, call_s, if_neg n4]
      simp only [let_s, h.1, nI_1, rf_70_0, kc_71, rf_71_1, kc_72, om_ref_s, if_true, c1, call_s]
    · obtain ⟨τ1, c1, c2⟩ := (h.pl (p2 := p + 1)).step (by omega) n1
      refine ⟨τ1, ?_, c2⟩
      rw [hm0]
      unfold fo_X9_one
      rw [if_pos kM.1, m_look hT hp h, call_s, m_isName hu h.2.2.2.1, call_s, if_neg gn, if_neg (by decide), let_s, h.1, nI_1, c1, do_s]
  have hxu : ∀ s0 σ, XP u T s0 p C σ → (grp_X2_readChain (d + 2)).2.1 70 (nI o) σ = if nx T p = 33 then f_X2_readUnit_b65 (grp_X2_readChain (d + 1)).1 (grp_X2_readChain (d + 1)).2.1 (grp_X2_readChain (d + 1)).2.2.1 (grp_X2_readChain (d + 1)).2.2.2 70 (nI o) (nx T p) σ else if nx T p = 40 then f_X2_readUnit_b65 (grp_X2_readChain (d + 1)).1 (grp_X2_readChain (d + 1)).2.1 (grp_X2_readChain (d + 1)).2.2.1 (grp_X2_readChain (d + 1)).2.2.2 70 (nI o) (nx T p) σ else some (0, σ) := by
    intro s0 σ h
    rw [hx0]
    unfold fo_X2_readUnit
    rw [if_pos kc_70, x_next hT hp h, call_s, x_isDigit, call_s, bI_n g, x_nameOf hu h.2.1, call_s, gn, if_pos (show nI 0 = 0 from rfl)]
  by_cases g33 : nx T p = 33
  · -- not
    have hpl : p < T.length := by
      by_cases hh : p < T.length
      · exact hh
      · exfalso
        unfold nx at g33
        rw [if_neg hh] at g33
        exact absurd g33 (by decide)
    have hmu : ∀ t0 τ, MP u T t0 o p C τ → (grp_X9_whole (e + 1)).2.2.2.2.2 90 τ = om_call (f_X9_opens 90 τ) fun r s => if r = 0 then some (0, s) else om_call ((grp_X9_whole e).2.2.2.2.2 90 s) fun r s => if r = 0 then some (0, s) else om_let (om_w s 90 7 (s 90 7 - 1)) fun s => om_do (f_X9_step1 90 2 0 s) fun s => some (1, s) := by
      intro t0 τ h
      rw [hm0]
      unfold fo_X9_one
      rw [if_pos kM.1, m_look hT hp h, call_s, m_isName hu h.2.2.2.1, call_s, if_pos gn, if_pos rfl, m_in, call_s, bI_n g, if_pos g33]
    by_cases ho5 : o < 5
    · have hxn : ∀ s0 σ, XP u T s0 p C σ → (grp_X2_readChain (d + 2)).2.1 70 (nI o) σ = om_call (om_call ((grp_X2_readChain d).2.1 70 (nI (o + 1)) (om_w σ 70 3 (nI (p + 1)))) fun r s => if r = 0 then some (0, s) else om_call (f_X3_add 72 (-33) s) fun _ s => some (1, s)) fun r s => if r = 0 ∨ r = 1 then some (r, s) else none := by
        intro s0 σ h
        rw [hxu _ σ h, if_pos g33]
        unfold f_X2_readUnit_b65
        rw [if_pos (show nI o < 5 from nI_lt (b := 5) ho5 (by omega)), let_s, h.1, nI_1, if_pos g33, hnot0, nI_1]
        unfold fo_X2_readNot
        rw [if_pos kc_70]
        simp only [rf_70_0, kc_71, rf_71_1, kc_72, om_ref_s, if_true]
      have hop : ∀ t0 τ, MP u T t0 o p C τ → f_X9_opens 90 τ = some (1, om_w (om_w τ 90 7 (nI (o + 1))) 90 6 (nI (p + 1))) := by
        intro t0 τ h
        unfold f_X9_opens
        rw [if_pos kM.1, h.2.1, if_neg (show ¬ nI o = 5 from fun q => by have := (nI_eq (b := 5) (by omega) (by omega)).mp q; omega), let_s, nI_1, om_w_j (by omega), h.1, nI_1, let_s]
      obtain ⟨p1, a1, a2, hcase⟩ := hU ho5 (p + 1) C (by omega) (by omega)
      rcases hcase with ⟨fx, fm⟩ | ⟨D1, b1, b2, b3, fx, fm⟩
      · refine ⟨p1, by omega, a2, Or.inl ⟨fun σ h => ?_, fun τ h => ?_⟩⟩
        · obtain ⟨σ1, c1, c2⟩ := fx _ h.pl
          exact ⟨σ1, by rw [hxn _ σ h, c1, call_s, if_pos rfl, call_s, if_pos (Or.inl rfl)], c2⟩
        · obtain ⟨τ1, c1, c2⟩ := fm _ (h.op.pl)
          exact ⟨τ1, by rw [hmu _ τ h, hop _ τ h, call_s, if_neg (by decide), c1, call_s, if_pos rfl], c2⟩
      · have hl1 : (C ++ D1).length < 60 := by
          rw [List.length_append]
          omega
        refine ⟨p1, by omega, a2, Or.inr ⟨D1 ++ [-33], by omega, by rw [ln1]; omega, PP_not b3, fun σ h => ?_, fun τ h => ?_⟩⟩
        · obtain ⟨σ1, c1, c2⟩ := fx _ h.pl
          obtain ⟨σ2, c3, c4⟩ := c2.add (d := -33) hl1
          rw [List.append_assoc] at c4
          exact ⟨σ2, by rw [hxn _ σ h, c1, call_s, if_neg (by decide), c3, call_s, call_s, if_pos (Or.inr rfl)], c4⟩
        · obtain ⟨τ1, c1, c2⟩ := fm _ (h.op.pl)
          obtain ⟨τ2, c3, c4⟩ := (c2.op (o2 := o)).step (d := -33) hl1 (show enc u (-33) = (2, 0) from rfl)
          rw [List.append_assoc] at c4
          exact ⟨τ2, by rw [hmu _ τ h, hop _ τ h, call_s, if_neg (by decide), c1, call_s, if_neg (by decide), let_s, c2.2.1, nI_pred, c3, do_s], c4⟩
    · have ho6 : o = 5 := by omega
      refine PJ.stop hp (fun _ σ h => ?_) (fun _ τ h => ⟨τ, ?_, h.fail⟩)
      · rw [hxu _ σ h, if_pos g33]
        unfold f_X2_readUnit_b65
        rw [ho6, if_neg (by decide)]
      · rw [hmu _ τ h]
        unfold f_X9_opens
        rw [if_pos kM.1, h.2.1, if_pos (show nI o = 5 by rw [ho6]; rfl), call_s, if_pos rfl]
  by_cases g40 : nx T p = 40
  · have hpl : p < T.length := by
      by_cases hh : p < T.length
      · exact hh
      · exfalso
        unfold nx at g40
        rw [if_neg hh] at g40
        exact absurd g40 (by decide)
    have hmu : ∀ t0 τ, MP u T t0 o p C τ → (grp_X9_whole (e + 1)).2.2.2.2.2 90 τ = om_call (f_X9_opens 90 τ) fun r s => if r = 0 then some (0, s) else om_call ((grp_X9_whole e).1 90 s) fun r s => if r = 0 then some (0, s) else om_call (f_X9_look 90 s) fun r s => if r = 41 then om_let (om_w s 90 6 (s 90 6 + 1)) fun s => om_let (om_w s 90 7 (s 90 7 - 1)) fun s => some (1, s) else some (0, s) := by
      intro t0 τ h
      rw [hm0]
      unfold fo_X9_one
      rw [if_pos kM.1, m_look hT hp h, call_s, m_isName hu h.2.2.2.1, call_s, if_pos gn, if_pos rfl, m_in, call_s, bI_n g, if_neg g33, if_pos g40]
    by_cases ho5 : o < 5
    · have hxn : ∀ s0 σ, XP u T s0 p C σ → (grp_X2_readChain (d + 2)).2.1 70 (nI o) σ = om_call (om_call ((grp_X2_readChain d).1 70 (nI 0) (nI (o + 1)) (om_w σ 70 3 (nI (p + 1)))) fun r s => if r = 0 then some (0, s) else om_call (f_X2_next 70 s) fun r s => if r = 41 then om_let (om_w s 70 3 (s 70 3 + 1)) fun s => some (1, s) else some (0, s)) fun r s => if r = 0 ∨ r = 1 then some (r, s) else none := by
        intro s0 σ h
        rw [hxu _ σ h, if_neg g33, if_pos g40]
        unfold f_X2_readUnit_b65
        rw [if_pos (show nI o < 5 from nI_lt (b := 5) ho5 (by omega)), let_s, h.1, nI_1, if_neg g33, hbr0, nI_1]
        unfold fo_X2_readBracketed
        rw [if_pos kc_70]
        exact Eq.refl _
      have hop : ∀ t0 τ, MP u T t0 o p C τ → f_X9_opens 90 τ = some (1, om_w (om_w τ 90 7 (nI (o + 1))) 90 6 (nI (p + 1))) := by
        intro t0 τ h
        unfold f_X9_opens
        rw [if_pos kM.1, h.2.1, if_neg (show ¬ nI o = 5 from fun q => by have := (nI_eq (b := 5) (by omega) (by omega)).mp q; omega), let_s, nI_1, om_w_j (by omega), h.1, nI_1, let_s]
      obtain ⟨p1, a1, a2, hcase⟩ := hC ho5 (p + 1) C (by omega) (by omega)
      rcases hcase with ⟨fx, fm⟩ | ⟨D1, b1, b2, b3, fx, fm⟩
      · refine ⟨p1, by omega, a2, Or.inl ⟨fun σ h => ?_, fun τ h => ?_⟩⟩
        · obtain ⟨σ1, c1, c2⟩ := fx _ h.pl
          exact ⟨σ1, by rw [hxn _ σ h, c1, call_s, if_pos rfl, call_s, if_pos (Or.inl rfl)], c2⟩
        · obtain ⟨τ1, c1, c2⟩ := fm _ (h.op.pl)
          exact ⟨τ1, by rw [hmu _ τ h, hop _ τ h, call_s, if_neg (by decide), c1, call_s, if_pos rfl], c2⟩
      · by_cases g41 : nx T p1 = 41
        · have hpl1 : p1 < T.length := by
            by_cases hh : p1 < T.length
            · exact hh
            · exfalso
              unfold nx at g41
              rw [if_neg hh] at g41
              exact absurd g41 (by decide)
          refine ⟨p1 + 1, by omega, by omega, Or.inr ⟨D1, by omega, by omega, b3, fun σ h => ?_, fun τ h => ?_⟩⟩
          · obtain ⟨σ1, c1, c2⟩ := fx _ h.pl
            exact ⟨_, by rw [hxn _ σ h, c1, call_s, if_neg (by decide), x_next hT a2 c2, call_s, if_pos g41, let_s, c2.1, nI_1, call_s, if_pos (Or.inr rfl)], c2.pl⟩
          · obtain ⟨τ1, c1, c2⟩ := fm _ (h.op.pl)
            exact ⟨_, by rw [hmu _ τ h, hop _ τ h, call_s, if_neg (by decide), c1, call_s, if_neg (by decide), m_look hT a2 c2, call_s, if_pos g41, let_s, c2.1, nI_1, let_s, om_w_j (by omega), c2.2.1, nI_pred], (c2.pl (p2 := p1 + 1)).op (o2 := o)⟩
        · refine ⟨p1, by omega, a2, Or.inl ⟨fun σ h => ?_, fun τ h => ?_⟩⟩
          · obtain ⟨σ1, c1, c2⟩ := fx _ h.pl
            exact ⟨σ1, by rw [hxn _ σ h, c1, call_s, if_neg (by decide), x_next hT a2 c2, call_s, if_neg g41, call_s, if_pos (Or.inl rfl)], c2.fail⟩
          · obtain ⟨τ1, c1, c2⟩ := fm _ (h.op.pl)
            exact ⟨τ1, by rw [hmu _ τ h, hop _ τ h, call_s, if_neg (by decide), c1, call_s, if_neg (by decide), m_look hT a2 c2, call_s, if_neg g41], c2.fail⟩
    · have ho6 : o = 5 := by omega
      refine PJ.stop hp (fun _ σ h => ?_) (fun _ τ h => ⟨τ, ?_, h.fail⟩)
      · rw [hxu _ σ h, if_neg g33, if_pos g40]
        unfold f_X2_readUnit_b65
        rw [ho6, if_neg (by decide)]
      · rw [hmu _ τ h]
        unfold f_X9_opens
        rw [if_pos kM.1, h.2.1, if_pos (show nI o = 5 by rw [ho6]; rfl), call_s, if_pos rfl]
  · refine PJ.stop hp (fun _ σ h => ?_) (fun _ τ h => ⟨τ, ?_, h.fail⟩)
    · rw [hxu _ σ h, if_neg g33, if_neg g40]
    · rw [hm0]
      unfold fo_X9_one
      rw [if_pos kM.1, m_look hT hp h, call_s, m_isName hu h.2.2.2.1, call_s, if_pos gn, if_pos rfl, m_in, call_s, bI_n g, if_neg g33, if_neg g40]
theorem unitK {u : Nat} {T : List Int32} (hT : T.length ≤ 60) (hu : u < 2) : ∀ k, k ≤ 5 → ∀ d e, 8 * k + 2 ≤ d → 6 * k + 1 ≤ e → ∀ p C, p ≤ T.length → C.length ≤ p → PJ u T ((grp_X2_readChain d).2.1 70 (nI (5 - k))) ((grp_X9_whole e).2.2.2.2.2 90) (5 - k) p C (p + 1) PP := by
  intro k
  induction k with
  | zero =>
    intro _ d e hd he
    obtain ⟨d, rfl⟩ : ∃ G, d = G + 2 := ⟨d - 2, by omega⟩
    obtain ⟨e, rfl⟩ : ∃ G, e = G + 1 := ⟨e - 1, by omega⟩
    exact unitJ hT hu (by omega) (fun h => by omega) (fun h => by omega)
  | succ k ih =>
    intro hk d e hd he
    obtain ⟨d, rfl⟩ : ∃ G, d = G + 6 + 2 := ⟨d - 8, by omega⟩
    obtain ⟨e, rfl⟩ : ∃ G, e = G + 5 + 1 := ⟨e - 6, by omega⟩
    have e5 : 5 - (k + 1) + 1 = 5 - k := by omega
    refine unitJ hT hu (by omega) (fun _ => ?_) (fun _ => ?_)
    · rw [e5]
      exact ih (by omega) (d + 6) (e + 5) (by omega) (by omega)
    · rw [e5]
      exact chain0 hT (ih (by omega) d e (by omega) (by omega))
theorem readJ {u : Nat} {T : List Int32} (hT : T.length ≤ 60) (hu : u < 2) : PJ u T (f_X2_readChain 70 (nI 0) (nI 0)) (f_X9_whole 90) 0 0 [] 1 PP :=
  chain0 (d := 54) (e := 55) (o := 0) hT (unitK hT hu 5 (by omega) 54 55 (by omega) (by omega)) 0 [] (by omega) (by simp)
