/-! ===== reading a text: what both readers hold ===== -/
def nx (T : List Int32) (p : Nat) : Int32 := if p < T.length then T.getD p 0 else -1
def XP (u : Nat) (T : List Int32) (s0 : om_S) (p : Nat) (C : List Int32) (σ : om_S) : Prop := σ 70 3 = nI p ∧ σ 70 2 = nI u ∧ XRow 75 76 T σ ∧ XRow 72 73 C σ ∧ ∀ q, (q < 70 ∨ 77 ≤ q) → σ q = s0 q
def XF (s0 : om_S) (p : Nat) (σ : om_S) : Prop := σ 70 3 = nI p ∧ ∀ q, (q < 70 ∨ 77 ≤ q) → σ q = s0 q
def MP (u : Nat) (T : List Int32) (t0 : om_S) (o p : Nat) (C : List Int32) (τ : om_S) : Prop := τ 90 6 = nI p ∧ τ 90 7 = nI o ∧ τ 90 8 = nI C.length ∧ τ 90 9 = nI u ∧ (∀ k, k < C.length → τ 95 (2 * k) = (enc u (C.getD k 0)).1 ∧ τ 95 (2 * k + 1) = (enc u (C.getD k 0)).2) ∧ NRow 91 4 303 T τ ∧ (∀ q, q ≠ 90 → q ≠ 95 → τ q = t0 q) ∧ ∀ j, j ≠ 6 → j ≠ 7 → j ≠ 8 → j ≠ 9 → τ 90 j = t0 90 j
def MF (t0 : om_S) (p : Nat) (τ : om_S) : Prop := τ 90 6 = nI p ∧ (∀ q, q ≠ 90 → q ≠ 95 → τ q = t0 q) ∧ ∀ j, j ≠ 6 → j ≠ 7 → j ≠ 8 → j ≠ 9 → τ 90 j = t0 90 j
def PJ (u : Nat) (T : List Int32) (fx fm : om_S → Option (Int32 × om_S)) (o p : Nat) (C : List Int32) (lo : Nat) (Pr : List Int32 → Prop) : Prop :=
  ∃ p', p ≤ p' ∧ p' ≤ T.length ∧ (((∀ {s0 : om_S} (σ : om_S), XP u T s0 p C σ → ∃ σ', fx σ = some (0, σ') ∧ XF s0 p' σ') ∧ ∀ {t0 : om_S} (τ : om_S), MP u T t0 o p C τ → ∃ τ', fm τ = some (0, τ') ∧ MF t0 p' τ') ∨
    ∃ D, lo ≤ p' ∧ p + D.length ≤ p' ∧ Pr D ∧ (∀ {s0 : om_S} (σ : om_S), XP u T s0 p C σ → ∃ σ', fx σ = some (1, σ') ∧ XP u T s0 p' (C ++ D) σ') ∧ ∀ {t0 : om_S} (τ : om_S), MP u T t0 o p C τ → ∃ τ', fm τ = some (1, τ') ∧ MP u T t0 o p' (C ++ D) τ')
theorem XP.fail {u p : Nat} {T C : List Int32} {s0 σ : om_S} (h : XP u T s0 p C σ) : XF s0 p σ := ⟨h.1, h.2.2.2.2⟩
theorem MP.fail {u o p : Nat} {T C : List Int32} {t0 τ : om_S} (h : MP u T t0 o p C τ) : MF t0 p τ := ⟨h.1, h.2.2.2.2.2.2.1, h.2.2.2.2.2.2.2⟩
theorem XP.pl {u p p2 : Nat} {T C : List Int32} {s0 σ : om_S} (h : XP u T s0 p C σ) : XP u T s0 p2 C (om_w σ 70 3 (nI p2)) := by
  obtain ⟨h1, h2, h3, h4, h5⟩ := h
  exact ⟨om_w_s, by rw [om_w_j (by omega)]; exact h2, h3.congr (om_w_off (by omega)) (om_w_off (by omega)), h4.congr (om_w_off (by omega)) (om_w_off (by omega)), fun q hq => by rw [om_w_off (by omega)]; exact h5 q hq⟩
theorem R72 : IsRow 72 73 60 := ⟨kc_72, rf_72_0, kc_73, al_73, by omega, by omega⟩
theorem R75 : IsRow 75 76 60 := ⟨kc_75, rf_75_0, kc_76, al_76, by omega, by omega⟩
theorem XP.add {u p : Nat} {T C : List Int32} {s0 σ : om_S} {d : Int32} (h : XP u T s0 p C σ) (hl : C.length < 60) : ∃ σ', f_X3_add 72 d σ = some (1, σ') ∧ XP u T s0 p (C ++ [d]) σ' := by
  obtain ⟨h1, h2, h3, h4, h5⟩ := h
  refine ⟨_, x_add R72 h4 hl, ?_, ?_, h3.congr (by rw [om_w_off (by omega), om_w_off (by omega)]) (by rw [om_w_off (by omega), om_w_off (by omega)]), XRow.add (by omega) h4, fun q hq => ?_⟩
  · rw [om_w_k (by omega), om_w_k (by omega)]
    exact h1
  · rw [om_w_k (by omega), om_w_k (by omega)]
    exact h2
  · rw [om_w_off (by omega), om_w_off (by omega)]
    exact h5 q hq
theorem MP.pl {u o p p2 : Nat} {T C : List Int32} {t0 τ : om_S} (h : MP u T t0 o p C τ) : MP u T t0 o p2 C (om_w τ 90 6 (nI p2)) := by
  obtain ⟨h1, h2, h3, h4, h5, h6, h7, h8⟩ := h
  exact ⟨om_w_s, by rw [om_w_j (by omega)]; exact h2, by rw [om_w_j (by omega)]; exact h3, by rw [om_w_j (by omega)]; exact h4, fun k hk => by rw [om_w_k (by omega), om_w_k (by omega)]; exact h5 k hk, h6.congr (by rw [om_w_k (by omega)]) (fun j _ _ => om_w_k (by omega)), fun q a b => by rw [om_w_off a]; exact h7 q a b, fun j a b c d => by rw [om_w_j a]; exact h8 j a b c d⟩
theorem MP.op {u o o2 p : Nat} {T C : List Int32} {t0 τ : om_S} (h : MP u T t0 o p C τ) : MP u T t0 o2 p C (om_w τ 90 7 (nI o2)) := by
  obtain ⟨h1, h2, h3, h4, h5, h6, h7, h8⟩ := h
  exact ⟨by rw [om_w_j (by omega)]; exact h1, om_w_s, by rw [om_w_j (by omega)]; exact h3, by rw [om_w_j (by omega)]; exact h4, fun k hk => by rw [om_w_k (by omega), om_w_k (by omega)]; exact h5 k hk, h6.congr (by rw [om_w_k (by omega)]) (fun j _ _ => om_w_k (by omega)), fun q a b => by rw [om_w_off a]; exact h7 q a b, fun j a b c d => by rw [om_w_j b]; exact h8 j a b c d⟩
theorem MP.step {u o p : Nat} {T C : List Int32} {t0 τ : om_S} {d a b : Int32} (h : MP u T t0 o p C τ) (hl : C.length < 60) (he : enc u d = (a, b)) : ∃ τ', f_X9_step1 90 a b τ = some τ' ∧ MP u T t0 o p (C ++ [d]) τ' := by
  obtain ⟨h1, h2, h3, h4, h5, h6, h7, h8⟩ := h
  have e1 : (2 : Int32) * nI C.length = nI (2 * C.length) := pk_mul 2 C.length
  have c1 : (nI (2 * C.length)).toNatClampNeg = 2 * C.length := nI_clamp (by omega)
  have c2 : (nI (2 * C.length + 1)).toNatClampNeg = 2 * C.length + 1 := nI_clamp (by omega)
  have i1 : om_in (nI (2 * C.length)) 124 = True := eq_true (in_nI (by omega) (by omega))
  have i2 : om_in (nI (2 * C.length + 1)) 124 = True := eq_true (in_nI (by omega) (by omega))
  refine ⟨om_w (om_w (om_w τ 95 (2 * C.length) a) 95 (2 * C.length + 1) b) 90 8 (nI (C.length + 1)), ?_, ?_, ?_, ?_, ?_, fun k hk => ?_, ?_, fun q g1 g2 => ?_, fun j g1 g2 g3 g4 => ?_⟩
  · unfold f_X9_step1
    simp only [kM, rM, aM, om_ref_s, if_true, let_s, h3, e1, c1, i1]
    have e3 : om_w τ 95 (2 * C.length) a 90 8 = nI C.length := (om_w_k (by omega)).trans h3
    simp only [e3, e1, nI_1, c2, i2, if_true]
    rw [om_w_k (by omega), e3, nI_1]
  · rw [om_w_j (by omega), om_w_k (by omega), om_w_k (by omega)]
    exact h1
  · rw [om_w_j (by omega), om_w_k (by omega), om_w_k (by omega)]
    exact h2
  · rw [om_w_s, ln1]
  · rw [om_w_j (by omega), om_w_k (by omega), om_w_k (by omega)]
    exact h4
  · rw [ln1] at hk
    by_cases e : k = C.length
    · subst e
      refine ⟨?_, ?_⟩
      · rw [om_w_k (by omega), om_w_j (by omega), om_w_s]
        simp [he]
      · rw [om_w_k (by omega), om_w_s]
        simp [he]
    · rw [getD_app (by omega)]
      refine ⟨?_, ?_⟩
      · rw [om_w_k (by omega), om_w_j (by omega), om_w_j (by omega)]
        exact (h5 k (by omega)).1
      · rw [om_w_k (by omega), om_w_j (by omega), om_w_j (by omega)]
        exact (h5 k (by omega)).2
  · exact h6.congr (by rw [om_w_k (by omega), om_w_k (by omega), om_w_k (by omega)]) (fun j _ _ => by rw [om_w_k (by omega), om_w_k (by omega), om_w_k (by omega)])
  · rw [om_w_off g1, om_w_off g2, om_w_off g2]
    exact h7 q g1 g2
  · rw [om_w_j g3, om_w_k (by omega), om_w_k (by omega)]
    exact h8 j g1 g2 g3 g4
theorem x_next {u p : Nat} {T C : List Int32} {s0 σ : om_S} (hT : T.length ≤ 60) (hp : p ≤ T.length) (h : XP u T s0 p C σ) : f_X2_next 70 σ = some (nx T p, σ) := by
  unfold f_X2_next nx
  simp only [kX, rf_70_1, kc_75, om_ref_s, if_true, h.1, x_has R75 h.2.2.1 hT, call_s]
  by_cases e : p < T.length
  · rw [bI_y (hasY e (by omega)), x_at R75 h.2.2.1 hT e, call_s, if_pos e]
  · rw [bI_n (hasN (by omega) (by omega)), if_neg e]
theorem m_look {u o p : Nat} {T C : List Int32} {t0 τ : om_S} (hT : T.length ≤ 60) (hp : p ≤ T.length) (h : MP u T t0 o p C τ) : f_X9_look 90 τ = some (nx T p, τ) := by
  have c : (nI (303 + p)).toNatClampNeg = 303 + p := nI_clamp (by omega)
  have i1 : om_in (nI (303 + p)) 387 = True := eq_true (in_nI (by omega) (by omega))
  have h6 := h.2.2.2.2.2.1
  unfold f_X9_look nx
  simp only [kM, rM, aM, om_ref_s, if_true, in4_387, cl4, h6.1, h.1, show (303 : Int32) + nI p = nI (303 + p) from nI_add 303 p, c, i1]
  by_cases e : p < T.length
  · rw [if_neg (nI_ge e (by omega)), if_pos e, h6.2 p e]
  · rw [if_pos (nI_le (by omega) (by omega)), if_neg e]
def lvl (c : Int32) : Int32 := if c = 37 then 4 else if c = 38 then 1 else if c = 42 then 4 else if c = 43 then 3 else if c = 45 then 3 else if c = 47 then 4 else if c = 60 then 2 else if c = 61 then 2 else if c = 62 then 2 else if c = 124 then 0 else -1
theorem x_lvl {c : Int32} {σ : om_S} : f_X2_levelOf c σ = some (lvl c, σ) := by
  unfold f_X2_levelOf lvl
  simp only [ite_s]
theorem lvl_sgn {c : Int32} (h : lvl c ≠ -1) : sgnOK c := by
  unfold lvl at h
  unfold sgnOK
  by_cases e1 : c = 37
  · exact Or.inl e1
  by_cases e2 : c = 38
  · exact Or.inr (Or.inl e2)
  by_cases e3 : c = 42
  · exact Or.inr (Or.inr (Or.inl e3))
  by_cases e4 : c = 43
  · exact Or.inr (Or.inr (Or.inr (Or.inl e4)))
  by_cases e5 : c = 45
  · exact Or.inr (Or.inr (Or.inr (Or.inr (Or.inl e5))))
  by_cases e6 : c = 47
  · exact Or.inr (Or.inr (Or.inr (Or.inr (Or.inr (Or.inl e6)))))
  by_cases e7 : c = 60
  · exact Or.inr (Or.inr (Or.inr (Or.inr (Or.inr (Or.inr (Or.inl e7))))))
  by_cases e8 : c = 61
  · exact Or.inr (Or.inr (Or.inr (Or.inr (Or.inr (Or.inr (Or.inr (Or.inl e8)))))))
  by_cases e9 : c = 62
  · exact Or.inr (Or.inr (Or.inr (Or.inr (Or.inr (Or.inr (Or.inr (Or.inr (Or.inl e9))))))))
  by_cases e10 : c = 124
  · exact Or.inr (Or.inr (Or.inr (Or.inr (Or.inr (Or.inr (Or.inr (Or.inr (Or.inr e10))))))))
  · exfalso
    apply h
    rw [if_neg e1, if_neg e2, if_neg e3, if_neg e4, if_neg e5, if_neg e6, if_neg e7, if_neg e8, if_neg e9, if_neg e10]
theorem sgn_enc {u : Nat} {c : Int32} (h : sgnOK c) : enc u (-c) = (3, c) ∧ -c < -3 ∧ -c ≠ -33 ∧ sgnOK (- -c) := by
  have hh : sgnOK (- -c) := by
    rw [Int32.neg_neg]
    exact h
  rcases h with rfl | rfl | rfl | rfl | rfl | rfl | rfl | rfl | rfl | rfl <;> exact ⟨rfl, by decide, by decide, hh⟩
def nxt (T : List Int32) (p : Nat) (L : Nat) : Prop := lvl (nx T p) = nI L
theorem lvl_lt {T : List Int32} {p L : Nat} (hL : L < 5) (h : lvl (nx T p) = nI L) : p < T.length ∧ sgnOK (nx T p) := by
  have h2 : lvl (nx T p) ≠ -1 := by
    rw [h]
    exact nI_nm1 (by omega)
  refine ⟨?_, lvl_sgn h2⟩
  by_cases e : p < T.length
  · exact e
  · exfalso
    apply h2
    unfold nx
    rw [if_neg e]
    decide
/-- one operand more; one operand as before, on top of one -/
def PP (D : List Int32) : Prop := ∀ rest h, HH rest (h + 1) → HH (D ++ rest) h
def LQ (D : List Int32) : Prop := ∀ rest h, HH rest (h + 1) → HH (D ++ rest) (h + 1)
theorem LQ_nil : LQ [] := fun _ _ h => h
theorem PP_val {d : Int32} (h : ¬ d < -3) : PP [d] := fun _ _ g => Or.inl ⟨h, g⟩
theorem PP_not {D : List Int32} (h : PP D) : PP (D ++ [-33]) := fun rest n g => by
  rw [List.append_assoc]
  exact h _ _ (Or.inr (Or.inl ⟨rfl, by omega, g⟩))
theorem PP_LQ {D E : List Int32} (h : PP D) (h2 : LQ E) : PP (D ++ E) := fun rest n g => by
  rw [List.append_assoc]
  exact h _ _ (h2 _ _ g)
theorem LQ_sgn {D E : List Int32} {u : Nat} {c : Int32} (h : PP D) (hc : sgnOK c) (h2 : LQ E) : LQ (D ++ [-c] ++ E) := fun rest n g => by
  obtain ⟨_, c1, c2, c3⟩ := sgn_enc (u := u) hc
  rw [List.append_assoc, List.append_assoc]
  exact h _ _ (Or.inr (Or.inr ⟨c3, c1, c2, by omega, h2 _ _ g⟩))
