/-! ===== reading: the levels, names, numbers ===== -/
theorem lvl_cases (c : Int32) : (c = 37 ∧ lvl c = 4) ∨ (c = 38 ∧ lvl c = 1) ∨ (c = 42 ∧ lvl c = 4) ∨ (c = 43 ∧ lvl c = 3) ∨ (c = 45 ∧ lvl c = 3) ∨ (c = 47 ∧ lvl c = 4) ∨ (c = 60 ∧ lvl c = 2) ∨ (c = 61 ∧ lvl c = 2) ∨ (c = 62 ∧ lvl c = 2) ∨ (c = 124 ∧ lvl c = 0) ∨ lvl c = -1 := by
  by_cases h : lvl c = -1
  · simp [h]
  · rcases lvl_sgn h with rfl | rfl | rfl | rfl | rfl | rfl | rfl | rfl | rfl | rfl <;> decide
theorem lv0 {c : Int32} : lvl c = nI 0 ↔ c = 124 := by
  refine ⟨fun h => ?_, fun h => by rw [h]; decide⟩
  rcases lvl_cases c with ⟨e, h2⟩ | ⟨e, h2⟩ | ⟨e, h2⟩ | ⟨e, h2⟩ | ⟨e, h2⟩ | ⟨e, h2⟩ | ⟨e, h2⟩ | ⟨e, h2⟩ | ⟨e, h2⟩ | ⟨e, h2⟩ | h2
  all_goals first | exact e | exact absurd (h2.symm.trans h) (by decide)
theorem lv1 {c : Int32} : lvl c = nI 1 ↔ c = 38 := by
  refine ⟨fun h => ?_, fun h => by rw [h]; decide⟩
  rcases lvl_cases c with ⟨e, h2⟩ | ⟨e, h2⟩ | ⟨e, h2⟩ | ⟨e, h2⟩ | ⟨e, h2⟩ | ⟨e, h2⟩ | ⟨e, h2⟩ | ⟨e, h2⟩ | ⟨e, h2⟩ | ⟨e, h2⟩ | h2
  all_goals first | exact e | exact absurd (h2.symm.trans h) (by decide)
theorem lv2 {c : Int32} : lvl c = nI 2 ↔ c = 60 ∨ c = 61 ∨ c = 62 := by
  refine ⟨fun h => ?_, fun h => by rcases h with rfl | rfl | rfl <;> decide⟩
  rcases lvl_cases c with ⟨e, h2⟩ | ⟨e, h2⟩ | ⟨e, h2⟩ | ⟨e, h2⟩ | ⟨e, h2⟩ | ⟨e, h2⟩ | ⟨e, h2⟩ | ⟨e, h2⟩ | ⟨e, h2⟩ | ⟨e, h2⟩ | h2
  all_goals first | exact Or.inl e | exact Or.inr (Or.inl e) | exact Or.inr (Or.inr e) | exact absurd (h2.symm.trans h) (by decide)
theorem lv3 {c : Int32} : lvl c = nI 3 ↔ c = 43 ∨ c = 45 := by
  refine ⟨fun h => ?_, fun h => by rcases h with rfl | rfl <;> decide⟩
  rcases lvl_cases c with ⟨e, h2⟩ | ⟨e, h2⟩ | ⟨e, h2⟩ | ⟨e, h2⟩ | ⟨e, h2⟩ | ⟨e, h2⟩ | ⟨e, h2⟩ | ⟨e, h2⟩ | ⟨e, h2⟩ | ⟨e, h2⟩ | h2
  all_goals first | exact Or.inl e | exact Or.inr e | exact absurd (h2.symm.trans h) (by decide)
theorem lv4 {c : Int32} : lvl c = nI 4 ↔ c = 42 ∨ c = 47 ∨ c = 37 := by
  refine ⟨fun h => ?_, fun h => by rcases h with rfl | rfl | rfl <;> decide⟩
  rcases lvl_cases c with ⟨e, h2⟩ | ⟨e, h2⟩ | ⟨e, h2⟩ | ⟨e, h2⟩ | ⟨e, h2⟩ | ⟨e, h2⟩ | ⟨e, h2⟩ | ⟨e, h2⟩ | ⟨e, h2⟩ | ⟨e, h2⟩ | h2
  all_goals first | exact Or.inl e | exact Or.inr (Or.inl e) | exact Or.inr (Or.inr e) | exact absurd (h2.symm.trans h) (by decide)
abbrev om_C0 : Type := Nat → om_S → Option (Int32 × om_S)
theorem st_whole {u o p F : Nat} {T C : List Int32} {t0 τ : om_S} {r1 r2 r3 r4 r5 r6 : om_C0} (hT : T.length ≤ 60) (hp : p ≤ T.length) (h : MP u T t0 o p C τ) : f_X9_whole_b9 r1 r2 r3 r4 r5 r6 (F + 1) 90 τ = if lvl (nx T p) = nI 0 then om_call (r2 90 (om_w τ 90 6 (nI (p + 1)))) (fun r s => if r = 0 then some (0, s) else om_do (f_X9_step1 90 3 (nx T p) s) (fun s => f_X9_whole_b9 r1 r2 r3 r4 r5 r6 F 90 s)) else some (1, τ) := by
  rw [f_X9_whole_b9]
  rw [m_look hT hp h, call_s]
  by_cases g : nx T p = 124
  · rw [if_pos g, if_pos (lv0.mpr g), let_s, h.1, nI_1, g]
  · rw [if_neg g, if_neg (fun q => g (lv0.mp q))]
theorem st_both {u o p F : Nat} {T C : List Int32} {t0 τ : om_S} {r1 r2 r3 r4 r5 r6 : om_C0} (hT : T.length ≤ 60) (hp : p ≤ T.length) (h : MP u T t0 o p C τ) : f_X9_both_b9 r1 r2 r3 r4 r5 r6 (F + 1) 90 τ = if lvl (nx T p) = nI 1 then om_call (r3 90 (om_w τ 90 6 (nI (p + 1)))) (fun r s => if r = 0 then some (0, s) else om_do (f_X9_step1 90 3 (nx T p) s) (fun s => f_X9_both_b9 r1 r2 r3 r4 r5 r6 F 90 s)) else some (1, τ) := by
  rw [f_X9_both_b9]
  rw [m_look hT hp h, call_s]
  by_cases g : nx T p = 38
  · rw [if_pos g, if_pos (lv1.mpr g), let_s, h.1, nI_1, g]
  · rw [if_neg g, if_neg (fun q => g (lv1.mp q))]
theorem st_sum {u o p F : Nat} {T C : List Int32} {t0 τ : om_S} {r1 r2 r3 r4 r5 r6 : om_C0} (hT : T.length ≤ 60) (hp : p ≤ T.length) (h : MP u T t0 o p C τ) : f_X9_sum_b9 r1 r2 r3 r4 r5 r6 (F + 1) 90 τ = if lvl (nx T p) = nI 3 then om_call (r5 90 (om_w τ 90 6 (nI (p + 1)))) (fun r s => if r = 0 then some (0, s) else om_do (f_X9_step1 90 3 (nx T p) s) (fun s => f_X9_sum_b9 r1 r2 r3 r4 r5 r6 F 90 s)) else some (1, τ) := by
  rw [f_X9_sum_b9]
  unfold f_X9_sum_b27
  simp only [m_look hT hp h, call_s, let_s, h.1, nI_1]
  by_cases g : nx T p = 43
  · rw [if_pos g, if_pos (lv3.mpr (Or.inl g))]
  · rw [if_neg g]
    by_cases g2 : nx T p = 45
    · rw [if_pos g2, if_pos (lv3.mpr (Or.inr g2))]
    · rw [if_neg g2, if_neg (fun q => by rcases lv3.mp q with e | e; exact g e; exact g2 e)]
theorem st_prod {u o p F : Nat} {T C : List Int32} {t0 τ : om_S} {r1 r2 r3 r4 r5 r6 : om_C0} (hT : T.length ≤ 60) (hp : p ≤ T.length) (h : MP u T t0 o p C τ) : f_X9_product_b9 r1 r2 r3 r4 r5 r6 (F + 1) 90 τ = if lvl (nx T p) = nI 4 then om_call (r6 90 (om_w τ 90 6 (nI (p + 1)))) (fun r s => if r = 0 then some (0, s) else om_do (f_X9_step1 90 3 (nx T p) s) (fun s => f_X9_product_b9 r1 r2 r3 r4 r5 r6 F 90 s)) else some (1, τ) := by
  rw [f_X9_product_b9]
  unfold f_X9_product_b36
  simp only [m_look hT hp h, call_s, let_s, h.1, nI_1]
  by_cases g : nx T p = 42
  · rw [if_pos g, if_pos (lv4.mpr (Or.inl g))]
  · rw [if_neg g]
    by_cases g2 : nx T p = 47
    · rw [if_pos g2, if_pos (lv4.mpr (Or.inr (Or.inl g2)))]
    · rw [if_neg g2]
      by_cases g3 : nx T p = 37
      · rw [if_pos g3, if_pos (lv4.mpr (Or.inr (Or.inr g3)))]
      · rw [if_neg g3, if_neg (fun q => by rcases lv4.mp q with e | e | e; exact g e; exact g2 e; exact g3 e)]
abbrev om_XG (d : Nat) := grp_X2_readChain d
abbrev om_MG (e : Nat) := grp_X9_whole e
/-- all six levels over one unit -/
theorem chain0 {u : Nat} {T : List Int32} {o d e : Nat} (hT : T.length ≤ 60)
    (hU : ∀ p C, p ≤ T.length → C.length ≤ p → PJ u T ((grp_X2_readChain d).2.1 70 (nI o)) ((grp_X9_whole e).2.2.2.2.2 90) o p C (p + 1) PP) :
    ∀ p C, p ≤ T.length → C.length ≤ p → PJ u T ((grp_X2_readChain (d + 6)).1 70 (nI 0) (nI o)) ((grp_X9_whole (e + 5)).1 90) o p C (p + 1) PP := by
  have h5 : ∀ p C, p ≤ T.length → C.length ≤ p → PJ u T ((grp_X2_readChain (d + 1)).1 70 (nI 5) (nI o)) ((grp_X9_whole e).2.2.2.2.2 90) o p C (p + 1) PP := by
    intro p C hp hC
    have hx : ∀ σ, (grp_X2_readChain (d + 1)).1 70 (nI 5) (nI o) σ = om_call ((grp_X2_readChain d).2.1 70 (nI o) σ) (fun r s => if r = 0 ∨ r = 1 then some (r, s) else none) := by
      intro σ
      show fo_X2_readChain (grp_X2_readChain d).1 (grp_X2_readChain d).2.1 (grp_X2_readChain d).2.2.1 (grp_X2_readChain d).2.2.2 70 (nI 5) (nI o) σ = _
      unfold fo_X2_readChain
      rw [if_pos kc_70, if_neg (by decide)]
    obtain ⟨p1, a1, a2, hcase⟩ := hU p C hp hC
    rcases hcase with ⟨fx, fm'⟩ | ⟨D1, b1, b2, b3, fx, fm'⟩
    · refine ⟨p1, a1, a2, Or.inl ⟨fun σ h => ?_, fm'⟩⟩
      obtain ⟨σ', c1, c2⟩ := fx _ h
      exact ⟨σ', by rw [hx σ, c1, call_s, if_pos (Or.inl rfl)], c2⟩
    · refine ⟨p1, a1, a2, Or.inr ⟨D1, b1, b2, b3, fun σ h => ?_, fm'⟩⟩
      obtain ⟨σ', c1, c2⟩ := fx _ h
      exact ⟨σ', by rw [hx σ, c1, call_s, if_pos (Or.inr rfl)], c2⟩
  have h4 : ∀ p C, p ≤ T.length → C.length ≤ p → PJ u T ((grp_X2_readChain (d + 2)).1 70 (nI 4) (nI o)) ((grp_X9_whole (e + 1)).2.2.2.2.1 90) o p C (p + 1) PP :=
    chainJ (L := 4) (rc1 := (grp_X2_readChain (d + 1)).1) (rc2 := (grp_X2_readChain (d + 1)).2.1) (rc3 := (grp_X2_readChain (d + 1)).2.2.1) (rc4 := (grp_X2_readChain (d + 1)).2.2.2) (gm := fun F => f_X9_product_b9 (grp_X9_whole (e)).1 (grp_X9_whole (e)).2.1 (grp_X9_whole (e)).2.2.1 (grp_X9_whole (e)).2.2.2.1 (grp_X9_whole (e)).2.2.2.2.1 (grp_X9_whole (e)).2.2.2.2.2 F 90) hT (by omega) (by omega) h5 (fun F p C _ τ hp h => st_prod hT hp h) (fun τ => by
      show fo_X9_product (grp_X9_whole (e)).1 (grp_X9_whole (e)).2.1 (grp_X9_whole (e)).2.2.1 (grp_X9_whole (e)).2.2.2.1 (grp_X9_whole (e)).2.2.2.2.1 (grp_X9_whole (e)).2.2.2.2.2 90 τ = _
      unfold fo_X9_product
      rw [if_pos kM.1])
  have h3 : ∀ p C, p ≤ T.length → C.length ≤ p → PJ u T ((grp_X2_readChain (d + 3)).1 70 (nI 3) (nI o)) ((grp_X9_whole (e + 2)).2.2.2.1 90) o p C (p + 1) PP :=
    chainJ (L := 3) (rc1 := (grp_X2_readChain (d + 2)).1) (rc2 := (grp_X2_readChain (d + 2)).2.1) (rc3 := (grp_X2_readChain (d + 2)).2.2.1) (rc4 := (grp_X2_readChain (d + 2)).2.2.2) (gm := fun F => f_X9_sum_b9 (grp_X9_whole (e + 1)).1 (grp_X9_whole (e + 1)).2.1 (grp_X9_whole (e + 1)).2.2.1 (grp_X9_whole (e + 1)).2.2.2.1 (grp_X9_whole (e + 1)).2.2.2.2.1 (grp_X9_whole (e + 1)).2.2.2.2.2 F 90) hT (by omega) (by omega) h4 (fun F p C _ τ hp h => st_sum hT hp h) (fun τ => by
      show fo_X9_sum (grp_X9_whole (e + 1)).1 (grp_X9_whole (e + 1)).2.1 (grp_X9_whole (e + 1)).2.2.1 (grp_X9_whole (e + 1)).2.2.2.1 (grp_X9_whole (e + 1)).2.2.2.2.1 (grp_X9_whole (e + 1)).2.2.2.2.2 90 τ = _
      unfold fo_X9_sum
      rw [if_pos kM.1])
  have h2 : ∀ p C, p ≤ T.length → C.length ≤ p → PJ u T ((grp_X2_readChain (d + 4)).1 70 (nI 2) (nI o)) ((grp_X9_whole (e + 3)).2.2.1 90) o p C (p + 1) PP :=
    chainJ2 (rc1 := (grp_X2_readChain (d + 3)).1) (rc2 := (grp_X2_readChain (d + 3)).2.1) (rc3 := (grp_X2_readChain (d + 3)).2.2.1) (rc4 := (grp_X2_readChain (d + 3)).2.2.2) hT h3 (fun p C _ τ hp h τ1 p1 C1 hp1 c1 h1 => by
      show fo_X9_compared (grp_X9_whole (e + 2)).1 (grp_X9_whole (e + 2)).2.1 (grp_X9_whole (e + 2)).2.2.1 (grp_X9_whole (e + 2)).2.2.2.1 (grp_X9_whole (e + 2)).2.2.2.2.1 (grp_X9_whole (e + 2)).2.2.2.2.2 90 τ = _
      unfold fo_X9_compared f_X9_compared_b34
      rw [if_pos kM.1, c1, call_s, if_neg (by decide), m_look hT hp1 h1, call_s]
      simp only [let_s, h1.1, nI_1]
      by_cases g : nx T p1 = 60
      · rw [if_pos g, if_pos (lv2.mpr (Or.inl g))]
      · rw [if_neg g]
        by_cases g2 : nx T p1 = 61
        · rw [if_pos g2, if_pos (lv2.mpr (Or.inr (Or.inl g2)))]
        · rw [if_neg g2]
          by_cases g3 : nx T p1 = 62
          · rw [if_pos g3, if_pos (lv2.mpr (Or.inr (Or.inr g3)))]
          · rw [if_neg g3, if_neg (fun q => by rcases lv2.mp q with e | e | e; exact g e; exact g2 e; exact g3 e)]) (fun τ τ1 c1 => by
      show fo_X9_compared (grp_X9_whole (e + 2)).1 (grp_X9_whole (e + 2)).2.1 (grp_X9_whole (e + 2)).2.2.1 (grp_X9_whole (e + 2)).2.2.2.1 (grp_X9_whole (e + 2)).2.2.2.2.1 (grp_X9_whole (e + 2)).2.2.2.2.2 90 τ = _
      unfold fo_X9_compared
      rw [if_pos kM.1, c1, call_s, if_pos rfl])
  have h1 : ∀ p C, p ≤ T.length → C.length ≤ p → PJ u T ((grp_X2_readChain (d + 5)).1 70 (nI 1) (nI o)) ((grp_X9_whole (e + 4)).2.1 90) o p C (p + 1) PP :=
    chainJ (L := 1) (rc1 := (grp_X2_readChain (d + 4)).1) (rc2 := (grp_X2_readChain (d + 4)).2.1) (rc3 := (grp_X2_readChain (d + 4)).2.2.1) (rc4 := (grp_X2_readChain (d + 4)).2.2.2) (gm := fun F => f_X9_both_b9 (grp_X9_whole (e + 3)).1 (grp_X9_whole (e + 3)).2.1 (grp_X9_whole (e + 3)).2.2.1 (grp_X9_whole (e + 3)).2.2.2.1 (grp_X9_whole (e + 3)).2.2.2.2.1 (grp_X9_whole (e + 3)).2.2.2.2.2 F 90) hT (by omega) (by omega) h2 (fun F p C _ τ hp h => st_both hT hp h) (fun τ => by
      show fo_X9_both (grp_X9_whole (e + 3)).1 (grp_X9_whole (e + 3)).2.1 (grp_X9_whole (e + 3)).2.2.1 (grp_X9_whole (e + 3)).2.2.2.1 (grp_X9_whole (e + 3)).2.2.2.2.1 (grp_X9_whole (e + 3)).2.2.2.2.2 90 τ = _
      unfold fo_X9_both
      rw [if_pos kM.1])
  exact chainJ (L := 0) (rc1 := (grp_X2_readChain (d + 5)).1) (rc2 := (grp_X2_readChain (d + 5)).2.1) (rc3 := (grp_X2_readChain (d + 5)).2.2.1) (rc4 := (grp_X2_readChain (d + 5)).2.2.2) (gm := fun F => f_X9_whole_b9 (grp_X9_whole (e + 4)).1 (grp_X9_whole (e + 4)).2.1 (grp_X9_whole (e + 4)).2.2.1 (grp_X9_whole (e + 4)).2.2.2.1 (grp_X9_whole (e + 4)).2.2.2.2.1 (grp_X9_whole (e + 4)).2.2.2.2.2 F 90) hT (by omega) (by omega) h1 (fun F p C _ τ hp h => st_whole hT hp h) (fun τ => by
      show fo_X9_whole (grp_X9_whole (e + 4)).1 (grp_X9_whole (e + 4)).2.1 (grp_X9_whole (e + 4)).2.2.1 (grp_X9_whole (e + 4)).2.2.2.1 (grp_X9_whole (e + 4)).2.2.2.2.1 (grp_X9_whole (e + 4)).2.2.2.2.2 90 τ = _
      unfold fo_X9_whole
      rw [if_pos kM.1])
def nmI (u : Nat) (c : Int32) : Nat := if u = 0 then (if c = 108 then 1 else if c = 111 then 2 else if c = 110 then 3 else 0) else (if c = 119 then 1 else if c = 100 then 2 else if c = 107 then 3 else 0)
theorem x_nameOf {u : Nat} {c : Int32} {σ : om_S} (hu : u < 2) (h : σ 70 2 = nI u) : f_X2_nameOf 70 c σ = some (nI (nmI u c), σ) := by
  unfold f_X2_nameOf
  rw [if_pos kc_70, h]
  by_cases h1 : c = 100
  · subst h1
    rcases (show u = 0 ∨ u = 1 by omega) with rfl | rfl <;> rfl
  rw [if_neg h1]
  by_cases h2 : c = 107
  · subst h2
    rcases (show u = 0 ∨ u = 1 by omega) with rfl | rfl <;> rfl
  rw [if_neg h2]
  by_cases h3 : c = 108
  · subst h3
    rcases (show u = 0 ∨ u = 1 by omega) with rfl | rfl <;> rfl
  rw [if_neg h3]
  by_cases h4 : c = 110
  · subst h4
    rcases (show u = 0 ∨ u = 1 by omega) with rfl | rfl <;> rfl
  rw [if_neg h4]
  by_cases h5 : c = 111
  · subst h5
    rcases (show u = 0 ∨ u = 1 by omega) with rfl | rfl <;> rfl
  rw [if_neg h5]
  by_cases h6 : c = 119
  · subst h6
    rcases (show u = 0 ∨ u = 1 by omega) with rfl | rfl <;> rfl
  rw [if_neg h6]
  unfold nmI
  rw [if_neg h1, if_neg h2, if_neg h3, if_neg h4, if_neg h5, if_neg h6, ite_self]
  exact Eq.refl _
theorem z00 : (nI 0 = 0) = True := eq_true rfl
theorem z10 : (nI 1 = 0) = False := eq_false (by decide)
theorem m_isName {u : Nat} {c : Int32} {τ : om_S} (hu : u < 2) (h : τ 90 9 = nI u) : f_X9_isName 90 c τ = some (if nmI u c = 0 then 0 else 1, τ) := by
  unfold f_X9_isName f_X9_isName_b15 nmI
  rw [if_pos kM.1, h]
  rcases (show u = 0 ∨ u = 1 by omega) with rfl | rfl
  · simp only [z00, if_true, eq_self]
    by_cases h3 : c = 108
    · rw [if_pos h3, if_pos h3]
      exact Eq.refl _
    · rw [if_neg h3, if_neg h3]
      by_cases h5 : c = 111
      · rw [if_pos h5, if_pos h5]
        exact Eq.refl _
      · rw [if_neg h5, if_neg h5]
        by_cases h4 : c = 110
        · rw [if_pos h4, if_pos h4]
          exact Eq.refl _
        · rw [if_neg h4, if_neg h4]
          exact Eq.refl _
  · simp only [z10, if_false, Nat.one_ne_zero]
    by_cases h3 : c = 119
    · rw [if_pos h3, if_pos h3]
      exact Eq.refl _
    · rw [if_neg h3, if_neg h3]
      by_cases h5 : c = 100
      · rw [if_pos h5, if_pos h5]
        exact Eq.refl _
      · rw [if_neg h5, if_neg h5]
        by_cases h4 : c = 107
        · rw [if_pos h4, if_pos h4]
          exact Eq.refl _
        · rw [if_neg h4, if_neg h4]
          exact Eq.refl _
theorem nm_facts {u : Nat} {c : Int32} (hu : u < 2) (h : nmI u c ≠ 0) : enc u (-(nI (nmI u c))) = (1, c) ∧ ¬ -(nI (nmI u c)) < -3 ∧ ¬ ((48 : Int32) ≤ c ∧ c ≤ 57) ∧ ¬ nI (nmI u c) = 0 := by
  unfold nmI at h
  rcases (show u = 0 ∨ u = 1 by omega) with rfl | rfl
  · rw [if_pos rfl] at h
    by_cases h3 : c = 108
    · subst h3
      exact ⟨rfl, by decide, by decide, by decide⟩
    · rw [if_neg h3] at h
      by_cases h5 : c = 111
      · subst h5
        exact ⟨rfl, by decide, by decide, by decide⟩
      · rw [if_neg h5] at h
        by_cases h4 : c = 110
        · subst h4
          exact ⟨rfl, by decide, by decide, by decide⟩
        · rw [if_neg h4] at h
          exact absurd rfl h
  · rw [if_neg (by decide)] at h
    by_cases h3 : c = 119
    · subst h3
      exact ⟨rfl, by decide, by decide, by decide⟩
    · rw [if_neg h3] at h
      by_cases h5 : c = 100
      · subst h5
        exact ⟨rfl, by decide, by decide, by decide⟩
      · rw [if_neg h5] at h
        by_cases h4 : c = 107
        · subst h4
          exact ⟨rfl, by decide, by decide, by decide⟩
        · rw [if_neg h4] at h
          exact absurd rfl h
theorem x_isDigit {v : Int32} {σ : om_S} : f_X2_isDigit v σ = some (bI (48 ≤ v ∧ v ≤ 57), σ) := x_isWithin (lo := 48) (hi := 57)
theorem digitN {c : Int32} (h : (48 : Int32) ≤ c ∧ c ≤ 57) : ∃ d, d ≤ 9 ∧ c = nI (48 + d) := by
  obtain ⟨j, hj, e⟩ := win (n := 57) h (by decide) rfl (by decide)
  have h48 : 48 ≤ j := by
    have := h.1
    rw [e, show (48 : Int32) = nI 48 from rfl, nI_leI (by omega) (by omega)] at this
    exact this
  exact ⟨j - 48, by omega, by rw [e]; congr 1; omega⟩
theorem nx_digit {T : List Int32} {p : Nat} (h : (48 : Int32) ≤ nx T p ∧ nx T p ≤ 57) : p < T.length := by
  by_cases e : p < T.length
  · exact e
  · exfalso
    unfold nx at h
    rw [if_neg e] at h
    exact absurd h (by decide)
theorem numLoop {u : Nat} {T : List Int32} {o : Nat} {r1 r2 r3 r4 r5 r6 : om_C0} (hT : T.length ≤ 60) :
    ∀ m i v p Fx Fm (C : List Int32), i + m = 4 → m < Fx → m < Fm → v < 10 ^ i → p ≤ T.length → ∃ p' v', p ≤ p' ∧ p' ≤ T.length ∧ v' < 10000 ∧ (0 < m → (48 : Int32) ≤ nx T p ∧ nx T p ≤ 57 → p < p') ∧
      (∀ s0 σ, XP u T s0 p C σ → ∃ σ', XP u T s0 p' C σ' ∧ f_X2_readNumber_b4 Fx 70 (nI v) (nI i) σ = f_X2_readNumber_b48 70 (nI v') σ') ∧
      ∀ t0 τ, MP u T t0 o p C τ → ∃ τ', MP u T t0 o p' C τ' ∧ f_X9_one_b46 r1 r2 r3 r4 r5 r6 Fm 90 (nI v) (nI i) τ = f_X9_one_b94 r1 r2 r3 r4 r5 r6 90 (nI v') τ' := by
  intro m
  induction m with
  | zero =>
    intro i v p Fx Fm C hi hFx hFm hv hp
    obtain ⟨Fx, rfl⟩ : ∃ G, Fx = G + 1 := ⟨Fx - 1, by omega⟩
    obtain ⟨Fm, rfl⟩ : ∃ G, Fm = G + 1 := ⟨Fm - 1, by omega⟩
    have hi4 : i = 4 := by omega
    subst hi4
    refine ⟨p, v, Nat.le_refl _, hp, hv, fun h => absurd h (Nat.lt_irrefl 0), fun _ σ h => ⟨σ, h, ?_⟩, fun _ τ h => ⟨τ, h, ?_⟩⟩
    · unfold f_X2_readNumber_b4
      rw [if_pos (by decide)]
    · unfold f_X9_one_b46
      rw [if_pos (by decide)]
  | succ m ih =>
    intro i v p Fx Fm C hi hFx hFm hv hp
    obtain ⟨Fx, rfl⟩ : ∃ G, Fx = G + 1 := ⟨Fx - 1, by omega⟩
    obtain ⟨Fm, rfl⟩ : ∃ G, Fm = G + 1 := ⟨Fm - 1, by omega⟩
    have h10 : 10 ^ i ≤ 10 ^ 3 := Nat.pow_le_pow_right (by omega) (by omega)
    by_cases g : (48 : Int32) ≤ nx T p ∧ nx T p ≤ 57
    · have hpl := nx_digit g
      obtain ⟨dg, hd, hdc⟩ := digitN g
      have hv2 : v * 10 + dg < 10 ^ (i + 1) := by
        rw [Nat.pow_succ]
        omega
      obtain ⟨p', v', a1, a2, a3, a4, fx, fm⟩ := ih (i + 1) (v * 10 + dg) (p + 1) Fx Fm C (by omega) (by omega) (by omega) hv2 (by omega)
      have e1 : nI v * 10 + nI (48 + dg) - 48 = nI (v * 10 + dg) := by
        rw [show (10 : Int32) = nI 10 from rfl, pk_mul, nI_add, show (48 : Int32) = nI 48 from rfl, pk_sub (by omega)]
        congr 1
        omega
      refine ⟨p', v', by omega, a2, a3, fun _ _ => by omega, fun _ σ h => ?_, fun _ τ h => ?_⟩
      · obtain ⟨σ', c1, c2⟩ := fx _ _ h.pl
        refine ⟨σ', c1, ?_⟩
        rw [f_X2_readNumber_b4]
        rw [if_neg (show ¬ (4 : Int32) ≤ nI i from nI_ge (b := 4) (by omega) (by omega)), x_next hT hp h, call_s, x_isDigit, call_s, bI_y g, x_next hT hp h, call_s, let_s, let_s, h.1, nI_1, nI_1, hdc, e1]
        exact c2
      · obtain ⟨τ', c1, c2⟩ := fm _ _ h.pl
        refine ⟨τ', c1, ?_⟩
        rw [f_X9_one_b46]
        rw [if_neg (show ¬ (4 : Int32) ≤ nI i from nI_ge (b := 4) (by omega) (by omega)), m_look hT hp h, call_s, m_in, call_s, bI_y g, m_look hT hp h, call_s, let_s, let_s, h.1, nI_1, nI_1, hdc, Int32.mul_comm, e1]
        exact c2
    · refine ⟨p, v, Nat.le_refl _, hp, by omega, fun _ q => absurd q g, fun _ σ h => ⟨σ, h, ?_⟩, fun _ τ h => ⟨τ, h, ?_⟩⟩
      · rw [f_X2_readNumber_b4]
        rw [if_neg (show ¬ (4 : Int32) ≤ nI i from nI_ge (b := 4) (by omega) (by omega)), x_next hT hp h, call_s, x_isDigit, call_s, bI_n g]
      · rw [f_X9_one_b46]
        rw [if_neg (show ¬ (4 : Int32) ≤ nI i from nI_ge (b := 4) (by omega) (by omega)), m_look hT hp h, call_s, m_in, call_s, bI_n g]
