/-! ===== sheets ===== -/
theorem sh_all : ∀ k, k < 4 → om_rf 80 k = some (82 + 2 * k) ∧ om_kc (82 + 2 * k) = 4 ∧ om_rf (82 + 2 * k) 0 = some (83 + 2 * k) ∧ om_kc (83 + 2 * k) = 20 ∧ om_al (83 + 2 * k) = 24 := by decide +kernel
theorem shc (v : Int32) : (¬ ((0 : Int32) ≤ v ∧ v ≤ 3) ∧ (v < 0 ∨ nI 4 ≤ v)) ∨ ∃ k, k < 4 ∧ v = nI k ∧ (0 : Int32) ≤ nI k ∧ nI k ≤ 3 := by
  have e0 : (0 : Int32).toInt = 0 := rfl
  have e3 : (3 : Int32).toInt = 3 := rfl
  have e4 : (nI 4).toInt = 4 := rfl
  rcases pk_ix v (n := 4) (by omega) with h | h | ⟨k, h, e⟩
  · refine Or.inl ⟨fun q => ?_, Or.inl h⟩
    have := q.1
    rw [leI] at this
    rw [ltI] at h
    omega
  · refine Or.inl ⟨fun q => ?_, Or.inr h⟩
    have := q.2
    rw [leI] at this h
    omega
  · exact Or.inr ⟨k, h, e, nI_le (a := 0) (by omega) (by omega), nI_le (b := 3) (by omega) (by omega)⟩
theorem x_shNo {v : Int32} {σ : om_S} (h : v < 0 ∨ nI 4 ≤ v) : f_X8_sheetAt 0 v σ = some (none, σ) := by
  unfold f_X8_sheetAt
  simp only [kX, rX, om_ref_s, if_true, al_80]
  by_cases h1 : v < 0
  · rw [if_pos h1]
  · rw [if_neg h1, if_pos (show Int32.ofNat 4 ≤ v from h.resolve_left h1)]
theorem x_shYes {k : Nat} {σ : om_S} (h : k < 4) : f_X8_sheetAt 0 (nI k) σ = some (some (82 + 2 * k), σ) := by
  have c : (nI k).toNatClampNeg = k := nI_clamp (by omega)
  unfold f_X8_sheetAt
  simp only [kX, rX, om_ref_s, if_true, al_80, c, (sh_all k h).1, (sh_all k h).2.1]
  rw [if_neg (nI_pos (by omega)), if_neg (show ¬ Int32.ofNat 4 ≤ nI k from nI_ge (b := 4) (by omega) (by omega)), if_pos (in_nI (by omega) (by omega))]
theorem m_isSheet {v : Int32} {σ : om_S} : f_X9_isSheet v σ = some (bI (0 ≤ v ∧ v ≤ 3), σ) := by
  unfold f_X9_isSheet
  rw [m_in, call_s, if_pos (of_eq_true (bI_or _))]
theorem x_miss {k : Nat} {σ : om_S} (h : k < 4) : f_X4_isMissing (82 + 2 * k) σ = some (bI (σ (82 + 2 * k) 1 = 0), σ) := by
  unfold f_X4_isMissing
  rw [if_pos (sh_all k h).2.1]
  by_cases e : σ (82 + 2 * k) 1 = 0
  · rw [if_pos e, bI_t e]
  · rw [if_neg e, bI_f e]
theorem m_lacksN {v : Int32} {σ : om_S} (h : ¬ ((0 : Int32) ≤ v ∧ v ≤ 3)) : f_X9_lacks 90 v σ = some (1, σ) := by
  unfold f_X9_lacks
  simp only [kM, if_true, m_isSheet, call_s]
  rw [bI_n h]
theorem m_lacks {k : Nat} {σ : om_S} (hk : k < 4) (h : (0 : Int32) ≤ nI k ∧ nI k ≤ 3) : f_X9_lacks 90 (nI k) σ = some (if σ 101 k = 0 then 2 else 0, σ) := by
  have c : (nI k).toNatClampNeg = k := nI_clamp (by omega)
  unfold f_X9_lacks
  simp only [kM, rM, aM, om_ref_s, if_true, m_isSheet, call_s, c]
  rw [bI_y h, if_pos (in_nI (by omega) (by omega)), ite_s]
theorem x_shHas {k n : Nat} {x : Int32} {σ : om_S} (hk : k < 4) (h : σ (82 + 2 * k) 2 = nI n) (hn : n ≤ 24) : f_X4_has (82 + 2 * k) x σ = some (bI (0 ≤ x ∧ x < nI n), σ) := by
  obtain ⟨_, h1, h2, h3, h4⟩ := sh_all k hk
  unfold f_X4_has
  simp only [h1, h2, h3, h4, om_ref_s, if_true, h]
  have e : (Int32.ofNat 24).toInt = 24 := rfl
  have e2 : (nI n).toInt = n := nI_toInt (by omega)
  have e0 : (0 : Int32).toInt = 0 := rfl
  unfold bI
  simp only [ltI, leI, e, e2, e0]
  by_cases a1 : x.toInt < 0
  · rw [if_pos a1, if_neg (by omega)]
  · rw [if_neg a1]
    by_cases a2 : (n : Int) ≤ x.toInt
    · rw [if_pos a2, if_neg (by omega)]
    · rw [if_neg a2, if_neg (by omega), if_pos (by omega)]
theorem hasY {j n : Nat} (h : j < n) (hn : n < 1000) : (0 : Int32) ≤ nI j ∧ nI j < nI n := ⟨nI_le (a := 0) (by omega) (by omega), nI_lt h (by omega)⟩
theorem hasN {j n : Nat} (h : n ≤ j) (hn : j < 1000) : ¬ ((0 : Int32) ≤ nI j ∧ nI j < nI n) := fun q => nI_nlt h (by omega) q.2
theorem x_shAt {k n j : Nat} {σ : om_S} (hk : k < 4) (h : σ (82 + 2 * k) 2 = nI n) (hn : n ≤ 24) (hj : j < n) : f_X4_at (82 + 2 * k) (nI j) σ = some (σ (83 + 2 * k) j, σ) := by
  obtain ⟨_, h1, h2, h3, h4⟩ := sh_all k hk
  have c : (nI j).toNatClampNeg = j := nI_clamp (by omega)
  unfold f_X4_at
  rw [if_pos h1, x_shHas hk h hn, call_s, bI_y (hasY hj (by omega)), h2]
  simp only [om_ref_s, h3, h4, if_true, c]
  rw [if_pos (in_nI (by omega) (by omega))]
theorem x_shWrite {k n j : Nat} {v : Int32} {σ : om_S} (hk : k < 4) (h : σ (82 + 2 * k) 2 = nI n) (hn : n ≤ 24) (hj : j < n) : f_X4_write (82 + 2 * k) (nI j) v σ = some (om_w σ (83 + 2 * k) j (narF (σ (82 + 2 * k) 1) v)) := by
  obtain ⟨_, h1, h2, h3, h4⟩ := sh_all k hk
  have c : (nI j).toNatClampNeg = j := nI_clamp (by omega)
  unfold f_X4_write f_X4_write_b42 narF
  rw [if_pos h1, x_shHas hk h hn, call_s, bI_y (hasY hj (by omega)), h2]
  simp only [om_ref_s, h3, h4, if_true, c, let_s]
  have hin : om_in (nI j) 24 := in_nI (by omega) (by omega)
  by_cases e8 : σ (82 + 2 * k) 1 = 8
  · rw [if_pos e8, if_pos hin, if_pos e8]
  · rw [if_neg e8, if_neg e8]
    by_cases e16 : σ (82 + 2 * k) 1 = 16
    · rw [if_pos e16, if_pos hin, if_pos e16]
    · rw [if_neg e16, if_pos hin, if_neg e16]
def upS (Sh : Nat → Int32 × Nat × (Nat → Int32)) (k : Nat) (p : Int32 × Nat × (Nat → Int32)) : Nat → Int32 × Nat × (Nat → Int32) := fun j => if j = k then p else Sh j
theorem HX.sh {V : Nat → Nat} {Z : Int32} {C0 C1 T W : List Int32} {K : Option oA_K} {g : Int32} {E : Nat → Int32} {Tr : List Int32} {Sh : Nat → Int32 × Nat × (Nat → Int32)} {σ σ' : om_S} {k : Nat} {p : Int32 × Nat × (Nat → Int32)} (h : HX (V, Z, C0, C1, T, W, K, g, E, Tr, Sh) σ) (hf : ∀ q, q ≠ 82 + 2 * k → q ≠ 83 + 2 * k → σ' q = σ q) (hk : k < 4) (hp : XSh k p σ') : HX (V, Z, C0, C1, T, W, K, g, E, Tr, upS Sh k p) σ' := by
  obtain ⟨h1, h2, h3, h4, h5, h6, h7⟩ := h
  have f : ∀ q, q < 82 → σ' q = σ q := fun q hq => hf q (by omega) (by omega)
  refine ⟨h1.congr (fun q a b _ _ => f q (by omega)) (f _ (by omega)) (f _ (by omega)) (f _ (by omega)) (f _ (by omega)), fun t ht => (h2 t ht).congr (fun q a b _ _ => f q (by omega)) (f _ (by omega)) (f _ (by omega)) (f _ (by omega)) (f _ (by omega)), ?_, fun j hj => ?_, h5.congr (f _ (by omega)) (f _ (by omega)), fun j hj => ?_, h7.congr (fun q hq => f q (by omega))⟩
  · rw [f 0 (by omega)]
    exact h3
  · rw [f 81 (by omega)]
    exact h4 j hj
  · unfold upS
    by_cases e : j = k
    · subst e
      rw [if_pos rfl]
      exact hp
    · rw [if_neg e]
      exact (h6 j hj).congr (hf _ (by omega) (by omega)) (hf _ (by omega) (by omega))
theorem HM.sh {V : Nat → Nat} {Z : Int32} {C0 C1 T W : List Int32} {K : Option oA_K} {g : Int32} {E : Nat → Int32} {Tr : List Int32} {Sh : Nat → Int32 × Nat × (Nat → Int32)} {σ σ' : om_S} {k : Nat} {p : Int32 × Nat × (Nat → Int32)} (h : HM (V, Z, C0, C1, T, W, K, g, E, Tr, Sh) σ) (hf : ∀ q, q ≠ 101 → q ≠ 102 → q ≠ 103 → q ≠ 104 → σ' q = σ q) (hk : k < 4) (hp : MSh k p σ') (h101 : ∀ j, j ≠ k → σ' 101 j = σ 101 j) (h102 : ∀ j, j ≠ k → σ' 102 j = σ 102 j) (h103 : ∀ j, (j < 24 * k ∨ 24 * k + 24 ≤ j) → σ' 103 j = σ 103 j) : HM (V, Z, C0, C1, T, W, K, g, E, Tr, upS Sh k p) σ' := by
  obtain ⟨h1, h2, h3, h4, h5, h6, h7⟩ := h
  have f : ∀ q, q < 101 → σ' q = σ q := fun q hq => hf q (by omega) (by omega) (by omega) (by omega)
  refine ⟨h1.congr (f _ (by omega)), fun t ht => (h2 t ht).congr (f _ (by omega)), ?_, fun j hj => ?_, ⟨?_, fun j hj => ?_⟩, fun j hj => ?_, h7.congr (fun q hq => f q (by omega))⟩
  · rw [f 90 (by omega)]
    exact h3
  · rw [f 94 (by omega)]
    exact h4 j hj
  · rw [f 90 (by omega)]
    exact h5.1
  · rw [f 100 (by omega)]
    exact h5.2 j hj
  · unfold upS
    by_cases e : j = k
    · subst e
      rw [if_pos rfl]
      exact hp
    · rw [if_neg e]
      obtain ⟨g1, g2, g3⟩ := h6 j hj
      refine ⟨by rw [h101 j e]; exact g1, by rw [h102 j e]; exact g2, fun l hl => ?_⟩
      rw [h103 (24 * j + l) (by omega)]
      exact g3 l hl
theorem WF.sh {V : Nat → Nat} {Z : Int32} {C0 C1 T W : List Int32} {K : Option oA_K} {g : Int32} {E : Nat → Int32} {Tr : List Int32} {Sh : Nat → Int32 × Nat × (Nat → Int32)} {k : Nat} {p : Int32 × Nat × (Nat → Int32)} (w : WF (V, Z, C0, C1, T, W, K, g, E, Tr, Sh)) (hp : WSh p) : WF (V, Z, C0, C1, T, W, K, g, E, Tr, upS Sh k p) := by
  refine ⟨w.1, w.2.1, w.2.2.1, w.2.2.2.1, fun j hj => ?_⟩
  unfold upS
  by_cases e : j = k
  · rw [if_pos e]
    exact hp
  · rw [if_neg e]
    exact w.2.2.2.2 j hj
theorem ix24 (k j : Nat) : (24 : Int32) * nI k + nI j = nI (24 * k + j) := by
  rw [show (24 : Int32) = nI 24 from rfl, pk_mul, nI_add]
theorem cl_s {k j : Nat} (hk : k < 4) (hj : j < 24) : (nI (24 * k + j)).toNatClampNeg = 24 * k + j := nI_clamp (by omega)
theorem in_s {k j : Nat} (hk : k < 4) (hj : j < 24) : om_in (nI (24 * k + j)) 96 = True := eq_true (in_nI (by omega) (by omega))
abbrev leftOK (V : Nat → Nat) (p : Int32 × Nat × (Nat → Int32)) : Prop := p.2.1 ≤ V 6 ∧ ∀ j, j < p.2.1 → nI (V (8 + 5 * j + 3)) = p.2.2 j
theorem x_tellsLoop {V : Nat → Nat} {Z : Int32} {C0 C1 : List Int32} {k : Nat} {p : Int32 × Nat × (Nat → Int32)} {σ : om_S} (hV : WV V) (hk : k < 4) (hn : p.2.1 ≤ 24) (hX : XT 39 V Z C0 C1 σ) (hS : XSh k p σ) :
    ∀ (m i F : Nat), i + m = p.2.1 → m < F → i ≤ V 6 → (∀ j, j < i → nI (V (8 + 5 * j + 3)) = p.2.2 j) → f_X8_tellsWhatIsLeft_b2 F (82 + 2 * k) 39 (nI i) σ = some (bI (leftOK V p), σ) := by
  have h6 : V 6 ≤ 9 := hV.1
  intro m
  induction m with
  | zero =>
    intro i F hi hF hc hj
    obtain ⟨F, rfl⟩ : ∃ G, F = G + 1 := ⟨F - 1, by omega⟩
    have hy : leftOK V p := ⟨by omega, fun j h => hj j (by omega)⟩
    rw [bI_t hy]
    unfold f_X8_tellsWhatIsLeft_b2
    by_cases h24 : 24 ≤ i
    · rw [if_pos (show (24 : Int32) ≤ nI i from nI_le (a := 24) h24 (by omega))]
    · rw [if_neg (show ¬ (24 : Int32) ≤ nI i from nI_ge (b := 24) (by omega) (by omega)), x_shHas hk hS.2.1 hn, call_s, bI_n (hasN (by omega) (by omega))]
  | succ m ih =>
    intro i F hi hF hc hj
    obtain ⟨F, rfl⟩ : ∃ G, F = G + 1 := ⟨F - 1, by omega⟩
    unfold f_X8_tellsWhatIsLeft_b2
    rw [if_neg (show ¬ (24 : Int32) ≤ nI i from nI_ge (b := 24) (by omega) (by omega)), x_shHas hk hS.2.1 hn, call_s, bI_y (hasY (by omega) (by omega))]
    by_cases hi6 : i < V 6
    · rw [x_atI T39 hX.1 hi6 h6, call_s, om_nul_s, if_pos (tm T39 (by omega)).2, x_shAt hk hS.2.1 hn (by omega), call_s, hX.2.2.2.2.2.1 i 3 (by omega) (by omega), hS.2.2 i (by omega), nI_1]
      by_cases e : nI (V (8 + 5 * i + 3)) = p.2.2 i
      · rw [if_pos e]
        refine ih (i + 1) F (by omega) (by omega) (by omega) (fun j h => ?_)
        by_cases e2 : j = i
        · rw [e2]
          exact e
        · exact hj j (by omega)
      · rw [if_neg e, bI_f (fun q => e (q.2 i (by omega)))]
    · rw [x_atNo T39 hX.1 (Or.inr (nI_le (by omega) (by omega))), call_s, om_nul_n, bI_f (fun q => by have := q.1; omega)]
theorem x_tells {V : Nat → Nat} {Z : Int32} {C0 C1 : List Int32} {k : Nat} {p : Int32 × Nat × (Nat → Int32)} {σ : om_S} (hV : WV V) (hk : k < 4) (hn : p.2.1 ≤ 24) (hX : XT 39 V Z C0 C1 σ) (hS : XSh k p σ) : f_X8_tellsWhatIsLeft (82 + 2 * k) 39 σ = some (bI (leftOK V p), σ) := by
  unfold f_X8_tellsWhatIsLeft
  rw [if_pos (sh_all k hk).2.1, if_pos (tk T39)]
  exact x_tellsLoop hV hk hn hX hS p.2.1 0 om_F (by omega) (lt_F (by omega)) (by omega) (fun j hj => by omega)
theorem m_leftLoop {V : Nat → Nat} {Z : Int32} {C0 C1 : List Int32} {k : Nat} {p : Int32 × Nat × (Nat → Int32)} {σ : om_S} (hV : WV V) (hk : k < 4) (hn : p.2.1 ≤ 24) (hX : MT 91 V Z C0 C1 σ) (hS : MSh k p σ) (hle : p.2.1 ≤ V 6) :
    ∀ (m i F : Nat), i + m = p.2.1 → m + 1 < F → (∀ j, j < i → nI (V (8 + 5 * j + 3)) = p.2.2 j) → f_X9_areLeftSo_b24 F 90 (nI k) 1 (nI i) σ = some (bI (leftOK V p), σ) := by
  have h6 : V 6 ≤ 9 := hV.1
  have c : (nI k).toNatClampNeg = k := nI_clamp (by omega)
  intro m
  induction m with
  | zero =>
    intro i F hi hF hj
    obtain ⟨F, rfl⟩ : ∃ G, F = G + 1 := ⟨F - 1, by omega⟩
    have hy : leftOK V p := ⟨by omega, fun j h => hj j (by omega)⟩
    rw [bI_t hy]
    unfold f_X9_areLeftSo_b24
    simp only [kM, rM, aM, om_ref_s, if_true, c, hS.2.1]
    rw [if_pos (in_nI (by omega) (by omega)), if_pos (nI_le (by omega) (by omega)), if_pos (Or.inr True.intro)]
  | succ m ih =>
    intro i F hi hF hj
    obtain ⟨F, rfl⟩ : ∃ G, F = G + 1 := ⟨F - 1, by omega⟩
    obtain ⟨F, rfl⟩ : ∃ G, F = G + 1 := ⟨F - 1, by omega⟩
    unfold f_X9_areLeftSo_b24 f_X9_areLeftSo_b63
    simp only [kM, rM, aM, om_ref_s, if_true, c, hS.2.1, m_its3 (show i < 9 by omega), call_s, ix24, cl_s hk (show i < 24 by omega), in_s hk (show i < 24 by omega), hS.2.2 i (by omega), hX.2.2.2.2.2.1 i 3 (by omega) (by omega), nI_1]
    rw [if_pos (in_nI (by omega) (by omega)), if_neg (nI_ge (by omega) (by omega)), if_neg (by decide)]
    by_cases e : nI (V (8 + 5 * i + 3)) = p.2.2 i
    · rw [if_pos e]
      refine ih (i + 1) (F + 1) (by omega) (by omega) (fun j h => ?_)
      by_cases e2 : j = i
      · rw [e2]
        exact e
      · exact hj j (by omega)
    · rw [if_neg e, bI_f (fun q => e (q.2 i (by omega)))]
      unfold f_X9_areLeftSo_b24
      simp only [kM, rM, aM, om_ref_s, if_true, c, hS.2.1]
      rw [if_pos (in_nI (by omega) (by omega)), if_pos (Or.inl True.intro), ite_self]
theorem m_areLeft {V : Nat → Nat} {Z : Int32} {C0 C1 : List Int32} {k : Nat} {p : Int32 × Nat × (Nat → Int32)} {σ : om_S} (hV : WV V) (hk : k < 4) (hn : p.2.1 ≤ 24) (hX : MT 91 V Z C0 C1 σ) (hS : MSh k p σ) : f_X9_areLeftSo 90 (nI k) σ = some (bI (leftOK V p), σ) := by
  have h6 : V 6 ≤ 9 := hV.1
  have c : (nI k).toNatClampNeg = k := nI_clamp (by omega)
  unfold f_X9_areLeftSo f_X9_areLeftSo_b21
  simp only [kM, rM, aM, om_ref_s, if_true, c, hS.2.1, in6_387, cl6, hX.1]
  rw [if_pos (in_nI (by omega) (by omega))]
  by_cases hlt : V 6 < p.2.1
  · rw [if_pos (nI_lt hlt (by omega)), bI_f (fun q => by have := q.1; omega), show om_F = 4999 + 1 from rfl, f_X9_areLeftSo_b24]
    simp only [kM, rM, aM, om_ref_s, if_true, c, hS.2.1]
    rw [if_pos (in_nI (by omega) (by omega)), if_pos (Or.inl True.intro), ite_self]
  · rw [if_neg (nI_nlt (by omega) (by omega))]
    exact m_leftLoop hV hk hn hX hS (by omega) p.2.1 0 om_F (by omega) (lt_F (by omega)) (fun j hj => by omega)
def fitR (C0 C1 : List Int32) (p : Int32 × Nat × (Nat → Int32)) : Nat → Nat → (Nat → Nat) → Option Nat
  | 0, _, _ => none
  | m + 1, i, V => if leftOK V p then some i else fitR C0 C1 p m (i + 1) (nightV V (pickV V C0 C1 (-1)))
theorem fitR_le {C0 C1 : List Int32} {p : Int32 × Nat × (Nat → Int32)} : ∀ (m i : Nat) (V : Nat → Nat) (j : Nat), fitR C0 C1 p m i V = some j → j < i + m := by
  intro m
  induction m with
  | zero =>
    intro i V j h
    cases h
  | succ m ih =>
    intro i V j h
    unfold fitR at h
    by_cases e : leftOK V p
    · rw [if_pos e] at h
      cases h
      omega
    · rw [if_neg e] at h
      have := ih _ _ _ h
      omega
theorem x_fitLoop {Z : Int32} {C0 C1 : List Int32} {k : Nat} {p : Int32 × Nat × (Nat → Int32)} (hC0 : WC C0) (hC1 : WC C1) (hk : k < 4) (hn : p.2.1 ≤ 24) :
    ∀ (m i F : Nat) (V : Nat → Nat) (σ : om_S), i + m = 61 → m < F → V 1 + m ≤ 20000 → WV V → XT 39 V Z C0 C1 σ → XSh k p σ → Zero3 σ →
    ∃ σ', f_X8_fits_b42 F 0 (82 + 2 * k) (nI i) σ = (match fitR C0 C1 p m i V with | some j => some (nI j, σ') | none => om_call (f_X8_refuse 0 2 σ') fun r s => some (r, s)) ∧ Zero3 σ' ∧ xfr 39 σ σ' ∧ ∃ V', XT 39 V' Z C0 C1 σ' := by
  intro m
  induction m with
  | zero =>
    intro i F V σ hi hF hV1 hV hX hS z
    obtain ⟨F, rfl⟩ : ∃ G, F = G + 1 := ⟨F - 1, by omega⟩
    refine ⟨σ, ?_, z, xfr.refl, V, hX⟩
    unfold f_X8_fits_b42 fitR
    rw [if_pos (show (60 : Int32) < nI i from nI_lt (a := 60) (by omega) (by omega))]
  | succ m ih =>
    intro i F V σ hi hF hV1 hV hX hS z
    obtain ⟨F, rfl⟩ : ∃ G, F = G + 1 := ⟨F - 1, by omega⟩
    obtain ⟨σ1, q1, q2, q3, q4⟩ := x_passNight (sp := -1) T39 hV hC0 hC1 hX z
    have hS1 : XSh k p σ1 := hS.congr (q4 _ (by omega) (by omega)) (q4 _ (by omega) (by omega))
    unfold f_X8_fits_b42 fitR
    rw [if_neg (show ¬ (60 : Int32) < nI i from nI_nlt (a := 60) (by omega) (by omega))]
    simp only [kX, rX, om_ref_s, if_true, x_tells hV hk hn hX hS, call_s, q1, nI_1]
    by_cases e : leftOK V p
    · refine ⟨σ, ?_, z, xfr.refl, V, hX⟩
      rw [bI_y e, if_pos e]
    · obtain ⟨σ', r1, r2, r3, r4⟩ := ih (i + 1) F (nightV V (pickV V C0 C1 (-1))) σ1 (by omega) (by omega) (by rw [nightV_1]; omega) (hV.night (by omega)) q2 hS1 q3
      refine ⟨σ', ?_, r2, xfr.trans q4 r3, r4⟩
      rw [bI_n e, if_neg e]
      exact r1
theorem m_fitLoop {Z : Int32} {C0 C1 : List Int32} {k : Nat} {p : Int32 × Nat × (Nat → Int32)} (hC0 : WC C0) (hC1 : WC C1) (hk : k < 4) (hn : p.2.1 ≤ 24) :
    ∀ (m i F : Nat) (V : Nat → Nat) (σ : om_S), i + m = 61 → m < F → V 1 + m ≤ 20000 → WV V → MT 91 V Z C0 C1 σ → MSh k p σ → σ 90 5 = -1 → σ 98 0 = 0 → σ 99 0 = 0 →
    ∃ σ', f_X9_fits_b22 F 90 (nI k) (nI i) σ = f_X9_fits_b48 90 (nI ((fitR C0 C1 p m i V).getD 61)) σ' ∧ σ' 98 0 = 0 ∧ σ' 99 0 = 0 ∧ mfr σ σ' := by
  intro m
  induction m with
  | zero =>
    intro i F V σ hi hF hV1 hV hX hS h5 z1 z2
    obtain ⟨F, rfl⟩ : ∃ G, F = G + 1 := ⟨F - 1, by omega⟩
    refine ⟨σ, ?_, z1, z2, mfr.refl⟩
    unfold f_X9_fits_b22 fitR
    rw [if_pos (show (60 : Int32) < nI i from nI_lt (a := 60) (by omega) (by omega)), show i = 61 by omega]
    exact Eq.refl _
  | succ m ih =>
    intro i F V σ hi hF hV1 hV hX hS h5 z1 z2
    obtain ⟨F, rfl⟩ : ∃ G, F = G + 1 := ⟨F - 1, by omega⟩
    obtain ⟨σ1, q1, q2, q3, q4, q5, q6⟩ := m_aNight hV hC0 hC1 hX h5 z1 z2
    have hS1 : MSh k p σ1 := hS.congr (q5 _ (by omega) (by omega) (by omega) (by omega) (by omega)) (q5 _ (by omega) (by omega) (by omega) (by omega) (by omega)) (q5 _ (by omega) (by omega) (by omega) (by omega) (by omega))
    unfold f_X9_fits_b22 fitR
    rw [if_neg (show ¬ (60 : Int32) < nI i from nI_nlt (a := 60) (by omega) (by omega)), m_areLeft hV hk hn hX hS, call_s, q1, call_s, nI_1]
    by_cases e : leftOK V p
    · refine ⟨σ, ?_, z1, z2, mfr.refl⟩
      rw [bI_y e, if_pos e]
      exact Eq.refl _
    · obtain ⟨σ', r1, r2, r3, r4⟩ := ih (i + 1) F (nightV V (pickV V C0 C1 (-1))) σ1 (by omega) (by omega) (by rw [nightV_1]; omega) (hV.night (by omega)) q2 hS1 (by rw [q5 90 (by omega) (by omega) (by omega) (by omega) (by omega)]; exact h5) q3 q4
      refine ⟨σ', ?_, r2, r3, mfr.trans ⟨q5, q6⟩ r4⟩
      rw [bI_n e, if_neg e]
      exact r1
theorem op_fits (a : Int32) : Sim (fun σ => f_X8_fits 0 a σ) (fun σ => f_X9_fits 90 a σ) := by
  refine sim_of fun s σ w hx => ?_
  obtain ⟨V, Z, C0, C1, T, W, K, g, E, Tr, Sh⟩ := s
  rcases shc a with ⟨hn, hn2⟩ | ⟨k, hk, rfl, h⟩
  · refine ⟨rfE 1, (V, Z, C0, C1, T, W, K, g, upE E 1, Tr, Sh), w, XO.no0 hx (k := 1) (by omega) ?_, fun τ hm => MO.no0 hm (k := 1) (by omega) ?_⟩
    · show f_X8_fits 0 a σ = _
      unfold f_X8_fits 
      simp only [kX, rX, om_ref_s, if_true, call_s, let_s, om_nul_s, om_nul_n, x_shNo hn2]
      exact Eq.refl _
    · show f_X9_fits 90 a τ = _
      unfold f_X9_fits 
      simp only [kM, rM, aM, om_ref_s, if_true, call_s, let_s, m_lacksN hn, n10, if_false]
      exact Eq.refl _
  · obtain ⟨hb, hs24, hnar⟩ := w.2.2.2.2 k hk
    have hS := hx.2.2.2.2.2.1 k hk
    by_cases e0 : (Sh k).1 = 0
    · refine ⟨rfE 2, (V, Z, C0, C1, T, W, K, g, upE E 2, Tr, Sh), w, XO.no0 hx (k := 2) (by omega) ?_, fun τ hm => MO.no0 hm (k := 2) (by omega) ?_⟩
      · show f_X8_fits 0 (nI k) σ = _
        unfold f_X8_fits 
        simp only [kX, rX, om_ref_s, if_true, call_s, let_s, om_nul_s, om_nul_n, x_shYes hk, (sh_all k hk).2.1, x_miss hk, hS.1]
        rw [bI_y e0]
        exact Eq.refl _
      · show f_X9_fits 90 (nI k) τ = _
        unfold f_X9_fits 
        simp only [kM, rM, aM, om_ref_s, if_true, call_s, let_s, m_lacks hk h, (hm.2.2.2.2.2.1 k hk).1, if_pos e0, n20, if_false]
        exact Eq.refl _
    · have hV : WV V := w.1.1
      have h1 : V 1 ≤ 9999 := w.1.2.1
      have hC0 : WC C0 := w.1.2.2.1
      have hC1 : WC C1 := w.1.2.2.2.1
      have hz := hx.xz
      obtain ⟨σ1, p1, p2, p3⟩ := x_towerCopy (b := 39) (b2 := 1) T39 T1 (by omega) hC0.1 hC1.1 hx.1.1 hz.2.2.2.1 hz.2.2.2.2
      have z1 : Zero3 σ1 := by
        unfold Zero3
        rw [p3 59 (by omega), p3 60 (by omega), p3 61 (by omega)]
        exact hz.1
      have hS1 : XSh k (Sh k) σ1 := hS.congr (p3 _ (by omega)) (p3 _ (by omega))
      obtain ⟨σ2, r1, r2, r3, V', r4⟩ := x_fitLoop hC0 hC1 hk hs24 61 0 om_F V σ1 (by omega) (lt_F (by omega)) (by omega) hV p2 hS1 z1
      have hs : xscr σ σ2 := by
        refine ⟨fun q a b c d => by rw [r3 q (by omega) (by omega), p3 q (by omega)], r2, ?_, ?_, r4.2.2.2.2.2.2.2.2.1, r4.2.2.2.2.2.2.2.2.2⟩
        · rw [r3 22 (by omega) (by omega), p3 22 (by omega)]
          exact hz.2.1
        · rw [r3 26 (by omega) (by omega), p3 26 (by omega)]
          exact hz.2.2.1
      have hms : ∀ τ, HM (V, Z, C0, C1, T, W, K, g, E, Tr, Sh) τ → ∃ τ', f_X9_fits 90 (nI k) τ = (if nI ((fitR C0 C1 (Sh k) 61 0 V).getD 61) ≤ 60 then some (nI ((fitR C0 C1 (Sh k) 61 0 V).getD 61), τ') else om_call (f_X9_error 90 2 τ') fun r s => some (r, s)) ∧ mscr τ τ' := by
        intro τ hm
        obtain ⟨τ1, d1, d2, d3⟩ := m_layDown (σ := τ)
        obtain ⟨τ2, v1, v2, v3, v4⟩ := m_fitLoop hC0 hC1 hk hs24 61 0 om_F V τ1 (by omega) (lt_F (by omega)) (by omega) hV (hm.1.1.congr (d3 91 (by omega))) ((hm.2.2.2.2.2.1 k hk).congr (d3 _ (by omega)) (d3 _ (by omega)) (d3 _ (by omega))) (by rw [d3 90 (by omega)]; exact hm.mz.1) (by rw [d3 98 (by omega)]; exact hm.mz.2.1) (by rw [d3 99 (by omega)]; exact hm.mz.2.2)
        obtain ⟨τ3, b1, b2, b3, b4, b5⟩ := m_sand d2 d3 v4
        refine ⟨τ3, ?_, mscr.lay hm (by rw [b4]; exact v2) (by rw [b5]; exact v3) (fun q a b c d e => ?_)⟩
        · unfold f_X9_fits
          simp only [kM, if_true, m_lacks hk h, (hm.2.2.2.2.2.1 k hk).1, if_neg e0, call_s, d1, do_s]
          rw [show f_X9_fits_b22 om_F 90 (nI k) 0 τ1 = _ from v1]
          unfold f_X9_fits_b48
          rw [b1, do_s]
        · by_cases e91 : q = 91
          · rw [e91, b2]
          · exact b3 q e91 a b c d e
      have hxs : f_X8_fits 0 (nI k) σ = f_X8_fits_b42 om_F 0 (82 + 2 * k) 0 σ1 := by
        unfold f_X8_fits
        simp only [kX, rX, om_ref_s, if_true, x_shYes hk, call_s, om_nul_s, (sh_all k hk).2.1, x_miss hk, hS.1, p1, do_s]
        rw [bI_n e0]
      have r1' : f_X8_fits_b42 om_F 0 (82 + 2 * k) 0 σ1 = _ := r1
      cases ho : fitR C0 C1 (Sh k) 61 0 V with
      | none =>
        rw [ho] at r1'
        refine ⟨rfE 2, (V, Z, C0, C1, T, W, K, g, upE E 2, Tr, Sh), w, XO.no1 hx hs (k := 2) (by omega) (hxs.trans r1'), fun τ hm => ?_⟩
        obtain ⟨τ', v1, v2⟩ := hms τ hm
        rw [ho] at v1
        exact MO.no1 hm v2 (k := 2) (by omega) (v1.trans (if_neg (show ¬ nI (Option.getD none 61) ≤ 60 by decide)))
      | some j =>
        have hj := fitR_le _ _ _ _ ho
        rw [ho] at r1'
        refine ⟨nI j, (V, Z, C0, C1, T, W, K, g, E, Tr, Sh), w, XO.scr hx hs (hxs.trans r1'), fun τ hm => ?_⟩
        obtain ⟨τ', v1, v2⟩ := hms τ hm
        rw [ho] at v1
        exact MO.scr hm v2 (v1.trans (if_pos (show nI j ≤ 60 from nI_le (b := 60) (by omega) (by omega))))
