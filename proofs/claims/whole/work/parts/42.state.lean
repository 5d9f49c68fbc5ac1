/-! ===== the state that both halves of the store picture ===== -/
abbrev oA_K : Type := (Nat → Nat) × Int32 × List Int32 × List Int32 × List Int32 × List Int32
abbrev oA_S : Type := (Nat → Nat) × Int32 × List Int32 × List Int32 × List Int32 × List Int32 × Option oA_K × Int32 × (Nat → Int32) × List Int32 × (Nat → Int32 × Nat × (Nat → Int32))
def NRow (a c o : Nat) (L : List Int32) (σ : om_S) : Prop := σ a c = nI L.length ∧ ∀ j, j < L.length → σ a (o + j) = L.getD j 0
theorem NRow.congr {a c o a2 : Nat} {L : List Int32} {σ σ' : om_S} (h : NRow a c o L σ) (e1 : σ' a2 c = σ a c) (e2 : ∀ j, o ≤ j → j < o + L.length → σ' a2 j = σ a j) : NRow a2 c o L σ' := ⟨by rw [e1]; exact h.1, fun j hj => by rw [e2 (o + j) (by omega) (by omega)]; exact h.2 j hj⟩
def narF (b v : Int32) : Int32 := if b = 8 then v.toInt8.toInt32 else if b = 16 then v.toInt16.toInt32 else v
def XSh (k : Nat) (p : Int32 × Nat × (Nat → Int32)) (σ : om_S) : Prop := σ (82 + 2 * k) 1 = p.1 ∧ σ (82 + 2 * k) 2 = nI p.2.1 ∧ ∀ j, j < 24 → σ (83 + 2 * k) j = p.2.2 j
def MSh (k : Nat) (p : Int32 × Nat × (Nat → Int32)) (σ : om_S) : Prop := σ 101 k = p.1 ∧ σ 102 k = nI p.2.1 ∧ ∀ j, j < 24 → σ 103 (24 * k + j) = p.2.2 j
def WSh (p : Int32 × Nat × (Nat → Int32)) : Prop := (p.1 = 0 ∨ p.1 = 8 ∨ p.1 = 16 ∨ p.1 = 32) ∧ p.2.1 ≤ 24 ∧ ∀ j, j < 24 → narF p.1 (p.2.2 j) = p.2.2 j
def XKp (b r1 v1 r2 v2 : Nat) (t : oA_K) (σ : om_S) : Prop := XT b t.1 t.2.1 t.2.2.1 t.2.2.2.1 σ ∧ XRow r1 v1 t.2.2.2.2.1 σ ∧ XRow r2 v2 t.2.2.2.2.2 σ
def MKp (a : Nat) (t : oA_K) (σ : om_S) : Prop := MT a t.1 t.2.1 t.2.2.1 t.2.2.2.1 σ ∧ NRow a 4 303 t.2.2.2.2.1 σ ∧ NRow a 5 363 t.2.2.2.2.2 σ
def WKp (t : oA_K) : Prop := WV t.1 ∧ t.1 1 ≤ 9999 ∧ WC t.2.2.1 ∧ WC t.2.2.2.1 ∧ t.2.2.2.2.1.length ≤ 60 ∧ t.2.2.2.2.2.length ≤ 24
def XZ (σ : om_S) : Prop := Zero3 σ ∧ σ 22 0 = nI 0 ∧ σ 26 0 = nI 1 ∧ σ 41 0 = nI 0 ∧ σ 45 0 = nI 1
def MZ (σ : om_S) : Prop := σ 90 5 = -1 ∧ σ 98 0 = 0 ∧ σ 99 0 = 0
def HX (s : oA_S) (σ : om_S) : Prop := match s with
  | (V, Z, C0, C1, T, W, K, g, E, Tr, Sh) => XKp 1 62 63 66 67 (V, Z, C0, C1, T, W) σ ∧ (∀ t, K = some t → XKp 20 64 65 68 69 t σ) ∧ σ 0 12 = g ∧ (∀ k, k < 7 → σ 81 k = E k) ∧ XRow 78 79 Tr σ ∧ (∀ k, k < 4 → XSh k (Sh k) σ) ∧ XZ σ
def HM (s : oA_S) (σ : om_S) : Prop := match s with
  | (V, Z, C0, C1, T, W, K, g, E, Tr, Sh) => MKp 91 (V, Z, C0, C1, T, W) σ ∧ (∀ t, K = some t → MKp 92 t σ) ∧ σ 90 3 = g ∧ (∀ k, k < 7 → σ 94 k = E k) ∧ (σ 90 15 = nI Tr.length ∧ ∀ j, j < Tr.length → σ 100 j = Tr.getD j 0) ∧ (∀ k, k < 4 → MSh k (Sh k) σ) ∧ MZ σ
def WF (s : oA_S) : Prop := match s with
  | (V, Z, C0, C1, T, W, K, g, E, Tr, Sh) => WKp (V, Z, C0, C1, T, W) ∧ (∀ t, K = some t → WKp t) ∧ (K = none → g = 0) ∧ Tr.length ≤ 30 ∧ (∀ k, k < 4 → WSh (Sh k))
theorem XKp.congr {b r1 v1 r2 v2 : Nat} {t : oA_K} {σ σ' : om_S} (h : XKp b r1 v1 r2 v2 t σ) (e : ∀ k, b ≤ k → k < b + 19 → k ≠ b + 5 → k ≠ b + 9 → σ' k = σ k) (e1 : σ' r1 = σ r1) (e2 : σ' v1 = σ v1) (e3 : σ' r2 = σ r2) (e4 : σ' v2 = σ v2) : XKp b r1 v1 r2 v2 t σ' := ⟨h.1.congr e, h.2.1.congr e1 e2, h.2.2.congr e3 e4⟩
theorem MKp.congr {a : Nat} {t : oA_K} {σ σ' : om_S} (h : MKp a t σ) (e : σ' a = σ a) : MKp a t σ' := ⟨h.1.congr e, h.2.1.congr (by rw [e]) (fun j _ _ => by rw [e]), h.2.2.congr (by rw [e]) (fun j _ _ => by rw [e])⟩
theorem XSh.congr {k : Nat} {p : Int32 × Nat × (Nat → Int32)} {σ σ' : om_S} (h : XSh k p σ) (e1 : σ' (82 + 2 * k) = σ (82 + 2 * k)) (e2 : σ' (83 + 2 * k) = σ (83 + 2 * k)) : XSh k p σ' := by
  unfold XSh at h ⊢
  rw [e1, e2]
  exact h
theorem MSh.congr {k : Nat} {p : Int32 × Nat × (Nat → Int32)} {σ σ' : om_S} (h : MSh k p σ) (e1 : σ' 101 = σ 101) (e2 : σ' 102 = σ 102) (e3 : σ' 103 = σ 103) : MSh k p σ' := by
  unfold MSh at h ⊢
  rw [e1, e2, e3]
  exact h
theorem HX.tw {V : Nat → Nat} {Z : Int32} {C0 C1 T W : List Int32} {K : Option oA_K} {g : Int32} {E : Nat → Int32} {Tr : List Int32} {Sh : Nat → Int32 × Nat × (Nat → Int32)} {V' : Nat → Nat} {Z' : Int32} {C0' C1' T' W' : List Int32} {σ σ' : om_S} (h : HX (V, Z, C0, C1, T, W, K, g, E, Tr, Sh) σ) (hT : XKp 1 62 63 66 67 (V', Z', C0', C1', T', W') σ') (hz : XZ σ') (hf : ∀ q, (q = 0 ∨ (20 ≤ q ∧ q < 39) ∨ q = 64 ∨ q = 65 ∨ q = 68 ∨ q = 69 ∨ (78 ≤ q ∧ q < 90)) → σ' q = σ q) : HX (V', Z', C0', C1', T', W', K, g, E, Tr, Sh) σ' := by
  obtain ⟨h1, h2, h3, h4, h5, h6, h7⟩ := h
  refine ⟨hT, fun t ht => (h2 t ht).congr (fun k a b _ _ => hf k (by omega)) (hf _ (by omega)) (hf _ (by omega)) (hf _ (by omega)) (hf _ (by omega)), ?_, fun k hk => ?_, h5.congr (hf _ (by omega)) (hf _ (by omega)), fun k hk => (h6 k hk).congr (hf _ (by omega)) (hf _ (by omega)), hz⟩
  · rw [hf 0 (by omega)]
    exact h3
  · rw [hf 81 (by omega)]
    exact h4 k hk
theorem HM.tw {V : Nat → Nat} {Z : Int32} {C0 C1 T W : List Int32} {K : Option oA_K} {g : Int32} {E : Nat → Int32} {Tr : List Int32} {Sh : Nat → Int32 × Nat × (Nat → Int32)} {V' : Nat → Nat} {Z' : Int32} {C0' C1' T' W' : List Int32} {σ σ' : om_S} (h : HM (V, Z, C0, C1, T, W, K, g, E, Tr, Sh) σ) (hT : MKp 91 (V', Z', C0', C1', T', W') σ') (hz : MZ σ') (hf : ∀ q, (q = 92 ∨ q = 94 ∨ (100 ≤ q ∧ q < 104)) → σ' q = σ q) (e3 : σ' 90 3 = σ 90 3) (e15 : σ' 90 15 = σ 90 15) : HM (V', Z', C0', C1', T', W', K, g, E, Tr, Sh) σ' := by
  obtain ⟨h1, h2, h3, h4, h5, h6, h7⟩ := h
  refine ⟨hT, fun t ht => (h2 t ht).congr (hf _ (by omega)), by rw [e3]; exact h3, fun k hk => ?_, ⟨by rw [e15]; exact h5.1, fun j hj => ?_⟩, fun k hk => (h6 k hk).congr (hf _ (by omega)) (hf _ (by omega)) (hf _ (by omega)), hz⟩
  · rw [hf 94 (by omega)]
    exact h4 k hk
  · rw [hf 100 (by omega)]
    exact h5.2 j hj
/-- only what is worked out anew at every call has changed -/
def xscr (σ σ' : om_S) : Prop := (∀ q, q ≠ 6 → q ≠ 10 → (q < 39 ∨ 62 ≤ q) → (q < 70 ∨ 78 ≤ q) → σ' q = σ q) ∧ XZ σ'
def mscr (σ σ' : om_S) : Prop := (∀ q, q ≠ 90 → q ≠ 93 → q ≠ 95 → q ≠ 96 → q ≠ 97 → q ≠ 98 → q ≠ 99 → q ≠ 104 → σ' q = σ q) ∧ σ' 90 3 = σ 90 3 ∧ σ' 90 15 = σ 90 15 ∧ MZ σ'
theorem HX.scr0 {s : oA_S} {σ σ' : om_S} (h : HX s σ) (hs : ∀ q, q < 90 → q ≠ 6 → q ≠ 10 → (q < 39 ∨ 62 ≤ q) → (q < 70 ∨ 78 ≤ q) → σ' q = σ q) (hz : XZ σ') : HX s σ' := by
  obtain ⟨V, Z, C0, C1, T, W, K, g, E, Tr, Sh⟩ := s
  refine HX.tw h (h.1.congr (fun k a b c d => hs k (by omega) (by omega) (by omega) (by omega) (by omega)) (hs _ (by omega) (by omega) (by omega) (by omega) (by omega)) (hs _ (by omega) (by omega) (by omega) (by omega) (by omega)) (hs _ (by omega) (by omega) (by omega) (by omega) (by omega)) (hs _ (by omega) (by omega) (by omega) (by omega) (by omega))) hz (fun q hq => hs q (by omega) (by omega) (by omega) (by omega) (by omega))
theorem HX.scr {s : oA_S} {σ σ' : om_S} (h : HX s σ) (hs : xscr σ σ') : HX s σ' := h.scr0 (fun q _ a b c d => hs.1 q a b c d) hs.2
theorem HM.scr {s : oA_S} {σ σ' : om_S} (h : HM s σ) (hs : mscr σ σ') : HM s σ' := by
  obtain ⟨V, Z, C0, C1, T, W, K, g, E, Tr, Sh⟩ := s
  obtain ⟨h1, h2, h3, h4⟩ := hs
  have f : ∀ q, (q = 91 ∨ q = 92 ∨ q = 94 ∨ (100 ≤ q ∧ q < 104)) → σ' q = σ q := fun q hq => h1 q (by omega) (by omega) (by omega) (by omega) (by omega) (by omega) (by omega) (by omega)
  exact HM.tw h (h.1.congr (f 91 (by omega))) h4 (fun q hq => f q (by omega)) h2 h3
theorem HX.xz {s : oA_S} {σ : om_S} (h : HX s σ) : XZ σ := by
  obtain ⟨V, Z, C0, C1, T, W, K, g, E, Tr, Sh⟩ := s
  exact h.2.2.2.2.2.2
theorem HM.mz {s : oA_S} {σ : om_S} (h : HM s σ) : MZ σ := by
  obtain ⟨V, Z, C0, C1, T, W, K, g, E, Tr, Sh⟩ := s
  exact h.2.2.2.2.2.2
theorem XZ.congr {σ σ' : om_S} (h : XZ σ) (e : ∀ q, (q = 22 ∨ q = 26 ∨ q = 41 ∨ q = 45 ∨ q = 59 ∨ q = 60 ∨ q = 61) → σ' q = σ q) : XZ σ' := by
  unfold XZ Zero3 at h ⊢
  rw [e 22 (by omega), e 26 (by omega), e 41 (by omega), e 45 (by omega), e 59 (by omega), e 60 (by omega), e 61 (by omega)]
  exact h
theorem MZ.congr {σ σ' : om_S} (h : MZ σ) (e : ∀ q, (q = 90 ∨ q = 98 ∨ q = 99) → σ' q = σ q) : MZ σ' := by
  unfold MZ at h ⊢
  rw [e 90 (by omega), e 98 (by omega), e 99 (by omega)]
  exact h
def upE (E : Nat → Int32) (k : Nat) : Nat → Int32 := fun j => if j = k then E j + 1 else E j
def rfE (k : Nat) : Int32 := -1000000000 - nI k
def XO (f : om_S → Option (Int32 × om_S)) (r : Int32) (s : oA_S) (σ : om_S) : Prop := ∃ σ', f σ = some (r, σ') ∧ HX s σ' ∧ ∀ q, 90 ≤ q → σ' q = σ q
def MO (f : om_S → Option (Int32 × om_S)) (r : Int32) (s : oA_S) (σ : om_S) : Prop := ∃ σ', f σ = some (r, σ') ∧ HM s σ' ∧ ∀ q, q < 90 → σ' q = σ q
def Inv (σ : om_S) : Prop := ∃ s, WF s ∧ HX s σ ∧ HM s σ
def Sim (fx fm : om_S → Option (Int32 × om_S)) : Prop := ∀ σ, Inv σ → ∃ r σ1 σ2, fx σ = some (r, σ1) ∧ fm σ1 = some (r, σ2) ∧ Inv σ2
theorem HX.lt {s : oA_S} {σ σ' : om_S} (h : HX s σ) (e : ∀ q, q < 90 → σ' q = σ q) : HX s σ' := h.scr0 (fun q hq _ _ _ _ => e q hq) (h.xz.congr (fun q hq => e q (by omega)))
theorem HM.ge {s : oA_S} {σ σ' : om_S} (h : HM s σ) (e : ∀ q, 90 ≤ q → σ' q = σ q) : HM s σ' := by
  obtain ⟨V, Z, C0, C1, T, W, K, g, E, Tr, Sh⟩ := s
  exact HM.tw h (h.1.congr (e 91 (by omega))) (h.mz.congr (fun q hq => e q (by omega))) (fun q hq => e q (by omega)) (by rw [e 90 (by omega)]) (by rw [e 90 (by omega)])
theorem sim_of {fx fm : om_S → Option (Int32 × om_S)} (h : ∀ s σ, WF s → HX s σ → ∃ r s', WF s' ∧ XO fx r s' σ ∧ ∀ τ, HM s τ → MO fm r s' τ) : Sim fx fm := by
  intro σ ⟨s, w, hx, hm⟩
  obtain ⟨r, s', w', ⟨σ1, a1, a2, a3⟩, hM⟩ := h s σ w hx
  obtain ⟨σ2, b1, b2, b3⟩ := hM σ1 (hm.ge a3)
  exact ⟨r, σ1, σ2, a1, b1, s', w', a2.lt b3, b2⟩
theorem HX.err {V : Nat → Nat} {Z : Int32} {C0 C1 T W : List Int32} {K : Option oA_K} {g : Int32} {E : Nat → Int32} {Tr : List Int32} {Sh : Nat → Int32 × Nat × (Nat → Int32)} {σ : om_S} {k : Nat} (h : HX (V, Z, C0, C1, T, W, K, g, E, Tr, Sh) σ) (hk : k < 7) : HX (V, Z, C0, C1, T, W, K, g, upE E k, Tr, Sh) (om_w σ 81 k (σ 81 k + 1)) := by
  obtain ⟨h1, h2, h3, h4, h5, h6, h7⟩ := h
  have f : ∀ q, q ≠ 81 → om_w σ 81 k (σ 81 k + 1) q = σ q := fun q hq => om_w_off hq
  refine ⟨h1.congr (fun q a b _ _ => f q (by omega)) (f _ (by omega)) (f _ (by omega)) (f _ (by omega)) (f _ (by omega)), fun t ht => (h2 t ht).congr (fun q a b _ _ => f q (by omega)) (f _ (by omega)) (f _ (by omega)) (f _ (by omega)) (f _ (by omega)), ?_, fun j hj => ?_, h5.congr (f _ (by omega)) (f _ (by omega)), fun j hj => (h6 j hj).congr (f _ (by omega)) (f _ (by omega)), h7.congr (fun q hq => f q (by omega))⟩
  · rw [f 0 (by omega)]
    exact h3
  · unfold upE
    by_cases e : j = k
    · subst e
      rw [om_w_s, if_pos rfl, h4 j hk]
    · rw [om_w_j e, if_neg e, h4 j hj]
theorem HM.err {V : Nat → Nat} {Z : Int32} {C0 C1 T W : List Int32} {K : Option oA_K} {g : Int32} {E : Nat → Int32} {Tr : List Int32} {Sh : Nat → Int32 × Nat × (Nat → Int32)} {σ : om_S} {k : Nat} (h : HM (V, Z, C0, C1, T, W, K, g, E, Tr, Sh) σ) (hk : k < 7) : HM (V, Z, C0, C1, T, W, K, g, upE E k, Tr, Sh) (om_w σ 94 k (σ 94 k + 1)) := by
  obtain ⟨h1, h2, h3, h4, h5, h6, h7⟩ := h
  have f : ∀ q, q ≠ 94 → om_w σ 94 k (σ 94 k + 1) q = σ q := fun q hq => om_w_off hq
  refine ⟨h1.congr (f _ (by omega)), fun t ht => (h2 t ht).congr (f _ (by omega)), ?_, fun j hj => ?_, ⟨?_, fun j hj => ?_⟩, fun j hj => (h6 j hj).congr (f _ (by omega)) (f _ (by omega)) (f _ (by omega)), h7.congr (fun q hq => f q (by omega))⟩
  · rw [f 90 (by omega)]
    exact h3
  · unfold upE
    by_cases e : j = k
    · subst e
      rw [om_w_s, if_pos rfl, h4 j hk]
    · rw [om_w_j e, if_neg e, h4 j hj]
  · rw [f 90 (by omega)]
    exact h5.1
  · rw [f 100 (by omega)]
    exact h5.2 j hj
theorem XO.no {V : Nat → Nat} {Z : Int32} {C0 C1 T W : List Int32} {K : Option oA_K} {g : Int32} {E : Nat → Int32} {Tr : List Int32} {Sh : Nat → Int32 × Nat × (Nat → Int32)} {f : om_S → Option (Int32 × om_S)} {k : Nat} {σ σ1 : om_S} (h : HX (V, Z, C0, C1, T, W, K, g, E, Tr, Sh) σ1) (hk : k < 7) (hf : ∀ q, 90 ≤ q → σ1 q = σ q) (e : f σ = om_call (f_X8_refuse 0 (nI k) σ1) fun r s => some (r, s)) : XO f (rfE k) (V, Z, C0, C1, T, W, K, g, upE E k, Tr, Sh) σ := by
  refine ⟨om_w σ1 81 k (σ1 81 k + 1), ?_, h.err hk, fun q hq => by rw [om_w_off (by omega), hf q hq]⟩
  rw [e, x_refuse hk, call_s]
  exact Eq.refl _
theorem MO.no {V : Nat → Nat} {Z : Int32} {C0 C1 T W : List Int32} {K : Option oA_K} {g : Int32} {E : Nat → Int32} {Tr : List Int32} {Sh : Nat → Int32 × Nat × (Nat → Int32)} {f : om_S → Option (Int32 × om_S)} {k : Nat} {σ σ1 : om_S} (h : HM (V, Z, C0, C1, T, W, K, g, E, Tr, Sh) σ1) (hk : k < 7) (hf : ∀ q, q < 90 → σ1 q = σ q) (e : f σ = om_call (f_X9_error 90 (nI k) σ1) fun r s => some (r, s)) : MO f (rfE k) (V, Z, C0, C1, T, W, K, g, upE E k, Tr, Sh) σ := by
  refine ⟨om_w σ1 94 k (σ1 94 k + 1), ?_, h.err hk, fun q hq => by rw [om_w_off (by omega), hf q hq]⟩
  rw [e, m_error hk, call_s]
  exact Eq.refl _
theorem XO.no0 {V : Nat → Nat} {Z : Int32} {C0 C1 T W : List Int32} {K : Option oA_K} {g : Int32} {E : Nat → Int32} {Tr : List Int32} {Sh : Nat → Int32 × Nat × (Nat → Int32)} {f : om_S → Option (Int32 × om_S)} {k : Nat} {σ : om_S} (h : HX (V, Z, C0, C1, T, W, K, g, E, Tr, Sh) σ) (hk : k < 7) (e : f σ = om_call (f_X8_refuse 0 (nI k) σ) fun r s => some (r, s)) : XO f (rfE k) (V, Z, C0, C1, T, W, K, g, upE E k, Tr, Sh) σ := XO.no h hk (fun _ _ => rfl) e
theorem MO.no0 {V : Nat → Nat} {Z : Int32} {C0 C1 T W : List Int32} {K : Option oA_K} {g : Int32} {E : Nat → Int32} {Tr : List Int32} {Sh : Nat → Int32 × Nat × (Nat → Int32)} {f : om_S → Option (Int32 × om_S)} {k : Nat} {σ : om_S} (h : HM (V, Z, C0, C1, T, W, K, g, E, Tr, Sh) σ) (hk : k < 7) (e : f σ = om_call (f_X9_error 90 (nI k) σ) fun r s => some (r, s)) : MO f (rfE k) (V, Z, C0, C1, T, W, K, g, upE E k, Tr, Sh) σ := MO.no h hk (fun _ _ => rfl) e
theorem HX.setM {V : Nat → Nat} {Z : Int32} {C0 C1 T W : List Int32} {K : Option oA_K} {g : Int32} {E : Nat → Int32} {Tr : List Int32} {Sh : Nat → Int32 × Nat × (Nat → Int32)} {σ : om_S} {i f v : Nat} (h : HX (V, Z, C0, C1, T, W, K, g, E, Tr, Sh) σ) (hi : i < 9) (hf : f < 5) : HX (upV V (8 + 5 * i + f) v, Z, C0, C1, T, W, K, g, E, Tr, Sh) (om_w σ (1 + 10 + i) f (nI v)) :=
  HX.tw h ⟨h.1.1.setM hi hf, h.1.2.1.congr (om_w_off (by omega)) (om_w_off (by omega)), h.1.2.2.congr (om_w_off (by omega)) (om_w_off (by omega))⟩ (h.xz.congr (fun q hq => om_w_off (by omega))) (fun q hq => om_w_off (by omega))
theorem HX.setN {V : Nat → Nat} {Z : Int32} {C0 C1 T W : List Int32} {K : Option oA_K} {g : Int32} {E : Nat → Int32} {Tr : List Int32} {Sh : Nat → Int32 × Nat × (Nat → Int32)} {σ : om_S} {f v : Nat} (h : HX (V, Z, C0, C1, T, W, K, g, E, Tr, Sh) σ) (hf : f = 3 ∨ f = 4 ∨ f = 5 ∨ f = 6) : HX (upV V (txS f) v, Z, C0, C1, T, W, K, g, E, Tr, Sh) (om_w σ 1 f (nI v)) :=
  HX.tw h ⟨h.1.1.setN hf, h.1.2.1.congr (om_w_off (by omega)) (om_w_off (by omega)), h.1.2.2.congr (om_w_off (by omega)) (om_w_off (by omega))⟩ (h.xz.congr (fun q hq => om_w_off (by omega))) (fun q hq => om_w_off (by omega))
theorem HX.setZ {V : Nat → Nat} {Z : Int32} {C0 C1 T W : List Int32} {K : Option oA_K} {g : Int32} {E : Nat → Int32} {Tr : List Int32} {Sh : Nat → Int32 × Nat × (Nat → Int32)} {σ : om_S} {z : Int32} (h : HX (V, Z, C0, C1, T, W, K, g, E, Tr, Sh) σ) : HX (V, z, C0, C1, T, W, K, g, E, Tr, Sh) (om_w σ 1 7 z) :=
  HX.tw h ⟨h.1.1.setZ, h.1.2.1.congr (om_w_off (by omega)) (om_w_off (by omega)), h.1.2.2.congr (om_w_off (by omega)) (om_w_off (by omega))⟩ (h.xz.congr (fun q hq => om_w_off (by omega))) (fun q hq => om_w_off (by omega))
theorem NRow.w {a c o k : Nat} {L : List Int32} {σ : om_S} {v : Int32} (h : NRow a c o L σ) (hc : k ≠ c) (hk : k < o) : NRow a c o L (om_w σ a k v) := h.congr (om_w_j (fun e => hc e.symm)) (fun j h1 _ => om_w_j (by omega))
theorem HM.setM {V : Nat → Nat} {Z : Int32} {C0 C1 T W : List Int32} {K : Option oA_K} {g : Int32} {E : Nat → Int32} {Tr : List Int32} {Sh : Nat → Int32 × Nat × (Nat → Int32)} {σ : om_S} {i f v : Nat} (h : HM (V, Z, C0, C1, T, W, K, g, E, Tr, Sh) σ) (hi : i < 9) (hf : f < 5) : HM (upV V (8 + 5 * i + f) v, Z, C0, C1, T, W, K, g, E, Tr, Sh) (om_w σ 91 (8 + 5 * i + f) (nI v)) :=
  HM.tw h ⟨h.1.1.setM hi hf, h.1.2.1.w (by omega) (by omega), h.1.2.2.w (by omega) (by omega)⟩ (h.mz.congr (fun q hq => om_w_off (by omega))) (fun q hq => om_w_off (by omega)) (om_w_k (by omega)) (om_w_k (by omega))
theorem HM.setN {V : Nat → Nat} {Z : Int32} {C0 C1 T W : List Int32} {K : Option oA_K} {g : Int32} {E : Nat → Int32} {Tr : List Int32} {Sh : Nat → Int32 × Nat × (Nat → Int32)} {σ : om_S} {k v : Nat} (h : HM (V, Z, C0, C1, T, W, K, g, E, Tr, Sh) σ) (hk : k < 8) (h3 : k ≠ 3) (h4 : k ≠ 4) (h5 : k ≠ 5) : HM (upV V k v, Z, C0, C1, T, W, K, g, E, Tr, Sh) (om_w σ 91 k (nI v)) :=
  HM.tw h ⟨h.1.1.setN hk h3, h.1.2.1.w (by omega) (by omega), h.1.2.2.w (by omega) (by omega)⟩ (h.mz.congr (fun q hq => om_w_off (by omega))) (fun q hq => om_w_off (by omega)) (om_w_k (by omega)) (om_w_k (by omega))
theorem HM.setZ {V : Nat → Nat} {Z : Int32} {C0 C1 T W : List Int32} {K : Option oA_K} {g : Int32} {E : Nat → Int32} {Tr : List Int32} {Sh : Nat → Int32 × Nat × (Nat → Int32)} {σ : om_S} {z : Int32} (h : HM (V, Z, C0, C1, T, W, K, g, E, Tr, Sh) σ) : HM (V, z, C0, C1, T, W, K, g, E, Tr, Sh) (om_w σ 91 3 z) :=
  HM.tw h ⟨h.1.1.setZ, h.1.2.1.w (by omega) (by omega), h.1.2.2.w (by omega) (by omega)⟩ (h.mz.congr (fun q hq => om_w_off (by omega))) (fun q hq => om_w_off (by omega)) (om_w_k (by omega)) (om_w_k (by omega))
theorem WF.setV {V : Nat → Nat} {Z : Int32} {C0 C1 T W : List Int32} {K : Option oA_K} {g : Int32} {E : Nat → Int32} {Tr : List Int32} {Sh : Nat → Int32 × Nat × (Nat → Int32)} {V' : Nat → Nat} {Z' : Int32} (w : WF (V, Z, C0, C1, T, W, K, g, E, Tr, Sh)) (h : WV V') (h1 : V' 1 ≤ 9999) : WF (V', Z', C0, C1, T, W, K, g, E, Tr, Sh) := ⟨⟨h, h1, w.1.2.2⟩, w.2⟩
theorem WF.err {V : Nat → Nat} {Z : Int32} {C0 C1 T W : List Int32} {K : Option oA_K} {g : Int32} {E : Nat → Int32} {Tr : List Int32} {Sh : Nat → Int32 × Nat × (Nat → Int32)} {E' : Nat → Int32} (w : WF (V, Z, C0, C1, T, W, K, g, E, Tr, Sh)) : WF (V, Z, C0, C1, T, W, K, g, E', Tr, Sh) := w
theorem WV.setF {V : Nat → Nat} (hV : WV V) {i f v : Nat} (hf : f < 5) (h : v ≤ (if f = 0 then 6 else if f = 1 then 9 else if f = 2 then 15 else 99)) : WV (upV V (8 + 5 * i + f) v) := by
  obtain ⟨h1, h2, h3, h4, h5⟩ := hV
  have go : ∀ k b, V k ≤ b → (k = 8 + 5 * i + f → v ≤ b) → upV V (8 + 5 * i + f) v k ≤ b := by
    intro k b g1 g2
    by_cases e : k = 8 + 5 * i + f
    · rw [e, upV_s]
      exact g2 e
    · rw [upV_o e]
      exact g1
  refine ⟨go 6 9 h1 (by omega), go 0 9 h2 (by omega), go 1 20000 h3 (by omega), go 2 9999 h4 (by omega), fun j hj => ?_⟩
  obtain ⟨g1, g2, g3, g4, g5⟩ := h5 j hj
  refine ⟨go _ _ g1 fun e => ?_, go _ _ g2 fun e => ?_, go _ _ g3 fun e => ?_, go _ _ g4 fun e => ?_, go _ _ g5 fun e => ?_⟩
  · rw [if_pos (by omega)] at h
    exact h
  · rw [if_neg (by omega), if_pos (by omega)] at h
    exact h
  · rw [if_neg (by omega), if_neg (by omega), if_pos (by omega)] at h
    exact h
  · rw [if_neg (by omega), if_neg (by omega), if_neg (by omega)] at h
    exact h
  · rw [if_neg (by omega), if_neg (by omega), if_neg (by omega)] at h
    exact h
theorem WV.setC {V : Nat → Nat} (hV : WV V) {v : Nat} (h : v ≤ 9) : WV (upV V 6 v) := by
  obtain ⟨h1, h2, h3, h4, h5⟩ := hV
  refine ⟨?_, ?_, ?_, ?_, fun i hi => ?_⟩
  · rw [upV_s]
    exact h
  · rw [upV_o (by omega)]
    exact h2
  · rw [upV_o (by omega)]
    exact h3
  · rw [upV_o (by omega)]
    exact h4
  · rw [upV_o (by omega), upV_o (by omega), upV_o (by omega), upV_o (by omega), upV_o (by omega)]
    exact h5 i hi
theorem bI_y {p : Prop} [Decidable p] {α : Type} {a b : α} (h : p) : (if bI p = 0 then a else b) = b := if_neg (by rw [bI_0]; exact fun w => w h)
theorem bI_n {p : Prop} [Decidable p] {α : Type} {a b : α} (h : ¬ p) : (if bI p = 0 then a else b) = a := if_pos (by rw [bI_0]; exact h)
theorem isMem_n {V : Nat → Nat} {Z : Int32} {C0 C1 : List Int32} {x : Int32} {σ : om_S} (h6 : V 6 ≤ 9) (h : MT 91 V Z C0 C1 σ) (hx : x < 0 ∨ nI (V 6) ≤ x) : f_X9_isMemory 90 x σ = some (0, σ) := by
  unfold f_X9_isMemory
  simp only [kM, rM, aM, om_ref_s, if_true, in6_387, cl6, h.1, m_in, call_s]
  have e : (nI (V 6) - 1).toInt = (V 6 : Int) - 1 := pk_sub_toInt (a := V 6) (b := 1) (by omega) (by omega)
  have e2 : (nI (V 6)).toInt = (V 6 : Int) := nI_toInt (by omega)
  have e0 : (0 : Int32).toInt = 0 := rfl
  have hn : ¬ (0 ≤ x ∧ x ≤ nI (V 6) - 1) := by
    simp only [ltI, leI, e, e2, e0] at hx ⊢
    omega
  rw [bI_f hn, if_pos (Or.inl rfl)]
theorem isMem_y {V : Nat → Nat} {Z : Int32} {C0 C1 : List Int32} {i : Nat} {σ : om_S} (h6 : V 6 ≤ 9) (h : MT 91 V Z C0 C1 σ) (hi : i < V 6) : f_X9_isMemory 90 (nI i) σ = some (1, σ) := by
  unfold f_X9_isMemory
  simp only [kM, rM, aM, om_ref_s, if_true, in6_387, cl6, h.1, m_in, call_s]
  have e : (nI (V 6) - 1).toInt = (V 6 : Int) - 1 := pk_sub_toInt (a := V 6) (b := 1) (by omega) (by omega)
  have e2 : (nI i).toInt = (i : Int) := nI_toInt (by omega)
  have e0 : (0 : Int32).toInt = 0 := rfl
  have hn : 0 ≤ nI i ∧ nI i ≤ nI (V 6) - 1 := by
    simp only [leI, e, e2, e0]
    omega
  rw [bI_t hn, if_pos (Or.inr rfl)]
theorem m_change1 {k : Nat} {v : Int32} {σ : om_S} (hk : k < 387) : f_X9_change1 90 (nI k) v σ = some (σ 91 k, om_w σ 91 k v) := by
  have c : (nI k).toNatClampNeg = k := nI_clamp (by omega)
  unfold f_X9_change1
  simp only [kM, rM, aM, om_ref_s, if_true, let_s, c]
  rw [if_pos (in_nI (by omega) (by omega)), if_pos (in_nI (by omega) (by omega))]
theorem win {lo hi x : Int32} {n : Nat} (h : lo ≤ x ∧ x ≤ hi) (h0 : (0 : Int32) ≤ lo) (hh : hi = nI n) (hn : n < 2 ^ 31) : ∃ j : Nat, j ≤ n ∧ x = nI j := by
  have e1 : hi.toInt = n := by
    rw [hh]
    exact nI_toInt hn
  refine nI_of2 e1 ?_ h.2
  have h1 := h.1
  rw [leI] at h0 h1
  rw [ltI]
  omega
