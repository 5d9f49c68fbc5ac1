/-! ===== one number of a tower changed ===== -/
def upV (V : Nat → Nat) (k v : Nat) : Nat → Nat := fun j => if j = k then v else V j
theorem upV_s {V : Nat → Nat} {k v : Nat} : upV V k v k = v := if_pos rfl
theorem upV_o {V : Nat → Nat} {k v j : Nat} (h : j ≠ k) : upV V k v j = V j := if_neg h
theorem XT.setM {b : Nat} {V : Nat → Nat} {Z : Int32} {C0 C1 : List Int32} {σ : om_S} {i f v : Nat} (h : XT b V Z C0 C1 σ) (hi : i < 9) (hf : f < 5) : XT b (upV V (8 + 5 * i + f) v) Z C0 C1 (om_w σ (b + 10 + i) f (nI v)) := by
  obtain ⟨h1, h2, h3, h4, h5, h6, h7, h8, h9, h10⟩ := h
  refine ⟨?_, ?_, ?_, ?_, ?_, fun j g hj hg => ?_, h7.congr (om_w_off (by omega)) (om_w_off (by omega)), h8.congr (om_w_off (by omega)) (om_w_off (by omega)), ?_, ?_⟩
  · rw [om_w_k (by omega), upV_o (by omega)]
    exact h1
  · rw [om_w_k (by omega), upV_o (by omega)]
    exact h2
  · rw [om_w_k (by omega), upV_o (by omega)]
    exact h3
  · rw [om_w_k (by omega), upV_o (by omega)]
    exact h4
  · rw [om_w_k (by omega)]
    exact h5
  · by_cases e : j = i
    · subst e
      by_cases e2 : g = f
      · subst e2
        rw [om_w_s, upV_s]
      · rw [om_w_j e2, upV_o (by omega)]
        exact h6 j g hj hg
    · rw [om_w_k (by omega), upV_o (by omega)]
      exact h6 j g hj hg
  · rw [om_w_k (by omega)]
    exact h9
  · rw [om_w_k (by omega)]
    exact h10
theorem MText.low {a u : Nat} {C : List Int32} {σ : om_S} {k : Nat} {v : Int32} (h : MText a u C σ) (hk : k < 53) : MText a u C (om_w σ a k v) := by
  refine ⟨by rw [om_w_j (by omega)]; exact h.1, fun j hj => ?_⟩
  rw [om_w_j (by omega), om_w_j (by omega)]
  exact h.2 j hj
theorem MT.setM {a : Nat} {V : Nat → Nat} {Z : Int32} {C0 C1 : List Int32} {σ : om_S} {i f v : Nat} (h : MT a V Z C0 C1 σ) (hi : i < 9) (hf : f < 5) : MT a (upV V (8 + 5 * i + f) v) Z C0 C1 (om_w σ a (8 + 5 * i + f) (nI v)) := by
  obtain ⟨h1, h2, h3, h4, h5, h6, h7, h8⟩ := h
  refine ⟨?_, ?_, ?_, ?_, ?_, fun j g hj hg => ?_, h7.low (by omega), h8.low (by omega)⟩
  · rw [om_w_j (by omega), upV_o (by omega)]
    exact h1
  · rw [om_w_j (by omega), upV_o (by omega)]
    exact h2
  · rw [om_w_j (by omega), upV_o (by omega)]
    exact h3
  · rw [om_w_j (by omega), upV_o (by omega)]
    exact h4
  · rw [om_w_j (by omega)]
    exact h5
  · by_cases e : 8 + 5 * j + g = 8 + 5 * i + f
    · rw [e, om_w_s, upV_s]
    · rw [om_w_j e, upV_o e]
      exact h6 j g hj hg
theorem MT.setN {a : Nat} {V : Nat → Nat} {Z : Int32} {C0 C1 : List Int32} {σ : om_S} {k v : Nat} (h : MT a V Z C0 C1 σ) (hk : k < 8) (h3 : k ≠ 3) : MT a (upV V k v) Z C0 C1 (om_w σ a k (nI v)) := by
  obtain ⟨e1, e2, e3, e4, e5, e6, e7, e8⟩ := h
  have go : ∀ j, σ a j = nI (V j) → om_w σ a k (nI v) a j = nI (upV V k v j) := by
    intro j hj
    by_cases e : j = k
    · rw [e, om_w_s, upV_s]
    · rw [om_w_j e, upV_o e]
      exact hj
  exact ⟨go _ e1, go _ e2, go _ e3, go _ e4, by rw [om_w_j (fun e => h3 e.symm)]; exact e5, fun j g hj hg => go _ (e6 j g hj hg), e7.low (by omega), e8.low (by omega)⟩
def txS (f : Nat) : Nat := if f = 3 then 6 else if f = 4 then 0 else if f = 5 then 1 else 2
theorem XT.setN {b : Nat} {V : Nat → Nat} {Z : Int32} {C0 C1 : List Int32} {σ : om_S} {f v : Nat} (h : XT b V Z C0 C1 σ) (hf : f = 3 ∨ f = 4 ∨ f = 5 ∨ f = 6) : XT b (upV V (txS f) v) Z C0 C1 (om_w σ b f (nI v)) := by
  obtain ⟨e1, e2, e3, e4, e5, e6, e7, e8, e9, e10⟩ := h
  have ht : txS f < 8 := by
    rcases hf with rfl | rfl | rfl | rfl <;> decide
  have go : ∀ g j, (j = txS f ↔ g = f) → σ b g = nI (V j) → om_w σ b f (nI v) b g = nI (upV V (txS f) v j) := by
    intro g j hg hj
    by_cases e : g = f
    · rw [e, om_w_s, hg.mpr e, upV_s]
    · rw [om_w_j e, upV_o (fun w => e (hg.mp w))]
      exact hj
  refine ⟨go 3 6 ?_ e1, go 4 0 ?_ e2, go 5 1 ?_ e3, go 6 2 ?_ e4, ?_, fun j g hj hg => ?_, e7.congr (om_w_off (by omega)) (om_w_off (by omega)), e8.congr (om_w_off (by omega)) (om_w_off (by omega)), ?_, ?_⟩
  · rcases hf with rfl | rfl | rfl | rfl <;> decide
  · rcases hf with rfl | rfl | rfl | rfl <;> decide
  · rcases hf with rfl | rfl | rfl | rfl <;> decide
  · rcases hf with rfl | rfl | rfl | rfl <;> decide
  · rw [om_w_j (by omega)]
    exact e5
  · rw [om_w_k (by omega), upV_o (by omega)]
    exact e6 j g hj hg
  · rw [om_w_k (by omega)]
    exact e9
  · rw [om_w_k (by omega)]
    exact e10
theorem XT.setZ {b : Nat} {V : Nat → Nat} {Z z : Int32} {C0 C1 : List Int32} {σ : om_S} (h : XT b V Z C0 C1 σ) : XT b V z C0 C1 (om_w σ b 7 z) := by
  obtain ⟨e1, e2, e3, e4, e5, e6, e7, e8, e9, e10⟩ := h
  refine ⟨by rw [om_w_j (by omega)]; exact e1, by rw [om_w_j (by omega)]; exact e2, by rw [om_w_j (by omega)]; exact e3, by rw [om_w_j (by omega)]; exact e4, om_w_s, fun j g hj hg => ?_, e7.congr (om_w_off (by omega)) (om_w_off (by omega)), e8.congr (om_w_off (by omega)) (om_w_off (by omega)), by rw [om_w_k (by omega)]; exact e9, by rw [om_w_k (by omega)]; exact e10⟩
  rw [om_w_k (by omega)]
  exact e6 j g hj hg
theorem MT.setZ {a : Nat} {V : Nat → Nat} {Z z : Int32} {C0 C1 : List Int32} {σ : om_S} (h : MT a V Z C0 C1 σ) : MT a V z C0 C1 (om_w σ a 3 z) := by
  obtain ⟨e1, e2, e3, e4, e5, e6, e7, e8⟩ := h
  refine ⟨by rw [om_w_j (by omega)]; exact e1, by rw [om_w_j (by omega)]; exact e2, by rw [om_w_j (by omega)]; exact e3, by rw [om_w_j (by omega)]; exact e4, om_w_s, fun j g hj hg => ?_, e7.low (by omega), e8.low (by omega)⟩
  rw [om_w_j (by omega)]
  exact e6 j g hj hg
