/-! ===== what the functions are written with ===== -/
def om_F : Nat := 5000
def om_let {α β : Type} (a : α) (κ : α → Option β) : Option β := κ a
theorem om_let_some {α β : Type} {a : α} {κ : α → Option β} {r : β} (h : om_let a κ = some r) : ∃ b, a = b ∧ κ b = some r := ⟨a, rfl, h⟩
def om_call {α β : Type} (o : Option (α × om_S)) (κ : α → om_S → Option β) : Option β := o.bind fun q => κ q.1 q.2
theorem om_call_some {α β : Type} {o : Option (α × om_S)} {κ : α → om_S → Option β} {r : β} (h : om_call o κ = some r) : ∃ a s, o = some (a, s) ∧ κ a s = some r := by
  obtain ⟨⟨a, s⟩, h1, h2⟩ := Option.bind_eq_some_iff.mp h
  exact ⟨a, s, h1, h2⟩
theorem om_call_eq {α β : Type} {a : α} {s : om_S} {κ : α → om_S → Option β} : om_call (some (a, s)) κ = κ a s := rfl
def om_do {β : Type} (o : Option om_S) (κ : om_S → Option β) : Option β := o.bind κ
theorem om_do_some {β : Type} {o : Option om_S} {κ : om_S → Option β} {r : β} (h : om_do o κ = some r) : ∃ s, o = some s ∧ κ s = some r := Option.bind_eq_some_iff.mp h
theorem om_do_eq {β : Type} {s : om_S} {κ : om_S → Option β} : om_do (some s) κ = κ s := rfl
def om_call3 {β : Type} (o : Option (om_S × om_R × Nat)) (κ : om_S → om_R → Nat → Option β) : Option β := o.bind fun q => κ q.1 q.2.1 q.2.2
theorem om_call3_some {β : Type} {o : Option (om_S × om_R × Nat)} {κ : om_S → om_R → Nat → Option β} {r : β} (h : om_call3 o κ = some r) : ∃ s p n, o = some (s, p, n) ∧ κ s p n = some r := by
  obtain ⟨⟨s, p, n⟩, h1, h2⟩ := Option.bind_eq_some_iff.mp h
  exact ⟨s, p, n, h1, h2⟩
def om_ref {β : Type} (o : Option Nat) (c : Nat) (κ : Nat → Option β) : Option β := o.bind fun t => if om_kc t = c then κ t else none
def om_nul {β : Type} (o : Option Nat) (c : Nat) (A : Option β) (κ : Nat → Option β) : Option β := match o with
  | none => A
  | some t => if om_kc t = c then κ t else none
theorem om_ite {c : Prop} [Decidable c] {β : Type} {a : Option β} {r : β} (h : (if c then a else none) = some r) : c ∧ a = some r := by
  by_cases hc : c
  · exact ⟨hc, by rw [if_pos hc] at h; exact h⟩
  · rw [if_neg hc] at h
    cases h
theorem om_ref_some {β : Type} {o : Option Nat} {c : Nat} {κ : Nat → Option β} {r : β} (h : om_ref o c κ = some r) : ∃ t, o = some t ∧ om_kc t = c ∧ κ t = some r := by
  obtain ⟨t, h1, h2⟩ := Option.bind_eq_some_iff.mp h
  obtain ⟨h3, h4⟩ := om_ite h2
  exact ⟨t, h1, h3, h4⟩
theorem om_ref_eq {β : Type} {t c : Nat} {κ : Nat → Option β} (h : om_kc t = c) : om_ref (some t) c κ = κ t := if_pos h
theorem om_nul_cases {β : Type} {o : Option Nat} {c : Nat} {A : Option β} {κ : Nat → Option β} {r : β} (h : om_nul o c A κ = some r) : (o = none ∧ A = some r) ∨ ∃ t, o = some t ∧ om_kc t = c ∧ κ t = some r := by
  cases o with
  | none => exact Or.inl ⟨rfl, h⟩
  | some t =>
    obtain ⟨h3, h4⟩ := om_ite h
    exact Or.inr ⟨t, rfl, h3, h4⟩
theorem om_nul_none {β : Type} {c : Nat} {A : Option β} {κ : Nat → Option β} : om_nul none c A κ = A := rfl
theorem om_nul_eq {β : Type} {t c : Nat} {A : Option β} {κ : Nat → Option β} (h : om_kc t = c) : om_nul (some t) c A κ = κ t := if_pos h
def om_mk {β : Type} (σ : om_S) (ρ : om_R) (n : Nat) (κ : om_S → om_R → Nat → Option β) : Option β := κ (om_z σ n) (om_zr ρ n) (n + 1)
theorem om_mk_some {β : Type} {σ : om_S} {ρ : om_R} {n : Nat} {κ : om_S → om_R → Nat → Option β} {r : β} (h : om_mk σ ρ n κ = some r) : ∃ s p k, om_z σ n = s ∧ om_zr ρ n = p ∧ n + 1 = k ∧ κ s p k = some r := ⟨_, _, _, rfl, rfl, rfl, h⟩
theorem om_iteR {c : Prop} [Decidable c] {β : Type} {a : Option β} {r : β} {P : Prop} (k : c → a = some r → P) (h : (if c then a else none) = some r) : P := k (om_ite h).1 (om_ite h).2
theorem om_letR {α β : Type} {a : α} {κ : α → Option β} {r : β} {P : Prop} (k : ∀ b, a = b → κ b = some r → P) (h : om_let a κ = some r) : P := k a rfl h
theorem om_refR {β : Type} {o : Option Nat} {c : Nat} {κ : Nat → Option β} {r : β} {P : Prop} (k : ∀ t, o = some t → om_kc t = c → κ t = some r → P) (h : om_ref o c κ = some r) : P := by
  obtain ⟨t, h1, h2, h3⟩ := om_ref_some h
  exact k t h1 h2 h3
theorem om_mkR {β : Type} {σ : om_S} {ρ : om_R} {n : Nat} {κ : om_S → om_R → Nat → Option β} {r : β} {P : Prop} (q : ∀ s p k, om_z σ n = s → om_zr ρ n = p → n + 1 = k → κ s p k = some r → P) (h : om_mk σ ρ n κ = some r) : P := q _ _ _ rfl rfl rfl h
theorem om_call3R {β : Type} {o : Option (om_S × om_R × Nat)} {κ : om_S → om_R → Nat → Option β} {r : β} {P : Prop} (k : ∀ s p n, o = some (s, p, n) → κ s p n = some r → P) (h : om_call3 o κ = some r) : P := by
  obtain ⟨s, p, n, h1, h2⟩ := om_call3_some h
  exact k s p n h1 h2
theorem om_doR {β : Type} {o : Option om_S} {κ : om_S → Option β} {r : β} {P : Prop} (k : ∀ s, o = some s → κ s = some r → P) (h : om_do o κ = some r) : P := by
  obtain ⟨s, h1, h2⟩ := om_do_some h
  exact k s h1 h2
theorem om_callR {α β : Type} {o : Option (α × om_S)} {κ : α → om_S → Option β} {r : β} {P : Prop} (k : ∀ a s, o = some (a, s) → κ a s = some r → P) (h : om_call o κ = some r) : P := by
  obtain ⟨a, s, h1, h2⟩ := om_call_some h
  exact k a s h1 h2
theorem om_nulR {β : Type} {o : Option Nat} {c : Nat} {A : Option β} {κ : Nat → Option β} {r : β} {P : Prop} (k1 : o = none → A = some r → P) (k2 : ∀ t, o = some t → om_kc t = c → κ t = some r → P) (h : om_nul o c A κ = some r) : P := by
  rcases om_nul_cases h with ⟨h1, h2⟩ | ⟨t, h1, h2, h3⟩
  · exact k1 h1 h2
  · exact k2 t h1 h2 h3
