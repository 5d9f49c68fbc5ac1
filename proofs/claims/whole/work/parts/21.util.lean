/-! ===== small words over the functions ===== -/
def bI (p : Prop) [Decidable p] : Int32 := if p then 1 else 0
theorem bI_0 (p : Prop) [Decidable p] : (bI p = 0) = ¬ p := by
  unfold bI
  by_cases h : p <;> simp [h]
theorem bI_or (p : Prop) [Decidable p] : (bI p = 0 ∨ bI p = 1) = True := by
  unfold bI
  by_cases h : p <;> simp [h]
theorem bI_t {p : Prop} [Decidable p] (h : p) : bI p = 1 := if_pos h
theorem bI_f {p : Prop} [Decidable p] (h : ¬ p) : bI p = 0 := if_neg h
theorem om_w_s {σ : om_S} {k j : Nat} {v : Int32} : om_w σ k j v k j = v := by simp [om_w]
theorem om_w_k {σ : om_S} {k j a b : Nat} {v : Int32} (h : a ≠ k) : om_w σ k j v a b = σ a b := by simp [om_w, h]
theorem om_w_j {σ : om_S} {k j b : Nat} {v : Int32} (h : b ≠ j) : om_w σ k j v k b = σ k b := by simp [om_w, h]
theorem in_nI {j n : Nat} (h : j < n) (hn : n < 2 ^ 31) : om_in (nI j) n := nI_in h hn
theorem ltI {a b : Int32} : a < b ↔ a.toInt < b.toInt := Int32.lt_iff_toInt_lt
theorem leI {a b : Int32} : a ≤ b ↔ a.toInt ≤ b.toInt := Int32.le_iff_toInt_le
theorem nI_lit0 : nI 0 = 0 := by decide
theorem x_isWithin {v lo hi : Int32} {σ : om_S} : f_X8_isWithin v lo hi σ = some (bI (lo ≤ v ∧ v ≤ hi), σ) := by
  unfold f_X8_isWithin bI
  simp only [ltI, leI]
  by_cases h1 : v.toInt < lo.toInt
  · rw [if_pos h1, if_neg (by omega)]
  · rw [if_neg h1]
    by_cases h2 : hi.toInt < v.toInt
    · rw [if_pos h2, if_neg (by omega)]
    · rw [if_neg h2, if_pos (by omega)]
theorem m_in {v lo hi : Int32} {σ : om_S} : f_X9_in v lo hi σ = some (bI (lo ≤ v ∧ v ≤ hi), σ) := x_isWithin
theorem om_ref_s {β : Type} {t c : Nat} {κ : Nat → Option β} : om_ref (some t) c κ = if om_kc t = c then κ t else none := by
  unfold om_ref
  rw [Option.bind_some]
theorem call_s {α β : Type} {a : α} {s : om_S} {κ : α → om_S → Option β} : om_call (some (a, s)) κ = κ a s := by
  unfold om_call
  rw [Option.bind_some]
theorem do_s {β : Type} {s : om_S} {κ : om_S → Option β} : om_do (some s) κ = κ s := by
  unfold om_do
  rw [Option.bind_some]
theorem let_s {α β : Type} {a : α} {κ : α → Option β} : om_let a κ = κ a := by
  unfold om_let
  exact Eq.refl _
theorem om_nul_s {β : Type} {t c : Nat} {A : Option β} {κ : Nat → Option β} : om_nul (some t) c A κ = if om_kc t = c then κ t else none := by
  unfold om_nul
  exact Eq.refl _
theorem x_refuse {k : Nat} (hk : k < 7) {σ : om_S} : f_X8_refuse 0 (nI k) σ = some (-1000000000 - nI k, om_w σ 81 k (σ 81 k + 1)) := by
  unfold f_X8_refuse
  simp only [kX, rX, kM, rM, aM, al_81, om_ref_s, if_true, let_s]
  have h7 : Int32.ofNat 7 = nI 7 := rfl
  rw [if_neg (nI_pos (by omega)), h7, if_neg (nI_ge hk (by omega)), if_pos (in_nI hk (by omega)), if_pos (in_nI hk (by omega)), nI_clamp (by omega)]
theorem m_error {k : Nat} (hk : k < 7) {σ : om_S} : f_X9_error 90 (nI k) σ = some (-1000000000 - nI k, om_w σ 94 k (σ 94 k + 1)) := by
  unfold f_X9_error
  simp only [kX, rX, kM, rM, aM, al_81, om_ref_s, if_true, let_s]
  rw [if_pos (in_nI hk (by omega)), if_pos (in_nI hk (by omega)), nI_clamp (by omega)]
