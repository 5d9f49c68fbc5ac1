/-! ===== a night ===== -/
theorem x_foundSet {V : Nat → Nat} {C0 C1 : List Int32} {sp : Int32} {σ : om_S} {t : Tri} (hV : WV V) (h1 : BestIs (TL V C0 sp (V 6)) (pickV V C0 C1 sp) (σ 58 4)) (h2 : Arr3 (TL V C0 sp (V 6)) (TL V C0 sp (V 6)).length σ) (ht : pickV V C0 C1 sp = some t) :
    f_X0_foundSet 58 σ = some (nI t.1, σ) ∧ f_X0_foundDear 58 σ = some (t.2.2, σ) ∧ f_X0_foundGives 58 σ = some (t.2.1, σ) := by
  have hl := (TL_len V C0 sp (V 6)).2
  have hp := p9 hV.1
  have e5 : Int32.ofNat 512 = nI 512 := rfl
  rcases h1 with ⟨q1, _⟩ | ⟨s, hs, hx, q1⟩
  · rw [ht] at q1
    cases q1
  · rw [ht] at q1
    have h3 := h2 s hs
    rw [← Option.some.inj q1] at h3
    have c1 : (nI s).toNatClampNeg = s := nI_clamp (by omega)
    have g1 : om_in (nI s) 512 = True := in_512 (by omega)
    refine ⟨?_, ?_, ?_⟩
    · unfold f_X0_foundSet
      simp only [kX, rf_58_0, kc_59, al_59, om_ref_s, if_true, hx, c1, g1, h3.1]
      rw [if_neg (nI_pos (by omega)), e5, if_neg (nI_ge (by omega) (by omega))]
    · unfold f_X0_foundDear
      simp only [kX, rf_58_2, kc_61, al_61, om_ref_s, if_true, hx, c1, g1, h3.2.2]
      rw [if_neg (nI_pos (by omega)), e5, if_neg (nI_ge (by omega) (by omega))]
    · unfold f_X0_foundGives
      simp only [kX, rf_58_1, kc_60, al_60, om_ref_s, if_true, hx, c1, g1, h3.2.1]
      rw [if_neg (nI_pos (by omega)), e5, if_neg (nI_ge (by omega) (by omega))]
def burnV (V : Nat → Nat) (m : Nat) : Nat → Nat → Nat
  | 0 => V
  | i + 1 => if m.testBit i = true then upV (burnV V m i) (8 + 5 * i + 3) (V (8 + 5 * i + 3) - 1) else burnV V m i
theorem burnV_o {V : Nat → Nat} {m k : Nat} : ∀ i, (∀ j, j < i → k ≠ 8 + 5 * j + 3) → burnV V m i k = V k := by
  intro i
  induction i with
  | zero =>
    intro _
    rfl
  | succ i ih =>
    intro h
    unfold burnV
    split
    · rw [upV_o (h i (by omega))]
      exact ih (fun j hj => h j (by omega))
    · exact ih (fun j hj => h j (by omega))
theorem and1_all : ∀ m, m < 512 → ∀ i, i < 9 → ((nI m &&& nI (2 ^ i)) = (0 : Int32) ↔ ¬ m.testBit i = true) := by decide +kernel
theorem bitv_all : ∀ m, m < 512 → ∀ i, i < 9 → (((nI m >>> (nI i &&& 31)) &&& 1) = nI (m.testBit i).toNat) := by decide +kernel
theorem x_burnLoop {b m : Nat} {V : Nat → Nat} {Z : Int32} {C0 C1 : List Int32} (hb : IsT b) (hV : WV V) (hm : m < 512) (hel : ∀ i, i < V 6 → m.testBit i = true → V (8 + 5 * i + 3) ≠ 0) :
    ∀ (n i F : Nat) (σ : om_S), i + n = V 6 → n < F → XT b (burnV V m i) Z C0 C1 σ →
    ∃ σ', f_X6_burn_b2 F b (nI m) (nI i) σ = some σ' ∧ XT b (burnV V m (V 6)) Z C0 C1 σ' ∧ ∀ q, (q < b + 10 ∨ b + 19 ≤ q) → σ' q = σ q := by
  have h6 := hV.1
  intro n
  induction n with
  | zero =>
    intro i F σ hi hF hX
    obtain ⟨F, rfl⟩ : ∃ G, F = G + 1 := ⟨F - 1, by omega⟩
    have hi' : i = V 6 := by omega
    subst hi'
    have hc := hX.1
    rw [burnV_o (V 6) (fun j _ => by omega)] at hc
    refine ⟨σ, ?_, hX, fun _ _ => rfl⟩
    unfold f_X6_burn_b2
    rw [hc, if_pos (nI_le (Nat.le_refl _) (by omega))]
  | succ n ih =>
    intro i F σ hi hF hX
    obtain ⟨F, rfl⟩ : ∃ G, F = G + 1 := ⟨F - 1, by omega⟩
    have hc := hX.1
    rw [burnV_o i (fun j _ => by omega)] at hc
    have h3 := hX.2.2.2.2.2.1 i 3 (by omega) (by omega)
    rw [burnV_o i (fun j hj => by omega)] at h3
    have hmm := tm hb (show i < 9 by omega)
    have e : burnV V m (i + 1) = if m.testBit i = true then upV (burnV V m i) (8 + 5 * i + 3) (V (8 + 5 * i + 3) - 1) else burnV V m i := rfl
    unfold f_X6_burn_b2
    rw [hc, if_neg (nI_ge (by omega) (by omega)), x_atI hb hc (by omega) h6]
    simp only [call_s, om_nul_s, hmm.2, if_true, let_s, h3, shl_all i (by omega)]
    unfold f_X6_burn_b38
    rw [nI_1]
    by_cases g : m.testBit i = true
    · rw [if_neg (fun w => (and1_all m hm i (by omega)).mp w g)]
      rw [if_pos g] at e
      have hne := hel i (by omega) g
      obtain ⟨v, hv⟩ : ∃ v, V (8 + 5 * i + 3) = v + 1 := ⟨V (8 + 5 * i + 3) - 1, by omega⟩
      rw [hv, nI_pred]
      have hX1 := hX.setM (i := i) (f := 3) (v := v) (by omega) (by omega)
      rw [hv, Nat.add_sub_cancel] at e
      rw [← e] at hX1
      obtain ⟨σ', q1, q2, q3⟩ := ih (i + 1) F _ (by omega) (by omega) hX1
      exact ⟨σ', q1, q2, fun q hq => by rw [q3 q hq, om_w_off (by omega)]⟩
    · rw [if_pos ((and1_all m hm i (by omega)).mpr g)]
      rw [if_neg g] at e
      rw [← e] at hX
      exact ih (i + 1) F σ (by omega) (by omega) hX
theorem x_burn {b m : Nat} {V : Nat → Nat} {Z : Int32} {C0 C1 : List Int32} {σ : om_S} (hb : IsT b) (hV : WV V) (hm : m < 512) (hel : ∀ i, i < V 6 → m.testBit i = true → V (8 + 5 * i + 3) ≠ 0) (hX : XT b V Z C0 C1 σ) :
    ∃ σ', f_X6_burn b (nI m) σ = some σ' ∧ XT b (burnV V m (V 6)) Z C0 C1 σ' ∧ ∀ q, (q < b + 10 ∨ b + 19 ≤ q) → σ' q = σ q := by
  have := hV.1
  unfold f_X6_burn
  rw [if_pos (tk hb)]
  exact x_burnLoop hb hV hm hel (V 6) 0 om_F σ (by omega) (by unfold om_F; omega) hX
def nightV (V : Nat → Nat) (o : Option Tri) : Nat → Nat := match o with
  | none => upV (upV V 2 (if V 2 + 1 < 9999 then V 2 + 1 else 9999)) 1 (V 1 + 1)
  | some t => upV (burnV V t.1 (V 6)) 1 (V 1 + 1)
theorem mem_pk {want : Int32} : ∀ (L : List Tri) (b : Option Tri) (t : Tri), pk want L b = some t → t ∈ L ∨ b = some t := by
  intro L
  induction L with
  | nil =>
    intro b t h
    exact Or.inr h
  | cons u L ih =>
    intro b t h
    unfold pk at h
    split at h
    · rcases ih _ _ h with q | q
      · exact Or.inl (List.mem_cons_of_mem _ q)
      · exact Or.inr q
    · split at h
      · rcases ih _ _ h with q | q
        · exact Or.inl (List.mem_cons_of_mem _ q)
        · rw [Option.some.inj q]
          exact Or.inl List.mem_cons_self
      · split at h
        · rcases ih _ _ h with q | q
          · exact Or.inl (List.mem_cons_of_mem _ q)
          · exact Or.inr q
        · rcases ih _ _ h with q | q
          · exact Or.inl (List.mem_cons_of_mem _ q)
          · rw [Option.some.inj q]
            exact Or.inl List.mem_cons_self
theorem pick_el {V : Nat → Nat} {C0 C1 : List Int32} {sp : Int32} {t : Tri} (hV : WV V) (h : pickV V C0 C1 sp = some t) : t.1 < 512 ∧ ∀ i, i < V 6 → t.1.testBit i = true → V (8 + 5 * i + 3) ≠ 0 := by
  have hp := p9 hV.1
  rcases mem_pk _ _ _ h with q | q
  · have hb := TL_bits V C0 sp (V 6) t q
    rw [TL_FL, List.mem_filter] at q
    refine ⟨by omega, fun i hi hg => ?_⟩
    have h1 := sB_iff.mp q.2 i hg
    rw [mk_tb _ _ _ hi] at h1
    unfold eB at h1
    exact (of_decide_eq_true h1).1
  · cases q
