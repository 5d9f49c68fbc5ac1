/-! ===== texts worked out ===== -/
def joinF (s x y : Int32) : Int32 :=
  if s = 37 then (if y = 0 then 0 else x - x / y * y) else if s = 38 then (if x = 0 then 0 else if y = 0 then 0 else 1) else if s = 42 then x * y else if s = 43 then x + y else if s = 45 then x - y else if s = 47 then (if y = 0 then 0 else x / y) else if s = 60 then (if y ≤ x then 0 else 1) else if s = 61 then (if x = y then 1 else 0) else if s = 62 then (if x ≤ y then 0 else 1) else if s = 124 then (if x = 0 then (if y = 0 then 0 else 1) else 1) else 0
def sgnOK (s : Int32) : Prop := s = 37 ∨ s = 38 ∨ s = 42 ∨ s = 43 ∨ s = 45 ∨ s = 47 ∨ s = 60 ∨ s = 61 ∨ s = 62 ∨ s = 124
def valF (a b c d : Int32) : Int32 := if d < 0 then (if d = -1 then a else if d = -2 then b else c) else d
def evS (a b c : Int32) : List Int32 → List Int32 → List Int32
  | [], st => st
  | d :: C, st => if d < -3 then (if d = -33 then (match st with | x :: r => evS a b c C ((if x = 0 then 1 else 0) :: r) | [] => evS a b c C []) else (match st with | y :: x :: r => evS a b c C (joinF (-d) x y :: r) | st => evS a b c C st)) else evS a b c C (valF a b c d :: st)
def HH : List Int32 → Nat → Prop
  | [], h => h = 1
  | d :: C, h => (¬ d < -3 ∧ HH C (h + 1)) ∨ (d = -33 ∧ 1 ≤ h ∧ HH C h) ∨ (sgnOK (-d) ∧ d < -3 ∧ d ≠ -33 ∧ 2 ≤ h ∧ HH C (h - 1))
def heldF (m x : Int32) : Int32 := if 0 ≤ x then (if x ≤ m then x else m) else 0
def evT (a b c : Int32) (C : List Int32) : Int32 := (evS a b c C []).headD 0
theorem div_m1 (x : Int32) : x / -1 = -x := by
  apply Int32.toInt_inj.mp
  rw [Int32.toInt_div, show (-1 : Int32).toInt = -1 from rfl, Int.tdiv_neg, Int.tdiv_one, Int32.toInt_neg]
theorem ite_s {α : Type} {c : Prop} [Decidable c] {a b : α} {σ : om_S} : (if c then some (a, σ) else some (b, σ)) = some (if c then a else b, σ) := by
  by_cases h : c <;> simp [h]
theorem ite_n {β : Type} {c : Prop} [Decidable c] {a b : Option β} : (if c then a else if ¬ c then b else none) = if c then a else b := by
  by_cases h : c <;> simp [h]
theorem evS_val {a b c d : Int32} {C st : List Int32} (h : ¬ d < -3) : evS a b c (d :: C) st = evS a b c C (valF a b c d :: st) := by
  show (if d < -3 then _ else _) = _
  rw [if_neg h]
theorem evS_not {a b c x : Int32} {C st : List Int32} : evS a b c (-33 :: C) (x :: st) = evS a b c C ((if x = 0 then 1 else 0) :: st) := by
  show (if (-33 : Int32) < -3 then (if (-33 : Int32) = -33 then _ else _) else _) = _
  rw [if_pos (by decide), if_pos rfl]
theorem evS_join {a b c d x y : Int32} {C st : List Int32} (h : d < -3) (h2 : d ≠ -33) : evS a b c (d :: C) (y :: x :: st) = evS a b c C (joinF (-d) x y :: st) := by
  show (if d < -3 then (if d = -33 then _ else _) else _) = _
  rw [if_pos h, if_neg h2]
theorem in_0 {n : Nat} (h : 0 < n) (hn : n < 2 ^ 31) : om_in 0 n := in_nI (j := 0) h hn
theorem nlt1 {n : Nat} (h : 1 ≤ n) (hn : n < 2 ^ 31) : ¬ nI n < 1 := nI_nlt (b := 1) h hn
theorem nlt2 {n : Nat} (h : 2 ≤ n) (hn : n < 2 ^ 31) : ¬ nI n < 2 := nI_nlt (b := 2) h hn
theorem x_joined {s x y : Int32} {σ : om_S} : f_X5_joined s x y σ = some (joinF s x y, σ) := by
  unfold f_X5_joined joinF
  simp only [ite_n, ite_s]
theorem m_joined {s x y : Int32} {σ : om_S} (h : sgnOK s) : f_X9_joined s x y σ = some (joinF s x y, σ) := by
  have hm : x - x / (-1) * (-1) = 0 := by
    rw [div_m1, Int32.neg_mul, Int32.mul_neg, Int32.mul_one, Int32.neg_neg, Int32.sub_self]
  rcases h with rfl | rfl | rfl | rfl | rfl | rfl | rfl | rfl | rfl | rfl <;> unfold f_X9_joined joinF <;> simp
  · by_cases h0 : y = 0
    · simp [h0]
    · by_cases h1 : y = -1
      · subst h1
        simp [h0, hm]
      · simp [h0, h1]
  all_goals (repeat' (first | rfl | split))
  all_goals simp_all [div_m1]
/-- a stack, top first, in the first places of an array -/
def Stk (k : Nat) (st : List Int32) (σ : om_S) : Prop := ∀ j, j < st.length → σ k j = st.getD (st.length - 1 - j) 0
theorem Stk.push {k : Nat} {st : List Int32} {σ : om_S} {x : Int32} (h : Stk k st σ) : Stk k (x :: st) (om_w σ k st.length x) := by
  intro j hj
  simp only [List.length_cons] at hj ⊢
  by_cases e : j = st.length
  · subst e
    rw [om_w_s, show st.length + 1 - 1 - st.length = 0 by omega]
    rfl
  · rw [om_w_j e, h j (by omega), show st.length + 1 - 1 - j = (st.length - 1 - j) + 1 by omega]
    rfl
theorem Stk.tl {k : Nat} {st : List Int32} {σ : om_S} {x : Int32} (h : Stk k (x :: st) σ) : Stk k st σ := by
  intro j hj
  have := h j (by simp only [List.length_cons]; omega)
  rw [this]
  simp only [List.length_cons]
  rw [show st.length + 1 - 1 - j = (st.length - 1 - j) + 1 by omega]
  rfl
theorem Stk.top {k : Nat} {st : List Int32} {σ : om_S} {x : Int32} (h : Stk k (x :: st) σ) : σ k st.length = x := by
  have := h st.length (by simp)
  rw [this]
  simp only [List.length_cons]
  rw [show st.length + 1 - 1 - st.length = 0 by omega]
  rfl
theorem Stk.congr {k : Nat} {st : List Int32} {σ σ' : om_S} (h : Stk k st σ) (e : σ' k = σ k) : Stk k st σ' := fun j hj => by rw [e]; exact h j hj
/-- a text of the class's: its own cell, its codes' row and their array, its stack -/
def IsTx (t r v k : Nat) : Prop := om_kc t = 5 ∧ om_rf t 1 = some r ∧ IsRow r v 60 ∧ om_rf t 2 = some k ∧ om_kc k = 20 ∧ om_al k = 60 ∧ k ≠ r ∧ k ≠ v ∧ k ≠ t
theorem x_held {t : Nat} {x : Int32} {σ : om_S} (h : om_kc t = 5) : f_X5_held t x σ = some (heldF (if σ t 0 = 0 then 99 else 199) x, σ) := by
  unfold f_X5_held f_X5_held_b15 heldF
  rw [if_pos h]
  repeat' (first | rfl | split)
  all_goals simp_all
theorem x_evLoop {t r v k : Nat} {a b c : Int32} (hT : IsTx t r v k) : ∀ (rest : List Int32) (L : List Int32) (i : Nat) (st : List Int32) (F : Nat) (σ : om_S),
    L.drop i = rest → i ≤ L.length → L.length ≤ 60 → HH rest st.length → st.length ≤ i → Stk k st σ → XRow r v L σ → rest.length < F →
    ∃ σ', f_X5_gives_b37 F t a b c (nI st.length) (nI i) σ = some (heldF (if σ t 0 = 0 then 99 else 199) ((evS a b c rest st).headD 0), σ') ∧ ∀ q, q ≠ k → σ' q = σ q := by
  obtain ⟨t1, t2, t3, t4, t5, t6, t7, t8, t9⟩ := hT
  have e60 : Int32.ofNat 60 = nI 60 := rfl
  intro rest
  induction rest with
  | nil =>
    intro L i st F σ hd hi hL hh hsi hst hr hF
    obtain ⟨F, rfl⟩ : ∃ G, F = G + 1 := ⟨F - 1, by omega⟩
    have hil : L.length ≤ i := by
      have := congrArg List.length hd
      simp at this
      omega
    unfold f_X5_gives_b37
    simp only [t2, om_ref_s, t3.1, if_true, x_size t3.1, call_s, hr.1, t4, t5, t6]
    have h1 : st.length = 1 := hh
    rw [if_pos (nI_le hil (by omega)), e60, if_neg (nI_nle (by omega) (by omega)), if_pos (in_0 (by omega) (by omega))]
    unfold f_X5_gives_b249
    rw [x_held t1]
    simp only [call_s]
    refine ⟨σ, ?_, fun _ _ => rfl⟩
    have h0 := hst 0 (by omega)
    rw [show (0 : Int32).toNatClampNeg = 0 from rfl, h0, h1]
    match st, h1 with
    | [x], _ => rfl
  | cons d rest ih =>
    intro L i st F σ hd hi hL hh hsi hst hr hF
    obtain ⟨F, rfl⟩ : ∃ G, F = G + 1 := ⟨F - 1, by omega⟩
    have hil : i < L.length := by
      have := congrArg List.length hd
      simp at this
      omega
    have hdi : L.getD i 0 = d := by
      have h2 : L[i]? = some d := by
        have := congrArg (fun l : List Int32 => l[0]?) hd
        simpa using this
      rw [List.getD_eq_getElem?_getD, h2]
      rfl
    have hd' : L.drop (i + 1) = rest := by
      rw [← List.drop_drop, hd]
      rfl
    have hx := x_at t3 hr hL hil
    rw [hdi] at hx
    simp only [List.length_cons] at hF
    unfold f_X5_gives_b37
    simp only [t2, om_ref_s, t3.1, if_true, x_size t3.1, call_s, hr.1, t4, t5, t6]
    rw [if_neg (nI_ge hil (by omega)), hx]
    simp only [call_s]
    rcases hh with ⟨h3, hh⟩ | ⟨h3, h4, hh⟩ | ⟨h3, h4, h5, h6, hh⟩
    · rw [if_neg h3, e60, if_neg (nI_ge (by omega) (by omega))]
      have hgo : ∀ y : Int32, y = valF a b c d → ∃ σ', f_X5_gives_b115 (f_X5_gives_b37 F) t a b c (nI st.length) (nI i) k (nI st.length) y σ = some (heldF (if σ t 0 = 0 then 99 else 199) ((evS a b c (d :: rest) st).headD 0), σ') ∧ ∀ q, q ≠ k → σ' q = σ q := by
        intro y hy
        subst hy
        unfold f_X5_gives_b115 f_X5_gives_b224
        rw [t6, if_pos (in_nI (by omega) (by omega)), nI_clamp (by omega)]
        simp only [let_s, nI_1]
        obtain ⟨σ', q1, q2⟩ := ih L (i + 1) (valF a b c d :: st) F (om_w σ k st.length (valF a b c d)) hd' (by omega) hL hh (by simp only [List.length_cons]; omega) hst.push (hr.congr (om_w_off (Ne.symm t7)) (om_w_off (Ne.symm t8))) (by omega)
        rw [om_w_k (Ne.symm t9)] at q1
        refine ⟨σ', ?_, fun q hq => by rw [q2 q hq, om_w_off hq]⟩
        rw [show nI (st.length + 1) = nI (valF a b c d :: st).length from rfl, q1]
        rw [evS_val h3]
      have hv : valF a b c d = if d < 0 then (if d = -1 then a else if d = -2 then b else c) else d := rfl
      by_cases g1 : d < 0
      · rw [if_pos g1]
        rw [if_pos g1] at hv
        by_cases g2 : d = -1
        · rw [if_pos g2]
          rw [if_pos g2] at hv
          exact hgo a hv.symm
        · rw [if_neg g2]
          rw [if_neg g2] at hv
          by_cases g3 : d = -2
          · rw [if_pos g3]
            rw [if_pos g3] at hv
            exact hgo b hv.symm
          · rw [if_neg g3]
            rw [if_neg g3] at hv
            exact hgo c hv.symm
      · rw [if_neg g1]
        rw [if_neg g1] at hv
        exact hgo d hv.symm
    · subst h3
      match st, h4 with
      | x :: st, _ =>
        rw [if_pos (by decide)]
        unfold f_X5_gives_b122
        rw [if_pos rfl]
        simp only [List.length_cons] at hsi ⊢
        have hm1 : nI (st.length + 1) - 1 = nI st.length := nI_pred _
        simp only [t4, om_ref_s, t5, if_true, t6, hm1]
        rw [if_neg (nlt1 (by omega) (by omega)), e60, if_neg (nI_nlt (by omega) (by omega)), if_pos (in_nI (by omega) (by omega)), nI_clamp (by omega), hst.top]
        have hgo : ∀ y : Int32, y = (if x = 0 then 1 else 0) → ∃ σ', f_X5_gives_b170 (f_X5_gives_b37 F) t a b c (nI (st.length + 1)) (nI i) k (nI st.length) y σ = some (heldF (if σ t 0 = 0 then 99 else 199) ((evS a b c (-33 :: rest) (x :: st)).headD 0), σ') ∧ ∀ q, q ≠ k → σ' q = σ q := by
          intro y hy
          unfold f_X5_gives_b170 f_X5_gives_b224
          rw [t6, if_pos (in_nI (by omega) (by omega)), nI_clamp (by omega)]
          simp only [let_s, nI_1]
          obtain ⟨σ', q1, q2⟩ := ih L (i + 1) (y :: st) F (om_w σ k st.length y) hd' (by omega) hL hh (by simp only [List.length_cons]; omega) hst.tl.push (hr.congr (om_w_off (Ne.symm t7)) (om_w_off (Ne.symm t8))) (by omega)
          rw [om_w_k (Ne.symm t9)] at q1
          refine ⟨σ', ?_, fun q hq => by rw [q2 q hq, om_w_off hq]⟩
          rw [show nI (st.length + 1) = nI (y :: st).length from rfl, q1]
          rw [evS_not, hy]
        by_cases g : x = 0
        · rw [if_pos g]
          exact hgo 1 (by rw [if_pos g])
        · rw [if_neg g]
          exact hgo 0 (by rw [if_neg g])
    · match st, h6 with
      | y :: x :: st, _ =>
        rw [if_pos h4]
        unfold f_X5_gives_b122
        rw [if_neg h5]
        unfold f_X5_gives_b174
        simp only [List.length_cons] at hsi hh ⊢
        have hm1 : nI (st.length + 1 + 1) + -1 = nI (st.length + 1) := pk_m1 _
        have hm2 : nI (st.length + 1) - 1 = nI st.length := nI_pred _
        simp only [t4, om_ref_s, t5, if_true, t6, hm1, hm2]
        rw [if_neg (nlt2 (by omega) (by omega)), e60, if_neg (nI_nlt (by omega) (by omega)), if_pos (in_nI (by omega) (by omega)), if_pos (in_nI (by omega) (by omega))]
        have c1 : (nI st.length).toNatClampNeg = st.length := nI_clamp (by omega)
        have c2 : (nI (st.length + 1)).toNatClampNeg = st.length + 1 := nI_clamp (by omega)
        simp only [c1, c2, x_joined, call_s]
        rw [if_pos (in_nI (by omega) (by omega))]
        have htop : σ k (st.length + 1) = y := hst.top
        have htop2 : σ k st.length = x := hst.tl.top
        rw [htop, htop2]
        simp only [let_s]
        unfold f_X5_gives_b224
        rw [nI_1]
        obtain ⟨σ', q1, q2⟩ := ih L (i + 1) (joinF (-d) x y :: st) F (om_w σ k st.length (joinF (-d) x y)) hd' (by omega) hL hh (by simp only [List.length_cons]; omega) hst.tl.tl.push (hr.congr (om_w_off (Ne.symm t7)) (om_w_off (Ne.symm t8))) (by omega)
        rw [om_w_k (Ne.symm t9)] at q1
        refine ⟨σ', ?_, fun q hq => by rw [q2 q hq, om_w_off hq]⟩
        rw [show nI (st.length + 1) = nI (joinF (-d) x y :: st).length from rfl, q1]
        rw [evS_join h4 h5]
