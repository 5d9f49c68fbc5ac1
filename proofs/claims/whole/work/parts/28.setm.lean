/-! ===== the choice of a set: the model's side ===== -/
def eB (V : Nat → Nat) (sp : Int32) (i : Nat) : Bool := decide (V (8 + 5 * i + 3) ≠ 0 ∧ nI i ≠ sp)
def mk (e : Nat → Bool) : Nat → Nat
  | 0 => 0
  | n + 1 => if e n = true then mk e n + 2 ^ n else mk e n
theorem mk_lt (e : Nat → Bool) : ∀ n, mk e n < 2 ^ n := by
  intro n
  induction n with
  | zero => exact (by decide : 0 < 1)
  | succ n ih =>
    have h : 2 ^ (n + 1) = 2 ^ n * 2 := Nat.pow_succ _ _
    unfold mk
    split <;> omega
def sB (m s : Nat) : Bool := decide (s &&& m = s)
theorem sB_iff {m s : Nat} : sB m s = true ↔ ∀ j, s.testBit j = true → m.testBit j = true := by
  unfold sB
  rw [decide_eq_true_iff]
  constructor
  · intro h j hj
    rw [← h, Nat.testBit_and] at hj
    exact (Bool.and_eq_true_iff.mp hj).2
  · intro h
    apply Nat.eq_of_testBit_eq
    intro j
    rw [Nat.testBit_and]
    by_cases q : s.testBit j = true
    · rw [q, h j q]
      rfl
    · rw [Bool.eq_false_iff.mpr q]
      rfl
theorem tb_add {n x j : Nat} (h : x < 2 ^ n) : (x + 2 ^ n).testBit j = if j = n then true else x.testBit j := by
  rw [Nat.add_comm]
  by_cases e : j = n
  · subst e
    rw [if_pos rfl, Nat.testBit_two_pow_add_eq, Nat.testBit_lt_two_pow h]
    rfl
  · rw [if_neg e]
    by_cases g : j < n
    · rw [Nat.testBit_two_pow_add_gt g]
    · have hp : 2 ^ (n + 1) = 2 ^ n * 2 := Nat.pow_succ _ _
      have hq : 2 ^ (n + 1) ≤ 2 ^ j := Nat.pow_le_pow_right (by decide) (by omega)
      rw [Nat.testBit_lt_two_pow (show 2 ^ n + x < 2 ^ j by omega), Nat.testBit_lt_two_pow (show x < 2 ^ j by omega)]
theorem tb_top {n x : Nat} (h : x < 2 ^ n) : x.testBit n = false := Nat.testBit_lt_two_pow h
theorem sB_a {m s n : Nat} (hs : s < 2 ^ n) (hm : m < 2 ^ n) : sB (m + 2 ^ n) s = sB m s := by
  rw [Bool.eq_iff_iff, sB_iff, sB_iff]
  constructor
  · intro h j hj
    have := h j hj
    rw [tb_add hm] at this
    by_cases e : j = n
    · subst e
      rw [tb_top hs] at hj
      cases hj
    · rw [if_neg e] at this
      exact this
  · intro h j hj
    rw [tb_add hm]
    split
    · rfl
    · exact h j hj
theorem sB_b {m s n : Nat} (hs : s < 2 ^ n) (hm : m < 2 ^ n) : sB (m + 2 ^ n) (s + 2 ^ n) = sB m s := by
  rw [Bool.eq_iff_iff, sB_iff, sB_iff]
  constructor
  · intro h j hj
    have := h j (by rw [tb_add hs]; split; rfl; exact hj)
    rw [tb_add hm] at this
    by_cases e : j = n
    · subst e
      rw [tb_top hs] at hj
      cases hj
    · rw [if_neg e] at this
      exact this
  · intro h j hj
    rw [tb_add hs] at hj
    rw [tb_add hm]
    by_cases e : j = n
    · rw [if_pos e]
    · rw [if_neg e] at hj ⊢
      exact h j hj
theorem sB_c {m s n : Nat} (hs : s < 2 ^ n) (hm : m < 2 ^ n) : sB m (s + 2 ^ n) = false := by
  rw [Bool.eq_false_iff]
  intro h
  have := sB_iff.mp h n (by rw [tb_add hs, if_pos rfl])
  rw [tb_top hm] at this
  cases this
theorem mk_tb (e : Nat → Bool) : ∀ n j, j < n → (mk e n).testBit j = e j := by
  intro n
  induction n with
  | zero =>
    intro j hj
    omega
  | succ n ih =>
    intro j hj
    unfold mk
    by_cases g : e n = true
    · rw [if_pos g, tb_add (mk_lt e n)]
      by_cases q : j = n
      · rw [if_pos q, q, g]
      · rw [if_neg q]
        exact ih j (by omega)
    · rw [if_neg g]
      by_cases q : j = n
      · rw [q, tb_top (mk_lt e n), Bool.eq_false_iff.mpr g]
      · exact ih j (by omega)
def FL (V : Nat → Nat) (C0 : List Int32) (e : Nat → Bool) : Nat → List Tri
  | 0 => [(0, 0, 0)]
  | i + 1 => FL V C0 e i ++ (FL V C0 e i).map (tAdd (2 ^ i) (if e i = true then givesV V C0 i (V (8 + 5 * i + 2)) else 0) (nI (V (8 + 5 * i + 4))))
theorem FL_len (V : Nat → Nat) (C0 : List Int32) (e : Nat → Bool) : ∀ i, (FL V C0 e i).length = 2 ^ i := by
  intro i
  induction i with
  | zero => rfl
  | succ i ih =>
    unfold FL
    rw [List.length_append, List.length_map, ih, Nat.pow_succ]
    omega
theorem FL_ix (V : Nat → Nat) (C0 : List Int32) (e : Nat → Bool) : ∀ i s, s < 2 ^ i → ((FL V C0 e i).getD s (0, 0, 0)).1 = s := by
  intro i
  induction i with
  | zero =>
    intro s hs
    have : s = 0 := by
      have : s < 1 := hs
      omega
    subst this
    rfl
  | succ i ih =>
    intro s hs
    have hp : 2 ^ (i + 1) = 2 ^ i * 2 := Nat.pow_succ _ _
    have hl := FL_len V C0 e i
    unfold FL
    by_cases g : s < 2 ^ i
    · rw [getD_l (by omega)]
      exact ih s g
    · obtain ⟨r, rfl⟩ : ∃ r, s = (FL V C0 e i).length + r := ⟨s - 2 ^ i, by omega⟩
      rw [getD_r (by omega)]
      show _ + _ = _
      rw [ih r (by omega), hl]
      omega
theorem FL_bits (V : Nat → Nat) (C0 : List Int32) (e : Nat → Bool) : ∀ i, ∀ t ∈ FL V C0 e i, t.1 < 2 ^ i := by
  intro i t ht
  obtain ⟨s, hs, rfl⟩ := List.mem_iff_getElem.mp ht
  have hl := FL_len V C0 e i
  have h := FL_ix V C0 e i s (by omega)
  rw [List.getD_eq_getElem?_getD, List.getElem?_eq_getElem hs] at h
  have h' : ((FL V C0 e i)[s]).1 = s := h
  omega
theorem TL_FL (V : Nat → Nat) (C0 : List Int32) (sp : Int32) : ∀ n, TL V C0 sp n = (FL V C0 (eB V sp) n).filter (fun t => sB (mk (eB V sp) n) t.1) := by
  intro n
  induction n with
  | zero =>
    show _ = List.filter _ [((0 : Nat), (0 : Int32), (0 : Int32))]
    rw [List.filter_cons_of_pos (by show sB 0 0 = true; decide)]
    rfl
  | succ n ih =>
    have hm := mk_lt (eB V sp) n
    unfold TL FL mk
    rw [List.filter_append, List.filter_map]
    by_cases g : V (8 + 5 * n + 3) ≠ 0 ∧ nI n ≠ sp
    · have ge : eB V sp n = true := decide_eq_true g
      rw [if_pos g, if_pos ge, if_pos ge, ih]
      congr 1
      · exact List.filter_congr fun t ht => (sB_a (FL_bits V C0 _ n t ht) hm).symm
      · congr 1
        exact List.filter_congr fun t ht => (sB_b (FL_bits V C0 _ n t ht) hm).symm
    · have ge : eB V sp n = false := decide_eq_false g
      rw [if_neg g, ge, if_neg (by decide), if_neg (by decide), ih]
      have e : List.filter ((fun t : Tri => sB (mk (eB V sp) n) t.1) ∘ tAdd (2 ^ n) 0 (nI (V (8 + 5 * n + 4)))) (FL V C0 (eB V sp) n) = [] := by
        rw [List.filter_eq_nil_iff]
        intro t ht
        show ¬ sB (mk (eB V sp) n) (t.1 + 2 ^ n) = true
        rw [sB_c (FL_bits V C0 _ n t ht) hm]
        decide
      rw [e, List.map_nil, List.append_nil]
