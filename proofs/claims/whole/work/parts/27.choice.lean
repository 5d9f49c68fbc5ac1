/-! ===== the choice of a set: the class's side ===== -/
abbrev Tri : Type := Nat × Int32 × Int32
def tAdd (bt : Nat) (g d : Int32) (t : Tri) : Tri := (t.1 + bt, t.2.1 + g, t.2.2 + d)
def elB (V : Nat → Nat) (sp : Int32) (i : Nat) : Prop := V (8 + 5 * i + 3) ≠ 0 ∧ nI i ≠ sp
def TL (V : Nat → Nat) (C0 : List Int32) (sp : Int32) : Nat → List Tri
  | 0 => [(0, 0, 0)]
  | i + 1 => if V (8 + 5 * i + 3) ≠ 0 ∧ nI i ≠ sp then TL V C0 sp i ++ (TL V C0 sp i).map (tAdd (2 ^ i) (givesV V C0 i (V (8 + 5 * i + 2))) (nI (V (8 + 5 * i + 4)))) else TL V C0 sp i
def pk (want : Int32) : List Tri → Option Tri → Option Tri
  | [], b => b
  | t :: r, b => if t.2.1 < want then pk want r b else match b with
    | none => pk want r (some t)
    | some u => if u.2.2 ≤ t.2.2 then pk want r (some u) else pk want r (some t)
def Arr3 (W : List Tri) (m : Nat) (σ : om_S) : Prop := ∀ j, j < m → σ 59 j = nI (W.getD j (0, 0, 0)).1 ∧ σ 60 j = (W.getD j (0, 0, 0)).2.1 ∧ σ 61 j = (W.getD j (0, 0, 0)).2.2
theorem Arr3.congr {W : List Tri} {m : Nat} {σ σ' : om_S} (h : Arr3 W m σ) (e1 : σ' 59 = σ 59) (e2 : σ' 60 = σ 60) (e3 : σ' 61 = σ 61) : Arr3 W m σ' := fun j hj => by
  rw [e1, e2, e3]
  exact h j hj
theorem getD_l {L M : List Tri} {j : Nat} (h : j < L.length) : (L ++ M).getD j (0, 0, 0) = L.getD j (0, 0, 0) := by
  simp [List.getD_eq_getElem?_getD, List.getElem?_append_left h]
theorem getD_r {L : List Tri} {f : Tri → Tri} {j : Nat} (h : j < L.length) : (L ++ L.map f).getD (L.length + j) (0, 0, 0) = f (L.getD j (0, 0, 0)) := by
  simp [List.getD_eq_getElem?_getD, List.getElem?_append_right, h]
theorem in_512 {j : Nat} (h : j < 512) : om_in (nI j) 512 = True := eq_true (in_nI h (by omega))
theorem x_joinLoop {L : List Tri} {bt : Nat} {g d : Int32} (hL : L.length * 2 ≤ 512) (hor : ∀ j, j < L.length → nI (L.getD j (0, 0, 0)).1 ||| nI bt = nI ((L.getD j (0, 0, 0)).1 + bt)) :
    ∀ (n s F : Nat) (σ : om_S), s + n = L.length → n < F → σ 58 3 = nI L.length → Arr3 (L ++ L.map (tAdd bt g d)) (L.length + s) σ →
    ∃ σ', f_X0_joinToEach_b18 F 58 (nI bt) g d (nI s) σ = some σ' ∧ σ' 58 3 = nI (L.length * 2) ∧ Arr3 (L ++ L.map (tAdd bt g d)) (L.length * 2) σ' ∧ ∀ q, q ≠ 58 → q ≠ 59 → q ≠ 60 → q ≠ 61 → σ' q = σ q := by
  intro n
  induction n with
  | zero =>
    intro s F σ hs hF h3 hA
    obtain ⟨F, rfl⟩ : ∃ G, F = G + 1 := ⟨F - 1, by omega⟩
    unfold f_X0_joinToEach_b18
    rw [h3, if_pos (nI_le (by omega) (by omega))]
    simp only [let_s]
    rw [show (2 : Int32) = nI 2 from rfl, pk_mul]
    refine ⟨_, rfl, om_w_s, ?_, fun q h1 _ _ _ => om_w_off h1⟩
    rw [show L.length * 2 = L.length + s by omega]
    exact hA.congr (om_w_off (by decide)) (om_w_off (by decide)) (om_w_off (by decide))
  | succ n ih =>
    intro s F σ hs hF h3 hA
    obtain ⟨F, rfl⟩ : ∃ G, F = G + 1 := ⟨F - 1, by omega⟩
    have c1 : (nI s).toNatClampNeg = s := nI_clamp (by omega)
    have c2 : (nI (L.length + s)).toNatClampNeg = L.length + s := nI_clamp (by omega)
    have g1 : om_in (nI s) 512 = True := in_512 (by omega)
    have g2 : om_in (nI (L.length + s)) 512 = True := in_512 (by omega)
    have hs0 := hA s (by omega)
    rw [getD_l (by omega)] at hs0
    unfold f_X0_joinToEach_b18
    rw [h3, if_neg (nI_ge (by omega) (by omega))]
    simp only [rf_58_0, rf_58_1, rf_58_2, kc_59, kc_60, kc_61, al_59, al_60, al_61, om_ref_s, if_true, let_s, nI_add, c1, c2, g1, g2, om_w_k (show (58 : Nat) ≠ 59 by decide), om_w_k (show (58 : Nat) ≠ 60 by decide), h3, om_w_k (show (60 : Nat) ≠ 59 by decide), om_w_k (show (61 : Nat) ≠ 60 by decide), om_w_k (show (61 : Nat) ≠ 59 by decide), hs0.1, hs0.2.1, hs0.2.2, hor s (by omega), nI_1]
    obtain ⟨σ', q1, q2, q3, q4⟩ := ih (s + 1) F (om_w (om_w (om_w σ 59 (L.length + s) (nI ((L.getD s (0, 0, 0)).1 + bt))) 60 (L.length + s) ((L.getD s (0, 0, 0)).2.1 + g)) 61 (L.length + s) ((L.getD s (0, 0, 0)).2.2 + d)) (by omega) (by omega) (by rw [om_w_k (by decide), om_w_k (by decide), om_w_k (by decide)]; exact h3) (by
      intro j hj
      rw [om_w_k (by decide), om_w_k (by decide), om_w_k (show (60 : Nat) ≠ 61 by decide)]
      by_cases e : j = L.length + s
      · subst e
        rw [getD_r (by omega), om_w_s, om_w_s, om_w_s]
        exact ⟨rfl, rfl, rfl⟩
      · rw [om_w_j e, om_w_j e, om_w_j e, om_w_k (by decide), om_w_k (by decide), om_w_k (by decide)]
        exact hA j (by omega))
    exact ⟨σ', q1, q2, q3, fun q h1 h2 h3 h4 => by rw [q4 q h1 h2 h3 h4, om_w_off h4, om_w_off h3, om_w_off h2]⟩
theorem x_join {L : List Tri} {bt : Nat} {g d : Int32} {σ : om_S} (hL : L.length * 2 ≤ 512) (hor : ∀ j, j < L.length → nI (L.getD j (0, 0, 0)).1 ||| nI bt = nI ((L.getD j (0, 0, 0)).1 + bt)) (h3 : σ 58 3 = nI L.length) (hA : Arr3 L L.length σ) :
    ∃ σ', f_X0_joinToEach 58 (nI bt) g d σ = some σ' ∧ σ' 58 3 = nI (L ++ L.map (tAdd bt g d)).length ∧ Arr3 (L ++ L.map (tAdd bt g d)) (L ++ L.map (tAdd bt g d)).length σ' ∧ ∀ q, q ≠ 58 → q ≠ 59 → q ≠ 60 → q ≠ 61 → σ' q = σ q := by
  have e : (L ++ L.map (tAdd bt g d)).length = L.length * 2 := by
    rw [List.length_append, List.length_map]
    omega
  have e5 : Int32.ofNat 512 = nI 512 := rfl
  obtain ⟨σ', q1, q2, q3, q4⟩ := x_joinLoop hL hor L.length 0 om_F σ (by omega) (by unfold om_F; omega) h3 (fun j hj => by rw [getD_l (by omega)]; exact hA j (by omega))
  refine ⟨σ', ?_, by rw [e]; exact q2, by rw [e]; exact q3, q4⟩
  unfold f_X0_joinToEach
  simp only [kX, rf_58_0, kc_59, al_59, om_ref_s, if_true, h3]
  rw [show (2 : Int32) = nI 2 from rfl, pk_mul, e5, if_pos (nI_le hL (by omega))]
  exact q1
def BestIs (L : List Tri) (b : Option Tri) (x : Int32) : Prop := (b = none ∧ x = -1) ∨ ∃ s, s < L.length ∧ x = nI s ∧ b = some (L.getD s (0, 0, 0))
theorem nI_nm1 {s : Nat} (h : s < 2 ^ 31) : ¬ nI s = -1 := by
  intro q
  have := nI_pos h
  rw [q] at this
  exact this (by decide)
theorem x_takeLoop {L : List Tri} {want : Int32} (hL : L.length ≤ 512) : ∀ (rest : List Tri) (s F : Nat) (b : Option Tri) (least : Int32) (σ : om_S), L.drop s = rest → s ≤ L.length → rest.length < F → σ 58 3 = nI L.length → Arr3 L L.length σ → BestIs L b (σ 58 4) → (∀ u, b = some u → least = u.2.2) →
    ∃ σ', f_X0_takeLeastDear_b9 F 58 want least (nI s) σ = some σ' ∧ BestIs L (pk want rest b) (σ' 58 4) ∧ σ' 58 3 = nI L.length ∧ ∀ q, q ≠ 58 → σ' q = σ q := by
  have e5 : Int32.ofNat 512 = nI 512 := rfl
  intro rest
  induction rest with
  | nil =>
    intro s F b least σ hd hs hF h3 hA hB hl
    obtain ⟨F, rfl⟩ : ∃ G, F = G + 1 := ⟨F - 1, by omega⟩
    have hil : L.length ≤ s := by
      have := congrArg List.length hd
      simp at this
      omega
    unfold f_X0_takeLeastDear_b9
    rw [h3, if_pos (nI_le hil (by omega))]
    exact ⟨σ, rfl, hB, h3, fun _ _ => rfl⟩
  | cons t rest ih =>
    intro s F b least σ hd hs hF h3 hA hB hl
    obtain ⟨F, rfl⟩ : ∃ G, F = G + 1 := ⟨F - 1, by omega⟩
    have hil : s < L.length := by
      have := congrArg List.length hd
      simp at this
      omega
    have hdi : L.getD s (0, 0, 0) = t := by
      have h2 : L[s]? = some t := by
        have := congrArg (fun l : List Tri => l[0]?) hd
        simpa using this
      rw [List.getD_eq_getElem?_getD, h2]
      rfl
    have hd' : L.drop (s + 1) = rest := by
      rw [← List.drop_drop, hd]
      rfl
    have hx := hA s hil
    rw [hdi] at hx
    simp only [List.length_cons] at hF
    have c1 : (nI s).toNatClampNeg = s := nI_clamp (by omega)
    have g1 : om_in (nI s) 512 = True := in_512 (by omega)
    have hskip : ∀ b' : Option Tri, b' = b → ∃ σ', f_X0_takeLeastDear_b66 (f_X0_takeLeastDear_b9 F) 58 want least (nI s) σ = some σ' ∧ BestIs L (pk want rest b') (σ' 58 4) ∧ σ' 58 3 = nI L.length ∧ ∀ q, q ≠ 58 → σ' q = σ q := by
      intro b' hb'
      subst hb'
      unfold f_X0_takeLeastDear_b66
      rw [nI_1]
      exact ih (s + 1) F b' least σ hd' (by omega) (by omega) h3 hA hB hl
    have htake : ∃ σ', f_X0_takeLeastDear_b54 (f_X0_takeLeastDear_b9 F) 58 want (nI s) σ = some σ' ∧ BestIs L (pk want rest (some t)) (σ' 58 4) ∧ σ' 58 3 = nI L.length ∧ ∀ q, q ≠ 58 → σ' q = σ q := by
      unfold f_X0_takeLeastDear_b54 f_X0_takeLeastDear_b66
      simp only [let_s, rf_58_2, kc_61, al_61, om_ref_s, if_true, g1, c1, nI_1, om_w_k (show (61 : Nat) ≠ 58 by decide), hx.2.2]
      obtain ⟨σ', q1, q2, q3, q4⟩ := ih (s + 1) F (some t) t.2.2 (om_w σ 58 4 (nI s)) hd' (by omega) (by omega) (by rw [om_w_j (by decide)]; exact h3) (hA.congr (om_w_off (by decide)) (om_w_off (by decide)) (om_w_off (by decide))) (Or.inr ⟨s, hil, om_w_s, by rw [hdi]⟩) (fun u hu => by cases hu; rfl)
      exact ⟨σ', q1, q2, q3, fun q hq => by rw [q4 q hq, om_w_off hq]⟩
    unfold f_X0_takeLeastDear_b9
    rw [h3, if_neg (nI_ge hil (by omega))]
    simp only [rf_58_0, rf_58_1, rf_58_2, kc_59, kc_60, kc_61, al_59, al_60, al_61, om_ref_s, if_true, c1, g1, hx.2.1, hx.2.2]
    rw [e5, if_neg (nI_ge (by omega) (by omega))]
    by_cases g : t.2.1 < want
    · rw [if_pos g]
      have e : pk want (t :: rest) b = pk want rest b := if_pos g
      rw [e]
      exact hskip b rfl
    · rw [if_neg g]
      rcases hB with ⟨hb, hx4⟩ | ⟨s', hs', hx4, hb⟩
      · subst hb
        rw [hx4, if_pos rfl]
        have e : pk want (t :: rest) none = pk want rest (some t) := if_neg g
        rw [e]
        exact htake
      · have hle := hl _ hb
        subst hb
        rw [hx4, if_neg (nI_nm1 (by omega)), hle]
        have e : pk want (t :: rest) (some (L.getD s' (0, 0, 0))) = if (L.getD s' (0, 0, 0)).2.2 ≤ t.2.2 then pk want rest (some (L.getD s' (0, 0, 0))) else pk want rest (some t) := if_neg g
        rw [e]
        by_cases g2 : (L.getD s' (0, 0, 0)).2.2 ≤ t.2.2
        · rw [if_pos g2, if_pos g2, ← hle]
          exact hskip _ rfl
        · rw [if_neg g2, if_neg g2]
          exact htake
theorem x_take {L : List Tri} {want : Int32} {σ : om_S} (hL : L.length ≤ 512) (h3 : σ 58 3 = nI L.length) (hA : Arr3 L L.length σ) :
    ∃ σ', f_X0_takeLeastDear 58 want σ = some σ' ∧ BestIs L (pk want L none) (σ' 58 4) ∧ σ' 58 3 = nI L.length ∧ ∀ q, q ≠ 58 → σ' q = σ q := by
  obtain ⟨σ', q1, q2, q3, q4⟩ := x_takeLoop (want := want) hL L 0 om_F none 0 (om_w σ 58 4 (-1)) rfl (Nat.zero_le _) (by unfold om_F; omega) (by rw [om_w_j (by decide)]; exact h3) (hA.congr (om_w_off (by decide)) (om_w_off (by decide)) (om_w_off (by decide))) (Or.inl ⟨rfl, om_w_s⟩) (fun u hu => by cases hu)
  refine ⟨σ', ?_, q2, q3, fun q hq => by rw [q4 q hq, om_w_off hq]⟩
  unfold f_X0_takeLeastDear
  simp only [kX, if_true, let_s]
  exact q1
theorem TL_len (V : Nat → Nat) (C0 : List Int32) (sp : Int32) : ∀ i, 1 ≤ (TL V C0 sp i).length ∧ (TL V C0 sp i).length ≤ 2 ^ i := by
  intro i
  induction i with
  | zero => exact ⟨Nat.le_refl _, Nat.le_refl _⟩
  | succ i ih =>
    have e : 2 ^ (i + 1) = 2 ^ i * 2 := Nat.pow_succ _ _
    unfold TL
    split
    · rw [List.length_append, List.length_map]
      omega
    · omega
theorem TL_bits (V : Nat → Nat) (C0 : List Int32) (sp : Int32) : ∀ i, ∀ t ∈ TL V C0 sp i, t.1 < 2 ^ i := by
  intro i
  induction i with
  | zero =>
    intro t ht
    rw [List.mem_singleton.mp ht]
    exact (by decide : 0 < 1)
  | succ i ih =>
    have e : 2 ^ (i + 1) = 2 ^ i * 2 := Nat.pow_succ _ _
    intro t ht
    unfold TL at ht
    split at ht
    · rcases List.mem_append.mp ht with h | h
      · have := ih t h
        omega
      · obtain ⟨u, hu, rfl⟩ := List.mem_map.mp h
        have := ih u hu
        show u.1 + 2 ^ i < _
        omega
    · have := ih t ht
      omega
theorem orp_all : ∀ i, i < 9 → ∀ x, x < 2 ^ i → nI x ||| nI (2 ^ i) = nI (x + 2 ^ i) := by decide +kernel
theorem shl_all : ∀ i, i < 10 → (1 : Int32) <<< (nI i &&& 31) = nI (2 ^ i) := by decide +kernel
theorem getD_mem {L : List Tri} {j : Nat} (h : j < L.length) : L.getD j (0, 0, 0) ∈ L := by
  rw [List.getD_eq_getElem?_getD, List.getElem?_eq_getElem h]
  exact List.getElem_mem h
def scrX (b q : Nat) : Prop := q = 58 ∨ q = 59 ∨ q = 60 ∨ q = 61 ∨ q = b + 5 ∨ q = b + 9
theorem x_findLoop {b : Nat} {V : Nat → Nat} {Z : Int32} {C0 C1 : List Int32} {sp : Int32} (hb : IsT b) (hV : WV V) (hC0 : WC C0) (hC1 : WC C1) :
    ∀ (n i F : Nat) (σ : om_S), i + n = V 6 → n < F → XT b V Z C0 C1 σ → σ 58 3 = nI (TL V C0 sp i).length → Arr3 (TL V C0 sp i) (TL V C0 sp i).length σ →
    ∃ σ', f_X0_find_b7 F 58 b sp (nI i) σ = some (bI ((pk (wantedV V C1) (TL V C0 sp (V 6)) none).isSome = true), σ') ∧ BestIs (TL V C0 sp (V 6)) (pk (wantedV V C1) (TL V C0 sp (V 6)) none) (σ' 58 4) ∧ Arr3 (TL V C0 sp (V 6)) (TL V C0 sp (V 6)).length σ' ∧ ∀ q, ¬ scrX b q → σ' q = σ q := by
  intro n
  induction n with
  | zero =>
    intro i F σ hi hF hX h3 hA
    obtain ⟨F, rfl⟩ : ∃ G, F = G + 1 := ⟨F - 1, by omega⟩
    have hi' : i = V 6 := by omega
    subst hi'
    have h6 := hV.1
    have hb9 : b + 9 < 58 := by rcases hb with rfl | rfl | rfl <;> decide
    obtain ⟨σ1, q1, q2⟩ := x_wanted hb hV hC1 hX
    have hl := (TL_len V C0 sp (V 6)).2
    have hp : 2 ^ (V 6) ≤ 2 ^ 9 := Nat.pow_le_pow_right (by decide) h6
    obtain ⟨σ2, r1, r2, r3, r4⟩ := x_take (want := wantedV V C1) (σ := σ1) (L := TL V C0 sp (V 6)) (by omega) (by rw [q2 58 (by omega)]; exact h3) (hA.congr (q2 _ (by omega)) (q2 _ (by omega)) (q2 _ (by omega)))
    refine ⟨σ2, ?_, r2, hA.congr (by rw [r4 _ (by decide), q2 _ (by omega)]) (by rw [r4 _ (by decide), q2 _ (by omega)]) (by rw [r4 _ (by decide), q2 _ (by omega)]), fun q hq => ?_⟩
    · unfold f_X0_find_b7
      rw [hX.1, if_pos (nI_le (Nat.le_refl _) (by omega)), q1]
      simp only [call_s, r1, do_s]
      rcases r2 with ⟨e1, e2⟩ | ⟨s', hs', e2, e1⟩
      · rw [e1, e2, if_pos rfl, bI_f (by decide)]
      · rw [e1, e2, if_neg (nI_nm1 (by omega))]
        simp [bI]
    · rw [r4 q (fun e => hq (Or.inl e)), q2 q (fun e => hq (Or.inr (Or.inr (Or.inr (Or.inr (Or.inr e))))))]
  | succ n ih =>
    intro i F σ hi hF hX h3 hA
    obtain ⟨F, rfl⟩ : ∃ G, F = G + 1 := ⟨F - 1, by omega⟩
    have h6 := hV.1
    have hb9 : b + 9 < 58 := by rcases hb with rfl | rfl | rfl <;> decide
    have hw := hV.2.2.2.2 i (by omega)
    have hm := tm hb (show i < 9 by omega)
    have e3 := hX.2.2.2.2.2.1 i 3 (by omega) (by omega)
    unfold f_X0_find_b7
    rw [hX.1, if_neg (nI_ge (by omega) (by omega)), x_atI hb hX.1 (by omega) h6]
    simp only [call_s, om_nul_s, hm.2, if_true, e3]
    have hT : TL V C0 sp (i + 1) = if V (8 + 5 * i + 3) ≠ 0 ∧ nI i ≠ sp then TL V C0 sp i ++ (TL V C0 sp i).map (tAdd (2 ^ i) (givesV V C0 i (V (8 + 5 * i + 2))) (nI (V (8 + 5 * i + 4)))) else TL V C0 sp i := rfl
    have hskip : TL V C0 sp (i + 1) = TL V C0 sp i → ∃ σ', f_X0_find_b58 (f_X0_find_b7 F) 58 b sp (nI i) σ = some (bI ((pk (wantedV V C1) (TL V C0 sp (V 6)) none).isSome = true), σ') ∧ BestIs (TL V C0 sp (V 6)) (pk (wantedV V C1) (TL V C0 sp (V 6)) none) (σ' 58 4) ∧ Arr3 (TL V C0 sp (V 6)) (TL V C0 sp (V 6)).length σ' ∧ ∀ q, ¬ scrX b q → σ' q = σ q := by
      intro e
      unfold f_X0_find_b58
      rw [nI_1]
      exact ih (i + 1) F σ (by omega) (by omega) hX (by rw [e]; exact h3) (by rw [e]; exact hA)
    by_cases g1 : V (8 + 5 * i + 3) = 0
    · rw [g1, if_pos (by decide)]
      rw [if_neg (fun q => q.1 g1)] at hT
      exact hskip hT
    · rw [if_neg (nI_nle (by omega) (by omega))]
      by_cases g2 : nI i = sp
      · rw [if_pos g2]
        rw [if_neg (fun q => q.2 g2)] at hT
        exact hskip hT
      · rw [if_neg g2]
        rw [if_pos ⟨g1, g2⟩] at hT
        obtain ⟨σ1, q1, q2⟩ := x_givesM hb hV hC0 hX (show i < 9 by omega)
        have hX1 : XT b V Z C0 C1 σ1 := hX.congr fun k _ _ h5 _ => q2 k h5
        rw [q1]
        simp only [call_s, shl_all i (by omega), hX1.2.2.2.2.2.1 i 4 (by omega) (by omega)]
        have hl := (TL_len V C0 sp i).2
        have hp : 2 ^ i ≤ 2 ^ 8 := Nat.pow_le_pow_right (by decide) (by omega)
        obtain ⟨σ2, r1, r2, r3, r4⟩ := x_join (g := givesV V C0 i (V (8 + 5 * i + 2))) (d := nI (V (8 + 5 * i + 4))) (σ := σ1) (L := TL V C0 sp i) (bt := 2 ^ i) (by omega) (fun j hj => orp_all i (by omega) _ (TL_bits V C0 sp i _ (getD_mem hj))) (by rw [q2 58 (by omega)]; exact h3) (hA.congr (q2 _ (by omega)) (q2 _ (by omega)) (q2 _ (by omega)))
        rw [r1]
        simp only [do_s]
        unfold f_X0_find_b58
        rw [nI_1]
        obtain ⟨σ', s1, s2, s3, s4⟩ := ih (i + 1) F σ2 (by omega) (by omega) (hX1.congr fun k h1 h2 h5 h9 => by
          have hk : k < 58 := by rcases hb with rfl | rfl | rfl <;> omega
          exact r4 k (by omega) (by omega) (by omega) (by omega)) (by rw [hT]; exact r2) (by rw [hT]; exact r3)
        refine ⟨σ', s1, s2, s3, fun q hq => ?_⟩
        rw [s4 q hq, r4 q (fun e => hq (Or.inl e)) (fun e => hq (Or.inr (Or.inl e))) (fun e => hq (Or.inr (Or.inr (Or.inl e)))) (fun e => hq (Or.inr (Or.inr (Or.inr (Or.inl e))))), q2 q (fun e => hq (Or.inr (Or.inr (Or.inr (Or.inr (Or.inl e))))))]
def Zero3 (σ : om_S) : Prop := σ 59 0 = 0 ∧ σ 60 0 = 0 ∧ σ 61 0 = 0
def pickV (V : Nat → Nat) (C0 C1 : List Int32) (sp : Int32) : Option Tri := pk (wantedV V C1) (TL V C0 sp (V 6)) none
theorem TL_0 (V : Nat → Nat) (C0 : List Int32) (sp : Int32) : ∀ i, (TL V C0 sp i).getD 0 (0, 0, 0) = (0, 0, 0) := by
  intro i
  induction i with
  | zero => rfl
  | succ i ih =>
    unfold TL
    split
    · rw [getD_l (TL_len V C0 sp i).1]
      exact ih
    · exact ih
theorem x_find {b : Nat} {V : Nat → Nat} {Z : Int32} {C0 C1 : List Int32} {sp : Int32} {σ : om_S} (hb : IsT b) (hV : WV V) (hC0 : WC C0) (hC1 : WC C1) (hX : XT b V Z C0 C1 σ) (h0 : Zero3 σ) :
    ∃ σ', f_X0_find 58 b sp σ = some (bI ((pickV V C0 C1 sp).isSome = true), σ') ∧ BestIs (TL V C0 sp (V 6)) (pickV V C0 C1 sp) (σ' 58 4) ∧ Arr3 (TL V C0 sp (V 6)) (TL V C0 sp (V 6)).length σ' ∧ Zero3 σ' ∧ ∀ q, ¬ scrX b q → σ' q = σ q := by
  obtain ⟨σ', q1, q2, q3, q4⟩ := x_findLoop (sp := sp) hb hV hC0 hC1 (V 6) 0 om_F (om_w σ 58 3 1) (by omega) (by have := hV.1; unfold om_F; omega) (hX.congr fun k h1 h2 _ _ => by
    have hk : k < 58 := by rcases hb with rfl | rfl | rfl <;> omega
    exact om_w_off (by omega)) om_w_s (fun j hj => by
    have hj0 : j = 0 := by
      have : j < 1 := hj
      omega
    subst hj0
    rw [om_w_k (by decide), om_w_k (by decide), om_w_k (by decide)]
    exact ⟨h0.1, h0.2.1, h0.2.2⟩)
  have hz := q3 0 (TL_len V C0 sp (V 6)).1
  rw [TL_0] at hz
  refine ⟨σ', ?_, q2, q3, ⟨hz.1, hz.2.1, hz.2.2⟩, fun q hq => by rw [q4 q hq, om_w_off (fun e => hq (Or.inl e))]⟩
  unfold f_X0_find
  simp only [kX, tk hb, if_true, let_s]
  exact q1
