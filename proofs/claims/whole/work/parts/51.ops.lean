/-! ===== move ===== -/
def runOK (x y : Int32) (n : Nat) : Prop := 0 ≤ x.toInt ∧ 0 ≤ y.toInt ∧ x.toInt + y.toInt ≤ n
theorem i32lt (x : Int32) : x.toInt < 2 ^ 31 := Int32.toInt_lt x
theorem subI {x : Int32} {n : Nat} (hn : n < 1000) (h : 0 ≤ x.toInt) : (nI n - x).toInt = (n : Int) - x.toInt := by
  have h2 := i32lt x
  rw [Int32.toInt_sub, nI_toInt (show n < 2 ^ 31 by omega), Int.bmod_def]
  split <;> omega
theorem x_hasRun {k n : Nat} {x y : Int32} {σ : om_S} (hk : k < 4) (hS : σ (82 + 2 * k) 2 = nI n) (hn : n < 1000) : (runOK x y n → f_X4_hasRun (82 + 2 * k) x y σ = some (1, σ)) ∧ (¬ runOK x y n → f_X4_hasRun (82 + 2 * k) x y σ = some (0, σ)) := by
  have e0 : (0 : Int32).toInt = 0 := rfl
  have e2 : (nI n).toInt = n := nI_toInt (by omega)
  unfold runOK f_X4_hasRun
  rw [if_pos (sh_all k hk).2.1, hS]
  by_cases h1 : x.toInt < 0
  · rw [if_pos (show x < 0 by rw [ltI]; exact h1)]
    exact ⟨fun q => by omega, fun _ => rfl⟩
  rw [if_neg (show ¬ x < 0 by rw [ltI]; exact h1)]
  by_cases h2 : y.toInt < 0
  · rw [if_pos (show y < 0 by rw [ltI]; exact h2)]
    exact ⟨fun q => by omega, fun _ => rfl⟩
  rw [if_neg (show ¬ y < 0 by rw [ltI]; exact h2)]
  have es := subI (x := x) hn (by omega)
  by_cases h3 : (n : Int) < x.toInt
  · rw [if_pos (show nI n < x by rw [ltI, e2]; exact h3)]
    exact ⟨fun q => by omega, fun _ => rfl⟩
  rw [if_neg (show ¬ nI n < x by rw [ltI, e2]; exact h3)]
  by_cases h4 : (n : Int) - x.toInt < y.toInt
  · rw [if_pos (show nI n - x < y by rw [ltI, es]; exact h4)]
    exact ⟨fun q => by omega, fun _ => rfl⟩
  · rw [if_neg (show ¬ nI n - x < y by rw [ltI, es]; exact h4)]
    exact ⟨fun _ => rfl, fun q => absurd ⟨by omega, by omega, by omega⟩ q⟩
theorem m_runs {A B : Option (Int32 × om_S)} {x y v : Int32} {n1 n2 : Nat} (h1 : n1 < 1000) (h2 : n2 < 1000) : (runOK x v n1 ∧ runOK y v n2 → (if v < 0 then B else if x < 0 then B else if y < 0 then B else if nI n1 - v < x then B else if y ≤ nI n2 - v then A else B) = A) ∧ (¬ (runOK x v n1 ∧ runOK y v n2) → (if v < 0 then B else if x < 0 then B else if y < 0 then B else if nI n1 - v < x then B else if y ≤ nI n2 - v then A else B) = B) := by
  have e0 : (0 : Int32).toInt = 0 := rfl
  unfold runOK
  by_cases g1 : v.toInt < 0
  · rw [if_pos (show v < 0 by rw [ltI]; exact g1)]
    exact ⟨fun q => by omega, fun _ => rfl⟩
  rw [if_neg (show ¬ v < 0 by rw [ltI]; exact g1)]
  by_cases g2 : x.toInt < 0
  · rw [if_pos (show x < 0 by rw [ltI]; exact g2)]
    exact ⟨fun q => by omega, fun _ => rfl⟩
  rw [if_neg (show ¬ x < 0 by rw [ltI]; exact g2)]
  by_cases g3 : y.toInt < 0
  · rw [if_pos (show y < 0 by rw [ltI]; exact g3)]
    exact ⟨fun q => by omega, fun _ => rfl⟩
  rw [if_neg (show ¬ y < 0 by rw [ltI]; exact g3)]
  have es := subI (x := v) h1 (by omega)
  have es2 := subI (x := v) h2 (by omega)
  by_cases g4 : (n1 : Int) - v.toInt < x.toInt
  · rw [if_pos (show nI n1 - v < x by rw [ltI, es]; exact g4)]
    exact ⟨fun q => by omega, fun _ => rfl⟩
  rw [if_neg (show ¬ nI n1 - v < x by rw [ltI, es]; exact g4)]
  by_cases g5 : y.toInt ≤ (n2 : Int) - v.toInt
  · rw [if_pos (show y ≤ nI n2 - v by rw [leI, es2]; exact g5)]
    exact ⟨fun _ => rfl, fun q => absurd ⟨⟨by omega, by omega, by omega⟩, by omega, by omega, by omega⟩ q⟩
  · rw [if_neg (show ¬ y ≤ nI n2 - v by rw [leI, es2]; exact g5)]
    exact ⟨fun q => by omega, fun _ => rfl⟩
theorem natI {x : Int32} {n : Nat} (hn : n < 1000) (h0 : 0 ≤ x.toInt) (h : x.toInt ≤ n) : ∃ j, j ≤ n ∧ x = nI j := by
  rcases pk_ix x (n := n + 1) (by omega) with q | q | ⟨j, hj, e⟩
  · rw [ltI] at q
    exact absurd (Int.lt_of_lt_of_le q h0) (Int.lt_irrefl _)
  · rw [leI, nI_toInt (show n + 1 < 2 ^ 31 by omega)] at q
    omega
  · exact ⟨j, by omega, e⟩
/-- what has been taken after s steps -/
def tkn (I J N s l : Nat) : Prop := (I < J ∧ J + N ≤ l + s ∧ l < J + N) ∨ (¬ I < J ∧ J ≤ l ∧ l < J + s)
theorem x_takeLoop2 {k1 k2 n1 n2 I J N : Nat} {b : Int32} {f1 f2 : Nat → Int32} (hk1 : k1 < 4) (hk2 : k2 < 4) (hn1 : n1 ≤ 24) (hn2 : n2 ≤ 24) (h1 : I + N ≤ n1) (h2 : J + N ≤ n2) (hnar : ∀ j, j < 24 → narF b (f1 j) = f1 j) (hsame : k1 = k2 → f1 = f2) :
    ∀ (m s F : Nat) (σ : om_S), s + m = N → m < F → σ (82 + 2 * k1) 2 = nI n1 → σ (82 + 2 * k2) 1 = b → σ (82 + 2 * k2) 2 = nI n2 → (k1 ≠ k2 → ∀ l, l < 24 → σ (83 + 2 * k1) l = f1 l) →
    (∀ l, l < 24 → (tkn I J N s l → σ (83 + 2 * k2) l = f1 (I + (l - J))) ∧ (¬ tkn I J N s l → σ (83 + 2 * k2) l = f2 l)) →
    ∃ σ', f_X4_take_b3 F (82 + 2 * k2) (82 + 2 * k1) (nI I) (nI J) (nI N) (nI s) σ = some σ' ∧ (∀ l, l < 24 → (tkn I J N N l → σ' (83 + 2 * k2) l = f1 (I + (l - J))) ∧ (¬ tkn I J N N l → σ' (83 + 2 * k2) l = f2 l)) ∧ ∀ q, q ≠ 83 + 2 * k2 → σ' q = σ q := by
  intro m
  induction m with
  | zero =>
    intro s F σ hs hF g1 g2 g3 g4 g5
    obtain ⟨F, rfl⟩ : ∃ G, F = G + 1 := ⟨F - 1, by omega⟩
    refine ⟨σ, ?_, ?_, fun _ _ => rfl⟩
    · unfold f_X4_take_b3
      rw [if_pos (nI_le (by omega) (by omega))]
    · rw [show N = s by omega] at g5 ⊢
      exact g5
  | succ m ih =>
    intro s F σ hs hF g1 g2 g3 g4 g5
    obtain ⟨F, rfl⟩ : ∃ G, F = G + 1 := ⟨F - 1, by omega⟩
    have go : ∀ nx, nx < N → (nx = if I < J then N - 1 - s else s) → ∃ σ', f_X4_take_b34 (f_X4_take_b3 F) (82 + 2 * k2) (82 + 2 * k1) (nI I) (nI J) (nI N) (nI s) (nI nx) σ = some σ' ∧ (∀ l, l < 24 → (tkn I J N N l → σ' (83 + 2 * k2) l = f1 (I + (l - J))) ∧ (¬ tkn I J N N l → σ' (83 + 2 * k2) l = f2 l)) ∧ ∀ q, q ≠ 83 + 2 * k2 → σ' q = σ q := by
      intro nx hnx enx
      have hv : σ (83 + 2 * k1) (I + nx) = f1 (I + nx) := by
        by_cases hkk : k1 = k2
        · subst hkk
          have hnt : ¬ tkn I J N s (I + nx) := by
            unfold tkn
            by_cases e : I < J
            · rw [if_pos e] at enx
              omega
            · rw [if_neg e] at enx
              omega
          rw [(g5 (I + nx) (by omega)).2 hnt, hsame rfl]
        · exact g4 hkk (I + nx) (by omega)
      obtain ⟨σ', q1, q2, q3⟩ := ih (s + 1) F (om_w σ (83 + 2 * k2) (J + nx) (f1 (I + nx))) (by omega) (by omega) (by rw [om_w_k (by omega)]; exact g1) (by rw [om_w_k (by omega)]; exact g2) (by rw [om_w_k (by omega)]; exact g3) (fun hne l hl => by rw [om_w_k (by omega)]; exact g4 hne l hl) (fun l hl => by
        by_cases e : l = J + nx
        · rw [e, om_w_s]
          refine ⟨fun _ => by rw [show J + nx - J = nx by omega], fun q => absurd ?_ q⟩
          unfold tkn
          by_cases e2 : I < J
          · rw [if_pos e2] at enx
            omega
          · rw [if_neg e2] at enx
            omega
        · rw [om_w_j e]
          have h3 : tkn I J N (s + 1) l ↔ tkn I J N s l := by
            unfold tkn
            by_cases e2 : I < J
            · rw [if_pos e2] at enx
              omega
            · rw [if_neg e2] at enx
              omega
          rw [h3]
          exact g5 l hl)
      refine ⟨σ', ?_, q2, fun q hq => by rw [q3 q hq, om_w_off hq]⟩
      unfold f_X4_take_b34
      rw [nI_add, x_shAt hk1 g1 hn1 (by omega), call_s, hv, nI_add, x_shWrite hk2 g3 hn2 (by omega), do_s, g2, hnar _ (by omega), nI_1, q1]
    unfold f_X4_take_b3
    rw [if_neg (nI_ge (by omega) (by omega)), if_neg (show ¬ (24 : Int32) ≤ nI s from nI_ge (b := 24) (by omega) (by omega))]
    by_cases e : I < J
    · rw [if_pos (nI_lt e (by omega)), show (1 : Int32) = nI 1 from rfl, pk_sub (show 1 ≤ N by omega), pk_sub (show s ≤ N - 1 by omega)]
      exact go (N - 1 - s) (by omega) (by rw [if_pos e])
    · rw [if_neg (nI_nlt (by omega) (by omega))]
      exact go s (by omega) (by rw [if_neg e])
theorem ix24s (k I s : Nat) : ((24 : Int32) * nI k + nI I) + nI s = nI (24 * k + (I + s)) := by
  rw [ix24, nI_add, Nat.add_assoc]
theorem m_asideLoop {k1 I J N k2 : Nat} {σ0 : om_S} (hk1 : k1 < 4) (hN : I + N ≤ 24) :
    ∀ (m s F : Nat) (σ : om_S), s + m = N → m < F → (∀ l, l < s → σ 104 l = σ0 103 (24 * k1 + (I + l))) → (∀ q, q ≠ 104 → σ q = σ0 q) →
    ∃ σ', f_X9_move_b115 F 90 (nI k1) (nI I) (nI k2) (nI J) (nI N) (nI s) σ = f_X9_move_b152 om_F 90 (nI k2) (nI J) (nI N) 0 σ' ∧ (∀ l, l < N → σ' 104 l = σ0 103 (24 * k1 + (I + l))) ∧ ∀ q, q ≠ 104 → σ' q = σ0 q := by
  intro m
  induction m with
  | zero =>
    intro s F σ hs hF g1 g2
    obtain ⟨F, rfl⟩ : ∃ G, F = G + 1 := ⟨F - 1, by omega⟩
    refine ⟨σ, ?_, fun l hl => g1 l (by omega), g2⟩
    unfold f_X9_move_b115
    rw [if_pos (nI_le (by omega) (by omega))]
  | succ m ih =>
    intro s F σ hs hF g1 g2
    obtain ⟨F, rfl⟩ : ∃ G, F = G + 1 := ⟨F - 1, by omega⟩
    have c : (nI s).toNatClampNeg = s := nI_clamp (by omega)
    obtain ⟨σ', q1, q2, q3⟩ := ih (s + 1) F (om_w σ 104 s (σ 103 (24 * k1 + (I + s)))) (by omega) (by omega) (fun l hl => by
      by_cases e : l = s
      · rw [e, om_w_s, g2 103 (by omega)]
      · rw [om_w_j e]
        exact g1 l (by omega)) (fun q hq => by rw [om_w_off hq, g2 q hq])
    refine ⟨σ', ?_, q2, q3⟩
    unfold f_X9_move_b115
    simp only [kM, rM, aM, om_ref_s, if_true, let_s, ix24s, cl_s hk1 (show I + s < 24 by omega), in_s hk1 (show I + s < 24 by omega), c, nI_1]
    rw [if_neg (nI_ge (by omega) (by omega)), if_pos (in_nI (by omega) (by omega)), q1]
theorem m_layLoop {k2 J N : Nat} {σ0 : om_S} (hk2 : k2 < 4) (hN : J + N ≤ 24) :
    ∀ (m s F : Nat) (σ : om_S), s + m = N → m < F → (∀ l, l < s → σ 103 (24 * k2 + (J + l)) = σ0 104 l) → (∀ j, (j < 24 * k2 + J ∨ 24 * k2 + (J + N) ≤ j) → σ 103 j = σ0 103 j) → (∀ q, q ≠ 103 → σ q = σ0 q) →
    ∃ σ', f_X9_move_b152 F 90 (nI k2) (nI J) (nI N) (nI s) σ = some (nI N, σ') ∧ (∀ l, l < N → σ' 103 (24 * k2 + (J + l)) = σ0 104 l) ∧ (∀ j, (j < 24 * k2 + J ∨ 24 * k2 + (J + N) ≤ j) → σ' 103 j = σ0 103 j) ∧ ∀ q, q ≠ 103 → σ' q = σ0 q := by
  intro m
  induction m with
  | zero =>
    intro s F σ hs hF g1 g2 g3
    obtain ⟨F, rfl⟩ : ∃ G, F = G + 1 := ⟨F - 1, by omega⟩
    refine ⟨σ, ?_, fun l hl => g1 l (by omega), g2, g3⟩
    unfold f_X9_move_b152
    rw [if_pos (nI_le (by omega) (by omega))]
  | succ m ih =>
    intro s F σ hs hF g1 g2 g3
    obtain ⟨F, rfl⟩ : ∃ G, F = G + 1 := ⟨F - 1, by omega⟩
    have c : (nI s).toNatClampNeg = s := nI_clamp (by omega)
    obtain ⟨σ', q1, q2, q3⟩ := ih (s + 1) F (om_w σ 103 (24 * k2 + (J + s)) (σ 104 s)) (by omega) (by omega) (fun l hl => by
      by_cases e : l = s
      · rw [e, om_w_s, g3 104 (by omega)]
      · rw [om_w_j (by omega)]
        exact g1 l (by omega)) (fun j hj => by rw [om_w_j (by omega), g2 j hj]) (fun q hq => by rw [om_w_off hq, g3 q hq])
    refine ⟨σ', ?_, q2, q3⟩
    unfold f_X9_move_b152
    simp only [kM, rM, aM, om_ref_s, if_true, let_s, ix24s, cl_s hk2 (show J + s < 24 by omega), in_s hk2 (show J + s < 24 by omega), c, nI_1]
    rw [if_neg (nI_ge (by omega) (by omega)), if_pos (in_nI (by omega) (by omega)), q1]
theorem op_move (a i b j n : Int32) : Sim (fun σ => f_X8_move 0 a i b j n σ) (fun σ => f_X9_move 90 a i b j n σ) := by
  refine sim_of fun s σ w hx => ?_
  obtain ⟨V, Z, C0, C1, T, W, K, g, E, Tr, Sh⟩ := s
  rcases shc a with ⟨hn, hn2⟩ | ⟨k1, hk1, rfl, ha⟩
  · refine ⟨rfE 1, (V, Z, C0, C1, T, W, K, g, upE E 1, Tr, Sh), w, XO.no0 hx (k := 1) (by omega) ?_, fun τ hm => MO.no0 hm (k := 1) (by omega) ?_⟩
    · show f_X8_move 0 a i b j n σ = _
      unfold f_X8_move f_X8_move_b24
      simp only [kX, if_true, x_shNo hn2, call_s]
      rcases shc b with ⟨hm, hm2⟩ | ⟨k2, hk2, rfl, hb⟩
      · rw [x_shNo hm2, call_s, om_nul_n]
        exact Eq.refl _
      · rw [x_shYes hk2, call_s, om_nul_n]
        exact Eq.refl _
    · show f_X9_move 90 a i b j n τ = _
      unfold f_X9_move f_X9_move_b14
      simp only [kM, if_true, m_isSheet, call_s]
      rw [bI_n hn]
      exact Eq.refl _
  rcases shc b with ⟨hn, hn2⟩ | ⟨k2, hk2, rfl, hb⟩
  · refine ⟨rfE 1, (V, Z, C0, C1, T, W, K, g, upE E 1, Tr, Sh), w, XO.no0 hx (k := 1) (by omega) ?_, fun τ hm => MO.no0 hm (k := 1) (by omega) ?_⟩
    · show f_X8_move 0 (nI k1) i b j n σ = _
      unfold f_X8_move f_X8_move_b24
      simp only [kX, if_true, x_shYes hk1, call_s, x_shNo hn2, om_nul_s, om_nul_n, (sh_all k1 hk1).2.1]
      exact Eq.refl _
    · show f_X9_move 90 (nI k1) i b j n τ = _
      unfold f_X9_move f_X9_move_b14
      simp only [kM, if_true, m_isSheet, call_s]
      rw [bI_y ha, bI_n hn]
      exact Eq.refl _
  obtain ⟨hb1, hs1, hnar1⟩ := w.2.2.2.2 k1 hk1
  obtain ⟨hb2, hs2, hnar2⟩ := w.2.2.2.2 k2 hk2
  have hS1 := hx.2.2.2.2.2.1 k1 hk1
  have hS2 := hx.2.2.2.2.2.1 k2 hk2
  have c1 : (nI k1).toNatClampNeg = k1 := nI_clamp (by omega)
  have c2 : (nI k2).toNatClampNeg = k2 := nI_clamp (by omega)
  have i1 : om_in (nI k1) 4 = True := eq_true (in_nI (by omega) (by omega))
  have i2 : om_in (nI k2) 4 = True := eq_true (in_nI (by omega) (by omega))
  by_cases e1 : (Sh k1).1 = 0
  · refine ⟨rfE 2, (V, Z, C0, C1, T, W, K, g, upE E 2, Tr, Sh), w, XO.no0 hx (k := 2) (by omega) ?_, fun τ hm => MO.no0 hm (k := 2) (by omega) ?_⟩
    · show f_X8_move 0 (nI k1) i (nI k2) j n σ = _
      unfold f_X8_move f_X8_move_b46
      simp only [kX, if_true, x_shYes hk1, x_shYes hk2, call_s, om_nul_s, (sh_all k1 hk1).2.1, (sh_all k2 hk2).2.1, x_miss hk1, hS1.1]
      rw [bI_y e1]
      exact Eq.refl _
    · show f_X9_move 90 (nI k1) i (nI k2) j n τ = _
      unfold f_X9_move f_X9_move_b38
      simp only [kM, rM, aM, om_ref_s, if_true, m_isSheet, call_s, c1, i1, (hm.2.2.2.2.2.1 k1 hk1).1]
      rw [bI_y ha, bI_y hb, if_pos e1]
      exact Eq.refl _
  by_cases e2 : (Sh k2).1 = 0
  · refine ⟨rfE 2, (V, Z, C0, C1, T, W, K, g, upE E 2, Tr, Sh), w, XO.no0 hx (k := 2) (by omega) ?_, fun τ hm => MO.no0 hm (k := 2) (by omega) ?_⟩
    · show f_X8_move 0 (nI k1) i (nI k2) j n σ = _
      unfold f_X8_move f_X8_move_b46
      simp only [kX, if_true, x_shYes hk1, x_shYes hk2, call_s, om_nul_s, (sh_all k1 hk1).2.1, (sh_all k2 hk2).2.1, x_miss hk1, x_miss hk2, hS1.1, hS2.1]
      rw [bI_n e1, bI_y e2]
      exact Eq.refl _
    · show f_X9_move 90 (nI k1) i (nI k2) j n τ = _
      unfold f_X9_move f_X9_move_b38
      simp only [kM, rM, aM, om_ref_s, if_true, m_isSheet, call_s, c1, c2, i1, i2, (hm.2.2.2.2.2.1 k1 hk1).1, (hm.2.2.2.2.2.1 k2 hk2).1]
      rw [bI_y ha, bI_y hb, if_neg e1, if_pos e2]
      exact Eq.refl _
  by_cases e3 : (Sh k1).1 = (Sh k2).1
  rotate_left
  · refine ⟨rfE 5, (V, Z, C0, C1, T, W, K, g, upE E 5, Tr, Sh), w, XO.no0 hx (k := 5) (by omega) ?_, fun τ hm => MO.no0 hm (k := 5) (by omega) ?_⟩
    · show f_X8_move 0 (nI k1) i (nI k2) j n σ = _
      unfold f_X8_move
      simp only [kX, if_true, x_shYes hk1, x_shYes hk2, call_s, om_nul_s, (sh_all k1 hk1).2.1, (sh_all k2 hk2).2.1, x_miss hk1, x_miss hk2, hS1.1, hS2.1]
      rw [bI_n e1, bI_n e2, if_neg e3]
      exact Eq.refl _
    · show f_X9_move 90 (nI k1) i (nI k2) j n τ = _
      unfold f_X9_move
      simp only [kM, rM, aM, om_ref_s, if_true, m_isSheet, call_s, c1, c2, i1, i2, (hm.2.2.2.2.2.1 k1 hk1).1, (hm.2.2.2.2.2.1 k2 hk2).1]
      rw [bI_y ha, bI_y hb, if_neg e1, if_neg e2, if_neg e3]
      exact Eq.refl _
  by_cases hr : runOK i n (Sh k1).2.1 ∧ runOK j n (Sh k2).2.1
  rotate_left
  · refine ⟨rfE 1, (V, Z, C0, C1, T, W, K, g, upE E 1, Tr, Sh), w, XO.no0 hx (k := 1) (by omega) ?_, fun τ hm => MO.no0 hm (k := 1) (by omega) ?_⟩
    · show f_X8_move 0 (nI k1) i (nI k2) j n σ = _
      unfold f_X8_move f_X8_move_b94
      simp only [kX, if_true, x_shYes hk1, x_shYes hk2, call_s, om_nul_s, (sh_all k1 hk1).2.1, (sh_all k2 hk2).2.1, x_miss hk1, x_miss hk2, hS1.1, hS2.1]
      rw [bI_n e1, bI_n e2, if_pos e3]
      by_cases hr1 : runOK i n (Sh k1).2.1
      · rw [(x_hasRun hk1 hS1.2.1 (by omega)).1 hr1, call_s, if_neg (by decide), (x_hasRun hk2 hS2.2.1 (by omega)).2 (fun q => hr ⟨hr1, q⟩), call_s, if_pos rfl]
        exact Eq.refl _
      · rw [(x_hasRun hk1 hS1.2.1 (by omega)).2 hr1, call_s, if_pos rfl]
        exact Eq.refl _
    · show f_X9_move 90 (nI k1) i (nI k2) j n τ = _
      unfold f_X9_move f_X9_move_b106
      simp only [kM, rM, aM, om_ref_s, if_true, m_isSheet, call_s, c1, c2, i1, i2, (hm.2.2.2.2.2.1 k1 hk1).1, (hm.2.2.2.2.2.1 k2 hk2).1, (hm.2.2.2.2.2.1 k1 hk1).2.1, (hm.2.2.2.2.2.1 k2 hk2).2.1]
      rw [bI_y ha, bI_y hb, if_neg e1, if_neg e2, if_pos e3, (m_runs (by omega) (by omega)).2 hr]
      exact Eq.refl _
  obtain ⟨⟨r1, r2, r3⟩, r4, r5, r6⟩ := hr
  obtain ⟨I, hI, rfl⟩ := natI (n := (Sh k1).2.1) (by omega) r1 (by omega)
  obtain ⟨J, hJ, rfl⟩ := natI (n := (Sh k2).2.1) (by omega) r4 (by omega)
  obtain ⟨N, hN, rfl⟩ := natI (n := (Sh k1).2.1) (by omega) r2 (by omega)
  have hr : runOK (nI I) (nI N) (Sh k1).2.1 ∧ runOK (nI J) (nI N) (Sh k2).2.1 := ⟨⟨r1, r2, r3⟩, r4, r5, r6⟩
  rw [nI_toInt (show I < 2 ^ 31 by omega), nI_toInt (show N < 2 ^ 31 by omega)] at r3
  rw [nI_toInt (show J < 2 ^ 31 by omega), nI_toInt (show N < 2 ^ 31 by omega)] at r6
  obtain ⟨σ', q1, q2, q3⟩ := x_takeLoop2 (I := I) (J := J) (N := N) (b := (Sh k1).1) (f1 := (Sh k1).2.2) (f2 := (Sh k2).2.2) hk1 hk2 hs1 hs2 (by omega) (by omega) hnar1 (fun e => by rw [e]) N 0 om_F σ (by omega) (lt_F (by omega)) hS1.2.1 (by rw [hS2.1, e3]) hS2.2.1 (fun _ l hl => hS1.2.2 l hl) (fun l hl => ⟨fun q => by unfold tkn at q; omega, fun _ => hS2.2.2 l hl⟩)
  have hp : ∀ l, l < 24 → (J ≤ l ∧ l < J + N ↔ tkn I J N N l) := fun l hl => by
    unfold tkn
    omega
  refine ⟨nI N, (V, Z, C0, C1, T, W, K, g, E, Tr, upS Sh k2 ((Sh k2).1, (Sh k2).2.1, fun l => if J ≤ l ∧ l < J + N then (Sh k1).2.2 (I + (l - J)) else (Sh k2).2.2 l)), w.sh ⟨hb2, hs2, fun l hl => ?_⟩, ⟨σ', ?_, hx.sh (fun q _ a => q3 q a) hk2 ⟨?_, ?_, fun l hl => ?_⟩, fun q hq => q3 q (by omega)⟩, fun τ hm => ?_⟩
  · show narF _ (if J ≤ l ∧ l < J + N then _ else _) = (if J ≤ l ∧ l < J + N then _ else _)
    by_cases e : J ≤ l ∧ l < J + N
    · rw [if_pos e]
      show narF (Sh k2).1 _ = _
      rw [← e3, hnar1 _ (by omega)]
    · rw [if_neg e]
      exact hnar2 l hl
  · show f_X8_move 0 (nI k1) (nI I) (nI k2) (nI J) (nI N) σ = _
    unfold f_X8_move f_X4_take
    simp only [kX, if_true, x_shYes hk1, x_shYes hk2, call_s, om_nul_s, (sh_all k1 hk1).2.1, (sh_all k2 hk2).2.1, x_miss hk1, x_miss hk2, hS1.1, hS2.1]
    rw [bI_n e1, bI_n e2, if_pos e3, (x_hasRun hk1 hS1.2.1 (by omega)).1 hr.1, call_s, if_neg (by decide), (x_hasRun hk2 hS2.2.1 (by omega)).1 hr.2, call_s, if_neg (by decide), show f_X4_take_b3 om_F (82 + 2 * k2) (82 + 2 * k1) (nI I) (nI J) (nI N) 0 σ = _ from q1, do_s]
  · rw [q3 _ (by omega)]
    exact hS2.1
  · rw [q3 _ (by omega)]
    exact hS2.2.1
  · show _ = (if J ≤ l ∧ l < J + N then _ else _)
    by_cases e : J ≤ l ∧ l < J + N
    · rw [if_pos e]
      exact (q2 l hl).1 ((hp l hl).mp e)
    · rw [if_neg e]
      exact (q2 l hl).2 (fun q => e ((hp l hl).mpr q))
  · have hM1 := hm.2.2.2.2.2.1 k1 hk1
    have hM2 := hm.2.2.2.2.2.1 k2 hk2
    obtain ⟨τ1, v1, v2, v3⟩ := m_asideLoop (σ0 := τ) (J := J) (k2 := k2) hk1 (show I + N ≤ 24 by omega) N 0 om_F τ (by omega) (lt_F (by omega)) (fun l hl => by omega) (fun _ _ => rfl)
    obtain ⟨τ2, u1, u2, u3, u4⟩ := m_layLoop (σ0 := τ1) hk2 (show J + N ≤ 24 by omega) N 0 om_F τ1 (by omega) (lt_F (by omega)) (fun l hl => by omega) (fun _ _ => rfl) (fun _ _ => rfl)
    refine ⟨τ2, ?_, hm.sh (fun q a d e f => by rw [u4 q e, v3 q f]) hk2 ⟨?_, ?_, fun l hl => ?_⟩ (fun q hq => by rw [u4 101 (by omega), v3 101 (by omega)]) (fun q hq => by rw [u4 102 (by omega), v3 102 (by omega)]) (fun q hq => by rw [u3 q (by omega), v3 103 (by omega)]), fun q hq => by rw [u4 q (by omega), v3 q (by omega)]⟩
    · show f_X9_move 90 (nI k1) (nI I) (nI k2) (nI J) (nI N) τ = _
      unfold f_X9_move
      simp only [kM, rM, aM, om_ref_s, if_true, m_isSheet, call_s, c1, c2, i1, i2, hM1.1, hM2.1, hM1.2.1, hM2.2.1]
      rw [bI_y ha, bI_y hb, if_neg e1, if_neg e2, if_pos e3, (m_runs (by omega) (by omega)).1 hr, show f_X9_move_b115 om_F 90 (nI k1) (nI I) (nI k2) (nI J) (nI N) 0 τ = _ from v1]
      exact u1
    · rw [u4 101 (by omega), v3 101 (by omega)]
      exact hM2.1
    · rw [u4 102 (by omega), v3 102 (by omega)]
      exact hM2.2.1
    · show _ = (if J ≤ l ∧ l < J + N then _ else _)
      by_cases e : J ≤ l ∧ l < J + N
      · rw [if_pos e]
        have := u2 (l - J) (by omega)
        rw [show J + (l - J) = l by omega] at this
        rw [this, v2 (l - J) (by omega)]
        exact hM1.2.2 (I + (l - J)) (by omega)
      · rw [if_neg e, u3 (24 * k2 + l) (by omega), v3 103 (by omega)]
        exact hM2.2.2 l hl
