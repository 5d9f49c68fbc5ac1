/-! ===== has, mixes, odds ===== -/
def hasV (V : Nat → Nat) (C0 : List Int32) (k : Nat) : Nat → Int32
  | 0 => 0
  | i + 1 => hasV V C0 k i + (if bt (V (8 + 5 * i + 2)) k = 1 then nI (V (8 + 5 * i + 3)) * lightV V C0 i (V (8 + 5 * i + 2)) / nI (many (V (8 + 5 * i + 2))) else 0)
theorem many_pos : ∀ w, w < 16 → ∀ k, k < 4 → bt w k = 1 → 1 ≤ many w := by decide +kernel
theorem x_hasLoop {V : Nat → Nat} {Z : Int32} {C0 C1 : List Int32} {k : Nat} (hV : WV V) (hC0 : WC C0) (hk : k < 4) :
    ∀ (n i F : Nat) (σ : om_S), i + n = V 6 → n < F → XT 1 V Z C0 C1 σ → ∃ σ', f_X8_has_b17 F 0 (nI k) (hasV V C0 k i) (nI i) σ = some (hasV V C0 k (V 6), σ') ∧ ∀ q, q ≠ 6 → σ' q = σ q := by
  have h6 : V 6 ≤ 9 := hV.1
  intro n
  induction n with
  | zero =>
    intro i F σ hi hF hX
    obtain ⟨F, rfl⟩ : ∃ G, F = G + 1 := ⟨F - 1, by omega⟩
    refine ⟨σ, ?_, fun _ _ => rfl⟩
    unfold f_X8_has_b17
    simp only [kX, rX, om_ref_s, if_true, hX.1]
    rw [if_pos (nI_le (by omega) (by omega)), show i = V 6 by omega]
  | succ n ih =>
    intro i F σ hi hF hX
    obtain ⟨F, rfl⟩ : ∃ G, F = G + 1 := ⟨F - 1, by omega⟩
    have hi9 : i < 9 := by omega
    have hw : V (8 + 5 * i + 2) ≤ 15 := (hV.2.2.2.2 i hi9).2.2.1
    have hw16 : V (8 + 5 * i + 2) < 16 := by omega
    have e : hasV V C0 k (i + 1) = hasV V C0 k i + (if bt (V (8 + 5 * i + 2)) k = 1 then nI (V (8 + 5 * i + 3)) * lightV V C0 i (V (8 + 5 * i + 2)) / nI (many (V (8 + 5 * i + 2))) else 0) := rfl
    unfold f_X8_has_b17 f_X8_has_b93 f_X8_has_b95
    simp only [kX, rX, om_ref_s, if_true, hX.1, x_atI T1 hX.1 (show i < V 6 by omega) h6, call_s, om_nul_s, tk1m hi9, hX.2.2.2.2.2.1 i 2 hi9 (by omega), hX.2.2.2.2.2.1 i 3 hi9 (by omega), shl_all k (show k < 10 by omega), x_bits hw16, nI_1]
    rw [if_neg (nI_ge (by omega) (by omega))]
    rcases bt_01 (V (8 + 5 * i + 2)) k with g | g
    · rw [if_neg (by omega), Int32.add_zero] at e
      obtain ⟨σ', q1, q2⟩ := ih (i + 1) F σ (by omega) (by omega) hX
      rw [e] at q1
      refine ⟨σ', ?_, q2⟩
      rw [if_pos ((bt_b _ hw16 k hk).mpr g), q1]
    · rw [if_pos g] at e
      have hmp := many_pos _ hw16 k hk g
      have hml := many_le (V (8 + 5 * i + 2))
      obtain ⟨σ1, p1, p2⟩ := x_light T1 hV hC0 hX hi9
      have hX1 : XT 1 V Z C0 C1 σ1 := hX.congr fun q _ _ a _ => p2 q a
      obtain ⟨σ', q1, q2⟩ := ih (i + 1) F σ1 (by omega) (by omega) hX1
      rw [e] at q1
      refine ⟨σ', ?_, fun q hq => by rw [q2 q hq, p2 q hq]⟩
      have hne : ¬ nI (many (V (8 + 5 * i + 2))) = 0 := nI_ne0 (by omega) (by omega)
      rw [if_neg (fun w => by have := (bt_b _ hw16 k hk).mp w; omega), if_neg hne, p1, call_s, if_pos hne, q1]
theorem m_hasLoop {V : Nat → Nat} {Z : Int32} {C0 C1 : List Int32} {k : Nat} (hV : WV V) (hC0 : WC C0) (hk : k < 4) :
    ∀ (n i F : Nat) (σ : om_S), i + n = V 6 → n < F → MT 91 V Z C0 C1 σ → ∃ σ', f_X9_has_b17 F 90 (nI k) (hasV V C0 k i) (nI i) σ = some (hasV V C0 k (V 6), σ') ∧ ∀ q, q ≠ 96 → q ≠ 97 → σ' q = σ q := by
  have h6 : V 6 ≤ 9 := hV.1
  intro n
  induction n with
  | zero =>
    intro i F σ hi hF hX
    obtain ⟨F, rfl⟩ : ∃ G, F = G + 1 := ⟨F - 1, by omega⟩
    refine ⟨σ, ?_, fun _ _ _ => rfl⟩
    unfold f_X9_has_b17
    simp only [kM, rM, aM, om_ref_s, if_true, in6_387, cl6, hX.1]
    rw [if_pos (nI_le (by omega) (by omega)), show i = V 6 by omega]
  | succ n ih =>
    intro i F σ hi hF hX
    obtain ⟨F, rfl⟩ : ∃ G, F = G + 1 := ⟨F - 1, by omega⟩
    have hi9 : i < 9 := by omega
    have hw : V (8 + 5 * i + 2) ≤ 15 := (hV.2.2.2.2 i hi9).2.2.1
    have hw16 : V (8 + 5 * i + 2) < 16 := by omega
    have e : hasV V C0 k (i + 1) = hasV V C0 k i + (if bt (V (8 + 5 * i + 2)) k = 1 then nI (V (8 + 5 * i + 3)) * lightV V C0 i (V (8 + 5 * i + 2)) / nI (many (V (8 + 5 * i + 2))) else 0) := rfl
    unfold f_X9_has_b17 f_X9_has_b71
    simp only [kM, rM, aM, om_ref_s, if_true, in6_387, cl6, hX.1, call_s, m_its2 hi9, m_its3 hi9, hX.2.2.2.2.2.1 i 2 hi9 (by omega), hX.2.2.2.2.2.1 i 3 hi9 (by omega), bt_c _ hw16 k hk, nI_1]
    rw [if_neg (nI_ge (by omega) (by omega))]
    rcases bt_01 (V (8 + 5 * i + 2)) k with g | g
    · rw [if_neg (by omega)] at e
      obtain ⟨σ', q1, q2⟩ := ih (i + 1) F σ (by omega) (by omega) hX
      rw [e] at q1
      refine ⟨σ', ?_, q2⟩
      rw [g, if_neg (by decide), q1]
    · rw [if_pos g] at e
      have hmp := many_pos _ hw16 k hk g
      have hml := many_le (V (8 + 5 * i + 2))
      obtain ⟨σ1, p1, p2⟩ := m_lightBy (w := V (8 + 5 * i + 2)) hC0 hX hi9 hw16
      have hX1 : MT 91 V Z C0 C1 σ1 := hX.congr (p2 91 (by omega) (by omega))
      obtain ⟨σ', q1, q2⟩ := ih (i + 1) F σ1 (by omega) (by omega) hX1
      rw [e] at q1
      refine ⟨σ', ?_, fun q hq hq2 => by rw [q2 q hq hq2, p2 q hq hq2]⟩
      have hne : ¬ nI (many (V (8 + 5 * i + 2))) = 0 := nI_ne0 (by omega) (by omega)
      rw [g, if_pos (by decide), p1, call_s, m_many hw16, call_s, if_pos hne, q1]
theorem op_has (a : Int32) : Sim (fun σ => f_X8_has 0 a σ) (fun σ => f_X9_has 90 a σ) := by
  refine sim_of fun s σ w hx => ?_
  obtain ⟨V, Z, C0, C1, T, W, K, g, E, Tr, Sh⟩ := s
  have hV : WV V := w.1.1
  have h6 : V 6 ≤ 9 := hV.1
  by_cases h : (0 : Int32) ≤ a ∧ a ≤ 3
  · obtain ⟨k, hk, rfl⟩ := win (n := 3) h (by decide) rfl (by decide)
    obtain ⟨σ', q1, q2⟩ := x_hasLoop (k := k) hV w.1.2.2.1 (by omega) (V 6) 0 om_F σ (by omega) (lt_F (by omega)) hx.1.1
    refine ⟨hasV V C0 k (V 6), (V, Z, C0, C1, T, W, K, g, E, Tr, Sh), w, XO.scr hx (xscr.l hx (fun q a _ => q2 q a)) ?_, fun τ hm => ?_⟩
    · show f_X8_has 0 (nI k) σ = _
      unfold f_X8_has
      simp only [kX, if_true, x_isKeeper, call_s]
      rw [bI_y h]
      exact q1
    · obtain ⟨τ', r1, r2⟩ := m_hasLoop (k := k) hV w.1.2.2.1 (by omega) (V 6) 0 om_F τ (by omega) (lt_F (by omega)) hm.1.1
      refine MO.scr hm (mscr.l hm r2) ?_
      show f_X9_has 90 (nI k) τ = _
      unfold f_X9_has
      simp only [kM, if_true, m_isKeeper, call_s]
      rw [bI_y h]
      exact r1
  · refine ⟨rfE 1, (V, Z, C0, C1, T, W, K, g, upE E 1, Tr, Sh), w, XO.no0 hx (k := 1) (by omega) ?_, fun τ hm => MO.no0 hm (k := 1) (by omega) ?_⟩
    · show f_X8_has 0 a σ = _
      unfold f_X8_has 
      simp only [kX, rX, om_ref_s, if_true, call_s, let_s, om_nul_s, om_nul_n, x_isKeeper]
      rw [bI_n h]
      exact Eq.refl _
    · show f_X9_has 90 a τ = _
      unfold f_X9_has 
      simp only [kM, rM, aM, om_ref_s, if_true, call_s, let_s, m_isKeeper]
      rw [bI_n h]
      exact Eq.refl _
theorem upV_upV {V : Nat → Nat} {k a b : Nat} : upV (upV V k a) k b = upV V k b := by
  funext j
  unfold upV
  by_cases e : j = k
  · rw [if_pos e, if_pos e]
  · rw [if_neg e, if_neg e, if_neg e]
def mixB (V : Nat → Nat) (C0 : List Int32) (i : Nat) : Nat → Nat
  | 0 => 1
  | n + 1 => if givesV V C0 i (n + 2) ≤ givesV V C0 i (mixB V C0 i n) then mixB V C0 i n else n + 2
theorem mixB_le (V : Nat → Nat) (C0 : List Int32) (i : Nat) : ∀ n, 1 ≤ mixB V C0 i n ∧ mixB V C0 i n ≤ n + 1 := by
  intro n
  induction n with
  | zero => exact ⟨Nat.le_refl _, Nat.le_refl _⟩
  | succ n ih =>
    unfold mixB
    split <;> omega
theorem gives_up {V : Nat → Nat} {C0 : List Int32} {i w x : Nat} : givesV (upV V (8 + 5 * i + 2) w) C0 i x = givesV V C0 i x := by
  unfold givesV lightV smokeV
  rw [upV_o (show 8 + 5 * i ≠ 8 + 5 * i + 2 by omega), upV_o (show 8 + 5 * i + 1 ≠ 8 + 5 * i + 2 by omega), upV_o (show 8 + 5 * i + 3 ≠ 8 + 5 * i + 2 by omega), upV_o (show 1 ≠ 8 + 5 * i + 2 by omega), upV_o (show 0 ≠ 8 + 5 * i + 2 by omega)]
theorem T39 : IsT 39 := Or.inr (Or.inr rfl)
theorem x_mixStep {V : Nat → Nat} {Z : Int32} {C0 C1 : List Int32} {i w w0 : Nat} {σ : om_S} (hV : WV V) (hC0 : WC C0) (hi : i < 9) (hw : w ≤ 15) (hX : XT 39 (upV V (8 + 5 * i + 2) w0) Z C0 C1 σ) :
    ∃ σ', f_X6_gives 39 (39 + 10 + i) (om_w σ (39 + 10 + i) 2 (nI w)) = some (givesV V C0 i w, σ') ∧ XT 39 (upV V (8 + 5 * i + 2) w) Z C0 C1 σ' ∧ ∀ q, (q < 39 ∨ 58 ≤ q) → σ' q = σ q := by
  have hX1 := hX.setM (i := i) (f := 2) (v := w) hi (by omega)
  rw [upV_upV] at hX1
  obtain ⟨σ', q1, q2⟩ := x_givesM T39 (hV.setF (i := i) (f := 2) (by omega) hw) hC0 hX1 hi
  rw [upV_s, gives_up] at q1
  exact ⟨σ', q1, hX1.congr fun k _ _ a _ => q2 k a, fun q hq => by rw [q2 q (by omega), om_w_off (by omega)]⟩
theorem x_mixLoop {V : Nat → Nat} {Z : Int32} {C0 C1 : List Int32} {i : Nat} {p : Int32} (hV : WV V) (hC0 : WC C0) (hi : i < 9) :
    ∀ (m n F w0 : Nat) (σ : om_S), n + m = 14 → m < F → XT 39 (upV V (8 + 5 * i + 2) w0) Z C0 C1 σ →
    ∃ σ', f_X8_mixes_b55 F 0 p (some (39 + 10 + i)) (nI (mixB V C0 i n)) (givesV V C0 i (mixB V C0 i n)) (nI (n + 2)) σ = f_X8_mixes_b108 p (nI (mixB V C0 i 14)) (givesV V C0 i (mixB V C0 i 14)) σ' ∧ (∃ V', XT 39 V' Z C0 C1 σ') ∧ ∀ q, (q < 39 ∨ 58 ≤ q) → σ' q = σ q := by
  intro m
  induction m with
  | zero =>
    intro n F w0 σ hn hF hX
    obtain ⟨F, rfl⟩ : ∃ G, F = G + 1 := ⟨F - 1, by omega⟩
    refine ⟨σ, ?_, ⟨_, hX⟩, fun _ _ => rfl⟩
    have hn14 : n = 14 := by omega
    subst hn14
    unfold f_X8_mixes_b55
    rw [if_pos (by decide)]
  | succ m ih =>
    intro n F w0 σ hn hF hX
    obtain ⟨F, rfl⟩ : ∃ G, F = G + 1 := ⟨F - 1, by omega⟩
    obtain ⟨σ1, p1, p2, p3⟩ := x_mixStep (w := n + 2) hV hC0 hi (by omega) hX
    have hb := mixB_le V C0 i n
    have e : mixB V C0 i (n + 1) = if givesV V C0 i (n + 2) ≤ givesV V C0 i (mixB V C0 i n) then mixB V C0 i n else n + 2 := rfl
    obtain ⟨σ', q1, q2, q3⟩ := ih (n + 1) F (n + 2) σ1 (by omega) (by omega) p2
    refine ⟨σ', ?_, q2, fun q hq => by rw [q3 q hq, p3 q hq]⟩
    unfold f_X8_mixes_b55 f_X8_mixes_b94 f_X8_mixes_b102
    simp only [om_nul_s, (tm T39 hi).2, if_true, let_s, kX, rX, om_ref_s, p1, call_s, nI_1]
    rw [if_neg (show ¬ (15 : Int32) < nI (n + 2) from nI_nlt (b := n + 2) (a := 15) (by omega) (by omega)), if_neg (nI_ne0 (by omega) (by omega))]
    by_cases gl : givesV V C0 i (n + 2) ≤ givesV V C0 i (mixB V C0 i n)
    · rw [if_pos gl]
      rw [if_pos gl] at e
      rw [e] at q1
      exact q1
    · rw [if_neg gl]
      rw [if_neg gl] at e
      rw [e] at q1
      exact q1
theorem x_mixFirst {F i : Nat} {p r : Int32} {σ1 σ2 : om_S} (hi9 : i < 9) (s1 : f_X6_gives 39 (39 + 10 + i) (om_w σ1 (39 + 10 + i) 2 1) = some (r, σ2)) : f_X8_mixes_b55 (F + 1) 0 p (some (39 + 10 + i)) 0 0 1 σ1 = f_X8_mixes_b55 F 0 p (some (39 + 10 + i)) 1 r (1 + 1) σ2 := by
  rw [f_X8_mixes_b55]
  rw [if_neg (by decide)]
  simp only [om_nul_s, (tm T39 hi9).2, if_true, let_s, kX, rX, om_ref_s, s1, call_s]
  unfold f_X8_mixes_b94 f_X8_mixes_b102
  exact Eq.refl _
theorem m_mixLoop {V : Nat → Nat} {Z : Int32} {C0 C1 : List Int32} {i p : Nat} (hp : p ≤ 1) (hC0 : WC C0) (hi : i < 9) :
    ∀ (m n F : Nat) (σ : om_S), n + m = 14 → m < F → MT 91 V Z C0 C1 σ →
    ∃ σ', f_X9_mixes_b28 F 90 (nI i) (nI p) (nI (mixB V C0 i n)) (nI (n + 2)) σ = some (if p = 0 then nI (mixB V C0 i 14) else givesV V C0 i (mixB V C0 i 14), σ') ∧ ∀ q, q ≠ 96 → q ≠ 97 → σ' q = σ q := by
  intro m
  induction m with
  | zero =>
    intro n F σ hn hF hX
    obtain ⟨F, rfl⟩ : ∃ G, F = G + 1 := ⟨F - 1, by omega⟩
    have hn14 : n = 14 := by omega
    subst hn14
    have hb := mixB_le V C0 i 14
    obtain ⟨σ1, p1, p2⟩ := m_givesBy (w := mixB V C0 i 14) hC0 hX hi (by omega)
    unfold f_X9_mixes_b28
    rw [if_pos (by decide)]
    by_cases e0 : p = 0
    · subst e0
      exact ⟨σ, by rw [if_pos (by decide), if_pos rfl], fun _ _ _ => rfl⟩
    · refine ⟨σ1, ?_, p2⟩
      rw [if_neg (nI_ne0 (by omega) (by omega)), p1, call_s, if_neg e0]
  | succ m ih =>
    intro n F σ hn hF hX
    obtain ⟨F, rfl⟩ : ∃ G, F = G + 1 := ⟨F - 1, by omega⟩
    have hb := mixB_le V C0 i n
    have e : mixB V C0 i (n + 1) = if givesV V C0 i (n + 2) ≤ givesV V C0 i (mixB V C0 i n) then mixB V C0 i n else n + 2 := rfl
    obtain ⟨σ1, p1, p2⟩ := m_givesBy (w := n + 2) hC0 hX hi (by omega)
    have hX1 : MT 91 V Z C0 C1 σ1 := hX.congr (p2 91 (by omega) (by omega))
    obtain ⟨σ2, v1, v2⟩ := m_givesBy (w := mixB V C0 i n) hC0 hX1 hi (by omega)
    have hX2 : MT 91 V Z C0 C1 σ2 := hX1.congr (v2 91 (by omega) (by omega))
    obtain ⟨σ', q1, q2⟩ := ih (n + 1) F σ2 (by omega) (by omega) hX2
    refine ⟨σ', ?_, fun q a b => by rw [q2 q a b, v2 q a b, p2 q a b]⟩
    unfold f_X9_mixes_b28 f_X9_mixes_b57
    rw [if_neg (show ¬ (16 : Int32) ≤ nI (n + 2) from nI_ge (b := 16) (a := n + 2) (by omega) (by omega)), p1, call_s, v1, call_s, nI_1]
    by_cases gl : givesV V C0 i (n + 2) ≤ givesV V C0 i (mixB V C0 i n)
    · rw [if_pos gl]
      rw [if_pos gl] at e
      rw [e] at q1
      exact q1
    · rw [if_neg gl]
      rw [if_neg gl] at e
      rw [e] at q1
      exact q1
theorem op_mixes (a v : Int32) : Sim (fun σ => f_X8_mixes 0 a v σ) (fun σ => f_X9_mixes 90 a v σ) := by
  refine sim_of fun s σ w hx => ?_
  obtain ⟨V, Z, C0, C1, T, W, K, g, E, Tr, Sh⟩ := s
  have hV : WV V := w.1.1
  have h6 : V 6 ≤ 9 := hV.1
  have hC0 : WC C0 := w.1.2.2.1
  have hC1 : WC C1 := w.1.2.2.2.1
  rcases memc V w.1.1 a with hn | ⟨i, hi, hi9, rfl⟩
  · refine ⟨rfE 1, (V, Z, C0, C1, T, W, K, g, upE E 1, Tr, Sh), w, XO.no0 hx (k := 1) (by omega) ?_, fun τ hm => MO.no0 hm (k := 1) (by omega) ?_⟩
    · show f_X8_mixes 0 a v σ = _
      unfold f_X8_mixes f_X8_mixes_b20
      simp only [kX, rX, om_ref_s, if_true, call_s, let_s, om_nul_s, om_nul_n, x_atNo T1 hx.1.1.1 hn]
      exact Eq.refl _
    · show f_X9_mixes 90 a v τ = _
      unfold f_X9_mixes f_X9_mixes_b17
      simp only [kM, rM, aM, om_ref_s, if_true, call_s, let_s, isMem_n h6 hm.1.1 hn]
      exact Eq.refl _
  · have hat := x_atI T1 hx.1.1.1 hi h6
    by_cases h : (0 : Int32) ≤ v ∧ v ≤ 1
    · obtain ⟨p, hp, rfl⟩ := win (n := 1) h (by decide) rfl (by decide)
      have hz := hx.xz
      obtain ⟨σ1, p1, p2, p3⟩ := x_towerCopy (b := 39) (b2 := 1) T39 T1 (by omega) hC0.1 hC1.1 hx.1.1 hz.2.2.2.1 hz.2.2.2.2
      have hat2 := x_atI T39 p2.1 hi h6
      have p2' := p2
      rw [← upV_same (V := V) (k := 8 + 5 * i + 2)] at p2'
      obtain ⟨σ2, s1, s2, s3⟩ := x_mixStep (w := 1) hV hC0 hi9 (by omega) p2'
      obtain ⟨σ3, r1, ⟨V', r2⟩, r3⟩ := x_mixLoop (p := nI p) hV hC0 hi9 14 0 4999 1 σ2 (by omega) (by omega) s2
      have hs : xscr σ σ3 := by
        have hq : ∀ q, (q < 39 ∨ 58 ≤ q) → σ3 q = σ q := fun q hq => by rw [r3 q hq, s3 q hq, p3 q hq]
        refine ⟨fun q a b c d => hq q (by omega), ?_, ?_, ?_, r2.2.2.2.2.2.2.2.2.1, r2.2.2.2.2.2.2.2.2.2⟩
        · unfold Zero3
          rw [hq 59 (by omega), hq 60 (by omega), hq 61 (by omega)]
          exact hz.1
        · rw [hq 22 (by omega)]
          exact hz.2.1
        · rw [hq 26 (by omega)]
          exact hz.2.2.1
      refine ⟨if p = 0 then nI (mixB V C0 i 14) else givesV V C0 i (mixB V C0 i 14), (V, Z, C0, C1, T, W, K, g, E, Tr, Sh), w, XO.scr hx hs ?_, fun τ hm => ?_⟩
      · have r1' : f_X8_mixes_b55 4999 0 (nI p) (some (39 + 10 + i)) 1 (givesV V C0 i 1) (1 + 1) σ2 = _ := r1
        have hfirst := x_mixFirst (F := 4999) (p := nI p) hi9 (show f_X6_gives 39 (39 + 10 + i) (om_w σ1 (39 + 10 + i) 2 1) = _ from s1)
        show f_X8_mixes 0 (nI i) (nI p) σ = _
        unfold f_X8_mixes
        simp only [kX, rX, om_ref_s, if_true, call_s, om_nul_s, hat, tk1m hi9, x_isWithin, p1, do_s, hat2]
        rw [bI_y h, show om_F = 4999 + 1 from rfl, hfirst, r1']
        unfold f_X8_mixes_b108
        by_cases e0 : p = 0
        · subst e0
          rw [if_pos (by decide), if_pos rfl]
        · rw [if_neg (nI_ne0 (by omega) (by omega)), if_neg e0]
      · obtain ⟨τ', v1, v2⟩ := m_mixLoop (p := p) hp hC0 hi9 14 0 om_F τ (by omega) (lt_F (by omega)) hm.1.1
        refine MO.scr hm (mscr.l hm v2) ?_
        show f_X9_mixes 90 (nI i) (nI p) τ = _
        unfold f_X9_mixes
        simp only [kM, if_true, call_s, isMem_y h6 hm.1.1 hi, m_in, n10, if_false]
        rw [bI_y h]
        exact v1
    · refine ⟨rfE 1, (V, Z, C0, C1, T, W, K, g, upE E 1, Tr, Sh), w, XO.no0 hx (k := 1) (by omega) ?_, fun τ hm => MO.no0 hm (k := 1) (by omega) ?_⟩
      · show f_X8_mixes 0 (nI i) v σ = _
        unfold f_X8_mixes f_X8_mixes_b20
        simp only [kX, rX, om_ref_s, if_true, call_s, let_s, om_nul_s, om_nul_n, hat, tk1m hi9, x_isWithin]
        rw [bI_n h]
        exact Eq.refl _
      · show f_X9_mixes 90 (nI i) v τ = _
        unfold f_X9_mixes f_X9_mixes_b17
        simp only [kM, rM, aM, om_ref_s, if_true, call_s, let_s, isMem_y h6 hm.1.1 hi, m_in, n10, if_false]
        rw [bI_n h]
        exact Eq.refl _
def oddN (V : Nat → Nat) (C0 C1 : List Int32) : Nat → Nat
  | 0 => 0
  | w + 1 => if (pickV (upV V 0 w) C0 C1 (-1)).isSome = true then oddN V C0 C1 w + 1 else oddN V C0 C1 w
theorem oddN_le (V : Nat → Nat) (C0 C1 : List Int32) : ∀ w, oddN V C0 C1 w ≤ w := by
  intro w
  induction w with
  | zero => exact Nat.le_refl _
  | succ w ih =>
    unfold oddN
    split <;> omega
theorem low_s {v0 v1 : Int32} {σ : om_S} : ∀ (F : Nat) (v2 : Int32), f_X8_inLowestTerms_b3 F v0 v1 v2 σ = (f_X8_inLowestTerms_b3 F v0 v1 v2 om_s0).map (fun q => (q.1, σ)) := by
  intro F
  induction F with
  | zero =>
    intro v2
    rfl
  | succ F ih =>
    intro v2
    unfold f_X8_inLowestTerms_b3 f_X8_inLowestTerms_b24
    simp only [ih]
    repeat' split
    all_goals first | rfl | simp_all
theorem div_s {σ : om_S} : ∀ (F : Nat) (v2 v3 : Int32), f_X9_divisor_b4 F v2 v3 σ = (f_X9_divisor_b4 F v2 v3 om_s0).map (fun q => (q.1, σ)) := by
  intro F
  induction F with
  | zero =>
    intro v2 v3
    rfl
  | succ F ih =>
    intro v2 v3
    unfold f_X9_divisor_b4
    simp only [ih]
    repeat' split
    all_goals first | rfl | simp_all
theorem map_s {o : Option (Int32 × om_S)} {r : Int32} {σ : om_S} (h : o.map Prod.fst = some r) : o.map (fun q => (q.1, σ)) = some (r, σ) := by
  cases o with
  | none => cases h
  | some q =>
    have h2 : q.1 = r := Option.some.inj h
    show some (q.1, σ) = _
    rw [h2]
def gd (l : Nat) : Nat := if l = 0 then 10 else if l = 10 then 10 else if l = 5 then 5 else if l % 2 = 0 then 2 else 1
theorem low_all : ∀ l, l < 11 → (f_X8_inLowestTerms_b3 om_F (nI l) 10 10 om_s0).map Prod.fst = some (nI l / nI (gd l)) ∧ (f_X8_inLowestTerms_b3 om_F 10 (nI l) 10 om_s0).map Prod.fst = some (10 / nI (gd l)) ∧ (f_X9_divisor_b4 om_F (nI l) 10 om_s0).map Prod.fst = some (nI (gd l)) ∧ ¬ nI (gd l) = 0 := by decide +kernel
theorem x_oddLoop {V : Nat → Nat} {Z : Int32} {C0 C1 : List Int32} {p : Nat} (hp : p ≤ 1) (hV : WV V) (hC0 : WC C0) (hC1 : WC C1) :
    ∀ (n w F w0 : Nat) (σ : om_S), w + n = 10 → n < F → XT 39 (upV V 0 w0) Z C0 C1 σ → Zero3 σ →
    ∃ σ', f_X8_odds_b30 F 0 (nI p) (nI (oddN V C0 C1 w)) (nI w) σ = some (if p = 0 then nI (oddN V C0 C1 10) / nI (gd (oddN V C0 C1 10)) else 10 / nI (gd (oddN V C0 C1 10)), σ') ∧ (∃ V', XT 39 V' Z C0 C1 σ') ∧ Zero3 σ' ∧ ∀ q, (q < 39 ∨ 62 ≤ q) → σ' q = σ q := by
  intro n
  induction n with
  | zero =>
    intro w F w0 σ hw hF hX z
    obtain ⟨F, rfl⟩ : ∃ G, F = G + 1 := ⟨F - 1, by omega⟩
    have hw10 : w = 10 := by omega
    subst hw10
    have hle := oddN_le V C0 C1 10
    obtain ⟨a1, a2, a3, a4⟩ := low_all (oddN V C0 C1 10) (by omega)
    refine ⟨σ, ?_, ⟨_, hX⟩, z, fun _ _ => rfl⟩
    unfold f_X8_odds_b30 f_X8_inLowestTerms
    rw [if_pos (by decide)]
    by_cases e0 : p = 0
    · subst e0
      rw [if_pos (by decide), if_pos rfl, low_s, map_s a1, call_s]
    · rw [if_neg (nI_ne0 (by omega) (by omega)), if_neg e0, low_s, map_s a2, call_s]
  | succ n ih =>
    intro w F w0 σ hw hF hX z
    obtain ⟨F, rfl⟩ : ∃ G, F = G + 1 := ⟨F - 1, by omega⟩
    have hX1 : XT 39 (upV (upV V 0 w0) 0 w) Z C0 C1 (om_w σ 39 4 (nI w)) := hX.setN (f := 4) (v := w) (Or.inr (Or.inl rfl))
    rw [upV_upV] at hX1
    have z1 : Zero3 (om_w σ 39 4 (nI w)) := by
      unfold Zero3
      rw [om_w_k (by omega), om_w_k (by omega), om_w_k (by omega)]
      exact z
    obtain ⟨σ1, p1, p2, p3, p4, p5⟩ := x_find (sp := -1) T39 (hV.setN (v := w) (by omega)) hC0 hC1 hX1 z1
    have hX2 : XT 39 (upV V 0 w) Z C0 C1 σ1 := hX1.congr fun k a b c d => p5 k (by unfold scrX; omega)
    obtain ⟨σ', q1, q2, q3, q4⟩ := ih (w + 1) F w σ1 (by omega) (by omega) hX2 p4
    refine ⟨σ', ?_, q2, q3, fun q hq => by rw [q4 q hq, p5 q (by unfold scrX; omega), om_w_off (by omega)]⟩
    unfold f_X8_odds_b30 f_X8_odds_b62
    rw [if_neg (show ¬ (9 : Int32) < nI w from nI_nlt (b := w) (a := 9) (by omega) (by omega))]
    simp only [kX, rX, om_ref_s, if_true, let_s, p1, call_s, nI_1]
    have e : oddN V C0 C1 (w + 1) = if (pickV (upV V 0 w) C0 C1 (-1)).isSome = true then oddN V C0 C1 w + 1 else oddN V C0 C1 w := rfl
    by_cases gg : (pickV (upV V 0 w) C0 C1 (-1)).isSome = true
    · rw [bI_y gg]
      rw [if_pos gg] at e
      rw [e] at q1
      exact q1
    · rw [bI_n gg]
      rw [if_neg gg] at e
      rw [e] at q1
      exact q1
theorem m_oddLoop {V : Nat → Nat} {Z : Int32} {C0 C1 : List Int32} {p : Nat} (hp : p ≤ 1) (hV : WV V) (hC0 : WC C0) (hC1 : WC C1) :
    ∀ (n w F w0 : Nat) (σ : om_S), w + n = 10 → n < F → MT 91 (upV V 0 w0) Z C0 C1 σ → σ 90 5 = -1 → σ 98 0 = 0 → σ 99 0 = 0 →
    ∃ σ', f_X9_odds_b27 F 90 (nI p) (nI (V 0)) (nI (oddN V C0 C1 w)) (nI w) σ = some (if p = 0 then nI (oddN V C0 C1 10) / nI (gd (oddN V C0 C1 10)) else 10 / nI (gd (oddN V C0 C1 10)), σ') ∧ MT 91 V Z C0 C1 σ' ∧ σ' 98 0 = 0 ∧ σ' 99 0 = 0 ∧ mfr σ σ' := by
  intro n
  induction n with
  | zero =>
    intro w F w0 σ hw hF hX h5 z1 z2
    obtain ⟨F, rfl⟩ : ∃ G, F = G + 1 := ⟨F - 1, by omega⟩
    have hw10 : w = 10 := by omega
    subst hw10
    have hle := oddN_le V C0 C1 10
    obtain ⟨a1, a2, a3, a4⟩ := low_all (oddN V C0 C1 10) (by omega)
    have hX1 := hX.setN (k := 0) (v := V 0) (by omega) (by omega)
    rw [upV_upV, upV_same] at hX1
    refine ⟨om_w σ 91 0 (nI (V 0)), ?_, hX1, by rw [om_w_k (by omega)]; exact z1, by rw [om_w_k (by omega)]; exact z2, fun q a _ _ _ _ => om_w_off a, K91.refl.w (by omega) (by omega) (by omega)⟩
    unfold f_X9_odds_b27 f_X9_divisor
    rw [if_pos (by decide)]
    simp only [kM, rM, aM, om_ref_s, if_true, let_s, in0_387, cl0]
    rw [div_s, map_s a3, call_s]
    by_cases e0 : p = 0
    · subst e0
      rw [if_pos (by decide), if_pos rfl, if_pos a4]
    · rw [if_neg (nI_ne0 (by omega) (by omega)), if_neg e0, if_pos a4]
  | succ n ih =>
    intro w F w0 σ hw hF hX h5 z1 z2
    obtain ⟨F, rfl⟩ : ∃ G, F = G + 1 := ⟨F - 1, by omega⟩
    have hX1 := hX.setN (k := 0) (v := w) (by omega) (by omega)
    rw [upV_upV] at hX1
    obtain ⟨σ1, p1, _, p3, p4, p5⟩ := m_tonightSet (sp := -1) (hV.setN (v := w) (by omega)) hC0 hC1 hX1 (by rw [om_w_k (by omega)]; exact h5) (by rw [om_w_k (by omega)]; exact z1) (by rw [om_w_k (by omega)]; exact z2)
    have hX2 : MT 91 (upV V 0 w) Z C0 C1 σ1 := hX1.congr (p5 91 (by omega) (by omega) (by omega) (by omega))
    have hf : mfr σ σ1 := ⟨fun q a b c d e => by rw [p5 q b c d e, om_w_off a], fun j hj => by rw [p5 91 (by omega) (by omega) (by omega) (by omega), om_w_j (by omega)]⟩
    obtain ⟨σ', q1, q2, q3, q4, q5⟩ := ih (w + 1) F w σ1 (by omega) (by omega) hX2 (by rw [hf.1 90 (by omega) (by omega) (by omega) (by omega) (by omega)]; exact h5) p3 p4
    refine ⟨σ', ?_, q2, q3, q4, hf.trans q5⟩
    unfold f_X9_odds_b27 f_X9_odds_b56
    rw [if_neg (show ¬ (9 : Int32) < nI w from nI_nlt (b := w) (a := 9) (by omega) (by omega))]
    simp only [kM, rM, aM, om_ref_s, if_true, let_s, in0_387, cl0, p1, call_s, nI_1]
    have e : oddN V C0 C1 (w + 1) = if (pickV (upV V 0 w) C0 C1 (-1)).isSome = true then oddN V C0 C1 w + 1 else oddN V C0 C1 w := rfl
    cases ho : pickV (upV V 0 w) C0 C1 (-1) with
    | none =>
      rw [ho, if_neg (by exact Bool.false_ne_true)] at e
      rw [e] at q1
      rw [if_pos (show triI none = -1 from rfl), Int32.add_zero]
      exact q1
    | some t =>
      have ht := (pick_el (hV.setN (v := w) (by omega)) ho).1
      rw [ho, if_pos (show (some t).isSome = true from rfl)] at e
      rw [e] at q1
      rw [if_neg (show ¬ triI (some t) = -1 from nI_nm1 (by omega))]
      exact q1
theorem op_odds (v : Int32) : Sim (fun σ => f_X8_odds 0 v σ) (fun σ => f_X9_odds 90 v σ) := by
  refine sim_of fun s σ w hx => ?_
  obtain ⟨V, Z, C0, C1, T, W, K, g, E, Tr, Sh⟩ := s
  have hV : WV V := w.1.1
  have hC0 : WC C0 := w.1.2.2.1
  have hC1 : WC C1 := w.1.2.2.2.1
  by_cases h : (0 : Int32) ≤ v ∧ v ≤ 1
  · obtain ⟨p, hp, rfl⟩ := win (n := 1) h (by decide) rfl (by decide)
    have hz := hx.xz
    obtain ⟨σ1, p1, p2, p3⟩ := x_towerCopy (b := 39) (b2 := 1) T39 T1 (by omega) hC0.1 hC1.1 hx.1.1 hz.2.2.2.1 hz.2.2.2.2
    have z1 : Zero3 σ1 := by
      unfold Zero3
      rw [p3 59 (by omega), p3 60 (by omega), p3 61 (by omega)]
      exact hz.1
    have p2' := p2
    rw [← upV_same (V := V) (k := 0)] at p2'
    obtain ⟨σ2, r1, ⟨V', r2⟩, r3, r4⟩ := x_oddLoop hp hV hC0 hC1 10 0 om_F (V 0) σ1 (by omega) (lt_F (by omega)) p2' z1
    have hs : xscr σ σ2 := by
      refine ⟨fun q a b c d => by rw [r4 q (by omega), p3 q (by omega)], r3, ?_, ?_, r2.2.2.2.2.2.2.2.2.1, r2.2.2.2.2.2.2.2.2.2⟩
      · rw [r4 22 (by omega), p3 22 (by omega)]
        exact hz.2.1
      · rw [r4 26 (by omega), p3 26 (by omega)]
        exact hz.2.2.1
    refine ⟨if p = 0 then nI (oddN V C0 C1 10) / nI (gd (oddN V C0 C1 10)) else 10 / nI (gd (oddN V C0 C1 10)), (V, Z, C0, C1, T, W, K, g, E, Tr, Sh), w, XO.scr hx hs ?_, fun τ hm => ?_⟩
    · show f_X8_odds 0 (nI p) σ = _
      unfold f_X8_odds
      simp only [kX, rX, om_ref_s, if_true, call_s, x_isWithin, p1, do_s]
      rw [bI_y h]
      exact r1
    · have hM := hm.1.1
      rw [← upV_same (V := V) (k := 0)] at hM
      obtain ⟨τ', v1, v2, v3, v4, v5⟩ := m_oddLoop hp hV hC0 hC1 10 0 om_F (V 0) τ (by omega) (lt_F (by omega)) hM hm.mz.1 hm.mz.2.1 hm.mz.2.2
      refine ⟨τ', ?_, hm.night v2 v3 v4 v5, fun q hq => v5.1 q (by omega) (by omega) (by omega) (by omega) (by omega)⟩
      show f_X9_odds 90 (nI p) τ = _
      unfold f_X9_odds
      simp only [kM, rM, aM, om_ref_s, if_true, m_in, call_s, let_s, in0_387, cl0, hm.1.1.2.1]
      rw [bI_y h]
      exact v1
  · refine ⟨rfE 1, (V, Z, C0, C1, T, W, K, g, upE E 1, Tr, Sh), w, XO.no0 hx (k := 1) (by omega) ?_, fun τ hm => MO.no0 hm (k := 1) (by omega) ?_⟩
    · show f_X8_odds 0 v σ = _
      unfold f_X8_odds 
      simp only [kX, rX, om_ref_s, if_true, call_s, let_s, om_nul_s, om_nul_n, x_isWithin]
      rw [bI_n h]
      exact Eq.refl _
    · show f_X9_odds 90 v τ = _
      unfold f_X9_odds 
      simp only [kM, rM, aM, om_ref_s, if_true, call_s, let_s, m_in]
      rw [bI_n h]
      exact Eq.refl _
