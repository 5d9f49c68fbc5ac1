/-! ===== the walked machine: a store of ints, references that stay, cells by number ===== -/
abbrev om_S : Type := Nat → Nat → Int32
abbrev om_R : Type := Nat → Nat → Option Nat
abbrev om_V : Type := Int32 ⊕ Int64 ⊕ Option Nat
abbrev vI (x : Int32) : om_V := Sum.inl x
abbrev vL (x : Int64) : om_V := Sum.inr (Sum.inl x)
abbrev vR (r : Option Nat) : om_V := Sum.inr (Sum.inr r)
def om_w (σ : om_S) (k j : Nat) (v : Int32) : om_S := fun a b => if a = k ∧ b = j then v else σ a b
def om_wr (ρ : om_R) (k j : Nat) (v : Option Nat) : om_R := fun a b => if a = k ∧ b = j then v else ρ a b
def om_z (σ : om_S) (k : Nat) : om_S := fun a b => if a = k then 0 else σ a b
def om_zr (ρ : om_R) (k : Nat) : om_R := fun a b => if a = k then none else ρ a b
def om_sh : List (Nat × Nat) := [(8, 13), (6, 8), (21, 9), (5, 3), (3, 2), (20, 60), (20, 60), (5, 3), (3, 2), (20, 60), (20, 60), (1, 5), (1, 5), (1, 5), (1, 5), (1, 5), (1, 5), (1, 5), (1, 5), (1, 5), (6, 8), (21, 9), (5, 3), (3, 2), (20, 60), (20, 60), (5, 3), (3, 2), (20, 60), (20, 60), (1, 5), (1, 5), (1, 5), (1, 5), (1, 5), (1, 5), (1, 5), (1, 5), (1, 5), (6, 8), (21, 9), (5, 3), (3, 2), (20, 60), (20, 60), (5, 3), (3, 2), (20, 60), (20, 60), (1, 5), (1, 5), (1, 5), (1, 5), (1, 5), (1, 5), (1, 5), (1, 5), (1, 5), (0, 5), (20, 512), (20, 512), (20, 512), (3, 2), (20, 60), (3, 2), (20, 60), (3, 2), (20, 24), (3, 2), (20, 24), (2, 4), (5, 3), (3, 2), (20, 60), (20, 60), (3, 2), (20, 60), (7, 5), (3, 2), (20, 30), (22, 4), (20, 7), (4, 3), (20, 24), (4, 3), (20, 24), (4, 3), (20, 24), (4, 3), (20, 24), (9, 23), (20, 387), (20, 387), (20, 53), (20, 7), (20, 124), (20, 128), (20, 64), (20, 512), (20, 512), (20, 30), (20, 4), (20, 4), (20, 96), (20, 24)]
def om_kc (k : Nat) : Nat := (om_sh.getD k (99, 0)).1
def om_al (k : Nat) : Nat := (om_sh.getD k (99, 0)).2
def om_rl : List (List (Option Nat)) := [[some 1, some 20, some 39, some 58, some 62, some 64, some 66, some 68, some 70, some 77, some 80, some 81, none], [some 2, some 3, some 7, none, none, none, none, none], [some 11, some 12, some 13, some 14, some 15, some 16, some 17, some 18, some 19], [none, some 4, some 6], [some 5, none], [], [], [none, some 8, some 10], [some 9, none], [], [], [none, none, none, none, none], [none, none, none, none, none], [none, none, none, none, none], [none, none, none, none, none], [none, none, none, none, none], [none, none, none, none, none], [none, none, none, none, none], [none, none, none, none, none], [none, none, none, none, none], [some 21, some 22, some 26, none, none, none, none, none], [some 30, some 31, some 32, some 33, some 34, some 35, some 36, some 37, some 38], [none, some 23, some 25], [some 24, none], [], [], [none, some 27, some 29], [some 28, none], [], [], [none, none, none, none, none], [none, none, none, none, none], [none, none, none, none, none], [none, none, none, none, none], [none, none, none, none, none], [none, none, none, none, none], [none, none, none, none, none], [none, none, none, none, none], [none, none, none, none, none], [some 40, some 41, some 45, none, none, none, none, none], [some 49, some 50, some 51, some 52, some 53, some 54, some 55, some 56, some 57], [none, some 42, some 44], [some 43, none], [], [], [none, some 46, some 48], [some 47, none], [], [], [none, none, none, none, none], [none, none, none, none, none], [none, none, none, none, none], [none, none, none, none, none], [none, none, none, none, none], [none, none, none, none, none], [none, none, none, none, none], [none, none, none, none, none], [none, none, none, none, none], [some 59, some 60, some 61, none, none], [], [], [], [some 63, none], [], [some 65, none], [], [some 67, none], [], [some 69, none], [], [some 71, some 75, none, none], [none, some 72, some 74], [some 73, none], [], [], [some 76, none], [], [some 78, none, none, none, none], [some 79, none], [], [some 82, some 84, some 86, some 88], [], [some 83, none, none], [], [some 85, none, none], [], [some 87, none, none], [], [some 89, none, none], [], [some 91, some 92, some 93, none, some 94, none, none, none, none, none, some 95, some 96, some 97, some 98, some 99, none, some 100, none, none, some 101, some 102, some 103, some 104], [], [], [], [], [], [], [], [], [], [], [], [], [], []]
def om_rf : om_R := fun k j => (om_rl.getD k []).getD j none
def om_nf (c : Nat) : Nat := ([5, 5, 4, 2, 3, 3, 8, 5, 13, 23] : List Nat).getD c 0
def om_isr (c j : Nat) : Bool := (([[true, true, true, false, false], [false, false, false, false, false], [true, true, false, false], [true, false], [true, false, false], [false, true, true], [true, true, true, false, false, false, false, false], [true, false, false, false, false], [true, true, true, true, true, true, true, true, true, true, true, true, false], [true, true, true, false, true, false, false, false, false, false, true, true, true, true, true, false, true, false, false, true, true, true, true]] : List (List Bool)).getD c []).getD j false
def om_N : Nat := 105
def om_ka (j : Nat) : Int32 := ([-1, 0, 0, 0, 1, 2, 0] : List Int32).getD j 0
abbrev om_in (i : Int32) (n : Nat) : Prop := ¬ (i < 0 ∨ n ≤ i.toNatClampNeg)
theorem om_len : om_sh.length = om_N := rfl
theorem om_lt {k c : Nat} (h : om_kc k = c) (hc : c ≠ 99) : k < om_N := by
  refine Nat.not_le.mp fun q => hc ?_
  rw [← h]
  unfold om_kc
  rw [List.getD_eq_getElem?_getD, List.getElem?_eq_none (by rw [om_len]; exact q)]
  rfl
/-- the run: layouts, the heap at the law's start, the array classes, where the table of kinds lies, the script -/
abbrev om_G : Type := va_G × Heap × (ClassId × ClassId × ClassId) × Nat × Nat × Nat × (Nat → Int32)
def om_ad (G : om_G) (k : Nat) : Nat := if k = 900 then G.2.2.2.1 else if k = 901 then G.2.2.2.2.1 else G.2.1.size + k
def om_cv (G : om_G) : om_V → Value
  | .inl x => .int x
  | .inr (.inl x) => .long x
  | .inr (.inr r) => va_rf (r.map (om_ad G))
def om_fs (G : om_G) (σ : om_S) (ρ : om_R) (c k : Nat) : List Value := (List.range (om_nf c)).map fun j => if om_isr c j = true then va_rf ((ρ k j).map (om_ad G)) else .int (σ k j)
def om_rs (G : om_G) (ρ : om_R) (k : Nat) : Nat → Option Nat := fun j => if j < om_al k then (ρ k j).map (om_ad G) else none
def om_ent (G : om_G) (σ : om_S) (ρ : om_R) (k : Nat) : va_E :=
  if om_kc k = 20 then .inl (G.2.2.1.1, om_al k, .inl (σ k))
  else if om_kc k = 21 then .inl (G.2.2.1.2.1, om_al k, .inr (.inr (.inr (.inr (om_rs G ρ k)))))
  else if om_kc k = 22 then .inl (G.2.2.1.2.2, om_al k, .inr (.inr (.inr (.inr (om_rs G ρ k)))))
  else .inr (om_kc k, om_fs G σ ρ (om_kc k) k)
def om_ws (G : om_G) (σ : om_S) (ρ : om_R) (n : Nat) : va_W := (List.range n).map fun k => (om_ad G k, om_ent G σ ρ k)
def om_A (G : om_G) : Nat → Prop := fun q => G.2.1.size ≤ q
def om_tys (G : om_G) : List (ClassId × FieldType) := [(G.2.2.1.1, .int), (G.2.2.1.2.1, .object "OilMemories$Memory"), (G.2.2.1.2.2, .object "OilMemories$Sheet")]
def om_Rep (G : om_G) (σ : om_S) (ρ : om_R) (n : Nat) (H : Heap) : Prop :=
  va_P G.1 vwCl (om_ws G σ ρ n) H ∧ va_D (om_A G) (om_ws G σ ρ n) ∧ H.size = G.2.1.size + n ∧ n ≤ om_N ∧ ∀ q : Nat, q < G.2.1.size → H[q]? = G.2.1[q]?

def om_Nw (U : State) : Prop := va_Nw (Cond.methodLinkNest RX6 45 yX1_init RX8) U ∧ va_Nw (Cond.methodLinkNest RX8 24 yX0_init RX8) U ∧ va_Nw (Cond.methodLinkNest RX8 49 yX2_init RX8) U ∧ va_Nw (Cond.methodLinkNest RX8 56 yX7_init RX8) U ∧ va_Nw (Cond.methodLinkNest RX8 75 yX4_init RX8) U ∧ va_Nw (Cond.fieldLinkNest RX1 27 RX8 "KIND_ABOVE" "[I" RX8) U
def om_Kn (G : om_G) (U : State) : Prop := va_K G.1 vwCl (om_tys G) U ∧ va_Z "OilMemories" "KIND_ABOVE" "[I" (.ref G.2.2.2.1) (om_A G) U G.2.1 ∧ va_T .int G.2.2.2.1 7 (fun j => .int (om_ka j)) (om_A G) U G.2.1 ∧ va_AO "OilMemories$Memory" U ∧ va_AO "OilMemories$Sheet" U ∧ om_Nw U
theorem om_Nw.warm {s U : State} (hW : s.WarmedH U.vm) (h : om_Nw s) : om_Nw U := by
  obtain ⟨h0, h1, h2, h3, h4, h5⟩ := h
  exact ⟨va_Nw.warmM hW h0, va_Nw.warmM hW h1, va_Nw.warmM hW h2, va_Nw.warmM hW h3, va_Nw.warmM hW h4, va_Nw.warmF hW h5⟩
theorem om_Nw.same {u U : State} (hW : u.vm = U.vm) (h : om_Nw u) : om_Nw U := by
  obtain ⟨h0, h1, h2, h3, h4, h5⟩ := h
  exact ⟨va_Nw.same rfl hW h0, va_Nw.same rfl hW h1, va_Nw.same rfl hW h2, va_Nw.same rfl hW h3, va_Nw.same rfl hW h4, va_Nw.same rfl hW h5⟩
theorem om_Kn.warm {G : om_G} {s U : State} (hW : s.WarmedH U.vm) (h : om_Kn G s) : om_Kn G U :=
  ⟨va_K.moved hW.alike h.1, va_Z.moved hW.alike h.2.1, va_T.moved hW.alike h.2.2.1, va_AO.moved hW.alike h.2.2.2.1, va_AO.moved hW.alike h.2.2.2.2.1, om_Nw.warm hW h.2.2.2.2.2⟩
theorem om_Kn.calling {G : om_G} {U : State} (g : JFrame) (mk : MethodId) (a : Array Value) (h : om_Kn G U) : om_Kn G (U.calling g mk a) :=
  ⟨va_K.moved (u := U) (U := U.calling g mk a) (Vm.Alike.refl U.vm) h.1, va_Z.moved (u := U) (U := U.calling g mk a) (Vm.Alike.refl U.vm) h.2.1, va_T.moved (u := U) (U := U.calling g mk a) (Vm.Alike.refl U.vm) h.2.2.1, va_AO.moved (u := U) (U := U.calling g mk a) (Vm.Alike.refl U.vm) h.2.2.2.1, va_AO.moved (u := U) (U := U.calling g mk a) (Vm.Alike.refl U.vm) h.2.2.2.2.1, om_Nw.same (u := U) (U := U.calling g mk a) rfl h.2.2.2.2.2⟩
-- the world as a list
theorem om_adN {G : om_G} {k : Nat} (h : k < om_N) : om_ad G k = G.2.1.size + k := by
  unfold om_ad
  have h2 : k < 105 := h
  rw [if_neg (by omega), if_neg (by omega)]
theorem om_ws_at {G : om_G} {σ : om_S} {ρ : om_R} {n k : Nat} (h : k < n) : (om_ws G σ ρ n)[k]? = some (om_ad G k, om_ent G σ ρ k) := by
  unfold om_ws
  rw [List.getElem?_map, List.getElem?_range h]
  rfl
theorem om_ws_len {G : om_G} {σ : om_S} {ρ : om_R} {n : Nat} : (om_ws G σ ρ n).length = n := by simp [om_ws]
theorem om_ent_o {G : om_G} {σ : om_S} {ρ : om_R} {k c : Nat} (h : om_kc k = c) (hc : c < 20) : om_ent G σ ρ k = .inr (c, om_fs G σ ρ c k) := by
  unfold om_ent
  rw [h, if_neg (by omega), if_neg (by omega), if_neg (by omega)]
theorem om_ent_i {G : om_G} {σ : om_S} {ρ : om_R} {k : Nat} (h : om_kc k = 20) : om_ent G σ ρ k = .inl (G.2.2.1.1, om_al k, .inl (σ k)) := by
  unfold om_ent
  rw [if_pos h]
theorem om_ent_m {G : om_G} {σ : om_S} {ρ : om_R} {k : Nat} (h : om_kc k = 21) : om_ent G σ ρ k = .inl (G.2.2.1.2.1, om_al k, .inr (.inr (.inr (.inr (om_rs G ρ k))))) := by
  unfold om_ent
  rw [h, if_neg (by omega), if_pos rfl]
theorem om_ent_s {G : om_G} {σ : om_S} {ρ : om_R} {k : Nat} (h : om_kc k = 22) : om_ent G σ ρ k = .inl (G.2.2.1.2.2, om_al k, .inr (.inr (.inr (.inr (om_rs G ρ k))))) := by
  unfold om_ent
  rw [h, if_neg (by omega), if_neg (by omega), if_pos rfl]
theorem om_fs_i {G : om_G} {σ : om_S} {ρ : om_R} {c k j : Nat} (hj : j < om_nf c) (hi : om_isr c j = false) : (om_fs G σ ρ c k)[j]? = some (.int (σ k j)) := by
  unfold om_fs
  rw [List.getElem?_map, List.getElem?_range hj]
  simp [hi]
theorem om_fs_r {G : om_G} {σ : om_S} {ρ : om_R} {c k j : Nat} (hj : j < om_nf c) (hi : om_isr c j = true) : (om_fs G σ ρ c k)[j]? = some (va_rf ((ρ k j).map (om_ad G))) := by
  unfold om_fs
  rw [List.getElem?_map, List.getElem?_range hj]
  simp [hi]
theorem om_fs_len {G : om_G} {σ : om_S} {ρ : om_R} {c k : Nat} : (om_fs G σ ρ c k).length = om_nf c := by simp [om_fs]
theorem om_w_off {σ : om_S} {k j a : Nat} {v : Int32} (h : a ≠ k) : om_w σ k j v a = σ a := by
  funext b
  unfold om_w
  rw [if_neg (fun q => h q.1)]
theorem om_wr_off {ρ : om_R} {k j a : Nat} {v : Option Nat} (h : a ≠ k) : om_wr ρ k j v a = ρ a := by
  funext b
  unfold om_wr
  rw [if_neg (fun q => h q.1)]
theorem om_ent_off {G : om_G} {σ σ' : om_S} {ρ ρ' : om_R} {k : Nat} (h : σ' k = σ k) (h2 : ρ' k = ρ k) : om_ent G σ' ρ' k = om_ent G σ ρ k := by
  unfold om_ent om_fs om_rs
  rw [h, h2]
theorem om_ws_set {G : om_G} {σ σ' : om_S} {ρ ρ' : om_R} {n k : Nat} {e : va_E} (hk : k < n) (h : ∀ a, a ≠ k → σ' a = σ a) (h2 : ∀ a, a ≠ k → ρ' a = ρ a) (he : om_ent G σ' ρ' k = e) : (om_ws G σ ρ n).set k (om_ad G k, e) = om_ws G σ' ρ' n := by
  apply List.ext_getElem?
  intro i
  by_cases hi : i < n
  · rw [om_ws_at hi]
    by_cases hik : i = k
    · subst hik
      rw [List.getElem?_set_self (by rw [om_ws_len]; exact hi), he]
    · rw [List.getElem?_set_ne (Ne.symm hik), om_ws_at hi, om_ent_off (h i hik) (h2 i hik)]
  · rw [List.getElem?_eq_none (by simp [om_ws_len]; omega), List.getElem?_eq_none (by rw [om_ws_len]; omega)]
theorem om_fs_put {G : om_G} {σ : om_S} {ρ : om_R} {c k j : Nat} {v : Int32} (hi : om_isr c j = false) : om_fs G (om_w σ k j v) ρ c k = (om_fs G σ ρ c k).set j (.int v) := by
  apply List.ext_getElem?
  intro i
  by_cases h : i < om_nf c
  · by_cases hij : i = j
    · subst hij
      rw [List.getElem?_set_self (by rw [om_fs_len]; exact h), om_fs_i h hi]
      simp [om_w]
    · rw [List.getElem?_set_ne (Ne.symm hij)]
      unfold om_fs
      rw [List.getElem?_map, List.getElem?_map, List.getElem?_range h]
      simp [om_w, hij]
  · rw [List.getElem?_eq_none (by rw [om_fs_len]; omega), List.getElem?_eq_none (by rw [List.length_set, om_fs_len]; omega)]
theorem om_fs_putR {G : om_G} {σ : om_S} {ρ : om_R} {c k j : Nat} {v : Option Nat} (hi : om_isr c j = true) : om_fs G σ (om_wr ρ k j v) c k = (om_fs G σ ρ c k).set j (va_rf (v.map (om_ad G))) := by
  apply List.ext_getElem?
  intro i
  by_cases h : i < om_nf c
  · by_cases hij : i = j
    · subst hij
      rw [List.getElem?_set_self (by rw [om_fs_len]; exact h), om_fs_r h hi]
      simp [om_wr]
    · rw [List.getElem?_set_ne (Ne.symm hij)]
      unfold om_fs
      rw [List.getElem?_map, List.getElem?_map, List.getElem?_range h]
      simp [om_wr, hij]
  · rw [List.getElem?_eq_none (by rw [om_fs_len]; omega), List.getElem?_eq_none (by rw [List.length_set, om_fs_len]; omega)]
-- the judgement
abbrev om_X : Type := om_G × Program × Launch × Env × Room × State × MethodId × Array Value × List Frame × Method × Code × Nat × (State → Prop)
def om_J : om_X → Nat → List (Nat × om_V) → List om_V → om_S → om_R → Nat → Nat → Nat → Prop
  | (G, p, l, e, R, s, m, args, below, meth, c, nL, Z), pc, lv, st, σ, ρ, n, cells, slots =>
    ∀ (H : Heap) (locs : List Loc) (ls : Array Slot), om_Rep G σ ρ n H → (∀ q ∈ locs, om_A G q.base) → lv_has ls nL (lv.map fun q => (q.1, om_cv G q.2)) → W p l e R s m args below meth c H locs cells slots Z (F0 m pc ls (st.map (om_cv G)))
def om_Ok : om_X → String → String → ByteArray → Nat → Option FieldType → Nat → Nat → Nat → Prop
  | (G, p, _, _, R, s, m, args, _, meth, c, nL, _), own, nm, cc, nL', ret, k, mc, ms =>
    p.tables.exec = Jvm.exec ∧ c.code = cc ∧ c.maxLocals = nL ∧ nL = nL' ∧ meth.sig.returnType = ret ∧ meth.locks = false ∧ meth.name = nm ∧ s.vm.findClass own = some m.cls ∧ (∀ w ∈ om_tbl, w.before args s = true) ∧ om_Kn G s ∧ k ≤ R.frames ∧ 40 * k ≤ R.locals ∧ mc ≤ R.cells ∧ ms ≤ R.slots
def om_Q (G : om_G) (v : Option om_V) (σ : om_S) (ρ : om_R) (n : Nat) : Array Value → State → Outcome → State → Prop := fun _ _ o t => o = .returned (v.map (om_cv G)) ∧ om_Rep G σ ρ n t.heap
def om_End : om_X → Option om_V → om_S → om_R → Nat → Nat → Nat → Prop
  | (G, _, _, _, _, s, _, args, below, _, _, _, Z), v, σ, ρ, n, mc, ms => Z = MQ below (om_Q G v σ ρ n) args s mc ms (om_A G)
theorem om_S0 {G : om_G} {σ : om_S} {ρ : om_R} {n : Nat} {H : Heap} {locs : List Loc} (h : om_Rep G σ ρ n H) (hL : ∀ q ∈ locs, om_A G q.base) : va_S (om_A G) G.2.1 H locs :=
  ⟨by rw [h.2.2.1]; exact Nat.le_add_right _ _, fun q h1 _ => h.2.2.2.2 q h1, hL⟩
theorem om_Rep.put {G : om_G} {σ σ' : om_S} {ρ ρ' : om_R} {n k : Nat} {e : va_E} {H H1 : Heap} {locs1 : List Loc} (h : om_Rep G σ ρ n H) (hz : H1.size = H.size) (hk : k < n) (ho : ∀ a, a ≠ k → σ' a = σ a) (ho2 : ∀ a, a ≠ k → ρ' a = ρ a) (he : om_ent G σ' ρ' k = e)
    (hP : va_P G.1 vwCl ((om_ws G σ ρ n).set k (om_ad G k, e)) H1) (hD : va_D (om_A G) ((om_ws G σ ρ n).set k (om_ad G k, e))) (hS : va_S (om_A G) G.2.1 H1 locs1) : om_Rep G σ' ρ' n H1 := by
  rw [om_ws_set hk ho ho2 he] at hP hD
  exact ⟨hP, hD, by rw [hz]; exact h.2.2.1, h.2.2.2.1, fun q hq => hS.2.1 q hq (Nat.not_le.mpr hq)⟩

theorem om_iconst {x : om_X} {own nm : String} {cc : ByteArray} {nL k mc ms : Nat} {ret : Option FieldType} (O : om_Ok x own nm cc nL ret k mc ms) {pc : Nat} {lv : List (Nat × om_V)} {st : List om_V} {σ : om_S} {ρ : om_R} {n cells slots : Nat} {z : Int} {v : Int32} (hd : decode cc pc = .ok (.iconst z, 1)) (hv : Int32.ofInt z = v) (K : om_J x (pc + 1) (lv) (vI v :: st) σ ρ n cells slots) : om_J x (pc) (lv) (st) σ ρ n cells slots := by
  obtain ⟨G, p, l, e, R, s, m, args, below, meth, c, nL1, Z⟩ := x
  obtain ⟨hx, hb, hml, hnL, hr, hlk, hnm, hown, hts, hK, hfr, hlo, hmc, hms⟩ := O
  intro H locs ls hP hL hl
  exact lv_iconst hx hb hd hv (K H locs ls hP hL hl)
theorem om_bipush {x : om_X} {own nm : String} {cc : ByteArray} {nL k mc ms : Nat} {ret : Option FieldType} (O : om_Ok x own nm cc nL ret k mc ms) {pc : Nat} {lv : List (Nat × om_V)} {st : List om_V} {σ : om_S} {ρ : om_R} {n cells slots : Nat} {z : Int} {v : Int32} (hd : decode cc pc = .ok (.bipush z, 2)) (hv : (Int8.ofInt z).toInt32 = v) (K : om_J x (pc + 2) (lv) (vI v :: st) σ ρ n cells slots) : om_J x (pc) (lv) (st) σ ρ n cells slots := by
  obtain ⟨G, p, l, e, R, s, m, args, below, meth, c, nL1, Z⟩ := x
  obtain ⟨hx, hb, hml, hnL, hr, hlk, hnm, hown, hts, hK, hfr, hlo, hmc, hms⟩ := O
  intro H locs ls hP hL hl
  exact lv_bipush hx hb hd hv (K H locs ls hP hL hl)
theorem om_sipush {x : om_X} {own nm : String} {cc : ByteArray} {nL k mc ms : Nat} {ret : Option FieldType} (O : om_Ok x own nm cc nL ret k mc ms) {pc : Nat} {lv : List (Nat × om_V)} {st : List om_V} {σ : om_S} {ρ : om_R} {n cells slots : Nat} {z : Int} {v : Int32} (hd : decode cc pc = .ok (.sipush z, 3)) (hv : (Int16.ofInt z).toInt32 = v) (K : om_J x (pc + 3) (lv) (vI v :: st) σ ρ n cells slots) : om_J x (pc) (lv) (st) σ ρ n cells slots := by
  obtain ⟨G, p, l, e, R, s, m, args, below, meth, c, nL1, Z⟩ := x
  obtain ⟨hx, hb, hml, hnL, hr, hlk, hnm, hown, hts, hK, hfr, hlo, hmc, hms⟩ := O
  intro H locs ls hP hL hl
  exact lv_sipush hx hb hd hv (K H locs ls hP hL hl)
theorem om_ldc {x : om_X} {own nm : String} {cc : ByteArray} {nL k mc ms : Nat} {ret : Option FieldType} (O : om_Ok x own nm cc nL ret k mc ms) {pc : Nat} {lv : List (Nat × om_V)} {st : List om_V} {σ : om_S} {ρ : om_R} {n cells slots : Nat} {index : Nat} {v : Int32} (hw : Cond.constant own index v ∈ om_tbl) (hd : decode cc pc = .ok (.ldc index, 2)) (K : om_J x (pc + 2) (lv) (vI v :: st) σ ρ n cells slots) : om_J x (pc) (lv) (st) σ ρ n cells slots := by
  obtain ⟨G, p, l, e, R, s, m, args, below, meth, c, nL1, Z⟩ := x
  obtain ⟨hx, hb, hml, hnL, hr, hlk, hnm, hown, hts, hK, hfr, hlo, hmc, hms⟩ := O
  intro H locs ls hP hL hl
  exact lv_ldc hx hb hown (hts _ hw) hd (K H locs ls hP hL hl)
theorem om_ldc2 {x : om_X} {own nm : String} {cc : ByteArray} {nL k mc ms : Nat} {ret : Option FieldType} (O : om_Ok x own nm cc nL ret k mc ms) {pc : Nat} {lv : List (Nat × om_V)} {st : List om_V} {σ : om_S} {ρ : om_R} {n cells slots : Nat} {index : Nat} {v : Int64} (hw : Cond.constantLong own index v ∈ om_tbl) (hd : decode cc pc = .ok (.ldc2_w index, 3)) (K : om_J x (pc + 3) (lv) (vL v :: st) σ ρ n cells slots) : om_J x (pc) (lv) (st) σ ρ n cells slots := by
  obtain ⟨G, p, l, e, R, s, m, args, below, meth, c, nL1, Z⟩ := x
  obtain ⟨hx, hb, hml, hnL, hr, hlk, hnm, hown, hts, hK, hfr, hlo, hmc, hms⟩ := O
  intro H locs ls hP hL hl
  exact lv_ldc2 hx hb hown (hts _ hw) hd (K H locs ls hP hL hl)
theorem om_null {x : om_X} {own nm : String} {cc : ByteArray} {nL k mc ms : Nat} {ret : Option FieldType} (O : om_Ok x own nm cc nL ret k mc ms) {pc : Nat} {lv : List (Nat × om_V)} {st : List om_V} {σ : om_S} {ρ : om_R} {n cells slots : Nat}  (hd : decode cc pc = .ok (.aconst_null, 1)) (K : om_J x (pc + 1) (lv) (vR none :: st) σ ρ n cells slots) : om_J x (pc) (lv) (st) σ ρ n cells slots := by
  obtain ⟨G, p, l, e, R, s, m, args, below, meth, c, nL1, Z⟩ := x
  obtain ⟨hx, hb, hml, hnL, hr, hlk, hnm, hown, hts, hK, hfr, hlo, hmc, hms⟩ := O
  intro H locs ls hP hL hl
  exact lv_null hx hb hd (K H locs ls hP hL hl)
theorem om_lv_at {G : om_G} {ls : Array Slot} {nL : Nat} {lv : List (Nat × om_V)} (h : lv_has ls nL (lv.map fun q => (q.1, om_cv G q.2))) (q : Nat) {i : Nat} {v : om_V} (hq : lv[q]? = some (i, v)) : ls[i]? = some (.val (om_cv G v)) :=
  lv_at h q (by rw [List.getElem?_map, hq]; rfl)
def om_c2 : om_V → Bool
  | .inr (.inl _) => true
  | _ => false
theorem om_cat2 (G : om_G) (v : om_V) : ((om_cv G v).category == 2) = om_c2 v := by
  rcases v with x | x | r
  · rfl
  · rfl
  · cases r <;> rfl
def om_keep (i : Nat) (q : Nat × om_V) : Bool := !(q.1 == i) && !(q.1 + 1 == i && om_c2 q.2)
theorem om_lv_store {G : om_G} {lv : List (Nat × om_V)} {i : Nat} {v : om_V} : (i, om_cv G v) :: (lv.map fun q => (q.1, om_cv G q.2)).filter (fun q => !(q.1 == i) && !(q.1 + 1 == i && q.2.category == 2)) = ((i, v) :: lv.filter (om_keep i)).map fun q => (q.1, om_cv G q.2) := by
  rw [List.map_cons, List.filter_map]
  have h : ((fun q : Nat × Value => !(q.1 == i) && !(q.1 + 1 == i && q.2.category == 2)) ∘ fun q : Nat × om_V => (q.1, om_cv G q.2)) = om_keep i := by
    funext q
    show (!(q.1 == i) && !(q.1 + 1 == i && (om_cv G q.2).category == 2)) = _
    rw [om_cat2]
    rfl
  rw [h]
theorem om_lv_pick {G : om_G} {ls : Array Slot} {nL : Nat} {lv lv' : List (Nat × om_V)} (h : lv_has ls nL (lv.map fun q => (q.1, om_cv G q.2))) (ks : List Nat) (hp : ks.filterMap (fun k => lv[k]?) = lv') : lv_has ls nL (lv'.map fun q => (q.1, om_cv G q.2)) := by
  refine lv_sub h ks ?_
  rw [← hp]
  unfold lv_pick
  rw [List.map_filterMap]
  congr 1
  funext k
  rw [List.getElem?_map]
theorem om_iload_n {x : om_X} {own nm : String} {cc : ByteArray} {nL k mc ms : Nat} {ret : Option FieldType} (O : om_Ok x own nm cc nL ret k mc ms) {pc : Nat} {lv : List (Nat × om_V)} {st : List om_V} {σ : om_S} {ρ : om_R} {n cells slots : Nat} {kk : Fin 4} {i : Nat} {v : Int32} (q : Nat) (hd : decode cc pc = .ok (.iload_n kk, 1)) (hq : lv[q]? = some (i, vI v)) (hi : (kk : Nat) = i) (K : om_J x (pc + 1) (lv) (vI v :: st) σ ρ n cells slots) : om_J x (pc) (lv) (st) σ ρ n cells slots := by
  obtain ⟨G, p, l, e, R, s, m, args, below, meth, c, nL1, Z⟩ := x
  obtain ⟨hx, hb, hml, hnL, hr, hlk, hnm, hown, hts, hK, hfr, hlo, hmc, hms⟩ := O
  intro H locs ls hP hL hl
  exact lv_iload_n hx hb hd hi (om_lv_at hl q hq) (K H locs ls hP hL hl)
theorem om_iload {x : om_X} {own nm : String} {cc : ByteArray} {nL k mc ms : Nat} {ret : Option FieldType} (O : om_Ok x own nm cc nL ret k mc ms) {pc : Nat} {lv : List (Nat × om_V)} {st : List om_V} {σ : om_S} {ρ : om_R} {n cells slots : Nat} {i : Nat} {v : Int32} (q : Nat) (hd : decode cc pc = .ok (.iload i, 2)) (hq : lv[q]? = some (i, vI v)) (K : om_J x (pc + 2) (lv) (vI v :: st) σ ρ n cells slots) : om_J x (pc) (lv) (st) σ ρ n cells slots := by
  obtain ⟨G, p, l, e, R, s, m, args, below, meth, c, nL1, Z⟩ := x
  obtain ⟨hx, hb, hml, hnL, hr, hlk, hnm, hown, hts, hK, hfr, hlo, hmc, hms⟩ := O
  intro H locs ls hP hL hl
  exact lv_iload hx hb hd (om_lv_at hl q hq) (K H locs ls hP hL hl)
theorem om_lload_n {x : om_X} {own nm : String} {cc : ByteArray} {nL k mc ms : Nat} {ret : Option FieldType} (O : om_Ok x own nm cc nL ret k mc ms) {pc : Nat} {lv : List (Nat × om_V)} {st : List om_V} {σ : om_S} {ρ : om_R} {n cells slots : Nat} {kk : Fin 4} {i : Nat} {v : Int64} (q : Nat) (hd : decode cc pc = .ok (.lload_n kk, 1)) (hq : lv[q]? = some (i, vL v)) (hi : (kk : Nat) = i) (K : om_J x (pc + 1) (lv) (vL v :: st) σ ρ n cells slots) : om_J x (pc) (lv) (st) σ ρ n cells slots := by
  obtain ⟨G, p, l, e, R, s, m, args, below, meth, c, nL1, Z⟩ := x
  obtain ⟨hx, hb, hml, hnL, hr, hlk, hnm, hown, hts, hK, hfr, hlo, hmc, hms⟩ := O
  intro H locs ls hP hL hl
  exact lv_lload_n hx hb hd hi (om_lv_at hl q hq) (K H locs ls hP hL hl)
theorem om_lload {x : om_X} {own nm : String} {cc : ByteArray} {nL k mc ms : Nat} {ret : Option FieldType} (O : om_Ok x own nm cc nL ret k mc ms) {pc : Nat} {lv : List (Nat × om_V)} {st : List om_V} {σ : om_S} {ρ : om_R} {n cells slots : Nat} {i : Nat} {v : Int64} (q : Nat) (hd : decode cc pc = .ok (.lload i, 2)) (hq : lv[q]? = some (i, vL v)) (K : om_J x (pc + 2) (lv) (vL v :: st) σ ρ n cells slots) : om_J x (pc) (lv) (st) σ ρ n cells slots := by
  obtain ⟨G, p, l, e, R, s, m, args, below, meth, c, nL1, Z⟩ := x
  obtain ⟨hx, hb, hml, hnL, hr, hlk, hnm, hown, hts, hK, hfr, hlo, hmc, hms⟩ := O
  intro H locs ls hP hL hl
  exact lv_lload hx hb hd (om_lv_at hl q hq) (K H locs ls hP hL hl)
theorem om_aload_n {x : om_X} {own nm : String} {cc : ByteArray} {nL k mc ms : Nat} {ret : Option FieldType} (O : om_Ok x own nm cc nL ret k mc ms) {pc : Nat} {lv : List (Nat × om_V)} {st : List om_V} {σ : om_S} {ρ : om_R} {n cells slots : Nat} {kk : Fin 4} {i : Nat} {v : Option Nat} (q : Nat) (hd : decode cc pc = .ok (.aload_n kk, 1)) (hq : lv[q]? = some (i, vR v)) (hi : (kk : Nat) = i) (K : om_J x (pc + 1) (lv) (vR v :: st) σ ρ n cells slots) : om_J x (pc) (lv) (st) σ ρ n cells slots := by
  obtain ⟨G, p, l, e, R, s, m, args, below, meth, c, nL1, Z⟩ := x
  obtain ⟨hx, hb, hml, hnL, hr, hlk, hnm, hown, hts, hK, hfr, hlo, hmc, hms⟩ := O
  intro H locs ls hP hL hl
  have h1 := om_lv_at hl q hq
  have h2 := K H locs ls hP hL hl
  cases v with
  | none => exact lv_aload_nN hx hb hd hi h1 h2
  | some a => exact lv_aload_n hx hb hd hi h1 h2
theorem om_aload {x : om_X} {own nm : String} {cc : ByteArray} {nL k mc ms : Nat} {ret : Option FieldType} (O : om_Ok x own nm cc nL ret k mc ms) {pc : Nat} {lv : List (Nat × om_V)} {st : List om_V} {σ : om_S} {ρ : om_R} {n cells slots : Nat} {i : Nat} {v : Option Nat} (q : Nat) (hd : decode cc pc = .ok (.aload i, 2)) (hq : lv[q]? = some (i, vR v)) (K : om_J x (pc + 2) (lv) (vR v :: st) σ ρ n cells slots) : om_J x (pc) (lv) (st) σ ρ n cells slots := by
  obtain ⟨G, p, l, e, R, s, m, args, below, meth, c, nL1, Z⟩ := x
  obtain ⟨hx, hb, hml, hnL, hr, hlk, hnm, hown, hts, hK, hfr, hlo, hmc, hms⟩ := O
  intro H locs ls hP hL hl
  have h1 := om_lv_at hl q hq
  have h2 := K H locs ls hP hL hl
  cases v with
  | none => exact lv_aloadN hx hb hd h1 h2
  | some a => exact lv_aload hx hb hd h1 h2
theorem om_istore_n {x : om_X} {own nm : String} {cc : ByteArray} {nL k mc ms : Nat} {ret : Option FieldType} (O : om_Ok x own nm cc nL ret k mc ms) {pc : Nat} {lv : List (Nat × om_V)} {st : List om_V} {σ : om_S} {ρ : om_R} {n cells slots : Nat} {kk : Fin 4} {i : Nat} {v0 v : Int32} {lv' : List (Nat × om_V)} (ks : List Nat) (hv : v0 = v) (hd : decode cc pc = .ok (.istore_n kk, 1)) (hi : (kk : Nat) = i) (hn : i < nL) (hl' : ks.filterMap (fun k => ((i, vI v) :: lv.filter (om_keep i))[k]?) = lv') (K : om_J x (pc + 1) (lv') (st) σ ρ n cells slots) : om_J x (pc) (lv) (vI v0 :: st) σ ρ n cells slots := by
  obtain ⟨G, p, l, e, R, s, m, args, below, meth, c, nL1, Z⟩ := x
  obtain ⟨hx, hb, hml, hnL, hr, hlk, hnm, hown, hts, hK, hfr, hlo, hmc, hms⟩ := O
  intro H locs ls hP hL hl
  subst hnL
  subst hv
  exact lv_istore_n (lv' := ((i, vI v0) :: lv.filter (om_keep i)).map fun q => (q.1, om_cv G q.2)) hx hb hd hi hl hn (om_lv_store (v := vI v0)) (fun ls' h' => K H locs ls' hP hL (om_lv_pick h' ks hl'))
theorem om_istore {x : om_X} {own nm : String} {cc : ByteArray} {nL k mc ms : Nat} {ret : Option FieldType} (O : om_Ok x own nm cc nL ret k mc ms) {pc : Nat} {lv : List (Nat × om_V)} {st : List om_V} {σ : om_S} {ρ : om_R} {n cells slots : Nat} {i : Nat} {v0 v : Int32} {lv' : List (Nat × om_V)} (ks : List Nat) (hv : v0 = v) (hd : decode cc pc = .ok (.istore i, 2)) (hn : i < nL) (hl' : ks.filterMap (fun k => ((i, vI v) :: lv.filter (om_keep i))[k]?) = lv') (K : om_J x (pc + 2) (lv') (st) σ ρ n cells slots) : om_J x (pc) (lv) (vI v0 :: st) σ ρ n cells slots := by
  obtain ⟨G, p, l, e, R, s, m, args, below, meth, c, nL1, Z⟩ := x
  obtain ⟨hx, hb, hml, hnL, hr, hlk, hnm, hown, hts, hK, hfr, hlo, hmc, hms⟩ := O
  intro H locs ls hP hL hl
  subst hnL
  subst hv
  exact lv_istore (lv' := ((i, vI v0) :: lv.filter (om_keep i)).map fun q => (q.1, om_cv G q.2)) hx hb hd hl hn (om_lv_store (v := vI v0)) (fun ls' h' => K H locs ls' hP hL (om_lv_pick h' ks hl'))
theorem om_astore_n {x : om_X} {own nm : String} {cc : ByteArray} {nL k mc ms : Nat} {ret : Option FieldType} (O : om_Ok x own nm cc nL ret k mc ms) {pc : Nat} {lv : List (Nat × om_V)} {st : List om_V} {σ : om_S} {ρ : om_R} {n cells slots : Nat} {kk : Fin 4} {i : Nat} {v : Option Nat} {lv' : List (Nat × om_V)} (ks : List Nat) (hd : decode cc pc = .ok (.astore_n kk, 1)) (hi : (kk : Nat) = i) (hn : i < nL) (hl' : ks.filterMap (fun k => ((i, vR v) :: lv.filter (om_keep i))[k]?) = lv') (K : om_J x (pc + 1) (lv') (st) σ ρ n cells slots) : om_J x (pc) (lv) (vR v :: st) σ ρ n cells slots := by
  obtain ⟨G, p, l, e, R, s, m, args, below, meth, c, nL1, Z⟩ := x
  obtain ⟨hx, hb, hml, hnL, hr, hlk, hnm, hown, hts, hK, hfr, hlo, hmc, hms⟩ := O
  intro H locs ls hP hL hl
  subst hnL
  cases v with
  | none => exact lv_astore_nN (lv' := ((i, vR none) :: lv.filter (om_keep i)).map fun q => (q.1, om_cv G q.2)) hx hb hd hi hl hn (om_lv_store (v := vR none)) (fun ls' h' => K H locs ls' hP hL (om_lv_pick h' ks hl'))
  | some a => exact lv_astore_n (lv' := ((i, vR (some a)) :: lv.filter (om_keep i)).map fun q => (q.1, om_cv G q.2)) hx hb hd hi hl hn (om_lv_store (v := vR (some a))) (fun ls' h' => K H locs ls' hP hL (om_lv_pick h' ks hl'))
theorem om_astore {x : om_X} {own nm : String} {cc : ByteArray} {nL k mc ms : Nat} {ret : Option FieldType} (O : om_Ok x own nm cc nL ret k mc ms) {pc : Nat} {lv : List (Nat × om_V)} {st : List om_V} {σ : om_S} {ρ : om_R} {n cells slots : Nat} {i : Nat} {v : Option Nat} {lv' : List (Nat × om_V)} (ks : List Nat) (hd : decode cc pc = .ok (.astore i, 2)) (hn : i < nL) (hl' : ks.filterMap (fun k => ((i, vR v) :: lv.filter (om_keep i))[k]?) = lv') (K : om_J x (pc + 2) (lv') (st) σ ρ n cells slots) : om_J x (pc) (lv) (vR v :: st) σ ρ n cells slots := by
  obtain ⟨G, p, l, e, R, s, m, args, below, meth, c, nL1, Z⟩ := x
  obtain ⟨hx, hb, hml, hnL, hr, hlk, hnm, hown, hts, hK, hfr, hlo, hmc, hms⟩ := O
  intro H locs ls hP hL hl
  subst hnL
  cases v with
  | none => exact lv_astoreN (lv' := ((i, vR none) :: lv.filter (om_keep i)).map fun q => (q.1, om_cv G q.2)) hx hb hd hl hn (om_lv_store (v := vR none)) (fun ls' h' => K H locs ls' hP hL (om_lv_pick h' ks hl'))
  | some a => exact lv_astore (lv' := ((i, vR (some a)) :: lv.filter (om_keep i)).map fun q => (q.1, om_cv G q.2)) hx hb hd hl hn (om_lv_store (v := vR (some a))) (fun ls' h' => K H locs ls' hP hL (om_lv_pick h' ks hl'))
theorem om_iinc {x : om_X} {own nm : String} {cc : ByteArray} {nL k mc ms : Nat} {ret : Option FieldType} (O : om_Ok x own nm cc nL ret k mc ms) {pc : Nat} {lv : List (Nat × om_V)} {st : List om_V} {σ : om_S} {ρ : om_R} {n cells slots : Nat} {i : Nat} {z : Int} {v0 v1 v : Int32} (q : Nat) {lv' : List (Nat × om_V)} (ks : List Nat) (hv1 : v1 = v) (hd : decode cc pc = .ok (.iinc i z, 3)) (hq : lv[q]? = some (i, vI v0)) (hv : v0 + Int32.ofInt z = v1) (hn : i < nL) (hl' : ks.filterMap (fun k => ((i, vI v) :: lv.filter (om_keep i))[k]?) = lv') (K : om_J x (pc + 3) (lv') (st) σ ρ n cells slots) : om_J x (pc) (lv) (st) σ ρ n cells slots := by
  obtain ⟨G, p, l, e, R, s, m, args, below, meth, c, nL1, Z⟩ := x
  obtain ⟨hx, hb, hml, hnL, hr, hlk, hnm, hown, hts, hK, hfr, hlo, hmc, hms⟩ := O
  intro H locs ls hP hL hl
  subst hnL
  subst hv1
  exact lv_iinc (k := q) (lv' := ((i, vI v1) :: lv.filter (om_keep i)).map fun q => (q.1, om_cv G q.2)) hx hb hd hl (by rw [List.getElem?_map, hq]; rfl) hv hn (om_lv_store (v := vI v1)) (fun ls' h' => K H locs ls' hP hL (om_lv_pick h' ks hl'))
theorem om_drop {x : om_X} {pc : Nat} {lv lv' : List (Nat × om_V)} {st : List om_V} {σ : om_S} {ρ : om_R} {n cells slots : Nat} (ks : List Nat) (hp : ks.filterMap (fun k => lv[k]?) = lv') (K : om_J x pc lv' st σ ρ n cells slots) : om_J x pc lv st σ ρ n cells slots := by
  obtain ⟨G, p, l, e, R, s, m, args, below, meth, c, nL1, Z⟩ := x
  intro H locs ls hP hL hl
  exact K H locs ls hP hL (om_lv_pick hl ks hp)
theorem om_eq {x : om_X} {pc pc' : Nat} {lv lv' : List (Nat × om_V)} {st st' : List om_V} {σ σ' : om_S} {ρ ρ' : om_R} {n n' cells slots : Nat} (h1 : pc = pc') (h2 : lv = lv') (h3 : st = st') (h4 : σ = σ') (h5 : ρ = ρ') (h6 : n = n') (K : om_J x pc' lv' st' σ' ρ' n' cells slots) : om_J x pc lv st σ ρ n cells slots := by
  subst h1; subst h2; subst h3; subst h4; subst h5; subst h6
  exact K
theorem om_widen {x : om_X} {pc : Nat} {lv : List (Nat × om_V)} {st : List om_V} {σ : om_S} {ρ : om_R} {n cells slots : Nat} (c2 s2 : Nat) (h1 : cells ≤ c2) (h2 : slots ≤ s2) (K : om_J x pc lv st σ ρ n c2 s2) : om_J x pc lv st σ ρ n cells slots := by
  obtain ⟨G, p, l, e, R, s, m, args, below, meth, c, nL1, Z⟩ := x
  intro H locs ls hP hL hl
  exact W.widen h1 h2 (K H locs ls hP hL hl)
theorem om_iadd {x : om_X} {own nm : String} {cc : ByteArray} {nL k mc ms : Nat} {ret : Option FieldType} (O : om_Ok x own nm cc nL ret k mc ms) {pc : Nat} {lv : List (Nat × om_V)} {st : List om_V} {σ : om_S} {ρ : om_R} {n cells slots : Nat} {a b : Int32} (hd : decode cc pc = .ok (.iadd, 1)) (K : om_J x (pc + 1) (lv) (vI (a + b) :: st) σ ρ n cells slots) : om_J x (pc) (lv) (vI b :: vI a :: st) σ ρ n cells slots := by
  obtain ⟨G, p, l, e, R, s, m, args, below, meth, c, nL1, Z⟩ := x
  obtain ⟨hx, hb, hml, hnL, hr, hlk, hnm, hown, hts, hK, hfr, hlo, hmc, hms⟩ := O
  intro H locs ls hP hL hl
  exact lv_iadd hx hb hd (K H locs ls hP hL hl)
theorem om_isub {x : om_X} {own nm : String} {cc : ByteArray} {nL k mc ms : Nat} {ret : Option FieldType} (O : om_Ok x own nm cc nL ret k mc ms) {pc : Nat} {lv : List (Nat × om_V)} {st : List om_V} {σ : om_S} {ρ : om_R} {n cells slots : Nat} {a b : Int32} (hd : decode cc pc = .ok (.isub, 1)) (K : om_J x (pc + 1) (lv) (vI (a - b) :: st) σ ρ n cells slots) : om_J x (pc) (lv) (vI b :: vI a :: st) σ ρ n cells slots := by
  obtain ⟨G, p, l, e, R, s, m, args, below, meth, c, nL1, Z⟩ := x
  obtain ⟨hx, hb, hml, hnL, hr, hlk, hnm, hown, hts, hK, hfr, hlo, hmc, hms⟩ := O
  intro H locs ls hP hL hl
  exact lv_isub hx hb hd (K H locs ls hP hL hl)
theorem om_imul {x : om_X} {own nm : String} {cc : ByteArray} {nL k mc ms : Nat} {ret : Option FieldType} (O : om_Ok x own nm cc nL ret k mc ms) {pc : Nat} {lv : List (Nat × om_V)} {st : List om_V} {σ : om_S} {ρ : om_R} {n cells slots : Nat} {a b : Int32} (hd : decode cc pc = .ok (.imul, 1)) (K : om_J x (pc + 1) (lv) (vI (a * b) :: st) σ ρ n cells slots) : om_J x (pc) (lv) (vI b :: vI a :: st) σ ρ n cells slots := by
  obtain ⟨G, p, l, e, R, s, m, args, below, meth, c, nL1, Z⟩ := x
  obtain ⟨hx, hb, hml, hnL, hr, hlk, hnm, hown, hts, hK, hfr, hlo, hmc, hms⟩ := O
  intro H locs ls hP hL hl
  exact lv_imul hx hb hd (K H locs ls hP hL hl)
theorem om_iand {x : om_X} {own nm : String} {cc : ByteArray} {nL k mc ms : Nat} {ret : Option FieldType} (O : om_Ok x own nm cc nL ret k mc ms) {pc : Nat} {lv : List (Nat × om_V)} {st : List om_V} {σ : om_S} {ρ : om_R} {n cells slots : Nat} {a b : Int32} (hd : decode cc pc = .ok (.iand, 1)) (K : om_J x (pc + 1) (lv) (vI (a &&& b) :: st) σ ρ n cells slots) : om_J x (pc) (lv) (vI b :: vI a :: st) σ ρ n cells slots := by
  obtain ⟨G, p, l, e, R, s, m, args, below, meth, c, nL1, Z⟩ := x
  obtain ⟨hx, hb, hml, hnL, hr, hlk, hnm, hown, hts, hK, hfr, hlo, hmc, hms⟩ := O
  intro H locs ls hP hL hl
  exact lv_iand hx hb hd (K H locs ls hP hL hl)
theorem om_ior {x : om_X} {own nm : String} {cc : ByteArray} {nL k mc ms : Nat} {ret : Option FieldType} (O : om_Ok x own nm cc nL ret k mc ms) {pc : Nat} {lv : List (Nat × om_V)} {st : List om_V} {σ : om_S} {ρ : om_R} {n cells slots : Nat} {a b : Int32} (hd : decode cc pc = .ok (.ior, 1)) (K : om_J x (pc + 1) (lv) (vI (a ||| b) :: st) σ ρ n cells slots) : om_J x (pc) (lv) (vI b :: vI a :: st) σ ρ n cells slots := by
  obtain ⟨G, p, l, e, R, s, m, args, below, meth, c, nL1, Z⟩ := x
  obtain ⟨hx, hb, hml, hnL, hr, hlk, hnm, hown, hts, hK, hfr, hlo, hmc, hms⟩ := O
  intro H locs ls hP hL hl
  exact lv_ior hx hb hd (K H locs ls hP hL hl)
theorem om_ixor {x : om_X} {own nm : String} {cc : ByteArray} {nL k mc ms : Nat} {ret : Option FieldType} (O : om_Ok x own nm cc nL ret k mc ms) {pc : Nat} {lv : List (Nat × om_V)} {st : List om_V} {σ : om_S} {ρ : om_R} {n cells slots : Nat} {a b : Int32} (hd : decode cc pc = .ok (.ixor, 1)) (K : om_J x (pc + 1) (lv) (vI (a ^^^ b) :: st) σ ρ n cells slots) : om_J x (pc) (lv) (vI b :: vI a :: st) σ ρ n cells slots := by
  obtain ⟨G, p, l, e, R, s, m, args, below, meth, c, nL1, Z⟩ := x
  obtain ⟨hx, hb, hml, hnL, hr, hlk, hnm, hown, hts, hK, hfr, hlo, hmc, hms⟩ := O
  intro H locs ls hP hL hl
  exact lv_ixor hx hb hd (K H locs ls hP hL hl)
theorem om_idiv {x : om_X} {own nm : String} {cc : ByteArray} {nL k mc ms : Nat} {ret : Option FieldType} (O : om_Ok x own nm cc nL ret k mc ms) {pc : Nat} {lv : List (Nat × om_V)} {st : List om_V} {σ : om_S} {ρ : om_R} {n cells slots : Nat} {a b : Int32} (hd : decode cc pc = .ok (.idiv, 1)) (hne : ¬ b = 0) (K : om_J x (pc + 1) (lv) (vI (a / b) :: st) σ ρ n cells slots) : om_J x (pc) (lv) (vI b :: vI a :: st) σ ρ n cells slots := by
  obtain ⟨G, p, l, e, R, s, m, args, below, meth, c, nL1, Z⟩ := x
  obtain ⟨hx, hb, hml, hnL, hr, hlk, hnm, hown, hts, hK, hfr, hlo, hmc, hms⟩ := O
  intro H locs ls hP hL hl
  exact lv_idiv hx hb hd hne (K H locs ls hP hL hl)
theorem om_irem {x : om_X} {own nm : String} {cc : ByteArray} {nL k mc ms : Nat} {ret : Option FieldType} (O : om_Ok x own nm cc nL ret k mc ms) {pc : Nat} {lv : List (Nat × om_V)} {st : List om_V} {σ : om_S} {ρ : om_R} {n cells slots : Nat} {a b : Int32} (hd : decode cc pc = .ok (.irem, 1)) (hne : ¬ b = 0) (K : om_J x (pc + 1) (lv) (vI (a - a / b * b) :: st) σ ρ n cells slots) : om_J x (pc) (lv) (vI b :: vI a :: st) σ ρ n cells slots := by
  obtain ⟨G, p, l, e, R, s, m, args, below, meth, c, nL1, Z⟩ := x
  obtain ⟨hx, hb, hml, hnL, hr, hlk, hnm, hown, hts, hK, hfr, hlo, hmc, hms⟩ := O
  intro H locs ls hP hL hl
  exact lv_irem hx hb hd hne (K H locs ls hP hL hl)
theorem om_ineg {x : om_X} {own nm : String} {cc : ByteArray} {nL k mc ms : Nat} {ret : Option FieldType} (O : om_Ok x own nm cc nL ret k mc ms) {pc : Nat} {lv : List (Nat × om_V)} {st : List om_V} {σ : om_S} {ρ : om_R} {n cells slots : Nat} {a : Int32} (hd : decode cc pc = .ok (.ineg, 1)) (K : om_J x (pc + 1) (lv) (vI (-a) :: st) σ ρ n cells slots) : om_J x (pc) (lv) (vI a :: st) σ ρ n cells slots := by
  obtain ⟨G, p, l, e, R, s, m, args, below, meth, c, nL1, Z⟩ := x
  obtain ⟨hx, hb, hml, hnL, hr, hlk, hnm, hown, hts, hK, hfr, hlo, hmc, hms⟩ := O
  intro H locs ls hP hL hl
  exact lv_ineg hx hb hd (K H locs ls hP hL hl)
theorem om_ishl {x : om_X} {own nm : String} {cc : ByteArray} {nL k mc ms : Nat} {ret : Option FieldType} (O : om_Ok x own nm cc nL ret k mc ms) {pc : Nat} {lv : List (Nat × om_V)} {st : List om_V} {σ : om_S} {ρ : om_R} {n cells slots : Nat} {a b : Int32} (hd : decode cc pc = .ok (.ishl, 1)) (K : om_J x (pc + 1) (lv) (vI (a <<< (b &&& 31)) :: st) σ ρ n cells slots) : om_J x (pc) (lv) (vI b :: vI a :: st) σ ρ n cells slots := by
  obtain ⟨G, p, l, e, R, s, m, args, below, meth, c, nL1, Z⟩ := x
  obtain ⟨hx, hb, hml, hnL, hr, hlk, hnm, hown, hts, hK, hfr, hlo, hmc, hms⟩ := O
  intro H locs ls hP hL hl
  exact lv_ishl hx hb hd (K H locs ls hP hL hl)
theorem om_ishr {x : om_X} {own nm : String} {cc : ByteArray} {nL k mc ms : Nat} {ret : Option FieldType} (O : om_Ok x own nm cc nL ret k mc ms) {pc : Nat} {lv : List (Nat × om_V)} {st : List om_V} {σ : om_S} {ρ : om_R} {n cells slots : Nat} {a b : Int32} (hd : decode cc pc = .ok (.ishr, 1)) (K : om_J x (pc + 1) (lv) (vI (a >>> (b &&& 31)) :: st) σ ρ n cells slots) : om_J x (pc) (lv) (vI b :: vI a :: st) σ ρ n cells slots := by
  obtain ⟨G, p, l, e, R, s, m, args, below, meth, c, nL1, Z⟩ := x
  obtain ⟨hx, hb, hml, hnL, hr, hlk, hnm, hown, hts, hK, hfr, hlo, hmc, hms⟩ := O
  intro H locs ls hP hL hl
  exact lv_ishr hx hb hd (K H locs ls hP hL hl)
theorem om_iushr {x : om_X} {own nm : String} {cc : ByteArray} {nL k mc ms : Nat} {ret : Option FieldType} (O : om_Ok x own nm cc nL ret k mc ms) {pc : Nat} {lv : List (Nat × om_V)} {st : List om_V} {σ : om_S} {ρ : om_R} {n cells slots : Nat} {a b : Int32} (hd : decode cc pc = .ok (.iushr, 1)) (K : om_J x (pc + 1) (lv) (vI ((a.toUInt32 >>> (b.toUInt32 &&& Int32.toUInt32 31)).toInt32) :: st) σ ρ n cells slots) : om_J x (pc) (lv) (vI b :: vI a :: st) σ ρ n cells slots := by
  obtain ⟨G, p, l, e, R, s, m, args, below, meth, c, nL1, Z⟩ := x
  obtain ⟨hx, hb, hml, hnL, hr, hlk, hnm, hown, hts, hK, hfr, hlo, hmc, hms⟩ := O
  intro H locs ls hP hL hl
  exact lv_iushr hx hb hd rfl (K H locs ls hP hL hl)
theorem om_lushr {x : om_X} {own nm : String} {cc : ByteArray} {nL k mc ms : Nat} {ret : Option FieldType} (O : om_Ok x own nm cc nL ret k mc ms) {pc : Nat} {lv : List (Nat × om_V)} {st : List om_V} {σ : om_S} {ρ : om_R} {n cells slots : Nat} {a : Int64} {b : Int32} (hd : decode cc pc = .ok (.lushr, 1)) (K : om_J x (pc + 1) (lv) (vL ((a.toUInt64 >>> (b.toInt64.toUInt64 &&& Int64.toUInt64 63)).toInt64) :: st) σ ρ n cells slots) : om_J x (pc) (lv) (vI b :: vL a :: st) σ ρ n cells slots := by
  obtain ⟨G, p, l, e, R, s, m, args, below, meth, c, nL1, Z⟩ := x
  obtain ⟨hx, hb, hml, hnL, hr, hlk, hnm, hown, hts, hK, hfr, hlo, hmc, hms⟩ := O
  intro H locs ls hP hL hl
  exact lv_lushr hx hb hd rfl (K H locs ls hP hL hl)
theorem om_lshl {x : om_X} {own nm : String} {cc : ByteArray} {nL k mc ms : Nat} {ret : Option FieldType} (O : om_Ok x own nm cc nL ret k mc ms) {pc : Nat} {lv : List (Nat × om_V)} {st : List om_V} {σ : om_S} {ρ : om_R} {n cells slots : Nat} {a : Int64} {b : Int32} (hd : decode cc pc = .ok (.lshl, 1)) (K : om_J x (pc + 1) (lv) (vL (a <<< (b.toInt64 &&& 63)) :: st) σ ρ n cells slots) : om_J x (pc) (lv) (vI b :: vL a :: st) σ ρ n cells slots := by
  obtain ⟨G, p, l, e, R, s, m, args, below, meth, c, nL1, Z⟩ := x
  obtain ⟨hx, hb, hml, hnL, hr, hlk, hnm, hown, hts, hK, hfr, hlo, hmc, hms⟩ := O
  intro H locs ls hP hL hl
  exact lv_lshl hx hb hd rfl (K H locs ls hP hL hl)
theorem om_lshr {x : om_X} {own nm : String} {cc : ByteArray} {nL k mc ms : Nat} {ret : Option FieldType} (O : om_Ok x own nm cc nL ret k mc ms) {pc : Nat} {lv : List (Nat × om_V)} {st : List om_V} {σ : om_S} {ρ : om_R} {n cells slots : Nat} {a : Int64} {b : Int32} (hd : decode cc pc = .ok (.lshr, 1)) (K : om_J x (pc + 1) (lv) (vL (a >>> (b.toInt64 &&& 63)) :: st) σ ρ n cells slots) : om_J x (pc) (lv) (vI b :: vL a :: st) σ ρ n cells slots := by
  obtain ⟨G, p, l, e, R, s, m, args, below, meth, c, nL1, Z⟩ := x
  obtain ⟨hx, hb, hml, hnL, hr, hlk, hnm, hown, hts, hK, hfr, hlo, hmc, hms⟩ := O
  intro H locs ls hP hL hl
  exact lv_lshr hx hb hd rfl (K H locs ls hP hL hl)
theorem om_land {x : om_X} {own nm : String} {cc : ByteArray} {nL k mc ms : Nat} {ret : Option FieldType} (O : om_Ok x own nm cc nL ret k mc ms) {pc : Nat} {lv : List (Nat × om_V)} {st : List om_V} {σ : om_S} {ρ : om_R} {n cells slots : Nat} {a b : Int64} (hd : decode cc pc = .ok (.land, 1)) (K : om_J x (pc + 1) (lv) (vL (a &&& b) :: st) σ ρ n cells slots) : om_J x (pc) (lv) (vL b :: vL a :: st) σ ρ n cells slots := by
  obtain ⟨G, p, l, e, R, s, m, args, below, meth, c, nL1, Z⟩ := x
  obtain ⟨hx, hb, hml, hnL, hr, hlk, hnm, hown, hts, hK, hfr, hlo, hmc, hms⟩ := O
  intro H locs ls hP hL hl
  exact lv_land hx hb hd (K H locs ls hP hL hl)
theorem om_lor {x : om_X} {own nm : String} {cc : ByteArray} {nL k mc ms : Nat} {ret : Option FieldType} (O : om_Ok x own nm cc nL ret k mc ms) {pc : Nat} {lv : List (Nat × om_V)} {st : List om_V} {σ : om_S} {ρ : om_R} {n cells slots : Nat} {a b : Int64} (hd : decode cc pc = .ok (.lor, 1)) (K : om_J x (pc + 1) (lv) (vL (a ||| b) :: st) σ ρ n cells slots) : om_J x (pc) (lv) (vL b :: vL a :: st) σ ρ n cells slots := by
  obtain ⟨G, p, l, e, R, s, m, args, below, meth, c, nL1, Z⟩ := x
  obtain ⟨hx, hb, hml, hnL, hr, hlk, hnm, hown, hts, hK, hfr, hlo, hmc, hms⟩ := O
  intro H locs ls hP hL hl
  exact lv_lor hx hb hd (K H locs ls hP hL hl)
theorem om_i2l {x : om_X} {own nm : String} {cc : ByteArray} {nL k mc ms : Nat} {ret : Option FieldType} (O : om_Ok x own nm cc nL ret k mc ms) {pc : Nat} {lv : List (Nat × om_V)} {st : List om_V} {σ : om_S} {ρ : om_R} {n cells slots : Nat} {a : Int32} (hd : decode cc pc = .ok (.i2l, 1)) (K : om_J x (pc + 1) (lv) (vL a.toInt64 :: st) σ ρ n cells slots) : om_J x (pc) (lv) (vI a :: st) σ ρ n cells slots := by
  obtain ⟨G, p, l, e, R, s, m, args, below, meth, c, nL1, Z⟩ := x
  obtain ⟨hx, hb, hml, hnL, hr, hlk, hnm, hown, hts, hK, hfr, hlo, hmc, hms⟩ := O
  intro H locs ls hP hL hl
  exact lv_i2l hx hb hd rfl (K H locs ls hP hL hl)
theorem om_l2i {x : om_X} {own nm : String} {cc : ByteArray} {nL k mc ms : Nat} {ret : Option FieldType} (O : om_Ok x own nm cc nL ret k mc ms) {pc : Nat} {lv : List (Nat × om_V)} {st : List om_V} {σ : om_S} {ρ : om_R} {n cells slots : Nat} {a : Int64} (hd : decode cc pc = .ok (.l2i, 1)) (K : om_J x (pc + 1) (lv) (vI a.toInt32 :: st) σ ρ n cells slots) : om_J x (pc) (lv) (vL a :: st) σ ρ n cells slots := by
  obtain ⟨G, p, l, e, R, s, m, args, below, meth, c, nL1, Z⟩ := x
  obtain ⟨hx, hb, hml, hnL, hr, hlk, hnm, hown, hts, hK, hfr, hlo, hmc, hms⟩ := O
  intro H locs ls hP hL hl
  exact lv_l2i hx hb hd rfl (K H locs ls hP hL hl)
theorem om_i2b {x : om_X} {own nm : String} {cc : ByteArray} {nL k mc ms : Nat} {ret : Option FieldType} (O : om_Ok x own nm cc nL ret k mc ms) {pc : Nat} {lv : List (Nat × om_V)} {st : List om_V} {σ : om_S} {ρ : om_R} {n cells slots : Nat} {a : Int32} (hd : decode cc pc = .ok (.i2b, 1)) (K : om_J x (pc + 1) (lv) (vI a.toInt8.toInt32 :: st) σ ρ n cells slots) : om_J x (pc) (lv) (vI a :: st) σ ρ n cells slots := by
  obtain ⟨G, p, l, e, R, s, m, args, below, meth, c, nL1, Z⟩ := x
  obtain ⟨hx, hb, hml, hnL, hr, hlk, hnm, hown, hts, hK, hfr, hlo, hmc, hms⟩ := O
  intro H locs ls hP hL hl
  exact lv_i2b hx hb hd rfl (K H locs ls hP hL hl)
theorem om_i2s {x : om_X} {own nm : String} {cc : ByteArray} {nL k mc ms : Nat} {ret : Option FieldType} (O : om_Ok x own nm cc nL ret k mc ms) {pc : Nat} {lv : List (Nat × om_V)} {st : List om_V} {σ : om_S} {ρ : om_R} {n cells slots : Nat} {a : Int32} (hd : decode cc pc = .ok (.i2s, 1)) (K : om_J x (pc + 1) (lv) (vI a.toInt16.toInt32 :: st) σ ρ n cells slots) : om_J x (pc) (lv) (vI a :: st) σ ρ n cells slots := by
  obtain ⟨G, p, l, e, R, s, m, args, below, meth, c, nL1, Z⟩ := x
  obtain ⟨hx, hb, hml, hnL, hr, hlk, hnm, hown, hts, hK, hfr, hlo, hmc, hms⟩ := O
  intro H locs ls hP hL hl
  exact lv_i2s hx hb hd rfl (K H locs ls hP hL hl)
theorem om_ldcw {x : om_X} {own nm : String} {cc : ByteArray} {nL k mc ms : Nat} {ret : Option FieldType} (O : om_Ok x own nm cc nL ret k mc ms) {pc : Nat} {lv : List (Nat × om_V)} {st : List om_V} {σ : om_S} {ρ : om_R} {n cells slots : Nat} {index : Nat} {v : Int32} (hw : Cond.constant own index v ∈ om_tbl) (hd : decode cc pc = .ok (.ldc_w index, 3)) (K : om_J x (pc + 3) (lv) (vI v :: st) σ ρ n cells slots) : om_J x (pc) (lv) (st) σ ρ n cells slots := by
  obtain ⟨G, p, l, e, R, s, m, args, below, meth, c, nL1, Z⟩ := x
  obtain ⟨hx, hb, hml, hnL, hr, hlk, hnm, hown, hts, hK, hfr, hlo, hmc, hms⟩ := O
  intro H locs ls hP hL hl
  exact lv_ldcw hx hb hown (hts _ hw) hd (K H locs ls hP hL hl)
def om_cat : om_V → Nat
  | .inr (.inl _) => 2
  | _ => 1
theorem om_catv (G : om_G) (v : om_V) : (om_cv G v).category = om_cat v := by
  rcases v with x | x | r
  · rfl
  · rfl
  · cases r <;> rfl
theorem om_cats (G : om_G) (st : List om_V) : ((st.map (om_cv G)).map fun v => v.category).sum = (st.map om_cat).sum := by
  rw [List.map_map]
  congr 1
  exact List.map_congr_left fun v _ => om_catv G v
theorem om_dup {x : om_X} {own nm : String} {cc : ByteArray} {nL k mc ms : Nat} {ret : Option FieldType} (O : om_Ok x own nm cc nL ret k mc ms) {pc : Nat} {lv : List (Nat × om_V)} {st : List om_V} {σ : om_S} {ρ : om_R} {n cells slots : Nat} {v : om_V} (hc : om_cat v = 1) (hd : decode cc pc = .ok (.dup, 1)) (K : om_J x (pc + 1) (lv) (v :: v :: st) σ ρ n cells slots) : om_J x (pc) (lv) (v :: st) σ ρ n cells slots := by
  obtain ⟨G, p, l, e, R, s, m, args, below, meth, c, nL1, Z⟩ := x
  obtain ⟨hx, hb, hml, hnL, hr, hlk, hnm, hown, hts, hK, hfr, hlo, hmc, hms⟩ := O
  intro H locs ls hP hL hl
  exact lv_dup hx hb hd ((om_catv G v).trans hc) (K H locs ls hP hL hl)
theorem om_pop {x : om_X} {own nm : String} {cc : ByteArray} {nL k mc ms : Nat} {ret : Option FieldType} (O : om_Ok x own nm cc nL ret k mc ms) {pc : Nat} {lv : List (Nat × om_V)} {st : List om_V} {σ : om_S} {ρ : om_R} {n cells slots : Nat} {v : om_V} (hc : om_cat v = 1) (hd : decode cc pc = .ok (.pop, 1)) (K : om_J x (pc + 1) (lv) (st) σ ρ n cells slots) : om_J x (pc) (lv) (v :: st) σ ρ n cells slots := by
  obtain ⟨G, p, l, e, R, s, m, args, below, meth, c, nL1, Z⟩ := x
  obtain ⟨hx, hb, hml, hnL, hr, hlk, hnm, hown, hts, hK, hfr, hlo, hmc, hms⟩ := O
  intro H locs ls hP hL hl
  exact lv_pop hx hb hd ((om_catv G v).trans hc) (K H locs ls hP hL hl)
theorem om_dup2 {x : om_X} {own nm : String} {cc : ByteArray} {nL k mc ms : Nat} {ret : Option FieldType} (O : om_Ok x own nm cc nL ret k mc ms) {pc : Nat} {lv : List (Nat × om_V)} {st : List om_V} {σ : om_S} {ρ : om_R} {n cells slots : Nat} {u v : om_V} (hc : om_cat u = 1) (hc2 : om_cat v = 1) (hd : decode cc pc = .ok (.dup2, 1)) (K : om_J x (pc + 1) (lv) (u :: v :: u :: v :: st) σ ρ n cells slots) : om_J x (pc) (lv) (u :: v :: st) σ ρ n cells slots := by
  obtain ⟨G, p, l, e, R, s, m, args, below, meth, c, nL1, Z⟩ := x
  obtain ⟨hx, hb, hml, hnL, hr, hlk, hnm, hown, hts, hK, hfr, hlo, hmc, hms⟩ := O
  intro H locs ls hP hL hl
  exact lv_dup2_11 hx hb hd ((om_catv G u).trans hc) ((om_catv G v).trans hc2) (K H locs ls hP hL hl)
theorem om_if_eq {x : om_X} {own nm : String} {cc : ByteArray} {nL k mc ms : Nat} {ret : Option FieldType} (O : om_Ok x own nm cc nL ret k mc ms) {pc : Nat} {lv : List (Nat × om_V)} {st : List om_V} {σ : om_S} {ρ : om_R} {n cells slots : Nat} {a : Int32} {off : Int} {tgt : Nat} (hd : decode cc pc = .ok (.ifCond .eq off, 3)) (ht : (pc : Int) + off = (tgt : Int)) (K1 : a = 0 → om_J x (tgt) (lv) (st) σ ρ n cells slots) (K2 : ¬ a = 0 → om_J x (pc + 3) (lv) (st) σ ρ n cells slots) : om_J x (pc) (lv) (vI a :: st) σ ρ n cells slots := by
  obtain ⟨G, p, l, e, R, s, m, args, below, meth, c, nL1, Z⟩ := x
  obtain ⟨hx, hb, hml, hnL, hr, hlk, hnm, hown, hts, hK, hfr, hlo, hmc, hms⟩ := O
  intro H locs ls hP hL hl
  exact lv_if_eq hx hb hd ht (fun q => K1 q H locs ls hP hL hl) (fun q => K2 q H locs ls hP hL hl)
theorem om_if_lt {x : om_X} {own nm : String} {cc : ByteArray} {nL k mc ms : Nat} {ret : Option FieldType} (O : om_Ok x own nm cc nL ret k mc ms) {pc : Nat} {lv : List (Nat × om_V)} {st : List om_V} {σ : om_S} {ρ : om_R} {n cells slots : Nat} {a : Int32} {off : Int} {tgt : Nat} (hd : decode cc pc = .ok (.ifCond .lt off, 3)) (ht : (pc : Int) + off = (tgt : Int)) (K1 : a < 0 → om_J x (tgt) (lv) (st) σ ρ n cells slots) (K2 : ¬ a < 0 → om_J x (pc + 3) (lv) (st) σ ρ n cells slots) : om_J x (pc) (lv) (vI a :: st) σ ρ n cells slots := by
  obtain ⟨G, p, l, e, R, s, m, args, below, meth, c, nL1, Z⟩ := x
  obtain ⟨hx, hb, hml, hnL, hr, hlk, hnm, hown, hts, hK, hfr, hlo, hmc, hms⟩ := O
  intro H locs ls hP hL hl
  exact lv_if_lt hx hb hd ht (fun q => K1 q H locs ls hP hL hl) (fun q => K2 q H locs ls hP hL hl)
theorem om_if_ge {x : om_X} {own nm : String} {cc : ByteArray} {nL k mc ms : Nat} {ret : Option FieldType} (O : om_Ok x own nm cc nL ret k mc ms) {pc : Nat} {lv : List (Nat × om_V)} {st : List om_V} {σ : om_S} {ρ : om_R} {n cells slots : Nat} {a : Int32} {off : Int} {tgt : Nat} (hd : decode cc pc = .ok (.ifCond .ge off, 3)) (ht : (pc : Int) + off = (tgt : Int)) (K1 : 0 ≤ a → om_J x (tgt) (lv) (st) σ ρ n cells slots) (K2 : ¬ 0 ≤ a → om_J x (pc + 3) (lv) (st) σ ρ n cells slots) : om_J x (pc) (lv) (vI a :: st) σ ρ n cells slots := by
  obtain ⟨G, p, l, e, R, s, m, args, below, meth, c, nL1, Z⟩ := x
  obtain ⟨hx, hb, hml, hnL, hr, hlk, hnm, hown, hts, hK, hfr, hlo, hmc, hms⟩ := O
  intro H locs ls hP hL hl
  exact lv_if_ge hx hb hd ht (fun q => K1 q H locs ls hP hL hl) (fun q => K2 q H locs ls hP hL hl)
theorem om_if_gt {x : om_X} {own nm : String} {cc : ByteArray} {nL k mc ms : Nat} {ret : Option FieldType} (O : om_Ok x own nm cc nL ret k mc ms) {pc : Nat} {lv : List (Nat × om_V)} {st : List om_V} {σ : om_S} {ρ : om_R} {n cells slots : Nat} {a : Int32} {off : Int} {tgt : Nat} (hd : decode cc pc = .ok (.ifCond .gt off, 3)) (ht : (pc : Int) + off = (tgt : Int)) (K1 : 0 < a → om_J x (tgt) (lv) (st) σ ρ n cells slots) (K2 : ¬ 0 < a → om_J x (pc + 3) (lv) (st) σ ρ n cells slots) : om_J x (pc) (lv) (vI a :: st) σ ρ n cells slots := by
  obtain ⟨G, p, l, e, R, s, m, args, below, meth, c, nL1, Z⟩ := x
  obtain ⟨hx, hb, hml, hnL, hr, hlk, hnm, hown, hts, hK, hfr, hlo, hmc, hms⟩ := O
  intro H locs ls hP hL hl
  exact lv_if_gt hx hb hd ht (fun q => K1 q H locs ls hP hL hl) (fun q => K2 q H locs ls hP hL hl)
theorem om_if_le {x : om_X} {own nm : String} {cc : ByteArray} {nL k mc ms : Nat} {ret : Option FieldType} (O : om_Ok x own nm cc nL ret k mc ms) {pc : Nat} {lv : List (Nat × om_V)} {st : List om_V} {σ : om_S} {ρ : om_R} {n cells slots : Nat} {a : Int32} {off : Int} {tgt : Nat} (hd : decode cc pc = .ok (.ifCond .le off, 3)) (ht : (pc : Int) + off = (tgt : Int)) (K1 : a ≤ 0 → om_J x (tgt) (lv) (st) σ ρ n cells slots) (K2 : ¬ a ≤ 0 → om_J x (pc + 3) (lv) (st) σ ρ n cells slots) : om_J x (pc) (lv) (vI a :: st) σ ρ n cells slots := by
  obtain ⟨G, p, l, e, R, s, m, args, below, meth, c, nL1, Z⟩ := x
  obtain ⟨hx, hb, hml, hnL, hr, hlk, hnm, hown, hts, hK, hfr, hlo, hmc, hms⟩ := O
  intro H locs ls hP hL hl
  exact lv_if_le hx hb hd ht (fun q => K1 q H locs ls hP hL hl) (fun q => K2 q H locs ls hP hL hl)
theorem om_if_ne {x : om_X} {own nm : String} {cc : ByteArray} {nL k mc ms : Nat} {ret : Option FieldType} (O : om_Ok x own nm cc nL ret k mc ms) {pc : Nat} {lv : List (Nat × om_V)} {st : List om_V} {σ : om_S} {ρ : om_R} {n cells slots : Nat} {a : Int32} {off : Int} {tgt : Nat} (hd : decode cc pc = .ok (.ifCond .ne off, 3)) (ht : (pc : Int) + off = (tgt : Int)) (K1 : a = 0 → om_J x (pc + 3) (lv) (st) σ ρ n cells slots) (K2 : ¬ a = 0 → om_J x (tgt) (lv) (st) σ ρ n cells slots) : om_J x (pc) (lv) (vI a :: st) σ ρ n cells slots := by
  obtain ⟨G, p, l, e, R, s, m, args, below, meth, c, nL1, Z⟩ := x
  obtain ⟨hx, hb, hml, hnL, hr, hlk, hnm, hown, hts, hK, hfr, hlo, hmc, hms⟩ := O
  intro H locs ls hP hL hl
  exact lv_if_ne hx hb hd ht (fun q => K2 q H locs ls hP hL hl) (fun q => K1 q H locs ls hP hL hl)
theorem om_icmp_eq {x : om_X} {own nm : String} {cc : ByteArray} {nL k mc ms : Nat} {ret : Option FieldType} (O : om_Ok x own nm cc nL ret k mc ms) {pc : Nat} {lv : List (Nat × om_V)} {st : List om_V} {σ : om_S} {ρ : om_R} {n cells slots : Nat} {a b : Int32} {off : Int} {tgt : Nat} (hd : decode cc pc = .ok (.if_icmp .eq off, 3)) (ht : (pc : Int) + off = (tgt : Int)) (K1 : a = b → om_J x (tgt) (lv) (st) σ ρ n cells slots) (K2 : ¬ a = b → om_J x (pc + 3) (lv) (st) σ ρ n cells slots) : om_J x (pc) (lv) (vI b :: vI a :: st) σ ρ n cells slots := by
  obtain ⟨G, p, l, e, R, s, m, args, below, meth, c, nL1, Z⟩ := x
  obtain ⟨hx, hb, hml, hnL, hr, hlk, hnm, hown, hts, hK, hfr, hlo, hmc, hms⟩ := O
  intro H locs ls hP hL hl
  exact lv_icmp_eq hx hb hd ht (fun q => K1 q H locs ls hP hL hl) (fun q => K2 q H locs ls hP hL hl)
theorem om_icmp_lt {x : om_X} {own nm : String} {cc : ByteArray} {nL k mc ms : Nat} {ret : Option FieldType} (O : om_Ok x own nm cc nL ret k mc ms) {pc : Nat} {lv : List (Nat × om_V)} {st : List om_V} {σ : om_S} {ρ : om_R} {n cells slots : Nat} {a b : Int32} {off : Int} {tgt : Nat} (hd : decode cc pc = .ok (.if_icmp .lt off, 3)) (ht : (pc : Int) + off = (tgt : Int)) (K1 : a < b → om_J x (tgt) (lv) (st) σ ρ n cells slots) (K2 : ¬ a < b → om_J x (pc + 3) (lv) (st) σ ρ n cells slots) : om_J x (pc) (lv) (vI b :: vI a :: st) σ ρ n cells slots := by
  obtain ⟨G, p, l, e, R, s, m, args, below, meth, c, nL1, Z⟩ := x
  obtain ⟨hx, hb, hml, hnL, hr, hlk, hnm, hown, hts, hK, hfr, hlo, hmc, hms⟩ := O
  intro H locs ls hP hL hl
  exact lv_icmp_lt hx hb hd ht (fun q => K1 q H locs ls hP hL hl) (fun q => K2 q H locs ls hP hL hl)
theorem om_icmp_ge {x : om_X} {own nm : String} {cc : ByteArray} {nL k mc ms : Nat} {ret : Option FieldType} (O : om_Ok x own nm cc nL ret k mc ms) {pc : Nat} {lv : List (Nat × om_V)} {st : List om_V} {σ : om_S} {ρ : om_R} {n cells slots : Nat} {a b : Int32} {off : Int} {tgt : Nat} (hd : decode cc pc = .ok (.if_icmp .ge off, 3)) (ht : (pc : Int) + off = (tgt : Int)) (K1 : b ≤ a → om_J x (tgt) (lv) (st) σ ρ n cells slots) (K2 : ¬ b ≤ a → om_J x (pc + 3) (lv) (st) σ ρ n cells slots) : om_J x (pc) (lv) (vI b :: vI a :: st) σ ρ n cells slots := by
  obtain ⟨G, p, l, e, R, s, m, args, below, meth, c, nL1, Z⟩ := x
  obtain ⟨hx, hb, hml, hnL, hr, hlk, hnm, hown, hts, hK, hfr, hlo, hmc, hms⟩ := O
  intro H locs ls hP hL hl
  exact lv_icmp_ge hx hb hd ht (fun q => K1 q H locs ls hP hL hl) (fun q => K2 q H locs ls hP hL hl)
theorem om_icmp_gt {x : om_X} {own nm : String} {cc : ByteArray} {nL k mc ms : Nat} {ret : Option FieldType} (O : om_Ok x own nm cc nL ret k mc ms) {pc : Nat} {lv : List (Nat × om_V)} {st : List om_V} {σ : om_S} {ρ : om_R} {n cells slots : Nat} {a b : Int32} {off : Int} {tgt : Nat} (hd : decode cc pc = .ok (.if_icmp .gt off, 3)) (ht : (pc : Int) + off = (tgt : Int)) (K1 : b < a → om_J x (tgt) (lv) (st) σ ρ n cells slots) (K2 : ¬ b < a → om_J x (pc + 3) (lv) (st) σ ρ n cells slots) : om_J x (pc) (lv) (vI b :: vI a :: st) σ ρ n cells slots := by
  obtain ⟨G, p, l, e, R, s, m, args, below, meth, c, nL1, Z⟩ := x
  obtain ⟨hx, hb, hml, hnL, hr, hlk, hnm, hown, hts, hK, hfr, hlo, hmc, hms⟩ := O
  intro H locs ls hP hL hl
  exact lv_icmp_gt hx hb hd ht (fun q => K1 q H locs ls hP hL hl) (fun q => K2 q H locs ls hP hL hl)
theorem om_icmp_le {x : om_X} {own nm : String} {cc : ByteArray} {nL k mc ms : Nat} {ret : Option FieldType} (O : om_Ok x own nm cc nL ret k mc ms) {pc : Nat} {lv : List (Nat × om_V)} {st : List om_V} {σ : om_S} {ρ : om_R} {n cells slots : Nat} {a b : Int32} {off : Int} {tgt : Nat} (hd : decode cc pc = .ok (.if_icmp .le off, 3)) (ht : (pc : Int) + off = (tgt : Int)) (K1 : a ≤ b → om_J x (tgt) (lv) (st) σ ρ n cells slots) (K2 : ¬ a ≤ b → om_J x (pc + 3) (lv) (st) σ ρ n cells slots) : om_J x (pc) (lv) (vI b :: vI a :: st) σ ρ n cells slots := by
  obtain ⟨G, p, l, e, R, s, m, args, below, meth, c, nL1, Z⟩ := x
  obtain ⟨hx, hb, hml, hnL, hr, hlk, hnm, hown, hts, hK, hfr, hlo, hmc, hms⟩ := O
  intro H locs ls hP hL hl
  exact lv_icmp_le hx hb hd ht (fun q => K1 q H locs ls hP hL hl) (fun q => K2 q H locs ls hP hL hl)
theorem om_icmp_ne {x : om_X} {own nm : String} {cc : ByteArray} {nL k mc ms : Nat} {ret : Option FieldType} (O : om_Ok x own nm cc nL ret k mc ms) {pc : Nat} {lv : List (Nat × om_V)} {st : List om_V} {σ : om_S} {ρ : om_R} {n cells slots : Nat} {a b : Int32} {off : Int} {tgt : Nat} (hd : decode cc pc = .ok (.if_icmp .ne off, 3)) (ht : (pc : Int) + off = (tgt : Int)) (K1 : a = b → om_J x (pc + 3) (lv) (st) σ ρ n cells slots) (K2 : ¬ a = b → om_J x (tgt) (lv) (st) σ ρ n cells slots) : om_J x (pc) (lv) (vI b :: vI a :: st) σ ρ n cells slots := by
  obtain ⟨G, p, l, e, R, s, m, args, below, meth, c, nL1, Z⟩ := x
  obtain ⟨hx, hb, hml, hnL, hr, hlk, hnm, hown, hts, hK, hfr, hlo, hmc, hms⟩ := O
  intro H locs ls hP hL hl
  exact lv_icmp_ne hx hb hd ht (fun q => K2 q H locs ls hP hL hl) (fun q => K1 q H locs ls hP hL hl)
theorem om_goto {x : om_X} {own nm : String} {cc : ByteArray} {nL k mc ms : Nat} {ret : Option FieldType} (O : om_Ok x own nm cc nL ret k mc ms) {pc : Nat} {lv : List (Nat × om_V)} {st : List om_V} {σ : om_S} {ρ : om_R} {n cells slots : Nat} {off : Int} {tgt : Nat} (hd : decode cc pc = .ok (.goto off, 3)) (ht : (pc : Int) + off = (tgt : Int)) (K : om_J x (tgt) (lv) (st) σ ρ n cells slots) : om_J x (pc) (lv) (st) σ ρ n cells slots := by
  obtain ⟨G, p, l, e, R, s, m, args, below, meth, c, nL1, Z⟩ := x
  obtain ⟨hx, hb, hml, hnL, hr, hlk, hnm, hown, hts, hK, hfr, hlo, hmc, hms⟩ := O
  intro H locs ls hP hL hl
  exact lv_goto hx hb hd ht (K H locs ls hP hL hl)
theorem om_ifnullS {x : om_X} {own nm : String} {cc : ByteArray} {nL k mc ms : Nat} {ret : Option FieldType} (O : om_Ok x own nm cc nL ret k mc ms) {pc : Nat} {lv : List (Nat × om_V)} {st : List om_V} {σ : om_S} {ρ : om_R} {n cells slots : Nat} {a : Nat} {off : Int} (hd : decode cc pc = .ok (.ifnull off, 3)) (K : om_J x (pc + 3) (lv) (st) σ ρ n cells slots) : om_J x (pc) (lv) (vR (some a) :: st) σ ρ n cells slots := by
  obtain ⟨G, p, l, e, R, s, m, args, below, meth, c, nL1, Z⟩ := x
  obtain ⟨hx, hb, hml, hnL, hr, hlk, hnm, hown, hts, hK, hfr, hlo, hmc, hms⟩ := O
  intro H locs ls hP hL hl
  exact lv_ifnull hx hb hd (K H locs ls hP hL hl)
theorem om_ifnullN {x : om_X} {own nm : String} {cc : ByteArray} {nL k mc ms : Nat} {ret : Option FieldType} (O : om_Ok x own nm cc nL ret k mc ms) {pc : Nat} {lv : List (Nat × om_V)} {st : List om_V} {σ : om_S} {ρ : om_R} {n cells slots : Nat} {off : Int} {tgt : Nat} (hd : decode cc pc = .ok (.ifnull off, 3)) (ht : (pc : Int) + off = (tgt : Int)) (K : om_J x (tgt) (lv) (st) σ ρ n cells slots) : om_J x (pc) (lv) (vR none :: st) σ ρ n cells slots := by
  obtain ⟨G, p, l, e, R, s, m, args, below, meth, c, nL1, Z⟩ := x
  obtain ⟨hx, hb, hml, hnL, hr, hlk, hnm, hown, hts, hK, hfr, hlo, hmc, hms⟩ := O
  intro H locs ls hP hL hl
  exact lv_ifnullN hx hb hd ht (K H locs ls hP hL hl)
theorem om_ifnonnullS {x : om_X} {own nm : String} {cc : ByteArray} {nL k mc ms : Nat} {ret : Option FieldType} (O : om_Ok x own nm cc nL ret k mc ms) {pc : Nat} {lv : List (Nat × om_V)} {st : List om_V} {σ : om_S} {ρ : om_R} {n cells slots : Nat} {a : Nat} {off : Int} {tgt : Nat} (hd : decode cc pc = .ok (.ifnonnull off, 3)) (ht : (pc : Int) + off = (tgt : Int)) (K : om_J x (tgt) (lv) (st) σ ρ n cells slots) : om_J x (pc) (lv) (vR (some a) :: st) σ ρ n cells slots := by
  obtain ⟨G, p, l, e, R, s, m, args, below, meth, c, nL1, Z⟩ := x
  obtain ⟨hx, hb, hml, hnL, hr, hlk, hnm, hown, hts, hK, hfr, hlo, hmc, hms⟩ := O
  intro H locs ls hP hL hl
  exact lv_ifnonnull hx hb hd ht (K H locs ls hP hL hl)
theorem om_ifnonnullN {x : om_X} {own nm : String} {cc : ByteArray} {nL k mc ms : Nat} {ret : Option FieldType} (O : om_Ok x own nm cc nL ret k mc ms) {pc : Nat} {lv : List (Nat × om_V)} {st : List om_V} {σ : om_S} {ρ : om_R} {n cells slots : Nat} {off : Int} (hd : decode cc pc = .ok (.ifnonnull off, 3)) (K : om_J x (pc + 3) (lv) (st) σ ρ n cells slots) : om_J x (pc) (lv) (vR none :: st) σ ρ n cells slots := by
  obtain ⟨G, p, l, e, R, s, m, args, below, meth, c, nL1, Z⟩ := x
  obtain ⟨hx, hb, hml, hnL, hr, hlk, hnm, hown, hts, hK, hfr, hlo, hmc, hms⟩ := O
  intro H locs ls hP hL hl
  exact lv_ifnonnullN hx hb hd (K H locs ls hP hL hl)
theorem om_lookup {x : om_X} {own nm : String} {cc : ByteArray} {nL k mc ms : Nat} {ret : Option FieldType} (O : om_Ok x own nm cc nL ret k mc ms) {pc : Nat} {lv : List (Nat × om_V)} {st : List om_V} {σ : om_S} {ρ : om_R} {n cells slots : Nat} {dflt : Int} {ps : Array (Int × Int)} {len : Nat} {a : Int32} {off : Int} {tgt : Nat} (hd : decode cc pc = .ok (.lookupswitch dflt ps, len)) (hp : (ps.toList.zip (ps.toList.drop 1)).all (fun (a, next) => a.1 < next.1) = true) (ho : Op.lookupswitch.offset ps.toList dflt a.toInt = off) (ht : (pc : Int) + off = (tgt : Int)) (K : om_J x (tgt) (lv) (st) σ ρ n cells slots) : om_J x (pc) (lv) (vI a :: st) σ ρ n cells slots := by
  obtain ⟨G, p, l, e, R, s, m, args, below, meth, c, nL1, Z⟩ := x
  obtain ⟨hx, hb, hml, hnL, hr, hlk, hnm, hown, hts, hK, hfr, hlo, hmc, hms⟩ := O
  intro H locs ls hP hL hl
  exact lv_lookup hx hb hd hp ho ht (K H locs ls hP hL hl)
theorem om_tblIn {x : om_X} {own nm : String} {cc : ByteArray} {nL k mc ms : Nat} {ret : Option FieldType} (O : om_Ok x own nm cc nL ret k mc ms) {pc : Nat} {lv : List (Nat × om_V)} {st : List om_V} {σ : om_S} {ρ : om_R} {n cells slots : Nat} {dflt lo hi : Int} {offs : Array Int} {len : Nat} {a b : Int32} {off : Int} {tgt : Nat} (hd : decode cc pc = .ok (.tableswitch dflt lo hi offs, len)) (eab : a = b) (h1 : ¬ b.toInt < lo) (h2 : ¬ hi < b.toInt) (ho : offs[(b.toInt - lo).toNat]? = some off) (ht : (pc : Int) + off = (tgt : Int)) (K : om_J x (tgt) (lv) (st) σ ρ n cells slots) : om_J x (pc) (lv) (vI a :: st) σ ρ n cells slots := by
  obtain ⟨G, p, l, e, R, s, m, args, below, meth, c, nL1, Z⟩ := x
  obtain ⟨hx, hb, hml, hnL, hr, hlk, hnm, hown, hts, hK, hfr, hlo, hmc, hms⟩ := O
  intro H locs ls hP hL hl
  subst eab
  exact lv_tableIn hx hb hd h1 h2 ho ht (K H locs ls hP hL hl)
theorem om_tblDef {x : om_X} {own nm : String} {cc : ByteArray} {nL k mc ms : Nat} {ret : Option FieldType} (O : om_Ok x own nm cc nL ret k mc ms) {pc : Nat} {lv : List (Nat × om_V)} {st : List om_V} {σ : om_S} {ρ : om_R} {n cells slots : Nat} {dflt lo hi : Int} {offs : Array Int} {len : Nat} {a : Int32} {tgt : Nat} (hd : decode cc pc = .ok (.tableswitch dflt lo hi offs, len)) (h : ∀ v : Int, v = a.toInt → lo ≤ v → v ≤ hi → offs[(v - lo).toNat]? = some dflt) (ht : (pc : Int) + dflt = (tgt : Int)) (K : om_J x (tgt) (lv) (st) σ ρ n cells slots) : om_J x (pc) (lv) (vI a :: st) σ ρ n cells slots := by
  obtain ⟨G, p, l, e, R, s, m, args, below, meth, c, nL1, Z⟩ := x
  obtain ⟨hx, hb, hml, hnL, hr, hlk, hnm, hown, hts, hK, hfr, hlo, hmc, hms⟩ := O
  intro H locs ls hP hL hl
  have K' := K H locs ls hP hL hl
  by_cases h1 : a.toInt < lo ∨ hi < a.toInt
  · exact lv_tableOut hx hb hd h1 ht K'
  · exact lv_tableIn hx hb hd (fun q => h1 (Or.inl q)) (fun q => h1 (Or.inr q)) (h _ rfl (by omega) (by omega)) ht K'
theorem om_getI {x : om_X} {own nm : String} {cc : ByteArray} {nL k mc ms : Nat} {ret : Option FieldType} (O : om_Ok x own nm cc nL ret k mc ms) {pc : Nat} {lv : List (Nat × om_V)} {st : List om_V} {σ : om_S} {ρ : om_R} {n cells slots : Nat} {C : String} {T : u_T} {N ci j idx q : Nat} (hc : vwCl[ci]? = some (C, T, N)) (hci : ci < 20) (hN : N = om_nf ci) (hin : ∀ w ∈ u_ws C T N, w ∈ om_tbl) (hj : j < N) (hT : (T j).1 = C) (hlink : Cond.fieldLink own idx C (T j).2.1 (T j).2.2.1 ∈ om_tbl) (hi : om_isr ci j = false) (hq : om_kc q = ci) (hqn : q < n) (hd : decode cc pc = .ok (.getfield idx, 3)) (K : om_J x (pc + 3) (lv) (vI (σ q j) :: st) σ ρ n cells slots) : om_J x (pc) (lv) (vR (some q) :: st) σ ρ n cells slots := by
  obtain ⟨G, p, l, e, R, s, m, args, below, meth, c, nL1, Z⟩ := x
  obtain ⟨hx, hb, hml, hnL, hr, hlk, hnm, hown, hts, hK, hfr, hlo, hmc, hms⟩ := O
  intro H locs ls hP hL hl
  subst hN
  exact va_get hx hb hts hin hown hK.1 hP.1 q ((om_ws_at hqn).trans (by rw [om_ent_o hq hci])) hc j hj (hts _ hlink) (fun y h9 => by rw [hT] at h9; exact h9) (om_fs_i hj hi) hd (K H locs ls hP hL hl)
theorem om_getR {x : om_X} {own nm : String} {cc : ByteArray} {nL k mc ms : Nat} {ret : Option FieldType} (O : om_Ok x own nm cc nL ret k mc ms) {pc : Nat} {lv : List (Nat × om_V)} {st : List om_V} {σ : om_S} {ρ : om_R} {n cells slots : Nat} {C : String} {T : u_T} {N ci j idx q : Nat} (hc : vwCl[ci]? = some (C, T, N)) (hci : ci < 20) (hN : N = om_nf ci) (hin : ∀ w ∈ u_ws C T N, w ∈ om_tbl) (hj : j < N) (hT : (T j).1 = C) (hlink : Cond.fieldLink own idx C (T j).2.1 (T j).2.2.1 ∈ om_tbl) (hi : om_isr ci j = true) (hq : om_kc q = ci) (hqn : q < n) (hd : decode cc pc = .ok (.getfield idx, 3)) (K : om_J x (pc + 3) (lv) (vR (ρ q j) :: st) σ ρ n cells slots) : om_J x (pc) (lv) (vR (some q) :: st) σ ρ n cells slots := by
  obtain ⟨G, p, l, e, R, s, m, args, below, meth, c, nL1, Z⟩ := x
  obtain ⟨hx, hb, hml, hnL, hr, hlk, hnm, hown, hts, hK, hfr, hlo, hmc, hms⟩ := O
  intro H locs ls hP hL hl
  subst hN
  exact va_get hx hb hts hin hown hK.1 hP.1 q ((om_ws_at hqn).trans (by rw [om_ent_o hq hci])) hc j hj (hts _ hlink) (fun y h9 => by rw [hT] at h9; exact h9) (om_fs_r hj hi) hd (K H locs ls hP hL hl)
theorem om_nar {ty : FieldType} {v : Int32} (h : ty = .int ∨ (ty = .boolean ∧ (v = 0 ∨ v = 1))) : narrow ty (.int v) = .int v ∧ fits ty (.int v) = true := by
  rcases h with rfl | ⟨rfl, rfl | rfl⟩ <;> exact ⟨rfl, rfl⟩
theorem om_hsz {D : va_G} {ws : va_W} {H H1 : Heap} {A : Nat → Prop} {H0 : Heap} {n : Nat} (h1 : H.size = H0.size + n) (h2 : H1.size = H.size) : H1.size = H0.size + n := h2.trans h1
theorem om_putI {x : om_X} {own nm : String} {cc : ByteArray} {nL k mc ms : Nat} {ret : Option FieldType} (O : om_Ok x own nm cc nL ret k mc ms) {pc : Nat} {lv : List (Nat × om_V)} {st : List om_V} {σ : om_S} {ρ : om_R} {n cells slots : Nat} {C : String} {T : u_T} {N ci j idx q : Nat} {ty : FieldType} {v : Int32} {σ1 : om_S} (hc : vwCl[ci]? = some (C, T, N)) (hci : ci < 20) (hN : N = om_nf ci) (hin : ∀ w ∈ u_ws C T N, w ∈ om_tbl) (hj : j < N) (hT : (T j).1 = C) (hlink : Cond.fieldLink own idx C (T j).2.1 (T j).2.2.1 ∈ om_tbl) (ty0 : Nat → FieldType) (hty : ∀ k, k < N → parseFieldDescriptor (T k).2.2.1 = some (ty0 k)) (hnm2 : ∀ a, a < N → ∀ b, b < N → a ≠ b → (T a).2.1 ≠ (T b).2.1) (hfin : (T j).2.2.2 = false) (hv : ty = .int ∨ (ty = .boolean ∧ (v = 0 ∨ v = 1))) (hdsc : parseFieldDescriptor (T j).2.2.1 = some ty) (hi : om_isr ci j = false) (hq : om_kc q = ci) (hqn : q < n) (hd : decode cc pc = .ok (.putfield idx, 3)) (hs : om_w σ q j v = σ1) (K : om_J x (pc + 3) (lv) (st) σ1 ρ n cells slots) : om_J x (pc) (lv) (vI v :: vR (some q) :: st) σ ρ n cells slots := by
  obtain ⟨G, p, l, e, R, s, m, args, below, meth, c, nL1, Z⟩ := x
  obtain ⟨hx, hb, hml, hnL, hr, hlk, hnm, hown, hts, hK, hfr, hlo, hmc, hms⟩ := O
  intro H locs ls hP hL hl
  subst hN
  subst hs
  obtain ⟨g1, g2⟩ := om_nar hv
  obtain ⟨rr, h1r, cell, q1, q2, q3, q4⟩ := hP.1 q _ ((om_ws_at hqn).trans (by rw [om_ent_o hq hci]))
  have hr' : rr = (C, T, om_nf ci) := Option.some.inj (h1r.symm.trans hc)
  subst hr'
  have hap := va_apart (own := own) hts hin ty0 hty hnm2 hK.1 hc
  obtain ⟨hSl, hfc, kC, hkC, hkind⟩ := hK.1.1 ci _ hc
  obtain ⟨cf, kf, fi, f, hfi, hsl⟩ := hSl j hj
  have he : (om_ws G σ ρ n)[q]? = some (om_ad G q, .inr (ci, om_fs G σ ρ ci q)) := (om_ws_at hqn).trans (by rw [om_ent_o hq hci])
  have hlay := hts _ (hin _ (u_in_lay hj))
  unfold u_lay at hlay
  have hst := (u_facts hfc hkC (u_lays hts hin hj) hfi).1
  have hpost : ∀ H' : Heap, H'[om_ad G q]? = some (cell.setSlot f.slot (.int v)) → H'.size = H.size → (∀ a : Nat, a ≠ om_ad G q → H'[a]? = H[a]?) → om_Rep G (om_w σ q j v) ρ n H' := by
    intro H' e1 e2 e3
    rw [hsl] at e1
    have hA : om_A G (om_ad G q) := by
      rw [om_adN (Nat.lt_of_lt_of_le hqn hP.2.2.2.1)]
      exact Nat.le_add_right _ _
    refine hP.put (k := q) (e := .inr (ci, (om_fs G σ ρ ci q).set j (.int v))) e2 hqn (fun a ha => om_w_off ha) (fun _ _ => rfl) ((om_ent_o hq hci).trans (by rw [om_fs_put hi])) ?_ (hP.2.1.set he) ((om_S0 hP hL).put e2 e3 hA (k := 0))
    exact hP.1.set hP.2.1 he ⟨_, hc, t_OB.to (V := updV (vp_V (om_fs G σ ρ ci q)) j (.int v)) ⟨_, e1, q2, q3, t_set q4 hap hj (.int v)⟩ (fun i _ => vp_updV_set (by rw [om_fs_len]; exact hj) (.int v) i)⟩ e3
  have hA : om_A G (om_ad G q) := by
    rw [om_adN (Nat.lt_of_lt_of_le hqn hP.2.2.2.1)]
    exact Nat.le_add_right _ _
  rw [if_neg (by rw [hfin]; decide)] at hlay
  have h6 := u_store hfc hkC hkind hlay hfi hdsc g1 g2
  refine W.putK hx hb (f := f) ⟨hown, hts _ hlink, ⟨_, _, _, by rw [hT] at hfi; exact hfi⟩, hst⟩ (by rw [q2]; exact h6) q1 q3 (by rw [hsl]; exact k2_hasslot (q4 j hj)) rfl rfl hd fun H' e1 e2 e3 => ?_
  exact K H' _ ls (hpost H' e1 e2 e3) (fun q' hq' => by
    rcases List.mem_append.mp hq' with h | h
    · exact hL q' h
    · rw [List.mem_singleton.mp h]; exact hA) hl
theorem om_putFI {x : om_X} {own nm : String} {cc : ByteArray} {nL k mc ms : Nat} {ret : Option FieldType} (O : om_Ok x own nm cc nL ret k mc ms) {pc : Nat} {lv : List (Nat × om_V)} {st : List om_V} {σ : om_S} {ρ : om_R} {n cells slots : Nat} {C : String} {T : u_T} {N ci j idx q : Nat} {ty : FieldType} {v : Int32} {σ1 : om_S} (hc : vwCl[ci]? = some (C, T, N)) (hci : ci < 20) (hN : N = om_nf ci) (hin : ∀ w ∈ u_ws C T N, w ∈ om_tbl) (hj : j < N) (hT : (T j).1 = C) (hlink : Cond.fieldLink own idx C (T j).2.1 (T j).2.2.1 ∈ om_tbl) (ty0 : Nat → FieldType) (hty : ∀ k, k < N → parseFieldDescriptor (T k).2.2.1 = some (ty0 k)) (hnm2 : ∀ a, a < N → ∀ b, b < N → a ≠ b → (T a).2.1 ≠ (T b).2.1) (hfin : (T j).2.2.2 = true) (hini : nm = "<init>") (hdecl : C = own) (hv : ty = .int ∨ (ty = .boolean ∧ (v = 0 ∨ v = 1))) (hdsc : parseFieldDescriptor (T j).2.2.1 = some ty) (hi : om_isr ci j = false) (hq : om_kc q = ci) (hqn : q < n) (hd : decode cc pc = .ok (.putfield idx, 3)) (hs : om_w σ q j v = σ1) (K : om_J x (pc + 3) (lv) (st) σ1 ρ n cells slots) : om_J x (pc) (lv) (vI v :: vR (some q) :: st) σ ρ n cells slots := by
  obtain ⟨G, p, l, e, R, s, m, args, below, meth, c, nL1, Z⟩ := x
  obtain ⟨hx, hb, hml, hnL, hr, hlk, hnm, hown, hts, hK, hfr, hlo, hmc, hms⟩ := O
  intro H locs ls hP hL hl
  subst hN
  subst hs
  obtain ⟨g1, g2⟩ := om_nar hv
  obtain ⟨rr, h1r, cell, q1, q2, q3, q4⟩ := hP.1 q _ ((om_ws_at hqn).trans (by rw [om_ent_o hq hci]))
  have hr' : rr = (C, T, om_nf ci) := Option.some.inj (h1r.symm.trans hc)
  subst hr'
  have hap := va_apart (own := own) hts hin ty0 hty hnm2 hK.1 hc
  obtain ⟨hSl, hfc, kC, hkC, hkind⟩ := hK.1.1 ci _ hc
  obtain ⟨cf, kf, fi, f, hfi, hsl⟩ := hSl j hj
  have he : (om_ws G σ ρ n)[q]? = some (om_ad G q, .inr (ci, om_fs G σ ρ ci q)) := (om_ws_at hqn).trans (by rw [om_ent_o hq hci])
  have hlay := hts _ (hin _ (u_in_lay hj))
  unfold u_lay at hlay
  have hst := (u_facts hfc hkC (u_lays hts hin hj) hfi).1
  have hpost : ∀ H' : Heap, H'[om_ad G q]? = some (cell.setSlot f.slot (.int v)) → H'.size = H.size → (∀ a : Nat, a ≠ om_ad G q → H'[a]? = H[a]?) → om_Rep G (om_w σ q j v) ρ n H' := by
    intro H' e1 e2 e3
    rw [hsl] at e1
    have hA : om_A G (om_ad G q) := by
      rw [om_adN (Nat.lt_of_lt_of_le hqn hP.2.2.2.1)]
      exact Nat.le_add_right _ _
    refine hP.put (k := q) (e := .inr (ci, (om_fs G σ ρ ci q).set j (.int v))) e2 hqn (fun a ha => om_w_off ha) (fun _ _ => rfl) ((om_ent_o hq hci).trans (by rw [om_fs_put hi])) ?_ (hP.2.1.set he) ((om_S0 hP hL).put e2 e3 hA (k := 0))
    exact hP.1.set hP.2.1 he ⟨_, hc, t_OB.to (V := updV (vp_V (om_fs G σ ρ ci q)) j (.int v)) ⟨_, e1, q2, q3, t_set q4 hap hj (.int v)⟩ (fun i _ => vp_updV_set (by rw [om_fs_len]; exact hj) (.int v) i)⟩ e3
  have hA : om_A G (om_ad G q) := by
    rw [om_adN (Nat.lt_of_lt_of_le hqn hP.2.2.2.1)]
    exact Nat.le_add_right _ _
  rw [if_pos hfin] at hlay
  have hcf : m.cls = cf := by
    obtain ⟨_, _, c', _, _, _, -, -, hf', -, -, -, hown2, -⟩ := Cond.laysFinal_spec hlay
    have e1 : c' = cf := by have := hfi.symm.trans hf'; simp at this; exact this.1.symm
    rw [hT, hdecl] at hown2
    rw [← e1]; exact Option.some.inj (hown.symm.trans hown2)
  have h6 := u_fits hfc hkC hkind (Or.inr hlay) hfi hdsc g1 g2
  refine W.putFinK hx hb hown (hts _ hlink) (by rw [hT] at hfi; exact hfi) hst hcf (hnm.trans hini) (by rw [q2]; exact h6) q1 q3 (by rw [hsl]; exact k2_hasslot (q4 j hj)) rfl rfl hd fun H' e1 e2 e3 => ?_
  exact K H' _ ls (hpost H' e1 e2 e3) (fun q' hq' => by
    rcases List.mem_append.mp hq' with h | h
    · exact hL q' h
    · rw [List.mem_singleton.mp h]; exact hA) hl
theorem om_iald {x : om_X} {own nm : String} {cc : ByteArray} {nL k mc ms : Nat} {ret : Option FieldType} (O : om_Ok x own nm cc nL ret k mc ms) {pc : Nat} {lv : List (Nat × om_V)} {st : List om_V} {σ : om_S} {ρ : om_R} {n cells slots : Nat} {i : Int32} {a : Nat} (hq : om_kc a = 20) (hqn : a < n) (hin : om_in i (om_al a)) (hd : decode cc pc = .ok (.iaload, 1)) (K : om_J x (pc + 1) (lv) (vI (σ a i.toNatClampNeg) :: st) σ ρ n cells slots) : om_J x (pc) (lv) (vI i :: vR (some a) :: st) σ ρ n cells slots := by
  obtain ⟨G, p, l, e, R, s, m, args, below, meth, c, nL1, Z⟩ := x
  obtain ⟨hx, hb, hml, hnL, hr, hlk, hnm, hown, hts, hK, hfr, hlo, hmc, hms⟩ := O
  intro H locs ls hP hL hl
  exact va_iald hx hb hK.1 hP.1 a 0 ((om_ws_at hqn).trans (by rw [om_ent_i hq])) rfl hin hd (K H locs ls hP hL hl)
theorem om_alen {x : om_X} {own nm : String} {cc : ByteArray} {nL k mc ms : Nat} {ret : Option FieldType} (O : om_Ok x own nm cc nL ret k mc ms) {pc : Nat} {lv : List (Nat × om_V)} {st : List om_V} {σ : om_S} {ρ : om_R} {n cells slots : Nat} {a : Nat} {v : Int32} (hq : om_kc a = 20) (hqn : a < n) (hv : Int32.ofNat (om_al a) = v) (hd : decode cc pc = .ok (.arraylength, 1)) (K : om_J x (pc + 1) (lv) (vI v :: st) σ ρ n cells slots) : om_J x (pc) (lv) (vR (some a) :: st) σ ρ n cells slots := by
  obtain ⟨G, p, l, e, R, s, m, args, below, meth, c, nL1, Z⟩ := x
  obtain ⟨hx, hb, hml, hnL, hr, hlk, hnm, hown, hts, hK, hfr, hlo, hmc, hms⟩ := O
  intro H locs ls hP hL hl
  exact va_alen hx hb hK.1 hP.1 a 0 ((om_ws_at hqn).trans (by rw [om_ent_i hq])) rfl hv hd (K H locs ls hP hL hl)
theorem om_alenM {x : om_X} {own nm : String} {cc : ByteArray} {nL k mc ms : Nat} {ret : Option FieldType} (O : om_Ok x own nm cc nL ret k mc ms) {pc : Nat} {lv : List (Nat × om_V)} {st : List om_V} {σ : om_S} {ρ : om_R} {n cells slots : Nat} {a : Nat} {v : Int32} (hq : om_kc a = 21) (hqn : a < n) (hv : Int32.ofNat (om_al a) = v) (hd : decode cc pc = .ok (.arraylength, 1)) (K : om_J x (pc + 1) (lv) (vI v :: st) σ ρ n cells slots) : om_J x (pc) (lv) (vR (some a) :: st) σ ρ n cells slots := by
  obtain ⟨G, p, l, e, R, s, m, args, below, meth, c, nL1, Z⟩ := x
  obtain ⟨hx, hb, hml, hnL, hr, hlk, hnm, hown, hts, hK, hfr, hlo, hmc, hms⟩ := O
  intro H locs ls hP hL hl
  exact va_alen hx hb hK.1 hP.1 a 1 ((om_ws_at hqn).trans (by rw [om_ent_m hq])) rfl hv hd (K H locs ls hP hL hl)
theorem om_alenS {x : om_X} {own nm : String} {cc : ByteArray} {nL k mc ms : Nat} {ret : Option FieldType} (O : om_Ok x own nm cc nL ret k mc ms) {pc : Nat} {lv : List (Nat × om_V)} {st : List om_V} {σ : om_S} {ρ : om_R} {n cells slots : Nat} {a : Nat} {v : Int32} (hq : om_kc a = 22) (hqn : a < n) (hv : Int32.ofNat (om_al a) = v) (hd : decode cc pc = .ok (.arraylength, 1)) (K : om_J x (pc + 1) (lv) (vI v :: st) σ ρ n cells slots) : om_J x (pc) (lv) (vR (some a) :: st) σ ρ n cells slots := by
  obtain ⟨G, p, l, e, R, s, m, args, below, meth, c, nL1, Z⟩ := x
  obtain ⟨hx, hb, hml, hnL, hr, hlk, hnm, hown, hts, hK, hfr, hlo, hmc, hms⟩ := O
  intro H locs ls hP hL hl
  exact va_alen hx hb hK.1 hP.1 a 2 ((om_ws_at hqn).trans (by rw [om_ent_s hq])) rfl hv hd (K H locs ls hP hL hl)
theorem om_rs_at {G : om_G} {ρ : om_R} {a : Nat} {i : Int32} (hin : om_in i (om_al a)) : va_rf (om_rs G ρ a i.toNatClampNeg) = om_cv G (vR (ρ a i.toNatClampNeg)) := by
  have h : i.toNatClampNeg < om_al a := Nat.not_le.mp fun q => hin (Or.inr q)
  unfold om_rs
  rw [if_pos h]
  rfl
theorem om_aaldM {x : om_X} {own nm : String} {cc : ByteArray} {nL k mc ms : Nat} {ret : Option FieldType} (O : om_Ok x own nm cc nL ret k mc ms) {pc : Nat} {lv : List (Nat × om_V)} {st : List om_V} {σ : om_S} {ρ : om_R} {n cells slots : Nat} {i : Int32} {a : Nat} (hq : om_kc a = 21) (hqn : a < n) (hin : om_in i (om_al a)) (hd : decode cc pc = .ok (.aaload, 1)) (K : om_J x (pc + 1) (lv) (vR (ρ a i.toNatClampNeg) :: st) σ ρ n cells slots) : om_J x (pc) (lv) (vI i :: vR (some a) :: st) σ ρ n cells slots := by
  obtain ⟨G, p, l, e, R, s, m, args, below, meth, c, nL1, Z⟩ := x
  obtain ⟨hx, hb, hml, hnL, hr, hlk, hnm, hown, hts, hK, hfr, hlo, hmc, hms⟩ := O
  intro H locs ls hP hL hl
  exact va_aldq hx hb hK.1 hP.1 a 1 ((om_ws_at hqn).trans (by rw [om_ent_m hq])) rfl hin hd (by rw [om_rs_at hin]; exact K H locs ls hP hL hl)
theorem om_aaldS {x : om_X} {own nm : String} {cc : ByteArray} {nL k mc ms : Nat} {ret : Option FieldType} (O : om_Ok x own nm cc nL ret k mc ms) {pc : Nat} {lv : List (Nat × om_V)} {st : List om_V} {σ : om_S} {ρ : om_R} {n cells slots : Nat} {i : Int32} {a : Nat} (hq : om_kc a = 22) (hqn : a < n) (hin : om_in i (om_al a)) (hd : decode cc pc = .ok (.aaload, 1)) (K : om_J x (pc + 1) (lv) (vR (ρ a i.toNatClampNeg) :: st) σ ρ n cells slots) : om_J x (pc) (lv) (vI i :: vR (some a) :: st) σ ρ n cells slots := by
  obtain ⟨G, p, l, e, R, s, m, args, below, meth, c, nL1, Z⟩ := x
  obtain ⟨hx, hb, hml, hnL, hr, hlk, hnm, hown, hts, hK, hfr, hlo, hmc, hms⟩ := O
  intro H locs ls hP hL hl
  exact va_aldq hx hb hK.1 hP.1 a 2 ((om_ws_at hqn).trans (by rw [om_ent_s hq])) rfl hin hd (by rw [om_rs_at hin]; exact K H locs ls hP hL hl)
theorem om_iast {x : om_X} {own nm : String} {cc : ByteArray} {nL k mc ms : Nat} {ret : Option FieldType} (O : om_Ok x own nm cc nL ret k mc ms) {pc : Nat} {lv : List (Nat × om_V)} {st : List om_V} {σ : om_S} {ρ : om_R} {n cells slots : Nat} {i v : Int32} {a : Nat} {σ1 : om_S} (hq : om_kc a = 20) (hqn : a < n) (hin : om_in i (om_al a)) (hd : decode cc pc = .ok (.iastore, 1)) (hs : om_w σ a i.toNatClampNeg v = σ1) (K : om_J x (pc + 1) (lv) (st) σ1 ρ n cells slots) : om_J x (pc) (lv) (vI v :: vI i :: vR (some a) :: st) σ ρ n cells slots := by
  obtain ⟨G, p, l, e, R, s, m, args, below, meth, c, nL1, Z⟩ := x
  obtain ⟨hx, hb, hml, hnL, hr, hlk, hnm, hown, hts, hK, hfr, hlo, hmc, hms⟩ := O
  intro H locs ls hP hL hl
  subst hs
  have he : (om_ws G σ ρ n)[a]? = some (om_ad G a, .inl (G.2.2.1.1, om_al a, .inl (σ a))) := (om_ws_at hqn).trans (by rw [om_ent_i hq])
  have hA : om_A G (om_ad G a) := by
    rw [om_adN (Nat.lt_of_lt_of_le hqn hP.2.2.2.1)]
    exact Nat.le_add_right _ _
  refine W.iast hx hb (hP.1 a _ he) ((hK.1.2 0 _ rfl).1 (om_al a) (fun j => .int (σ a j))) (fun q => by cases q) (by show ¬ (i < 0 ∨ (arrV _ _ _).slots.size ≤ _); rw [arrV_size]; exact hin) rfl rfl hd fun H1 e1 e2 e3 => ?_
  have hR : om_Rep G (om_w σ a i.toNatClampNeg v) ρ n H1 := by
    refine hP.put (k := a) (e := .inl (G.2.2.1.1, om_al a, .inl (upd (σ a) i.toNatClampNeg v))) e2 hqn (fun a ha => om_w_off ha) (fun _ _ => rfl) ((om_ent_i hq).trans ?_) ?_ (hP.2.1.set he) ((om_S0 hP hL).put e2 e3 hA (k := 0))
    · have h9 : om_w σ a i.toNatClampNeg v a = upd (σ a) i.toNatClampNeg v := by
        funext q
        by_cases hj : q = i.toNatClampNeg
        · subst hj
          simp [om_w, upd]
        · simp [om_w, upd, hj]
      rw [h9]
    · refine hP.1.set hP.2.1 he ?_ e3
      show H1[om_ad G a]? = some (vp_cell _ _)
      rw [e1]
      rw [vp_cell_i, vp_cell_i, arrV_store]
      congr 2
      funext q
      by_cases hj : q = i.toNatClampNeg
      · subst hj
        simp [updV, upd]
      · simp [updV, upd, hj]
  exact K H1 _ ls hR (fun q' hq' => by
    rcases List.mem_append.mp hq' with h | h
    · exact hL q' h
    · rw [List.mem_singleton.mp h]; exact hA) hl
theorem om_getKA {x : om_X} {own nm : String} {cc : ByteArray} {nL k mc ms : Nat} {ret : Option FieldType} (O : om_Ok x own nm cc nL ret k mc ms) {pc : Nat} {lv : List (Nat × om_V)} {st : List om_V} {σ : om_S} {ρ : om_R} {n cells slots : Nat} {idx : Nat} (hw : ∀ U : State, om_Nw U → va_Nw (.fieldLinkNest own idx "OilMemories" "KIND_ABOVE" "[I" "OilMemories") U) (hd : decode cc pc = .ok (.getstatic idx, 3)) (K : om_J x (pc + 3) (lv) (vR (some 900) :: st) σ ρ n cells slots) : om_J x (pc) (lv) (st) σ ρ n cells slots := by
  obtain ⟨G, p, l, e, R, s, m, args, below, meth, c, nL1, Z⟩ := x
  obtain ⟨hx, hb, hml, hnL, hr, hlk, hnm, hown, hts, hK, hfr, hlo, hmc, hms⟩ := O
  intro H locs ls hP hL hl
  obtain ⟨cf, kf, fi, f, a, cell, h1, h2, h3, h4, h5, h6, h7, h8⟩ := hK.2.1
  exact va_WgetsN hx hb hown (va_Nw.use rfl (hw s hK.2.2.2.2.2)) h1 h2 h3 h4 (by rw [hP.2.2.2.2 a (Array.getElem?_eq_some_iff.mp h5).1]; exact h5) (fun e9 => by rw [e9] at h6; cases h6) h7 rfl hd (K H locs ls hP hL hl)
theorem om_kaLen {x : om_X} {own nm : String} {cc : ByteArray} {nL k mc ms : Nat} {ret : Option FieldType} (O : om_Ok x own nm cc nL ret k mc ms) {pc : Nat} {lv : List (Nat × om_V)} {st : List om_V} {σ : om_S} {ρ : om_R} {n cells slots : Nat}  (hd : decode cc pc = .ok (.arraylength, 1)) (K : om_J x (pc + 1) (lv) (vI 7 :: st) σ ρ n cells slots) : om_J x (pc) (lv) (vR (some 900) :: st) σ ρ n cells slots := by
  obtain ⟨G, p, l, e, R, s, m, args, below, meth, c, nL1, Z⟩ := x
  obtain ⟨hx, hb, hml, hnL, hr, hlk, hnm, hown, hts, hK, hfr, hlo, hmc, hms⟩ := O
  intro H locs ls hP hL hl
  obtain ⟨cell, h1, h2, h3, h4, h5, h6, h7⟩ := hK.2.2.1
  exact W.alen (n := 7) hx hb (show H[om_ad G 900]? = some cell from (hP.2.2.2.2 _ (Array.getElem?_eq_some_iff.mp h1).1).trans h1) h2 h5 rfl rfl hd (K H locs ls hP hL hl)
theorem om_kaLd {x : om_X} {own nm : String} {cc : ByteArray} {nL k mc ms : Nat} {ret : Option FieldType} (O : om_Ok x own nm cc nL ret k mc ms) {pc : Nat} {lv : List (Nat × om_V)} {st : List om_V} {σ : om_S} {ρ : om_R} {n cells slots : Nat} {i : Int32} (hin : om_in i 7) (hd : decode cc pc = .ok (.iaload, 1)) (K : om_J x (pc + 1) (lv) (vI (om_ka i.toNatClampNeg) :: st) σ ρ n cells slots) : om_J x (pc) (lv) (vI i :: vR (some 900) :: st) σ ρ n cells slots := by
  obtain ⟨G, p, l, e, R, s, m, args, below, meth, c, nL1, Z⟩ := x
  obtain ⟨hx, hb, hml, hnL, hr, hlk, hnm, hown, hts, hK, hfr, hlo, hmc, hms⟩ := O
  intro H locs ls hP hL hl
  obtain ⟨cell, h1, h2, h3, h4, h5, h6, h7⟩ := hK.2.2.1
  have hlt : i.toNatClampNeg < 7 := Nat.not_le.mp fun q => hin (Or.inr q)
  have hin' : ¬ (i < 0 ∨ cell.slots.size ≤ i.toNatClampNeg) := by
    intro q
    rcases q with q | q
    · exact hin (Or.inl q)
    · omega
  exact W.iald (v := .int (om_ka i.toNatClampNeg)) hx hb (show H[om_ad G 900]? = some cell from (hP.2.2.2.2 _ (Array.getElem?_eq_some_iff.mp h1).1).trans h1) h2 h3 hin' (by rw [h6 _ hlt]) rfl rfl hd (K H locs ls hP hL hl)
def om_Sc : om_X → Nat → (Nat → Int32) → Prop
  | (G, _, _, _, _, s, _, _, _, _, _, _, _), L, xs => va_X G.2.2.2.2.1 L xs s G.2.1 ∧ G.2.2.2.2.1 < G.2.1.size
theorem om_sLen {x : om_X} {own nm : String} {cc : ByteArray} {nL k mc ms : Nat} {ret : Option FieldType} (O : om_Ok x own nm cc nL ret k mc ms) {pc : Nat} {lv : List (Nat × om_V)} {st : List om_V} {σ : om_S} {ρ : om_R} {n cells slots : Nat} {L : Nat} {xs : Nat → Int32} (hs : om_Sc x L xs) (hd : decode cc pc = .ok (.arraylength, 1)) (K : om_J x (pc + 1) (lv) (vI (Int32.ofNat L) :: st) σ ρ n cells slots) : om_J x (pc) (lv) (vR (some 901) :: st) σ ρ n cells slots := by
  obtain ⟨G, p, l, e, R, s, m, args, below, meth, c, nL1, Z⟩ := x
  obtain ⟨hx, hb, hml, hnL, hr, hlk, hnm, hown, hts, hK, hfr, hlo, hmc, hms⟩ := O
  intro H locs ls hP hL hl
  exact va_slen hx hb hs.1 hs.2 (Nat.not_le.mpr hs.2) (om_S0 hP hL) hd (K H locs ls hP hL hl)
theorem om_sLd {x : om_X} {own nm : String} {cc : ByteArray} {nL k mc ms : Nat} {ret : Option FieldType} (O : om_Ok x own nm cc nL ret k mc ms) {pc : Nat} {lv : List (Nat × om_V)} {st : List om_V} {σ : om_S} {ρ : om_R} {n cells slots : Nat} {L : Nat} {xs : Nat → Int32} {i : Int32} (hs : om_Sc x L xs) (hin : om_in i L) (hd : decode cc pc = .ok (.iaload, 1)) (K : om_J x (pc + 1) (lv) (vI (xs i.toNatClampNeg) :: st) σ ρ n cells slots) : om_J x (pc) (lv) (vI i :: vR (some 901) :: st) σ ρ n cells slots := by
  obtain ⟨G, p, l, e, R, s, m, args, below, meth, c, nL1, Z⟩ := x
  obtain ⟨hx, hb, hml, hnL, hr, hlk, hnm, hown, hts, hK, hfr, hlo, hmc, hms⟩ := O
  intro H locs ls hP hL hl
  exact va_sld hx hb hs.1 hs.2 (Nat.not_le.mpr hs.2) (om_S0 hP hL) hin hd (K H locs ls hP hL hl)
theorem om_iret {x : om_X} {own nm : String} {cc : ByteArray} {nL k mc ms : Nat} {ret : Option FieldType} (O : om_Ok x own nm cc nL ret k mc ms) {pc : Nat} {lv : List (Nat × om_V)} {st : List om_V} {σ : om_S} {ρ : om_R} {n cells slots : Nat} {v : Int32} (hE : om_End x (some (vI v)) σ ρ n cells slots) (hret : ret = some .int) (hd : decode cc pc = .ok (.ireturn, 1)) : om_J x (pc) (lv) ([vI v]) σ ρ n cells slots := by
  obtain ⟨G, p, l, e, R, s, m, args, below, meth, c, nL1, Z⟩ := x
  obtain ⟨hx, hb, hml, hnL, hr, hlk, hnm, hown, hts, hK, hfr, hlo, hmc, hms⟩ := O
  intro H locs ls hP hL hl
  subst hret
  change Z = _ at hE
  subst hE
  exact W.iret hx hb hr (fun t ht hW => ⟨rfl, by rw [ht]; exact hP⟩) hL hd
theorem om_zret {x : om_X} {own nm : String} {cc : ByteArray} {nL k mc ms : Nat} {ret : Option FieldType} (O : om_Ok x own nm cc nL ret k mc ms) {pc : Nat} {lv : List (Nat × om_V)} {st : List om_V} {σ : om_S} {ρ : om_R} {n cells slots : Nat} {v : Int32} (hv : v = 0 ∨ v = 1) (hE : om_End x (some (vI v)) σ ρ n cells slots) (hret : ret = some .boolean) (hd : decode cc pc = .ok (.ireturn, 1)) : om_J x (pc) (lv) ([vI v]) σ ρ n cells slots := by
  obtain ⟨G, p, l, e, R, s, m, args, below, meth, c, nL1, Z⟩ := x
  obtain ⟨hx, hb, hml, hnL, hr, hlk, hnm, hown, hts, hK, hfr, hlo, hmc, hms⟩ := O
  intro H locs ls hP hL hl
  subst hret
  change Z = _ at hE
  subst hE
  exact W.zret (ty := .boolean) hx hb hr (om_nar (Or.inr ⟨rfl, hv⟩)).1 (fun t ht hW => ⟨rfl, by rw [ht]; exact hP⟩) hL hd
theorem om_vret {x : om_X} {own nm : String} {cc : ByteArray} {nL k mc ms : Nat} {ret : Option FieldType} (O : om_Ok x own nm cc nL ret k mc ms) {pc : Nat} {lv : List (Nat × om_V)} {st : List om_V} {σ : om_S} {ρ : om_R} {n cells slots : Nat}  (hE : om_End x none σ ρ n cells slots) (hret : ret = none) (hd : decode cc pc = .ok (.return_, 1)) : om_J x (pc) (lv) ([]) σ ρ n cells slots := by
  obtain ⟨G, p, l, e, R, s, m, args, below, meth, c, nL1, Z⟩ := x
  obtain ⟨hx, hb, hml, hnL, hr, hlk, hnm, hown, hts, hK, hfr, hlo, hmc, hms⟩ := O
  intro H locs ls hP hL hl
  subst hret
  change Z = _ at hE
  subst hE
  exact W.vret hx hb hr (fun t ht hW => ⟨rfl, by rw [ht]; exact hP⟩) hL hd
theorem om_aret {x : om_X} {own nm : String} {cc : ByteArray} {nL k mc ms : Nat} {ret : Option FieldType} (O : om_Ok x own nm cc nL ret k mc ms) {pc : Nat} {lv : List (Nat × om_V)} {st : List om_V} {σ : om_S} {ρ : om_R} {n cells slots : Nat} {v : Option Nat} {C : String} (hE : om_End x (some (vR v)) σ ρ n cells slots) (hret : ret = some (.object C)) (hd : decode cc pc = .ok (.areturn, 1)) : om_J x (pc) (lv) ([vR v]) σ ρ n cells slots := by
  obtain ⟨G, p, l, e, R, s, m, args, below, meth, c, nL1, Z⟩ := x
  obtain ⟨hx, hb, hml, hnL, hr, hlk, hnm, hown, hts, hK, hfr, hlo, hmc, hms⟩ := O
  intro H locs ls hP hL hl
  subst hret
  change Z = _ at hE
  subst hE
  refine W.aret hx hb hr (Or.inl ⟨_, rfl⟩) ?_ (fun t ht hW => ⟨rfl, by rw [ht]; exact hP⟩) hL hd
  cases v with
  | none => exact Or.inl rfl
  | some a => exact Or.inr ⟨_, rfl⟩
def om_D (l : Launch) (G : om_G) (k : Nat) (y : MethodName) (cc : ByteArray) (nL : Nat) (ret : Option FieldType) (mc ms : Nat) (as : List om_V) (σ : om_S) (ρ : om_R) (n : Nat) (v : Option om_V) (σ' : om_S) (ρ' : om_R) (n' : Nat) : Prop :=
  Met l y (Cond.code y cc nL ret :: om_tbl) ({ frames := k, cells := mc, slots := ms, locals := 40 * k }) (fun a U => a = (as.map (om_cv G)).toArray ∧ om_Rep G σ ρ n U.heap ∧ om_Kn G U) (om_Q G v σ' ρ' n') mc ms (om_A G)
def om_args : Nat → List om_V → List (Nat × om_V)
  | _, [] => []
  | i, v :: vs => (i, v) :: om_args (if om_c2 v = true then i + 2 else i + 1) vs
theorem om_args_eq (G : om_G) : ∀ (vs : List om_V) (i : Nat), lv_args i (vs.map (om_cv G)) = (om_args i vs).map fun q => (q.1, om_cv G q.2)
  | [], _ => rfl
  | v :: vs, i => by
    have h : ((om_cv G v).category = 2) ↔ (om_c2 v = true) := by
      have := om_cat2 G v
      constructor
      · intro q
        rw [← this, q]
        rfl
      · intro q
        rw [q] at this
        exact eq_of_beq this
    show (i, om_cv G v) :: lv_args (if (om_cv G v).category = 2 then i + 2 else i + 1) (vs.map (om_cv G)) = (i, om_cv G v) :: (om_args (if om_c2 v = true then i + 2 else i + 1) vs).map _
    rw [← om_args_eq G vs]
    by_cases hc : om_c2 v = true
    · rw [if_pos hc, if_pos (h.mpr hc)]
    · rw [if_neg hc, if_neg (fun q => hc (h.mp q))]
theorem om_size (G : om_G) : ∀ vs : List om_V, (lg_sl (vs.map (om_cv G))).length = (vs.map om_cat).sum
  | [] => rfl
  | v :: vs => by
    have ih := om_size G vs
    unfold lg_sl at ih ⊢
    rw [List.map_cons, List.flatMap_cons, List.length_append, ih, List.map_cons, List.sum_cons]
    congr 1
    rcases v with z | z | r
    · rfl
    · rfl
    · cases r <;> rfl
theorem om_Dof {l : Launch} {G : om_G} {k : Nat} {y : MethodName} {cc : ByteArray} {nL : Nat} {ret : Option FieldType} {mc ms : Nat} {as : List om_V} {σ : om_S} {ρ : om_R} {n : Nat} {v : Option om_V} {σ' : om_S} {ρ' : om_R} {n' : Nat} {lv : List (Nat × om_V)}
    (hy : plainName y.cls = true) (hsz : (as.map om_cat).sum ≤ nL) (hlv : om_args 0 as = lv) (body : ∀ x : om_X, om_Ok x y.cls y.name cc nL ret k mc ms → om_End x v σ' ρ' n' mc ms → om_J x 0 lv [] σ ρ n 0 0) : om_D l G k y cc nL ret mc ms as σ ρ n v σ' ρ' n' := by
  refine Met.ofW (cc := cc) (maxL := nL) (ret := ret) hy rfl ?_
  intro p e s m args below meth c s₁ B hml hv
  obtain ⟨rfl, hP, hK⟩ := hv
  have hts := atoms_spec (ws := Cond.code y cc nL ret :: om_tbl) B.pre
  have hnm := (name_of_methodNamed B.named B.method).1
  have h := body (G, p, l, e, { frames := k, cells := mc, slots := ms, locals := 40 * k }, s, m, (as.map (om_cv G)).toArray, below, meth, c, nL, MQ below (om_Q G v σ' ρ' n') (as.map (om_cv G)).toArray s mc ms (om_A G))
    ⟨B.exec, B.bytes, hml, rfl, B.returns, B.notSynchronized, hnm, findClass_of_methodNamed B.named, fun w hw => hts w (List.mem_cons_of_mem _ hw), hK, Nat.le_refl _, Nat.le_refl _, Nat.le_refl _, Nat.le_refl _⟩ rfl
  rw [lg_entry_eq]
  refine h s.heap [] _ hP (fun q hq => by cases hq) ?_
  have hl := lv_entry (as.map (om_cv G)) (n := nL) (by rw [om_size]; exact hsz)
  rw [om_args_eq, hlv] at hl
  exact hl
theorem om_D.up {l : Launch} {G : om_G} {k k2 : Nat} {y : MethodName} {cc : ByteArray} {nL : Nat} {ret : Option FieldType} {mc ms : Nat} {as : List om_V} {σ : om_S} {ρ : om_R} {n : Nat} {v : Option om_V} {σ' : om_S} {ρ' : om_R} {n' : Nat} (h : om_D l G k y cc nL ret mc ms as σ ρ n v σ' ρ' n') (h2 : k = k2) : om_D l G k2 y cc nL ret mc ms as σ ρ n v σ' ρ' n' := h2 ▸ h
theorem om_gi {ws : List Cond} (h : ∀ w ∈ ws, w ∈ om_tbl) : GoodIn om_tbl ws := fun w hw => om_good w (h w hw)
theorem om_gV {own C : String} {idx nLy : Nat} {y : MethodName} {ccy : ByteArray} {rety : Option FieldType} (hw1 : Cond.methodLink own idx y ∈ om_tbl) (hw2 : Cond.instanceMethod y ∈ om_tbl) (hw3 : Cond.selects C y y ∈ om_tbl) (hw4 : Cond.initialized C ∈ om_tbl) (hw5 : Cond.code y ccy nLy rety ∈ om_tbl) : GoodIn om_tbl (wsV own idx C y (Cond.code y ccy nLy rety :: om_tbl)) :=
  om_gi (List.forall_mem_cons.mpr ⟨hw1, List.forall_mem_cons.mpr ⟨hw2, List.forall_mem_cons.mpr ⟨hw3, List.forall_mem_cons.mpr ⟨hw4, List.forall_mem_cons.mpr ⟨hw5, fun _ h => h⟩⟩⟩⟩⟩)
theorem om_gS {own : String} {idx nLy : Nat} {y : MethodName} {ccy : ByteArray} {rety : Option FieldType} (hw1 : Cond.methodLink own idx y ∈ om_tbl) (hw2 : Cond.static y ∈ om_tbl) (hw4 : Cond.initialized y.cls ∈ om_tbl) (hw5 : Cond.code y ccy nLy rety ∈ om_tbl) : GoodIn om_tbl (va_wsS own idx y (Cond.code y ccy nLy rety :: om_tbl)) :=
  om_gi (List.forall_mem_cons.mpr ⟨hw1, List.forall_mem_cons.mpr ⟨hw2, List.forall_mem_cons.mpr ⟨hw4, List.forall_mem_cons.mpr ⟨hw5, fun _ h => h⟩⟩⟩⟩)
theorem om_gC {nLy : Nat} {y : MethodName} {ccy : ByteArray} {rety : Option FieldType} (hw5 : Cond.code y ccy nLy rety ∈ om_tbl) : GoodIn om_tbl (Cond.code y ccy nLy rety :: om_tbl) :=
  om_gi (List.forall_mem_cons.mpr ⟨hw5, fun _ h => h⟩)
theorem om_blind {G : om_G} {as : List om_V} {σ : om_S} {ρ : om_R} {n : Nat} : FrameBlind (fun (a : Array Value) (U : State) => a = (as.map (om_cv G)).toArray ∧ om_Rep G σ ρ n U.heap ∧ om_Kn G U) :=
  fun a U g mk h => ⟨h.1, h.2.1, h.2.2.calling g mk a⟩
theorem om_callV {x : om_X} {own nm : String} {cc : ByteArray} {nL k mc ms : Nat} {ret : Option FieldType} (O : om_Ok x own nm cc nL ret k mc ms) {pc : Nat} {lv : List (Nat × om_V)} {st : List om_V} {σ : om_S} {ρ : om_R} {n cells slots : Nat} {y : MethodName} {ccy : ByteArray} {nLy k2 mc2 ms2 idx np : Nat} {rety : Option FieldType} {v : Option om_V} {σ2 : om_S} {ρ2 : om_R} {n2 : Nat} {stk st2 : List om_V} {ci N q : Nat} {C : String} {T : u_T} (as : List om_V) (D : ∀ l G, om_D l G k2 y ccy nLy rety mc2 ms2 (vR (some q) :: as) σ ρ n v σ2 ρ2 n2) (hc : vwCl[ci]? = some (C, T, N)) (hci : ci < 20) (hq : om_kc q = ci) (hqn : q < n) (hw1 : Cond.methodLink own idx y ∈ om_tbl) (hw3 : Cond.selects C y y ∈ om_tbl) (hyC : y.cls = C) (hw2 : Cond.instanceMethod y ∈ om_tbl) (hw4 : Cond.initialized y.cls ∈ om_tbl) (hw5 : Cond.code y ccy nLy rety ∈ om_tbl) (hy : y.cls ≠ "java/lang/invoke/MethodHandle" ∧ y.cls ≠ "java/lang/invoke/VarHandle" ∧ (parseMethodDescriptor y.desc).map (fun d => d.parameters.length) = some np) (hnp : as.length = np) (hk : k2 + 1 ≤ k) (hn2 : nLy ≤ 21) (hst : stk = as.reverse ++ vR (some q) :: st) (hcat : (st.map om_cat).sum ≤ 8) (hst2 : v.toList ++ st = st2) (hmc2 : cells + mc2 ≤ mc) (hms2 : slots + ms2 ≤ ms) (hd : decode cc pc = .ok (.invokevirtual idx, 3)) (K : om_J x (pc + 3) (lv) (st2) σ2 ρ2 n2 (cells + mc2) (slots + ms2)) : om_J x (pc) (lv) (stk) σ ρ n cells slots := by
  obtain ⟨G, p, l, e, R, s, m, args, below, meth, c, nL1, Z⟩ := x
  obtain ⟨hx, hb, hml, hnL, hr, hlk, hnm, hown, hts, hK, hfr, hlo, hmc, hms⟩ := O
  intro H locs ls hP hL hl
  subst hnL
  intro T hT X
  subst hst
  obtain ⟨v0, st₀, t, T', L, h0, X', hL', e1, e2, ⟨hv, hR'⟩, stp⟩ := (va_runV (As := as.map (om_cv G)) (rest := st.map (om_cv G)) (b := om_ad G q) (C := C) (g := F0 m pc ls ((as.reverse ++ vR (some q) :: st).map (om_cv G))) ⟨hx, hb, hml, hown, hts⟩ (D l G) (cwV np hts (om_gV hw1 hw2 hw3 (hyC ▸ hw4) hw5) rfl rfl rfl ⟨hyC, hy⟩ ⟨by show k2 + 1 ≤ R.frames; omega, by show 8 + (nLy + 11) + 40 * k2 ≤ R.locals; omega⟩) ⟨om_blind, va_recv hK.1 hP.1 hc ((om_ws_at hqn).trans (by rw [om_ent_o hq hci])), fun U hU hW => ⟨rfl, by rw [hU]; exact hP, hK.warm hW⟩⟩ rfl (by simpa using hnp) hl.1 (by simp [List.map_reverse, om_cv, va_rf]) (lv_room (by rw [om_cats]; exact hcat)) hd ⟨Nat.le_trans hmc2 hmc, Nat.le_trans hms2 hms⟩) T hT X
  have hv0 : v0 = v.map (om_cv G) := by injection hv
  subst hv0
  subst hst2
  obtain ⟨t2, a1, b1⟩ := K T'.heap (locs ++ L) ls (by rw [e1]; exact hR') (fun q hq => by
    rcases List.mem_append.mp hq with h | h
    · exact hL q h
    · exact hL' q h) hl T' rfl X'
  refine ⟨t2, stp t2 ?_, b1⟩
  have e9 : (v.toList ++ st).map (om_cv G) = (v.map (om_cv G)).toList ++ st.map (om_cv G) := by
    rw [List.map_append]
    cases v <;> rfl
  rw [e9] at a1
  exact a1
theorem om_callS {x : om_X} {own nm : String} {cc : ByteArray} {nL k mc ms : Nat} {ret : Option FieldType} (O : om_Ok x own nm cc nL ret k mc ms) {pc : Nat} {lv : List (Nat × om_V)} {st : List om_V} {σ : om_S} {ρ : om_R} {n cells slots : Nat} {y : MethodName} {ccy : ByteArray} {nLy k2 mc2 ms2 idx np : Nat} {rety : Option FieldType} {v : Option om_V} {σ2 : om_S} {ρ2 : om_R} {n2 : Nat} {stk st2 : List om_V} (as : List om_V) (D : ∀ l G, om_D l G k2 y ccy nLy rety mc2 ms2 as σ ρ n v σ2 ρ2 n2) (hw1 : Cond.methodLink own idx y ∈ om_tbl) (hw2 : Cond.static y ∈ om_tbl) (hw4 : Cond.initialized y.cls ∈ om_tbl) (hw5 : Cond.code y ccy nLy rety ∈ om_tbl) (hy : y.cls ≠ "java/lang/invoke/MethodHandle" ∧ y.cls ≠ "java/lang/invoke/VarHandle" ∧ (parseMethodDescriptor y.desc).map (fun d => d.parameters.length) = some np) (hnp : as.length = np) (hk : k2 + 1 ≤ k) (hn2 : nLy ≤ 21) (hst : stk = as.reverse ++ st) (hcat : (st.map om_cat).sum ≤ 8) (hst2 : v.toList ++ st = st2) (hmc2 : cells + mc2 ≤ mc) (hms2 : slots + ms2 ≤ ms) (hd : decode cc pc = .ok (.invokestatic idx, 3)) (K : om_J x (pc + 3) (lv) (st2) σ2 ρ2 n2 (cells + mc2) (slots + ms2)) : om_J x (pc) (lv) (stk) σ ρ n cells slots := by
  obtain ⟨G, p, l, e, R, s, m, args, below, meth, c, nL1, Z⟩ := x
  obtain ⟨hx, hb, hml, hnL, hr, hlk, hnm, hown, hts, hK, hfr, hlo, hmc, hms⟩ := O
  intro H locs ls hP hL hl
  subst hnL
  intro T hT X
  subst hst
  obtain ⟨v0, st₀, t, T', L, h0, X', hL', e1, e2, ⟨hv, hR'⟩, stp⟩ := (va_runS (As := as.map (om_cv G)) (rest := st.map (om_cv G)) (g := F0 m pc ls ((as.reverse ++ st).map (om_cv G))) ⟨hx, hb, hml, hown, hts⟩ (D l G) (va_cwS np hts (om_gS hw1 hw2 hw4 hw5) rfl rfl rfl hy ⟨by show k2 + 1 ≤ R.frames; omega, by show 8 + (nLy + 11) + 40 * k2 ≤ R.locals; omega⟩) ⟨om_blind, fun U hU hW => ⟨rfl, by rw [hU]; exact hP, hK.warm hW⟩⟩ rfl (by simpa using hnp) hl.1 (by simp [List.map_reverse, om_cv, va_rf]) (lv_room (by rw [om_cats]; exact hcat)) hd ⟨Nat.le_trans hmc2 hmc, Nat.le_trans hms2 hms⟩) T hT X
  have hv0 : v0 = v.map (om_cv G) := by injection hv
  subst hv0
  subst hst2
  obtain ⟨t2, a1, b1⟩ := K T'.heap (locs ++ L) ls (by rw [e1]; exact hR') (fun q hq => by
    rcases List.mem_append.mp hq with h | h
    · exact hL q h
    · exact hL' q h) hl T' rfl X'
  refine ⟨t2, stp t2 ?_, b1⟩
  have e9 : (v.toList ++ st).map (om_cv G) = (v.map (om_cv G)).toList ++ st.map (om_cv G) := by
    rw [List.map_append]
    cases v <;> rfl
  rw [e9] at a1
  exact a1
