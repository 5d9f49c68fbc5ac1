theorem om_objInit {x : om_X} {own nm : String} {cc : ByteArray} {nL k mc ms : Nat} {ret : Option FieldType} (O : om_Ok x own nm cc nL ret k mc ms) {pc : Nat} {lv : List (Nat × om_V)} {st : List om_V} {σ : om_S} {ρ : om_R} {n cells slots : Nat} {idx q : Nat} (hw1 : Cond.methodLink own idx objectInit ∈ om_tbl) (hw2 : Cond.instanceMethod objectInit ∈ om_tbl) (hw3 : Cond.code objectInit ⟨#[0xb1]⟩ 1 none ∈ om_tbl) (hk : 1 ≤ k) (hcat : (st.map om_cat).sum ≤ 8) (hd : decode cc pc = .ok (.invokespecial idx, 3)) (K : om_J x (pc + 3) (lv) (st) σ ρ n cells slots) : om_J x (pc) (lv) (vR (some q) :: st) σ ρ n cells slots := by
  obtain ⟨G, p, l, e, R, s, m, args, below, meth, c, nL1, Z⟩ := x
  obtain ⟨hx, hb, hml, hnL, hr, hlk, hnm, hown, hts, hK, hfr, hlo, hmc, hms⟩ := O
  intro H locs ls hP hL hl
  subst hnL
  refine W.objInit hx hb hown (hts _ hw1) (hts _ hw2) (hts _ hw3) rfl (by rw [hml]; exact hl.1) rfl hd (by omega) ?_ (K H locs ls hP hL hl)
  have h9 := lv_room (m := m) (pc := pc) (ls := ls) (rest := []) (st := st.map (om_cv G)) (by rw [om_cats]; exact hcat)
  have h8 : 2 * (F0 m pc ls (List.map (om_cv G) (vR (some q) :: st))).monitorRoom + ((st.map (om_cv G)).map fun v => v.category).sum ≤ 8 := by
    show 2 * 0 + _ ≤ 8
    rw [om_cats]
    omega
  omega
theorem om_ws_push {G : om_G} {σ : om_S} {ρ : om_R} {n : Nat} : om_ws G (om_z σ n) (om_zr ρ n) (n + 1) = om_ws G σ ρ n ++ [(om_ad G n, om_ent G (om_z σ n) (om_zr ρ n) n)] := by
  unfold om_ws
  rw [List.range_succ, List.map_append]
  congr 1
  refine List.map_congr_left fun k hk => ?_
  have hk' : k ≠ n := Nat.ne_of_lt (List.mem_range.mp hk)
  rw [om_ent_off (σ := σ) (ρ := ρ)]
  · funext b
    unfold om_z
    rw [if_neg hk']
  · funext b
    unfold om_zr
    rw [if_neg hk']
theorem om_Rep.push {G : om_G} {σ : om_S} {ρ : om_R} {n : Nat} {H H1 : Heap} (h : om_Rep G σ ρ n H) (hn : n < om_N) (hz : H1.size = H.size + 1) (ho : ∀ q : Nat, q < H.size → H1[q]? = H[q]?) (he : va_at G.1 vwCl (om_ad G n, om_ent G (om_z σ n) (om_zr ρ n) n) H1) : om_Rep G (om_z σ n) (om_zr ρ n) (n + 1) H1 := by
  have hA : om_ad G n = H.size := by rw [om_adN hn, h.2.2.1]
  refine ⟨?_, ?_, by rw [hz, h.2.2.1, Nat.add_assoc], hn, fun q hq => ?_⟩
  · rw [om_ws_push]
    refine (h.1.kept (fun k x hx => ho x.1 ((h.1 k x hx).lt))).app (fun k x hx => ?_)
    have hz : k < 1 := (List.getElem?_eq_some_iff.mp hx).1
    rw [show k = 0 by omega] at hx
    cases hx
    exact he
  · rw [om_ws_push]
    exact h.2.1.push h.1 hA (by rw [om_adN hn]; exact Nat.le_add_right _ _)
  · rw [ho q (by rw [h.2.2.1]; omega)]
    exact h.2.2.2.2 q hq
theorem om_z_at {σ : om_S} {n j : Nat} : om_z σ n n j = 0 := if_pos rfl
theorem om_zr_at {ρ : om_R} {n j : Nat} : om_zr ρ n n j = none := if_pos rfl
theorem om_new {x : om_X} {own nm : String} {cc : ByteArray} {nL k mc ms : Nat} {ret : Option FieldType} (O : om_Ok x own nm cc nL ret k mc ms) {pc : Nat} {lv : List (Nat × om_V)} {st : List om_V} {σ : om_S} {ρ : om_R} {n cells slots : Nat} {σ1 : om_S} {ρ1 : om_R} {n1 : Nat} {C : String} {T : u_T} {N ci idx : Nat} (hc : vwCl[ci]? = some (C, T, N)) (hci : ci < 20) (hN : N = om_nf ci) (hin : ∀ w ∈ u_ws C T N, w ∈ om_tbl) (ty : Nat → FieldType) (hty : ∀ k, k < N → parseFieldDescriptor (T k).2.2.1 = some (ty k)) (hdv : ∀ j, j < N → defaultValue (ty j) = (if om_isr ci j = true then .null else .int 0)) (hw1 : Cond.classLink own idx C ∈ om_tbl) (hw2 : Cond.instantiable C N ∈ om_tbl) (hw3 : Cond.initialized C ∈ om_tbl) (hq : om_kc n = ci) (hcells : cells + 1 ≤ mc) (hslots : slots + N ≤ ms) (hd : decode cc pc = .ok (.new idx, 3)) (hs : om_z σ n = σ1) (hr1 : om_zr ρ n = ρ1) (hn1 : n + 1 = n1) (K : om_J x (pc + 3) (lv) (vR (some n) :: st) σ1 ρ1 n1 (cells + 1) (slots + N)) : om_J x (pc) (lv) (st) σ ρ n cells slots := by
  obtain ⟨G, p, l, e, R, s, m, args, below, meth, c, nL1, Z⟩ := x
  obtain ⟨hx, hb, hml, hnL, hr, hlk, hnm, hown, hts, hK, hfr, hlo, hmc, hms⟩ := O
  intro H locs ls hP hL hl
  subst hN
  subst hs; subst hr1; subst hn1
  have hn : n < om_N := om_lt hq (by omega)
  have hKn := hK.1.1 ci _ hc
  refine W.newcK hx hb hown (hts _ hw1) (hts _ hw2) (hts _ hw3) rfl hd (Nat.le_trans hcells hmc) (Nat.le_trans hslots hms) hKn.2.1 (h := om_ad G n) (by rw [om_adN hn, hP.2.2.1]) fun H1 kC hkC e1 z1 o1 => ?_
  rw [om_adN hn, ← hP.2.2.1] at z1 o1
  refine K H1 locs ls (hP.push hn z1 o1 ?_) hL hl
  rw [om_ent_o hq hci]
  refine ⟨_, hc, (u_born ty hts hin hKn hkC e1 hty).to (fun j hj => ?_)⟩
  rw [hdv j hj]
  unfold vp_V om_fs
  rw [List.getD_eq_getElem?_getD, List.getElem?_map, List.getElem?_range hj]
  by_cases h : om_isr ci j = true
  · simp [h, om_zr_at, va_rf]
  · simp [h, om_z_at]
theorem om_newa {x : om_X} {own nm : String} {cc : ByteArray} {nL k mc ms : Nat} {ret : Option FieldType} (O : om_Ok x own nm cc nL ret k mc ms) {pc : Nat} {lv : List (Nat × om_V)} {st : List om_V} {σ : om_S} {ρ : om_R} {n cells slots : Nat} {σ1 : om_S} {ρ1 : om_R} {n1 : Nat} {len : Int32} (B : Nat) (hw : Cond.arrayClass .int ∈ om_tbl) (hq : om_kc n = 20) (hlen : Int32.ofNat (om_al n) = len) (hB : om_al n ≤ B) (hB2 : B ≤ 100000) (hcells : cells + 1 ≤ mc) (hslots : slots + B ≤ ms) (hd : decode cc pc = .ok (.newarray .int, 2)) (hs : om_z σ n = σ1) (hr1 : om_zr ρ n = ρ1) (hn1 : n + 1 = n1) (K : om_J x (pc + 2) (lv) (vR (some n) :: st) σ1 ρ1 n1 (cells + 1) (slots + B)) : om_J x (pc) (lv) (vI len :: st) σ ρ n cells slots := by
  obtain ⟨G, p, l, e, R, s, m, args, below, meth, c, nL1, Z⟩ := x
  obtain ⟨hx, hb, hml, hnL, hr, hlk, hnm, hown, hts, hK, hfr, hlo, hmc, hms⟩ := O
  intro H locs ls hP hL hl
  subst hs; subst hr1; subst hn1
  have hn : n < om_N := om_lt hq (by omega)
  subst hlen
  have hsm : om_al n < 2 ^ 31 := by omega
  refine va_newaK (atype := .int) (N := om_al n) hx hb (hts _ hw) rfl hd rfl (nI_pos hsm) (nI_clamp hsm) (by show om_al n * 4 ≤ _; omega) (Nat.le_trans hcells hmc) (by omega) (h := om_ad G n) (by rw [om_adN hn, hP.2.2.1]) fun H1 cA e1 z1 o1 hAr hNm => ?_
  rw [om_adN hn, ← hP.2.2.1] at z1 o1
  have hcA : G.2.2.1.1 = cA := Option.some.inj (((hK.1.2 0 _ rfl).2).symm.trans hNm)
  refine W.widen (k := cells + 1) (n := slots + B) (by omega) (by omega) (K H1 locs ls (hP.push hn z1 o1 ?_) hL hl)
  rw [om_ent_i hq]
  show H1[om_ad G n]? = some (vp_cell _ _)
  rw [vp_cell_i, hcA, e1]
  congr 2
  funext j
  rw [om_z_at]
  rfl
theorem om_anewM {x : om_X} {own nm : String} {cc : ByteArray} {nL k mc ms : Nat} {ret : Option FieldType} (O : om_Ok x own nm cc nL ret k mc ms) {pc : Nat} {lv : List (Nat × om_V)} {st : List om_V} {σ : om_S} {ρ : om_R} {n cells slots : Nat} {σ1 : om_S} {ρ1 : om_R} {n1 : Nat} {len : Int32} {idx : Nat} (hw : Cond.classLink own idx "OilMemories$Memory" ∈ om_tbl) (hq : om_kc n = 21) (hlen : Int32.ofNat (om_al n) = len) (hB : om_al n ≤ 100) (hcells : cells + 1 ≤ mc) (hslots : slots + 100 ≤ ms) (hd : decode cc pc = .ok (.anewarray idx, 3)) (hs : om_z σ n = σ1) (hr1 : om_zr ρ n = ρ1) (hn1 : n + 1 = n1) (K : om_J x (pc + 3) (lv) (vR (some n) :: st) σ1 ρ1 n1 (cells + 1) (slots + 100)) : om_J x (pc) (lv) (vI len :: st) σ ρ n cells slots := by
  obtain ⟨G, p, l, e, R, s, m, args, below, meth, c, nL1, Z⟩ := x
  obtain ⟨hx, hb, hml, hnL, hr, hlk, hnm, hown, hts, hK, hfr, hlo, hmc, hms⟩ := O
  intro H locs ls hP hL hl
  subst hs; subst hr1; subst hn1
  have hn : n < om_N := om_lt hq (by omega)
  subst hlen
  have hsm : om_al n < 2 ^ 31 := by omega
  have hcl : (Int32.ofNat (om_al n)).toNatClampNeg = om_al n := nI_clamp hsm
  refine W.anew hx hb hown (hts _ hw) (va_AO.use hK.2.2.2.1) rfl hd rfl (nI_pos hsm) (by rw [hcl]; omega) (Nat.le_trans hcells hmc) (by rw [hcl]; omega) fun cA kA comp f1 f2 f3 f4 => ?_
  rw [hcl]
  have hsz : om_ad G n = H.size := by rw [om_adN hn, hP.2.2.1]
  generalize hH1 : H.push ({ cls := cA, slots := Array.replicate (om_al n) .null, vm := .none } : Cell) = H1
  have z1 : H1.size = H.size + 1 := by rw [← hH1, Array.size_push]
  have e1 : H1[om_ad G n]? = some (arrV cA (om_al n) (fun _ => .null)) := by rw [hsz, ← hH1, Array.getElem?_push_size, ← arrV_new]
  have o1 : ∀ q : Nat, q < H.size → H1[q]? = H[q]? := fun q hq => by rw [← hH1, Array.getElem?_push, if_neg (Nat.ne_of_lt hq)]
  have hcA : G.2.2.1.2.1 = cA := by
    obtain ⟨kA', comp', -, -, -, h4⟩ := (hK.1.2 1 _ rfl).2
    exact Option.some.inj (h4.symm.trans f1)
  have hg : (F0 m pc ls (List.map (om_cv G) (vI (Int32.ofNat (om_al n)) :: st))) = F0 m pc ls (.int (Int32.ofNat (om_al n)) :: st.map (om_cv G)) := rfl
  rw [← hsz]
  refine W.widen (k := cells + 1) (n := slots + 100) (by omega) (by omega) (K H1 locs ls (hP.push hn z1 o1 ?_) hL hl)
  rw [om_ent_m hq]
  show H1[om_ad G n]? = some (vp_cell _ _)
  rw [vp_cell_q, hcA, e1]
  congr 2
  funext j
  unfold om_rs
  by_cases hj : j < om_al n
  · rw [if_pos hj, om_zr_at]
    rfl
  · rw [if_neg hj]
    rfl
theorem om_anewS {x : om_X} {own nm : String} {cc : ByteArray} {nL k mc ms : Nat} {ret : Option FieldType} (O : om_Ok x own nm cc nL ret k mc ms) {pc : Nat} {lv : List (Nat × om_V)} {st : List om_V} {σ : om_S} {ρ : om_R} {n cells slots : Nat} {σ1 : om_S} {ρ1 : om_R} {n1 : Nat} {len : Int32} {idx : Nat} (hw : Cond.classLink own idx "OilMemories$Sheet" ∈ om_tbl) (hq : om_kc n = 22) (hlen : Int32.ofNat (om_al n) = len) (hB : om_al n ≤ 100) (hcells : cells + 1 ≤ mc) (hslots : slots + 100 ≤ ms) (hd : decode cc pc = .ok (.anewarray idx, 3)) (hs : om_z σ n = σ1) (hr1 : om_zr ρ n = ρ1) (hn1 : n + 1 = n1) (K : om_J x (pc + 3) (lv) (vR (some n) :: st) σ1 ρ1 n1 (cells + 1) (slots + 100)) : om_J x (pc) (lv) (vI len :: st) σ ρ n cells slots := by
  obtain ⟨G, p, l, e, R, s, m, args, below, meth, c, nL1, Z⟩ := x
  obtain ⟨hx, hb, hml, hnL, hr, hlk, hnm, hown, hts, hK, hfr, hlo, hmc, hms⟩ := O
  intro H locs ls hP hL hl
  subst hs; subst hr1; subst hn1
  have hn : n < om_N := om_lt hq (by omega)
  subst hlen
  have hsm : om_al n < 2 ^ 31 := by omega
  have hcl : (Int32.ofNat (om_al n)).toNatClampNeg = om_al n := nI_clamp hsm
  refine W.anew hx hb hown (hts _ hw) (va_AO.use hK.2.2.2.2.1) rfl hd rfl (nI_pos hsm) (by rw [hcl]; omega) (Nat.le_trans hcells hmc) (by rw [hcl]; omega) fun cA kA comp f1 f2 f3 f4 => ?_
  rw [hcl]
  have hsz : om_ad G n = H.size := by rw [om_adN hn, hP.2.2.1]
  generalize hH1 : H.push ({ cls := cA, slots := Array.replicate (om_al n) .null, vm := .none } : Cell) = H1
  have z1 : H1.size = H.size + 1 := by rw [← hH1, Array.size_push]
  have e1 : H1[om_ad G n]? = some (arrV cA (om_al n) (fun _ => .null)) := by rw [hsz, ← hH1, Array.getElem?_push_size, ← arrV_new]
  have o1 : ∀ q : Nat, q < H.size → H1[q]? = H[q]? := fun q hq => by rw [← hH1, Array.getElem?_push, if_neg (Nat.ne_of_lt hq)]
  have hcA : G.2.2.1.2.2 = cA := by
    obtain ⟨kA', comp', -, -, -, h4⟩ := (hK.1.2 2 _ rfl).2
    exact Option.some.inj (h4.symm.trans f1)
  have hg : (F0 m pc ls (List.map (om_cv G) (vI (Int32.ofNat (om_al n)) :: st))) = F0 m pc ls (.int (Int32.ofNat (om_al n)) :: st.map (om_cv G)) := rfl
  rw [← hsz]
  refine W.widen (k := cells + 1) (n := slots + 100) (by omega) (by omega) (K H1 locs ls (hP.push hn z1 o1 ?_) hL hl)
  rw [om_ent_s hq]
  show H1[om_ad G n]? = some (vp_cell _ _)
  rw [vp_cell_q, hcA, e1]
  congr 2
  funext j
  unfold om_rs
  by_cases hj : j < om_al n
  · rw [if_pos hj, om_zr_at]
    rfl
  · rw [if_neg hj]
    rfl
theorem om_putFR {x : om_X} {own nm : String} {cc : ByteArray} {nL k mc ms : Nat} {ret : Option FieldType} (O : om_Ok x own nm cc nL ret k mc ms) {pc : Nat} {lv : List (Nat × om_V)} {st : List om_V} {σ : om_S} {ρ : om_R} {n cells slots : Nat} {C : String} {T : u_T} {N ci j idx q : Nat} {r : Nat} {ty : FieldType} {ρ1 : om_R} (hc : vwCl[ci]? = some (C, T, N)) (hci : ci < 20) (hN : N = om_nf ci) (hin : ∀ w ∈ u_ws C T N, w ∈ om_tbl) (hj : j < N) (hT : (T j).1 = C) (hlink : Cond.fieldLink own idx C (T j).2.1 (T j).2.2.1 ∈ om_tbl) (ty0 : Nat → FieldType) (hty : ∀ k, k < N → parseFieldDescriptor (T k).2.2.1 = some (ty0 k)) (hnm2 : ∀ a, a < N → ∀ b, b < N → a ≠ b → (T a).2.1 ≠ (T b).2.1) (hfin : (T j).2.2.2 = true) (hini : nm = "<init>") (hdecl : C = own) (hv : (∃ C2, ty = .object C2) ∨ ∃ t, ty = .array t) (hdsc : parseFieldDescriptor (T j).2.2.1 = some ty) (hi : om_isr ci j = true) (hq : om_kc q = ci) (hqn : q < n) (hd : decode cc pc = .ok (.putfield idx, 3)) (hs : om_wr ρ q j (some r) = ρ1) (K : om_J x (pc + 3) (lv) (st) σ ρ1 n cells slots) : om_J x (pc) (lv) (vR (some r) :: vR (some q) :: st) σ ρ n cells slots := by
  obtain ⟨G, p, l, e, R, s, m, args, below, meth, c, nL1, Z⟩ := x
  obtain ⟨hx, hb, hml, hnL, hr, hlk, hnm, hown, hts, hK, hfr, hlo, hmc, hms⟩ := O
  intro H locs ls hP hL hl
  subst hN
  subst hs
  have g1 : narrow ty (.ref (om_ad G r)) = .ref (om_ad G r) := by rcases hv with ⟨C2, rfl⟩ | ⟨t, rfl⟩ <;> rfl
  have g2 : fits ty (.ref (om_ad G r)) = true := by rcases hv with ⟨C2, rfl⟩ | ⟨t, rfl⟩ <;> rfl
  obtain ⟨rr, h1r, cell, q1, q2, q3, q4⟩ := hP.1 q _ ((om_ws_at hqn).trans (by rw [om_ent_o hq hci]))
  have hr' : rr = (C, T, om_nf ci) := Option.some.inj (h1r.symm.trans hc)
  subst hr'
  have hap := va_apart (own := own) hts hin ty0 hty hnm2 hK.1 hc
  obtain ⟨hSl, hfc, kC, hkC, hkind⟩ := hK.1.1 ci _ hc
  obtain ⟨cf, kf, fi, f, hfi, hsl⟩ := hSl j hj
  have he : (om_ws G σ ρ n)[q]? = some (om_ad G q, .inr (ci, om_fs G σ ρ ci q)) := (om_ws_at hqn).trans (by rw [om_ent_o hq hci])
  have hlay := hts _ (hin _ (u_in_lay hj))
  unfold u_lay at hlay
  have hst := (u_facts hfc hkC (u_lays hts hin hj) hfi).1
  have hpost : ∀ H' : Heap, H'[om_ad G q]? = some (cell.setSlot f.slot (.ref (om_ad G r))) → H'.size = H.size → (∀ a : Nat, a ≠ om_ad G q → H'[a]? = H[a]?) → om_Rep G σ (om_wr ρ q j (some r)) n H' := by
    intro H' e1 e2 e3
    rw [hsl] at e1
    have hA : om_A G (om_ad G q) := by
      rw [om_adN (Nat.lt_of_lt_of_le hqn hP.2.2.2.1)]
      exact Nat.le_add_right _ _
    refine hP.put (k := q) (e := .inr (ci, (om_fs G σ ρ ci q).set j (.ref (om_ad G r)))) e2 hqn (fun _ _ => rfl) (fun a ha => om_wr_off ha) ((om_ent_o hq hci).trans (by rw [om_fs_putR hi]; rfl)) ?_ (hP.2.1.set he) ((om_S0 hP hL).put e2 e3 hA (k := 0))
    exact hP.1.set hP.2.1 he ⟨_, hc, t_OB.to (V := updV (vp_V (om_fs G σ ρ ci q)) j (.ref (om_ad G r))) ⟨_, e1, q2, q3, t_set q4 hap hj (.ref (om_ad G r))⟩ (fun i _ => vp_updV_set (by rw [om_fs_len]; exact hj) (.ref (om_ad G r)) i)⟩ e3
  have hA : om_A G (om_ad G q) := by
    rw [om_adN (Nat.lt_of_lt_of_le hqn hP.2.2.2.1)]
    exact Nat.le_add_right _ _
  rw [if_pos hfin] at hlay
  have hcf : m.cls = cf := by
    obtain ⟨_, _, c', _, _, _, -, -, hf', -, -, -, hown2, -⟩ := Cond.laysFinal_spec hlay
    have e1 : c' = cf := by have := hfi.symm.trans hf'; simp at this; exact this.1.symm
    rw [hT, hdecl] at hown2
    rw [← e1]; exact Option.some.inj (hown.symm.trans hown2)
  have h6 := u_fits hfc hkC hkind (Or.inr hlay) hfi hdsc g1 g2
  refine W.putFinK hx hb hown (hts _ hlink) (by rw [hT] at hfi; exact hfi) hst hcf (hnm.trans hini) (by rw [q2]; exact h6) q1 q3 (by rw [hsl]; exact k2_hasslot (q4 j hj)) rfl rfl hd fun H' e1 e2 e3 => ?_
  exact K H' _ ls (hpost H' e1 e2 e3) (fun q' hq' => by
    rcases List.mem_append.mp hq' with h | h
    · exact hL q' h
    · rw [List.mem_singleton.mp h]; exact hA) hl
theorem om_aastM {x : om_X} {own nm : String} {cc : ByteArray} {nL k mc ms : Nat} {ret : Option FieldType} (O : om_Ok x own nm cc nL ret k mc ms) {pc : Nat} {lv : List (Nat × om_V)} {st : List om_V} {σ : om_S} {ρ : om_R} {n cells slots : Nat} {i : Int32} {a r ci : Nat} {T : u_T} {N : Nat} {ρ1 : om_R} (hc : vwCl[ci]? = some ("OilMemories$Memory", T, N)) (hci : ci < 20) (hq : om_kc a = 21) (hqn : a < n) (hr2 : om_kc r = ci) (hrn : r < n) (hin : om_in i (om_al a)) (hd : decode cc pc = .ok (.aastore, 1)) (hs : om_wr ρ a i.toNatClampNeg (some r) = ρ1) (K : om_J x (pc + 1) (lv) (st) σ ρ1 n cells slots) : om_J x (pc) (lv) (vR (some r) :: vI i :: vR (some a) :: st) σ ρ n cells slots := by
  obtain ⟨G, p, l, e, R, s, m, args, below, meth, c, nL1, Z⟩ := x
  obtain ⟨hx, hb, hml, hnL, hr, hlk, hnm, hown, hts, hK, hfr, hlo, hmc, hms⟩ := O
  intro H locs ls hP hL hl
  subst hs
  have he : (om_ws G σ ρ n)[a]? = some (om_ad G a, .inl (G.2.2.1.2.1, om_al a, .inr (.inr (.inr (.inr (om_rs G ρ a)))))) := (om_ws_at hqn).trans (by rw [om_ent_m hq])
  have hlt : i.toNatClampNeg < om_al a := Nat.not_le.mp fun q => hin (Or.inr q)
  have hsz : ∀ {H1 : Heap}, va_P G.1 vwCl ((om_ws G σ ρ n).set a (om_ad G a, .inl (G.2.2.1.2.1, om_al a, .inr (.inr (.inr (.inr (va_up (om_rs G ρ a) i.toNatClampNeg (some (om_ad G r))))))))) H1 → True := fun _ => trivial
  have h9 : om_rs G (om_wr ρ a i.toNatClampNeg (some r)) a = va_up (om_rs G ρ a) i.toNatClampNeg (some (om_ad G r)) := by
    funext q
    unfold om_rs va_up om_wr
    by_cases hj : q = i.toNatClampNeg
    · subst hj
      simp [hlt]
    · simp [hj]
  have hA : om_A G (om_ad G a) := by
    rw [om_adN (Nat.lt_of_lt_of_le hqn hP.2.2.2.1)]
    exact Nat.le_add_right _ _
  obtain ⟨r', hr', cellV, g1, g2, g3, -⟩ := hP.1 r _ ((om_ws_at hrn).trans (by rw [om_ent_o hr2 hci]))
  have hcls := (hK.1.1 ci _ hc).2
  obtain ⟨kA, comp, k1, k2', k3, -⟩ := (hK.1.2 1 _ rfl).2
  have hcomp : comp = G.1.1 ci := Option.some.inj (k3.symm.trans hcls.1)
  subst hcomp
  obtain ⟨kC, hkC, -⟩ := hcls.2
  have h0 : ¬ i < 0 := fun q => hin (Or.inl q)
  refine W.aast hx hb (hP.1 a _ he) (fun q h => by cases h) (fun h => by cases h) k1 k2' rfl hkC ⟨h0, by show _ < (arrV _ _ _).slots.size; rw [arrV_size]; exact hlt⟩ g1 (fun q h => by rw [g3] at h; cases h) (by rw [g2]; exact hkC) (by rw [g2]; exact va_assign hcls) rfl rfl hd fun H1 e1 e2 e3 => ?_
  have hR : om_Rep G σ (om_wr ρ a i.toNatClampNeg (some r)) n H1 := by
    refine hP.put (k := a) (e := .inl (G.2.2.1.2.1, om_al a, .inr (.inr (.inr (.inr (va_up (om_rs G ρ a) i.toNatClampNeg (some (om_ad G r)))))))) e2 hqn (fun _ _ => rfl) (fun a ha => om_wr_off ha) ((om_ent_m hq).trans (by rw [h9])) ?_ (hP.2.1.set he) ((om_S0 hP hL).put e2 e3 hA (k := 0))
    refine hP.1.set hP.2.1 he ?_ e3
    show H1[om_ad G a]? = some (vp_cell _ _)
    rw [e1]
    rw [vp_cell_q, vp_cell_q, arrV_store]
    congr 2
    funext q
    by_cases hj : q = i.toNatClampNeg
    · subst hj
      simp [updV, va_up, va_rf]
    · simp [updV, va_up, hj]
  exact K H1 _ ls hR (fun q' hq' => by
    rcases List.mem_append.mp hq' with h | h
    · exact hL q' h
    · rw [List.mem_singleton.mp h]; exact hA) hl
theorem om_aastS {x : om_X} {own nm : String} {cc : ByteArray} {nL k mc ms : Nat} {ret : Option FieldType} (O : om_Ok x own nm cc nL ret k mc ms) {pc : Nat} {lv : List (Nat × om_V)} {st : List om_V} {σ : om_S} {ρ : om_R} {n cells slots : Nat} {i : Int32} {a r ci : Nat} {T : u_T} {N : Nat} {ρ1 : om_R} (hc : vwCl[ci]? = some ("OilMemories$Sheet", T, N)) (hci : ci < 20) (hq : om_kc a = 22) (hqn : a < n) (hr2 : om_kc r = ci) (hrn : r < n) (hin : om_in i (om_al a)) (hd : decode cc pc = .ok (.aastore, 1)) (hs : om_wr ρ a i.toNatClampNeg (some r) = ρ1) (K : om_J x (pc + 1) (lv) (st) σ ρ1 n cells slots) : om_J x (pc) (lv) (vR (some r) :: vI i :: vR (some a) :: st) σ ρ n cells slots := by
  obtain ⟨G, p, l, e, R, s, m, args, below, meth, c, nL1, Z⟩ := x
  obtain ⟨hx, hb, hml, hnL, hr, hlk, hnm, hown, hts, hK, hfr, hlo, hmc, hms⟩ := O
  intro H locs ls hP hL hl
  subst hs
  have he : (om_ws G σ ρ n)[a]? = some (om_ad G a, .inl (G.2.2.1.2.2, om_al a, .inr (.inr (.inr (.inr (om_rs G ρ a)))))) := (om_ws_at hqn).trans (by rw [om_ent_s hq])
  have hlt : i.toNatClampNeg < om_al a := Nat.not_le.mp fun q => hin (Or.inr q)
  have hsz : ∀ {H1 : Heap}, va_P G.1 vwCl ((om_ws G σ ρ n).set a (om_ad G a, .inl (G.2.2.1.2.2, om_al a, .inr (.inr (.inr (.inr (va_up (om_rs G ρ a) i.toNatClampNeg (some (om_ad G r))))))))) H1 → True := fun _ => trivial
  have h9 : om_rs G (om_wr ρ a i.toNatClampNeg (some r)) a = va_up (om_rs G ρ a) i.toNatClampNeg (some (om_ad G r)) := by
    funext q
    unfold om_rs va_up om_wr
    by_cases hj : q = i.toNatClampNeg
    · subst hj
      simp [hlt]
    · simp [hj]
  have hA : om_A G (om_ad G a) := by
    rw [om_adN (Nat.lt_of_lt_of_le hqn hP.2.2.2.1)]
    exact Nat.le_add_right _ _
  obtain ⟨r', hr', cellV, g1, g2, g3, -⟩ := hP.1 r _ ((om_ws_at hrn).trans (by rw [om_ent_o hr2 hci]))
  have hcls := (hK.1.1 ci _ hc).2
  obtain ⟨kA, comp, k1, k2', k3, -⟩ := (hK.1.2 2 _ rfl).2
  have hcomp : comp = G.1.1 ci := Option.some.inj (k3.symm.trans hcls.1)
  subst hcomp
  obtain ⟨kC, hkC, -⟩ := hcls.2
  have h0 : ¬ i < 0 := fun q => hin (Or.inl q)
  refine W.aast hx hb (hP.1 a _ he) (fun q h => by cases h) (fun h => by cases h) k1 k2' rfl hkC ⟨h0, by show _ < (arrV _ _ _).slots.size; rw [arrV_size]; exact hlt⟩ g1 (fun q h => by rw [g3] at h; cases h) (by rw [g2]; exact hkC) (by rw [g2]; exact va_assign hcls) rfl rfl hd fun H1 e1 e2 e3 => ?_
  have hR : om_Rep G σ (om_wr ρ a i.toNatClampNeg (some r)) n H1 := by
    refine hP.put (k := a) (e := .inl (G.2.2.1.2.2, om_al a, .inr (.inr (.inr (.inr (va_up (om_rs G ρ a) i.toNatClampNeg (some (om_ad G r)))))))) e2 hqn (fun _ _ => rfl) (fun a ha => om_wr_off ha) ((om_ent_s hq).trans (by rw [h9])) ?_ (hP.2.1.set he) ((om_S0 hP hL).put e2 e3 hA (k := 0))
    refine hP.1.set hP.2.1 he ?_ e3
    show H1[om_ad G a]? = some (vp_cell _ _)
    rw [e1]
    rw [vp_cell_q, vp_cell_q, arrV_store]
    congr 2
    funext q
    by_cases hj : q = i.toNatClampNeg
    · subst hj
      simp [updV, va_up, va_rf]
    · simp [updV, va_up, hj]
  exact K H1 _ ls hR (fun q' hq' => by
    rcases List.mem_append.mp hq' with h | h
    · exact hL q' h
    · rw [List.mem_singleton.mp h]; exact hA) hl
theorem om_callI {x : om_X} {own nm : String} {cc : ByteArray} {nL k mc ms : Nat} {ret : Option FieldType} (O : om_Ok x own nm cc nL ret k mc ms) {pc : Nat} {lv : List (Nat × om_V)} {st : List om_V} {σ : om_S} {ρ : om_R} {n cells slots : Nat} {y : MethodName} {ccy : ByteArray} {nLy k2 mc2 ms2 idx np : Nat} {v : Option om_V} {σ2 : om_S} {ρ2 : om_R} {n2 : Nat} {stk st2 : List om_V} {q : Nat} (as : List om_V) (D : ∀ l G, om_D l G k2 y ccy nLy none mc2 ms2 (vR (some q) :: as) σ ρ n v σ2 ρ2 n2) (hini : y.name = "<init>") (hw1 : Cond.methodLink own idx y ∈ om_tbl) (hw2 : Cond.instanceMethod y ∈ om_tbl) (hw4 : Cond.initialized y.cls ∈ om_tbl) (hw5 : Cond.code y ccy nLy none ∈ om_tbl) (hy : y.cls ≠ "java/lang/invoke/MethodHandle" ∧ y.cls ≠ "java/lang/invoke/VarHandle" ∧ (parseMethodDescriptor y.desc).map (fun d => d.parameters.length) = some np) (hnp : as.length = np) (hk : k2 + 1 ≤ k) (hn2 : nLy ≤ 21) (hst : stk = as.reverse ++ vR (some q) :: st) (hcat : (st.map om_cat).sum ≤ 8) (hst2 : v.toList ++ st = st2) (hmc2 : cells + mc2 ≤ mc) (hms2 : slots + ms2 ≤ ms) (hd : decode cc pc = .ok (.invokespecial idx, 3)) (K : om_J x (pc + 3) (lv) (st2) σ2 ρ2 n2 (cells + mc2) (slots + ms2)) : om_J x (pc) (lv) (stk) σ ρ n cells slots := by
  obtain ⟨G, p, l, e, R, s, m, args, below, meth, c, nL1, Z⟩ := x
  obtain ⟨hx, hb, hml, hnL, hr, hlk, hnm, hown, hts, hK, hfr, hlo, hmc, hms⟩ := O
  intro H locs ls hP hL hl
  subst hnL
  intro T hT X
  subst hst
  obtain ⟨v0, st₀, t, T', L, h0, X', hL', e1, e2, ⟨hv, hR'⟩, stp⟩ := (va_runI (As := as.map (om_cv G)) (rest := st.map (om_cv G)) (b := om_ad G q) (g := F0 m pc ls ((as.reverse ++ vR (some q) :: st).map (om_cv G))) ⟨hx, hb, hml, hown, hts⟩ (D l G) (cwI np hts (om_gC hw5) rfl rfl rfl (hts _ hw4) (hts _ hw1) (hts _ hw2) hini hy ⟨by show k2 + 1 ≤ R.frames; omega, by show 8 + (nLy + 11) + 40 * k2 ≤ R.locals; omega⟩) ⟨om_blind, fun U hU hW => ⟨rfl, by rw [hU]; exact hP, hK.warm hW⟩⟩ rfl (by simpa using hnp) hl.1 (by simp [List.map_reverse, om_cv, va_rf]) (lv_room (by rw [om_cats]; exact hcat)) hd ⟨Nat.le_trans hmc2 hmc, Nat.le_trans hms2 hms⟩) T hT X
  have hv0 : v0 = v.map (om_cv G) := by injection hv
  subst hv0
  subst hst2
  obtain ⟨t2, a1, b1⟩ := K T'.heap (locs ++ L) ls (by rw [e1]; exact hR') (fun q hq => by
    rcases List.mem_append.mp hq with h | h
    · exact hL q h
    · exact hL' q h) hl T' rfl X'
  refine ⟨t2, stp t2 ?_, b1⟩
  have e9 : (v.toList ++ st).map (om_cv G) = (v.map (om_cv G)).toList ++ st.map (om_cv G) := by
    rw [List.map_append]
    cases v <;> rfl
  rw [e9] at a1
  exact a1
theorem om_callIN {x : om_X} {own nm : String} {cc : ByteArray} {nL k mc ms : Nat} {ret : Option FieldType} (O : om_Ok x own nm cc nL ret k mc ms) {pc : Nat} {lv : List (Nat × om_V)} {st : List om_V} {σ : om_S} {ρ : om_R} {n cells slots : Nat} {y : MethodName} {ccy : ByteArray} {nLy k2 mc2 ms2 idx np : Nat} {v : Option om_V} {σ2 : om_S} {ρ2 : om_R} {n2 : Nat} {stk st2 : List om_V} {q : Nat} {host : String} (as : List om_V) (D : ∀ l G, om_D l G k2 y ccy nLy none mc2 ms2 (vR (some q) :: as) σ ρ n v σ2 ρ2 n2) (hini : y.name = "<init>") (hw1 : ∀ U : State, om_Nw U → va_Nw (.methodLinkNest own idx y host) U) (hw2 : Cond.instanceMethod y ∈ om_tbl) (hw4 : Cond.initialized y.cls ∈ om_tbl) (hw5 : Cond.code y ccy nLy none ∈ om_tbl) (hy : y.cls ≠ "java/lang/invoke/MethodHandle" ∧ y.cls ≠ "java/lang/invoke/VarHandle" ∧ (parseMethodDescriptor y.desc).map (fun d => d.parameters.length) = some np) (hnp : as.length = np) (hk : k2 + 1 ≤ k) (hn2 : nLy ≤ 21) (hst : stk = as.reverse ++ vR (some q) :: st) (hcat : (st.map om_cat).sum ≤ 8) (hst2 : v.toList ++ st = st2) (hmc2 : cells + mc2 ≤ mc) (hms2 : slots + ms2 ≤ ms) (hd : decode cc pc = .ok (.invokespecial idx, 3)) (K : om_J x (pc + 3) (lv) (st2) σ2 ρ2 n2 (cells + mc2) (slots + ms2)) : om_J x (pc) (lv) (stk) σ ρ n cells slots := by
  obtain ⟨G, p, l, e, R, s, m, args, below, meth, c, nL1, Z⟩ := x
  obtain ⟨hx, hb, hml, hnL, hr, hlk, hnm, hown, hts, hK, hfr, hlo, hmc, hms⟩ := O
  intro H locs ls hP hL hl
  subst hnL
  intro T hT X
  subst hst
  obtain ⟨v0, st₀, t, T', L, h0, X', hL', e1, e2, ⟨hv, hR'⟩, stp⟩ := (va_runIN (As := as.map (om_cv G)) (rest := st.map (om_cv G)) (b := om_ad G q) (g := F0 m pc ls ((as.reverse ++ vR (some q) :: st).map (om_cv G))) ⟨hx, hb, hml, hown, hts⟩ (D l G) ⟨va_cnB np hts (om_gC hw5) rfl rfl rfl (hw1 s hK.2.2.2.2.2) (hts _ hw4) hy ⟨by show k2 + 1 ≤ R.frames; omega, by show 8 + (nLy + 11) + 40 * k2 ≤ R.locals; omega⟩, hini, hts _ hw2⟩ ⟨om_blind, fun U hU hW => ⟨rfl, by rw [hU]; exact hP, hK.warm hW⟩⟩ rfl (by simpa using hnp) hl.1 (by simp [List.map_reverse, om_cv, va_rf]) (lv_room (by rw [om_cats]; exact hcat)) hd ⟨Nat.le_trans hmc2 hmc, Nat.le_trans hms2 hms⟩) T hT X
  have hv0 : v0 = v.map (om_cv G) := by injection hv
  subst hv0
  subst hst2
  obtain ⟨t2, a1, b1⟩ := K T'.heap (locs ++ L) ls (by rw [e1]; exact hR') (fun q hq => by
    rcases List.mem_append.mp hq with h | h
    · exact hL q h
    · exact hL' q h) hl T' rfl X'
  refine ⟨t2, stp t2 ?_, b1⟩
  have e9 : (v.toList ++ st).map (om_cv G) = (v.map (om_cv G)).toList ++ st.map (om_cv G) := by
    rw [List.map_append]
    cases v <;> rfl
  rw [e9] at a1
  exact a1
theorem om_mmin {x : om_X} {own nm : String} {cc : ByteArray} {nL k mc ms : Nat} {ret : Option FieldType} (O : om_Ok x own nm cc nL ret k mc ms) {pc : Nat} {lv : List (Nat × om_V)} {st : List om_V} {σ : om_S} {ρ : om_R} {n cells slots : Nat} {a b : Int32} {idx : Nat} (hw1 : Cond.methodLink own idx Lib.Math.min.name ∈ om_tbl) (hw2 : Cond.static Lib.Math.min.name ∈ om_tbl) (hw3 : Cond.initialized "java/lang/Math" ∈ om_tbl) (hw4 : Cond.code Lib.Math.min.name Lib.Math.min.code 2 (some .int) ∈ om_tbl) (hk : 1 ≤ k) (hcat : (st.map om_cat).sum ≤ 8) (hmc2 : cells ≤ mc) (hms2 : slots ≤ ms) (hd : decode cc pc = .ok (.invokestatic idx, 3)) (K : om_J x (pc + 3) (lv) (vI (if b < a then b else a) :: st) σ ρ n cells slots) : om_J x (pc) (lv) (vI b :: vI a :: st) σ ρ n cells slots := by
  obtain ⟨G, p, l, e, R, s, m, args, below, meth, c, nL1, Z⟩ := x
  obtain ⟨hx, hb, hml, hnL, hr, hlk, hnm, hown, hts, hK, hfr, hlo, hmc, hms⟩ := O
  intro H locs ls hP hL hl
  exact va_mmin hx hb (hml.trans hl.1.symm) hown (hts _ hw1) (hts _ hw2) (hts _ hw3) (hts _ hw4) (by omega) (by rw [om_cats]; omega) (Nat.le_trans hmc2 hmc) (Nat.le_trans hms2 hms) hd (K H locs ls hP hL hl)
