def f_X8_loose_b71 (lp41 : Nat → Int32 → Int32 → Int32 → om_S → Option (Int32 × om_S)) (a0 : Nat) (v1 : Int32) (v2 : Int32) (v3 : Int32) (σ : om_S) : Option (Int32 × om_S) := lp41 a0 v1 v2 (v3 + 1) σ
set_option maxRecDepth 100000 in
theorem g_X8_loose_b71 {x : om_X}   (O : om_Ok x RX8 "loose" cX8_loose 4 (some FieldType.int) 6 0 0)   {r : Int32} {τ : om_S} (hE : om_End x (some (vI r)) τ om_rf om_N 0 0) {lp41 : Nat → Int32 → Int32 → Int32 → om_S → Option (Int32 × om_S)} (L41 : ∀ (a0 : Nat) (v1 : Int32) (v2 : Int32) (v3 : Int32) (σ : om_S) (ka0 : om_kc a0 = 8), lp41 a0 v1 v2 v3 σ = some (r, τ) → om_J x 41 [(0, vR (some a0)), (1, vI v1), (2, vI v2), (3, vI v3)] [] σ om_rf om_N 0 0) {a0 : Nat} {v1 : Int32} {v2 : Int32} {v3 : Int32} {σ : om_S} (ka0 : om_kc a0 = 8) (h : f_X8_loose_b71 lp41 a0 v1 v2 v3 σ = some (r, τ)) : om_J x 71 [(0, vR (some a0)), (1, vI v1), (2, vI v2), (3, vI v3)] [] σ om_rf om_N 0 0 := by
  unfold f_X8_loose_b71 at h
  refine om_iinc O (v1 := (v3 + 1)) (lv' := [(0, vR (some a0)), (1, vI v1), (2, vI v2), (3, vI (v3 + 1))]) 3 [1, 2, 3, 0] rfl dX8_loose_71 rfl rfl (by decide) rfl ?_
  refine om_goto O (tgt := 41) dX8_loose_74 (by decide) ?_
  exact L41 _ _ _ _ _ ka0 h
def f_X8_loose_b41  : Nat → Nat → Int32 → Int32 → Int32 → om_S → Option (Int32 × om_S)
  | 0, _, _, _, _, _ => none
  | F + 1, a0, v1, v2, v3, σ => if v1 ≤ v3 then (some (v2, σ)) else (om_ref (om_rf a0 0) 6 fun (t1o : Nat) => om_do (f_X6_drawTheDay t1o σ) fun (σ1o : om_S) => om_ref (om_rf a0 0) 6 fun (t2o : Nat) => om_ref (om_rf a0 3) 0 fun (t3o : Nat) => om_call (f_X6_passNight t2o t3o (-1 : Int32) σ1o) fun (r1o : Int32) (σ2o : om_S) => if r1o = 0 then (f_X8_loose_b71 (f_X8_loose_b41 F) a0 v1 v2 v3 σ2o) else (f_X8_loose_b71 (f_X8_loose_b41 F) a0 v1 (v2 + 1) v3 σ2o))
set_option maxRecDepth 100000 in
theorem g_X8_loose_b41 {x : om_X}   (O : om_Ok x RX8 "loose" cX8_loose 4 (some FieldType.int) 6 0 0)   {r : Int32} {τ : om_S} (hE : om_End x (some (vI r)) τ om_rf om_N 0 0)   : ∀ (F : Nat) (a0 : Nat) (v1 : Int32) (v2 : Int32) (v3 : Int32) (σ : om_S) (ka0 : om_kc a0 = 8), f_X8_loose_b41 F a0 v1 v2 v3 σ = some (r, τ) → om_J x 41 [(0, vR (some a0)), (1, vI v1), (2, vI v2), (3, vI v3)] [] σ om_rf om_N 0 0 := by
  intro F
  induction F with
  | zero =>
    intro a0 v1 v2 v3 σ ka0 h
    cases h
  | succ F ih =>
    intro a0 v1 v2 v3 σ ka0 h
    unfold f_X8_loose_b41 at h
    refine om_iload_n O 3 dX8_loose_41 rfl rfl ?_
    refine om_iload_n O 1 dX8_loose_42 rfl rfl ?_
    refine om_icmp_ge O (tgt := 77) dX8_loose_43 (by decide) (fun c1o => ?_) (fun c1o => ?_)
    · replace h := (if_pos c1o).symm.trans h
      refine om_iload_n O 2 dX8_loose_77 rfl rfl ?_
      exact om_iret (st := []) O (om_eI hE h) rfl dX8_loose_78
    · replace h := (if_neg c1o).symm.trans h
      refine om_aload_n O 0 dX8_loose_46 rfl rfl ?_
      revert h; refine om_refR (fun t1o y1o k1o h => ?_)
      refine gf_X8_10 O ka0 (om_lt ka0 (by decide)) dX8_loose_47 ?_
      rw [y1o]
      revert h; refine om_doR (fun σ1o g1o h => ?_)
      refine cl_X8_174 O (st := []) (stk := [vR (some t1o)]) (st2 := []) [] (fun l G => c_X6_drawTheDay l G g1o) k1o (om_lt k1o (by decide)) (by decide) rfl rfl rfl_le rfl rfl_le rfl_le dX8_loose_50 ?_
      refine om_aload_n O 0 dX8_loose_53 rfl rfl ?_
      revert h; refine om_refR (fun t2o y2o k2o h => ?_)
      refine gf_X8_10 O ka0 (om_lt ka0 (by decide)) dX8_loose_54 ?_
      rw [y2o]
      refine om_aload_n O 0 dX8_loose_57 rfl rfl ?_
      revert h; refine om_refR (fun t3o y3o k3o h => ?_)
      refine gf_X8_25 O ka0 (om_lt ka0 (by decide)) dX8_loose_58 ?_
      rw [y3o]
      refine om_iconst O (v := -1) dX8_loose_61 (by decide) ?_
      revert h; refine om_callR (fun r1o σ2o g2o h => ?_)
      refine cl_X8_170 O (st := []) (stk := [vI (-1 : Int32), vR (some t3o), vR (some t2o)]) (st2 := [vI r1o]) [vR (some t3o), vI (-1 : Int32)] (fun l G => c_X6_passNight l G g2o) k2o (om_lt k2o (by decide)) (by decide) rfl rfl rfl_le rfl rfl_le rfl_le dX8_loose_62 ?_
      refine om_if_eq O (tgt := 71) dX8_loose_65 (by decide) (fun c2o => ?_) (fun c2o => ?_)
      · replace h := (if_pos c2o).symm.trans h
        exact g_X8_loose_b71 O hE ih ka0 h
      · replace h := (if_neg c2o).symm.trans h
        refine om_iinc O (v1 := (v2 + 1)) (lv' := [(0, vR (some a0)), (1, vI v1), (2, vI (v2 + 1)), (3, vI v3)]) 2 [1, 2, 0, 3] rfl dX8_loose_68 rfl rfl (by decide) rfl ?_
        exact g_X8_loose_b71 O hE ih ka0 h
def f_X8_loose  (a0 : Nat) (v1 : Int32) (σ : om_S) : Option (Int32 × om_S) := if om_kc a0 = 8 then om_call (f_X8_isWithin v1 (1 : Int32) (30 : Int32) σ) fun (r1o : Int32) (σ1o : om_S) => if r1o = 0 then (om_call (f_X8_refuse a0 (1 : Int32) σ1o) fun (r2o : Int32) (σ2o : om_S) => some (r2o, σ2o)) else (om_ref (om_rf a0 0) 6 fun (t1o : Nat) => if ((σ1o t1o 5) + v1) ≤ (9999 : Int32) then (f_X8_loose_b41 om_F a0 v1 (0 : Int32) (0 : Int32) σ1o) else (om_call (f_X8_refuse a0 (3 : Int32) σ1o) fun (r3o : Int32) (σ3o : om_S) => some (r3o, σ3o))) else none
set_option maxRecDepth 100000 in
theorem c_X8_loose (l : Launch) (G : om_G) {a0 : Nat} {v1 : Int32} {σ : om_S} {r : Int32} {τ : om_S} (h : f_X8_loose a0 v1 σ = some (r, τ)) : om_D l G 6 yX8_loose cX8_loose 4 (some FieldType.int) 0 0 [vR (some a0), vI v1] σ om_rf om_N (some (vI r)) τ om_rf om_N := by
  refine om_Dof (lv := [(0, vR (some a0)), (1, vI v1)]) (by decide) rfl_le rfl (fun x O hE => ?_)
  change om_Ok x RX8 "loose" cX8_loose 4 (some FieldType.int) 6 0 0 at O
  unfold f_X8_loose at h
  revert h; refine om_iteR (fun ka0 h => ?_)
  refine om_iload_n O 1 dX8_loose_0 rfl rfl ?_
  refine om_iconst O (v := 1) dX8_loose_1 (by decide) ?_
  refine om_bipush O (v := 30) dX8_loose_2 (by decide) ?_
  revert h; refine om_callR (fun r1o σ1o g1o h => ?_)
  refine cl_X8_80 O (st := []) (stk := [vI (30 : Int32), vI (1 : Int32), vI v1]) (st2 := [vI r1o]) [vI v1, vI (1 : Int32), vI (30 : Int32)] (fun l G => c_X8_isWithin l G g1o) (by decide) rfl rfl rfl_le rfl rfl_le rfl_le dX8_loose_4 ?_
  refine om_if_ne O (tgt := 16) dX8_loose_7 (by decide) (fun c1o => ?_) (fun c1o => ?_)
  · replace h := (if_pos c1o).symm.trans h
    refine om_aload_n O 0 dX8_loose_10 rfl rfl ?_
    refine om_iconst O (v := 1) dX8_loose_11 (by decide) ?_
    revert h; refine om_callR (fun r2o σ2o g2o h => ?_)
    refine cl_X8_84 O (st := []) (stk := [vI (1 : Int32), vR (some a0)]) (st2 := [vI r2o]) [vI (1 : Int32)] (fun l G => c_X8_refuse l G g2o) ka0 (om_lt ka0 (by decide)) (by decide) rfl rfl rfl_le rfl rfl_le rfl_le dX8_loose_12 ?_
    exact om_iret (st := []) O (om_eI hE h) rfl dX8_loose_15
  · replace h := (if_neg c1o).symm.trans h
    refine om_aload_n O 0 dX8_loose_16 rfl rfl ?_
    revert h; refine om_refR (fun t1o y1o k1o h => ?_)
    refine gf_X8_10 O ka0 (om_lt ka0 (by decide)) dX8_loose_17 ?_
    rw [y1o]
    refine gf_X8_167 O k1o (om_lt k1o (by decide)) dX8_loose_20 ?_
    refine om_iload_n O 1 dX8_loose_23 rfl rfl ?_
    refine om_iadd O dX8_loose_24 ?_
    refine om_sipush O (v := 9999) dX8_loose_25 (by decide) ?_
    refine om_icmp_le O (tgt := 37) dX8_loose_28 (by decide) (fun c2o => ?_) (fun c2o => ?_)
    · replace h := (if_pos c2o).symm.trans h
      refine om_iconst O (v := 0) dX8_loose_37 (by decide) ?_
      refine om_istore_n O (lv' := [(0, vR (some a0)), (1, vI v1), (2, vI (0 : Int32))]) [1, 2, 0] rfl dX8_loose_38 rfl (by decide) rfl ?_
      refine om_iconst O (v := 0) dX8_loose_39 (by decide) ?_
      refine om_istore_n O (lv' := [(0, vR (some a0)), (1, vI v1), (2, vI (0 : Int32)), (3, vI (0 : Int32))]) [1, 2, 3, 0] rfl dX8_loose_40 rfl (by decide) rfl ?_
      exact g_X8_loose_b41 O hE om_F _ _ _ _ _ ka0 h
    · replace h := (if_neg c2o).symm.trans h
      refine om_aload_n O 0 dX8_loose_31 rfl rfl ?_
      refine om_iconst O (v := 3) dX8_loose_32 (by decide) ?_
      revert h; refine om_callR (fun r3o σ3o g3o h => ?_)
      refine cl_X8_84 O (st := []) (stk := [vI (3 : Int32), vR (some a0)]) (st2 := [vI r3o]) [vI (3 : Int32)] (fun l G => c_X8_refuse l G g3o) ka0 (om_lt ka0 (by decide)) (by decide) rfl rfl rfl_le rfl rfl_le rfl_le dX8_loose_33 ?_
      exact om_iret (st := []) O (om_eI hE h) rfl dX8_loose_36
def f_X8_seed  (a0 : Nat) (v1 : Int32) (σ : om_S) : Option (Int32 × om_S) := if om_kc a0 = 8 then om_ref (om_rf a0 0) 6 fun (t1o : Nat) => om_ref (om_rf a0 0) 6 fun (t2o : Nat) => om_let (om_w σ t2o 7 v1) fun (σ1o : om_S) => some ((σ t1o 7), σ1o) else none
set_option maxRecDepth 100000 in
theorem c_X8_seed (l : Launch) (G : om_G) {a0 : Nat} {v1 : Int32} {σ : om_S} {r : Int32} {τ : om_S} (h : f_X8_seed a0 v1 σ = some (r, τ)) : om_D l G 0 yX8_seed cX8_seed 3 (some FieldType.int) 0 0 [vR (some a0), vI v1] σ om_rf om_N (some (vI r)) τ om_rf om_N := by
  refine om_Dof (lv := [(0, vR (some a0)), (1, vI v1)]) (by decide) rfl_le rfl (fun x O hE => ?_)
  change om_Ok x RX8 "seed" cX8_seed 3 (some FieldType.int) 0 0 0 at O
  unfold f_X8_seed at h
  revert h; refine om_iteR (fun ka0 h => ?_)
  refine om_aload_n O 0 dX8_seed_0 rfl rfl ?_
  revert h; refine om_refR (fun t1o y1o k1o h => ?_)
  refine gf_X8_10 O ka0 (om_lt ka0 (by decide)) dX8_seed_1 ?_
  rw [y1o]
  refine gf_X8_177 O k1o (om_lt k1o (by decide)) dX8_seed_4 ?_
  refine om_istore_n O (lv' := [(0, vR (some a0)), (1, vI v1), (2, vI (σ t1o 7))]) [1, 2, 0] rfl dX8_seed_7 rfl (by decide) rfl ?_
  refine om_aload_n O 0 dX8_seed_8 rfl rfl ?_
  revert h; refine om_refR (fun t2o y2o k2o h => ?_)
  refine gf_X8_10 O ka0 (om_lt ka0 (by decide)) dX8_seed_9 ?_
  rw [y2o]
  refine om_iload_n O 1 dX8_seed_12 rfl rfl ?_
  revert h; refine om_letR (fun σ1o e1o h => ?_)
  refine pf_X8_177 O (Or.inl rfl) k2o (om_lt k2o (by decide)) dX8_seed_13 e1o ?_
  refine om_iload_n O 2 dX8_seed_16 rfl rfl ?_
  exact om_iret (st := []) O (om_eI hE h) rfl dX8_seed_17
def f_X0_foundDear  (a0 : Nat) (σ : om_S) : Option (Int32 × om_S) := if om_kc a0 = 0 then if (σ a0 4) < 0 then (some ((0 : Int32), σ)) else (om_ref (om_rf a0 2) 20 fun (t1o : Nat) => if (Int32.ofNat (om_al t1o)) ≤ (σ a0 4) then (some ((0 : Int32), σ)) else (om_ref (om_rf a0 2) 20 fun (t2o : Nat) => if om_in (σ a0 4) (om_al t2o) then some ((σ t2o (σ a0 4).toNatClampNeg), σ) else none)) else none
set_option maxRecDepth 100000 in
theorem c_X0_foundDear (l : Launch) (G : om_G) {a0 : Nat} {σ : om_S} {r : Int32} {τ : om_S} (h : f_X0_foundDear a0 σ = some (r, τ)) : om_D l G 0 yX0_foundDear cX0_foundDear 1 (some FieldType.int) 0 0 [vR (some a0)] σ om_rf om_N (some (vI r)) τ om_rf om_N := by
  refine om_Dof (lv := [(0, vR (some a0))]) (by decide) rfl_le rfl (fun x O hE => ?_)
  change om_Ok x RX0 "foundDear" cX0_foundDear 1 (some FieldType.int) 0 0 0 at O
  unfold f_X0_foundDear at h
  revert h; refine om_iteR (fun ka0 h => ?_)
  refine om_aload_n O 0 dX0_foundDear_0 rfl rfl ?_
  refine gf_X0_25 O ka0 (om_lt ka0 (by decide)) dX0_foundDear_1 ?_
  refine om_if_lt O (tgt := 31) dX0_foundDear_4 (by decide) (fun c1o => ?_) (fun c1o => ?_)
  · replace h := (if_pos c1o).symm.trans h
    refine om_iconst O (v := 0) dX0_foundDear_31 (by decide) ?_
    exact om_iret (st := []) O (om_eI hE h) rfl dX0_foundDear_32
  · replace h := (if_neg c1o).symm.trans h
    refine om_aload_n O 0 dX0_foundDear_7 rfl rfl ?_
    refine gf_X0_25 O ka0 (om_lt ka0 (by decide)) dX0_foundDear_8 ?_
    refine om_aload_n O 0 dX0_foundDear_11 rfl rfl ?_
    revert h; refine om_refR (fun t1o y1o k1o h => ?_)
    refine gf_X0_18 O ka0 (om_lt ka0 (by decide)) dX0_foundDear_12 ?_
    rw [y1o]
    refine om_alen O k1o (om_lt k1o (by decide)) rfl dX0_foundDear_15 ?_
    refine om_icmp_ge O (tgt := 31) dX0_foundDear_16 (by decide) (fun c2o => ?_) (fun c2o => ?_)
    · replace h := (if_pos c2o).symm.trans h
      refine om_iconst O (v := 0) dX0_foundDear_31 (by decide) ?_
      exact om_iret (st := []) O (om_eI hE h) rfl dX0_foundDear_32
    · replace h := (if_neg c2o).symm.trans h
      refine om_aload_n O 0 dX0_foundDear_19 rfl rfl ?_
      revert h; refine om_refR (fun t2o y2o k2o h => ?_)
      refine gf_X0_18 O ka0 (om_lt ka0 (by decide)) dX0_foundDear_20 ?_
      rw [y2o]
      refine om_aload_n O 0 dX0_foundDear_23 rfl rfl ?_
      refine gf_X0_25 O ka0 (om_lt ka0 (by decide)) dX0_foundDear_24 ?_
      revert h; refine om_iteR (fun i1o h => ?_)
      refine om_iald O k2o (om_lt k2o (by decide)) i1o dX0_foundDear_27 ?_
      refine om_goto O (tgt := 32) dX0_foundDear_28 (by decide) ?_
      exact om_iret (st := []) O (om_eI hE h) rfl dX0_foundDear_32
def f_X0_foundGives  (a0 : Nat) (σ : om_S) : Option (Int32 × om_S) := if om_kc a0 = 0 then if (σ a0 4) < 0 then (some ((0 : Int32), σ)) else (om_ref (om_rf a0 1) 20 fun (t1o : Nat) => if (Int32.ofNat (om_al t1o)) ≤ (σ a0 4) then (some ((0 : Int32), σ)) else (om_ref (om_rf a0 1) 20 fun (t2o : Nat) => if om_in (σ a0 4) (om_al t2o) then some ((σ t2o (σ a0 4).toNatClampNeg), σ) else none)) else none
set_option maxRecDepth 100000 in
theorem c_X0_foundGives (l : Launch) (G : om_G) {a0 : Nat} {σ : om_S} {r : Int32} {τ : om_S} (h : f_X0_foundGives a0 σ = some (r, τ)) : om_D l G 0 yX0_foundGives cX0_foundGives 1 (some FieldType.int) 0 0 [vR (some a0)] σ om_rf om_N (some (vI r)) τ om_rf om_N := by
  refine om_Dof (lv := [(0, vR (some a0))]) (by decide) rfl_le rfl (fun x O hE => ?_)
  change om_Ok x RX0 "foundGives" cX0_foundGives 1 (some FieldType.int) 0 0 0 at O
  unfold f_X0_foundGives at h
  revert h; refine om_iteR (fun ka0 h => ?_)
  refine om_aload_n O 0 dX0_foundGives_0 rfl rfl ?_
  refine gf_X0_25 O ka0 (om_lt ka0 (by decide)) dX0_foundGives_1 ?_
  refine om_if_lt O (tgt := 31) dX0_foundGives_4 (by decide) (fun c1o => ?_) (fun c1o => ?_)
  · replace h := (if_pos c1o).symm.trans h
    refine om_iconst O (v := 0) dX0_foundGives_31 (by decide) ?_
    exact om_iret (st := []) O (om_eI hE h) rfl dX0_foundGives_32
  · replace h := (if_neg c1o).symm.trans h
    refine om_aload_n O 0 dX0_foundGives_7 rfl rfl ?_
    refine gf_X0_25 O ka0 (om_lt ka0 (by decide)) dX0_foundGives_8 ?_
    refine om_aload_n O 0 dX0_foundGives_11 rfl rfl ?_
    revert h; refine om_refR (fun t1o y1o k1o h => ?_)
    refine gf_X0_15 O ka0 (om_lt ka0 (by decide)) dX0_foundGives_12 ?_
    rw [y1o]
    refine om_alen O k1o (om_lt k1o (by decide)) rfl dX0_foundGives_15 ?_
    refine om_icmp_ge O (tgt := 31) dX0_foundGives_16 (by decide) (fun c2o => ?_) (fun c2o => ?_)
    · replace h := (if_pos c2o).symm.trans h
      refine om_iconst O (v := 0) dX0_foundGives_31 (by decide) ?_
      exact om_iret (st := []) O (om_eI hE h) rfl dX0_foundGives_32
    · replace h := (if_neg c2o).symm.trans h
      refine om_aload_n O 0 dX0_foundGives_19 rfl rfl ?_
      revert h; refine om_refR (fun t2o y2o k2o h => ?_)
      refine gf_X0_15 O ka0 (om_lt ka0 (by decide)) dX0_foundGives_20 ?_
      rw [y2o]
      refine om_aload_n O 0 dX0_foundGives_23 rfl rfl ?_
      refine gf_X0_25 O ka0 (om_lt ka0 (by decide)) dX0_foundGives_24 ?_
      revert h; refine om_iteR (fun i1o h => ?_)
      refine om_iald O k2o (om_lt k2o (by decide)) i1o dX0_foundGives_27 ?_
      refine om_goto O (tgt := 32) dX0_foundGives_28 (by decide) ?_
      exact om_iret (st := []) O (om_eI hE h) rfl dX0_foundGives_32
def f_X8_tonight  (a0 : Nat) (v1 : Int32) (σ : om_S) : Option (Int32 × om_S) := if om_kc a0 = 8 then om_call (f_X8_isWithin v1 (0 : Int32) (3 : Int32) σ) fun (r1o : Int32) (σ1o : om_S) => if r1o = 0 then (om_call (f_X8_refuse a0 (1 : Int32) σ1o) fun (r2o : Int32) (σ2o : om_S) => some (r2o, σ2o)) else (if v1 = (3 : Int32) then (om_ref (om_rf a0 0) 6 fun (t1o : Nat) => om_call (f_X6_wanted t1o σ1o) fun (r3o : Int32) (σ3o : om_S) => some (r3o, σ3o)) else (om_ref (om_rf a0 3) 0 fun (t2o : Nat) => om_ref (om_rf a0 0) 6 fun (t3o : Nat) => om_call (f_X0_find t2o t3o (-1 : Int32) σ1o) fun (r4o : Int32) (σ4o : om_S) => if r4o = 0 then (om_call (f_X8_refuse a0 (2 : Int32) σ4o) fun (r5o : Int32) (σ5o : om_S) => some (r5o, σ5o)) else (if v1 = 0 then (om_ref (om_rf a0 3) 0 fun (t4o : Nat) => om_call (f_X0_foundSet t4o σ4o) fun (r6o : Int32) (σ6o : om_S) => some (r6o, σ6o)) else (if v1 = 1 then (om_ref (om_rf a0 3) 0 fun (t5o : Nat) => om_call (f_X0_foundDear t5o σ4o) fun (r7o : Int32) (σ7o : om_S) => some (r7o, σ7o)) else (om_ref (om_rf a0 3) 0 fun (t6o : Nat) => om_call (f_X0_foundGives t6o σ4o) fun (r8o : Int32) (σ8o : om_S) => some (r8o, σ8o)))))) else none
set_option maxRecDepth 100000 in
theorem c_X8_tonight (l : Launch) (G : om_G) {a0 : Nat} {v1 : Int32} {σ : om_S} {r : Int32} {τ : om_S} (h : f_X8_tonight a0 v1 σ = some (r, τ)) : om_D l G 5 yX8_tonight cX8_tonight 2 (some FieldType.int) 0 0 [vR (some a0), vI v1] σ om_rf om_N (some (vI r)) τ om_rf om_N := by
  refine om_Dof (lv := [(0, vR (some a0)), (1, vI v1)]) (by decide) rfl_le rfl (fun x O hE => ?_)
  change om_Ok x RX8 "tonight" cX8_tonight 2 (some FieldType.int) 5 0 0 at O
  unfold f_X8_tonight at h
  revert h; refine om_iteR (fun ka0 h => ?_)
  refine om_iload_n O 1 dX8_tonight_0 rfl rfl ?_
  refine om_iconst O (v := 0) dX8_tonight_1 (by decide) ?_
  refine om_iconst O (v := 3) dX8_tonight_2 (by decide) ?_
  revert h; refine om_callR (fun r1o σ1o g1o h => ?_)
  refine cl_X8_80 O (st := []) (stk := [vI (3 : Int32), vI (0 : Int32), vI v1]) (st2 := [vI r1o]) [vI v1, vI (0 : Int32), vI (3 : Int32)] (fun l G => c_X8_isWithin l G g1o) (by decide) rfl rfl rfl_le rfl rfl_le rfl_le dX8_tonight_3 ?_
  refine om_if_ne O (tgt := 15) dX8_tonight_6 (by decide) (fun c1o => ?_) (fun c1o => ?_)
  · replace h := (if_pos c1o).symm.trans h
    refine om_aload_n O 0 dX8_tonight_9 rfl rfl ?_
    refine om_iconst O (v := 1) dX8_tonight_10 (by decide) ?_
    revert h; refine om_callR (fun r2o σ2o g2o h => ?_)
    refine cl_X8_84 O (st := []) (stk := [vI (1 : Int32), vR (some a0)]) (st2 := [vI r2o]) [vI (1 : Int32)] (fun l G => c_X8_refuse l G g2o) ka0 (om_lt ka0 (by decide)) (by decide) rfl rfl rfl_le rfl rfl_le rfl_le dX8_tonight_11 ?_
    exact om_iret (st := []) O (om_eI hE h) rfl dX8_tonight_14
  · replace h := (if_neg c1o).symm.trans h
    refine om_iload_n O 1 dX8_tonight_15 rfl rfl ?_
    refine om_iconst O (v := 3) dX8_tonight_16 (by decide) ?_
    refine om_icmp_ne O (tgt := 28) dX8_tonight_17 (by decide) (fun c2o => ?_) (fun c2o => ?_)
    · replace h := (if_pos c2o).symm.trans h
      refine om_aload_n O 0 dX8_tonight_20 rfl rfl ?_
      revert h; refine om_refR (fun t1o y1o k1o h => ?_)
      refine gf_X8_10 O ka0 (om_lt ka0 (by decide)) dX8_tonight_21 ?_
      rw [y1o]
      revert h; refine om_callR (fun r3o σ3o g3o h => ?_)
      refine cl_X8_180 O (st := []) (stk := [vR (some t1o)]) (st2 := [vI r3o]) [] (fun l G => c_X6_wanted l G g3o) k1o (om_lt k1o (by decide)) (by decide) rfl rfl rfl_le rfl rfl_le rfl_le dX8_tonight_24 ?_
      exact om_iret (st := []) O (om_eI hE h) rfl dX8_tonight_27
    · replace h := (if_neg c2o).symm.trans h
      refine om_aload_n O 0 dX8_tonight_28 rfl rfl ?_
      revert h; refine om_refR (fun t2o y2o k2o h => ?_)
      refine gf_X8_25 O ka0 (om_lt ka0 (by decide)) dX8_tonight_29 ?_
      rw [y2o]
      refine om_aload_n O 0 dX8_tonight_32 rfl rfl ?_
      revert h; refine om_refR (fun t3o y3o k3o h => ?_)
      refine gf_X8_10 O ka0 (om_lt ka0 (by decide)) dX8_tonight_33 ?_
      rw [y3o]
      refine om_iconst O (v := -1) dX8_tonight_36 (by decide) ?_
      revert h; refine om_callR (fun r4o σ4o g4o h => ?_)
      refine cl_X8_183 O (st := []) (stk := [vI (-1 : Int32), vR (some t3o), vR (some t2o)]) (st2 := [vI r4o]) [vR (some t3o), vI (-1 : Int32)] (fun l G => c_X0_find l G g4o) k2o (om_lt k2o (by decide)) (by decide) rfl rfl rfl_le rfl rfl_le rfl_le dX8_tonight_37 ?_
      refine om_if_ne O (tgt := 49) dX8_tonight_40 (by decide) (fun c3o => ?_) (fun c3o => ?_)
      · replace h := (if_pos c3o).symm.trans h
        refine om_aload_n O 0 dX8_tonight_43 rfl rfl ?_
        refine om_iconst O (v := 2) dX8_tonight_44 (by decide) ?_
        revert h; refine om_callR (fun r5o σ5o g5o h => ?_)
        refine cl_X8_84 O (st := []) (stk := [vI (2 : Int32), vR (some a0)]) (st2 := [vI r5o]) [vI (2 : Int32)] (fun l G => c_X8_refuse l G g5o) ka0 (om_lt ka0 (by decide)) (by decide) rfl rfl rfl_le rfl rfl_le rfl_le dX8_tonight_45 ?_
        exact om_iret (st := []) O (om_eI hE h) rfl dX8_tonight_48
      · replace h := (if_neg c3o).symm.trans h
        refine om_iload_n O 1 dX8_tonight_49 rfl rfl ?_
        by_cases c4o : v1 = 0
        · replace h := (if_pos c4o).symm.trans h
          refine om_lookup O (off := 26) (tgt := 76) dX8_tonight_50 (by decide +kernel) (by rw [c4o]; decide +kernel) (by decide) ?_
          refine om_aload_n O 0 dX8_tonight_76 rfl rfl ?_
          revert h; refine om_refR (fun t4o y4o k4o h => ?_)
          refine gf_X8_25 O ka0 (om_lt ka0 (by decide)) dX8_tonight_77 ?_
          rw [y4o]
          revert h; refine om_callR (fun r6o σ6o g6o h => ?_)
          refine cl_X8_187 O (st := []) (stk := [vR (some t4o)]) (st2 := [vI r6o]) [] (fun l G => c_X0_foundSet l G g6o) k4o (om_lt k4o (by decide)) (by decide) rfl rfl rfl_le rfl rfl_le rfl_le dX8_tonight_80 ?_
          exact om_iret (st := []) O (om_eI hE h) rfl dX8_tonight_83
        · replace h := (if_neg c4o).symm.trans h
          by_cases c5o : v1 = 1
          · replace h := (if_pos c5o).symm.trans h
            refine om_lookup O (off := 34) (tgt := 84) dX8_tonight_50 (by decide +kernel) (by rw [c5o]; decide +kernel) (by decide) ?_
            refine om_aload_n O 0 dX8_tonight_84 rfl rfl ?_
            revert h; refine om_refR (fun t5o y5o k5o h => ?_)
            refine gf_X8_25 O ka0 (om_lt ka0 (by decide)) dX8_tonight_85 ?_
            rw [y5o]
            revert h; refine om_callR (fun r7o σ7o g7o h => ?_)
            refine cl_X8_190 O (st := []) (stk := [vR (some t5o)]) (st2 := [vI r7o]) [] (fun l G => c_X0_foundDear l G g7o) k5o (om_lt k5o (by decide)) (by decide) rfl rfl rfl_le rfl rfl_le rfl_le dX8_tonight_88 ?_
            exact om_iret (st := []) O (om_eI hE h) rfl dX8_tonight_91
          · replace h := (if_neg c5o).symm.trans h
            refine om_lookup O (off := 42) (tgt := 92) dX8_tonight_50 (by decide +kernel) ((lv_osw (k := 0) c4o (by decide)).trans ((lv_osw (k := 1) c5o (by decide)).trans rfl)) (by decide) ?_
            refine om_aload_n O 0 dX8_tonight_92 rfl rfl ?_
            revert h; refine om_refR (fun t6o y6o k6o h => ?_)
            refine gf_X8_25 O ka0 (om_lt ka0 (by decide)) dX8_tonight_93 ?_
            rw [y6o]
            revert h; refine om_callR (fun r8o σ8o g8o h => ?_)
            refine cl_X8_193 O (st := []) (stk := [vR (some t6o)]) (st2 := [vI r8o]) [] (fun l G => c_X0_foundGives l G g8o) k6o (om_lt k6o (by decide)) (by decide) rfl rfl rfl_le rfl rfl_le rfl_le dX8_tonight_96 ?_
            exact om_iret (st := []) O (om_eI hE h) rfl dX8_tonight_99
def f_X1_copyFrom  (a0 : Nat) (a1 : Nat) (σ : om_S) : Option om_S := if om_kc a0 = 1 then if om_kc a1 = 1 then om_let (om_w σ a0 0 (σ a1 0)) fun (σ1o : om_S) => om_let (om_w σ1o a0 1 (σ1o a1 1)) fun (σ2o : om_S) => om_let (om_w σ2o a0 2 (σ2o a1 2)) fun (σ3o : om_S) => om_let (om_w σ3o a0 3 (σ3o a1 3)) fun (σ4o : om_S) => om_let (om_w σ4o a0 4 (σ4o a1 4)) fun (σ5o : om_S) => some σ5o else none else none
set_option maxRecDepth 100000 in
theorem c_X1_copyFrom (l : Launch) (G : om_G) {a0 : Nat} {a1 : Nat} {σ : om_S} {τ : om_S} (h : f_X1_copyFrom a0 a1 σ = some τ) : om_D l G 0 yX1_copyFrom cX1_copyFrom 2 none 0 0 [vR (some a0), vR (some a1)] σ om_rf om_N none τ om_rf om_N := by
  refine om_Dof (lv := [(0, vR (some a0)), (1, vR (some a1))]) (by decide) rfl_le rfl (fun x O hE => ?_)
  change om_Ok x RX1 "copyFrom" cX1_copyFrom 2 none 0 0 0 at O
  unfold f_X1_copyFrom at h
  revert h; refine om_iteR (fun ka0 h => ?_)
  revert h; refine om_iteR (fun ka1 h => ?_)
  refine om_aload_n O 0 dX1_copyFrom_0 rfl rfl ?_
  refine om_aload_n O 1 dX1_copyFrom_1 rfl rfl ?_
  refine gf_X1_9 O ka1 (om_lt ka1 (by decide)) dX1_copyFrom_2 ?_
  revert h; refine om_letR (fun σ1o e1o h => ?_)
  refine pf_X1_9 O (Or.inl rfl) ka0 (om_lt ka0 (by decide)) dX1_copyFrom_5 e1o ?_
  refine om_aload_n O 0 dX1_copyFrom_8 rfl rfl ?_
  refine om_aload_n O 1 dX1_copyFrom_9 rfl rfl ?_
  refine gf_X1_15 O ka1 (om_lt ka1 (by decide)) dX1_copyFrom_10 ?_
  revert h; refine om_letR (fun σ2o e2o h => ?_)
  refine pf_X1_15 O (Or.inl rfl) ka0 (om_lt ka0 (by decide)) dX1_copyFrom_13 e2o ?_
  refine om_aload_n O 0 dX1_copyFrom_16 rfl rfl ?_
  refine om_aload_n O 1 dX1_copyFrom_17 rfl rfl ?_
  refine gf_X1_18 O ka1 (om_lt ka1 (by decide)) dX1_copyFrom_18 ?_
  revert h; refine om_letR (fun σ3o e3o h => ?_)
  refine pf_X1_18 O (Or.inl rfl) ka0 (om_lt ka0 (by decide)) dX1_copyFrom_21 e3o ?_
  refine om_aload_n O 0 dX1_copyFrom_24 rfl rfl ?_
  refine om_aload_n O 1 dX1_copyFrom_25 rfl rfl ?_
  refine gf_X1_21 O ka1 (om_lt ka1 (by decide)) dX1_copyFrom_26 ?_
  revert h; refine om_letR (fun σ4o e4o h => ?_)
  refine pf_X1_21 O (Or.inl rfl) ka0 (om_lt ka0 (by decide)) dX1_copyFrom_29 e4o ?_
  refine om_aload_n O 0 dX1_copyFrom_32 rfl rfl ?_
  refine om_aload_n O 1 dX1_copyFrom_33 rfl rfl ?_
  refine gf_X1_24 O ka1 (om_lt ka1 (by decide)) dX1_copyFrom_34 ?_
  revert h; refine om_letR (fun σ5o e5o h => ?_)
  refine pf_X1_24 O (Or.inl rfl) ka0 (om_lt ka0 (by decide)) dX1_copyFrom_37 e5o ?_
  exact om_vret (st := []) O (om_eV hE h) rfl dX1_copyFrom_40
def f_X6_copyFrom_b56  (a0 : Nat) (a1 : Nat) (σ : om_S) : Option om_S := om_ref (om_rf a0 1) 5 fun (t1o : Nat) => om_ref (om_rf a1 1) 5 fun (t2o : Nat) => om_do (f_X5_copyFrom t1o t2o σ) fun (σ1o : om_S) => om_ref (om_rf a0 2) 5 fun (t3o : Nat) => om_ref (om_rf a1 2) 5 fun (t4o : Nat) => om_do (f_X5_copyFrom t3o t4o σ1o) fun (σ2o : om_S) => om_let (om_w σ2o a0 3 (σ2o a1 3)) fun (σ3o : om_S) => om_let (om_w σ3o a0 4 (σ3o a1 4)) fun (σ4o : om_S) => om_let (om_w σ4o a0 5 (σ4o a1 5)) fun (σ5o : om_S) => om_let (om_w σ5o a0 6 (σ5o a1 6)) fun (σ6o : om_S) => om_let (om_w σ6o a0 7 (σ6o a1 7)) fun (σ7o : om_S) => some σ7o
set_option maxRecDepth 100000 in
theorem g_X6_copyFrom_b56 {x : om_X}   (O : om_Ok x RX6 "copyFrom" cX6_copyFrom 5 none 3 0 0)   {τ : om_S} (hE : om_End x none τ om_rf om_N 0 0)   {a0 : Nat} {a1 : Nat} {σ : om_S} (ka0 : om_kc a0 = 6) (ka1 : om_kc a1 = 6) (h : f_X6_copyFrom_b56 a0 a1 σ = some τ) : om_J x 56 [(0, vR (some a0)), (1, vR (some a1))] [] σ om_rf om_N 0 0 := by
  unfold f_X6_copyFrom_b56 at h
  refine om_aload_n O 0 dX6_copyFrom_56 rfl rfl ?_
  revert h; refine om_refR (fun t1o y1o k1o h => ?_)
  refine gf_X6_22 O ka0 (om_lt ka0 (by decide)) dX6_copyFrom_57 ?_
  rw [y1o]
  refine om_aload_n O 1 dX6_copyFrom_60 rfl rfl ?_
  revert h; refine om_refR (fun t2o y2o k2o h => ?_)
  refine gf_X6_22 O ka1 (om_lt ka1 (by decide)) dX6_copyFrom_61 ?_
  rw [y2o]
  revert h; refine om_doR (fun σ1o g1o h => ?_)
  refine cl_X6_50 O (st := []) (stk := [vR (some t2o), vR (some t1o)]) (st2 := []) [vR (some t2o)] (fun l G => c_X5_copyFrom l G g1o) k1o (om_lt k1o (by decide)) (by decide) rfl rfl rfl_le rfl rfl_le rfl_le dX6_copyFrom_64 ?_
  refine om_aload_n O 0 dX6_copyFrom_67 rfl rfl ?_
  revert h; refine om_refR (fun t3o y3o k3o h => ?_)
  refine gf_X6_26 O ka0 (om_lt ka0 (by decide)) dX6_copyFrom_68 ?_
  rw [y3o]
  refine om_aload_n O 1 dX6_copyFrom_71 rfl rfl ?_
  revert h; refine om_refR (fun t4o y4o k4o h => ?_)
  refine gf_X6_26 O ka1 (om_lt ka1 (by decide)) dX6_copyFrom_72 ?_
  rw [y4o]
  revert h; refine om_doR (fun σ2o g2o h => ?_)
  refine cl_X6_50 O (st := []) (stk := [vR (some t4o), vR (some t3o)]) (st2 := []) [vR (some t4o)] (fun l G => c_X5_copyFrom l G g2o) k3o (om_lt k3o (by decide)) (by decide) rfl rfl rfl_le rfl rfl_le rfl_le dX6_copyFrom_75 ?_
  refine om_aload_n O 0 dX6_copyFrom_78 rfl rfl ?_
  refine om_aload_n O 1 dX6_copyFrom_79 rfl rfl ?_
  refine gf_X6_29 O ka1 (om_lt ka1 (by decide)) dX6_copyFrom_80 ?_
  revert h; refine om_letR (fun σ3o e1o h => ?_)
  refine pf_X6_29 O (Or.inl rfl) ka0 (om_lt ka0 (by decide)) dX6_copyFrom_83 e1o ?_
  refine om_aload_n O 0 dX6_copyFrom_86 rfl rfl ?_
  refine om_aload_n O 1 dX6_copyFrom_87 rfl rfl ?_
  refine gf_X6_33 O ka1 (om_lt ka1 (by decide)) dX6_copyFrom_88 ?_
  revert h; refine om_letR (fun σ4o e2o h => ?_)
  refine pf_X6_33 O (Or.inl rfl) ka0 (om_lt ka0 (by decide)) dX6_copyFrom_91 e2o ?_
  refine om_aload_n O 0 dX6_copyFrom_94 rfl rfl ?_
  refine om_aload_n O 1 dX6_copyFrom_95 rfl rfl ?_
  refine gf_X6_36 O ka1 (om_lt ka1 (by decide)) dX6_copyFrom_96 ?_
  revert h; refine om_letR (fun σ5o e3o h => ?_)
  refine pf_X6_36 O (Or.inl rfl) ka0 (om_lt ka0 (by decide)) dX6_copyFrom_99 e3o ?_
  refine om_aload_n O 0 dX6_copyFrom_102 rfl rfl ?_
  refine om_aload_n O 1 dX6_copyFrom_103 rfl rfl ?_
  refine gf_X6_39 O ka1 (om_lt ka1 (by decide)) dX6_copyFrom_104 ?_
  revert h; refine om_letR (fun σ6o e4o h => ?_)
  refine pf_X6_39 O (Or.inl rfl) ka0 (om_lt ka0 (by decide)) dX6_copyFrom_107 e4o ?_
  refine om_aload_n O 0 dX6_copyFrom_110 rfl rfl ?_
  refine om_aload_n O 1 dX6_copyFrom_111 rfl rfl ?_
  refine gf_X6_42 O ka1 (om_lt ka1 (by decide)) dX6_copyFrom_112 ?_
  revert h; refine om_letR (fun σ7o e5o h => ?_)
  refine pf_X6_42 O (Or.inl rfl) ka0 (om_lt ka0 (by decide)) dX6_copyFrom_115 e5o ?_
  exact om_vret (st := []) O (om_eV hE h) rfl dX6_copyFrom_118
def f_X6_copyFrom_b50 (lp2 : Nat → Nat → Int32 → om_S → Option om_S) (a0 : Nat) (a1 : Nat) (v2 : Int32) (σ : om_S) : Option om_S := lp2 a0 a1 (v2 + 1) σ
set_option maxRecDepth 100000 in
theorem g_X6_copyFrom_b50 {x : om_X}   (O : om_Ok x RX6 "copyFrom" cX6_copyFrom 5 none 3 0 0)   {τ : om_S} (hE : om_End x none τ om_rf om_N 0 0) {lp2 : Nat → Nat → Int32 → om_S → Option om_S} (L2 : ∀ (a0 : Nat) (a1 : Nat) (v2 : Int32) (σ : om_S) (ka0 : om_kc a0 = 6) (ka1 : om_kc a1 = 6), lp2 a0 a1 v2 σ = some τ → om_J x 2 [(0, vR (some a0)), (1, vR (some a1)), (2, vI v2)] [] σ om_rf om_N 0 0) {a0 : Nat} {a1 : Nat} {v2 : Int32} {σ : om_S} (ka0 : om_kc a0 = 6) (ka1 : om_kc a1 = 6) (h : f_X6_copyFrom_b50 lp2 a0 a1 v2 σ = some τ) : om_J x 50 [(0, vR (some a0)), (1, vR (some a1)), (2, vI v2)] [] σ om_rf om_N 0 0 := by
  unfold f_X6_copyFrom_b50 at h
  refine om_iinc O (v1 := (v2 + 1)) (lv' := [(0, vR (some a0)), (1, vR (some a1)), (2, vI (v2 + 1))]) 2 [1, 2, 0] rfl dX6_copyFrom_50 rfl rfl (by decide) rfl ?_
  refine om_goto O (tgt := 2) dX6_copyFrom_53 (by decide) ?_
  exact L2 _ _ _ _ ka0 ka1 h
def f_X6_copyFrom_b2  : Nat → Nat → Nat → Int32 → om_S → Option om_S
  | 0, _, _, _, _ => none
  | F + 1, a0, a1, v2, σ => om_ref (om_rf a0 0) 21 fun (t1o : Nat) => if (Int32.ofNat (om_al t1o)) ≤ v2 then (f_X6_copyFrom_b56 a0 a1 σ) else (om_ref (om_rf a1 0) 21 fun (t2o : Nat) => if (Int32.ofNat (om_al t2o)) ≤ v2 then (f_X6_copyFrom_b56 a0 a1 σ) else (om_ref (om_rf a0 0) 21 fun (t3o : Nat) => if om_in v2 (om_al t3o) then om_ref (om_rf t3o v2.toNatClampNeg) 1 fun (t4o : Nat) => om_ref (om_rf a1 0) 21 fun (t5o : Nat) => if om_in v2 (om_al t5o) then om_ref (om_rf t5o v2.toNatClampNeg) 1 fun (t6o : Nat) => om_do (f_X1_copyFrom t4o t6o σ) fun (σ1o : om_S) => f_X6_copyFrom_b50 (f_X6_copyFrom_b2 F) a0 a1 v2 σ1o else none else none))
set_option maxRecDepth 100000 in
theorem g_X6_copyFrom_b2 {x : om_X}   (O : om_Ok x RX6 "copyFrom" cX6_copyFrom 5 none 3 0 0)   {τ : om_S} (hE : om_End x none τ om_rf om_N 0 0)   : ∀ (F : Nat) (a0 : Nat) (a1 : Nat) (v2 : Int32) (σ : om_S) (ka0 : om_kc a0 = 6) (ka1 : om_kc a1 = 6), f_X6_copyFrom_b2 F a0 a1 v2 σ = some τ → om_J x 2 [(0, vR (some a0)), (1, vR (some a1)), (2, vI v2)] [] σ om_rf om_N 0 0 := by
  intro F
  induction F with
  | zero =>
    intro a0 a1 v2 σ ka0 ka1 h
    cases h
  | succ F ih =>
    intro a0 a1 v2 σ ka0 ka1 h
    unfold f_X6_copyFrom_b2 at h
    refine om_iload_n O 2 dX6_copyFrom_2 rfl rfl ?_
    refine om_aload_n O 0 dX6_copyFrom_3 rfl rfl ?_
    revert h; refine om_refR (fun t1o y1o k1o h => ?_)
    refine gf_X6_11 O ka0 (om_lt ka0 (by decide)) dX6_copyFrom_4 ?_
    rw [y1o]
    refine om_alenM O k1o (om_lt k1o (by decide)) rfl dX6_copyFrom_7 ?_
    refine om_icmp_ge O (tgt := 56) dX6_copyFrom_8 (by decide) (fun c1o => ?_) (fun c1o => ?_)
    · replace h := (if_pos c1o).symm.trans h
      refine om_drop (lv' := [(0, vR (some a0)), (1, vR (some a1))]) [0, 1] rfl ?_
      exact g_X6_copyFrom_b56 O hE ka0 ka1 h
    · replace h := (if_neg c1o).symm.trans h
      refine om_iload_n O 2 dX6_copyFrom_11 rfl rfl ?_
      refine om_aload_n O 1 dX6_copyFrom_12 rfl rfl ?_
      revert h; refine om_refR (fun t2o y2o k2o h => ?_)
      refine gf_X6_11 O ka1 (om_lt ka1 (by decide)) dX6_copyFrom_13 ?_
      rw [y2o]
      refine om_alenM O k2o (om_lt k2o (by decide)) rfl dX6_copyFrom_16 ?_
      refine om_icmp_ge O (tgt := 56) dX6_copyFrom_17 (by decide) (fun c2o => ?_) (fun c2o => ?_)
      · replace h := (if_pos c2o).symm.trans h
        refine om_drop (lv' := [(0, vR (some a0)), (1, vR (some a1))]) [0, 1] rfl ?_
        exact g_X6_copyFrom_b56 O hE ka0 ka1 h
      · replace h := (if_neg c2o).symm.trans h
        refine om_aload_n O 0 dX6_copyFrom_20 rfl rfl ?_
        revert h; refine om_refR (fun t3o y3o k3o h => ?_)
        refine gf_X6_11 O ka0 (om_lt ka0 (by decide)) dX6_copyFrom_21 ?_
        rw [y3o]
        refine om_iload_n O 2 dX6_copyFrom_24 rfl rfl ?_
        revert h; refine om_iteR (fun i1o h => ?_)
        revert h; refine om_refR (fun t4o y4o k4o h => ?_)
        refine om_aaldM O k3o (om_lt k3o (by decide)) i1o dX6_copyFrom_25 ?_
        rw [y4o]
        refine om_astore_n O (lv' := [(0, vR (some a0)), (1, vR (some a1)), (2, vI v2), (3, vR (some t4o))]) [1, 2, 3, 0] dX6_copyFrom_26 rfl (by decide) rfl ?_
        refine om_aload_n O 1 dX6_copyFrom_27 rfl rfl ?_
        revert h; refine om_refR (fun t5o y5o k5o h => ?_)
        refine gf_X6_11 O ka1 (om_lt ka1 (by decide)) dX6_copyFrom_28 ?_
        rw [y5o]
        refine om_iload_n O 2 dX6_copyFrom_31 rfl rfl ?_
        revert h; refine om_iteR (fun i2o h => ?_)
        revert h; refine om_refR (fun t6o y6o k6o h => ?_)
        refine om_aaldM O k5o (om_lt k5o (by decide)) i2o dX6_copyFrom_32 ?_
        rw [y6o]
        refine om_astore O (lv' := [(0, vR (some a0)), (1, vR (some a1)), (2, vI v2), (3, vR (some t4o)), (4, vR (some t6o))]) [1, 2, 3, 4, 0] dX6_copyFrom_33 (by decide) rfl ?_
        refine om_aload_n O 3 dX6_copyFrom_35 rfl rfl ?_
        refine om_ifnullS O dX6_copyFrom_36 ?_
        refine om_aload O 4 dX6_copyFrom_39 rfl ?_
        refine om_ifnullS O dX6_copyFrom_41 ?_
        refine om_aload_n O 3 dX6_copyFrom_44 rfl rfl ?_
        refine om_aload O 4 dX6_copyFrom_45 rfl ?_
        revert h; refine om_doR (fun σ1o g1o h => ?_)
        refine cl_X6_46 O (st := []) (stk := [vR (some t6o), vR (some t4o)]) (st2 := []) [vR (some t6o)] (fun l G => c_X1_copyFrom l G g1o) k4o (om_lt k4o (by decide)) (by decide) rfl rfl rfl_le rfl rfl_le rfl_le dX6_copyFrom_47 ?_
        refine om_drop (lv' := [(0, vR (some a0)), (1, vR (some a1)), (2, vI v2)]) [0, 1, 2] rfl ?_
        exact g_X6_copyFrom_b50 O hE ih ka0 ka1 h
def f_X6_copyFrom  (a0 : Nat) (a1 : Nat) (σ : om_S) : Option om_S := if om_kc a0 = 6 then if om_kc a1 = 6 then f_X6_copyFrom_b2 om_F a0 a1 (0 : Int32) σ else none else none
set_option maxRecDepth 100000 in
theorem c_X6_copyFrom (l : Launch) (G : om_G) {a0 : Nat} {a1 : Nat} {σ : om_S} {τ : om_S} (h : f_X6_copyFrom a0 a1 σ = some τ) : om_D l G 3 yX6_copyFrom cX6_copyFrom 5 none 0 0 [vR (some a0), vR (some a1)] σ om_rf om_N none τ om_rf om_N := by
  refine om_Dof (lv := [(0, vR (some a0)), (1, vR (some a1))]) (by decide) rfl_le rfl (fun x O hE => ?_)
  change om_Ok x RX6 "copyFrom" cX6_copyFrom 5 none 3 0 0 at O
  unfold f_X6_copyFrom at h
  revert h; refine om_iteR (fun ka0 h => ?_)
  revert h; refine om_iteR (fun ka1 h => ?_)
  refine om_iconst O (v := 0) dX6_copyFrom_0 (by decide) ?_
  refine om_istore_n O (lv' := [(0, vR (some a0)), (1, vR (some a1)), (2, vI (0 : Int32))]) [1, 2, 0] rfl dX6_copyFrom_1 rfl (by decide) rfl ?_
  exact g_X6_copyFrom_b2 O hE om_F _ _ _ _ ka0 ka1 h
def f_X8_litNightsAhead_b13  : Nat → Nat → Int32 → Int32 → om_S → Option (Int32 × om_S)
  | 0, _, _, _, _ => none
  | F + 1, a0, v1, v2, σ => if (60 : Int32) ≤ v2 then (some (v2, σ)) else (om_ref (om_rf a0 2) 6 fun (t1o : Nat) => om_ref (om_rf a0 3) 0 fun (t2o : Nat) => om_call (f_X6_passNight t1o t2o v1 σ) fun (r1o : Int32) (σ1o : om_S) => if r1o = 0 then (some (v2, σ1o)) else ((f_X8_litNightsAhead_b13 F) a0 v1 (v2 + 1) σ1o))
set_option maxRecDepth 100000 in
theorem g_X8_litNightsAhead_b13 {x : om_X}   (O : om_Ok x RX8 "litNightsAhead" cX8_litNightsAhead 3 (some FieldType.int) 6 0 0)   {r : Int32} {τ : om_S} (hE : om_End x (some (vI r)) τ om_rf om_N 0 0)   : ∀ (F : Nat) (a0 : Nat) (v1 : Int32) (v2 : Int32) (σ : om_S) (ka0 : om_kc a0 = 8), f_X8_litNightsAhead_b13 F a0 v1 v2 σ = some (r, τ) → om_J x 13 [(0, vR (some a0)), (1, vI v1), (2, vI v2)] [] σ om_rf om_N 0 0 := by
  intro F
  induction F with
  | zero =>
    intro a0 v1 v2 σ ka0 h
    cases h
  | succ F ih =>
    intro a0 v1 v2 σ ka0 h
    unfold f_X8_litNightsAhead_b13 at h
    refine om_iload_n O 2 dX8_litNightsAhead_13 rfl rfl ?_
    refine om_bipush O (v := 60) dX8_litNightsAhead_14 (by decide) ?_
    refine om_icmp_ge O (tgt := 40) dX8_litNightsAhead_16 (by decide) (fun c1o => ?_) (fun c1o => ?_)
    · replace h := (if_pos c1o).symm.trans h
      refine om_iload_n O 2 dX8_litNightsAhead_40 rfl rfl ?_
      exact om_iret (st := []) O (om_eI hE h) rfl dX8_litNightsAhead_41
    · replace h := (if_neg c1o).symm.trans h
      refine om_aload_n O 0 dX8_litNightsAhead_19 rfl rfl ?_
      revert h; refine om_refR (fun t1o y1o k1o h => ?_)
      refine gf_X8_19 O ka0 (om_lt ka0 (by decide)) dX8_litNightsAhead_20 ?_
      rw [y1o]
      refine om_aload_n O 0 dX8_litNightsAhead_23 rfl rfl ?_
      revert h; refine om_refR (fun t2o y2o k2o h => ?_)
      refine gf_X8_25 O ka0 (om_lt ka0 (by decide)) dX8_litNightsAhead_24 ?_
      rw [y2o]
      refine om_iload_n O 1 dX8_litNightsAhead_27 rfl rfl ?_
      revert h; refine om_callR (fun r1o σ1o g1o h => ?_)
      refine cl_X8_170 O (st := []) (stk := [vI v1, vR (some t2o), vR (some t1o)]) (st2 := [vI r1o]) [vR (some t2o), vI v1] (fun l G => c_X6_passNight l G g1o) k1o (om_lt k1o (by decide)) (by decide) rfl rfl rfl_le rfl rfl_le rfl_le dX8_litNightsAhead_28 ?_
      refine om_if_eq O (tgt := 40) dX8_litNightsAhead_31 (by decide) (fun c2o => ?_) (fun c2o => ?_)
      · replace h := (if_pos c2o).symm.trans h
        refine om_iload_n O 2 dX8_litNightsAhead_40 rfl rfl ?_
        exact om_iret (st := []) O (om_eI hE h) rfl dX8_litNightsAhead_41
      · replace h := (if_neg c2o).symm.trans h
        refine om_iinc O (v1 := (v2 + 1)) (lv' := [(0, vR (some a0)), (1, vI v1), (2, vI (v2 + 1))]) 2 [1, 2, 0] rfl dX8_litNightsAhead_34 rfl rfl (by decide) rfl ?_
        refine om_goto O (tgt := 13) dX8_litNightsAhead_37 (by decide) ?_
        exact ih _ _ _ _ ka0 h
def f_X8_litNightsAhead  (a0 : Nat) (v1 : Int32) (σ : om_S) : Option (Int32 × om_S) := if om_kc a0 = 8 then om_ref (om_rf a0 2) 6 fun (t1o : Nat) => om_ref (om_rf a0 0) 6 fun (t2o : Nat) => om_do (f_X6_copyFrom t1o t2o σ) fun (σ1o : om_S) => f_X8_litNightsAhead_b13 om_F a0 v1 (0 : Int32) σ1o else none
set_option maxRecDepth 100000 in
theorem c_X8_litNightsAhead (l : Launch) (G : om_G) {a0 : Nat} {v1 : Int32} {σ : om_S} {r : Int32} {τ : om_S} (h : f_X8_litNightsAhead a0 v1 σ = some (r, τ)) : om_D l G 6 yX8_litNightsAhead cX8_litNightsAhead 3 (some FieldType.int) 0 0 [vR (some a0), vI v1] σ om_rf om_N (some (vI r)) τ om_rf om_N := by
  refine om_Dof (lv := [(0, vR (some a0)), (1, vI v1)]) (by decide) rfl_le rfl (fun x O hE => ?_)
  change om_Ok x RX8 "litNightsAhead" cX8_litNightsAhead 3 (some FieldType.int) 6 0 0 at O
  unfold f_X8_litNightsAhead at h
  revert h; refine om_iteR (fun ka0 h => ?_)
  refine om_aload_n O 0 dX8_litNightsAhead_0 rfl rfl ?_
  revert h; refine om_refR (fun t1o y1o k1o h => ?_)
  refine gf_X8_19 O ka0 (om_lt ka0 (by decide)) dX8_litNightsAhead_1 ?_
  rw [y1o]
  refine om_aload_n O 0 dX8_litNightsAhead_4 rfl rfl ?_
  revert h; refine om_refR (fun t2o y2o k2o h => ?_)
  refine gf_X8_10 O ka0 (om_lt ka0 (by decide)) dX8_litNightsAhead_5 ?_
  rw [y2o]
  revert h; refine om_doR (fun σ1o g1o h => ?_)
  refine cl_X8_199 O (st := []) (stk := [vR (some t2o), vR (some t1o)]) (st2 := []) [vR (some t2o)] (fun l G => c_X6_copyFrom l G g1o) k1o (om_lt k1o (by decide)) (by decide) rfl rfl rfl_le rfl rfl_le rfl_le dX8_litNightsAhead_8 ?_
  refine om_iconst O (v := 0) dX8_litNightsAhead_11 (by decide) ?_
  refine om_istore_n O (lv' := [(0, vR (some a0)), (1, vI v1), (2, vI (0 : Int32))]) [1, 2, 0] rfl dX8_litNightsAhead_12 rfl (by decide) rfl ?_
  exact g_X8_litNightsAhead_b13 O hE om_F _ _ _ _ ka0 h
def f_X8_lasts  (a0 : Nat) (σ : om_S) : Option (Int32 × om_S) := if om_kc a0 = 8 then om_call (f_X8_litNightsAhead a0 (-1 : Int32) σ) fun (r1o : Int32) (σ1o : om_S) => some (r1o, σ1o) else none
set_option maxRecDepth 100000 in
theorem c_X8_lasts (l : Launch) (G : om_G) {a0 : Nat} {σ : om_S} {r : Int32} {τ : om_S} (h : f_X8_lasts a0 σ = some (r, τ)) : om_D l G 7 yX8_lasts cX8_lasts 1 (some FieldType.int) 0 0 [vR (some a0)] σ om_rf om_N (some (vI r)) τ om_rf om_N := by
  refine om_Dof (lv := [(0, vR (some a0))]) (by decide) rfl_le rfl (fun x O hE => ?_)
  change om_Ok x RX8 "lasts" cX8_lasts 1 (some FieldType.int) 7 0 0 at O
  unfold f_X8_lasts at h
  revert h; refine om_iteR (fun ka0 h => ?_)
  refine om_aload_n O 0 dX8_lasts_0 rfl rfl ?_
  refine om_iconst O (v := -1) dX8_lasts_1 (by decide) ?_
  revert h; refine om_callR (fun r1o σ1o g1o h => ?_)
  refine cl_X8_196 O (st := []) (stk := [vI (-1 : Int32), vR (some a0)]) (st2 := [vI r1o]) [vI (-1 : Int32)] (fun l G => c_X8_litNightsAhead l G g1o) ka0 (om_lt ka0 (by decide)) (by decide) rfl rfl rfl_le rfl rfl_le rfl_le dX8_lasts_2 ?_
  exact om_iret (st := []) O (om_eI hE h) rfl dX8_lasts_5
def f_X8_without  (a0 : Nat) (v1 : Int32) (σ : om_S) : Option (Int32 × om_S) := if om_kc a0 = 8 then om_ref (om_rf a0 0) 6 fun (t1o : Nat) => om_call (f_X6_at t1o v1 σ) fun (r1o : Option Nat) (σ1o : om_S) => om_nul r1o 1 (om_call (f_X8_refuse a0 (1 : Int32) σ1o) fun (r2o : Int32) (σ2o : om_S) => some (r2o, σ2o)) fun (t2o : Nat) => om_call (f_X8_litNightsAhead a0 (-1 : Int32) σ1o) fun (r3o : Int32) (σ3o : om_S) => om_call (f_X8_litNightsAhead a0 v1 σ3o) fun (r4o : Int32) (σ4o : om_S) => some ((r3o - r4o), σ4o) else none
set_option maxRecDepth 100000 in
theorem c_X8_without (l : Launch) (G : om_G) {a0 : Nat} {v1 : Int32} {σ : om_S} {r : Int32} {τ : om_S} (h : f_X8_without a0 v1 σ = some (r, τ)) : om_D l G 7 yX8_without cX8_without 2 (some FieldType.int) 0 0 [vR (some a0), vI v1] σ om_rf om_N (some (vI r)) τ om_rf om_N := by
  refine om_Dof (lv := [(0, vR (some a0)), (1, vI v1)]) (by decide) rfl_le rfl (fun x O hE => ?_)
  change om_Ok x RX8 "without" cX8_without 2 (some FieldType.int) 7 0 0 at O
  unfold f_X8_without at h
  revert h; refine om_iteR (fun ka0 h => ?_)
  refine om_aload_n O 0 dX8_without_0 rfl rfl ?_
  revert h; refine om_refR (fun t1o y1o k1o h => ?_)
  refine gf_X8_10 O ka0 (om_lt ka0 (by decide)) dX8_without_1 ?_
  rw [y1o]
  refine om_iload_n O 1 dX8_without_4 rfl rfl ?_
  revert h; refine om_callR (fun r1o σ1o g1o h => ?_)
  refine cl_X8_96 O (st := []) (stk := [vI v1, vR (some t1o)]) (st2 := [vR r1o]) [vI v1] (fun l G => c_X6_at l G g1o) k1o (om_lt k1o (by decide)) (by decide) rfl rfl rfl_le rfl rfl_le rfl_le dX8_without_5 ?_
  revert h; refine om_nulR (fun yy h => ?_) (fun t2o yy k2o h => ?_)
  · subst yy
    refine om_ifnonnullN O dX8_without_8 ?_
    refine om_aload_n O 0 dX8_without_11 rfl rfl ?_
    refine om_iconst O (v := 1) dX8_without_12 (by decide) ?_
    revert h; refine om_callR (fun r2o σ2o g2o h => ?_)
    refine cl_X8_84 O (st := []) (stk := [vI (1 : Int32), vR (some a0)]) (st2 := [vI r2o]) [vI (1 : Int32)] (fun l G => c_X8_refuse l G g2o) ka0 (om_lt ka0 (by decide)) (by decide) rfl rfl rfl_le rfl rfl_le rfl_le dX8_without_13 ?_
    exact om_iret (st := []) O (om_eI hE h) rfl dX8_without_16
  · subst yy
    refine om_ifnonnullS O (tgt := 17) dX8_without_8 (by decide) ?_
    refine om_aload_n O 0 dX8_without_17 rfl rfl ?_
    refine om_iconst O (v := -1) dX8_without_18 (by decide) ?_
    revert h; refine om_callR (fun r3o σ3o g3o h => ?_)
    refine cl_X8_196 O (st := []) (stk := [vI (-1 : Int32), vR (some a0)]) (st2 := [vI r3o]) [vI (-1 : Int32)] (fun l G => c_X8_litNightsAhead l G g3o) ka0 (om_lt ka0 (by decide)) (by decide) rfl rfl rfl_le rfl rfl_le rfl_le dX8_without_19 ?_
    refine om_aload_n O 0 dX8_without_22 rfl rfl ?_
    refine om_iload_n O 1 dX8_without_23 rfl rfl ?_
    revert h; refine om_callR (fun r4o σ4o g4o h => ?_)
    refine cl_X8_196 O (st := [vI r3o]) (stk := [vI v1, vR (some a0), vI r3o]) (st2 := [vI r4o, vI r3o]) [vI v1] (fun l G => c_X8_litNightsAhead l G g4o) ka0 (om_lt ka0 (by decide)) (by decide) rfl rfl rfl_le rfl rfl_le rfl_le dX8_without_24 ?_
    refine om_isub O dX8_without_27 ?_
    exact om_iret (st := []) O (om_eI hE h) rfl dX8_without_28
def f_X8_then_b21  (a0 : Nat) (σ : om_S) : Option (Int32 × om_S) := om_call (f_X8_refuse a0 (1 : Int32) σ) fun (r1o : Int32) (σ1o : om_S) => some (r1o, σ1o)
set_option maxRecDepth 100000 in
theorem g_X8_then_b21 {x : om_X}   (O : om_Ok x RX8 "then" cX8_then 4 (some FieldType.int) 6 0 0)   {r : Int32} {τ : om_S} (hE : om_End x (some (vI r)) τ om_rf om_N 0 0)   {a0 : Nat} {σ : om_S} (ka0 : om_kc a0 = 8) (h : f_X8_then_b21 a0 σ = some (r, τ)) : om_J x 21 [(0, vR (some a0))] [] σ om_rf om_N 0 0 := by
  unfold f_X8_then_b21 at h
  refine om_aload_n O 0 dX8_then_21 rfl rfl ?_
  refine om_iconst O (v := 1) dX8_then_22 (by decide) ?_
  revert h; refine om_callR (fun r1o σ1o g1o h => ?_)
  refine cl_X8_84 O (st := []) (stk := [vI (1 : Int32), vR (some a0)]) (st2 := [vI r1o]) [vI (1 : Int32)] (fun l G => c_X8_refuse l G g1o) ka0 (om_lt ka0 (by decide)) (by decide) rfl rfl rfl_le rfl rfl_le rfl_le dX8_then_23 ?_
  exact om_iret (st := []) O (om_eI hE h) rfl dX8_then_26
def f_X8_then_b40  : Nat → Nat → Int32 → Int32 → Int32 → om_S → Option (Int32 × om_S)
  | 0, _, _, _, _, _ => none
  | F + 1, a0, v1, v2, v3, σ => if v2 ≤ v3 then (om_ref (om_rf a0 2) 6 fun (t1o : Nat) => om_call (f_X6_at t1o v1 σ) fun (r1o : Option Nat) (σ1o : om_S) => om_nul r1o 1 (some ((0 : Int32), σ1o)) fun (t2o : Nat) => some ((σ1o t2o 3), σ1o)) else (om_ref (om_rf a0 2) 6 fun (t3o : Nat) => om_ref (om_rf a0 3) 0 fun (t4o : Nat) => om_call (f_X6_passNight t3o t4o (-1 : Int32) σ) fun (r2o : Int32) (σ2o : om_S) => (f_X8_then_b40 F) a0 v1 v2 (v3 + 1) σ2o)
set_option maxRecDepth 100000 in
theorem g_X8_then_b40 {x : om_X}   (O : om_Ok x RX8 "then" cX8_then 4 (some FieldType.int) 6 0 0)   {r : Int32} {τ : om_S} (hE : om_End x (some (vI r)) τ om_rf om_N 0 0)   : ∀ (F : Nat) (a0 : Nat) (v1 : Int32) (v2 : Int32) (v3 : Int32) (σ : om_S) (ka0 : om_kc a0 = 8), f_X8_then_b40 F a0 v1 v2 v3 σ = some (r, τ) → om_J x 40 [(0, vR (some a0)), (1, vI v1), (2, vI v2), (3, vI v3)] [] σ om_rf om_N 0 0 := by
  intro F
  induction F with
  | zero =>
    intro a0 v1 v2 v3 σ ka0 h
    cases h
  | succ F ih =>
    intro a0 v1 v2 v3 σ ka0 h
    unfold f_X8_then_b40 at h
    refine om_iload_n O 3 dX8_then_40 rfl rfl ?_
    refine om_iload_n O 2 dX8_then_41 rfl rfl ?_
    refine om_icmp_ge O (tgt := 64) dX8_then_42 (by decide) (fun c1o => ?_) (fun c1o => ?_)
    · replace h := (if_pos c1o).symm.trans h
      refine om_aload_n O 0 dX8_then_64 rfl rfl ?_
      revert h; refine om_refR (fun t1o y1o k1o h => ?_)
      refine gf_X8_19 O ka0 (om_lt ka0 (by decide)) dX8_then_65 ?_
      rw [y1o]
      refine om_iload_n O 1 dX8_then_68 rfl rfl ?_
      revert h; refine om_callR (fun r1o σ1o g1o h => ?_)
      refine cl_X8_96 O (st := []) (stk := [vI v1, vR (some t1o)]) (st2 := [vR r1o]) [vI v1] (fun l G => c_X6_at l G g1o) k1o (om_lt k1o (by decide)) (by decide) rfl rfl rfl_le rfl rfl_le rfl_le dX8_then_69 ?_
      refine om_astore_n O (lv' := [(3, vR r1o)]) [0] dX8_then_72 rfl (by decide) rfl ?_
      refine om_aload_n O 0 dX8_then_73 rfl rfl ?_
      revert h; refine om_nulR (fun yy h => ?_) (fun t2o yy k2o h => ?_)
      · subst yy
        refine om_ifnonnullN O dX8_then_74 ?_
        refine om_iconst O (v := 0) dX8_then_77 (by decide) ?_
        refine om_goto O (tgt := 85) dX8_then_78 (by decide) ?_
        exact om_iret (st := []) O (om_eI hE h) rfl dX8_then_85
      · subst yy
        refine om_ifnonnullS O (tgt := 81) dX8_then_74 (by decide) ?_
        refine om_aload_n O 0 dX8_then_81 rfl rfl ?_
        refine gf_X8_111 O k2o (om_lt k2o (by decide)) dX8_then_82 ?_
        exact om_iret (st := []) O (om_eI hE h) rfl dX8_then_85
    · replace h := (if_neg c1o).symm.trans h
      refine om_aload_n O 0 dX8_then_45 rfl rfl ?_
      revert h; refine om_refR (fun t3o y2o k3o h => ?_)
      refine gf_X8_19 O ka0 (om_lt ka0 (by decide)) dX8_then_46 ?_
      rw [y2o]
      refine om_aload_n O 0 dX8_then_49 rfl rfl ?_
      revert h; refine om_refR (fun t4o y3o k4o h => ?_)
      refine gf_X8_25 O ka0 (om_lt ka0 (by decide)) dX8_then_50 ?_
      rw [y3o]
      refine om_iconst O (v := -1) dX8_then_53 (by decide) ?_
      revert h; refine om_callR (fun r2o σ2o g2o h => ?_)
      refine cl_X8_170 O (st := []) (stk := [vI (-1 : Int32), vR (some t4o), vR (some t3o)]) (st2 := [vI r2o]) [vR (some t4o), vI (-1 : Int32)] (fun l G => c_X6_passNight l G g2o) k3o (om_lt k3o (by decide)) (by decide) rfl rfl rfl_le rfl rfl_le rfl_le dX8_then_54 ?_
      refine om_pop O rfl dX8_then_57 ?_
      refine om_iinc O (v1 := (v3 + 1)) (lv' := [(0, vR (some a0)), (1, vI v1), (2, vI v2), (3, vI (v3 + 1))]) 3 [1, 2, 3, 0] rfl dX8_then_58 rfl rfl (by decide) rfl ?_
      refine om_goto O (tgt := 40) dX8_then_61 (by decide) ?_
      exact ih _ _ _ _ _ ka0 h
def f_X8_then  (a0 : Nat) (v1 : Int32) (v2 : Int32) (σ : om_S) : Option (Int32 × om_S) := if om_kc a0 = 8 then om_ref (om_rf a0 0) 6 fun (t1o : Nat) => om_call (f_X6_at t1o v1 σ) fun (r1o : Option Nat) (σ1o : om_S) => om_nul r1o 1 (f_X8_then_b21 a0 σ1o) fun (t2o : Nat) => om_call (f_X8_isWithin v2 (0 : Int32) (60 : Int32) σ1o) fun (r2o : Int32) (σ2o : om_S) => if r2o = 0 then (f_X8_then_b21 a0 σ2o) else (om_ref (om_rf a0 2) 6 fun (t3o : Nat) => om_ref (om_rf a0 0) 6 fun (t4o : Nat) => om_do (f_X6_copyFrom t3o t4o σ2o) fun (σ3o : om_S) => f_X8_then_b40 om_F a0 v1 v2 (0 : Int32) σ3o) else none
set_option maxRecDepth 100000 in
theorem c_X8_then (l : Launch) (G : om_G) {a0 : Nat} {v1 : Int32} {v2 : Int32} {σ : om_S} {r : Int32} {τ : om_S} (h : f_X8_then a0 v1 v2 σ = some (r, τ)) : om_D l G 6 yX8_then cX8_then 4 (some FieldType.int) 0 0 [vR (some a0), vI v1, vI v2] σ om_rf om_N (some (vI r)) τ om_rf om_N := by
  refine om_Dof (lv := [(0, vR (some a0)), (1, vI v1), (2, vI v2)]) (by decide) rfl_le rfl (fun x O hE => ?_)
  change om_Ok x RX8 "then" cX8_then 4 (some FieldType.int) 6 0 0 at O
  unfold f_X8_then at h
  revert h; refine om_iteR (fun ka0 h => ?_)
  refine om_aload_n O 0 dX8_then_0 rfl rfl ?_
  revert h; refine om_refR (fun t1o y1o k1o h => ?_)
  refine gf_X8_10 O ka0 (om_lt ka0 (by decide)) dX8_then_1 ?_
  rw [y1o]
  refine om_iload_n O 1 dX8_then_4 rfl rfl ?_
  revert h; refine om_callR (fun r1o σ1o g1o h => ?_)
  refine cl_X8_96 O (st := []) (stk := [vI v1, vR (some t1o)]) (st2 := [vR r1o]) [vI v1] (fun l G => c_X6_at l G g1o) k1o (om_lt k1o (by decide)) (by decide) rfl rfl rfl_le rfl rfl_le rfl_le dX8_then_5 ?_
  revert h; refine om_nulR (fun yy h => ?_) (fun t2o yy k2o h => ?_)
  · subst yy
    refine om_ifnullN O (tgt := 21) dX8_then_8 (by decide) ?_
    refine om_drop (lv' := [(0, vR (some a0))]) [0] rfl ?_
    exact g_X8_then_b21 O hE ka0 h
  · subst yy
    refine om_ifnullS O dX8_then_8 ?_
    refine om_iload_n O 2 dX8_then_11 rfl rfl ?_
    refine om_iconst O (v := 0) dX8_then_12 (by decide) ?_
    refine om_bipush O (v := 60) dX8_then_13 (by decide) ?_
    revert h; refine om_callR (fun r2o σ2o g2o h => ?_)
    refine cl_X8_80 O (st := []) (stk := [vI (60 : Int32), vI (0 : Int32), vI v2]) (st2 := [vI r2o]) [vI v2, vI (0 : Int32), vI (60 : Int32)] (fun l G => c_X8_isWithin l G g2o) (by decide) rfl rfl rfl_le rfl rfl_le rfl_le dX8_then_15 ?_
    refine om_if_ne O (tgt := 27) dX8_then_18 (by decide) (fun c1o => ?_) (fun c1o => ?_)
    · replace h := (if_pos c1o).symm.trans h
      refine om_drop (lv' := [(0, vR (some a0))]) [0] rfl ?_
      exact g_X8_then_b21 O hE ka0 h
    · replace h := (if_neg c1o).symm.trans h
      refine om_aload_n O 0 dX8_then_27 rfl rfl ?_
      revert h; refine om_refR (fun t3o y2o k3o h => ?_)
      refine gf_X8_19 O ka0 (om_lt ka0 (by decide)) dX8_then_28 ?_
      rw [y2o]
      refine om_aload_n O 0 dX8_then_31 rfl rfl ?_
      revert h; refine om_refR (fun t4o y3o k4o h => ?_)
      refine gf_X8_10 O ka0 (om_lt ka0 (by decide)) dX8_then_32 ?_
      rw [y3o]
      revert h; refine om_doR (fun σ3o g3o h => ?_)
      refine cl_X8_199 O (st := []) (stk := [vR (some t4o), vR (some t3o)]) (st2 := []) [vR (some t4o)] (fun l G => c_X6_copyFrom l G g3o) k3o (om_lt k3o (by decide)) (by decide) rfl rfl rfl_le rfl rfl_le rfl_le dX8_then_35 ?_
      refine om_iconst O (v := 0) dX8_then_38 (by decide) ?_
      refine om_istore_n O (lv' := [(0, vR (some a0)), (1, vI v1), (2, vI v2), (3, vI (0 : Int32))]) [1, 2, 3, 0] rfl dX8_then_39 rfl (by decide) rfl ?_
      exact g_X8_then_b40 O hE om_F _ _ _ _ _ ka0 h
def f_X8_has_b95 (lp17 : Nat → Int32 → Int32 → Int32 → om_S → Option (Int32 × om_S)) (a0 : Nat) (v1 : Int32) (v2 : Int32) (v3 : Int32) (σ : om_S) : Option (Int32 × om_S) := lp17 a0 v1 v2 (v3 + 1) σ
set_option maxRecDepth 100000 in
theorem g_X8_has_b95 {x : om_X}   (O : om_Ok x RX8 "has" cX8_has 6 (some FieldType.int) 3 0 0)   {r : Int32} {τ : om_S} (hE : om_End x (some (vI r)) τ om_rf om_N 0 0) {lp17 : Nat → Int32 → Int32 → Int32 → om_S → Option (Int32 × om_S)} (L17 : ∀ (a0 : Nat) (v1 : Int32) (v2 : Int32) (v3 : Int32) (σ : om_S) (ka0 : om_kc a0 = 8), lp17 a0 v1 v2 v3 σ = some (r, τ) → om_J x 17 [(0, vR (some a0)), (1, vI v1), (2, vI v2), (3, vI v3)] [] σ om_rf om_N 0 0) {a0 : Nat} {v1 : Int32} {v2 : Int32} {v3 : Int32} {σ : om_S} (ka0 : om_kc a0 = 8) (h : f_X8_has_b95 lp17 a0 v1 v2 v3 σ = some (r, τ)) : om_J x 95 [(0, vR (some a0)), (1, vI v1), (2, vI v2), (3, vI v3)] [] σ om_rf om_N 0 0 := by
  unfold f_X8_has_b95 at h
  refine om_iinc O (v1 := (v3 + 1)) (lv' := [(0, vR (some a0)), (1, vI v1), (2, vI v2), (3, vI (v3 + 1))]) 3 [1, 2, 3, 0] rfl dX8_has_95 rfl rfl (by decide) rfl ?_
  refine om_goto O (tgt := 17) dX8_has_98 (by decide) ?_
  exact L17 _ _ _ _ _ ka0 h
def f_X8_has_b93 (lp17 : Nat → Int32 → Int32 → Int32 → om_S → Option (Int32 × om_S)) (a0 : Nat) (v1 : Int32) (v3 : Int32) (s0 : Int32) (s1 : Int32) (σ : om_S) : Option (Int32 × om_S) := f_X8_has_b95 lp17 a0 v1 (s0 + s1) v3 σ
set_option maxRecDepth 100000 in
theorem g_X8_has_b93 {x : om_X}   (O : om_Ok x RX8 "has" cX8_has 6 (some FieldType.int) 3 0 0)   {r : Int32} {τ : om_S} (hE : om_End x (some (vI r)) τ om_rf om_N 0 0) {lp17 : Nat → Int32 → Int32 → Int32 → om_S → Option (Int32 × om_S)} (L17 : ∀ (a0 : Nat) (v1 : Int32) (v2 : Int32) (v3 : Int32) (σ : om_S) (ka0 : om_kc a0 = 8), lp17 a0 v1 v2 v3 σ = some (r, τ) → om_J x 17 [(0, vR (some a0)), (1, vI v1), (2, vI v2), (3, vI v3)] [] σ om_rf om_N 0 0) {a0 : Nat} {v1 : Int32} {v3 : Int32} {s0 : Int32} {s1 : Int32} {σ : om_S} (ka0 : om_kc a0 = 8) (h : f_X8_has_b93 lp17 a0 v1 v3 s0 s1 σ = some (r, τ)) : om_J x 93 [(0, vR (some a0)), (1, vI v1), (3, vI v3)] [vI s1, vI s0] σ om_rf om_N 0 0 := by
  unfold f_X8_has_b93 at h
  refine om_iadd O dX8_has_93 ?_
  refine om_istore_n O (lv' := [(0, vR (some a0)), (1, vI v1), (2, vI (s0 + s1)), (3, vI v3)]) [1, 2, 0, 3] rfl dX8_has_94 rfl (by decide) rfl ?_
  exact g_X8_has_b95 O hE L17 ka0 h
def f_X8_has_b17  : Nat → Nat → Int32 → Int32 → Int32 → om_S → Option (Int32 × om_S)
  | 0, _, _, _, _, _ => none
  | F + 1, a0, v1, v2, v3, σ => om_ref (om_rf a0 0) 6 fun (t1o : Nat) => if (σ t1o 3) ≤ v3 then (some (v2, σ)) else (om_ref (om_rf a0 0) 6 fun (t2o : Nat) => om_call (f_X6_at t2o v3 σ) fun (r1o : Option Nat) (σ1o : om_S) => om_nul r1o 1 (f_X8_has_b95 (f_X8_has_b17 F) a0 v1 v2 v3 σ1o) fun (t3o : Nat) => if ((σ1o t3o 2) &&& ((1 : Int32) <<< (v1 &&& 31))) = 0 then (f_X8_has_b95 (f_X8_has_b17 F) a0 v1 v2 v3 σ1o) else (om_call (f_J6_bitCount_0f7a4 (σ1o t3o 2) σ1o) fun (r2o : Int32) (σ2o : om_S) => if r2o = 0 then (f_X8_has_b93 (f_X8_has_b17 F) a0 v1 v3 v2 (0 : Int32) σ2o) else (om_ref (om_rf a0 0) 6 fun (t4o : Nat) => om_call (f_X6_light t4o t3o σ2o) fun (r3o : Int32) (σ3o : om_S) => if ¬ r2o = 0 then f_X8_has_b93 (f_X8_has_b17 F) a0 v1 v3 v2 (((σ2o t3o 3) * r3o) / r2o) σ3o else none)))
set_option maxRecDepth 100000 in
theorem g_X8_has_b17 {x : om_X}   (O : om_Ok x RX8 "has" cX8_has 6 (some FieldType.int) 3 0 0)   {r : Int32} {τ : om_S} (hE : om_End x (some (vI r)) τ om_rf om_N 0 0)   : ∀ (F : Nat) (a0 : Nat) (v1 : Int32) (v2 : Int32) (v3 : Int32) (σ : om_S) (ka0 : om_kc a0 = 8), f_X8_has_b17 F a0 v1 v2 v3 σ = some (r, τ) → om_J x 17 [(0, vR (some a0)), (1, vI v1), (2, vI v2), (3, vI v3)] [] σ om_rf om_N 0 0 := by
  intro F
  induction F with
  | zero =>
    intro a0 v1 v2 v3 σ ka0 h
    cases h
  | succ F ih =>
    intro a0 v1 v2 v3 σ ka0 h
    unfold f_X8_has_b17 at h
    refine om_iload_n O 3 dX8_has_17 rfl rfl ?_
    refine om_aload_n O 0 dX8_has_18 rfl rfl ?_
    revert h; refine om_refR (fun t1o y1o k1o h => ?_)
    refine gf_X8_10 O ka0 (om_lt ka0 (by decide)) dX8_has_19 ?_
    rw [y1o]
    refine gf_X8_202 O k1o (om_lt k1o (by decide)) dX8_has_22 ?_
    refine om_icmp_ge O (tgt := 101) dX8_has_25 (by decide) (fun c1o => ?_) (fun c1o => ?_)
    · replace h := (if_pos c1o).symm.trans h
      refine om_iload_n O 2 dX8_has_101 rfl rfl ?_
      exact om_iret (st := []) O (om_eI hE h) rfl dX8_has_102
    · replace h := (if_neg c1o).symm.trans h
      refine om_aload_n O 0 dX8_has_28 rfl rfl ?_
      revert h; refine om_refR (fun t2o y2o k2o h => ?_)
      refine gf_X8_10 O ka0 (om_lt ka0 (by decide)) dX8_has_29 ?_
      rw [y2o]
      refine om_iload_n O 3 dX8_has_32 rfl rfl ?_
      revert h; refine om_callR (fun r1o σ1o g1o h => ?_)
      refine cl_X8_96 O (st := []) (stk := [vI v3, vR (some t2o)]) (st2 := [vR r1o]) [vI v3] (fun l G => c_X6_at l G g1o) k2o (om_lt k2o (by decide)) (by decide) rfl rfl rfl_le rfl rfl_le rfl_le dX8_has_33 ?_
      refine om_astore O (lv' := [(0, vR (some a0)), (1, vI v1), (2, vI v2), (3, vI v3), (4, vR r1o)]) [1, 2, 3, 4, 0] dX8_has_36 (by decide) rfl ?_
      refine om_aload O 4 dX8_has_38 rfl ?_
      revert h; refine om_nulR (fun yy h => ?_) (fun t3o yy k3o h => ?_)
      · subst yy
        refine om_ifnullN O (tgt := 95) dX8_has_40 (by decide) ?_
        refine om_drop (lv' := [(0, vR (some a0)), (1, vI v1), (2, vI v2), (3, vI v3)]) [0, 1, 2, 3] rfl ?_
        exact g_X8_has_b95 O hE ih ka0 h
      · subst yy
        refine om_ifnullS O dX8_has_40 ?_
        refine om_aload O 4 dX8_has_43 rfl ?_
        refine gf_X8_108 O k3o (om_lt k3o (by decide)) dX8_has_45 ?_
        refine om_iconst O (v := 1) dX8_has_48 (by decide) ?_
        refine om_iload_n O 1 dX8_has_49 rfl rfl ?_
        refine om_ishl O dX8_has_50 ?_
        refine om_iand O dX8_has_51 ?_
        refine om_if_eq O (tgt := 95) dX8_has_52 (by decide) (fun c2o => ?_) (fun c2o => ?_)
        · replace h := (if_pos c2o).symm.trans h
          refine om_drop (lv' := [(0, vR (some a0)), (1, vI v1), (2, vI v2), (3, vI v3)]) [0, 1, 2, 3] rfl ?_
          exact g_X8_has_b95 O hE ih ka0 h
        · replace h := (if_neg c2o).symm.trans h
          refine om_aload O 4 dX8_has_55 rfl ?_
          refine gf_X8_108 O k3o (om_lt k3o (by decide)) dX8_has_57 ?_
          revert h; refine om_callR (fun r2o σ2o g2o h => ?_)
          refine cl_X8_205 O (st := []) (stk := [vI (σ1o t3o 2)]) (st2 := [vI r2o]) [vI (σ1o t3o 2)] (fun l G => c_J6_bitCount_0f7a4 l G g2o) (by decide) rfl rfl rfl_le rfl rfl_le rfl_le dX8_has_60 ?_
          refine om_istore O (lv' := [(0, vR (some a0)), (1, vI v1), (2, vI v2), (3, vI v3), (4, vR (some t3o)), (5, vI r2o)]) [1, 2, 3, 4, 5, 0] rfl dX8_has_63 (by decide) rfl ?_
          refine om_iload_n O 2 dX8_has_65 rfl rfl ?_
          refine om_iload O 5 dX8_has_66 rfl ?_
          refine om_if_ne O (tgt := 75) dX8_has_68 (by decide) (fun c3o => ?_) (fun c3o => ?_)
          · replace h := (if_pos c3o).symm.trans h
            refine om_iconst O (v := 0) dX8_has_71 (by decide) ?_
            refine om_goto O (tgt := 93) dX8_has_72 (by decide) ?_
            refine om_drop (lv' := [(0, vR (some a0)), (1, vI v1), (3, vI v3)]) [0, 1, 3] rfl ?_
            exact g_X8_has_b93 O hE ih ka0 h
          · replace h := (if_neg c3o).symm.trans h
            refine om_aload O 4 dX8_has_75 rfl ?_
            refine gf_X8_111 O k3o (om_lt k3o (by decide)) dX8_has_77 ?_
            refine om_aload_n O 0 dX8_has_80 rfl rfl ?_
            revert h; refine om_refR (fun t4o y3o k4o h => ?_)
            refine gf_X8_10 O ka0 (om_lt ka0 (by decide)) dX8_has_81 ?_
            rw [y3o]
            refine om_aload O 4 dX8_has_84 rfl ?_
            revert h; refine om_callR (fun r3o σ3o g3o h => ?_)
            refine cl_X8_117 O (st := [vI (σ2o t3o 3), vI v2]) (stk := [vR (some t3o), vR (some t4o), vI (σ2o t3o 3), vI v2]) (st2 := [vI r3o, vI (σ2o t3o 3), vI v2]) [vR (some t3o)] (fun l G => c_X6_light l G g3o) k4o (om_lt k4o (by decide)) (by decide) rfl rfl rfl_le rfl rfl_le rfl_le dX8_has_86 ?_
            refine om_imul O dX8_has_89 ?_
            refine om_iload O 5 dX8_has_90 rfl ?_
            revert h; refine om_iteR (fun z1o h => ?_)
            refine om_idiv O dX8_has_92 z1o ?_
            refine om_drop (lv' := [(0, vR (some a0)), (1, vI v1), (3, vI v3)]) [0, 1, 3] rfl ?_
            exact g_X8_has_b93 O hE ih ka0 h
def f_X8_has  (a0 : Nat) (v1 : Int32) (σ : om_S) : Option (Int32 × om_S) := if om_kc a0 = 8 then om_call (f_X8_isKeeper v1 σ) fun (r1o : Int32) (σ1o : om_S) => if r1o = 0 then (om_call (f_X8_refuse a0 (1 : Int32) σ1o) fun (r2o : Int32) (σ2o : om_S) => some (r2o, σ2o)) else (f_X8_has_b17 om_F a0 v1 (0 : Int32) (0 : Int32) σ1o) else none
set_option maxRecDepth 100000 in
theorem c_X8_has (l : Launch) (G : om_G) {a0 : Nat} {v1 : Int32} {σ : om_S} {r : Int32} {τ : om_S} (h : f_X8_has a0 v1 σ = some (r, τ)) : om_D l G 3 yX8_has cX8_has 6 (some FieldType.int) 0 0 [vR (some a0), vI v1] σ om_rf om_N (some (vI r)) τ om_rf om_N := by
  refine om_Dof (lv := [(0, vR (some a0)), (1, vI v1)]) (by decide) rfl_le rfl (fun x O hE => ?_)
  change om_Ok x RX8 "has" cX8_has 6 (some FieldType.int) 3 0 0 at O
  unfold f_X8_has at h
  revert h; refine om_iteR (fun ka0 h => ?_)
  refine om_iload_n O 1 dX8_has_0 rfl rfl ?_
  revert h; refine om_callR (fun r1o σ1o g1o h => ?_)
  refine cl_X8_130 O (st := []) (stk := [vI v1]) (st2 := [vI r1o]) [vI v1] (fun l G => c_X8_isKeeper l G g1o) (by decide) rfl rfl rfl_le rfl rfl_le rfl_le dX8_has_1 ?_
  refine om_if_ne O (tgt := 13) dX8_has_4 (by decide) (fun c1o => ?_) (fun c1o => ?_)
  · replace h := (if_pos c1o).symm.trans h
    refine om_aload_n O 0 dX8_has_7 rfl rfl ?_
    refine om_iconst O (v := 1) dX8_has_8 (by decide) ?_
    revert h; refine om_callR (fun r2o σ2o g2o h => ?_)
    refine cl_X8_84 O (st := []) (stk := [vI (1 : Int32), vR (some a0)]) (st2 := [vI r2o]) [vI (1 : Int32)] (fun l G => c_X8_refuse l G g2o) ka0 (om_lt ka0 (by decide)) (by decide) rfl rfl rfl_le rfl rfl_le rfl_le dX8_has_9 ?_
    exact om_iret (st := []) O (om_eI hE h) rfl dX8_has_12
  · replace h := (if_neg c1o).symm.trans h
    refine om_iconst O (v := 0) dX8_has_13 (by decide) ?_
    refine om_istore_n O (lv' := [(0, vR (some a0)), (1, vI v1), (2, vI (0 : Int32))]) [1, 2, 0] rfl dX8_has_14 rfl (by decide) rfl ?_
    refine om_iconst O (v := 0) dX8_has_15 (by decide) ?_
    refine om_istore_n O (lv' := [(0, vR (some a0)), (1, vI v1), (2, vI (0 : Int32)), (3, vI (0 : Int32))]) [1, 2, 3, 0] rfl dX8_has_16 rfl (by decide) rfl ?_
    exact g_X8_has_b17 O hE om_F _ _ _ _ _ ka0 h
def f_X8_mixes_b20  (a0 : Nat) (σ : om_S) : Option (Int32 × om_S) := om_call (f_X8_refuse a0 (1 : Int32) σ) fun (r1o : Int32) (σ1o : om_S) => some (r1o, σ1o)
set_option maxRecDepth 100000 in
theorem g_X8_mixes_b20 {x : om_X}   (O : om_Ok x RX8 "mixes" cX8_mixes 8 (some FieldType.int) 4 0 0)   {r : Int32} {τ : om_S} (hE : om_End x (some (vI r)) τ om_rf om_N 0 0)   {a0 : Nat} {σ : om_S} (ka0 : om_kc a0 = 8) (h : f_X8_mixes_b20 a0 σ = some (r, τ)) : om_J x 20 [(0, vR (some a0))] [] σ om_rf om_N 0 0 := by
  unfold f_X8_mixes_b20 at h
  refine om_aload_n O 0 dX8_mixes_20 rfl rfl ?_
  refine om_iconst O (v := 1) dX8_mixes_21 (by decide) ?_
  revert h; refine om_callR (fun r1o σ1o g1o h => ?_)
  refine cl_X8_84 O (st := []) (stk := [vI (1 : Int32), vR (some a0)]) (st2 := [vI r1o]) [vI (1 : Int32)] (fun l G => c_X8_refuse l G g1o) ka0 (om_lt ka0 (by decide)) (by decide) rfl rfl rfl_le rfl rfl_le rfl_le dX8_mixes_22 ?_
  exact om_iret (st := []) O (om_eI hE h) rfl dX8_mixes_25
def f_X8_mixes_b108  (v2 : Int32) (v4 : Int32) (v5 : Int32) (σ : om_S) : Option (Int32 × om_S) := if v2 = 0 then (some (v4, σ)) else (some (v5, σ))
set_option maxRecDepth 100000 in
theorem g_X8_mixes_b108 {x : om_X}   (O : om_Ok x RX8 "mixes" cX8_mixes 8 (some FieldType.int) 4 0 0)   {r : Int32} {τ : om_S} (hE : om_End x (some (vI r)) τ om_rf om_N 0 0)   {v2 : Int32} {v4 : Int32} {v5 : Int32} {σ : om_S}  (h : f_X8_mixes_b108 v2 v4 v5 σ = some (r, τ)) : om_J x 108 [(2, vI v2), (4, vI v4), (5, vI v5)] [] σ om_rf om_N 0 0 := by
  unfold f_X8_mixes_b108 at h
  refine om_iload_n O 0 dX8_mixes_108 rfl rfl ?_
  refine om_if_ne O (tgt := 117) dX8_mixes_109 (by decide) (fun c1o => ?_) (fun c1o => ?_)
  · replace h := (if_pos c1o).symm.trans h
    refine om_iload O 1 dX8_mixes_112 rfl ?_
    refine om_goto O (tgt := 119) dX8_mixes_114 (by decide) ?_
    exact om_iret (st := []) O (om_eI hE h) rfl dX8_mixes_119
  · replace h := (if_neg c1o).symm.trans h
    refine om_iload O 2 dX8_mixes_117 rfl ?_
    exact om_iret (st := []) O (om_eI hE h) rfl dX8_mixes_119
def f_X8_mixes_b102 (lp55 : Nat → Int32 → Option Nat → Int32 → Int32 → Int32 → om_S → Option (Int32 × om_S)) (a0 : Nat) (v2 : Int32) (a3 : Nat) (v4 : Int32) (v5 : Int32) (v6 : Int32) (σ : om_S) : Option (Int32 × om_S) := lp55 a0 v2 (some a3) v4 v5 (v6 + 1) σ
set_option maxRecDepth 100000 in
theorem g_X8_mixes_b102 {x : om_X}   (O : om_Ok x RX8 "mixes" cX8_mixes 8 (some FieldType.int) 4 0 0)   {r : Int32} {τ : om_S} (hE : om_End x (some (vI r)) τ om_rf om_N 0 0) {lp55 : Nat → Int32 → Option Nat → Int32 → Int32 → Int32 → om_S → Option (Int32 × om_S)} (L55 : ∀ (a0 : Nat) (v2 : Int32) (o3 : Option Nat) (v4 : Int32) (v5 : Int32) (v6 : Int32) (σ : om_S) (ka0 : om_kc a0 = 8), lp55 a0 v2 o3 v4 v5 v6 σ = some (r, τ) → om_J x 55 [(0, vR (some a0)), (2, vI v2), (3, vR o3), (4, vI v4), (5, vI v5), (6, vI v6)] [] σ om_rf om_N 0 0) {a0 : Nat} {v2 : Int32} {a3 : Nat} {v4 : Int32} {v5 : Int32} {v6 : Int32} {σ : om_S} (ka0 : om_kc a0 = 8) (ka3 : om_kc a3 = 1) (h : f_X8_mixes_b102 lp55 a0 v2 a3 v4 v5 v6 σ = some (r, τ)) : om_J x 102 [(0, vR (some a0)), (2, vI v2), (3, vR (some a3)), (4, vI v4), (5, vI v5), (6, vI v6)] [] σ om_rf om_N 0 0 := by
  unfold f_X8_mixes_b102 at h
  refine om_iinc O (v1 := (v6 + 1)) (lv' := [(0, vR (some a0)), (2, vI v2), (3, vR (some a3)), (4, vI v4), (5, vI v5), (6, vI (v6 + 1))]) 5 [1, 2, 3, 4, 5, 0] rfl dX8_mixes_102 rfl rfl (by decide) rfl ?_
  refine om_goto O (tgt := 55) dX8_mixes_105 (by decide) ?_
  exact L55 _ _ _ _ _ _ _ ka0 h
def f_X8_mixes_b94 (lp55 : Nat → Int32 → Option Nat → Int32 → Int32 → Int32 → om_S → Option (Int32 × om_S)) (a0 : Nat) (v2 : Int32) (a3 : Nat) (v6 : Int32) (v7 : Int32) (σ : om_S) : Option (Int32 × om_S) := f_X8_mixes_b102 lp55 a0 v2 a3 v6 v7 v6 σ
set_option maxRecDepth 100000 in
theorem g_X8_mixes_b94 {x : om_X}   (O : om_Ok x RX8 "mixes" cX8_mixes 8 (some FieldType.int) 4 0 0)   {r : Int32} {τ : om_S} (hE : om_End x (some (vI r)) τ om_rf om_N 0 0) {lp55 : Nat → Int32 → Option Nat → Int32 → Int32 → Int32 → om_S → Option (Int32 × om_S)} (L55 : ∀ (a0 : Nat) (v2 : Int32) (o3 : Option Nat) (v4 : Int32) (v5 : Int32) (v6 : Int32) (σ : om_S) (ka0 : om_kc a0 = 8), lp55 a0 v2 o3 v4 v5 v6 σ = some (r, τ) → om_J x 55 [(0, vR (some a0)), (2, vI v2), (3, vR o3), (4, vI v4), (5, vI v5), (6, vI v6)] [] σ om_rf om_N 0 0) {a0 : Nat} {v2 : Int32} {a3 : Nat} {v6 : Int32} {v7 : Int32} {σ : om_S} (ka0 : om_kc a0 = 8) (ka3 : om_kc a3 = 1) (h : f_X8_mixes_b94 lp55 a0 v2 a3 v6 v7 σ = some (r, τ)) : om_J x 94 [(0, vR (some a0)), (2, vI v2), (3, vR (some a3)), (6, vI v6), (7, vI v7)] [] σ om_rf om_N 0 0 := by
  unfold f_X8_mixes_b94 at h
  refine om_iload O 3 dX8_mixes_94 rfl ?_
  refine om_istore O (lv' := [(0, vR (some a0)), (2, vI v2), (3, vR (some a3)), (4, vI v6), (6, vI v6), (7, vI v7)]) [1, 2, 3, 0, 4, 5] rfl dX8_mixes_96 (by decide) rfl ?_
  refine om_iload O 5 dX8_mixes_98 rfl ?_
  refine om_istore O (lv' := [(0, vR (some a0)), (2, vI v2), (3, vR (some a3)), (4, vI v6), (5, vI v7), (6, vI v6)]) [1, 2, 3, 4, 0, 5] rfl dX8_mixes_100 (by decide) rfl ?_
  exact g_X8_mixes_b102 O hE L55 ka0 ka3 h
def f_X8_mixes_b55  : Nat → Nat → Int32 → Option Nat → Int32 → Int32 → Int32 → om_S → Option (Int32 × om_S)
  | 0, _, _, _, _, _, _, _ => none
  | F + 1, a0, v2, o3, v4, v5, v6, σ => if (15 : Int32) < v6 then (f_X8_mixes_b108 v2 v4 v5 σ) else (om_nul o3 1 (f_X8_mixes_b108 v2 v4 v5 σ) fun (t1o : Nat) => om_let (om_w σ t1o 2 v6) fun (σ1o : om_S) => om_ref (om_rf a0 2) 6 fun (t2o : Nat) => om_call (f_X6_gives t2o t1o σ1o) fun (r1o : Int32) (σ2o : om_S) => if v4 = 0 then (f_X8_mixes_b94 (f_X8_mixes_b55 F) a0 v2 t1o v6 r1o σ2o) else (if r1o ≤ v5 then (f_X8_mixes_b102 (f_X8_mixes_b55 F) a0 v2 t1o v4 v5 v6 σ2o) else (f_X8_mixes_b94 (f_X8_mixes_b55 F) a0 v2 t1o v6 r1o σ2o)))
set_option maxRecDepth 100000 in
theorem g_X8_mixes_b55 {x : om_X}   (O : om_Ok x RX8 "mixes" cX8_mixes 8 (some FieldType.int) 4 0 0)   {r : Int32} {τ : om_S} (hE : om_End x (some (vI r)) τ om_rf om_N 0 0)   : ∀ (F : Nat) (a0 : Nat) (v2 : Int32) (o3 : Option Nat) (v4 : Int32) (v5 : Int32) (v6 : Int32) (σ : om_S) (ka0 : om_kc a0 = 8), f_X8_mixes_b55 F a0 v2 o3 v4 v5 v6 σ = some (r, τ) → om_J x 55 [(0, vR (some a0)), (2, vI v2), (3, vR o3), (4, vI v4), (5, vI v5), (6, vI v6)] [] σ om_rf om_N 0 0 := by
  intro F
  induction F with
  | zero =>
    intro a0 v2 o3 v4 v5 v6 σ ka0 h
    cases h
  | succ F ih =>
    intro a0 v2 o3 v4 v5 v6 σ ka0 h
    unfold f_X8_mixes_b55 at h
    refine om_iload O 5 dX8_mixes_55 rfl ?_
    refine om_bipush O (v := 15) dX8_mixes_57 (by decide) ?_
    refine om_icmp_gt O (tgt := 108) dX8_mixes_59 (by decide) (fun c1o => ?_) (fun c1o => ?_)
    · replace h := (if_pos c1o).symm.trans h
      refine om_drop (lv' := [(2, vI v2), (4, vI v4), (5, vI v5)]) [1, 3, 4] rfl ?_
      exact g_X8_mixes_b108 O hE h
    · replace h := (if_neg c1o).symm.trans h
      refine om_aload_n O 2 dX8_mixes_62 rfl rfl ?_
      revert h; refine om_nulR (fun yy h => ?_) (fun t1o yy k1o h => ?_)
      · subst yy
        refine om_ifnullN O (tgt := 108) dX8_mixes_63 (by decide) ?_
        refine om_drop (lv' := [(2, vI v2), (4, vI v4), (5, vI v5)]) [1, 3, 4] rfl ?_
        exact g_X8_mixes_b108 O hE h
      · subst yy
        refine om_ifnullS O dX8_mixes_63 ?_
        refine om_aload_n O 2 dX8_mixes_66 rfl rfl ?_
        refine om_iload O 5 dX8_mixes_67 rfl ?_
        revert h; refine om_letR (fun σ1o e1o h => ?_)
        refine pf_X8_108 O (Or.inl rfl) k1o (om_lt k1o (by decide)) dX8_mixes_69 e1o ?_
        refine om_aload_n O 0 dX8_mixes_72 rfl rfl ?_
        revert h; refine om_refR (fun t2o y1o k2o h => ?_)
        refine gf_X8_19 O ka0 (om_lt ka0 (by decide)) dX8_mixes_73 ?_
        rw [y1o]
        refine om_aload_n O 2 dX8_mixes_76 rfl rfl ?_
        revert h; refine om_callR (fun r1o σ2o g1o h => ?_)
        refine cl_X8_210 O (st := []) (stk := [vR (some t1o), vR (some t2o)]) (st2 := [vI r1o]) [vR (some t1o)] (fun l G => c_X6_gives l G g1o) k2o (om_lt k2o (by decide)) (by decide) rfl rfl rfl_le rfl rfl_le rfl_le dX8_mixes_77 ?_
        refine om_istore O (lv' := [(0, vR (some a0)), (2, vI v2), (3, vR (some t1o)), (4, vI v4), (5, vI v5), (6, vI v6), (7, vI r1o)]) [1, 2, 3, 4, 5, 6, 0] rfl dX8_mixes_80 (by decide) rfl ?_
        refine om_iload O 3 dX8_mixes_82 rfl ?_
        refine om_if_eq O (tgt := 94) dX8_mixes_84 (by decide) (fun c2o => ?_) (fun c2o => ?_)
        · replace h := (if_pos c2o).symm.trans h
          refine om_drop (lv' := [(0, vR (some a0)), (2, vI v2), (3, vR (some t1o)), (6, vI v6), (7, vI r1o)]) [0, 1, 2, 5, 6] rfl ?_
          exact g_X8_mixes_b94 O hE ih ka0 k1o h
        · replace h := (if_neg c2o).symm.trans h
          refine om_iload O 6 dX8_mixes_87 rfl ?_
          refine om_iload O 4 dX8_mixes_89 rfl ?_
          refine om_icmp_le O (tgt := 102) dX8_mixes_91 (by decide) (fun c3o => ?_) (fun c3o => ?_)
          · replace h := (if_pos c3o).symm.trans h
            refine om_drop (lv' := [(0, vR (some a0)), (2, vI v2), (3, vR (some t1o)), (4, vI v4), (5, vI v5), (6, vI v6)]) [0, 1, 2, 3, 4, 5] rfl ?_
            exact g_X8_mixes_b102 O hE ih ka0 k1o h
          · replace h := (if_neg c3o).symm.trans h
            refine om_drop (lv' := [(0, vR (some a0)), (2, vI v2), (3, vR (some t1o)), (6, vI v6), (7, vI r1o)]) [0, 1, 2, 5, 6] rfl ?_
            exact g_X8_mixes_b94 O hE ih ka0 k1o h
def f_X8_mixes  (a0 : Nat) (v1 : Int32) (v2 : Int32) (σ : om_S) : Option (Int32 × om_S) := if om_kc a0 = 8 then om_ref (om_rf a0 0) 6 fun (t1o : Nat) => om_call (f_X6_at t1o v1 σ) fun (r1o : Option Nat) (σ1o : om_S) => om_nul r1o 1 (f_X8_mixes_b20 a0 σ1o) fun (t2o : Nat) => om_call (f_X8_isWithin v2 (0 : Int32) (1 : Int32) σ1o) fun (r2o : Int32) (σ2o : om_S) => if r2o = 0 then (f_X8_mixes_b20 a0 σ2o) else (om_ref (om_rf a0 2) 6 fun (t3o : Nat) => om_ref (om_rf a0 0) 6 fun (t4o : Nat) => om_do (f_X6_copyFrom t3o t4o σ2o) fun (σ3o : om_S) => om_ref (om_rf a0 2) 6 fun (t5o : Nat) => om_call (f_X6_at t5o v1 σ3o) fun (r3o : Option Nat) (σ4o : om_S) => f_X8_mixes_b55 om_F a0 v2 r3o (0 : Int32) (0 : Int32) (1 : Int32) σ4o) else none
set_option maxRecDepth 100000 in
theorem c_X8_mixes (l : Launch) (G : om_G) {a0 : Nat} {v1 : Int32} {v2 : Int32} {σ : om_S} {r : Int32} {τ : om_S} (h : f_X8_mixes a0 v1 v2 σ = some (r, τ)) : om_D l G 4 yX8_mixes cX8_mixes 8 (some FieldType.int) 0 0 [vR (some a0), vI v1, vI v2] σ om_rf om_N (some (vI r)) τ om_rf om_N := by
  refine om_Dof (lv := [(0, vR (some a0)), (1, vI v1), (2, vI v2)]) (by decide) rfl_le rfl (fun x O hE => ?_)
  change om_Ok x RX8 "mixes" cX8_mixes 8 (some FieldType.int) 4 0 0 at O
  unfold f_X8_mixes at h
  revert h; refine om_iteR (fun ka0 h => ?_)
  refine om_aload_n O 0 dX8_mixes_0 rfl rfl ?_
  revert h; refine om_refR (fun t1o y1o k1o h => ?_)
  refine gf_X8_10 O ka0 (om_lt ka0 (by decide)) dX8_mixes_1 ?_
  rw [y1o]
  refine om_iload_n O 1 dX8_mixes_4 rfl rfl ?_
  revert h; refine om_callR (fun r1o σ1o g1o h => ?_)
  refine cl_X8_96 O (st := []) (stk := [vI v1, vR (some t1o)]) (st2 := [vR r1o]) [vI v1] (fun l G => c_X6_at l G g1o) k1o (om_lt k1o (by decide)) (by decide) rfl rfl rfl_le rfl rfl_le rfl_le dX8_mixes_5 ?_
  revert h; refine om_nulR (fun yy h => ?_) (fun t2o yy k2o h => ?_)
  · subst yy
    refine om_ifnullN O (tgt := 20) dX8_mixes_8 (by decide) ?_
    refine om_drop (lv' := [(0, vR (some a0))]) [0] rfl ?_
    exact g_X8_mixes_b20 O hE ka0 h
  · subst yy
    refine om_ifnullS O dX8_mixes_8 ?_
    refine om_iload_n O 2 dX8_mixes_11 rfl rfl ?_
    refine om_iconst O (v := 0) dX8_mixes_12 (by decide) ?_
    refine om_iconst O (v := 1) dX8_mixes_13 (by decide) ?_
    revert h; refine om_callR (fun r2o σ2o g2o h => ?_)
    refine cl_X8_80 O (st := []) (stk := [vI (1 : Int32), vI (0 : Int32), vI v2]) (st2 := [vI r2o]) [vI v2, vI (0 : Int32), vI (1 : Int32)] (fun l G => c_X8_isWithin l G g2o) (by decide) rfl rfl rfl_le rfl rfl_le rfl_le dX8_mixes_14 ?_
    refine om_if_ne O (tgt := 26) dX8_mixes_17 (by decide) (fun c1o => ?_) (fun c1o => ?_)
    · replace h := (if_pos c1o).symm.trans h
      refine om_drop (lv' := [(0, vR (some a0))]) [0] rfl ?_
      exact g_X8_mixes_b20 O hE ka0 h
    · replace h := (if_neg c1o).symm.trans h
      refine om_aload_n O 0 dX8_mixes_26 rfl rfl ?_
      revert h; refine om_refR (fun t3o y2o k3o h => ?_)
      refine gf_X8_19 O ka0 (om_lt ka0 (by decide)) dX8_mixes_27 ?_
      rw [y2o]
      refine om_aload_n O 0 dX8_mixes_30 rfl rfl ?_
      revert h; refine om_refR (fun t4o y3o k4o h => ?_)
      refine gf_X8_10 O ka0 (om_lt ka0 (by decide)) dX8_mixes_31 ?_
      rw [y3o]
      revert h; refine om_doR (fun σ3o g3o h => ?_)
      refine cl_X8_199 O (st := []) (stk := [vR (some t4o), vR (some t3o)]) (st2 := []) [vR (some t4o)] (fun l G => c_X6_copyFrom l G g3o) k3o (om_lt k3o (by decide)) (by decide) rfl rfl rfl_le rfl rfl_le rfl_le dX8_mixes_34 ?_
      refine om_aload_n O 0 dX8_mixes_37 rfl rfl ?_
      revert h; refine om_refR (fun t5o y4o k5o h => ?_)
      refine gf_X8_19 O ka0 (om_lt ka0 (by decide)) dX8_mixes_38 ?_
      rw [y4o]
      refine om_iload_n O 1 dX8_mixes_41 rfl rfl ?_
      revert h; refine om_callR (fun r3o σ4o g4o h => ?_)
      refine cl_X8_96 O (st := []) (stk := [vI v1, vR (some t5o)]) (st2 := [vR r3o]) [vI v1] (fun l G => c_X6_at l G g4o) k5o (om_lt k5o (by decide)) (by decide) rfl rfl rfl_le rfl rfl_le rfl_le dX8_mixes_42 ?_
      refine om_astore_n O (lv' := [(0, vR (some a0)), (2, vI v2), (3, vR r3o)]) [1, 3, 0] dX8_mixes_45 rfl (by decide) rfl ?_
      refine om_iconst O (v := 0) dX8_mixes_46 (by decide) ?_
      refine om_istore O (lv' := [(0, vR (some a0)), (2, vI v2), (3, vR r3o), (4, vI (0 : Int32))]) [1, 2, 3, 0] rfl dX8_mixes_47 (by decide) rfl ?_
      refine om_iconst O (v := 0) dX8_mixes_49 (by decide) ?_
      refine om_istore O (lv' := [(0, vR (some a0)), (2, vI v2), (3, vR r3o), (4, vI (0 : Int32)), (5, vI (0 : Int32))]) [1, 2, 3, 4, 0] rfl dX8_mixes_50 (by decide) rfl ?_
      refine om_iconst O (v := 1) dX8_mixes_52 (by decide) ?_
      refine om_istore O (lv' := [(0, vR (some a0)), (2, vI v2), (3, vR r3o), (4, vI (0 : Int32)), (5, vI (0 : Int32)), (6, vI (1 : Int32))]) [1, 2, 3, 4, 5, 0] rfl dX8_mixes_53 (by decide) rfl ?_
      exact g_X8_mixes_b55 O hE om_F _ _ _ _ _ _ _ ka0 h
def f_X8_inLowestTerms_b24 (lp3 : Int32 → Int32 → Int32 → om_S → Option (Int32 × om_S)) (v0 : Int32) (v1 : Int32) (v2 : Int32) (σ : om_S) : Option (Int32 × om_S) := lp3 v0 v1 (v2 + (-1)) σ
set_option maxRecDepth 100000 in
theorem g_X8_inLowestTerms_b24 {x : om_X}   (O : om_Ok x RX8 "inLowestTerms" cX8_inLowestTerms 3 (some FieldType.int) 0 0 0)   {r : Int32} {τ : om_S} (hE : om_End x (some (vI r)) τ om_rf om_N 0 0) {lp3 : Int32 → Int32 → Int32 → om_S → Option (Int32 × om_S)} (L3 : ∀ (v0 : Int32) (v1 : Int32) (v2 : Int32) (σ : om_S) , lp3 v0 v1 v2 σ = some (r, τ) → om_J x 3 [(0, vI v0), (1, vI v1), (2, vI v2)] [] σ om_rf om_N 0 0) {v0 : Int32} {v1 : Int32} {v2 : Int32} {σ : om_S}  (h : f_X8_inLowestTerms_b24 lp3 v0 v1 v2 σ = some (r, τ)) : om_J x 24 [(0, vI v0), (1, vI v1), (2, vI v2)] [] σ om_rf om_N 0 0 := by
  unfold f_X8_inLowestTerms_b24 at h
  refine om_iinc O (v1 := (v2 + (-1))) (lv' := [(0, vI v0), (1, vI v1), (2, vI (v2 + (-1)))]) 2 [1, 2, 0] rfl dX8_inLowestTerms_24 rfl (congrArg (fun y => v2 + y) (by decide)) (by decide) rfl ?_
  refine om_goto O (tgt := 3) dX8_inLowestTerms_27 (by decide) ?_
  exact L3 _ _ _ _ h
def f_X8_inLowestTerms_b3  : Nat → Int32 → Int32 → Int32 → om_S → Option (Int32 × om_S)
  | 0, _, _, _, _ => none
  | F + 1, v0, v1, v2, σ => if v2 ≤ (1 : Int32) then (some (v0, σ)) else (if ¬ v2 = 0 then if (v0 - v0 / v2 * v2) = 0 then (if ¬ v2 = 0 then if (v1 - v1 / v2 * v2) = 0 then (if ¬ v2 = 0 then some ((v0 / v2), σ) else none) else (f_X8_inLowestTerms_b24 (f_X8_inLowestTerms_b3 F) v0 v1 v2 σ) else none) else (f_X8_inLowestTerms_b24 (f_X8_inLowestTerms_b3 F) v0 v1 v2 σ) else none)
set_option maxRecDepth 100000 in
theorem g_X8_inLowestTerms_b3 {x : om_X}   (O : om_Ok x RX8 "inLowestTerms" cX8_inLowestTerms 3 (some FieldType.int) 0 0 0)   {r : Int32} {τ : om_S} (hE : om_End x (some (vI r)) τ om_rf om_N 0 0)   : ∀ (F : Nat) (v0 : Int32) (v1 : Int32) (v2 : Int32) (σ : om_S) , f_X8_inLowestTerms_b3 F v0 v1 v2 σ = some (r, τ) → om_J x 3 [(0, vI v0), (1, vI v1), (2, vI v2)] [] σ om_rf om_N 0 0 := by
  intro F
  induction F with
  | zero =>
    intro v0 v1 v2 σ  h
    cases h
  | succ F ih =>
    intro v0 v1 v2 σ  h
    unfold f_X8_inLowestTerms_b3 at h
    refine om_iload_n O 2 dX8_inLowestTerms_3 rfl rfl ?_
    refine om_iconst O (v := 1) dX8_inLowestTerms_4 (by decide) ?_
    refine om_icmp_le O (tgt := 30) dX8_inLowestTerms_5 (by decide) (fun c1o => ?_) (fun c1o => ?_)
    · replace h := (if_pos c1o).symm.trans h
      refine om_iload_n O 0 dX8_inLowestTerms_30 rfl rfl ?_
      exact om_iret (st := []) O (om_eI hE h) rfl dX8_inLowestTerms_31
    · replace h := (if_neg c1o).symm.trans h
      refine om_iload_n O 0 dX8_inLowestTerms_8 rfl rfl ?_
      refine om_iload_n O 2 dX8_inLowestTerms_9 rfl rfl ?_
      revert h; refine om_iteR (fun z1o h => ?_)
      refine om_irem O dX8_inLowestTerms_10 z1o ?_
      refine om_if_ne O (tgt := 24) dX8_inLowestTerms_11 (by decide) (fun c2o => ?_) (fun c2o => ?_)
      · replace h := (if_pos c2o).symm.trans h
        refine om_iload_n O 1 dX8_inLowestTerms_14 rfl rfl ?_
        refine om_iload_n O 2 dX8_inLowestTerms_15 rfl rfl ?_
        revert h; refine om_iteR (fun z2o h => ?_)
        refine om_irem O dX8_inLowestTerms_16 z2o ?_
        refine om_if_ne O (tgt := 24) dX8_inLowestTerms_17 (by decide) (fun c3o => ?_) (fun c3o => ?_)
        · replace h := (if_pos c3o).symm.trans h
          refine om_iload_n O 0 dX8_inLowestTerms_20 rfl rfl ?_
          refine om_iload_n O 2 dX8_inLowestTerms_21 rfl rfl ?_
          revert h; refine om_iteR (fun z3o h => ?_)
          refine om_idiv O dX8_inLowestTerms_22 z3o ?_
          exact om_iret (st := []) O (om_eI hE h) rfl dX8_inLowestTerms_23
        · replace h := (if_neg c3o).symm.trans h
          exact g_X8_inLowestTerms_b24 O hE ih h
      · replace h := (if_neg c2o).symm.trans h
        exact g_X8_inLowestTerms_b24 O hE ih h
def f_X8_inLowestTerms  (v0 : Int32) (v1 : Int32) (σ : om_S) : Option (Int32 × om_S) := f_X8_inLowestTerms_b3 om_F v0 v1 (10 : Int32) σ
set_option maxRecDepth 100000 in
theorem c_X8_inLowestTerms (l : Launch) (G : om_G) {v0 : Int32} {v1 : Int32} {σ : om_S} {r : Int32} {τ : om_S} (h : f_X8_inLowestTerms v0 v1 σ = some (r, τ)) : om_D l G 0 yX8_inLowestTerms cX8_inLowestTerms 3 (some FieldType.int) 0 0 [vI v0, vI v1] σ om_rf om_N (some (vI r)) τ om_rf om_N := by
  refine om_Dof (lv := [(0, vI v0), (1, vI v1)]) (by decide) rfl_le rfl (fun x O hE => ?_)
  change om_Ok x RX8 "inLowestTerms" cX8_inLowestTerms 3 (some FieldType.int) 0 0 0 at O
  unfold f_X8_inLowestTerms at h
  refine om_bipush O (v := 10) dX8_inLowestTerms_0 (by decide) ?_
  refine om_istore_n O (lv' := [(0, vI v0), (1, vI v1), (2, vI (10 : Int32))]) [1, 2, 0] rfl dX8_inLowestTerms_2 rfl (by decide) rfl ?_
  exact g_X8_inLowestTerms_b3 O hE om_F _ _ _ _ h
def f_X8_odds_b62 (lp30 : Nat → Int32 → Int32 → Int32 → om_S → Option (Int32 × om_S)) (a0 : Nat) (v1 : Int32) (v2 : Int32) (v3 : Int32) (σ : om_S) : Option (Int32 × om_S) := lp30 a0 v1 v2 (v3 + 1) σ
set_option maxRecDepth 100000 in
theorem g_X8_odds_b62 {x : om_X}   (O : om_Ok x RX8 "odds" cX8_odds 4 (some FieldType.int) 5 0 0)   {r : Int32} {τ : om_S} (hE : om_End x (some (vI r)) τ om_rf om_N 0 0) {lp30 : Nat → Int32 → Int32 → Int32 → om_S → Option (Int32 × om_S)} (L30 : ∀ (a0 : Nat) (v1 : Int32) (v2 : Int32) (v3 : Int32) (σ : om_S) (ka0 : om_kc a0 = 8), lp30 a0 v1 v2 v3 σ = some (r, τ) → om_J x 30 [(0, vR (some a0)), (1, vI v1), (2, vI v2), (3, vI v3)] [] σ om_rf om_N 0 0) {a0 : Nat} {v1 : Int32} {v2 : Int32} {v3 : Int32} {σ : om_S} (ka0 : om_kc a0 = 8) (h : f_X8_odds_b62 lp30 a0 v1 v2 v3 σ = some (r, τ)) : om_J x 62 [(0, vR (some a0)), (1, vI v1), (2, vI v2), (3, vI v3)] [] σ om_rf om_N 0 0 := by
  unfold f_X8_odds_b62 at h
  refine om_iinc O (v1 := (v3 + 1)) (lv' := [(0, vR (some a0)), (1, vI v1), (2, vI v2), (3, vI (v3 + 1))]) 3 [1, 2, 3, 0] rfl dX8_odds_62 rfl rfl (by decide) rfl ?_
  refine om_goto O (tgt := 30) dX8_odds_65 (by decide) ?_
  exact L30 _ _ _ _ _ ka0 h
def f_X8_odds_b30  : Nat → Nat → Int32 → Int32 → Int32 → om_S → Option (Int32 × om_S)
  | 0, _, _, _, _, _ => none
  | F + 1, a0, v1, v2, v3, σ => if (9 : Int32) < v3 then (if v1 = 0 then (om_call (f_X8_inLowestTerms v2 (10 : Int32) σ) fun (r1o : Int32) (σ1o : om_S) => some (r1o, σ1o)) else (om_call (f_X8_inLowestTerms (10 : Int32) v2 σ) fun (r2o : Int32) (σ2o : om_S) => some (r2o, σ2o))) else (om_ref (om_rf a0 2) 6 fun (t1o : Nat) => om_let (om_w σ t1o 4 v3) fun (σ3o : om_S) => om_ref (om_rf a0 3) 0 fun (t2o : Nat) => om_ref (om_rf a0 2) 6 fun (t3o : Nat) => om_call (f_X0_find t2o t3o (-1 : Int32) σ3o) fun (r3o : Int32) (σ4o : om_S) => if r3o = 0 then (f_X8_odds_b62 (f_X8_odds_b30 F) a0 v1 v2 v3 σ4o) else (f_X8_odds_b62 (f_X8_odds_b30 F) a0 v1 (v2 + 1) v3 σ4o))
set_option maxRecDepth 100000 in
theorem g_X8_odds_b30 {x : om_X}   (O : om_Ok x RX8 "odds" cX8_odds 4 (some FieldType.int) 5 0 0)   {r : Int32} {τ : om_S} (hE : om_End x (some (vI r)) τ om_rf om_N 0 0)   : ∀ (F : Nat) (a0 : Nat) (v1 : Int32) (v2 : Int32) (v3 : Int32) (σ : om_S) (ka0 : om_kc a0 = 8), f_X8_odds_b30 F a0 v1 v2 v3 σ = some (r, τ) → om_J x 30 [(0, vR (some a0)), (1, vI v1), (2, vI v2), (3, vI v3)] [] σ om_rf om_N 0 0 := by
  intro F
  induction F with
  | zero =>
    intro a0 v1 v2 v3 σ ka0 h
    cases h
  | succ F ih =>
    intro a0 v1 v2 v3 σ ka0 h
    unfold f_X8_odds_b30 at h
    refine om_iload_n O 3 dX8_odds_30 rfl rfl ?_
    refine om_bipush O (v := 9) dX8_odds_31 (by decide) ?_
    refine om_icmp_gt O (tgt := 68) dX8_odds_33 (by decide) (fun c1o => ?_) (fun c1o => ?_)
    · replace h := (if_pos c1o).symm.trans h
      refine om_iload_n O 1 dX8_odds_68 rfl rfl ?_
      refine om_if_ne O (tgt := 81) dX8_odds_69 (by decide) (fun c2o => ?_) (fun c2o => ?_)
      · replace h := (if_pos c2o).symm.trans h
        refine om_iload_n O 2 dX8_odds_72 rfl rfl ?_
        refine om_bipush O (v := 10) dX8_odds_73 (by decide) ?_
        revert h; refine om_callR (fun r1o σ1o g1o h => ?_)
        refine cl_X8_212 O (st := []) (stk := [vI (10 : Int32), vI v2]) (st2 := [vI r1o]) [vI v2, vI (10 : Int32)] (fun l G => c_X8_inLowestTerms l G g1o) (by decide) rfl rfl rfl_le rfl rfl_le rfl_le dX8_odds_75 ?_
        refine om_goto O (tgt := 87) dX8_odds_78 (by decide) ?_
        exact om_iret (st := []) O (om_eI hE h) rfl dX8_odds_87
      · replace h := (if_neg c2o).symm.trans h
        refine om_bipush O (v := 10) dX8_odds_81 (by decide) ?_
        refine om_iload_n O 2 dX8_odds_83 rfl rfl ?_
        revert h; refine om_callR (fun r2o σ2o g2o h => ?_)
        refine cl_X8_212 O (st := []) (stk := [vI v2, vI (10 : Int32)]) (st2 := [vI r2o]) [vI (10 : Int32), vI v2] (fun l G => c_X8_inLowestTerms l G g2o) (by decide) rfl rfl rfl_le rfl rfl_le rfl_le dX8_odds_84 ?_
        exact om_iret (st := []) O (om_eI hE h) rfl dX8_odds_87
    · replace h := (if_neg c1o).symm.trans h
      refine om_aload_n O 0 dX8_odds_36 rfl rfl ?_
      revert h; refine om_refR (fun t1o y1o k1o h => ?_)
      refine gf_X8_19 O ka0 (om_lt ka0 (by decide)) dX8_odds_37 ?_
      rw [y1o]
      refine om_iload_n O 3 dX8_odds_40 rfl rfl ?_
      revert h; refine om_letR (fun σ3o e1o h => ?_)
      refine pf_X8_121 O (Or.inl rfl) k1o (om_lt k1o (by decide)) dX8_odds_41 e1o ?_
      refine om_aload_n O 0 dX8_odds_44 rfl rfl ?_
      revert h; refine om_refR (fun t2o y2o k2o h => ?_)
      refine gf_X8_25 O ka0 (om_lt ka0 (by decide)) dX8_odds_45 ?_
      rw [y2o]
      refine om_aload_n O 0 dX8_odds_48 rfl rfl ?_
      revert h; refine om_refR (fun t3o y3o k3o h => ?_)
      refine gf_X8_19 O ka0 (om_lt ka0 (by decide)) dX8_odds_49 ?_
      rw [y3o]
      refine om_iconst O (v := -1) dX8_odds_52 (by decide) ?_
      revert h; refine om_callR (fun r3o σ4o g3o h => ?_)
      refine cl_X8_183 O (st := []) (stk := [vI (-1 : Int32), vR (some t3o), vR (some t2o)]) (st2 := [vI r3o]) [vR (some t3o), vI (-1 : Int32)] (fun l G => c_X0_find l G g3o) k2o (om_lt k2o (by decide)) (by decide) rfl rfl rfl_le rfl rfl_le rfl_le dX8_odds_53 ?_
      refine om_if_eq O (tgt := 62) dX8_odds_56 (by decide) (fun c3o => ?_) (fun c3o => ?_)
      · replace h := (if_pos c3o).symm.trans h
        exact g_X8_odds_b62 O hE ih ka0 h
      · replace h := (if_neg c3o).symm.trans h
        refine om_iinc O (v1 := (v2 + 1)) (lv' := [(0, vR (some a0)), (1, vI v1), (2, vI (v2 + 1)), (3, vI v3)]) 2 [1, 2, 0, 3] rfl dX8_odds_59 rfl rfl (by decide) rfl ?_
        exact g_X8_odds_b62 O hE ih ka0 h
def f_X8_odds  (a0 : Nat) (v1 : Int32) (σ : om_S) : Option (Int32 × om_S) := if om_kc a0 = 8 then om_call (f_X8_isWithin v1 (0 : Int32) (1 : Int32) σ) fun (r1o : Int32) (σ1o : om_S) => if r1o = 0 then (om_call (f_X8_refuse a0 (1 : Int32) σ1o) fun (r2o : Int32) (σ2o : om_S) => some (r2o, σ2o)) else (om_ref (om_rf a0 2) 6 fun (t1o : Nat) => om_ref (om_rf a0 0) 6 fun (t2o : Nat) => om_do (f_X6_copyFrom t1o t2o σ1o) fun (σ3o : om_S) => f_X8_odds_b30 om_F a0 v1 (0 : Int32) (0 : Int32) σ3o) else none
set_option maxRecDepth 100000 in
theorem c_X8_odds (l : Launch) (G : om_G) {a0 : Nat} {v1 : Int32} {σ : om_S} {r : Int32} {τ : om_S} (h : f_X8_odds a0 v1 σ = some (r, τ)) : om_D l G 5 yX8_odds cX8_odds 4 (some FieldType.int) 0 0 [vR (some a0), vI v1] σ om_rf om_N (some (vI r)) τ om_rf om_N := by
  refine om_Dof (lv := [(0, vR (some a0)), (1, vI v1)]) (by decide) rfl_le rfl (fun x O hE => ?_)
  change om_Ok x RX8 "odds" cX8_odds 4 (some FieldType.int) 5 0 0 at O
  unfold f_X8_odds at h
  revert h; refine om_iteR (fun ka0 h => ?_)
  refine om_iload_n O 1 dX8_odds_0 rfl rfl ?_
  refine om_iconst O (v := 0) dX8_odds_1 (by decide) ?_
  refine om_iconst O (v := 1) dX8_odds_2 (by decide) ?_
  revert h; refine om_callR (fun r1o σ1o g1o h => ?_)
  refine cl_X8_80 O (st := []) (stk := [vI (1 : Int32), vI (0 : Int32), vI v1]) (st2 := [vI r1o]) [vI v1, vI (0 : Int32), vI (1 : Int32)] (fun l G => c_X8_isWithin l G g1o) (by decide) rfl rfl rfl_le rfl rfl_le rfl_le dX8_odds_3 ?_
  refine om_if_ne O (tgt := 15) dX8_odds_6 (by decide) (fun c1o => ?_) (fun c1o => ?_)
  · replace h := (if_pos c1o).symm.trans h
    refine om_aload_n O 0 dX8_odds_9 rfl rfl ?_
    refine om_iconst O (v := 1) dX8_odds_10 (by decide) ?_
    revert h; refine om_callR (fun r2o σ2o g2o h => ?_)
    refine cl_X8_84 O (st := []) (stk := [vI (1 : Int32), vR (some a0)]) (st2 := [vI r2o]) [vI (1 : Int32)] (fun l G => c_X8_refuse l G g2o) ka0 (om_lt ka0 (by decide)) (by decide) rfl rfl rfl_le rfl rfl_le rfl_le dX8_odds_11 ?_
    exact om_iret (st := []) O (om_eI hE h) rfl dX8_odds_14
  · replace h := (if_neg c1o).symm.trans h
    refine om_aload_n O 0 dX8_odds_15 rfl rfl ?_
    revert h; refine om_refR (fun t1o y1o k1o h => ?_)
    refine gf_X8_19 O ka0 (om_lt ka0 (by decide)) dX8_odds_16 ?_
    rw [y1o]
    refine om_aload_n O 0 dX8_odds_19 rfl rfl ?_
    revert h; refine om_refR (fun t2o y2o k2o h => ?_)
    refine gf_X8_10 O ka0 (om_lt ka0 (by decide)) dX8_odds_20 ?_
    rw [y2o]
    revert h; refine om_doR (fun σ3o g3o h => ?_)
    refine cl_X8_199 O (st := []) (stk := [vR (some t2o), vR (some t1o)]) (st2 := []) [vR (some t2o)] (fun l G => c_X6_copyFrom l G g3o) k1o (om_lt k1o (by decide)) (by decide) rfl rfl rfl_le rfl rfl_le rfl_le dX8_odds_23 ?_
    refine om_iconst O (v := 0) dX8_odds_26 (by decide) ?_
    refine om_istore_n O (lv' := [(0, vR (some a0)), (1, vI v1), (2, vI (0 : Int32))]) [1, 2, 0] rfl dX8_odds_27 rfl (by decide) rfl ?_
    refine om_iconst O (v := 0) dX8_odds_28 (by decide) ?_
    refine om_istore_n O (lv' := [(0, vR (some a0)), (1, vI v1), (2, vI (0 : Int32)), (3, vI (0 : Int32))]) [1, 2, 3, 0] rfl dX8_odds_29 rfl (by decide) rfl ?_
    exact g_X8_odds_b30 O hE om_F _ _ _ _ _ ka0 h
def f_X8_sheetAt  (a0 : Nat) (v1 : Int32) (σ : om_S) : Option (Option Nat × om_S) := if om_kc a0 = 8 then if v1 < 0 then (some (none, σ)) else (om_ref (om_rf a0 10) 22 fun (t1o : Nat) => if (Int32.ofNat (om_al t1o)) ≤ v1 then (some (none, σ)) else (om_ref (om_rf a0 10) 22 fun (t2o : Nat) => if om_in v1 (om_al t2o) then om_ref (om_rf t2o v1.toNatClampNeg) 4 fun (t3o : Nat) => some ((some t3o), σ) else none)) else none
set_option maxRecDepth 100000 in
theorem c_X8_sheetAt (l : Launch) (G : om_G) {a0 : Nat} {v1 : Int32} {σ : om_S} {r : Option Nat} {τ : om_S} (h : f_X8_sheetAt a0 v1 σ = some (r, τ)) : om_D l G 0 yX8_sheetAt cX8_sheetAt 2 (some (FieldType.object "OilMemories$Sheet")) 0 0 [vR (some a0), vI v1] σ om_rf om_N (some (vR r)) τ om_rf om_N := by
  refine om_Dof (lv := [(0, vR (some a0)), (1, vI v1)]) (by decide) rfl_le rfl (fun x O hE => ?_)
  change om_Ok x RX8 "sheetAt" cX8_sheetAt 2 (some (FieldType.object "OilMemories$Sheet")) 0 0 0 at O
  unfold f_X8_sheetAt at h
  revert h; refine om_iteR (fun ka0 h => ?_)
  refine om_iload_n O 1 dX8_sheetAt_0 rfl rfl ?_
  refine om_if_lt O (tgt := 22) dX8_sheetAt_1 (by decide) (fun c1o => ?_) (fun c1o => ?_)
  · replace h := (if_pos c1o).symm.trans h
    refine om_null O dX8_sheetAt_22 ?_
    exact om_aret (st := []) O (om_eR hE h) rfl dX8_sheetAt_23
  · replace h := (if_neg c1o).symm.trans h
    refine om_iload_n O 1 dX8_sheetAt_4 rfl rfl ?_
    refine om_aload_n O 0 dX8_sheetAt_5 rfl rfl ?_
    revert h; refine om_refR (fun t1o y1o k1o h => ?_)
    refine gf_X8_63 O ka0 (om_lt ka0 (by decide)) dX8_sheetAt_6 ?_
    rw [y1o]
    refine om_alenS O k1o (om_lt k1o (by decide)) rfl dX8_sheetAt_9 ?_
    refine om_icmp_ge O (tgt := 22) dX8_sheetAt_10 (by decide) (fun c2o => ?_) (fun c2o => ?_)
    · replace h := (if_pos c2o).symm.trans h
      refine om_null O dX8_sheetAt_22 ?_
      exact om_aret (st := []) O (om_eR hE h) rfl dX8_sheetAt_23
    · replace h := (if_neg c2o).symm.trans h
      refine om_aload_n O 0 dX8_sheetAt_13 rfl rfl ?_
      revert h; refine om_refR (fun t2o y2o k2o h => ?_)
      refine gf_X8_63 O ka0 (om_lt ka0 (by decide)) dX8_sheetAt_14 ?_
      rw [y2o]
      refine om_iload_n O 1 dX8_sheetAt_17 rfl rfl ?_
      revert h; refine om_iteR (fun i1o h => ?_)
      revert h; refine om_refR (fun t3o y3o k3o h => ?_)
      refine om_aaldS O k2o (om_lt k2o (by decide)) i1o dX8_sheetAt_18 ?_
      rw [y3o]
      refine om_goto O (tgt := 23) dX8_sheetAt_19 (by decide) ?_
      exact om_aret (st := []) O (om_eR hE h) rfl dX8_sheetAt_23
def f_X4_isMissing  (a0 : Nat) (σ : om_S) : Option (Int32 × om_S) := if om_kc a0 = 4 then if (σ a0 1) = 0 then (some ((1 : Int32), σ)) else (some ((0 : Int32), σ)) else none
set_option maxRecDepth 100000 in
theorem c_X4_isMissing (l : Launch) (G : om_G) {a0 : Nat} {σ : om_S} {r : Int32} {τ : om_S} (h : f_X4_isMissing a0 σ = some (r, τ)) : om_D l G 0 yX4_isMissing cX4_isMissing 1 (some FieldType.boolean) 0 0 [vR (some a0)] σ om_rf om_N (some (vI r)) τ om_rf om_N := by
  refine om_Dof (lv := [(0, vR (some a0))]) (by decide) rfl_le rfl (fun x O hE => ?_)
  change om_Ok x RX4 "isMissing" cX4_isMissing 1 (some FieldType.boolean) 0 0 0 at O
  unfold f_X4_isMissing at h
  revert h; refine om_iteR (fun ka0 h => ?_)
  refine om_aload_n O 0 dX4_isMissing_0 rfl rfl ?_
  refine gf_X4_15 O ka0 (om_lt ka0 (by decide)) dX4_isMissing_1 ?_
  refine om_if_ne O (tgt := 11) dX4_isMissing_4 (by decide) (fun c1o => ?_) (fun c1o => ?_)
  · replace h := (if_pos c1o).symm.trans h
    refine om_iconst O (v := 1) dX4_isMissing_7 (by decide) ?_
    refine om_goto O (tgt := 12) dX4_isMissing_8 (by decide) ?_
    exact om_zret (st := []) O (Or.inr rfl) (om_eI hE h) rfl dX4_isMissing_12
  · replace h := (if_neg c1o).symm.trans h
    refine om_iconst O (v := 0) dX4_isMissing_11 (by decide) ?_
    exact om_zret (st := []) O (Or.inl rfl) (om_eI hE h) rfl dX4_isMissing_12
def f_X4_has  (a0 : Nat) (v1 : Int32) (σ : om_S) : Option (Int32 × om_S) := if om_kc a0 = 4 then if v1 < 0 then (some ((0 : Int32), σ)) else (if (σ a0 2) ≤ v1 then (some ((0 : Int32), σ)) else (om_ref (om_rf a0 0) 20 fun (t1o : Nat) => if (Int32.ofNat (om_al t1o)) ≤ v1 then (some ((0 : Int32), σ)) else (some ((1 : Int32), σ)))) else none
set_option maxRecDepth 100000 in
theorem c_X4_has (l : Launch) (G : om_G) {a0 : Nat} {v1 : Int32} {σ : om_S} {r : Int32} {τ : om_S} (h : f_X4_has a0 v1 σ = some (r, τ)) : om_D l G 0 yX4_has cX4_has 2 (some FieldType.boolean) 0 0 [vR (some a0), vI v1] σ om_rf om_N (some (vI r)) τ om_rf om_N := by
  refine om_Dof (lv := [(0, vR (some a0)), (1, vI v1)]) (by decide) rfl_le rfl (fun x O hE => ?_)
  change om_Ok x RX4 "has" cX4_has 2 (some FieldType.boolean) 0 0 0 at O
  unfold f_X4_has at h
  revert h; refine om_iteR (fun ka0 h => ?_)
  refine om_iload_n O 1 dX4_has_0 rfl rfl ?_
  refine om_if_lt O (tgt := 25) dX4_has_1 (by decide) (fun c1o => ?_) (fun c1o => ?_)
  · replace h := (if_pos c1o).symm.trans h
    refine om_iconst O (v := 0) dX4_has_25 (by decide) ?_
    exact om_zret (st := []) O (Or.inl rfl) (om_eI hE h) rfl dX4_has_26
  · replace h := (if_neg c1o).symm.trans h
    refine om_iload_n O 1 dX4_has_4 rfl rfl ?_
    refine om_aload_n O 0 dX4_has_5 rfl rfl ?_
    refine gf_X4_19 O ka0 (om_lt ka0 (by decide)) dX4_has_6 ?_
    refine om_icmp_ge O (tgt := 25) dX4_has_9 (by decide) (fun c2o => ?_) (fun c2o => ?_)
    · replace h := (if_pos c2o).symm.trans h
      refine om_iconst O (v := 0) dX4_has_25 (by decide) ?_
      exact om_zret (st := []) O (Or.inl rfl) (om_eI hE h) rfl dX4_has_26
    · replace h := (if_neg c2o).symm.trans h
      refine om_iload_n O 1 dX4_has_12 rfl rfl ?_
      refine om_aload_n O 0 dX4_has_13 rfl rfl ?_
      revert h; refine om_refR (fun t1o y1o k1o h => ?_)
      refine gf_X4_9 O ka0 (om_lt ka0 (by decide)) dX4_has_14 ?_
      rw [y1o]
      refine om_alen O k1o (om_lt k1o (by decide)) rfl dX4_has_17 ?_
      refine om_icmp_ge O (tgt := 25) dX4_has_18 (by decide) (fun c3o => ?_) (fun c3o => ?_)
      · replace h := (if_pos c3o).symm.trans h
        refine om_iconst O (v := 0) dX4_has_25 (by decide) ?_
        exact om_zret (st := []) O (Or.inl rfl) (om_eI hE h) rfl dX4_has_26
      · replace h := (if_neg c3o).symm.trans h
        refine om_iconst O (v := 1) dX4_has_21 (by decide) ?_
        refine om_goto O (tgt := 26) dX4_has_22 (by decide) ?_
        exact om_zret (st := []) O (Or.inr rfl) (om_eI hE h) rfl dX4_has_26
def f_X4_at  (a0 : Nat) (v1 : Int32) (σ : om_S) : Option (Int32 × om_S) := if om_kc a0 = 4 then om_call (f_X4_has a0 v1 σ) fun (r1o : Int32) (σ1o : om_S) => if r1o = 0 then (some ((0 : Int32), σ1o)) else (om_ref (om_rf a0 0) 20 fun (t1o : Nat) => if om_in v1 (om_al t1o) then some ((σ1o t1o v1.toNatClampNeg), σ1o) else none) else none
set_option maxRecDepth 100000 in
theorem c_X4_at (l : Launch) (G : om_G) {a0 : Nat} {v1 : Int32} {σ : om_S} {r : Int32} {τ : om_S} (h : f_X4_at a0 v1 σ = some (r, τ)) : om_D l G 1 yX4_at cX4_at 2 (some FieldType.int) 0 0 [vR (some a0), vI v1] σ om_rf om_N (some (vI r)) τ om_rf om_N := by
  refine om_Dof (lv := [(0, vR (some a0)), (1, vI v1)]) (by decide) rfl_le rfl (fun x O hE => ?_)
  change om_Ok x RX4 "at" cX4_at 2 (some FieldType.int) 1 0 0 at O
  unfold f_X4_at at h
  revert h; refine om_iteR (fun ka0 h => ?_)
  refine om_aload_n O 0 dX4_at_0 rfl rfl ?_
  refine om_iload_n O 1 dX4_at_1 rfl rfl ?_
  revert h; refine om_callR (fun r1o σ1o g1o h => ?_)
  refine cl_X4_22 O (st := []) (stk := [vI v1, vR (some a0)]) (st2 := [vI r1o]) [vI v1] (fun l G => c_X4_has l G g1o) ka0 (om_lt ka0 (by decide)) (by decide) rfl rfl rfl_le rfl rfl_le rfl_le dX4_at_2 ?_
  refine om_if_eq O (tgt := 17) dX4_at_5 (by decide) (fun c1o => ?_) (fun c1o => ?_)
  · replace h := (if_pos c1o).symm.trans h
    refine om_iconst O (v := 0) dX4_at_17 (by decide) ?_
    exact om_iret (st := []) O (om_eI hE h) rfl dX4_at_18
  · replace h := (if_neg c1o).symm.trans h
    refine om_aload_n O 0 dX4_at_8 rfl rfl ?_
    revert h; refine om_refR (fun t1o y1o k1o h => ?_)
    refine gf_X4_9 O ka0 (om_lt ka0 (by decide)) dX4_at_9 ?_
    rw [y1o]
    refine om_iload_n O 1 dX4_at_12 rfl rfl ?_
    revert h; refine om_iteR (fun i1o h => ?_)
    refine om_iald O k1o (om_lt k1o (by decide)) i1o dX4_at_13 ?_
    refine om_goto O (tgt := 18) dX4_at_14 (by decide) ?_
    exact om_iret (st := []) O (om_eI hE h) rfl dX4_at_18
def f_X8_tellsWhatIsLeft_b2  : Nat → Nat → Nat → Int32 → om_S → Option (Int32 × om_S)
  | 0, _, _, _, _ => none
  | F + 1, a0, a1, v2, σ => if (24 : Int32) ≤ v2 then (some ((1 : Int32), σ)) else (om_call (f_X4_has a0 v2 σ) fun (r1o : Int32) (σ1o : om_S) => if r1o = 0 then (some ((1 : Int32), σ1o)) else (om_call (f_X6_at a1 v2 σ1o) fun (r2o : Option Nat) (σ2o : om_S) => om_nul r2o 1 (some ((0 : Int32), σ2o)) fun (t1o : Nat) => om_call (f_X4_at a0 v2 σ2o) fun (r3o : Int32) (σ3o : om_S) => if (σ2o t1o 3) = r3o then ((f_X8_tellsWhatIsLeft_b2 F) a0 a1 (v2 + 1) σ3o) else (some ((0 : Int32), σ3o))))
set_option maxRecDepth 100000 in
theorem g_X8_tellsWhatIsLeft_b2 {x : om_X}   (O : om_Ok x RX8 "tellsWhatIsLeft" cX8_tellsWhatIsLeft 4 (some FieldType.boolean) 2 0 0)   {r : Int32} {τ : om_S} (hE : om_End x (some (vI r)) τ om_rf om_N 0 0)   : ∀ (F : Nat) (a0 : Nat) (a1 : Nat) (v2 : Int32) (σ : om_S) (ka0 : om_kc a0 = 4) (ka1 : om_kc a1 = 6), f_X8_tellsWhatIsLeft_b2 F a0 a1 v2 σ = some (r, τ) → om_J x 2 [(0, vR (some a0)), (1, vR (some a1)), (2, vI v2)] [] σ om_rf om_N 0 0 := by
  intro F
  induction F with
  | zero =>
    intro a0 a1 v2 σ ka0 ka1 h
    cases h
  | succ F ih =>
    intro a0 a1 v2 σ ka0 ka1 h
    unfold f_X8_tellsWhatIsLeft_b2 at h
    refine om_iload_n O 2 dX8_tellsWhatIsLeft_2 rfl rfl ?_
    refine om_bipush O (v := 24) dX8_tellsWhatIsLeft_3 (by decide) ?_
    refine om_icmp_ge O (tgt := 46) dX8_tellsWhatIsLeft_5 (by decide) (fun c1o => ?_) (fun c1o => ?_)
    · replace h := (if_pos c1o).symm.trans h
      refine om_iconst O (v := 1) dX8_tellsWhatIsLeft_46 (by decide) ?_
      exact om_zret (st := []) O (Or.inr rfl) (om_eI hE h) rfl dX8_tellsWhatIsLeft_47
    · replace h := (if_neg c1o).symm.trans h
      refine om_aload_n O 0 dX8_tellsWhatIsLeft_8 rfl rfl ?_
      refine om_iload_n O 2 dX8_tellsWhatIsLeft_9 rfl rfl ?_
      revert h; refine om_callR (fun r1o σ1o g1o h => ?_)
      refine cl_X8_247 O (st := []) (stk := [vI v2, vR (some a0)]) (st2 := [vI r1o]) [vI v2] (fun l G => c_X4_has l G g1o) ka0 (om_lt ka0 (by decide)) (by decide) rfl rfl rfl_le rfl rfl_le rfl_le dX8_tellsWhatIsLeft_10 ?_
      refine om_if_eq O (tgt := 46) dX8_tellsWhatIsLeft_13 (by decide) (fun c2o => ?_) (fun c2o => ?_)
      · replace h := (if_pos c2o).symm.trans h
        refine om_iconst O (v := 1) dX8_tellsWhatIsLeft_46 (by decide) ?_
        exact om_zret (st := []) O (Or.inr rfl) (om_eI hE h) rfl dX8_tellsWhatIsLeft_47
      · replace h := (if_neg c2o).symm.trans h
        refine om_aload_n O 1 dX8_tellsWhatIsLeft_16 rfl rfl ?_
        refine om_iload_n O 2 dX8_tellsWhatIsLeft_17 rfl rfl ?_
        revert h; refine om_callR (fun r2o σ2o g2o h => ?_)
        refine cl_X8_96 O (st := []) (stk := [vI v2, vR (some a1)]) (st2 := [vR r2o]) [vI v2] (fun l G => c_X6_at l G g2o) ka1 (om_lt ka1 (by decide)) (by decide) rfl rfl rfl_le rfl rfl_le rfl_le dX8_tellsWhatIsLeft_18 ?_
        refine om_astore_n O (lv' := [(0, vR (some a0)), (1, vR (some a1)), (2, vI v2), (3, vR r2o)]) [1, 2, 3, 0] dX8_tellsWhatIsLeft_21 rfl (by decide) rfl ?_
        refine om_aload_n O 3 dX8_tellsWhatIsLeft_22 rfl rfl ?_
        revert h; refine om_nulR (fun yy h => ?_) (fun t1o yy k1o h => ?_)
        · subst yy
          refine om_ifnullN O (tgt := 38) dX8_tellsWhatIsLeft_23 (by decide) ?_
          refine om_iconst O (v := 0) dX8_tellsWhatIsLeft_38 (by decide) ?_
          exact om_zret (st := []) O (Or.inl rfl) (om_eI hE h) rfl dX8_tellsWhatIsLeft_39
        · subst yy
          refine om_ifnullS O dX8_tellsWhatIsLeft_23 ?_
          refine om_aload_n O 3 dX8_tellsWhatIsLeft_26 rfl rfl ?_
          refine gf_X8_111 O k1o (om_lt k1o (by decide)) dX8_tellsWhatIsLeft_27 ?_
          refine om_aload_n O 0 dX8_tellsWhatIsLeft_30 rfl rfl ?_
          refine om_iload_n O 2 dX8_tellsWhatIsLeft_31 rfl rfl ?_
          revert h; refine om_callR (fun r3o σ3o g3o h => ?_)
          refine cl_X8_262 O (st := [vI (σ2o t1o 3)]) (stk := [vI v2, vR (some a0), vI (σ2o t1o 3)]) (st2 := [vI r3o, vI (σ2o t1o 3)]) [vI v2] (fun l G => c_X4_at l G g3o) ka0 (om_lt ka0 (by decide)) (by decide) rfl rfl rfl_le rfl rfl_le rfl_le dX8_tellsWhatIsLeft_32 ?_
          refine om_icmp_eq O (tgt := 40) dX8_tellsWhatIsLeft_35 (by decide) (fun c3o => ?_) (fun c3o => ?_)
          · replace h := (if_pos c3o).symm.trans h
            refine om_iinc O (v1 := (v2 + 1)) (lv' := [(0, vR (some a0)), (1, vR (some a1)), (2, vI (v2 + 1))]) 2 [1, 2, 0] rfl dX8_tellsWhatIsLeft_40 rfl rfl (by decide) rfl ?_
            refine om_goto O (tgt := 2) dX8_tellsWhatIsLeft_43 (by decide) ?_
            exact ih _ _ _ _ ka0 ka1 h
          · replace h := (if_neg c3o).symm.trans h
            refine om_iconst O (v := 0) dX8_tellsWhatIsLeft_38 (by decide) ?_
            exact om_zret (st := []) O (Or.inl rfl) (om_eI hE h) rfl dX8_tellsWhatIsLeft_39
def f_X8_tellsWhatIsLeft  (a0 : Nat) (a1 : Nat) (σ : om_S) : Option (Int32 × om_S) := if om_kc a0 = 4 then if om_kc a1 = 6 then f_X8_tellsWhatIsLeft_b2 om_F a0 a1 (0 : Int32) σ else none else none
set_option maxRecDepth 100000 in
theorem c_X8_tellsWhatIsLeft (l : Launch) (G : om_G) {a0 : Nat} {a1 : Nat} {σ : om_S} {r : Int32} {τ : om_S} (h : f_X8_tellsWhatIsLeft a0 a1 σ = some (r, τ)) : om_D l G 2 yX8_tellsWhatIsLeft cX8_tellsWhatIsLeft 4 (some FieldType.boolean) 0 0 [vR (some a0), vR (some a1)] σ om_rf om_N (some (vI r)) τ om_rf om_N := by
  refine om_Dof (lv := [(0, vR (some a0)), (1, vR (some a1))]) (by decide) rfl_le rfl (fun x O hE => ?_)
  change om_Ok x RX8 "tellsWhatIsLeft" cX8_tellsWhatIsLeft 4 (some FieldType.boolean) 2 0 0 at O
  unfold f_X8_tellsWhatIsLeft at h
  revert h; refine om_iteR (fun ka0 h => ?_)
  revert h; refine om_iteR (fun ka1 h => ?_)
  refine om_iconst O (v := 0) dX8_tellsWhatIsLeft_0 (by decide) ?_
  refine om_istore_n O (lv' := [(0, vR (some a0)), (1, vR (some a1)), (2, vI (0 : Int32))]) [1, 2, 0] rfl dX8_tellsWhatIsLeft_1 rfl (by decide) rfl ?_
  exact g_X8_tellsWhatIsLeft_b2 O hE om_F _ _ _ _ ka0 ka1 h
def f_X8_fits_b42  : Nat → Nat → Nat → Int32 → om_S → Option (Int32 × om_S)
  | 0, _, _, _, _ => none
  | F + 1, a0, a2, v3, σ => if (60 : Int32) < v3 then (om_call (f_X8_refuse a0 (2 : Int32) σ) fun (r1o : Int32) (σ1o : om_S) => some (r1o, σ1o)) else (om_ref (om_rf a0 2) 6 fun (t1o : Nat) => om_call (f_X8_tellsWhatIsLeft a2 t1o σ) fun (r2o : Int32) (σ2o : om_S) => if r2o = 0 then (om_ref (om_rf a0 2) 6 fun (t2o : Nat) => om_ref (om_rf a0 3) 0 fun (t3o : Nat) => om_call (f_X6_passNight t2o t3o (-1 : Int32) σ2o) fun (r3o : Int32) (σ3o : om_S) => (f_X8_fits_b42 F) a0 a2 (v3 + 1) σ3o) else (some (v3, σ2o)))
set_option maxRecDepth 100000 in
theorem g_X8_fits_b42 {x : om_X}   (O : om_Ok x RX8 "fits" cX8_fits 4 (some FieldType.int) 6 0 0)   {r : Int32} {τ : om_S} (hE : om_End x (some (vI r)) τ om_rf om_N 0 0)   : ∀ (F : Nat) (a0 : Nat) (a2 : Nat) (v3 : Int32) (σ : om_S) (ka0 : om_kc a0 = 8) (ka2 : om_kc a2 = 4), f_X8_fits_b42 F a0 a2 v3 σ = some (r, τ) → om_J x 42 [(0, vR (some a0)), (2, vR (some a2)), (3, vI v3)] [] σ om_rf om_N 0 0 := by
  intro F
  induction F with
  | zero =>
    intro a0 a2 v3 σ ka0 ka2 h
    cases h
  | succ F ih =>
    intro a0 a2 v3 σ ka0 ka2 h
    unfold f_X8_fits_b42 at h
    refine om_iload_n O 2 dX8_fits_42 rfl rfl ?_
    refine om_bipush O (v := 60) dX8_fits_43 (by decide) ?_
    refine om_icmp_gt O (tgt := 80) dX8_fits_45 (by decide) (fun c1o => ?_) (fun c1o => ?_)
    · replace h := (if_pos c1o).symm.trans h
      refine om_aload_n O 0 dX8_fits_80 rfl rfl ?_
      refine om_iconst O (v := 2) dX8_fits_81 (by decide) ?_
      revert h; refine om_callR (fun r1o σ1o g1o h => ?_)
      refine cl_X8_84 O (st := []) (stk := [vI (2 : Int32), vR (some a0)]) (st2 := [vI r1o]) [vI (2 : Int32)] (fun l G => c_X8_refuse l G g1o) ka0 (om_lt ka0 (by decide)) (by decide) rfl rfl rfl_le rfl rfl_le rfl_le dX8_fits_82 ?_
      exact om_iret (st := []) O (om_eI hE h) rfl dX8_fits_85
    · replace h := (if_neg c1o).symm.trans h
      refine om_aload_n O 1 dX8_fits_48 rfl rfl ?_
      refine om_aload_n O 0 dX8_fits_49 rfl rfl ?_
      revert h; refine om_refR (fun t1o y1o k1o h => ?_)
      refine gf_X8_19 O ka0 (om_lt ka0 (by decide)) dX8_fits_50 ?_
      rw [y1o]
      revert h; refine om_callR (fun r2o σ2o g2o h => ?_)
      refine cl_X8_223 O (st := []) (stk := [vR (some t1o), vR (some a2)]) (st2 := [vI r2o]) [vR (some a2), vR (some t1o)] (fun l G => c_X8_tellsWhatIsLeft l G g2o) (by decide) rfl rfl rfl_le rfl rfl_le rfl_le dX8_fits_53 ?_
      refine om_if_eq O (tgt := 61) dX8_fits_56 (by decide) (fun c2o => ?_) (fun c2o => ?_)
      · replace h := (if_pos c2o).symm.trans h
        refine om_aload_n O 0 dX8_fits_61 rfl rfl ?_
        revert h; refine om_refR (fun t2o y2o k2o h => ?_)
        refine gf_X8_19 O ka0 (om_lt ka0 (by decide)) dX8_fits_62 ?_
        rw [y2o]
        refine om_aload_n O 0 dX8_fits_65 rfl rfl ?_
        revert h; refine om_refR (fun t3o y3o k3o h => ?_)
        refine gf_X8_25 O ka0 (om_lt ka0 (by decide)) dX8_fits_66 ?_
        rw [y3o]
        refine om_iconst O (v := -1) dX8_fits_69 (by decide) ?_
        revert h; refine om_callR (fun r3o σ3o g3o h => ?_)
        refine cl_X8_170 O (st := []) (stk := [vI (-1 : Int32), vR (some t3o), vR (some t2o)]) (st2 := [vI r3o]) [vR (some t3o), vI (-1 : Int32)] (fun l G => c_X6_passNight l G g3o) k2o (om_lt k2o (by decide)) (by decide) rfl rfl rfl_le rfl rfl_le rfl_le dX8_fits_70 ?_
        refine om_pop O rfl dX8_fits_73 ?_
        refine om_iinc O (v1 := (v3 + 1)) (lv' := [(0, vR (some a0)), (2, vR (some a2)), (3, vI (v3 + 1))]) 2 [1, 2, 0] rfl dX8_fits_74 rfl rfl (by decide) rfl ?_
        refine om_goto O (tgt := 42) dX8_fits_77 (by decide) ?_
        exact ih _ _ _ _ ka0 ka2 h
      · replace h := (if_neg c2o).symm.trans h
        refine om_iload_n O 2 dX8_fits_59 rfl rfl ?_
        exact om_iret (st := []) O (om_eI hE h) rfl dX8_fits_60
def f_X8_fits  (a0 : Nat) (v1 : Int32) (σ : om_S) : Option (Int32 × om_S) := if om_kc a0 = 8 then om_call (f_X8_sheetAt a0 v1 σ) fun (r1o : Option Nat) (σ1o : om_S) => om_nul r1o 4 (om_call (f_X8_refuse a0 (1 : Int32) σ1o) fun (r2o : Int32) (σ2o : om_S) => some (r2o, σ2o)) fun (t1o : Nat) => om_call (f_X4_isMissing t1o σ1o) fun (r3o : Int32) (σ3o : om_S) => if r3o = 0 then (om_ref (om_rf a0 2) 6 fun (t2o : Nat) => om_ref (om_rf a0 0) 6 fun (t3o : Nat) => om_do (f_X6_copyFrom t2o t3o σ3o) fun (σ4o : om_S) => f_X8_fits_b42 om_F a0 t1o (0 : Int32) σ4o) else (om_call (f_X8_refuse a0 (2 : Int32) σ3o) fun (r4o : Int32) (σ5o : om_S) => some (r4o, σ5o)) else none
set_option maxRecDepth 100000 in
theorem c_X8_fits (l : Launch) (G : om_G) {a0 : Nat} {v1 : Int32} {σ : om_S} {r : Int32} {τ : om_S} (h : f_X8_fits a0 v1 σ = some (r, τ)) : om_D l G 6 yX8_fits cX8_fits 4 (some FieldType.int) 0 0 [vR (some a0), vI v1] σ om_rf om_N (some (vI r)) τ om_rf om_N := by
  refine om_Dof (lv := [(0, vR (some a0)), (1, vI v1)]) (by decide) rfl_le rfl (fun x O hE => ?_)
  change om_Ok x RX8 "fits" cX8_fits 4 (some FieldType.int) 6 0 0 at O
  unfold f_X8_fits at h
  revert h; refine om_iteR (fun ka0 h => ?_)
  refine om_aload_n O 0 dX8_fits_0 rfl rfl ?_
  refine om_iload_n O 1 dX8_fits_1 rfl rfl ?_
  revert h; refine om_callR (fun r1o σ1o g1o h => ?_)
  refine cl_X8_216 O (st := []) (stk := [vI v1, vR (some a0)]) (st2 := [vR r1o]) [vI v1] (fun l G => c_X8_sheetAt l G g1o) ka0 (om_lt ka0 (by decide)) (by decide) rfl rfl rfl_le rfl rfl_le rfl_le dX8_fits_2 ?_
  refine om_astore_n O (lv' := [(0, vR (some a0)), (2, vR r1o)]) [1, 0] dX8_fits_5 rfl (by decide) rfl ?_
  refine om_aload_n O 1 dX8_fits_6 rfl rfl ?_
  revert h; refine om_nulR (fun yy h => ?_) (fun t1o yy k1o h => ?_)
  · subst yy
    refine om_ifnonnullN O dX8_fits_7 ?_
    refine om_aload_n O 0 dX8_fits_10 rfl rfl ?_
    refine om_iconst O (v := 1) dX8_fits_11 (by decide) ?_
    revert h; refine om_callR (fun r2o σ2o g2o h => ?_)
    refine cl_X8_84 O (st := []) (stk := [vI (1 : Int32), vR (some a0)]) (st2 := [vI r2o]) [vI (1 : Int32)] (fun l G => c_X8_refuse l G g2o) ka0 (om_lt ka0 (by decide)) (by decide) rfl rfl rfl_le rfl rfl_le rfl_le dX8_fits_12 ?_
    exact om_iret (st := []) O (om_eI hE h) rfl dX8_fits_15
  · subst yy
    refine om_ifnonnullS O (tgt := 16) dX8_fits_7 (by decide) ?_
    refine om_aload_n O 1 dX8_fits_16 rfl rfl ?_
    revert h; refine om_callR (fun r3o σ3o g3o h => ?_)
    refine cl_X8_220 O (st := []) (stk := [vR (some t1o)]) (st2 := [vI r3o]) [] (fun l G => c_X4_isMissing l G g3o) k1o (om_lt k1o (by decide)) (by decide) rfl rfl rfl_le rfl rfl_le rfl_le dX8_fits_17 ?_
    refine om_if_eq O (tgt := 29) dX8_fits_20 (by decide) (fun c1o => ?_) (fun c1o => ?_)
    · replace h := (if_pos c1o).symm.trans h
      refine om_aload_n O 0 dX8_fits_29 rfl rfl ?_
      revert h; refine om_refR (fun t2o y1o k2o h => ?_)
      refine gf_X8_19 O ka0 (om_lt ka0 (by decide)) dX8_fits_30 ?_
      rw [y1o]
      refine om_aload_n O 0 dX8_fits_33 rfl rfl ?_
      revert h; refine om_refR (fun t3o y2o k3o h => ?_)
      refine gf_X8_10 O ka0 (om_lt ka0 (by decide)) dX8_fits_34 ?_
      rw [y2o]
      revert h; refine om_doR (fun σ4o g4o h => ?_)
      refine cl_X8_199 O (st := []) (stk := [vR (some t3o), vR (some t2o)]) (st2 := []) [vR (some t3o)] (fun l G => c_X6_copyFrom l G g4o) k2o (om_lt k2o (by decide)) (by decide) rfl rfl rfl_le rfl rfl_le rfl_le dX8_fits_37 ?_
      refine om_iconst O (v := 0) dX8_fits_40 (by decide) ?_
      refine om_istore_n O (lv' := [(0, vR (some a0)), (2, vR (some t1o)), (3, vI (0 : Int32))]) [1, 2, 0] rfl dX8_fits_41 rfl (by decide) rfl ?_
      exact g_X8_fits_b42 O hE om_F _ _ _ _ ka0 k1o h
    · replace h := (if_neg c1o).symm.trans h
      refine om_aload_n O 0 dX8_fits_23 rfl rfl ?_
      refine om_iconst O (v := 2) dX8_fits_24 (by decide) ?_
      revert h; refine om_callR (fun r4o σ5o g5o h => ?_)
      refine cl_X8_84 O (st := []) (stk := [vI (2 : Int32), vR (some a0)]) (st2 := [vI r4o]) [vI (2 : Int32)] (fun l G => c_X8_refuse l G g5o) ka0 (om_lt ka0 (by decide)) (by decide) rfl rfl rfl_le rfl rfl_le rfl_le dX8_fits_25 ?_
      exact om_iret (st := []) O (om_eI hE h) rfl dX8_fits_28
def f_X7_glow  (a0 : Nat) (v1 : Int32) (σ : om_S) : Option (Int32 × om_S) := if om_kc a0 = 7 then if (σ a0 1) = 1 then (om_ref (om_rf a0 0) 3 fun (t1o : Nat) => om_call (f_X3_add t1o (20 : Int32) σ) fun (r1o : Int32) (σ1o : om_S) => om_ref (om_rf a0 0) 3 fun (t2o : Nat) => om_call (f_X3_add t2o (10 : Int32) σ1o) fun (r2o : Int32) (σ2o : om_S) => some (((v1 + (σ2o a0 3)) - (4 : Int32)), σ2o)) else (if (σ a0 1) = 4 then (om_ref (om_rf a0 0) 3 fun (t3o : Nat) => om_call (f_X3_add t3o (50 : Int32) σ) fun (r3o : Int32) (σ3o : om_S) => om_ref (om_rf a0 0) 3 fun (t4o : Nat) => om_call (f_X3_add t4o (20 : Int32) σ3o) fun (r4o : Int32) (σ4o : om_S) => om_ref (om_rf a0 0) 3 fun (t5o : Nat) => om_call (f_X3_add t5o (10 : Int32) σ4o) fun (r5o : Int32) (σ5o : om_S) => some ((((v1 + (σ5o a0 3)) - (4 : Int32)) * (3 : Int32)), σ5o)) else (if (σ a0 1) = 6 then (om_ref (om_rf a0 0) 3 fun (t6o : Nat) => om_call (f_X3_add t6o (70 : Int32) σ) fun (r6o : Int32) (σ6o : om_S) => some ((9 : Int32), σ6o)) else (om_ref (om_rf a0 0) 3 fun (t7o : Nat) => om_call (f_X3_add t7o (10 : Int32) σ) fun (r7o : Int32) (σ7o : om_S) => some ((v1 + (σ7o a0 3)), σ7o)))) else none
set_option maxRecDepth 100000 in
theorem c_X7_glow (l : Launch) (G : om_G) {a0 : Nat} {v1 : Int32} {σ : om_S} {r : Int32} {τ : om_S} (h : f_X7_glow a0 v1 σ = some (r, τ)) : om_D l G 1 yX7_glow cX7_glow 2 (some FieldType.int) 0 0 [vR (some a0), vI v1] σ om_rf om_N (some (vI r)) τ om_rf om_N := by
  refine om_Dof (lv := [(0, vR (some a0)), (1, vI v1)]) (by decide) rfl_le rfl (fun x O hE => ?_)
  change om_Ok x RX7 "glow" cX7_glow 2 (some FieldType.int) 1 0 0 at O
  unfold f_X7_glow at h
  revert h; refine om_iteR (fun ka0 h => ?_)
  refine om_aload_n O 0 dX7_glow_0 rfl rfl ?_
  refine gf_X7_20 O ka0 (om_lt ka0 (by decide)) dX7_glow_1 ?_
  by_cases c1o : (σ a0 1) = 1
  · replace h := (if_pos c1o).symm.trans h
    refine om_lookup O (off := 36) (tgt := 40) dX7_glow_4 (by decide +kernel) (by rw [c1o]; decide +kernel) (by decide) ?_
    refine om_aload_n O 0 dX7_glow_40 rfl rfl ?_
    revert h; refine om_refR (fun t1o y1o k1o h => ?_)
    refine gf_X7_14 O ka0 (om_lt ka0 (by decide)) dX7_glow_41 ?_
    rw [y1o]
    refine om_bipush O (v := 20) dX7_glow_44 (by decide) ?_
    revert h; refine om_callR (fun r1o σ1o g1o h => ?_)
    refine cl_X7_56 O (st := []) (stk := [vI (20 : Int32), vR (some t1o)]) (st2 := [vI r1o]) [vI (20 : Int32)] (fun l G => c_X3_add l G g1o) k1o (om_lt k1o (by decide)) (by decide) rfl rfl rfl_le rfl rfl_le rfl_le dX7_glow_46 ?_
    refine om_pop O rfl dX7_glow_49 ?_
    refine om_aload_n O 0 dX7_glow_50 rfl rfl ?_
    revert h; refine om_refR (fun t2o y2o k2o h => ?_)
    refine gf_X7_14 O ka0 (om_lt ka0 (by decide)) dX7_glow_51 ?_
    rw [y2o]
    refine om_bipush O (v := 10) dX7_glow_54 (by decide) ?_
    revert h; refine om_callR (fun r2o σ2o g2o h => ?_)
    refine cl_X7_56 O (st := []) (stk := [vI (10 : Int32), vR (some t2o)]) (st2 := [vI r2o]) [vI (10 : Int32)] (fun l G => c_X3_add l G g2o) k2o (om_lt k2o (by decide)) (by decide) rfl rfl rfl_le rfl rfl_le rfl_le dX7_glow_56 ?_
    refine om_pop O rfl dX7_glow_59 ?_
    refine om_iload_n O 1 dX7_glow_60 rfl rfl ?_
    refine om_aload_n O 0 dX7_glow_61 rfl rfl ?_
    refine gf_X7_27 O ka0 (om_lt ka0 (by decide)) dX7_glow_62 ?_
    refine om_iadd O dX7_glow_65 ?_
    refine om_iconst O (v := 4) dX7_glow_66 (by decide) ?_
    refine om_isub O dX7_glow_67 ?_
    exact om_iret (st := []) O (om_eI hE h) rfl dX7_glow_68
  · replace h := (if_neg c1o).symm.trans h
    by_cases c2o : (σ a0 1) = 4
    · replace h := (if_pos c2o).symm.trans h
      refine om_lookup O (off := 65) (tgt := 69) dX7_glow_4 (by decide +kernel) (by rw [c2o]; decide +kernel) (by decide) ?_
      refine om_aload_n O 0 dX7_glow_69 rfl rfl ?_
      revert h; refine om_refR (fun t3o y3o k3o h => ?_)
      refine gf_X7_14 O ka0 (om_lt ka0 (by decide)) dX7_glow_70 ?_
      rw [y3o]
      refine om_bipush O (v := 50) dX7_glow_73 (by decide) ?_
      revert h; refine om_callR (fun r3o σ3o g3o h => ?_)
      refine cl_X7_56 O (st := []) (stk := [vI (50 : Int32), vR (some t3o)]) (st2 := [vI r3o]) [vI (50 : Int32)] (fun l G => c_X3_add l G g3o) k3o (om_lt k3o (by decide)) (by decide) rfl rfl rfl_le rfl rfl_le rfl_le dX7_glow_75 ?_
      refine om_pop O rfl dX7_glow_78 ?_
      refine om_aload_n O 0 dX7_glow_79 rfl rfl ?_
      revert h; refine om_refR (fun t4o y4o k4o h => ?_)
      refine gf_X7_14 O ka0 (om_lt ka0 (by decide)) dX7_glow_80 ?_
      rw [y4o]
      refine om_bipush O (v := 20) dX7_glow_83 (by decide) ?_
      revert h; refine om_callR (fun r4o σ4o g4o h => ?_)
      refine cl_X7_56 O (st := []) (stk := [vI (20 : Int32), vR (some t4o)]) (st2 := [vI r4o]) [vI (20 : Int32)] (fun l G => c_X3_add l G g4o) k4o (om_lt k4o (by decide)) (by decide) rfl rfl rfl_le rfl rfl_le rfl_le dX7_glow_85 ?_
      refine om_pop O rfl dX7_glow_88 ?_
      refine om_aload_n O 0 dX7_glow_89 rfl rfl ?_
      revert h; refine om_refR (fun t5o y5o k5o h => ?_)
      refine gf_X7_14 O ka0 (om_lt ka0 (by decide)) dX7_glow_90 ?_
      rw [y5o]
      refine om_bipush O (v := 10) dX7_glow_93 (by decide) ?_
      revert h; refine om_callR (fun r5o σ5o g5o h => ?_)
      refine cl_X7_56 O (st := []) (stk := [vI (10 : Int32), vR (some t5o)]) (st2 := [vI r5o]) [vI (10 : Int32)] (fun l G => c_X3_add l G g5o) k5o (om_lt k5o (by decide)) (by decide) rfl rfl rfl_le rfl rfl_le rfl_le dX7_glow_95 ?_
      refine om_pop O rfl dX7_glow_98 ?_
      refine om_iload_n O 1 dX7_glow_99 rfl rfl ?_
      refine om_aload_n O 0 dX7_glow_100 rfl rfl ?_
      refine gf_X7_27 O ka0 (om_lt ka0 (by decide)) dX7_glow_101 ?_
      refine om_iadd O dX7_glow_104 ?_
      refine om_iconst O (v := 4) dX7_glow_105 (by decide) ?_
      refine om_isub O dX7_glow_106 ?_
      refine om_iconst O (v := 3) dX7_glow_107 (by decide) ?_
      refine om_imul O dX7_glow_108 ?_
      exact om_iret (st := []) O (om_eI hE h) rfl dX7_glow_109
    · replace h := (if_neg c2o).symm.trans h
      by_cases c3o : (σ a0 1) = 6
      · replace h := (if_pos c3o).symm.trans h
        refine om_lookup O (off := 106) (tgt := 110) dX7_glow_4 (by decide +kernel) (by rw [c3o]; decide +kernel) (by decide) ?_
        refine om_aload_n O 0 dX7_glow_110 rfl rfl ?_
        revert h; refine om_refR (fun t6o y6o k6o h => ?_)
        refine gf_X7_14 O ka0 (om_lt ka0 (by decide)) dX7_glow_111 ?_
        rw [y6o]
        refine om_bipush O (v := 70) dX7_glow_114 (by decide) ?_
        revert h; refine om_callR (fun r6o σ6o g6o h => ?_)
        refine cl_X7_56 O (st := []) (stk := [vI (70 : Int32), vR (some t6o)]) (st2 := [vI r6o]) [vI (70 : Int32)] (fun l G => c_X3_add l G g6o) k6o (om_lt k6o (by decide)) (by decide) rfl rfl rfl_le rfl rfl_le rfl_le dX7_glow_116 ?_
        refine om_pop O rfl dX7_glow_119 ?_
        refine om_bipush O (v := 9) dX7_glow_120 (by decide) ?_
        exact om_iret (st := []) O (om_eI hE h) rfl dX7_glow_122
      · replace h := (if_neg c3o).symm.trans h
        refine om_lookup O (off := 119) (tgt := 123) dX7_glow_4 (by decide +kernel) ((lv_osw (k := 1) c1o (by decide)).trans ((lv_osw (k := 4) c2o (by decide)).trans ((lv_osw (k := 6) c3o (by decide)).trans rfl))) (by decide) ?_
        refine om_aload_n O 0 dX7_glow_123 rfl rfl ?_
        revert h; refine om_refR (fun t7o y7o k7o h => ?_)
        refine gf_X7_14 O ka0 (om_lt ka0 (by decide)) dX7_glow_124 ?_
        rw [y7o]
        refine om_bipush O (v := 10) dX7_glow_127 (by decide) ?_
        revert h; refine om_callR (fun r7o σ7o g7o h => ?_)
        refine cl_X7_56 O (st := []) (stk := [vI (10 : Int32), vR (some t7o)]) (st2 := [vI r7o]) [vI (10 : Int32)] (fun l G => c_X3_add l G g7o) k7o (om_lt k7o (by decide)) (by decide) rfl rfl rfl_le rfl rfl_le rfl_le dX7_glow_129 ?_
        refine om_pop O rfl dX7_glow_132 ?_
        refine om_iload_n O 1 dX7_glow_133 rfl rfl ?_
        refine om_aload_n O 0 dX7_glow_134 rfl rfl ?_
        refine gf_X7_27 O ka0 (om_lt ka0 (by decide)) dX7_glow_135 ?_
        refine om_iadd O dX7_glow_138 ?_
        exact om_iret (st := []) O (om_eI hE h) rfl dX7_glow_139
def f_X7_turnAsEvening  (a0 : Nat) (v1 : Int32) (σ : om_S) : Option (Int32 × om_S) := if om_kc a0 = 7 then om_ref (om_rf a0 0) 3 fun (t1o : Nat) => om_call (f_X3_add t1o (11 : Int32) σ) fun (r1o : Int32) (σ1o : om_S) => om_call (f_X7_glow a0 v1 σ1o) fun (r2o : Int32) (σ2o : om_S) => some ((r2o * (2 : Int32)), σ2o) else none
set_option maxRecDepth 100000 in
theorem c_X7_turnAsEvening (l : Launch) (G : om_G) {a0 : Nat} {v1 : Int32} {σ : om_S} {r : Int32} {τ : om_S} (h : f_X7_turnAsEvening a0 v1 σ = some (r, τ)) : om_D l G 2 yX7_turnAsEvening cX7_turnAsEvening 2 (some FieldType.int) 0 0 [vR (some a0), vI v1] σ om_rf om_N (some (vI r)) τ om_rf om_N := by
  refine om_Dof (lv := [(0, vR (some a0)), (1, vI v1)]) (by decide) rfl_le rfl (fun x O hE => ?_)
  change om_Ok x RX7 "turnAsEvening" cX7_turnAsEvening 2 (some FieldType.int) 2 0 0 at O
  unfold f_X7_turnAsEvening at h
  revert h; refine om_iteR (fun ka0 h => ?_)
  refine om_aload_n O 0 dX7_turnAsEvening_0 rfl rfl ?_
  revert h; refine om_refR (fun t1o y1o k1o h => ?_)
  refine gf_X7_14 O ka0 (om_lt ka0 (by decide)) dX7_turnAsEvening_1 ?_
  rw [y1o]
  refine om_bipush O (v := 11) dX7_turnAsEvening_4 (by decide) ?_
  revert h; refine om_callR (fun r1o σ1o g1o h => ?_)
  refine cl_X7_56 O (st := []) (stk := [vI (11 : Int32), vR (some t1o)]) (st2 := [vI r1o]) [vI (11 : Int32)] (fun l G => c_X3_add l G g1o) k1o (om_lt k1o (by decide)) (by decide) rfl rfl rfl_le rfl rfl_le rfl_le dX7_turnAsEvening_6 ?_
  refine om_pop O rfl dX7_turnAsEvening_9 ?_
  refine om_aload_n O 0 dX7_turnAsEvening_10 rfl rfl ?_
  refine om_iload_n O 1 dX7_turnAsEvening_11 rfl rfl ?_
  revert h; refine om_callR (fun r2o σ2o g2o h => ?_)
  refine cl_X7_43 O (st := []) (stk := [vI v1, vR (some a0)]) (st2 := [vI r2o]) [vI v1] (fun l G => c_X7_glow l G g2o) ka0 (om_lt ka0 (by decide)) (by decide) rfl rfl rfl_le rfl rfl_le rfl_le dX7_turnAsEvening_12 ?_
  refine om_iconst O (v := 2) dX7_turnAsEvening_15 (by decide) ?_
  refine om_imul O dX7_turnAsEvening_16 ?_
  exact om_iret (st := []) O (om_eI hE h) rfl dX7_turnAsEvening_17
def f_X7_turn  (a0 : Nat) (v1 : Int32) (σ : om_S) : Option (Int32 × om_S) := if om_kc a0 = 7 then if (σ a0 1) = 2 then (om_ref (om_rf a0 0) 3 fun (t1o : Nat) => om_call (f_X3_add t1o (30 : Int32) σ) fun (r1o : Int32) (σ1o : om_S) => om_call (f_X7_turnAsEvening a0 v1 σ1o) fun (r2o : Int32) (σ2o : om_S) => some (((0 : Int32) - r2o), σ2o)) else (if (σ a0 1) = 5 then (om_ref (om_rf a0 0) 3 fun (t2o : Nat) => om_call (f_X3_add t2o (60 : Int32) σ) fun (r3o : Int32) (σ3o : om_S) => om_ref (om_rf a0 0) 3 fun (t3o : Nat) => om_call (f_X3_add t3o (30 : Int32) σ3o) fun (r4o : Int32) (σ4o : om_S) => om_call (f_X7_turnAsEvening a0 (v1 + (1 : Int32)) σ4o) fun (r5o : Int32) (σ5o : om_S) => some (((0 : Int32) - r5o), σ5o)) else (if (σ a0 1) = 6 then (om_ref (om_rf a0 0) 3 fun (t4o : Nat) => om_call (f_X3_add t4o (71 : Int32) σ) fun (r6o : Int32) (σ6o : om_S) => om_call (f_X7_turnAsEvening a0 v1 σ6o) fun (r7o : Int32) (σ7o : om_S) => some ((r7o + (σ7o a0 2)), σ7o)) else (om_call (f_X7_turnAsEvening a0 v1 σ) fun (r8o : Int32) (σ8o : om_S) => some (r8o, σ8o)))) else none
set_option maxRecDepth 100000 in
theorem c_X7_turn (l : Launch) (G : om_G) {a0 : Nat} {v1 : Int32} {σ : om_S} {r : Int32} {τ : om_S} (h : f_X7_turn a0 v1 σ = some (r, τ)) : om_D l G 3 yX7_turn cX7_turn 2 (some FieldType.int) 0 0 [vR (some a0), vI v1] σ om_rf om_N (some (vI r)) τ om_rf om_N := by
  refine om_Dof (lv := [(0, vR (some a0)), (1, vI v1)]) (by decide) rfl_le rfl (fun x O hE => ?_)
  change om_Ok x RX7 "turn" cX7_turn 2 (some FieldType.int) 3 0 0 at O
  unfold f_X7_turn at h
  revert h; refine om_iteR (fun ka0 h => ?_)
  refine om_aload_n O 0 dX7_turn_0 rfl rfl ?_
  refine gf_X7_20 O ka0 (om_lt ka0 (by decide)) dX7_turn_1 ?_
  by_cases c1o : (σ a0 1) = 2
  · replace h := (if_pos c1o).symm.trans h
    refine om_tblIn O (b := 2) (off := 36) (tgt := 40) dX7_turn_4 c1o (by decide) (by decide) (by decide +kernel) (by decide) ?_
    refine om_aload_n O 0 dX7_turn_40 rfl rfl ?_
    revert h; refine om_refR (fun t1o y1o k1o h => ?_)
    refine gf_X7_14 O ka0 (om_lt ka0 (by decide)) dX7_turn_41 ?_
    rw [y1o]
    refine om_bipush O (v := 30) dX7_turn_44 (by decide) ?_
    revert h; refine om_callR (fun r1o σ1o g1o h => ?_)
    refine cl_X7_56 O (st := []) (stk := [vI (30 : Int32), vR (some t1o)]) (st2 := [vI r1o]) [vI (30 : Int32)] (fun l G => c_X3_add l G g1o) k1o (om_lt k1o (by decide)) (by decide) rfl rfl rfl_le rfl rfl_le rfl_le dX7_turn_46 ?_
    refine om_pop O rfl dX7_turn_49 ?_
    refine om_iconst O (v := 0) dX7_turn_50 (by decide) ?_
    refine om_aload_n O 0 dX7_turn_51 rfl rfl ?_
    refine om_iload_n O 1 dX7_turn_52 rfl rfl ?_
    revert h; refine om_callR (fun r2o σ2o g2o h => ?_)
    refine cl_X7_60 O (st := [vI (0 : Int32)]) (stk := [vI v1, vR (some a0), vI (0 : Int32)]) (st2 := [vI r2o, vI (0 : Int32)]) [vI v1] (fun l G => c_X7_turnAsEvening l G g2o) ka0 (om_lt ka0 (by decide)) (by decide) rfl rfl rfl_le rfl rfl_le rfl_le dX7_turn_53 ?_
    refine om_isub O dX7_turn_56 ?_
    exact om_iret (st := []) O (om_eI hE h) rfl dX7_turn_57
  · replace h := (if_neg c1o).symm.trans h
    by_cases c2o : (σ a0 1) = 5
    · replace h := (if_pos c2o).symm.trans h
      refine om_tblIn O (b := 5) (off := 54) (tgt := 58) dX7_turn_4 c2o (by decide) (by decide) (by decide +kernel) (by decide) ?_
      refine om_aload_n O 0 dX7_turn_58 rfl rfl ?_
      revert h; refine om_refR (fun t2o y2o k2o h => ?_)
      refine gf_X7_14 O ka0 (om_lt ka0 (by decide)) dX7_turn_59 ?_
      rw [y2o]
      refine om_bipush O (v := 60) dX7_turn_62 (by decide) ?_
      revert h; refine om_callR (fun r3o σ3o g3o h => ?_)
      refine cl_X7_56 O (st := []) (stk := [vI (60 : Int32), vR (some t2o)]) (st2 := [vI r3o]) [vI (60 : Int32)] (fun l G => c_X3_add l G g3o) k2o (om_lt k2o (by decide)) (by decide) rfl rfl rfl_le rfl rfl_le rfl_le dX7_turn_64 ?_
      refine om_pop O rfl dX7_turn_67 ?_
      refine om_aload_n O 0 dX7_turn_68 rfl rfl ?_
      revert h; refine om_refR (fun t3o y3o k3o h => ?_)
      refine gf_X7_14 O ka0 (om_lt ka0 (by decide)) dX7_turn_69 ?_
      rw [y3o]
      refine om_bipush O (v := 30) dX7_turn_72 (by decide) ?_
      revert h; refine om_callR (fun r4o σ4o g4o h => ?_)
      refine cl_X7_56 O (st := []) (stk := [vI (30 : Int32), vR (some t3o)]) (st2 := [vI r4o]) [vI (30 : Int32)] (fun l G => c_X3_add l G g4o) k3o (om_lt k3o (by decide)) (by decide) rfl rfl rfl_le rfl rfl_le rfl_le dX7_turn_74 ?_
      refine om_pop O rfl dX7_turn_77 ?_
      refine om_iconst O (v := 0) dX7_turn_78 (by decide) ?_
      refine om_aload_n O 0 dX7_turn_79 rfl rfl ?_
      refine om_iload_n O 1 dX7_turn_80 rfl rfl ?_
      refine om_iconst O (v := 1) dX7_turn_81 (by decide) ?_
      refine om_iadd O dX7_turn_82 ?_
      revert h; refine om_callR (fun r5o σ5o g5o h => ?_)
      refine cl_X7_60 O (st := [vI (0 : Int32)]) (stk := [vI (v1 + (1 : Int32)), vR (some a0), vI (0 : Int32)]) (st2 := [vI r5o, vI (0 : Int32)]) [vI (v1 + (1 : Int32))] (fun l G => c_X7_turnAsEvening l G g5o) ka0 (om_lt ka0 (by decide)) (by decide) rfl rfl rfl_le rfl rfl_le rfl_le dX7_turn_83 ?_
      refine om_isub O dX7_turn_86 ?_
      exact om_iret (st := []) O (om_eI hE h) rfl dX7_turn_87
    · replace h := (if_neg c2o).symm.trans h
      by_cases c3o : (σ a0 1) = 6
      · replace h := (if_pos c3o).symm.trans h
        refine om_tblIn O (b := 6) (off := 84) (tgt := 88) dX7_turn_4 c3o (by decide) (by decide) (by decide +kernel) (by decide) ?_
        refine om_aload_n O 0 dX7_turn_88 rfl rfl ?_
        revert h; refine om_refR (fun t4o y4o k4o h => ?_)
        refine gf_X7_14 O ka0 (om_lt ka0 (by decide)) dX7_turn_89 ?_
        rw [y4o]
        refine om_bipush O (v := 71) dX7_turn_92 (by decide) ?_
        revert h; refine om_callR (fun r6o σ6o g6o h => ?_)
        refine cl_X7_56 O (st := []) (stk := [vI (71 : Int32), vR (some t4o)]) (st2 := [vI r6o]) [vI (71 : Int32)] (fun l G => c_X3_add l G g6o) k4o (om_lt k4o (by decide)) (by decide) rfl rfl rfl_le rfl rfl_le rfl_le dX7_turn_94 ?_
        refine om_pop O rfl dX7_turn_97 ?_
        refine om_aload_n O 0 dX7_turn_98 rfl rfl ?_
        refine om_iload_n O 1 dX7_turn_99 rfl rfl ?_
        revert h; refine om_callR (fun r7o σ7o g7o h => ?_)
        refine cl_X7_60 O (st := []) (stk := [vI v1, vR (some a0)]) (st2 := [vI r7o]) [vI v1] (fun l G => c_X7_turnAsEvening l G g7o) ka0 (om_lt ka0 (by decide)) (by decide) rfl rfl rfl_le rfl rfl_le rfl_le dX7_turn_100 ?_
        refine om_aload_n O 0 dX7_turn_103 rfl rfl ?_
        refine gf_X7_24 O ka0 (om_lt ka0 (by decide)) dX7_turn_104 ?_
        refine om_iadd O dX7_turn_107 ?_
        exact om_iret (st := []) O (om_eI hE h) rfl dX7_turn_108
      · replace h := (if_neg c3o).symm.trans h
        refine om_tblDef O (tgt := 109) dX7_turn_4 (fun v hv h1 h2 => by
    have h3 : v = 2 ∨ v = 3 ∨ v = 4 ∨ v = 5 ∨ v = 6 := by omega
    rcases h3 with rfl | rfl | rfl | rfl | rfl <;> first | rfl | exact absurd hv.symm (lv_neT (k := 2) c1o (by decide)) | exact absurd hv.symm (lv_neT (k := 5) c2o (by decide)) | exact absurd hv.symm (lv_neT (k := 6) c3o (by decide))) (by decide) ?_
        refine om_aload_n O 0 dX7_turn_109 rfl rfl ?_
        refine om_iload_n O 1 dX7_turn_110 rfl rfl ?_
        revert h; refine om_callR (fun r8o σ8o g8o h => ?_)
        refine cl_X7_60 O (st := []) (stk := [vI v1, vR (some a0)]) (st2 := [vI r8o]) [vI v1] (fun l G => c_X7_turnAsEvening l G g8o) ka0 (om_lt ka0 (by decide)) (by decide) rfl rfl rfl_le rfl rfl_le rfl_le dX7_turn_111 ?_
        exact om_iret (st := []) O (om_eI hE h) rfl dX7_turn_114
def f_X7_gutterAsEvening  (a0 : Nat) (v1 : Int32) (σ : om_S) : Option (Int32 × om_S) := if om_kc a0 = 7 then om_ref (om_rf a0 0) 3 fun (t1o : Nat) => om_call (f_X3_add t1o (12 : Int32) σ) fun (r1o : Int32) (σ1o : om_S) => om_call (f_X7_turn a0 v1 σ1o) fun (r2o : Int32) (σ2o : om_S) => some ((r2o - (σ2o a0 2)), σ2o) else none
set_option maxRecDepth 100000 in
theorem c_X7_gutterAsEvening (l : Launch) (G : om_G) {a0 : Nat} {v1 : Int32} {σ : om_S} {r : Int32} {τ : om_S} (h : f_X7_gutterAsEvening a0 v1 σ = some (r, τ)) : om_D l G 4 yX7_gutterAsEvening cX7_gutterAsEvening 2 (some FieldType.int) 0 0 [vR (some a0), vI v1] σ om_rf om_N (some (vI r)) τ om_rf om_N := by
  refine om_Dof (lv := [(0, vR (some a0)), (1, vI v1)]) (by decide) rfl_le rfl (fun x O hE => ?_)
  change om_Ok x RX7 "gutterAsEvening" cX7_gutterAsEvening 2 (some FieldType.int) 4 0 0 at O
  unfold f_X7_gutterAsEvening at h
  revert h; refine om_iteR (fun ka0 h => ?_)
  refine om_aload_n O 0 dX7_gutterAsEvening_0 rfl rfl ?_
  revert h; refine om_refR (fun t1o y1o k1o h => ?_)
  refine gf_X7_14 O ka0 (om_lt ka0 (by decide)) dX7_gutterAsEvening_1 ?_
  rw [y1o]
  refine om_bipush O (v := 12) dX7_gutterAsEvening_4 (by decide) ?_
  revert h; refine om_callR (fun r1o σ1o g1o h => ?_)
  refine cl_X7_56 O (st := []) (stk := [vI (12 : Int32), vR (some t1o)]) (st2 := [vI r1o]) [vI (12 : Int32)] (fun l G => c_X3_add l G g1o) k1o (om_lt k1o (by decide)) (by decide) rfl rfl rfl_le rfl rfl_le rfl_le dX7_gutterAsEvening_6 ?_
  refine om_pop O rfl dX7_gutterAsEvening_9 ?_
  refine om_aload_n O 0 dX7_gutterAsEvening_10 rfl rfl ?_
  refine om_iload_n O 1 dX7_gutterAsEvening_11 rfl rfl ?_
  revert h; refine om_callR (fun r2o σ2o g2o h => ?_)
  refine cl_X7_47 O (st := []) (stk := [vI v1, vR (some a0)]) (st2 := [vI r2o]) [vI v1] (fun l G => c_X7_turn l G g2o) ka0 (om_lt ka0 (by decide)) (by decide) rfl rfl rfl_le rfl rfl_le rfl_le dX7_gutterAsEvening_12 ?_
  refine om_aload_n O 0 dX7_gutterAsEvening_15 rfl rfl ?_
  refine gf_X7_24 O ka0 (om_lt ka0 (by decide)) dX7_gutterAsEvening_16 ?_
  refine om_isub O dX7_gutterAsEvening_19 ?_
  exact om_iret (st := []) O (om_eI hE h) rfl dX7_gutterAsEvening_20
def f_X7_gutter  (a0 : Nat) (v1 : Int32) (σ : om_S) : Option (Int32 × om_S) := if om_kc a0 = 7 then if (σ a0 1) = 3 then (om_ref (om_rf a0 0) 3 fun (t1o : Nat) => om_call (f_X3_add t1o (40 : Int32) σ) fun (r1o : Int32) (σ1o : om_S) => om_call (f_X7_gutterAsEvening a0 (v1 / (2 : Int32)) σ1o) fun (r2o : Int32) (σ2o : om_S) => some (r2o, σ2o)) else (if (σ a0 1) = 4 then (om_ref (om_rf a0 0) 3 fun (t2o : Nat) => om_call (f_X3_add t2o (51 : Int32) σ) fun (r3o : Int32) (σ3o : om_S) => om_call (f_X7_gutterAsEvening a0 v1 σ3o) fun (r4o : Int32) (σ4o : om_S) => some ((r4o ^^^ (σ4o a0 3)), σ4o)) else (om_call (f_X7_gutterAsEvening a0 v1 σ) fun (r5o : Int32) (σ5o : om_S) => some (r5o, σ5o))) else none
set_option maxRecDepth 100000 in
theorem c_X7_gutter (l : Launch) (G : om_G) {a0 : Nat} {v1 : Int32} {σ : om_S} {r : Int32} {τ : om_S} (h : f_X7_gutter a0 v1 σ = some (r, τ)) : om_D l G 5 yX7_gutter cX7_gutter 2 (some FieldType.int) 0 0 [vR (some a0), vI v1] σ om_rf om_N (some (vI r)) τ om_rf om_N := by
  refine om_Dof (lv := [(0, vR (some a0)), (1, vI v1)]) (by decide) rfl_le rfl (fun x O hE => ?_)
  change om_Ok x RX7 "gutter" cX7_gutter 2 (some FieldType.int) 5 0 0 at O
  unfold f_X7_gutter at h
  revert h; refine om_iteR (fun ka0 h => ?_)
  refine om_aload_n O 0 dX7_gutter_0 rfl rfl ?_
  refine gf_X7_20 O ka0 (om_lt ka0 (by decide)) dX7_gutter_1 ?_
  by_cases c1o : (σ a0 1) = 3
  · replace h := (if_pos c1o).symm.trans h
    refine om_lookup O (off := 28) (tgt := 32) dX7_gutter_4 (by decide +kernel) (by rw [c1o]; decide +kernel) (by decide) ?_
    refine om_aload_n O 0 dX7_gutter_32 rfl rfl ?_
    revert h; refine om_refR (fun t1o y1o k1o h => ?_)
    refine gf_X7_14 O ka0 (om_lt ka0 (by decide)) dX7_gutter_33 ?_
    rw [y1o]
    refine om_bipush O (v := 40) dX7_gutter_36 (by decide) ?_
    revert h; refine om_callR (fun r1o σ1o g1o h => ?_)
    refine cl_X7_56 O (st := []) (stk := [vI (40 : Int32), vR (some t1o)]) (st2 := [vI r1o]) [vI (40 : Int32)] (fun l G => c_X3_add l G g1o) k1o (om_lt k1o (by decide)) (by decide) rfl rfl rfl_le rfl rfl_le rfl_le dX7_gutter_38 ?_
    refine om_pop O rfl dX7_gutter_41 ?_
    refine om_aload_n O 0 dX7_gutter_42 rfl rfl ?_
    refine om_iload_n O 1 dX7_gutter_43 rfl rfl ?_
    refine om_iconst O (v := 2) dX7_gutter_44 (by decide) ?_
    refine om_idiv O dX7_gutter_45 (by decide) ?_
    revert h; refine om_callR (fun r2o σ2o g2o h => ?_)
    refine cl_X7_63 O (st := []) (stk := [vI (v1 / (2 : Int32)), vR (some a0)]) (st2 := [vI r2o]) [vI (v1 / (2 : Int32))] (fun l G => c_X7_gutterAsEvening l G g2o) ka0 (om_lt ka0 (by decide)) (by decide) rfl rfl rfl_le rfl rfl_le rfl_le dX7_gutter_46 ?_
    exact om_iret (st := []) O (om_eI hE h) rfl dX7_gutter_49
  · replace h := (if_neg c1o).symm.trans h
    by_cases c2o : (σ a0 1) = 4
    · replace h := (if_pos c2o).symm.trans h
      refine om_lookup O (off := 46) (tgt := 50) dX7_gutter_4 (by decide +kernel) (by rw [c2o]; decide +kernel) (by decide) ?_
      refine om_aload_n O 0 dX7_gutter_50 rfl rfl ?_
      revert h; refine om_refR (fun t2o y2o k2o h => ?_)
      refine gf_X7_14 O ka0 (om_lt ka0 (by decide)) dX7_gutter_51 ?_
      rw [y2o]
      refine om_bipush O (v := 51) dX7_gutter_54 (by decide) ?_
      revert h; refine om_callR (fun r3o σ3o g3o h => ?_)
      refine cl_X7_56 O (st := []) (stk := [vI (51 : Int32), vR (some t2o)]) (st2 := [vI r3o]) [vI (51 : Int32)] (fun l G => c_X3_add l G g3o) k2o (om_lt k2o (by decide)) (by decide) rfl rfl rfl_le rfl rfl_le rfl_le dX7_gutter_56 ?_
      refine om_pop O rfl dX7_gutter_59 ?_
      refine om_aload_n O 0 dX7_gutter_60 rfl rfl ?_
      refine om_iload_n O 1 dX7_gutter_61 rfl rfl ?_
      revert h; refine om_callR (fun r4o σ4o g4o h => ?_)
      refine cl_X7_63 O (st := []) (stk := [vI v1, vR (some a0)]) (st2 := [vI r4o]) [vI v1] (fun l G => c_X7_gutterAsEvening l G g4o) ka0 (om_lt ka0 (by decide)) (by decide) rfl rfl rfl_le rfl rfl_le rfl_le dX7_gutter_62 ?_
      refine om_aload_n O 0 dX7_gutter_65 rfl rfl ?_
      refine gf_X7_27 O ka0 (om_lt ka0 (by decide)) dX7_gutter_66 ?_
      refine om_ixor O dX7_gutter_69 ?_
      exact om_iret (st := []) O (om_eI hE h) rfl dX7_gutter_70
    · replace h := (if_neg c2o).symm.trans h
      refine om_lookup O (off := 67) (tgt := 71) dX7_gutter_4 (by decide +kernel) ((lv_osw (k := 3) c1o (by decide)).trans ((lv_osw (k := 4) c2o (by decide)).trans rfl)) (by decide) ?_
      refine om_aload_n O 0 dX7_gutter_71 rfl rfl ?_
      refine om_iload_n O 1 dX7_gutter_72 rfl rfl ?_
      revert h; refine om_callR (fun r5o σ5o g5o h => ?_)
      refine cl_X7_63 O (st := []) (stk := [vI v1, vR (some a0)]) (st2 := [vI r5o]) [vI v1] (fun l G => c_X7_gutterAsEvening l G g5o) ka0 (om_lt ka0 (by decide)) (by decide) rfl rfl rfl_le rfl rfl_le rfl_le dX7_gutter_73 ?_
      exact om_iret (st := []) O (om_eI hE h) rfl dX7_gutter_76
def f_X7_part_b36  (a0 : Nat) (v1 : Int32) (v2 : Int32) (σ : om_S) : Option (Int32 × om_S) := om_ref (om_rf a0 0) 3 fun (t1o : Nat) => om_call (f_X3_add t1o (13 : Int32) σ) fun (r1o : Int32) (σ1o : om_S) => if ((σ1o a0 2) - (σ1o a0 3)) = 0 then (om_let (om_w σ1o a0 4 (1 : Int32)) fun (σ2o : om_S) => some ((0 : Int32), σ2o)) else (if ¬ ((σ1o a0 2) - (σ1o a0 3)) = 0 then om_let (v1 / ((σ1o a0 2) - (σ1o a0 3))) fun (x1o : Int32) => if v2 = 0 then (some (x1o, σ1o)) else (om_call (f_X7_turn a0 (1 : Int32) σ1o) fun (r2o : Int32) (σ3o : om_S) => some ((x1o + r2o), σ3o)) else none)
set_option maxRecDepth 100000 in
theorem g_X7_part_b36 {x : om_X}   (O : om_Ok x RX7 "part" cX7_part 4 (some FieldType.int) 4 0 0)   {r : Int32} {τ : om_S} (hE : om_End x (some (vI r)) τ om_rf om_N 0 0)   {a0 : Nat} {v1 : Int32} {v2 : Int32} {σ : om_S} (ka0 : om_kc a0 = 7) (h : f_X7_part_b36 a0 v1 v2 σ = some (r, τ)) : om_J x 36 [(0, vR (some a0)), (1, vI v1), (2, vI v2)] [] σ om_rf om_N 0 0 := by
  unfold f_X7_part_b36 at h
  refine om_aload_n O 0 dX7_part_36 rfl rfl ?_
  revert h; refine om_refR (fun t1o y1o k1o h => ?_)
  refine gf_X7_14 O ka0 (om_lt ka0 (by decide)) dX7_part_37 ?_
  rw [y1o]
  refine om_bipush O (v := 13) dX7_part_40 (by decide) ?_
  revert h; refine om_callR (fun r1o σ1o g1o h => ?_)
  refine cl_X7_56 O (st := []) (stk := [vI (13 : Int32), vR (some t1o)]) (st2 := [vI r1o]) [vI (13 : Int32)] (fun l G => c_X3_add l G g1o) k1o (om_lt k1o (by decide)) (by decide) rfl rfl rfl_le rfl rfl_le rfl_le dX7_part_42 ?_
  refine om_pop O rfl dX7_part_45 ?_
  refine om_aload_n O 0 dX7_part_46 rfl rfl ?_
  refine gf_X7_24 O ka0 (om_lt ka0 (by decide)) dX7_part_47 ?_
  refine om_aload_n O 0 dX7_part_50 rfl rfl ?_
  refine gf_X7_27 O ka0 (om_lt ka0 (by decide)) dX7_part_51 ?_
  refine om_isub O dX7_part_54 ?_
  refine om_if_ne O (tgt := 65) dX7_part_55 (by decide) (fun c1o => ?_) (fun c1o => ?_)
  · replace h := (if_pos c1o).symm.trans h
    refine om_aload_n O 0 dX7_part_58 rfl rfl ?_
    refine om_iconst O (v := 1) dX7_part_59 (by decide) ?_
    revert h; refine om_letR (fun σ2o e1o h => ?_)
    refine pf_X7_30 O (Or.inr ⟨rfl, Or.inr rfl⟩) ka0 (om_lt ka0 (by decide)) dX7_part_60 e1o ?_
    refine om_iconst O (v := 0) dX7_part_63 (by decide) ?_
    exact om_iret (st := []) O (om_eI hE h) rfl dX7_part_64
  · replace h := (if_neg c1o).symm.trans h
    refine om_iload_n O 1 dX7_part_65 rfl rfl ?_
    refine om_aload_n O 0 dX7_part_66 rfl rfl ?_
    refine gf_X7_24 O ka0 (om_lt ka0 (by decide)) dX7_part_67 ?_
    refine om_aload_n O 0 dX7_part_70 rfl rfl ?_
    refine gf_X7_27 O ka0 (om_lt ka0 (by decide)) dX7_part_71 ?_
    refine om_isub O dX7_part_74 ?_
    revert h; refine om_iteR (fun z1o h => ?_)
    refine om_idiv O dX7_part_75 z1o ?_
    revert h; refine om_letR (fun x1o e2o h => ?_)
    refine om_istore_n O (lv' := [(0, vR (some a0)), (2, vI v2), (3, vI x1o)]) [1, 3, 0] e2o dX7_part_76 rfl (by decide) rfl ?_
    refine om_iload_n O 1 dX7_part_77 rfl rfl ?_
    refine om_if_eq O (tgt := 91) dX7_part_78 (by decide) (fun c2o => ?_) (fun c2o => ?_)
    · replace h := (if_pos c2o).symm.trans h
      refine om_iload_n O 2 dX7_part_91 rfl rfl ?_
      exact om_iret (st := []) O (om_eI hE h) rfl dX7_part_92
    · replace h := (if_neg c2o).symm.trans h
      refine om_iload_n O 2 dX7_part_81 rfl rfl ?_
      refine om_aload_n O 0 dX7_part_82 rfl rfl ?_
      refine om_iconst O (v := 1) dX7_part_83 (by decide) ?_
      revert h; refine om_callR (fun r2o σ3o g2o h => ?_)
      refine cl_X7_47 O (st := [vI x1o]) (stk := [vI (1 : Int32), vR (some a0), vI x1o]) (st2 := [vI r2o, vI x1o]) [vI (1 : Int32)] (fun l G => c_X7_turn l G g2o) ka0 (om_lt ka0 (by decide)) (by decide) rfl rfl rfl_le rfl rfl_le rfl_le dX7_part_84 ?_
      refine om_iadd O dX7_part_87 ?_
      refine om_goto O (tgt := 92) dX7_part_88 (by decide) ?_
      exact om_iret (st := []) O (om_eI hE h) rfl dX7_part_92
def f_X7_part_b21  (a0 : Nat) (v1 : Int32) (s0 : Int32) (σ : om_S) : Option (Int32 × om_S) := if s0 = 0 then (f_X7_part_b36 a0 v1 s0 σ) else (om_ref (om_rf a0 0) 3 fun (t1o : Nat) => om_call (f_X3_add t1o (21 : Int32) σ) fun (r1o : Int32) (σ1o : om_S) => f_X7_part_b36 a0 v1 s0 σ1o)
set_option maxRecDepth 100000 in
theorem g_X7_part_b21 {x : om_X}   (O : om_Ok x RX7 "part" cX7_part 4 (some FieldType.int) 4 0 0)   {r : Int32} {τ : om_S} (hE : om_End x (some (vI r)) τ om_rf om_N 0 0)   {a0 : Nat} {v1 : Int32} {s0 : Int32} {σ : om_S} (ka0 : om_kc a0 = 7) (h : f_X7_part_b21 a0 v1 s0 σ = some (r, τ)) : om_J x 21 [(0, vR (some a0)), (1, vI v1)] [vI s0] σ om_rf om_N 0 0 := by
  unfold f_X7_part_b21 at h
  refine om_istore_n O (lv' := [(0, vR (some a0)), (1, vI v1), (2, vI s0)]) [1, 2, 0] rfl dX7_part_21 rfl (by decide) rfl ?_
  refine om_iload_n O 2 dX7_part_22 rfl rfl ?_
  refine om_if_eq O (tgt := 36) dX7_part_23 (by decide) (fun c1o => ?_) (fun c1o => ?_)
  · replace h := (if_pos c1o).symm.trans h
    exact g_X7_part_b36 O hE ka0 h
  · replace h := (if_neg c1o).symm.trans h
    refine om_aload_n O 0 dX7_part_26 rfl rfl ?_
    revert h; refine om_refR (fun t1o y1o k1o h => ?_)
    refine gf_X7_14 O ka0 (om_lt ka0 (by decide)) dX7_part_27 ?_
    rw [y1o]
    refine om_bipush O (v := 21) dX7_part_30 (by decide) ?_
    revert h; refine om_callR (fun r1o σ1o g1o h => ?_)
    refine cl_X7_56 O (st := []) (stk := [vI (21 : Int32), vR (some t1o)]) (st2 := [vI r1o]) [vI (21 : Int32)] (fun l G => c_X3_add l G g1o) k1o (om_lt k1o (by decide)) (by decide) rfl rfl rfl_le rfl rfl_le rfl_le dX7_part_32 ?_
    refine om_pop O rfl dX7_part_35 ?_
    exact g_X7_part_b36 O hE ka0 h
def f_X7_part_b16  (a0 : Nat) (v1 : Int32) (σ : om_S) : Option (Int32 × om_S) := f_X7_part_b21 a0 v1 (1 : Int32) σ
set_option maxRecDepth 100000 in
theorem g_X7_part_b16 {x : om_X}   (O : om_Ok x RX7 "part" cX7_part 4 (some FieldType.int) 4 0 0)   {r : Int32} {τ : om_S} (hE : om_End x (some (vI r)) τ om_rf om_N 0 0)   {a0 : Nat} {v1 : Int32} {σ : om_S} (ka0 : om_kc a0 = 7) (h : f_X7_part_b16 a0 v1 σ = some (r, τ)) : om_J x 16 [(0, vR (some a0)), (1, vI v1)] [] σ om_rf om_N 0 0 := by
  unfold f_X7_part_b16 at h
  refine om_iconst O (v := 1) dX7_part_16 (by decide) ?_
  refine om_goto O (tgt := 21) dX7_part_17 (by decide) ?_
  exact g_X7_part_b21 O hE ka0 h
def f_X7_part  (a0 : Nat) (v1 : Int32) (σ : om_S) : Option (Int32 × om_S) := if om_kc a0 = 7 then if (σ a0 1) = (1 : Int32) then (f_X7_part_b16 a0 v1 σ) else (if (σ a0 1) = (4 : Int32) then (f_X7_part_b16 a0 v1 σ) else (f_X7_part_b21 a0 v1 (0 : Int32) σ)) else none
set_option maxRecDepth 100000 in
theorem c_X7_part (l : Launch) (G : om_G) {a0 : Nat} {v1 : Int32} {σ : om_S} {r : Int32} {τ : om_S} (h : f_X7_part a0 v1 σ = some (r, τ)) : om_D l G 4 yX7_part cX7_part 4 (some FieldType.int) 0 0 [vR (some a0), vI v1] σ om_rf om_N (some (vI r)) τ om_rf om_N := by
  refine om_Dof (lv := [(0, vR (some a0)), (1, vI v1)]) (by decide) rfl_le rfl (fun x O hE => ?_)
  change om_Ok x RX7 "part" cX7_part 4 (some FieldType.int) 4 0 0 at O
  unfold f_X7_part at h
  revert h; refine om_iteR (fun ka0 h => ?_)
  refine om_aload_n O 0 dX7_part_0 rfl rfl ?_
  refine gf_X7_20 O ka0 (om_lt ka0 (by decide)) dX7_part_1 ?_
  refine om_iconst O (v := 1) dX7_part_4 (by decide) ?_
  refine om_icmp_eq O (tgt := 16) dX7_part_5 (by decide) (fun c1o => ?_) (fun c1o => ?_)
  · replace h := (if_pos c1o).symm.trans h
    exact g_X7_part_b16 O hE ka0 h
  · replace h := (if_neg c1o).symm.trans h
    refine om_aload_n O 0 dX7_part_8 rfl rfl ?_
    refine gf_X7_20 O ka0 (om_lt ka0 (by decide)) dX7_part_9 ?_
    refine om_iconst O (v := 4) dX7_part_12 (by decide) ?_
    refine om_icmp_ne O (tgt := 20) dX7_part_13 (by decide) (fun c2o => ?_) (fun c2o => ?_)
    · replace h := (if_pos c2o).symm.trans h
      exact g_X7_part_b16 O hE ka0 h
    · replace h := (if_neg c2o).symm.trans h
      refine om_iconst O (v := 0) dX7_part_20 (by decide) ?_
      exact g_X7_part_b21 O hE ka0 h
def f_X7_speak  (a0 : Nat) (a1 : Nat) (v2 : Int32) (v3 : Int32) (v4 : Int32) (σ : om_S) : Option (Int32 × om_S) := if om_kc a0 = 7 then if om_kc a1 = 1 then om_ref (om_rf a0 0) 3 fun (t1o : Nat) => om_do (f_X3_clear t1o σ) fun (σ1o : om_S) => om_let (om_w σ1o a0 1 (σ1o a1 0)) fun (σ2o : om_S) => om_let (om_w σ2o a0 2 (σ2o a1 1)) fun (σ3o : om_S) => om_let (om_w σ3o a0 3 v2) fun (σ4o : om_S) => om_let (om_w σ4o a0 4 (0 : Int32)) fun (σ5o : om_S) => if v3 = 0 then (om_call (f_X7_glow a0 v4 σ5o) fun (r1o : Int32) (σ6o : om_S) => some (r1o, σ6o)) else (if v3 = 1 then (om_call (f_X7_turn a0 v4 σ5o) fun (r2o : Int32) (σ7o : om_S) => some (r2o, σ7o)) else (if v3 = 2 then (om_call (f_X7_gutter a0 v4 σ5o) fun (r3o : Int32) (σ8o : om_S) => some (r3o, σ8o)) else (om_call (f_X7_part a0 v4 σ5o) fun (r4o : Int32) (σ9o : om_S) => some (r4o, σ9o)))) else none else none
set_option maxRecDepth 100000 in
theorem c_X7_speak (l : Launch) (G : om_G) {a0 : Nat} {a1 : Nat} {v2 : Int32} {v3 : Int32} {v4 : Int32} {σ : om_S} {r : Int32} {τ : om_S} (h : f_X7_speak a0 a1 v2 v3 v4 σ = some (r, τ)) : om_D l G 6 yX7_speak cX7_speak 5 (some FieldType.int) 0 0 [vR (some a0), vR (some a1), vI v2, vI v3, vI v4] σ om_rf om_N (some (vI r)) τ om_rf om_N := by
  refine om_Dof (lv := [(0, vR (some a0)), (1, vR (some a1)), (2, vI v2), (3, vI v3), (4, vI v4)]) (by decide) rfl_le rfl (fun x O hE => ?_)
  change om_Ok x RX7 "speak" cX7_speak 5 (some FieldType.int) 6 0 0 at O
  unfold f_X7_speak at h
  revert h; refine om_iteR (fun ka0 h => ?_)
  revert h; refine om_iteR (fun ka1 h => ?_)
  refine om_aload_n O 0 dX7_speak_0 rfl rfl ?_
  revert h; refine om_refR (fun t1o y1o k1o h => ?_)
  refine gf_X7_14 O ka0 (om_lt ka0 (by decide)) dX7_speak_1 ?_
  rw [y1o]
  revert h; refine om_doR (fun σ1o g1o h => ?_)
  refine cl_X7_34 O (st := []) (stk := [vR (some t1o)]) (st2 := []) [] (fun l G => c_X3_clear l G g1o) k1o (om_lt k1o (by decide)) (by decide) rfl rfl rfl_le rfl rfl_le rfl_le dX7_speak_4 ?_
  refine om_aload_n O 0 dX7_speak_7 rfl rfl ?_
  refine om_aload_n O 1 dX7_speak_8 rfl rfl ?_
  refine gf_X7_37 O ka1 (om_lt ka1 (by decide)) dX7_speak_9 ?_
  revert h; refine om_letR (fun σ2o e1o h => ?_)
  refine pf_X7_20 O (Or.inl rfl) ka0 (om_lt ka0 (by decide)) dX7_speak_12 e1o ?_
  refine om_aload_n O 0 dX7_speak_15 rfl rfl ?_
  refine om_aload_n O 1 dX7_speak_16 rfl rfl ?_
  refine gf_X7_40 O ka1 (om_lt ka1 (by decide)) dX7_speak_17 ?_
  revert h; refine om_letR (fun σ3o e2o h => ?_)
  refine pf_X7_24 O (Or.inl rfl) ka0 (om_lt ka0 (by decide)) dX7_speak_20 e2o ?_
  refine om_aload_n O 0 dX7_speak_23 rfl rfl ?_
  refine om_iload_n O 2 dX7_speak_24 rfl rfl ?_
  revert h; refine om_letR (fun σ4o e3o h => ?_)
  refine pf_X7_27 O (Or.inl rfl) ka0 (om_lt ka0 (by decide)) dX7_speak_25 e3o ?_
  refine om_aload_n O 0 dX7_speak_28 rfl rfl ?_
  refine om_iconst O (v := 0) dX7_speak_29 (by decide) ?_
  revert h; refine om_letR (fun σ5o e4o h => ?_)
  refine pf_X7_30 O (Or.inr ⟨rfl, Or.inl rfl⟩) ka0 (om_lt ka0 (by decide)) dX7_speak_30 e4o ?_
  refine om_iload_n O 3 dX7_speak_33 rfl rfl ?_
  by_cases c1o : v3 = 0
  · replace h := (if_pos c1o).symm.trans h
    refine om_tblIn O (b := 0) (off := 26) (tgt := 60) dX7_speak_34 c1o (by decide) (by decide) (by decide +kernel) (by decide) ?_
    refine om_aload_n O 0 dX7_speak_60 rfl rfl ?_
    refine om_iload O 4 dX7_speak_61 rfl ?_
    revert h; refine om_callR (fun r1o σ6o g2o h => ?_)
    refine cl_X7_43 O (st := []) (stk := [vI v4, vR (some a0)]) (st2 := [vI r1o]) [vI v4] (fun l G => c_X7_glow l G g2o) ka0 (om_lt ka0 (by decide)) (by decide) rfl rfl rfl_le rfl rfl_le rfl_le dX7_speak_63 ?_
    exact om_iret (st := []) O (om_eI hE h) rfl dX7_speak_66
  · replace h := (if_neg c1o).symm.trans h
    by_cases c2o : v3 = 1
    · replace h := (if_pos c2o).symm.trans h
      refine om_tblIn O (b := 1) (off := 33) (tgt := 67) dX7_speak_34 c2o (by decide) (by decide) (by decide +kernel) (by decide) ?_
      refine om_aload_n O 0 dX7_speak_67 rfl rfl ?_
      refine om_iload O 4 dX7_speak_68 rfl ?_
      revert h; refine om_callR (fun r2o σ7o g3o h => ?_)
      refine cl_X7_47 O (st := []) (stk := [vI v4, vR (some a0)]) (st2 := [vI r2o]) [vI v4] (fun l G => c_X7_turn l G g3o) ka0 (om_lt ka0 (by decide)) (by decide) rfl rfl rfl_le rfl rfl_le rfl_le dX7_speak_70 ?_
      exact om_iret (st := []) O (om_eI hE h) rfl dX7_speak_73
    · replace h := (if_neg c2o).symm.trans h
      by_cases c3o : v3 = 2
      · replace h := (if_pos c3o).symm.trans h
        refine om_tblIn O (b := 2) (off := 40) (tgt := 74) dX7_speak_34 c3o (by decide) (by decide) (by decide +kernel) (by decide) ?_
        refine om_aload_n O 0 dX7_speak_74 rfl rfl ?_
        refine om_iload O 4 dX7_speak_75 rfl ?_
        revert h; refine om_callR (fun r3o σ8o g4o h => ?_)
        refine cl_X7_50 O (st := []) (stk := [vI v4, vR (some a0)]) (st2 := [vI r3o]) [vI v4] (fun l G => c_X7_gutter l G g4o) ka0 (om_lt ka0 (by decide)) (by decide) rfl rfl rfl_le rfl rfl_le rfl_le dX7_speak_77 ?_
        exact om_iret (st := []) O (om_eI hE h) rfl dX7_speak_80
      · replace h := (if_neg c3o).symm.trans h
        refine om_tblDef O (tgt := 81) dX7_speak_34 (fun v hv h1 h2 => by
    have h3 : v = 0 ∨ v = 1 ∨ v = 2 := by omega
    rcases h3 with rfl | rfl | rfl <;> first | rfl | exact absurd hv.symm (lv_neT (k := 0) c1o (by decide)) | exact absurd hv.symm (lv_neT (k := 1) c2o (by decide)) | exact absurd hv.symm (lv_neT (k := 2) c3o (by decide))) (by decide) ?_
        refine om_aload_n O 0 dX7_speak_81 rfl rfl ?_
        refine om_iload O 4 dX7_speak_82 rfl ?_
        revert h; refine om_callR (fun r4o σ9o g5o h => ?_)
        refine cl_X7_53 O (st := []) (stk := [vI v4, vR (some a0)]) (st2 := [vI r4o]) [vI v4] (fun l G => c_X7_part l G g5o) ka0 (om_lt ka0 (by decide)) (by decide) rfl rfl rfl_le rfl rfl_le rfl_le dX7_speak_84 ?_
        exact om_iret (st := []) O (om_eI hE h) rfl dX7_speak_87
def f_X8_voice_b24  (a0 : Nat) (σ : om_S) : Option (Int32 × om_S) := om_call (f_X8_refuse a0 (1 : Int32) σ) fun (r1o : Int32) (σ1o : om_S) => some (r1o, σ1o)
set_option maxRecDepth 100000 in
theorem g_X8_voice_b24 {x : om_X}   (O : om_Ok x RX8 "voice" cX8_voice 6 (some FieldType.int) 7 0 0)   {r : Int32} {τ : om_S} (hE : om_End x (some (vI r)) τ om_rf om_N 0 0)   {a0 : Nat} {σ : om_S} (ka0 : om_kc a0 = 8) (h : f_X8_voice_b24 a0 σ = some (r, τ)) : om_J x 24 [(0, vR (some a0))] [] σ om_rf om_N 0 0 := by
  unfold f_X8_voice_b24 at h
  refine om_aload_n O 0 dX8_voice_24 rfl rfl ?_
  refine om_iconst O (v := 1) dX8_voice_25 (by decide) ?_
  revert h; refine om_callR (fun r1o σ1o g1o h => ?_)
  refine cl_X8_84 O (st := []) (stk := [vI (1 : Int32), vR (some a0)]) (st2 := [vI r1o]) [vI (1 : Int32)] (fun l G => c_X8_refuse l G g1o) ka0 (om_lt ka0 (by decide)) (by decide) rfl rfl rfl_le rfl rfl_le rfl_le dX8_voice_26 ?_
  exact om_iret (st := []) O (om_eI hE h) rfl dX8_voice_29
def f_X8_voice  (a0 : Nat) (v1 : Int32) (v2 : Int32) (v3 : Int32) (σ : om_S) : Option (Int32 × om_S) := if om_kc a0 = 8 then om_ref (om_rf a0 0) 6 fun (t1o : Nat) => om_call (f_X6_at t1o v1 σ) fun (r1o : Option Nat) (σ1o : om_S) => om_nul r1o 1 (f_X8_voice_b24 a0 σ1o) fun (t2o : Nat) => om_call (f_X8_isWithin v2 (0 : Int32) (3 : Int32) σ1o) fun (r2o : Int32) (σ2o : om_S) => if r2o = 0 then (f_X8_voice_b24 a0 σ2o) else (om_ref (om_rf a0 9) 7 fun (t3o : Nat) => om_call (f_X7_speak t3o t2o v1 v2 v3 σ2o) fun (r3o : Int32) (σ3o : om_S) => om_ref (om_rf a0 9) 7 fun (t4o : Nat) => if (σ3o t4o 4) = 0 then (some (r3o, σ3o)) else (om_call (f_X8_refuse a0 (6 : Int32) σ3o) fun (r4o : Int32) (σ4o : om_S) => some (r4o, σ4o))) else none
set_option maxRecDepth 100000 in
theorem c_X8_voice (l : Launch) (G : om_G) {a0 : Nat} {v1 : Int32} {v2 : Int32} {v3 : Int32} {σ : om_S} {r : Int32} {τ : om_S} (h : f_X8_voice a0 v1 v2 v3 σ = some (r, τ)) : om_D l G 7 yX8_voice cX8_voice 6 (some FieldType.int) 0 0 [vR (some a0), vI v1, vI v2, vI v3] σ om_rf om_N (some (vI r)) τ om_rf om_N := by
  refine om_Dof (lv := [(0, vR (some a0)), (1, vI v1), (2, vI v2), (3, vI v3)]) (by decide) rfl_le rfl (fun x O hE => ?_)
  change om_Ok x RX8 "voice" cX8_voice 6 (some FieldType.int) 7 0 0 at O
  unfold f_X8_voice at h
  revert h; refine om_iteR (fun ka0 h => ?_)
  refine om_aload_n O 0 dX8_voice_0 rfl rfl ?_
  revert h; refine om_refR (fun t1o y1o k1o h => ?_)
  refine gf_X8_10 O ka0 (om_lt ka0 (by decide)) dX8_voice_1 ?_
  rw [y1o]
  refine om_iload_n O 1 dX8_voice_4 rfl rfl ?_
  revert h; refine om_callR (fun r1o σ1o g1o h => ?_)
  refine cl_X8_96 O (st := []) (stk := [vI v1, vR (some t1o)]) (st2 := [vR r1o]) [vI v1] (fun l G => c_X6_at l G g1o) k1o (om_lt k1o (by decide)) (by decide) rfl rfl rfl_le rfl rfl_le rfl_le dX8_voice_5 ?_
  refine om_astore O (lv' := [(0, vR (some a0)), (1, vI v1), (2, vI v2), (3, vI v3), (4, vR r1o)]) [1, 2, 3, 4, 0] dX8_voice_8 (by decide) rfl ?_
  refine om_aload O 4 dX8_voice_10 rfl ?_
  revert h; refine om_nulR (fun yy h => ?_) (fun t2o yy k2o h => ?_)
  · subst yy
    refine om_ifnullN O (tgt := 24) dX8_voice_12 (by decide) ?_
    refine om_drop (lv' := [(0, vR (some a0))]) [0] rfl ?_
    exact g_X8_voice_b24 O hE ka0 h
  · subst yy
    refine om_ifnullS O dX8_voice_12 ?_
    refine om_iload_n O 2 dX8_voice_15 rfl rfl ?_
    refine om_iconst O (v := 0) dX8_voice_16 (by decide) ?_
    refine om_iconst O (v := 3) dX8_voice_17 (by decide) ?_
    revert h; refine om_callR (fun r2o σ2o g2o h => ?_)
    refine cl_X8_80 O (st := []) (stk := [vI (3 : Int32), vI (0 : Int32), vI v2]) (st2 := [vI r2o]) [vI v2, vI (0 : Int32), vI (3 : Int32)] (fun l G => c_X8_isWithin l G g2o) (by decide) rfl rfl rfl_le rfl rfl_le rfl_le dX8_voice_18 ?_
    refine om_if_ne O (tgt := 30) dX8_voice_21 (by decide) (fun c1o => ?_) (fun c1o => ?_)
    · replace h := (if_pos c1o).symm.trans h
      refine om_drop (lv' := [(0, vR (some a0))]) [0] rfl ?_
      exact g_X8_voice_b24 O hE ka0 h
    · replace h := (if_neg c1o).symm.trans h
      refine om_aload_n O 0 dX8_voice_30 rfl rfl ?_
      revert h; refine om_refR (fun t3o y2o k3o h => ?_)
      refine gf_X8_57 O ka0 (om_lt ka0 (by decide)) dX8_voice_31 ?_
      rw [y2o]
      refine om_aload O 4 dX8_voice_34 rfl ?_
      refine om_iload_n O 1 dX8_voice_36 rfl rfl ?_
      refine om_iload_n O 2 dX8_voice_37 rfl rfl ?_
      refine om_iload_n O 3 dX8_voice_38 rfl rfl ?_
      revert h; refine om_callR (fun r3o σ3o g3o h => ?_)
      refine cl_X8_227 O (st := []) (stk := [vI v3, vI v2, vI v1, vR (some t2o), vR (some t3o)]) (st2 := [vI r3o]) [vR (some t2o), vI v1, vI v2, vI v3] (fun l G => c_X7_speak l G g3o) k3o (om_lt k3o (by decide)) (by decide) rfl rfl rfl_le rfl rfl_le rfl_le dX8_voice_39 ?_
      refine om_istore O (lv' := [(0, vR (some a0)), (5, vI r3o)]) [1, 0] rfl dX8_voice_42 (by decide) rfl ?_
      refine om_aload_n O 0 dX8_voice_44 rfl rfl ?_
      revert h; refine om_refR (fun t4o y3o k4o h => ?_)
      refine gf_X8_57 O ka0 (om_lt ka0 (by decide)) dX8_voice_45 ?_
      rw [y3o]
      refine gf_X8_231 O k4o (om_lt k4o (by decide)) dX8_voice_48 ?_
      refine om_if_eq O (tgt := 63) dX8_voice_51 (by decide) (fun c2o => ?_) (fun c2o => ?_)
      · replace h := (if_pos c2o).symm.trans h
        refine om_iload O 1 dX8_voice_63 rfl ?_
        exact om_iret (st := []) O (om_eI hE h) rfl dX8_voice_65
      · replace h := (if_neg c2o).symm.trans h
        refine om_aload_n O 0 dX8_voice_54 rfl rfl ?_
        refine om_bipush O (v := 6) dX8_voice_55 (by decide) ?_
        revert h; refine om_callR (fun r4o σ4o g4o h => ?_)
        refine cl_X8_84 O (st := []) (stk := [vI (6 : Int32), vR (some a0)]) (st2 := [vI r4o]) [vI (6 : Int32)] (fun l G => c_X8_refuse l G g4o) ka0 (om_lt ka0 (by decide)) (by decide) rfl rfl rfl_le rfl rfl_le rfl_le dX8_voice_57 ?_
        refine om_goto O (tgt := 65) dX8_voice_60 (by decide) ?_
        exact om_iret (st := []) O (om_eI hE h) rfl dX8_voice_65
def f_X8_body  (a0 : Nat) (v1 : Int32) (σ : om_S) : Option (Int32 × om_S) := if om_kc a0 = 8 then om_ref (om_rf a0 9) 7 fun (t1o : Nat) => om_ref (om_rf t1o 0) 3 fun (t2o : Nat) => om_call (f_X3_has t2o v1 σ) fun (r1o : Int32) (σ1o : om_S) => if r1o = 0 then (om_call (f_X8_refuse a0 (2 : Int32) σ1o) fun (r2o : Int32) (σ2o : om_S) => some (r2o, σ2o)) else (om_ref (om_rf a0 9) 7 fun (t3o : Nat) => om_ref (om_rf t3o 0) 3 fun (t4o : Nat) => om_call (f_X3_at t4o v1 σ1o) fun (r3o : Int32) (σ3o : om_S) => some (r3o, σ3o)) else none
set_option maxRecDepth 100000 in
theorem c_X8_body (l : Launch) (G : om_G) {a0 : Nat} {v1 : Int32} {σ : om_S} {r : Int32} {τ : om_S} (h : f_X8_body a0 v1 σ = some (r, τ)) : om_D l G 1 yX8_body cX8_body 2 (some FieldType.int) 0 0 [vR (some a0), vI v1] σ om_rf om_N (some (vI r)) τ om_rf om_N := by
  refine om_Dof (lv := [(0, vR (some a0)), (1, vI v1)]) (by decide) rfl_le rfl (fun x O hE => ?_)
  change om_Ok x RX8 "body" cX8_body 2 (some FieldType.int) 1 0 0 at O
  unfold f_X8_body at h
  revert h; refine om_iteR (fun ka0 h => ?_)
  refine om_aload_n O 0 dX8_body_0 rfl rfl ?_
  revert h; refine om_refR (fun t1o y1o k1o h => ?_)
  refine gf_X8_57 O ka0 (om_lt ka0 (by decide)) dX8_body_1 ?_
  rw [y1o]
  revert h; refine om_refR (fun t2o y2o k2o h => ?_)
  refine gf_X8_235 O k1o (om_lt k1o (by decide)) dX8_body_4 ?_
  rw [y2o]
  refine om_iload_n O 1 dX8_body_7 rfl rfl ?_
  revert h; refine om_callR (fun r1o σ1o g1o h => ?_)
  refine cl_X8_238 O (st := []) (stk := [vI v1, vR (some t2o)]) (st2 := [vI r1o]) [vI v1] (fun l G => c_X3_has l G g1o) k2o (om_lt k2o (by decide)) (by decide) rfl rfl rfl_le rfl rfl_le rfl_le dX8_body_8 ?_
  refine om_if_eq O (tgt := 28) dX8_body_11 (by decide) (fun c1o => ?_) (fun c1o => ?_)
  · replace h := (if_pos c1o).symm.trans h
    refine om_aload_n O 0 dX8_body_28 rfl rfl ?_
    refine om_iconst O (v := 2) dX8_body_29 (by decide) ?_
    revert h; refine om_callR (fun r2o σ2o g2o h => ?_)
    refine cl_X8_84 O (st := []) (stk := [vI (2 : Int32), vR (some a0)]) (st2 := [vI r2o]) [vI (2 : Int32)] (fun l G => c_X8_refuse l G g2o) ka0 (om_lt ka0 (by decide)) (by decide) rfl rfl rfl_le rfl rfl_le rfl_le dX8_body_30 ?_
    exact om_iret (st := []) O (om_eI hE h) rfl dX8_body_33
  · replace h := (if_neg c1o).symm.trans h
    refine om_aload_n O 0 dX8_body_14 rfl rfl ?_
    revert h; refine om_refR (fun t3o y3o k3o h => ?_)
    refine gf_X8_57 O ka0 (om_lt ka0 (by decide)) dX8_body_15 ?_
    rw [y3o]
    revert h; refine om_refR (fun t4o y4o k4o h => ?_)
    refine gf_X8_235 O k3o (om_lt k3o (by decide)) dX8_body_18 ?_
    rw [y4o]
    refine om_iload_n O 1 dX8_body_21 rfl rfl ?_
    revert h; refine om_callR (fun r3o σ3o g3o h => ?_)
    refine cl_X8_241 O (st := []) (stk := [vI v1, vR (some t4o)]) (st2 := [vI r3o]) [vI v1] (fun l G => c_X3_at l G g3o) k4o (om_lt k4o (by decide)) (by decide) rfl rfl rfl_le rfl rfl_le rfl_le dX8_body_22 ?_
    refine om_goto O (tgt := 33) dX8_body_25 (by decide) ?_
    exact om_iret (st := []) O (om_eI hE h) rfl dX8_body_33
def f_X4_remake_b12  : Nat → Nat → Int32 → om_S → Option om_S
  | 0, _, _, _ => none
  | F + 1, a0, v3, σ => om_ref (om_rf a0 0) 20 fun (t1o : Nat) => if (Int32.ofNat (om_al t1o)) ≤ v3 then (some σ) else (om_ref (om_rf a0 0) 20 fun (t2o : Nat) => if om_in v3 (om_al t2o) then om_let (om_w σ t2o v3.toNatClampNeg (0 : Int32)) fun (σ1o : om_S) => (f_X4_remake_b12 F) a0 (v3 + 1) σ1o else none)
set_option maxRecDepth 100000 in
theorem g_X4_remake_b12 {x : om_X}   (O : om_Ok x RX4 "remake" cX4_remake 4 none 0 0 0)   {τ : om_S} (hE : om_End x none τ om_rf om_N 0 0)   : ∀ (F : Nat) (a0 : Nat) (v3 : Int32) (σ : om_S) (ka0 : om_kc a0 = 4), f_X4_remake_b12 F a0 v3 σ = some τ → om_J x 12 [(0, vR (some a0)), (3, vI v3)] [] σ om_rf om_N 0 0 := by
  intro F
  induction F with
  | zero =>
    intro a0 v3 σ ka0 h
    cases h
  | succ F ih =>
    intro a0 v3 σ ka0 h
    unfold f_X4_remake_b12 at h
    refine om_iload_n O 1 dX4_remake_12 rfl rfl ?_
    refine om_aload_n O 0 dX4_remake_13 rfl rfl ?_
    revert h; refine om_refR (fun t1o y1o k1o h => ?_)
    refine gf_X4_9 O ka0 (om_lt ka0 (by decide)) dX4_remake_14 ?_
    rw [y1o]
    refine om_alen O k1o (om_lt k1o (by decide)) rfl dX4_remake_17 ?_
    refine om_icmp_ge O (tgt := 34) dX4_remake_18 (by decide) (fun c1o => ?_) (fun c1o => ?_)
    · replace h := (if_pos c1o).symm.trans h
      exact om_vret (st := []) O (om_eV hE h) rfl dX4_remake_34
    · replace h := (if_neg c1o).symm.trans h
      refine om_aload_n O 0 dX4_remake_21 rfl rfl ?_
      revert h; refine om_refR (fun t2o y2o k2o h => ?_)
      refine gf_X4_9 O ka0 (om_lt ka0 (by decide)) dX4_remake_22 ?_
      rw [y2o]
      refine om_iload_n O 1 dX4_remake_25 rfl rfl ?_
      refine om_iconst O (v := 0) dX4_remake_26 (by decide) ?_
      revert h; refine om_iteR (fun i1o h => ?_)
      revert h; refine om_letR (fun σ1o e1o h => ?_)
      refine om_iast O k2o (om_lt k2o (by decide)) i1o dX4_remake_27 e1o ?_
      refine om_iinc O (v1 := (v3 + 1)) (lv' := [(0, vR (some a0)), (3, vI (v3 + 1))]) 1 [1, 0] rfl dX4_remake_28 rfl rfl (by decide) rfl ?_
      refine om_goto O (tgt := 12) dX4_remake_31 (by decide) ?_
      exact ih _ _ _ ka0 h
def f_X4_remake  (a0 : Nat) (v1 : Int32) (v2 : Int32) (σ : om_S) : Option om_S := if om_kc a0 = 4 then om_let (om_w σ a0 1 v1) fun (σ1o : om_S) => om_let (om_w σ1o a0 2 v2) fun (σ2o : om_S) => f_X4_remake_b12 om_F a0 (0 : Int32) σ2o else none
set_option maxRecDepth 100000 in
theorem c_X4_remake (l : Launch) (G : om_G) {a0 : Nat} {v1 : Int32} {v2 : Int32} {σ : om_S} {τ : om_S} (h : f_X4_remake a0 v1 v2 σ = some τ) : om_D l G 0 yX4_remake cX4_remake 4 none 0 0 [vR (some a0), vI v1, vI v2] σ om_rf om_N none τ om_rf om_N := by
  refine om_Dof (lv := [(0, vR (some a0)), (1, vI v1), (2, vI v2)]) (by decide) rfl_le rfl (fun x O hE => ?_)
  change om_Ok x RX4 "remake" cX4_remake 4 none 0 0 0 at O
  unfold f_X4_remake at h
  revert h; refine om_iteR (fun ka0 h => ?_)
  refine om_aload_n O 0 dX4_remake_0 rfl rfl ?_
  refine om_iload_n O 1 dX4_remake_1 rfl rfl ?_
  revert h; refine om_letR (fun σ1o e1o h => ?_)
  refine pf_X4_15 O (Or.inl rfl) ka0 (om_lt ka0 (by decide)) dX4_remake_2 e1o ?_
  refine om_aload_n O 0 dX4_remake_5 rfl rfl ?_
  refine om_iload_n O 2 dX4_remake_6 rfl rfl ?_
  revert h; refine om_letR (fun σ2o e2o h => ?_)
  refine pf_X4_19 O (Or.inl rfl) ka0 (om_lt ka0 (by decide)) dX4_remake_7 e2o ?_
  refine om_iconst O (v := 0) dX4_remake_10 (by decide) ?_
  refine om_istore_n O (lv' := [(0, vR (some a0)), (3, vI (0 : Int32))]) [1, 0] rfl dX4_remake_11 rfl (by decide) rfl ?_
  exact g_X4_remake_b12 O hE om_F _ _ _ ka0 h
def f_X8_sheet_b34  (a0 : Nat) (σ : om_S) : Option (Int32 × om_S) := om_call (f_X8_refuse a0 (1 : Int32) σ) fun (r1o : Int32) (σ1o : om_S) => some (r1o, σ1o)
set_option maxRecDepth 100000 in
theorem g_X8_sheet_b34 {x : om_X}   (O : om_Ok x RX8 "sheet" cX8_sheet 5 (some FieldType.int) 1 0 0)   {r : Int32} {τ : om_S} (hE : om_End x (some (vI r)) τ om_rf om_N 0 0)   {a0 : Nat} {σ : om_S} (ka0 : om_kc a0 = 8) (h : f_X8_sheet_b34 a0 σ = some (r, τ)) : om_J x 34 [(0, vR (some a0))] [] σ om_rf om_N 0 0 := by
  unfold f_X8_sheet_b34 at h
  refine om_aload_n O 0 dX8_sheet_34 rfl rfl ?_
  refine om_iconst O (v := 1) dX8_sheet_35 (by decide) ?_
  revert h; refine om_callR (fun r1o σ1o g1o h => ?_)
  refine cl_X8_84 O (st := []) (stk := [vI (1 : Int32), vR (some a0)]) (st2 := [vI r1o]) [vI (1 : Int32)] (fun l G => c_X8_refuse l G g1o) ka0 (om_lt ka0 (by decide)) (by decide) rfl rfl rfl_le rfl rfl_le rfl_le dX8_sheet_36 ?_
  exact om_iret (st := []) O (om_eI hE h) rfl dX8_sheet_39
def f_X8_sheet_b82  (b0 : Nat) (s1 : Int32) (s2 : Int32) (σ : om_S) : Option (Int32 × om_S) := om_do (f_X4_remake b0 s1 s2 σ) fun (σ1o : om_S) => some ((1 : Int32), σ1o)
set_option maxRecDepth 100000 in
theorem g_X8_sheet_b82 {x : om_X}   (O : om_Ok x RX8 "sheet" cX8_sheet 5 (some FieldType.int) 1 0 0)   {r : Int32} {τ : om_S} (hE : om_End x (some (vI r)) τ om_rf om_N 0 0)   {b0 : Nat} {s1 : Int32} {s2 : Int32} {σ : om_S} (kb0 : om_kc b0 = 4) (h : f_X8_sheet_b82 b0 s1 s2 σ = some (r, τ)) : om_J x 82 [] [vI s2, vI s1, vR (some b0)] σ om_rf om_N 0 0 := by
  unfold f_X8_sheet_b82 at h
  revert h; refine om_doR (fun σ1o g1o h => ?_)
  refine cl_X8_243 O (st := []) (stk := [vI s2, vI s1, vR (some b0)]) (st2 := []) [vI s1, vI s2] (fun l G => c_X4_remake l G g1o) kb0 (om_lt kb0 (by decide)) (by decide) rfl rfl rfl_le rfl rfl_le rfl_le dX8_sheet_82 ?_
  refine om_iconst O (v := 1) dX8_sheet_85 (by decide) ?_
  exact om_iret (st := []) O (om_eI hE h) rfl dX8_sheet_86
def f_X8_sheet_b70  (v2 : Int32) (v3 : Int32) (a4 : Nat) (σ : om_S) : Option (Int32 × om_S) := if v2 = 0 then (f_X8_sheet_b82 a4 v2 (0 : Int32) σ) else (f_X8_sheet_b82 a4 v2 v3 σ)
set_option maxRecDepth 100000 in
theorem g_X8_sheet_b70 {x : om_X}   (O : om_Ok x RX8 "sheet" cX8_sheet 5 (some FieldType.int) 1 0 0)   {r : Int32} {τ : om_S} (hE : om_End x (some (vI r)) τ om_rf om_N 0 0)   {v2 : Int32} {v3 : Int32} {a4 : Nat} {σ : om_S} (ka4 : om_kc a4 = 4) (h : f_X8_sheet_b70 v2 v3 a4 σ = some (r, τ)) : om_J x 70 [(2, vI v2), (3, vI v3), (4, vR (some a4))] [] σ om_rf om_N 0 0 := by
  unfold f_X8_sheet_b70 at h
  refine om_aload O 2 dX8_sheet_70 rfl ?_
  refine om_iload_n O 0 dX8_sheet_72 rfl rfl ?_
  refine om_iload_n O 0 dX8_sheet_73 rfl rfl ?_
  refine om_if_ne O (tgt := 81) dX8_sheet_74 (by decide) (fun c1o => ?_) (fun c1o => ?_)
  · replace h := (if_pos c1o).symm.trans h
    refine om_iconst O (v := 0) dX8_sheet_77 (by decide) ?_
    refine om_goto O (tgt := 82) dX8_sheet_78 (by decide) ?_
    refine om_drop (lv' := []) [] rfl ?_
    exact g_X8_sheet_b82 O hE ka4 h
  · replace h := (if_neg c1o).symm.trans h
    refine om_iload_n O 1 dX8_sheet_81 rfl rfl ?_
    refine om_drop (lv' := []) [] rfl ?_
    exact g_X8_sheet_b82 O hE ka4 h
def f_X8_sheet_b54  (a0 : Nat) (v2 : Int32) (v3 : Int32) (a4 : Nat) (σ : om_S) : Option (Int32 × om_S) := if v2 = 0 then (f_X8_sheet_b70 v2 v3 a4 σ) else (if v3 ≤ (24 : Int32) then (f_X8_sheet_b70 v2 v3 a4 σ) else (om_call (f_X8_refuse a0 (1 : Int32) σ) fun (r1o : Int32) (σ1o : om_S) => some (r1o, σ1o)))
set_option maxRecDepth 100000 in
theorem g_X8_sheet_b54 {x : om_X}   (O : om_Ok x RX8 "sheet" cX8_sheet 5 (some FieldType.int) 1 0 0)   {r : Int32} {τ : om_S} (hE : om_End x (some (vI r)) τ om_rf om_N 0 0)   {a0 : Nat} {v2 : Int32} {v3 : Int32} {a4 : Nat} {σ : om_S} (ka0 : om_kc a0 = 8) (ka4 : om_kc a4 = 4) (h : f_X8_sheet_b54 a0 v2 v3 a4 σ = some (r, τ)) : om_J x 54 [(0, vR (some a0)), (2, vI v2), (3, vI v3), (4, vR (some a4))] [] σ om_rf om_N 0 0 := by
  unfold f_X8_sheet_b54 at h
  refine om_iload_n O 1 dX8_sheet_54 rfl rfl ?_
  refine om_if_eq O (tgt := 70) dX8_sheet_55 (by decide) (fun c1o => ?_) (fun c1o => ?_)
  · replace h := (if_pos c1o).symm.trans h
    refine om_drop (lv' := [(2, vI v2), (3, vI v3), (4, vR (some a4))]) [1, 2, 3] rfl ?_
    exact g_X8_sheet_b70 O hE ka4 h
  · replace h := (if_neg c1o).symm.trans h
    refine om_iload_n O 2 dX8_sheet_58 rfl rfl ?_
    refine om_bipush O (v := 24) dX8_sheet_59 (by decide) ?_
    refine om_icmp_le O (tgt := 70) dX8_sheet_61 (by decide) (fun c2o => ?_) (fun c2o => ?_)
    · replace h := (if_pos c2o).symm.trans h
      refine om_drop (lv' := [(2, vI v2), (3, vI v3), (4, vR (some a4))]) [1, 2, 3] rfl ?_
      exact g_X8_sheet_b70 O hE ka4 h
    · replace h := (if_neg c2o).symm.trans h
      refine om_aload_n O 0 dX8_sheet_64 rfl rfl ?_
      refine om_iconst O (v := 1) dX8_sheet_65 (by decide) ?_
      revert h; refine om_callR (fun r1o σ1o g1o h => ?_)
      refine cl_X8_84 O (st := []) (stk := [vI (1 : Int32), vR (some a0)]) (st2 := [vI r1o]) [vI (1 : Int32)] (fun l G => c_X8_refuse l G g1o) ka0 (om_lt ka0 (by decide)) (by decide) rfl rfl rfl_le rfl rfl_le rfl_le dX8_sheet_66 ?_
      exact om_iret (st := []) O (om_eI hE h) rfl dX8_sheet_69
def f_X8_sheet_b40  (a0 : Nat) (v2 : Int32) (v3 : Int32) (a4 : Nat) (σ : om_S) : Option (Int32 × om_S) := if v2 = 0 then (f_X8_sheet_b54 a0 v2 v3 a4 σ) else (if 0 ≤ v3 then (f_X8_sheet_b54 a0 v2 v3 a4 σ) else (om_call (f_X8_refuse a0 (3 : Int32) σ) fun (r1o : Int32) (σ1o : om_S) => some (r1o, σ1o)))
set_option maxRecDepth 100000 in
theorem g_X8_sheet_b40 {x : om_X}   (O : om_Ok x RX8 "sheet" cX8_sheet 5 (some FieldType.int) 1 0 0)   {r : Int32} {τ : om_S} (hE : om_End x (some (vI r)) τ om_rf om_N 0 0)   {a0 : Nat} {v2 : Int32} {v3 : Int32} {a4 : Nat} {σ : om_S} (ka0 : om_kc a0 = 8) (ka4 : om_kc a4 = 4) (h : f_X8_sheet_b40 a0 v2 v3 a4 σ = some (r, τ)) : om_J x 40 [(0, vR (some a0)), (2, vI v2), (3, vI v3), (4, vR (some a4))] [] σ om_rf om_N 0 0 := by
  unfold f_X8_sheet_b40 at h
  refine om_iload_n O 1 dX8_sheet_40 rfl rfl ?_
  refine om_if_eq O (tgt := 54) dX8_sheet_41 (by decide) (fun c1o => ?_) (fun c1o => ?_)
  · replace h := (if_pos c1o).symm.trans h
    exact g_X8_sheet_b54 O hE ka0 ka4 h
  · replace h := (if_neg c1o).symm.trans h
    refine om_iload_n O 2 dX8_sheet_44 rfl rfl ?_
    refine om_if_ge O (tgt := 54) dX8_sheet_45 (by decide) (fun c2o => ?_) (fun c2o => ?_)
    · replace h := (if_pos c2o).symm.trans h
      exact g_X8_sheet_b54 O hE ka0 ka4 h
    · replace h := (if_neg c2o).symm.trans h
      refine om_aload_n O 0 dX8_sheet_48 rfl rfl ?_
      refine om_iconst O (v := 3) dX8_sheet_49 (by decide) ?_
      revert h; refine om_callR (fun r1o σ1o g1o h => ?_)
      refine cl_X8_84 O (st := []) (stk := [vI (3 : Int32), vR (some a0)]) (st2 := [vI r1o]) [vI (3 : Int32)] (fun l G => c_X8_refuse l G g1o) ka0 (om_lt ka0 (by decide)) (by decide) rfl rfl rfl_le rfl rfl_le rfl_le dX8_sheet_50 ?_
      exact om_iret (st := []) O (om_eI hE h) rfl dX8_sheet_53
def f_X8_sheet  (a0 : Nat) (v1 : Int32) (v2 : Int32) (v3 : Int32) (σ : om_S) : Option (Int32 × om_S) := if om_kc a0 = 8 then om_call (f_X8_sheetAt a0 v1 σ) fun (r1o : Option Nat) (σ1o : om_S) => om_nul r1o 4 (f_X8_sheet_b34 a0 σ1o) fun (t1o : Nat) => if v2 = 0 then (f_X8_sheet_b40 a0 v2 v3 t1o σ1o) else (if v2 = (8 : Int32) then (f_X8_sheet_b40 a0 v2 v3 t1o σ1o) else (if v2 = (16 : Int32) then (f_X8_sheet_b40 a0 v2 v3 t1o σ1o) else (if v2 = (32 : Int32) then (f_X8_sheet_b40 a0 v2 v3 t1o σ1o) else (f_X8_sheet_b34 a0 σ1o)))) else none
set_option maxRecDepth 100000 in
theorem c_X8_sheet (l : Launch) (G : om_G) {a0 : Nat} {v1 : Int32} {v2 : Int32} {v3 : Int32} {σ : om_S} {r : Int32} {τ : om_S} (h : f_X8_sheet a0 v1 v2 v3 σ = some (r, τ)) : om_D l G 1 yX8_sheet cX8_sheet 5 (some FieldType.int) 0 0 [vR (some a0), vI v1, vI v2, vI v3] σ om_rf om_N (some (vI r)) τ om_rf om_N := by
  refine om_Dof (lv := [(0, vR (some a0)), (1, vI v1), (2, vI v2), (3, vI v3)]) (by decide) rfl_le rfl (fun x O hE => ?_)
  change om_Ok x RX8 "sheet" cX8_sheet 5 (some FieldType.int) 1 0 0 at O
  unfold f_X8_sheet at h
  revert h; refine om_iteR (fun ka0 h => ?_)
  refine om_aload_n O 0 dX8_sheet_0 rfl rfl ?_
  refine om_iload_n O 1 dX8_sheet_1 rfl rfl ?_
  revert h; refine om_callR (fun r1o σ1o g1o h => ?_)
  refine cl_X8_216 O (st := []) (stk := [vI v1, vR (some a0)]) (st2 := [vR r1o]) [vI v1] (fun l G => c_X8_sheetAt l G g1o) ka0 (om_lt ka0 (by decide)) (by decide) rfl rfl rfl_le rfl rfl_le rfl_le dX8_sheet_2 ?_
  refine om_astore O (lv' := [(0, vR (some a0)), (2, vI v2), (3, vI v3), (4, vR r1o)]) [1, 3, 4, 0] dX8_sheet_5 (by decide) rfl ?_
  refine om_aload O 3 dX8_sheet_7 rfl ?_
  revert h; refine om_nulR (fun yy h => ?_) (fun t1o yy k1o h => ?_)
  · subst yy
    refine om_ifnullN O (tgt := 34) dX8_sheet_9 (by decide) ?_
    refine om_drop (lv' := [(0, vR (some a0))]) [0] rfl ?_
    exact g_X8_sheet_b34 O hE ka0 h
  · subst yy
    refine om_ifnullS O dX8_sheet_9 ?_
    refine om_iload_n O 1 dX8_sheet_12 rfl rfl ?_
    refine om_if_eq O (tgt := 40) dX8_sheet_13 (by decide) (fun c1o => ?_) (fun c1o => ?_)
    · replace h := (if_pos c1o).symm.trans h
      exact g_X8_sheet_b40 O hE ka0 k1o h
    · replace h := (if_neg c1o).symm.trans h
      refine om_iload_n O 1 dX8_sheet_16 rfl rfl ?_
      refine om_bipush O (v := 8) dX8_sheet_17 (by decide) ?_
      refine om_icmp_eq O (tgt := 40) dX8_sheet_19 (by decide) (fun c2o => ?_) (fun c2o => ?_)
      · replace h := (if_pos c2o).symm.trans h
        exact g_X8_sheet_b40 O hE ka0 k1o h
      · replace h := (if_neg c2o).symm.trans h
        refine om_iload_n O 1 dX8_sheet_22 rfl rfl ?_
        refine om_bipush O (v := 16) dX8_sheet_23 (by decide) ?_
        refine om_icmp_eq O (tgt := 40) dX8_sheet_25 (by decide) (fun c3o => ?_) (fun c3o => ?_)
        · replace h := (if_pos c3o).symm.trans h
          exact g_X8_sheet_b40 O hE ka0 k1o h
        · replace h := (if_neg c3o).symm.trans h
          refine om_iload_n O 1 dX8_sheet_28 rfl rfl ?_
          refine om_bipush O (v := 32) dX8_sheet_29 (by decide) ?_
          refine om_icmp_eq O (tgt := 40) dX8_sheet_31 (by decide) (fun c4o => ?_) (fun c4o => ?_)
          · replace h := (if_pos c4o).symm.trans h
            exact g_X8_sheet_b40 O hE ka0 k1o h
          · replace h := (if_neg c4o).symm.trans h
            refine om_drop (lv' := [(0, vR (some a0))]) [0] rfl ?_
            exact g_X8_sheet_b34 O hE ka0 h
def f_X4_write_b42  (b0 : Nat) (s1 : Int32) (s2 : Int32) (σ : om_S) : Option om_S := if om_in s1 (om_al b0) then om_let (om_w σ b0 s1.toNatClampNeg s2) fun (σ1o : om_S) => some σ1o else none
set_option maxRecDepth 100000 in
theorem g_X4_write_b42 {x : om_X}   (O : om_Ok x RX4 "write" cX4_write 3 none 1 0 0)   {τ : om_S} (hE : om_End x none τ om_rf om_N 0 0)   {b0 : Nat} {s1 : Int32} {s2 : Int32} {σ : om_S} (kb0 : om_kc b0 = 20) (h : f_X4_write_b42 b0 s1 s2 σ = some τ) : om_J x 42 [] [vI s2, vI s1, vR (some b0)] σ om_rf om_N 0 0 := by
  unfold f_X4_write_b42 at h
  revert h; refine om_iteR (fun i1o h => ?_)
  revert h; refine om_letR (fun σ1o e1o h => ?_)
  refine om_iast O kb0 (om_lt kb0 (by decide)) i1o dX4_write_42 e1o ?_
  exact om_vret (st := []) O (om_eV hE h) rfl dX4_write_43
def f_X4_write  (a0 : Nat) (v1 : Int32) (v2 : Int32) (σ : om_S) : Option om_S := if om_kc a0 = 4 then om_call (f_X4_has a0 v1 σ) fun (r1o : Int32) (σ1o : om_S) => if r1o = 0 then (some σ1o) else (om_ref (om_rf a0 0) 20 fun (t1o : Nat) => if (σ1o a0 1) = (8 : Int32) then (f_X4_write_b42 t1o v1 (v2.toInt8.toInt32) σ1o) else (if (σ1o a0 1) = (16 : Int32) then (f_X4_write_b42 t1o v1 (v2.toInt16.toInt32) σ1o) else (f_X4_write_b42 t1o v1 v2 σ1o))) else none
set_option maxRecDepth 100000 in
theorem c_X4_write (l : Launch) (G : om_G) {a0 : Nat} {v1 : Int32} {v2 : Int32} {σ : om_S} {τ : om_S} (h : f_X4_write a0 v1 v2 σ = some τ) : om_D l G 1 yX4_write cX4_write 3 none 0 0 [vR (some a0), vI v1, vI v2] σ om_rf om_N none τ om_rf om_N := by
  refine om_Dof (lv := [(0, vR (some a0)), (1, vI v1), (2, vI v2)]) (by decide) rfl_le rfl (fun x O hE => ?_)
  change om_Ok x RX4 "write" cX4_write 3 none 1 0 0 at O
  unfold f_X4_write at h
  revert h; refine om_iteR (fun ka0 h => ?_)
  refine om_aload_n O 0 dX4_write_0 rfl rfl ?_
  refine om_iload_n O 1 dX4_write_1 rfl rfl ?_
  revert h; refine om_callR (fun r1o σ1o g1o h => ?_)
  refine cl_X4_22 O (st := []) (stk := [vI v1, vR (some a0)]) (st2 := [vI r1o]) [vI v1] (fun l G => c_X4_has l G g1o) ka0 (om_lt ka0 (by decide)) (by decide) rfl rfl rfl_le rfl rfl_le rfl_le dX4_write_2 ?_
  refine om_if_eq O (tgt := 43) dX4_write_5 (by decide) (fun c1o => ?_) (fun c1o => ?_)
  · replace h := (if_pos c1o).symm.trans h
    exact om_vret (st := []) O (om_eV hE h) rfl dX4_write_43
  · replace h := (if_neg c1o).symm.trans h
    refine om_aload_n O 0 dX4_write_8 rfl rfl ?_
    revert h; refine om_refR (fun t1o y1o k1o h => ?_)
    refine gf_X4_9 O ka0 (om_lt ka0 (by decide)) dX4_write_9 ?_
    rw [y1o]
    refine om_iload_n O 1 dX4_write_12 rfl rfl ?_
    refine om_aload_n O 0 dX4_write_13 rfl rfl ?_
    refine gf_X4_15 O ka0 (om_lt ka0 (by decide)) dX4_write_14 ?_
    refine om_bipush O (v := 8) dX4_write_17 (by decide) ?_
    refine om_icmp_ne O (tgt := 27) dX4_write_19 (by decide) (fun c2o => ?_) (fun c2o => ?_)
    · replace h := (if_pos c2o).symm.trans h
      refine om_iload_n O 2 dX4_write_22 rfl rfl ?_
      refine om_i2b O dX4_write_23 ?_
      refine om_goto O (tgt := 42) dX4_write_24 (by decide) ?_
      refine om_drop (lv' := []) [] rfl ?_
      exact g_X4_write_b42 O hE k1o h
    · replace h := (if_neg c2o).symm.trans h
      refine om_aload_n O 0 dX4_write_27 rfl rfl ?_
      refine gf_X4_15 O ka0 (om_lt ka0 (by decide)) dX4_write_28 ?_
      refine om_bipush O (v := 16) dX4_write_31 (by decide) ?_
      refine om_icmp_ne O (tgt := 41) dX4_write_33 (by decide) (fun c3o => ?_) (fun c3o => ?_)
      · replace h := (if_pos c3o).symm.trans h
        refine om_iload_n O 2 dX4_write_36 rfl rfl ?_
        refine om_i2s O dX4_write_37 ?_
        refine om_goto O (tgt := 42) dX4_write_38 (by decide) ?_
        refine om_drop (lv' := []) [] rfl ?_
        exact g_X4_write_b42 O hE k1o h
      · replace h := (if_neg c3o).symm.trans h
        refine om_iload_n O 2 dX4_write_41 rfl rfl ?_
        refine om_drop (lv' := []) [] rfl ?_
        exact g_X4_write_b42 O hE k1o h
