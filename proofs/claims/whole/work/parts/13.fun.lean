def f_X8_put  (a0 : Nat) (v1 : Int32) (v2 : Int32) (v3 : Int32) (σ : om_S) : Option (Int32 × om_S) := if om_kc a0 = 8 then om_call (f_X8_sheetAt a0 v1 σ) fun (r1o : Option Nat) (σ1o : om_S) => om_nul r1o 4 (om_call (f_X8_refuse a0 (1 : Int32) σ1o) fun (r2o : Int32) (σ2o : om_S) => some (r2o, σ2o)) fun (t1o : Nat) => om_call (f_X4_isMissing t1o σ1o) fun (r3o : Int32) (σ3o : om_S) => if r3o = 0 then (om_call (f_X4_has t1o v2 σ3o) fun (r4o : Int32) (σ4o : om_S) => if r4o = 0 then (om_call (f_X8_refuse a0 (1 : Int32) σ4o) fun (r5o : Int32) (σ5o : om_S) => some (r5o, σ5o)) else (om_do (f_X4_write t1o v2 v3 σ4o) fun (σ6o : om_S) => some ((1 : Int32), σ6o))) else (om_call (f_X8_refuse a0 (2 : Int32) σ3o) fun (r6o : Int32) (σ7o : om_S) => some (r6o, σ7o)) else none
set_option maxRecDepth 100000 in
theorem c_X8_put (l : Launch) (G : om_G) {a0 : Nat} {v1 : Int32} {v2 : Int32} {v3 : Int32} {σ : om_S} {r : Int32} {τ : om_S} (h : f_X8_put a0 v1 v2 v3 σ = some (r, τ)) : om_D l G 2 yX8_put cX8_put 5 (some FieldType.int) 0 0 [vR (some a0), vI v1, vI v2, vI v3] σ om_rf om_N (some (vI r)) τ om_rf om_N := by
  refine om_Dof (lv := [(0, vR (some a0)), (1, vI v1), (2, vI v2), (3, vI v3)]) (by decide) rfl_le rfl (fun x O hE => ?_)
  change om_Ok x RX8 "put" cX8_put 5 (some FieldType.int) 2 0 0 at O
  unfold f_X8_put at h
  revert h; refine om_iteR (fun ka0 h => ?_)
  refine om_aload_n O 0 dX8_put_0 rfl rfl ?_
  refine om_iload_n O 1 dX8_put_1 rfl rfl ?_
  revert h; refine om_callR (fun r1o σ1o g1o h => ?_)
  refine cl_X8_216 O (st := []) (stk := [vI v1, vR (some a0)]) (st2 := [vR r1o]) [vI v1] (fun l G => c_X8_sheetAt l G g1o) ka0 (om_lt ka0 (by decide)) (by decide) rfl rfl rfl_le rfl rfl_le rfl_le dX8_put_2 ?_
  refine om_astore O (lv' := [(0, vR (some a0)), (2, vI v2), (3, vI v3), (4, vR r1o)]) [1, 3, 4, 0] dX8_put_5 (by decide) rfl ?_
  refine om_aload O 3 dX8_put_7 rfl ?_
  revert h; refine om_nulR (fun yy h => ?_) (fun t1o yy k1o h => ?_)
  · subst yy
    refine om_ifnonnullN O dX8_put_9 ?_
    refine om_aload_n O 0 dX8_put_12 rfl rfl ?_
    refine om_iconst O (v := 1) dX8_put_13 (by decide) ?_
    revert h; refine om_callR (fun r2o σ2o g2o h => ?_)
    refine cl_X8_84 O (st := []) (stk := [vI (1 : Int32), vR (some a0)]) (st2 := [vI r2o]) [vI (1 : Int32)] (fun l G => c_X8_refuse l G g2o) ka0 (om_lt ka0 (by decide)) (by decide) rfl rfl rfl_le rfl rfl_le rfl_le dX8_put_14 ?_
    exact om_iret (st := []) O (om_eI hE h) rfl dX8_put_17
  · subst yy
    refine om_ifnonnullS O (tgt := 18) dX8_put_9 (by decide) ?_
    refine om_aload O 3 dX8_put_18 rfl ?_
    revert h; refine om_callR (fun r3o σ3o g3o h => ?_)
    refine cl_X8_220 O (st := []) (stk := [vR (some t1o)]) (st2 := [vI r3o]) [] (fun l G => c_X4_isMissing l G g3o) k1o (om_lt k1o (by decide)) (by decide) rfl rfl rfl_le rfl rfl_le rfl_le dX8_put_20 ?_
    refine om_if_eq O (tgt := 32) dX8_put_23 (by decide) (fun c1o => ?_) (fun c1o => ?_)
    · replace h := (if_pos c1o).symm.trans h
      refine om_aload O 3 dX8_put_32 rfl ?_
      refine om_iload_n O 1 dX8_put_34 rfl rfl ?_
      revert h; refine om_callR (fun r4o σ4o g4o h => ?_)
      refine cl_X8_247 O (st := []) (stk := [vI v2, vR (some t1o)]) (st2 := [vI r4o]) [vI v2] (fun l G => c_X4_has l G g4o) k1o (om_lt k1o (by decide)) (by decide) rfl rfl rfl_le rfl rfl_le rfl_le dX8_put_35 ?_
      refine om_if_ne O (tgt := 47) dX8_put_38 (by decide) (fun c2o => ?_) (fun c2o => ?_)
      · replace h := (if_pos c2o).symm.trans h
        refine om_aload_n O 0 dX8_put_41 rfl rfl ?_
        refine om_iconst O (v := 1) dX8_put_42 (by decide) ?_
        revert h; refine om_callR (fun r5o σ5o g5o h => ?_)
        refine cl_X8_84 O (st := []) (stk := [vI (1 : Int32), vR (some a0)]) (st2 := [vI r5o]) [vI (1 : Int32)] (fun l G => c_X8_refuse l G g5o) ka0 (om_lt ka0 (by decide)) (by decide) rfl rfl rfl_le rfl rfl_le rfl_le dX8_put_43 ?_
        exact om_iret (st := []) O (om_eI hE h) rfl dX8_put_46
      · replace h := (if_neg c2o).symm.trans h
        refine om_aload O 3 dX8_put_47 rfl ?_
        refine om_iload_n O 1 dX8_put_49 rfl rfl ?_
        refine om_iload_n O 2 dX8_put_50 rfl rfl ?_
        revert h; refine om_doR (fun σ6o g6o h => ?_)
        refine cl_X8_248 O (st := []) (stk := [vI v3, vI v2, vR (some t1o)]) (st2 := []) [vI v2, vI v3] (fun l G => c_X4_write l G g6o) k1o (om_lt k1o (by decide)) (by decide) rfl rfl rfl_le rfl rfl_le rfl_le dX8_put_51 ?_
        refine om_iconst O (v := 1) dX8_put_54 (by decide) ?_
        exact om_iret (st := []) O (om_eI hE h) rfl dX8_put_55
    · replace h := (if_neg c1o).symm.trans h
      refine om_aload_n O 0 dX8_put_26 rfl rfl ?_
      refine om_iconst O (v := 2) dX8_put_27 (by decide) ?_
      revert h; refine om_callR (fun r6o σ7o g7o h => ?_)
      refine cl_X8_84 O (st := []) (stk := [vI (2 : Int32), vR (some a0)]) (st2 := [vI r6o]) [vI (2 : Int32)] (fun l G => c_X8_refuse l G g7o) ka0 (om_lt ka0 (by decide)) (by decide) rfl rfl rfl_le rfl rfl_le rfl_le dX8_put_28 ?_
      exact om_iret (st := []) O (om_eI hE h) rfl dX8_put_31
def f_X4_hasRun  (a0 : Nat) (v1 : Int32) (v2 : Int32) (σ : om_S) : Option (Int32 × om_S) := if om_kc a0 = 4 then if v1 < 0 then (some ((0 : Int32), σ)) else (if v2 < 0 then (some ((0 : Int32), σ)) else (if (σ a0 2) < v1 then (some ((0 : Int32), σ)) else (if ((σ a0 2) - v1) < v2 then (some ((0 : Int32), σ)) else (some ((1 : Int32), σ))))) else none
set_option maxRecDepth 100000 in
theorem c_X4_hasRun (l : Launch) (G : om_G) {a0 : Nat} {v1 : Int32} {v2 : Int32} {σ : om_S} {r : Int32} {τ : om_S} (h : f_X4_hasRun a0 v1 v2 σ = some (r, τ)) : om_D l G 0 yX4_hasRun cX4_hasRun 3 (some FieldType.boolean) 0 0 [vR (some a0), vI v1, vI v2] σ om_rf om_N (some (vI r)) τ om_rf om_N := by
  refine om_Dof (lv := [(0, vR (some a0)), (1, vI v1), (2, vI v2)]) (by decide) rfl_le rfl (fun x O hE => ?_)
  change om_Ok x RX4 "hasRun" cX4_hasRun 3 (some FieldType.boolean) 0 0 0 at O
  unfold f_X4_hasRun at h
  revert h; refine om_iteR (fun ka0 h => ?_)
  refine om_iload_n O 1 dX4_hasRun_0 rfl rfl ?_
  refine om_if_lt O (tgt := 30) dX4_hasRun_1 (by decide) (fun c1o => ?_) (fun c1o => ?_)
  · replace h := (if_pos c1o).symm.trans h
    refine om_iconst O (v := 0) dX4_hasRun_30 (by decide) ?_
    exact om_zret (st := []) O (Or.inl rfl) (om_eI hE h) rfl dX4_hasRun_31
  · replace h := (if_neg c1o).symm.trans h
    refine om_iload_n O 2 dX4_hasRun_4 rfl rfl ?_
    refine om_if_lt O (tgt := 30) dX4_hasRun_5 (by decide) (fun c2o => ?_) (fun c2o => ?_)
    · replace h := (if_pos c2o).symm.trans h
      refine om_iconst O (v := 0) dX4_hasRun_30 (by decide) ?_
      exact om_zret (st := []) O (Or.inl rfl) (om_eI hE h) rfl dX4_hasRun_31
    · replace h := (if_neg c2o).symm.trans h
      refine om_iload_n O 1 dX4_hasRun_8 rfl rfl ?_
      refine om_aload_n O 0 dX4_hasRun_9 rfl rfl ?_
      refine gf_X4_19 O ka0 (om_lt ka0 (by decide)) dX4_hasRun_10 ?_
      refine om_icmp_gt O (tgt := 30) dX4_hasRun_13 (by decide) (fun c3o => ?_) (fun c3o => ?_)
      · replace h := (if_pos c3o).symm.trans h
        refine om_iconst O (v := 0) dX4_hasRun_30 (by decide) ?_
        exact om_zret (st := []) O (Or.inl rfl) (om_eI hE h) rfl dX4_hasRun_31
      · replace h := (if_neg c3o).symm.trans h
        refine om_iload_n O 2 dX4_hasRun_16 rfl rfl ?_
        refine om_aload_n O 0 dX4_hasRun_17 rfl rfl ?_
        refine gf_X4_19 O ka0 (om_lt ka0 (by decide)) dX4_hasRun_18 ?_
        refine om_iload_n O 1 dX4_hasRun_21 rfl rfl ?_
        refine om_isub O dX4_hasRun_22 ?_
        refine om_icmp_gt O (tgt := 30) dX4_hasRun_23 (by decide) (fun c4o => ?_) (fun c4o => ?_)
        · replace h := (if_pos c4o).symm.trans h
          refine om_iconst O (v := 0) dX4_hasRun_30 (by decide) ?_
          exact om_zret (st := []) O (Or.inl rfl) (om_eI hE h) rfl dX4_hasRun_31
        · replace h := (if_neg c4o).symm.trans h
          refine om_iconst O (v := 1) dX4_hasRun_26 (by decide) ?_
          refine om_goto O (tgt := 31) dX4_hasRun_27 (by decide) ?_
          exact om_zret (st := []) O (Or.inr rfl) (om_eI hE h) rfl dX4_hasRun_31
def f_X4_take_b34 (lp3 : Nat → Nat → Int32 → Int32 → Int32 → Int32 → om_S → Option om_S) (a0 : Nat) (a1 : Nat) (v2 : Int32) (v3 : Int32) (v4 : Int32) (v5 : Int32) (s0 : Int32) (σ : om_S) : Option om_S := om_call (f_X4_at a1 (v2 + s0) σ) fun (r1o : Int32) (σ1o : om_S) => om_do (f_X4_write a0 (v3 + s0) r1o σ1o) fun (σ2o : om_S) => lp3 a0 a1 v2 v3 v4 (v5 + 1) σ2o
set_option maxRecDepth 100000 in
theorem g_X4_take_b34 {x : om_X}   (O : om_Ok x RX4 "take" cX4_take 7 none 2 0 0)   {τ : om_S} (hE : om_End x none τ om_rf om_N 0 0) {lp3 : Nat → Nat → Int32 → Int32 → Int32 → Int32 → om_S → Option om_S} (L3 : ∀ (a0 : Nat) (a1 : Nat) (v2 : Int32) (v3 : Int32) (v4 : Int32) (v5 : Int32) (σ : om_S) (ka0 : om_kc a0 = 4) (ka1 : om_kc a1 = 4), lp3 a0 a1 v2 v3 v4 v5 σ = some τ → om_J x 3 [(0, vR (some a0)), (1, vR (some a1)), (2, vI v2), (3, vI v3), (4, vI v4), (5, vI v5)] [] σ om_rf om_N 0 0) {a0 : Nat} {a1 : Nat} {v2 : Int32} {v3 : Int32} {v4 : Int32} {v5 : Int32} {s0 : Int32} {σ : om_S} (ka0 : om_kc a0 = 4) (ka1 : om_kc a1 = 4) (h : f_X4_take_b34 lp3 a0 a1 v2 v3 v4 v5 s0 σ = some τ) : om_J x 34 [(0, vR (some a0)), (1, vR (some a1)), (2, vI v2), (3, vI v3), (4, vI v4), (5, vI v5)] [vI s0] σ om_rf om_N 0 0 := by
  unfold f_X4_take_b34 at h
  refine om_istore O (lv' := [(0, vR (some a0)), (1, vR (some a1)), (2, vI v2), (3, vI v3), (4, vI v4), (5, vI v5), (6, vI s0)]) [1, 2, 3, 4, 5, 6, 0] rfl dX4_take_34 (by decide) rfl ?_
  refine om_aload_n O 0 dX4_take_36 rfl rfl ?_
  refine om_iload_n O 3 dX4_take_37 rfl rfl ?_
  refine om_iload O 6 dX4_take_38 rfl ?_
  refine om_iadd O dX4_take_40 ?_
  refine om_aload_n O 1 dX4_take_41 rfl rfl ?_
  refine om_iload_n O 2 dX4_take_42 rfl rfl ?_
  refine om_iload O 6 dX4_take_43 rfl ?_
  refine om_iadd O dX4_take_45 ?_
  revert h; refine om_callR (fun r1o σ1o g1o h => ?_)
  refine cl_X4_26 O (st := [vI (v3 + s0), vR (some a0)]) (stk := [vI (v2 + s0), vR (some a1), vI (v3 + s0), vR (some a0)]) (st2 := [vI r1o, vI (v3 + s0), vR (some a0)]) [vI (v2 + s0)] (fun l G => c_X4_at l G g1o) ka1 (om_lt ka1 (by decide)) (by decide) rfl rfl rfl_le rfl rfl_le rfl_le dX4_take_46 ?_
  revert h; refine om_doR (fun σ2o g2o h => ?_)
  refine cl_X4_30 O (st := []) (stk := [vI r1o, vI (v3 + s0), vR (some a0)]) (st2 := []) [vI (v3 + s0), vI r1o] (fun l G => c_X4_write l G g2o) ka0 (om_lt ka0 (by decide)) (by decide) rfl rfl rfl_le rfl rfl_le rfl_le dX4_take_49 ?_
  refine om_iinc O (v1 := (v5 + 1)) (lv' := [(0, vR (some a0)), (1, vR (some a1)), (2, vI v2), (3, vI v3), (4, vI v4), (5, vI (v5 + 1))]) 5 [1, 2, 3, 4, 5, 0] rfl dX4_take_52 rfl rfl (by decide) rfl ?_
  refine om_goto O (tgt := 3) dX4_take_55 (by decide) ?_
  exact L3 _ _ _ _ _ _ _ ka0 ka1 h
def f_X4_take_b3  : Nat → Nat → Nat → Int32 → Int32 → Int32 → Int32 → om_S → Option om_S
  | 0, _, _, _, _, _, _, _ => none
  | F + 1, a0, a1, v2, v3, v4, v5, σ => if v4 ≤ v5 then (some σ) else (if (24 : Int32) ≤ v5 then (some σ) else (if v2 < v3 then (f_X4_take_b34 (f_X4_take_b3 F) a0 a1 v2 v3 v4 v5 ((v4 - (1 : Int32)) - v5) σ) else (f_X4_take_b34 (f_X4_take_b3 F) a0 a1 v2 v3 v4 v5 v5 σ)))
set_option maxRecDepth 100000 in
theorem g_X4_take_b3 {x : om_X}   (O : om_Ok x RX4 "take" cX4_take 7 none 2 0 0)   {τ : om_S} (hE : om_End x none τ om_rf om_N 0 0)   : ∀ (F : Nat) (a0 : Nat) (a1 : Nat) (v2 : Int32) (v3 : Int32) (v4 : Int32) (v5 : Int32) (σ : om_S) (ka0 : om_kc a0 = 4) (ka1 : om_kc a1 = 4), f_X4_take_b3 F a0 a1 v2 v3 v4 v5 σ = some τ → om_J x 3 [(0, vR (some a0)), (1, vR (some a1)), (2, vI v2), (3, vI v3), (4, vI v4), (5, vI v5)] [] σ om_rf om_N 0 0 := by
  intro F
  induction F with
  | zero =>
    intro a0 a1 v2 v3 v4 v5 σ ka0 ka1 h
    cases h
  | succ F ih =>
    intro a0 a1 v2 v3 v4 v5 σ ka0 ka1 h
    unfold f_X4_take_b3 at h
    refine om_iload O 5 dX4_take_3 rfl ?_
    refine om_iload O 4 dX4_take_5 rfl ?_
    refine om_icmp_ge O (tgt := 58) dX4_take_7 (by decide) (fun c1o => ?_) (fun c1o => ?_)
    · replace h := (if_pos c1o).symm.trans h
      exact om_vret (st := []) O (om_eV hE h) rfl dX4_take_58
    · replace h := (if_neg c1o).symm.trans h
      refine om_iload O 5 dX4_take_10 rfl ?_
      refine om_bipush O (v := 24) dX4_take_12 (by decide) ?_
      refine om_icmp_ge O (tgt := 58) dX4_take_14 (by decide) (fun c2o => ?_) (fun c2o => ?_)
      · replace h := (if_pos c2o).symm.trans h
        exact om_vret (st := []) O (om_eV hE h) rfl dX4_take_58
      · replace h := (if_neg c2o).symm.trans h
        refine om_iload_n O 2 dX4_take_17 rfl rfl ?_
        refine om_iload_n O 3 dX4_take_18 rfl rfl ?_
        refine om_icmp_lt O (tgt := 27) dX4_take_19 (by decide) (fun c3o => ?_) (fun c3o => ?_)
        · replace h := (if_pos c3o).symm.trans h
          refine om_iload O 4 dX4_take_27 rfl ?_
          refine om_iconst O (v := 1) dX4_take_29 (by decide) ?_
          refine om_isub O dX4_take_30 ?_
          refine om_iload O 5 dX4_take_31 rfl ?_
          refine om_isub O dX4_take_33 ?_
          exact g_X4_take_b34 O hE ih ka0 ka1 h
        · replace h := (if_neg c3o).symm.trans h
          refine om_iload O 5 dX4_take_22 rfl ?_
          refine om_goto O (tgt := 34) dX4_take_24 (by decide) ?_
          exact g_X4_take_b34 O hE ih ka0 ka1 h
def f_X4_take  (a0 : Nat) (a1 : Nat) (v2 : Int32) (v3 : Int32) (v4 : Int32) (σ : om_S) : Option om_S := if om_kc a0 = 4 then if om_kc a1 = 4 then f_X4_take_b3 om_F a0 a1 v2 v3 v4 (0 : Int32) σ else none else none
set_option maxRecDepth 100000 in
theorem c_X4_take (l : Launch) (G : om_G) {a0 : Nat} {a1 : Nat} {v2 : Int32} {v3 : Int32} {v4 : Int32} {σ : om_S} {τ : om_S} (h : f_X4_take a0 a1 v2 v3 v4 σ = some τ) : om_D l G 2 yX4_take cX4_take 7 none 0 0 [vR (some a0), vR (some a1), vI v2, vI v3, vI v4] σ om_rf om_N none τ om_rf om_N := by
  refine om_Dof (lv := [(0, vR (some a0)), (1, vR (some a1)), (2, vI v2), (3, vI v3), (4, vI v4)]) (by decide) rfl_le rfl (fun x O hE => ?_)
  change om_Ok x RX4 "take" cX4_take 7 none 2 0 0 at O
  unfold f_X4_take at h
  revert h; refine om_iteR (fun ka0 h => ?_)
  revert h; refine om_iteR (fun ka1 h => ?_)
  refine om_iconst O (v := 0) dX4_take_0 (by decide) ?_
  refine om_istore O (lv' := [(0, vR (some a0)), (1, vR (some a1)), (2, vI v2), (3, vI v3), (4, vI v4), (5, vI (0 : Int32))]) [1, 2, 3, 4, 5, 0] rfl dX4_take_1 (by decide) rfl ?_
  exact g_X4_take_b3 O hE om_F _ _ _ _ _ _ _ ka0 ka1 h
def f_X8_move_b24  (a0 : Nat) (σ : om_S) : Option (Int32 × om_S) := om_call (f_X8_refuse a0 (1 : Int32) σ) fun (r1o : Int32) (σ1o : om_S) => some (r1o, σ1o)
set_option maxRecDepth 100000 in
theorem g_X8_move_b24 {x : om_X}   (O : om_Ok x RX8 "move" cX8_move 8 (some FieldType.int) 3 0 0)   {r : Int32} {τ : om_S} (hE : om_End x (some (vI r)) τ om_rf om_N 0 0)   {a0 : Nat} {σ : om_S} (ka0 : om_kc a0 = 8) (h : f_X8_move_b24 a0 σ = some (r, τ)) : om_J x 24 [(0, vR (some a0))] [] σ om_rf om_N 0 0 := by
  unfold f_X8_move_b24 at h
  refine om_aload_n O 0 dX8_move_24 rfl rfl ?_
  refine om_iconst O (v := 1) dX8_move_25 (by decide) ?_
  revert h; refine om_callR (fun r1o σ1o g1o h => ?_)
  refine cl_X8_84 O (st := []) (stk := [vI (1 : Int32), vR (some a0)]) (st2 := [vI r1o]) [vI (1 : Int32)] (fun l G => c_X8_refuse l G g1o) ka0 (om_lt ka0 (by decide)) (by decide) rfl rfl rfl_le rfl rfl_le rfl_le dX8_move_26 ?_
  exact om_iret (st := []) O (om_eI hE h) rfl dX8_move_29
def f_X8_move_b46  (a0 : Nat) (σ : om_S) : Option (Int32 × om_S) := om_call (f_X8_refuse a0 (2 : Int32) σ) fun (r1o : Int32) (σ1o : om_S) => some (r1o, σ1o)
set_option maxRecDepth 100000 in
theorem g_X8_move_b46 {x : om_X}   (O : om_Ok x RX8 "move" cX8_move 8 (some FieldType.int) 3 0 0)   {r : Int32} {τ : om_S} (hE : om_End x (some (vI r)) τ om_rf om_N 0 0)   {a0 : Nat} {σ : om_S} (ka0 : om_kc a0 = 8) (h : f_X8_move_b46 a0 σ = some (r, τ)) : om_J x 46 [(0, vR (some a0))] [] σ om_rf om_N 0 0 := by
  unfold f_X8_move_b46 at h
  refine om_aload_n O 0 dX8_move_46 rfl rfl ?_
  refine om_iconst O (v := 2) dX8_move_47 (by decide) ?_
  revert h; refine om_callR (fun r1o σ1o g1o h => ?_)
  refine cl_X8_84 O (st := []) (stk := [vI (2 : Int32), vR (some a0)]) (st2 := [vI r1o]) [vI (2 : Int32)] (fun l G => c_X8_refuse l G g1o) ka0 (om_lt ka0 (by decide)) (by decide) rfl rfl rfl_le rfl rfl_le rfl_le dX8_move_48 ?_
  exact om_iret (st := []) O (om_eI hE h) rfl dX8_move_51
def f_X8_move_b94  (a0 : Nat) (σ : om_S) : Option (Int32 × om_S) := om_call (f_X8_refuse a0 (1 : Int32) σ) fun (r1o : Int32) (σ1o : om_S) => some (r1o, σ1o)
set_option maxRecDepth 100000 in
theorem g_X8_move_b94 {x : om_X}   (O : om_Ok x RX8 "move" cX8_move 8 (some FieldType.int) 3 0 0)   {r : Int32} {τ : om_S} (hE : om_End x (some (vI r)) τ om_rf om_N 0 0)   {a0 : Nat} {σ : om_S} (ka0 : om_kc a0 = 8) (h : f_X8_move_b94 a0 σ = some (r, τ)) : om_J x 94 [(0, vR (some a0))] [] σ om_rf om_N 0 0 := by
  unfold f_X8_move_b94 at h
  refine om_aload_n O 0 dX8_move_94 rfl rfl ?_
  refine om_iconst O (v := 1) dX8_move_95 (by decide) ?_
  revert h; refine om_callR (fun r1o σ1o g1o h => ?_)
  refine cl_X8_84 O (st := []) (stk := [vI (1 : Int32), vR (some a0)]) (st2 := [vI r1o]) [vI (1 : Int32)] (fun l G => c_X8_refuse l G g1o) ka0 (om_lt ka0 (by decide)) (by decide) rfl rfl rfl_le rfl rfl_le rfl_le dX8_move_96 ?_
  exact om_iret (st := []) O (om_eI hE h) rfl dX8_move_99
def f_X8_move  (a0 : Nat) (v1 : Int32) (v2 : Int32) (v3 : Int32) (v4 : Int32) (v5 : Int32) (σ : om_S) : Option (Int32 × om_S) := if om_kc a0 = 8 then om_call (f_X8_sheetAt a0 v1 σ) fun (r1o : Option Nat) (σ1o : om_S) => om_call (f_X8_sheetAt a0 v3 σ1o) fun (r2o : Option Nat) (σ2o : om_S) => om_nul r1o 4 (f_X8_move_b24 a0 σ2o) fun (t1o : Nat) => om_nul r2o 4 (f_X8_move_b24 a0 σ2o) fun (t2o : Nat) => om_call (f_X4_isMissing t1o σ2o) fun (r3o : Int32) (σ3o : om_S) => if r3o = 0 then (om_call (f_X4_isMissing t2o σ3o) fun (r4o : Int32) (σ4o : om_S) => if r4o = 0 then (if (σ4o t1o 1) = (σ4o t2o 1) then (om_call (f_X4_hasRun t1o v2 v5 σ4o) fun (r5o : Int32) (σ5o : om_S) => if r5o = 0 then (f_X8_move_b94 a0 σ5o) else (om_call (f_X4_hasRun t2o v4 v5 σ5o) fun (r6o : Int32) (σ6o : om_S) => if r6o = 0 then (f_X8_move_b94 a0 σ6o) else (om_do (f_X4_take t2o t1o v2 v4 v5 σ6o) fun (σ7o : om_S) => some (v5, σ7o)))) else (om_call (f_X8_refuse a0 (5 : Int32) σ4o) fun (r7o : Int32) (σ8o : om_S) => some (r7o, σ8o))) else (f_X8_move_b46 a0 σ4o)) else (f_X8_move_b46 a0 σ3o) else none
set_option maxRecDepth 100000 in
theorem c_X8_move (l : Launch) (G : om_G) {a0 : Nat} {v1 : Int32} {v2 : Int32} {v3 : Int32} {v4 : Int32} {v5 : Int32} {σ : om_S} {r : Int32} {τ : om_S} (h : f_X8_move a0 v1 v2 v3 v4 v5 σ = some (r, τ)) : om_D l G 3 yX8_move cX8_move 8 (some FieldType.int) 0 0 [vR (some a0), vI v1, vI v2, vI v3, vI v4, vI v5] σ om_rf om_N (some (vI r)) τ om_rf om_N := by
  refine om_Dof (lv := [(0, vR (some a0)), (1, vI v1), (2, vI v2), (3, vI v3), (4, vI v4), (5, vI v5)]) (by decide) rfl_le rfl (fun x O hE => ?_)
  change om_Ok x RX8 "move" cX8_move 8 (some FieldType.int) 3 0 0 at O
  unfold f_X8_move at h
  revert h; refine om_iteR (fun ka0 h => ?_)
  refine om_aload_n O 0 dX8_move_0 rfl rfl ?_
  refine om_iload_n O 1 dX8_move_1 rfl rfl ?_
  revert h; refine om_callR (fun r1o σ1o g1o h => ?_)
  refine cl_X8_216 O (st := []) (stk := [vI v1, vR (some a0)]) (st2 := [vR r1o]) [vI v1] (fun l G => c_X8_sheetAt l G g1o) ka0 (om_lt ka0 (by decide)) (by decide) rfl rfl rfl_le rfl rfl_le rfl_le dX8_move_2 ?_
  refine om_astore O (lv' := [(0, vR (some a0)), (2, vI v2), (3, vI v3), (4, vI v4), (5, vI v5), (6, vR r1o)]) [1, 3, 4, 5, 6, 0] dX8_move_5 (by decide) rfl ?_
  refine om_aload_n O 0 dX8_move_7 rfl rfl ?_
  refine om_iload_n O 2 dX8_move_8 rfl rfl ?_
  revert h; refine om_callR (fun r2o σ2o g2o h => ?_)
  refine cl_X8_216 O (st := []) (stk := [vI v3, vR (some a0)]) (st2 := [vR r2o]) [vI v3] (fun l G => c_X8_sheetAt l G g2o) ka0 (om_lt ka0 (by decide)) (by decide) rfl rfl rfl_le rfl rfl_le rfl_le dX8_move_9 ?_
  refine om_astore O (lv' := [(0, vR (some a0)), (2, vI v2), (4, vI v4), (5, vI v5), (6, vR r1o), (7, vR r2o)]) [1, 2, 4, 5, 6, 0] dX8_move_12 (by decide) rfl ?_
  refine om_aload O 4 dX8_move_14 rfl ?_
  revert h; refine om_nulR (fun yy h => ?_) (fun t1o yy k1o h => ?_)
  · subst yy
    refine om_ifnullN O (tgt := 24) dX8_move_16 (by decide) ?_
    refine om_drop (lv' := [(0, vR (some a0))]) [0] rfl ?_
    exact g_X8_move_b24 O hE ka0 h
  · subst yy
    refine om_ifnullS O dX8_move_16 ?_
    refine om_aload O 5 dX8_move_19 rfl ?_
    revert h; refine om_nulR (fun yy h => ?_) (fun t2o yy k2o h => ?_)
    · subst yy
      refine om_ifnonnullN O dX8_move_21 ?_
      refine om_drop (lv' := [(0, vR (some a0))]) [0] rfl ?_
      exact g_X8_move_b24 O hE ka0 h
    · subst yy
      refine om_ifnonnullS O (tgt := 30) dX8_move_21 (by decide) ?_
      refine om_aload O 4 dX8_move_30 rfl ?_
      revert h; refine om_callR (fun r3o σ3o g3o h => ?_)
      refine cl_X8_220 O (st := []) (stk := [vR (some t1o)]) (st2 := [vI r3o]) [] (fun l G => c_X4_isMissing l G g3o) k1o (om_lt k1o (by decide)) (by decide) rfl rfl rfl_le rfl rfl_le rfl_le dX8_move_32 ?_
      refine om_if_ne O (tgt := 46) dX8_move_35 (by decide) (fun c1o => ?_) (fun c1o => ?_)
      · replace h := (if_pos c1o).symm.trans h
        refine om_aload O 5 dX8_move_38 rfl ?_
        revert h; refine om_callR (fun r4o σ4o g4o h => ?_)
        refine cl_X8_220 O (st := []) (stk := [vR (some t2o)]) (st2 := [vI r4o]) [] (fun l G => c_X4_isMissing l G g4o) k2o (om_lt k2o (by decide)) (by decide) rfl rfl rfl_le rfl rfl_le rfl_le dX8_move_40 ?_
        refine om_if_eq O (tgt := 52) dX8_move_43 (by decide) (fun c2o => ?_) (fun c2o => ?_)
        · replace h := (if_pos c2o).symm.trans h
          refine om_aload O 4 dX8_move_52 rfl ?_
          refine gf_X8_251 O k1o (om_lt k1o (by decide)) dX8_move_54 ?_
          refine om_aload O 5 dX8_move_57 rfl ?_
          refine gf_X8_251 O k2o (om_lt k2o (by decide)) dX8_move_59 ?_
          refine om_icmp_eq O (tgt := 71) dX8_move_62 (by decide) (fun c3o => ?_) (fun c3o => ?_)
          · replace h := (if_pos c3o).symm.trans h
            refine om_aload O 4 dX8_move_71 rfl ?_
            refine om_iload_n O 1 dX8_move_73 rfl rfl ?_
            refine om_iload O 3 dX8_move_74 rfl ?_
            revert h; refine om_callR (fun r5o σ5o g5o h => ?_)
            refine cl_X8_254 O (st := []) (stk := [vI v5, vI v2, vR (some t1o)]) (st2 := [vI r5o]) [vI v2, vI v5] (fun l G => c_X4_hasRun l G g5o) k1o (om_lt k1o (by decide)) (by decide) rfl rfl rfl_le rfl rfl_le rfl_le dX8_move_76 ?_
            refine om_if_eq O (tgt := 94) dX8_move_79 (by decide) (fun c4o => ?_) (fun c4o => ?_)
            · replace h := (if_pos c4o).symm.trans h
              refine om_drop (lv' := [(0, vR (some a0))]) [0] rfl ?_
              exact g_X8_move_b94 O hE ka0 h
            · replace h := (if_neg c4o).symm.trans h
              refine om_aload O 5 dX8_move_82 rfl ?_
              refine om_iload O 2 dX8_move_84 rfl ?_
              refine om_iload O 3 dX8_move_86 rfl ?_
              revert h; refine om_callR (fun r6o σ6o g6o h => ?_)
              refine cl_X8_254 O (st := []) (stk := [vI v5, vI v4, vR (some t2o)]) (st2 := [vI r6o]) [vI v4, vI v5] (fun l G => c_X4_hasRun l G g6o) k2o (om_lt k2o (by decide)) (by decide) rfl rfl rfl_le rfl rfl_le rfl_le dX8_move_88 ?_
              refine om_if_ne O (tgt := 100) dX8_move_91 (by decide) (fun c5o => ?_) (fun c5o => ?_)
              · replace h := (if_pos c5o).symm.trans h
                refine om_drop (lv' := [(0, vR (some a0))]) [0] rfl ?_
                exact g_X8_move_b94 O hE ka0 h
              · replace h := (if_neg c5o).symm.trans h
                refine om_aload O 5 dX8_move_100 rfl ?_
                refine om_aload O 4 dX8_move_102 rfl ?_
                refine om_iload_n O 1 dX8_move_104 rfl rfl ?_
                refine om_iload O 2 dX8_move_105 rfl ?_
                refine om_iload O 3 dX8_move_107 rfl ?_
                revert h; refine om_doR (fun σ7o g7o h => ?_)
                refine cl_X8_258 O (st := []) (stk := [vI v5, vI v4, vI v2, vR (some t1o), vR (some t2o)]) (st2 := []) [vR (some t1o), vI v2, vI v4, vI v5] (fun l G => c_X4_take l G g7o) k2o (om_lt k2o (by decide)) (by decide) rfl rfl rfl_le rfl rfl_le rfl_le dX8_move_109 ?_
                refine om_iload O 3 dX8_move_112 rfl ?_
                exact om_iret (st := []) O (om_eI hE h) rfl dX8_move_114
          · replace h := (if_neg c3o).symm.trans h
            refine om_aload_n O 0 dX8_move_65 rfl rfl ?_
            refine om_iconst O (v := 5) dX8_move_66 (by decide) ?_
            revert h; refine om_callR (fun r7o σ8o g8o h => ?_)
            refine cl_X8_84 O (st := []) (stk := [vI (5 : Int32), vR (some a0)]) (st2 := [vI r7o]) [vI (5 : Int32)] (fun l G => c_X8_refuse l G g8o) ka0 (om_lt ka0 (by decide)) (by decide) rfl rfl rfl_le rfl rfl_le rfl_le dX8_move_67 ?_
            exact om_iret (st := []) O (om_eI hE h) rfl dX8_move_70
        · replace h := (if_neg c2o).symm.trans h
          refine om_drop (lv' := [(0, vR (some a0))]) [0] rfl ?_
          exact g_X8_move_b46 O hE ka0 h
      · replace h := (if_neg c1o).symm.trans h
        refine om_drop (lv' := [(0, vR (some a0))]) [0] rfl ?_
        exact g_X8_move_b46 O hE ka0 h
def f_X8_dears_b31  : Nat → Nat → Nat → Int32 → om_S → Option (Int32 × om_S)
  | 0, _, _, _, _ => none
  | F + 1, a0, a2, v3, σ => if (24 : Int32) ≤ v3 then (some (v3, σ)) else (om_call (f_X4_has a2 v3 σ) fun (r1o : Int32) (σ1o : om_S) => if r1o = 0 then (some (v3, σ1o)) else (om_ref (om_rf a0 0) 6 fun (t1o : Nat) => om_call (f_X6_at t1o v3 σ1o) fun (r2o : Option Nat) (σ2o : om_S) => om_nul r2o 1 (some (v3, σ2o)) fun (t2o : Nat) => om_call (f_X4_at a2 v3 σ2o) fun (r3o : Int32) (σ3o : om_S) => om_call (f_X8_isWithin r3o (0 : Int32) (99 : Int32) σ3o) fun (r4o : Int32) (σ4o : om_S) => if r4o = 0 then (some (v3, σ4o)) else (om_call (f_X4_at a2 v3 σ4o) fun (r5o : Int32) (σ5o : om_S) => om_let (om_w σ5o t2o 4 r5o) fun (σ6o : om_S) => (f_X8_dears_b31 F) a0 a2 (v3 + 1) σ6o)))
set_option maxRecDepth 100000 in
theorem g_X8_dears_b31 {x : om_X}   (O : om_Ok x RX8 "dears" cX8_dears 5 (some FieldType.int) 2 0 0)   {r : Int32} {τ : om_S} (hE : om_End x (some (vI r)) τ om_rf om_N 0 0)   : ∀ (F : Nat) (a0 : Nat) (a2 : Nat) (v3 : Int32) (σ : om_S) (ka0 : om_kc a0 = 8) (ka2 : om_kc a2 = 4), f_X8_dears_b31 F a0 a2 v3 σ = some (r, τ) → om_J x 31 [(0, vR (some a0)), (2, vR (some a2)), (3, vI v3)] [] σ om_rf om_N 0 0 := by
  intro F
  induction F with
  | zero =>
    intro a0 a2 v3 σ ka0 ka2 h
    cases h
  | succ F ih =>
    intro a0 a2 v3 σ ka0 ka2 h
    unfold f_X8_dears_b31 at h
    refine om_iload_n O 2 dX8_dears_31 rfl rfl ?_
    refine om_bipush O (v := 24) dX8_dears_32 (by decide) ?_
    refine om_icmp_ge O (tgt := 93) dX8_dears_34 (by decide) (fun c1o => ?_) (fun c1o => ?_)
    · replace h := (if_pos c1o).symm.trans h
      refine om_iload_n O 2 dX8_dears_93 rfl rfl ?_
      exact om_iret (st := []) O (om_eI hE h) rfl dX8_dears_94
    · replace h := (if_neg c1o).symm.trans h
      refine om_aload_n O 1 dX8_dears_37 rfl rfl ?_
      refine om_iload_n O 2 dX8_dears_38 rfl rfl ?_
      revert h; refine om_callR (fun r1o σ1o g1o h => ?_)
      refine cl_X8_247 O (st := []) (stk := [vI v3, vR (some a2)]) (st2 := [vI r1o]) [vI v3] (fun l G => c_X4_has l G g1o) ka2 (om_lt ka2 (by decide)) (by decide) rfl rfl rfl_le rfl rfl_le rfl_le dX8_dears_39 ?_
      refine om_if_eq O (tgt := 93) dX8_dears_42 (by decide) (fun c2o => ?_) (fun c2o => ?_)
      · replace h := (if_pos c2o).symm.trans h
        refine om_iload_n O 2 dX8_dears_93 rfl rfl ?_
        exact om_iret (st := []) O (om_eI hE h) rfl dX8_dears_94
      · replace h := (if_neg c2o).symm.trans h
        refine om_aload_n O 0 dX8_dears_45 rfl rfl ?_
        revert h; refine om_refR (fun t1o y1o k1o h => ?_)
        refine gf_X8_10 O ka0 (om_lt ka0 (by decide)) dX8_dears_46 ?_
        rw [y1o]
        refine om_iload_n O 2 dX8_dears_49 rfl rfl ?_
        revert h; refine om_callR (fun r2o σ2o g2o h => ?_)
        refine cl_X8_96 O (st := []) (stk := [vI v3, vR (some t1o)]) (st2 := [vR r2o]) [vI v3] (fun l G => c_X6_at l G g2o) k1o (om_lt k1o (by decide)) (by decide) rfl rfl rfl_le rfl rfl_le rfl_le dX8_dears_50 ?_
        refine om_astore O (lv' := [(0, vR (some a0)), (2, vR (some a2)), (3, vI v3), (4, vR r2o)]) [1, 2, 3, 0] dX8_dears_53 (by decide) rfl ?_
        refine om_aload O 3 dX8_dears_55 rfl ?_
        revert h; refine om_nulR (fun yy h => ?_) (fun t2o yy k2o h => ?_)
        · subst yy
          refine om_ifnullN O (tgt := 93) dX8_dears_57 (by decide) ?_
          refine om_iload_n O 2 dX8_dears_93 rfl rfl ?_
          exact om_iret (st := []) O (om_eI hE h) rfl dX8_dears_94
        · subst yy
          refine om_ifnullS O dX8_dears_57 ?_
          refine om_aload_n O 1 dX8_dears_60 rfl rfl ?_
          refine om_iload_n O 2 dX8_dears_61 rfl rfl ?_
          revert h; refine om_callR (fun r3o σ3o g3o h => ?_)
          refine cl_X8_262 O (st := []) (stk := [vI v3, vR (some a2)]) (st2 := [vI r3o]) [vI v3] (fun l G => c_X4_at l G g3o) ka2 (om_lt ka2 (by decide)) (by decide) rfl rfl rfl_le rfl rfl_le rfl_le dX8_dears_62 ?_
          refine om_iconst O (v := 0) dX8_dears_65 (by decide) ?_
          refine om_bipush O (v := 99) dX8_dears_66 (by decide) ?_
          revert h; refine om_callR (fun r4o σ4o g4o h => ?_)
          refine cl_X8_80 O (st := []) (stk := [vI (99 : Int32), vI (0 : Int32), vI r3o]) (st2 := [vI r4o]) [vI r3o, vI (0 : Int32), vI (99 : Int32)] (fun l G => c_X8_isWithin l G g4o) (by decide) rfl rfl rfl_le rfl rfl_le rfl_le dX8_dears_68 ?_
          refine om_if_ne O (tgt := 77) dX8_dears_71 (by decide) (fun c3o => ?_) (fun c3o => ?_)
          · replace h := (if_pos c3o).symm.trans h
            refine om_goto O (tgt := 93) dX8_dears_74 (by decide) ?_
            refine om_iload_n O 2 dX8_dears_93 rfl rfl ?_
            exact om_iret (st := []) O (om_eI hE h) rfl dX8_dears_94
          · replace h := (if_neg c3o).symm.trans h
            refine om_aload O 3 dX8_dears_77 rfl ?_
            refine om_aload_n O 1 dX8_dears_79 rfl rfl ?_
            refine om_iload_n O 2 dX8_dears_80 rfl rfl ?_
            revert h; refine om_callR (fun r5o σ5o g5o h => ?_)
            refine cl_X8_262 O (st := [vR (some t2o)]) (stk := [vI v3, vR (some a2), vR (some t2o)]) (st2 := [vI r5o, vR (some t2o)]) [vI v3] (fun l G => c_X4_at l G g5o) ka2 (om_lt ka2 (by decide)) (by decide) rfl rfl rfl_le rfl rfl_le rfl_le dX8_dears_81 ?_
            revert h; refine om_letR (fun σ6o e1o h => ?_)
            refine pf_X8_114 O (Or.inl rfl) k2o (om_lt k2o (by decide)) dX8_dears_84 e1o ?_
            refine om_iinc O (v1 := (v3 + 1)) (lv' := [(0, vR (some a0)), (2, vR (some a2)), (3, vI (v3 + 1))]) 2 [1, 2, 0] rfl dX8_dears_87 rfl rfl (by decide) rfl ?_
            refine om_goto O (tgt := 31) dX8_dears_90 (by decide) ?_
            exact ih _ _ _ _ ka0 ka2 h
def f_X8_dears  (a0 : Nat) (v1 : Int32) (σ : om_S) : Option (Int32 × om_S) := if om_kc a0 = 8 then om_call (f_X8_sheetAt a0 v1 σ) fun (r1o : Option Nat) (σ1o : om_S) => om_nul r1o 4 (om_call (f_X8_refuse a0 (1 : Int32) σ1o) fun (r2o : Int32) (σ2o : om_S) => some (r2o, σ2o)) fun (t1o : Nat) => om_call (f_X4_isMissing t1o σ1o) fun (r3o : Int32) (σ3o : om_S) => if r3o = 0 then (f_X8_dears_b31 om_F a0 t1o (0 : Int32) σ3o) else (om_call (f_X8_refuse a0 (2 : Int32) σ3o) fun (r4o : Int32) (σ4o : om_S) => some (r4o, σ4o)) else none
set_option maxRecDepth 100000 in
theorem c_X8_dears (l : Launch) (G : om_G) {a0 : Nat} {v1 : Int32} {σ : om_S} {r : Int32} {τ : om_S} (h : f_X8_dears a0 v1 σ = some (r, τ)) : om_D l G 2 yX8_dears cX8_dears 5 (some FieldType.int) 0 0 [vR (some a0), vI v1] σ om_rf om_N (some (vI r)) τ om_rf om_N := by
  refine om_Dof (lv := [(0, vR (some a0)), (1, vI v1)]) (by decide) rfl_le rfl (fun x O hE => ?_)
  change om_Ok x RX8 "dears" cX8_dears 5 (some FieldType.int) 2 0 0 at O
  unfold f_X8_dears at h
  revert h; refine om_iteR (fun ka0 h => ?_)
  refine om_aload_n O 0 dX8_dears_0 rfl rfl ?_
  refine om_iload_n O 1 dX8_dears_1 rfl rfl ?_
  revert h; refine om_callR (fun r1o σ1o g1o h => ?_)
  refine cl_X8_216 O (st := []) (stk := [vI v1, vR (some a0)]) (st2 := [vR r1o]) [vI v1] (fun l G => c_X8_sheetAt l G g1o) ka0 (om_lt ka0 (by decide)) (by decide) rfl rfl rfl_le rfl rfl_le rfl_le dX8_dears_2 ?_
  refine om_astore_n O (lv' := [(0, vR (some a0)), (2, vR r1o)]) [1, 0] dX8_dears_5 rfl (by decide) rfl ?_
  refine om_aload_n O 1 dX8_dears_6 rfl rfl ?_
  revert h; refine om_nulR (fun yy h => ?_) (fun t1o yy k1o h => ?_)
  · subst yy
    refine om_ifnonnullN O dX8_dears_7 ?_
    refine om_aload_n O 0 dX8_dears_10 rfl rfl ?_
    refine om_iconst O (v := 1) dX8_dears_11 (by decide) ?_
    revert h; refine om_callR (fun r2o σ2o g2o h => ?_)
    refine cl_X8_84 O (st := []) (stk := [vI (1 : Int32), vR (some a0)]) (st2 := [vI r2o]) [vI (1 : Int32)] (fun l G => c_X8_refuse l G g2o) ka0 (om_lt ka0 (by decide)) (by decide) rfl rfl rfl_le rfl rfl_le rfl_le dX8_dears_12 ?_
    exact om_iret (st := []) O (om_eI hE h) rfl dX8_dears_15
  · subst yy
    refine om_ifnonnullS O (tgt := 16) dX8_dears_7 (by decide) ?_
    refine om_aload_n O 1 dX8_dears_16 rfl rfl ?_
    revert h; refine om_callR (fun r3o σ3o g3o h => ?_)
    refine cl_X8_220 O (st := []) (stk := [vR (some t1o)]) (st2 := [vI r3o]) [] (fun l G => c_X4_isMissing l G g3o) k1o (om_lt k1o (by decide)) (by decide) rfl rfl rfl_le rfl rfl_le rfl_le dX8_dears_17 ?_
    refine om_if_eq O (tgt := 29) dX8_dears_20 (by decide) (fun c1o => ?_) (fun c1o => ?_)
    · replace h := (if_pos c1o).symm.trans h
      refine om_iconst O (v := 0) dX8_dears_29 (by decide) ?_
      refine om_istore_n O (lv' := [(0, vR (some a0)), (2, vR (some t1o)), (3, vI (0 : Int32))]) [1, 2, 0] rfl dX8_dears_30 rfl (by decide) rfl ?_
      exact g_X8_dears_b31 O hE om_F _ _ _ _ ka0 k1o h
    · replace h := (if_neg c1o).symm.trans h
      refine om_aload_n O 0 dX8_dears_23 rfl rfl ?_
      refine om_iconst O (v := 2) dX8_dears_24 (by decide) ?_
      revert h; refine om_callR (fun r4o σ4o g4o h => ?_)
      refine cl_X8_84 O (st := []) (stk := [vI (2 : Int32), vR (some a0)]) (st2 := [vI r4o]) [vI (2 : Int32)] (fun l G => c_X8_refuse l G g4o) ka0 (om_lt ka0 (by decide)) (by decide) rfl rfl rfl_le rfl rfl_le rfl_le dX8_dears_25 ?_
      exact om_iret (st := []) O (om_eI hE h) rfl dX8_dears_28
def f_X8_judge_b31  : Nat → Nat → Nat → Int32 → om_S → Option (Int32 × om_S)
  | 0, _, _, _, _ => none
  | F + 1, a0, a2, v3, σ => if (24 : Int32) ≤ v3 then (some (v3, σ)) else (om_call (f_X4_has a2 v3 σ) fun (r1o : Int32) (σ1o : om_S) => if r1o = 0 then (some (v3, σ1o)) else (om_ref (om_rf a0 0) 6 fun (t1o : Nat) => om_call (f_X6_at t1o v3 σ1o) fun (r2o : Option Nat) (σ2o : om_S) => om_nul r2o 1 (some (v3, σ2o)) fun (t2o : Nat) => om_call (f_X4_at a2 v3 σ2o) fun (r3o : Int32) (σ3o : om_S) => om_ref (om_rf a0 0) 6 fun (t3o : Nat) => om_call (f_X6_light t3o t2o σ3o) fun (r4o : Int32) (σ4o : om_S) => if r3o = r4o then ((f_X8_judge_b31 F) a0 a2 (v3 + 1) σ4o) else (some (v3, σ4o))))
set_option maxRecDepth 100000 in
theorem g_X8_judge_b31 {x : om_X}   (O : om_Ok x RX8 "judge" cX8_judge 5 (some FieldType.int) 3 0 0)   {r : Int32} {τ : om_S} (hE : om_End x (some (vI r)) τ om_rf om_N 0 0)   : ∀ (F : Nat) (a0 : Nat) (a2 : Nat) (v3 : Int32) (σ : om_S) (ka0 : om_kc a0 = 8) (ka2 : om_kc a2 = 4), f_X8_judge_b31 F a0 a2 v3 σ = some (r, τ) → om_J x 31 [(0, vR (some a0)), (2, vR (some a2)), (3, vI v3)] [] σ om_rf om_N 0 0 := by
  intro F
  induction F with
  | zero =>
    intro a0 a2 v3 σ ka0 ka2 h
    cases h
  | succ F ih =>
    intro a0 a2 v3 σ ka0 ka2 h
    unfold f_X8_judge_b31 at h
    refine om_iload_n O 2 dX8_judge_31 rfl rfl ?_
    refine om_bipush O (v := 24) dX8_judge_32 (by decide) ?_
    refine om_icmp_ge O (tgt := 86) dX8_judge_34 (by decide) (fun c1o => ?_) (fun c1o => ?_)
    · replace h := (if_pos c1o).symm.trans h
      refine om_iload_n O 2 dX8_judge_86 rfl rfl ?_
      exact om_iret (st := []) O (om_eI hE h) rfl dX8_judge_87
    · replace h := (if_neg c1o).symm.trans h
      refine om_aload_n O 1 dX8_judge_37 rfl rfl ?_
      refine om_iload_n O 2 dX8_judge_38 rfl rfl ?_
      revert h; refine om_callR (fun r1o σ1o g1o h => ?_)
      refine cl_X8_247 O (st := []) (stk := [vI v3, vR (some a2)]) (st2 := [vI r1o]) [vI v3] (fun l G => c_X4_has l G g1o) ka2 (om_lt ka2 (by decide)) (by decide) rfl rfl rfl_le rfl rfl_le rfl_le dX8_judge_39 ?_
      refine om_if_eq O (tgt := 86) dX8_judge_42 (by decide) (fun c2o => ?_) (fun c2o => ?_)
      · replace h := (if_pos c2o).symm.trans h
        refine om_iload_n O 2 dX8_judge_86 rfl rfl ?_
        exact om_iret (st := []) O (om_eI hE h) rfl dX8_judge_87
      · replace h := (if_neg c2o).symm.trans h
        refine om_aload_n O 0 dX8_judge_45 rfl rfl ?_
        revert h; refine om_refR (fun t1o y1o k1o h => ?_)
        refine gf_X8_10 O ka0 (om_lt ka0 (by decide)) dX8_judge_46 ?_
        rw [y1o]
        refine om_iload_n O 2 dX8_judge_49 rfl rfl ?_
        revert h; refine om_callR (fun r2o σ2o g2o h => ?_)
        refine cl_X8_96 O (st := []) (stk := [vI v3, vR (some t1o)]) (st2 := [vR r2o]) [vI v3] (fun l G => c_X6_at l G g2o) k1o (om_lt k1o (by decide)) (by decide) rfl rfl rfl_le rfl rfl_le rfl_le dX8_judge_50 ?_
        refine om_astore O (lv' := [(0, vR (some a0)), (2, vR (some a2)), (3, vI v3), (4, vR r2o)]) [1, 2, 3, 0] dX8_judge_53 (by decide) rfl ?_
        refine om_aload O 3 dX8_judge_55 rfl ?_
        revert h; refine om_nulR (fun yy h => ?_) (fun t2o yy k2o h => ?_)
        · subst yy
          refine om_ifnullN O (tgt := 86) dX8_judge_57 (by decide) ?_
          refine om_iload_n O 2 dX8_judge_86 rfl rfl ?_
          exact om_iret (st := []) O (om_eI hE h) rfl dX8_judge_87
        · subst yy
          refine om_ifnullS O dX8_judge_57 ?_
          refine om_aload_n O 1 dX8_judge_60 rfl rfl ?_
          refine om_iload_n O 2 dX8_judge_61 rfl rfl ?_
          revert h; refine om_callR (fun r3o σ3o g3o h => ?_)
          refine cl_X8_262 O (st := []) (stk := [vI v3, vR (some a2)]) (st2 := [vI r3o]) [vI v3] (fun l G => c_X4_at l G g3o) ka2 (om_lt ka2 (by decide)) (by decide) rfl rfl rfl_le rfl rfl_le rfl_le dX8_judge_62 ?_
          refine om_aload_n O 0 dX8_judge_65 rfl rfl ?_
          revert h; refine om_refR (fun t3o y2o k3o h => ?_)
          refine gf_X8_10 O ka0 (om_lt ka0 (by decide)) dX8_judge_66 ?_
          rw [y2o]
          refine om_aload O 3 dX8_judge_69 rfl ?_
          revert h; refine om_callR (fun r4o σ4o g4o h => ?_)
          refine cl_X8_117 O (st := [vI r3o]) (stk := [vR (some t2o), vR (some t3o), vI r3o]) (st2 := [vI r4o, vI r3o]) [vR (some t2o)] (fun l G => c_X6_light l G g4o) k3o (om_lt k3o (by decide)) (by decide) rfl rfl rfl_le rfl rfl_le rfl_le dX8_judge_71 ?_
          refine om_icmp_eq O (tgt := 80) dX8_judge_74 (by decide) (fun c3o => ?_) (fun c3o => ?_)
          · replace h := (if_pos c3o).symm.trans h
            refine om_iinc O (v1 := (v3 + 1)) (lv' := [(0, vR (some a0)), (2, vR (some a2)), (3, vI (v3 + 1))]) 2 [1, 2, 0] rfl dX8_judge_80 rfl rfl (by decide) rfl ?_
            refine om_goto O (tgt := 31) dX8_judge_83 (by decide) ?_
            exact ih _ _ _ _ ka0 ka2 h
          · replace h := (if_neg c3o).symm.trans h
            refine om_goto O (tgt := 86) dX8_judge_77 (by decide) ?_
            refine om_iload_n O 2 dX8_judge_86 rfl rfl ?_
            exact om_iret (st := []) O (om_eI hE h) rfl dX8_judge_87
def f_X8_judge  (a0 : Nat) (v1 : Int32) (σ : om_S) : Option (Int32 × om_S) := if om_kc a0 = 8 then om_call (f_X8_sheetAt a0 v1 σ) fun (r1o : Option Nat) (σ1o : om_S) => om_nul r1o 4 (om_call (f_X8_refuse a0 (1 : Int32) σ1o) fun (r2o : Int32) (σ2o : om_S) => some (r2o, σ2o)) fun (t1o : Nat) => om_call (f_X4_isMissing t1o σ1o) fun (r3o : Int32) (σ3o : om_S) => if r3o = 0 then (f_X8_judge_b31 om_F a0 t1o (0 : Int32) σ3o) else (om_call (f_X8_refuse a0 (2 : Int32) σ3o) fun (r4o : Int32) (σ4o : om_S) => some (r4o, σ4o)) else none
set_option maxRecDepth 100000 in
theorem c_X8_judge (l : Launch) (G : om_G) {a0 : Nat} {v1 : Int32} {σ : om_S} {r : Int32} {τ : om_S} (h : f_X8_judge a0 v1 σ = some (r, τ)) : om_D l G 3 yX8_judge cX8_judge 5 (some FieldType.int) 0 0 [vR (some a0), vI v1] σ om_rf om_N (some (vI r)) τ om_rf om_N := by
  refine om_Dof (lv := [(0, vR (some a0)), (1, vI v1)]) (by decide) rfl_le rfl (fun x O hE => ?_)
  change om_Ok x RX8 "judge" cX8_judge 5 (some FieldType.int) 3 0 0 at O
  unfold f_X8_judge at h
  revert h; refine om_iteR (fun ka0 h => ?_)
  refine om_aload_n O 0 dX8_judge_0 rfl rfl ?_
  refine om_iload_n O 1 dX8_judge_1 rfl rfl ?_
  revert h; refine om_callR (fun r1o σ1o g1o h => ?_)
  refine cl_X8_216 O (st := []) (stk := [vI v1, vR (some a0)]) (st2 := [vR r1o]) [vI v1] (fun l G => c_X8_sheetAt l G g1o) ka0 (om_lt ka0 (by decide)) (by decide) rfl rfl rfl_le rfl rfl_le rfl_le dX8_judge_2 ?_
  refine om_astore_n O (lv' := [(0, vR (some a0)), (2, vR r1o)]) [1, 0] dX8_judge_5 rfl (by decide) rfl ?_
  refine om_aload_n O 1 dX8_judge_6 rfl rfl ?_
  revert h; refine om_nulR (fun yy h => ?_) (fun t1o yy k1o h => ?_)
  · subst yy
    refine om_ifnonnullN O dX8_judge_7 ?_
    refine om_aload_n O 0 dX8_judge_10 rfl rfl ?_
    refine om_iconst O (v := 1) dX8_judge_11 (by decide) ?_
    revert h; refine om_callR (fun r2o σ2o g2o h => ?_)
    refine cl_X8_84 O (st := []) (stk := [vI (1 : Int32), vR (some a0)]) (st2 := [vI r2o]) [vI (1 : Int32)] (fun l G => c_X8_refuse l G g2o) ka0 (om_lt ka0 (by decide)) (by decide) rfl rfl rfl_le rfl rfl_le rfl_le dX8_judge_12 ?_
    exact om_iret (st := []) O (om_eI hE h) rfl dX8_judge_15
  · subst yy
    refine om_ifnonnullS O (tgt := 16) dX8_judge_7 (by decide) ?_
    refine om_aload_n O 1 dX8_judge_16 rfl rfl ?_
    revert h; refine om_callR (fun r3o σ3o g3o h => ?_)
    refine cl_X8_220 O (st := []) (stk := [vR (some t1o)]) (st2 := [vI r3o]) [] (fun l G => c_X4_isMissing l G g3o) k1o (om_lt k1o (by decide)) (by decide) rfl rfl rfl_le rfl rfl_le rfl_le dX8_judge_17 ?_
    refine om_if_eq O (tgt := 29) dX8_judge_20 (by decide) (fun c1o => ?_) (fun c1o => ?_)
    · replace h := (if_pos c1o).symm.trans h
      refine om_iconst O (v := 0) dX8_judge_29 (by decide) ?_
      refine om_istore_n O (lv' := [(0, vR (some a0)), (2, vR (some t1o)), (3, vI (0 : Int32))]) [1, 2, 0] rfl dX8_judge_30 rfl (by decide) rfl ?_
      exact g_X8_judge_b31 O hE om_F _ _ _ _ ka0 k1o h
    · replace h := (if_neg c1o).symm.trans h
      refine om_aload_n O 0 dX8_judge_23 rfl rfl ?_
      refine om_iconst O (v := 2) dX8_judge_24 (by decide) ?_
      revert h; refine om_callR (fun r4o σ4o g4o h => ?_)
      refine cl_X8_84 O (st := []) (stk := [vI (2 : Int32), vR (some a0)]) (st2 := [vI r4o]) [vI (2 : Int32)] (fun l G => c_X8_refuse l G g4o) ka0 (om_lt ka0 (by decide)) (by decide) rfl rfl rfl_le rfl rfl_le rfl_le dX8_judge_25 ?_
      exact om_iret (st := []) O (om_eI hE h) rfl dX8_judge_28
def f_X8_image  (a0 : Nat) (σ : om_S) : Option (Int32 × om_S) := if om_kc a0 = 8 then om_ref (om_rf a0 1) 6 fun (t1o : Nat) => om_ref (om_rf a0 0) 6 fun (t2o : Nat) => om_do (f_X6_copyFrom t1o t2o σ) fun (σ1o : om_S) => om_ref (om_rf a0 5) 3 fun (t3o : Nat) => om_ref (om_rf a0 4) 3 fun (t4o : Nat) => om_do (f_X3_copyFrom t3o t4o σ1o) fun (σ2o : om_S) => om_ref (om_rf a0 7) 3 fun (t5o : Nat) => om_ref (om_rf a0 6) 3 fun (t6o : Nat) => om_do (f_X3_copyFrom t5o t6o σ2o) fun (σ3o : om_S) => om_let (om_w σ3o a0 12 ((σ3o a0 12) + (1 : Int32))) fun (σ4o : om_S) => some ((σ4o a0 12), σ4o) else none
set_option maxRecDepth 100000 in
theorem c_X8_image (l : Launch) (G : om_G) {a0 : Nat} {σ : om_S} {r : Int32} {τ : om_S} (h : f_X8_image a0 σ = some (r, τ)) : om_D l G 4 yX8_image cX8_image 1 (some FieldType.int) 0 0 [vR (some a0)] σ om_rf om_N (some (vI r)) τ om_rf om_N := by
  refine om_Dof (lv := [(0, vR (some a0))]) (by decide) rfl_le rfl (fun x O hE => ?_)
  change om_Ok x RX8 "image" cX8_image 1 (some FieldType.int) 4 0 0 at O
  unfold f_X8_image at h
  revert h; refine om_iteR (fun ka0 h => ?_)
  refine om_aload_n O 0 dX8_image_0 rfl rfl ?_
  revert h; refine om_refR (fun t1o y1o k1o h => ?_)
  refine gf_X8_16 O ka0 (om_lt ka0 (by decide)) dX8_image_1 ?_
  rw [y1o]
  refine om_aload_n O 0 dX8_image_4 rfl rfl ?_
  revert h; refine om_refR (fun t2o y2o k2o h => ?_)
  refine gf_X8_10 O ka0 (om_lt ka0 (by decide)) dX8_image_5 ?_
  rw [y2o]
  revert h; refine om_doR (fun σ1o g1o h => ?_)
  refine cl_X8_199 O (st := []) (stk := [vR (some t2o), vR (some t1o)]) (st2 := []) [vR (some t2o)] (fun l G => c_X6_copyFrom l G g1o) k1o (om_lt k1o (by decide)) (by decide) rfl rfl rfl_le rfl rfl_le rfl_le dX8_image_8 ?_
  refine om_aload_n O 0 dX8_image_11 rfl rfl ?_
  revert h; refine om_refR (fun t3o y3o k3o h => ?_)
  refine gf_X8_38 O ka0 (om_lt ka0 (by decide)) dX8_image_12 ?_
  rw [y3o]
  refine om_aload_n O 0 dX8_image_15 rfl rfl ?_
  revert h; refine om_refR (fun t4o y4o k4o h => ?_)
  refine gf_X8_34 O ka0 (om_lt ka0 (by decide)) dX8_image_16 ?_
  rw [y4o]
  revert h; refine om_doR (fun σ2o g2o h => ?_)
  refine cl_X8_263 O (st := []) (stk := [vR (some t4o), vR (some t3o)]) (st2 := []) [vR (some t4o)] (fun l G => c_X3_copyFrom l G g2o) k3o (om_lt k3o (by decide)) (by decide) rfl rfl rfl_le rfl rfl_le rfl_le dX8_image_19 ?_
  refine om_aload_n O 0 dX8_image_22 rfl rfl ?_
  revert h; refine om_refR (fun t5o y5o k5o h => ?_)
  refine gf_X8_44 O ka0 (om_lt ka0 (by decide)) dX8_image_23 ?_
  rw [y5o]
  refine om_aload_n O 0 dX8_image_26 rfl rfl ?_
  revert h; refine om_refR (fun t6o y6o k6o h => ?_)
  refine gf_X8_41 O ka0 (om_lt ka0 (by decide)) dX8_image_27 ?_
  rw [y6o]
  revert h; refine om_doR (fun σ3o g3o h => ?_)
  refine cl_X8_263 O (st := []) (stk := [vR (some t6o), vR (some t5o)]) (st2 := []) [vR (some t6o)] (fun l G => c_X3_copyFrom l G g3o) k5o (om_lt k5o (by decide)) (by decide) rfl rfl rfl_le rfl rfl_le rfl_le dX8_image_30 ?_
  refine om_aload_n O 0 dX8_image_33 rfl rfl ?_
  refine om_dup O rfl dX8_image_34 ?_
  refine gf_X8_71 O ka0 (om_lt ka0 (by decide)) dX8_image_35 ?_
  refine om_iconst O (v := 1) dX8_image_38 (by decide) ?_
  refine om_iadd O dX8_image_39 ?_
  revert h; refine om_letR (fun σ4o e1o h => ?_)
  refine pf_X8_71 O (Or.inl rfl) ka0 (om_lt ka0 (by decide)) dX8_image_40 e1o ?_
  refine om_aload_n O 0 dX8_image_43 rfl rfl ?_
  refine gf_X8_71 O ka0 (om_lt ka0 (by decide)) dX8_image_44 ?_
  exact om_iret (st := []) O (om_eI hE h) rfl dX8_image_47
def f_X8_restore  (a0 : Nat) (σ : om_S) : Option (Int32 × om_S) := if om_kc a0 = 8 then if (σ a0 12) = 0 then (om_call (f_X8_refuse a0 (2 : Int32) σ) fun (r1o : Int32) (σ1o : om_S) => some (r1o, σ1o)) else (om_ref (om_rf a0 0) 6 fun (t1o : Nat) => om_ref (om_rf a0 1) 6 fun (t2o : Nat) => om_do (f_X6_copyFrom t1o t2o σ) fun (σ2o : om_S) => om_ref (om_rf a0 4) 3 fun (t3o : Nat) => om_ref (om_rf a0 5) 3 fun (t4o : Nat) => om_do (f_X3_copyFrom t3o t4o σ2o) fun (σ3o : om_S) => om_ref (om_rf a0 6) 3 fun (t5o : Nat) => om_ref (om_rf a0 7) 3 fun (t6o : Nat) => om_do (f_X3_copyFrom t5o t6o σ3o) fun (σ4o : om_S) => om_ref (om_rf a0 0) 6 fun (t7o : Nat) => some ((σ4o t7o 5), σ4o)) else none
set_option maxRecDepth 100000 in
theorem c_X8_restore (l : Launch) (G : om_G) {a0 : Nat} {σ : om_S} {r : Int32} {τ : om_S} (h : f_X8_restore a0 σ = some (r, τ)) : om_D l G 4 yX8_restore cX8_restore 1 (some FieldType.int) 0 0 [vR (some a0)] σ om_rf om_N (some (vI r)) τ om_rf om_N := by
  refine om_Dof (lv := [(0, vR (some a0))]) (by decide) rfl_le rfl (fun x O hE => ?_)
  change om_Ok x RX8 "restore" cX8_restore 1 (some FieldType.int) 4 0 0 at O
  unfold f_X8_restore at h
  revert h; refine om_iteR (fun ka0 h => ?_)
  refine om_aload_n O 0 dX8_restore_0 rfl rfl ?_
  refine gf_X8_71 O ka0 (om_lt ka0 (by decide)) dX8_restore_1 ?_
  refine om_if_ne O (tgt := 13) dX8_restore_4 (by decide) (fun c1o => ?_) (fun c1o => ?_)
  · replace h := (if_pos c1o).symm.trans h
    refine om_aload_n O 0 dX8_restore_7 rfl rfl ?_
    refine om_iconst O (v := 2) dX8_restore_8 (by decide) ?_
    revert h; refine om_callR (fun r1o σ1o g1o h => ?_)
    refine cl_X8_84 O (st := []) (stk := [vI (2 : Int32), vR (some a0)]) (st2 := [vI r1o]) [vI (2 : Int32)] (fun l G => c_X8_refuse l G g1o) ka0 (om_lt ka0 (by decide)) (by decide) rfl rfl rfl_le rfl rfl_le rfl_le dX8_restore_9 ?_
    exact om_iret (st := []) O (om_eI hE h) rfl dX8_restore_12
  · replace h := (if_neg c1o).symm.trans h
    refine om_aload_n O 0 dX8_restore_13 rfl rfl ?_
    revert h; refine om_refR (fun t1o y1o k1o h => ?_)
    refine gf_X8_10 O ka0 (om_lt ka0 (by decide)) dX8_restore_14 ?_
    rw [y1o]
    refine om_aload_n O 0 dX8_restore_17 rfl rfl ?_
    revert h; refine om_refR (fun t2o y2o k2o h => ?_)
    refine gf_X8_16 O ka0 (om_lt ka0 (by decide)) dX8_restore_18 ?_
    rw [y2o]
    revert h; refine om_doR (fun σ2o g2o h => ?_)
    refine cl_X8_199 O (st := []) (stk := [vR (some t2o), vR (some t1o)]) (st2 := []) [vR (some t2o)] (fun l G => c_X6_copyFrom l G g2o) k1o (om_lt k1o (by decide)) (by decide) rfl rfl rfl_le rfl rfl_le rfl_le dX8_restore_21 ?_
    refine om_aload_n O 0 dX8_restore_24 rfl rfl ?_
    revert h; refine om_refR (fun t3o y3o k3o h => ?_)
    refine gf_X8_34 O ka0 (om_lt ka0 (by decide)) dX8_restore_25 ?_
    rw [y3o]
    refine om_aload_n O 0 dX8_restore_28 rfl rfl ?_
    revert h; refine om_refR (fun t4o y4o k4o h => ?_)
    refine gf_X8_38 O ka0 (om_lt ka0 (by decide)) dX8_restore_29 ?_
    rw [y4o]
    revert h; refine om_doR (fun σ3o g3o h => ?_)
    refine cl_X8_263 O (st := []) (stk := [vR (some t4o), vR (some t3o)]) (st2 := []) [vR (some t4o)] (fun l G => c_X3_copyFrom l G g3o) k3o (om_lt k3o (by decide)) (by decide) rfl rfl rfl_le rfl rfl_le rfl_le dX8_restore_32 ?_
    refine om_aload_n O 0 dX8_restore_35 rfl rfl ?_
    revert h; refine om_refR (fun t5o y5o k5o h => ?_)
    refine gf_X8_41 O ka0 (om_lt ka0 (by decide)) dX8_restore_36 ?_
    rw [y5o]
    refine om_aload_n O 0 dX8_restore_39 rfl rfl ?_
    revert h; refine om_refR (fun t6o y6o k6o h => ?_)
    refine gf_X8_44 O ka0 (om_lt ka0 (by decide)) dX8_restore_40 ?_
    rw [y6o]
    revert h; refine om_doR (fun σ4o g4o h => ?_)
    refine cl_X8_263 O (st := []) (stk := [vR (some t6o), vR (some t5o)]) (st2 := []) [vR (some t6o)] (fun l G => c_X3_copyFrom l G g4o) k5o (om_lt k5o (by decide)) (by decide) rfl rfl rfl_le rfl rfl_le rfl_le dX8_restore_43 ?_
    refine om_aload_n O 0 dX8_restore_46 rfl rfl ?_
    revert h; refine om_refR (fun t7o y7o k7o h => ?_)
    refine gf_X8_10 O ka0 (om_lt ka0 (by decide)) dX8_restore_47 ?_
    rw [y7o]
    refine gf_X8_167 O k7o (om_lt k7o (by decide)) dX8_restore_50 ?_
    exact om_iret (st := []) O (om_eI hE h) rfl dX8_restore_53
def f_X8_tell  (a0 : Nat) (v1 : Int32) (σ : om_S) : Option (Int32 × om_S) := if om_kc a0 = 8 then om_ref (om_rf a0 6) 3 fun (t1o : Nat) => om_call (f_X3_add t1o v1 σ) fun (r1o : Int32) (σ1o : om_S) => if r1o = 0 then (om_call (f_X8_refuse a0 (4 : Int32) σ1o) fun (r2o : Int32) (σ2o : om_S) => some (r2o, σ2o)) else (om_ref (om_rf a0 6) 3 fun (t2o : Nat) => om_call (f_X3_size t2o σ1o) fun (r3o : Int32) (σ3o : om_S) => some (r3o, σ3o)) else none
set_option maxRecDepth 100000 in
theorem c_X8_tell (l : Launch) (G : om_G) {a0 : Nat} {v1 : Int32} {σ : om_S} {r : Int32} {τ : om_S} (h : f_X8_tell a0 v1 σ = some (r, τ)) : om_D l G 1 yX8_tell cX8_tell 2 (some FieldType.int) 0 0 [vR (some a0), vI v1] σ om_rf om_N (some (vI r)) τ om_rf om_N := by
  refine om_Dof (lv := [(0, vR (some a0)), (1, vI v1)]) (by decide) rfl_le rfl (fun x O hE => ?_)
  change om_Ok x RX8 "tell" cX8_tell 2 (some FieldType.int) 1 0 0 at O
  unfold f_X8_tell at h
  revert h; refine om_iteR (fun ka0 h => ?_)
  refine om_aload_n O 0 dX8_tell_0 rfl rfl ?_
  revert h; refine om_refR (fun t1o y1o k1o h => ?_)
  refine gf_X8_41 O ka0 (om_lt ka0 (by decide)) dX8_tell_1 ?_
  rw [y1o]
  refine om_iload_n O 1 dX8_tell_4 rfl rfl ?_
  revert h; refine om_callR (fun r1o σ1o g1o h => ?_)
  refine cl_X8_137 O (st := []) (stk := [vI v1, vR (some t1o)]) (st2 := [vI r1o]) [vI v1] (fun l G => c_X3_add l G g1o) k1o (om_lt k1o (by decide)) (by decide) rfl rfl rfl_le rfl rfl_le rfl_le dX8_tell_5 ?_
  refine om_if_ne O (tgt := 17) dX8_tell_8 (by decide) (fun c1o => ?_) (fun c1o => ?_)
  · replace h := (if_pos c1o).symm.trans h
    refine om_aload_n O 0 dX8_tell_11 rfl rfl ?_
    refine om_iconst O (v := 4) dX8_tell_12 (by decide) ?_
    revert h; refine om_callR (fun r2o σ2o g2o h => ?_)
    refine cl_X8_84 O (st := []) (stk := [vI (4 : Int32), vR (some a0)]) (st2 := [vI r2o]) [vI (4 : Int32)] (fun l G => c_X8_refuse l G g2o) ka0 (om_lt ka0 (by decide)) (by decide) rfl rfl rfl_le rfl rfl_le rfl_le dX8_tell_13 ?_
    exact om_iret (st := []) O (om_eI hE h) rfl dX8_tell_16
  · replace h := (if_neg c1o).symm.trans h
    refine om_aload_n O 0 dX8_tell_17 rfl rfl ?_
    revert h; refine om_refR (fun t2o y2o k2o h => ?_)
    refine gf_X8_41 O ka0 (om_lt ka0 (by decide)) dX8_tell_18 ?_
    rw [y2o]
    revert h; refine om_callR (fun r3o σ3o g3o h => ?_)
    refine cl_X8_133 O (st := []) (stk := [vR (some t2o)]) (st2 := [vI r3o]) [] (fun l G => c_X3_size l G g3o) k2o (om_lt k2o (by decide)) (by decide) rfl rfl rfl_le rfl rfl_le rfl_le dX8_tell_21 ?_
    exact om_iret (st := []) O (om_eI hE h) rfl dX8_tell_24
def f_X8_check_b57  (a0 : Nat) (v1 : Int32) (σ : om_S) : Option (Int32 × om_S) := om_ref (om_rf a0 6) 3 fun (t1o : Nat) => om_do (f_X3_clear t1o σ) fun (σ1o : om_S) => some (v1, σ1o)
set_option maxRecDepth 100000 in
theorem g_X8_check_b57 {x : om_X}   (O : om_Ok x RX8 "check" cX8_check 4 (some FieldType.int) 1 0 0)   {r : Int32} {τ : om_S} (hE : om_End x (some (vI r)) τ om_rf om_N 0 0)   {a0 : Nat} {v1 : Int32} {σ : om_S} (ka0 : om_kc a0 = 8) (h : f_X8_check_b57 a0 v1 σ = some (r, τ)) : om_J x 57 [(0, vR (some a0)), (1, vI v1)] [] σ om_rf om_N 0 0 := by
  unfold f_X8_check_b57 at h
  refine om_aload_n O 0 dX8_check_57 rfl rfl ?_
  revert h; refine om_refR (fun t1o y1o k1o h => ?_)
  refine gf_X8_41 O ka0 (om_lt ka0 (by decide)) dX8_check_58 ?_
  rw [y1o]
  revert h; refine om_doR (fun σ1o g1o h => ?_)
  refine cl_X8_147 O (st := []) (stk := [vR (some t1o)]) (st2 := []) [] (fun l G => c_X3_clear l G g1o) k1o (om_lt k1o (by decide)) (by decide) rfl rfl rfl_le rfl rfl_le rfl_le dX8_check_61 ?_
  refine om_iload_n O 1 dX8_check_64 rfl rfl ?_
  exact om_iret (st := []) O (om_eI hE h) rfl dX8_check_65
def f_X8_check_b51 (lp4 : Nat → Int32 → Int32 → om_S → Option (Int32 × om_S)) (a0 : Nat) (v1 : Int32) (v2 : Int32) (σ : om_S) : Option (Int32 × om_S) := lp4 a0 v1 (v2 + 1) σ
set_option maxRecDepth 100000 in
theorem g_X8_check_b51 {x : om_X}   (O : om_Ok x RX8 "check" cX8_check 4 (some FieldType.int) 1 0 0)   {r : Int32} {τ : om_S} (hE : om_End x (some (vI r)) τ om_rf om_N 0 0) {lp4 : Nat → Int32 → Int32 → om_S → Option (Int32 × om_S)} (L4 : ∀ (a0 : Nat) (v1 : Int32) (v2 : Int32) (σ : om_S) (ka0 : om_kc a0 = 8), lp4 a0 v1 v2 σ = some (r, τ) → om_J x 4 [(0, vR (some a0)), (1, vI v1), (2, vI v2)] [] σ om_rf om_N 0 0) {a0 : Nat} {v1 : Int32} {v2 : Int32} {σ : om_S} (ka0 : om_kc a0 = 8) (h : f_X8_check_b51 lp4 a0 v1 v2 σ = some (r, τ)) : om_J x 51 [(0, vR (some a0)), (1, vI v1), (2, vI v2)] [] σ om_rf om_N 0 0 := by
  unfold f_X8_check_b51 at h
  refine om_iinc O (v1 := (v2 + 1)) (lv' := [(0, vR (some a0)), (1, vI v1), (2, vI (v2 + 1))]) 2 [1, 2, 0] rfl dX8_check_51 rfl rfl (by decide) rfl ?_
  refine om_goto O (tgt := 4) dX8_check_54 (by decide) ?_
  exact L4 _ _ _ _ ka0 h
def f_X8_check_b47 (lp4 : Nat → Int32 → Int32 → om_S → Option (Int32 × om_S)) (a0 : Nat) (v2 : Int32) (σ : om_S) : Option (Int32 × om_S) := f_X8_check_b51 lp4 a0 ((1 : Int32) + v2) v2 σ
set_option maxRecDepth 100000 in
theorem g_X8_check_b47 {x : om_X}   (O : om_Ok x RX8 "check" cX8_check 4 (some FieldType.int) 1 0 0)   {r : Int32} {τ : om_S} (hE : om_End x (some (vI r)) τ om_rf om_N 0 0) {lp4 : Nat → Int32 → Int32 → om_S → Option (Int32 × om_S)} (L4 : ∀ (a0 : Nat) (v1 : Int32) (v2 : Int32) (σ : om_S) (ka0 : om_kc a0 = 8), lp4 a0 v1 v2 σ = some (r, τ) → om_J x 4 [(0, vR (some a0)), (1, vI v1), (2, vI v2)] [] σ om_rf om_N 0 0) {a0 : Nat} {v2 : Int32} {σ : om_S} (ka0 : om_kc a0 = 8) (h : f_X8_check_b47 lp4 a0 v2 σ = some (r, τ)) : om_J x 47 [(0, vR (some a0)), (2, vI v2)] [] σ om_rf om_N 0 0 := by
  unfold f_X8_check_b47 at h
  refine om_iconst O (v := 1) dX8_check_47 (by decide) ?_
  refine om_iload_n O 1 dX8_check_48 rfl rfl ?_
  refine om_iadd O dX8_check_49 ?_
  refine om_istore_n O (lv' := [(0, vR (some a0)), (1, vI ((1 : Int32) + v2)), (2, vI v2)]) [1, 0, 2] rfl dX8_check_50 rfl (by decide) rfl ?_
  exact g_X8_check_b51 O hE L4 ka0 h
def f_X8_check_b4  : Nat → Nat → Int32 → Int32 → om_S → Option (Int32 × om_S)
  | 0, _, _, _, _ => none
  | F + 1, a0, v1, v2, σ => om_ref (om_rf a0 6) 3 fun (t1o : Nat) => om_call (f_X3_size t1o σ) fun (r1o : Int32) (σ1o : om_S) => if r1o ≤ v2 then (f_X8_check_b57 a0 v1 σ1o) else (if v1 = 0 then (om_ref (om_rf a0 0) 6 fun (t2o : Nat) => om_call (f_X6_at t2o v2 σ1o) fun (r2o : Option Nat) (σ2o : om_S) => om_nul r2o 1 (f_X8_check_b47 (f_X8_check_b4 F) a0 v2 σ2o) fun (t3o : Nat) => om_ref (om_rf a0 6) 3 fun (t4o : Nat) => om_call (f_X3_at t4o v2 σ2o) fun (r3o : Int32) (σ3o : om_S) => if (σ2o t3o 3) = r3o then (f_X8_check_b51 (f_X8_check_b4 F) a0 v1 v2 σ3o) else (f_X8_check_b47 (f_X8_check_b4 F) a0 v2 σ3o)) else (f_X8_check_b57 a0 v1 σ1o))
set_option maxRecDepth 100000 in
theorem g_X8_check_b4 {x : om_X}   (O : om_Ok x RX8 "check" cX8_check 4 (some FieldType.int) 1 0 0)   {r : Int32} {τ : om_S} (hE : om_End x (some (vI r)) τ om_rf om_N 0 0)   : ∀ (F : Nat) (a0 : Nat) (v1 : Int32) (v2 : Int32) (σ : om_S) (ka0 : om_kc a0 = 8), f_X8_check_b4 F a0 v1 v2 σ = some (r, τ) → om_J x 4 [(0, vR (some a0)), (1, vI v1), (2, vI v2)] [] σ om_rf om_N 0 0 := by
  intro F
  induction F with
  | zero =>
    intro a0 v1 v2 σ ka0 h
    cases h
  | succ F ih =>
    intro a0 v1 v2 σ ka0 h
    unfold f_X8_check_b4 at h
    refine om_iload_n O 2 dX8_check_4 rfl rfl ?_
    refine om_aload_n O 0 dX8_check_5 rfl rfl ?_
    revert h; refine om_refR (fun t1o y1o k1o h => ?_)
    refine gf_X8_41 O ka0 (om_lt ka0 (by decide)) dX8_check_6 ?_
    rw [y1o]
    revert h; refine om_callR (fun r1o σ1o g1o h => ?_)
    refine cl_X8_133 O (st := [vI v2]) (stk := [vR (some t1o), vI v2]) (st2 := [vI r1o, vI v2]) [] (fun l G => c_X3_size l G g1o) k1o (om_lt k1o (by decide)) (by decide) rfl rfl rfl_le rfl rfl_le rfl_le dX8_check_9 ?_
    refine om_icmp_ge O (tgt := 57) dX8_check_12 (by decide) (fun c1o => ?_) (fun c1o => ?_)
    · replace h := (if_pos c1o).symm.trans h
      refine om_drop (lv' := [(0, vR (some a0)), (1, vI v1)]) [0, 1] rfl ?_
      exact g_X8_check_b57 O hE ka0 h
    · replace h := (if_neg c1o).symm.trans h
      refine om_iload_n O 1 dX8_check_15 rfl rfl ?_
      refine om_if_ne O (tgt := 57) dX8_check_16 (by decide) (fun c2o => ?_) (fun c2o => ?_)
      · replace h := (if_pos c2o).symm.trans h
        refine om_aload_n O 0 dX8_check_19 rfl rfl ?_
        revert h; refine om_refR (fun t2o y2o k2o h => ?_)
        refine gf_X8_10 O ka0 (om_lt ka0 (by decide)) dX8_check_20 ?_
        rw [y2o]
        refine om_iload_n O 2 dX8_check_23 rfl rfl ?_
        revert h; refine om_callR (fun r2o σ2o g2o h => ?_)
        refine cl_X8_96 O (st := []) (stk := [vI v2, vR (some t2o)]) (st2 := [vR r2o]) [vI v2] (fun l G => c_X6_at l G g2o) k2o (om_lt k2o (by decide)) (by decide) rfl rfl rfl_le rfl rfl_le rfl_le dX8_check_24 ?_
        refine om_astore_n O (lv' := [(0, vR (some a0)), (1, vI v1), (2, vI v2), (3, vR r2o)]) [1, 2, 3, 0] dX8_check_27 rfl (by decide) rfl ?_
        refine om_aload_n O 3 dX8_check_28 rfl rfl ?_
        revert h; refine om_nulR (fun yy h => ?_) (fun t3o yy k3o h => ?_)
        · subst yy
          refine om_ifnullN O (tgt := 47) dX8_check_29 (by decide) ?_
          refine om_drop (lv' := [(0, vR (some a0)), (2, vI v2)]) [0, 2] rfl ?_
          exact g_X8_check_b47 O hE ih ka0 h
        · subst yy
          refine om_ifnullS O dX8_check_29 ?_
          refine om_aload_n O 3 dX8_check_32 rfl rfl ?_
          refine gf_X8_111 O k3o (om_lt k3o (by decide)) dX8_check_33 ?_
          refine om_aload_n O 0 dX8_check_36 rfl rfl ?_
          revert h; refine om_refR (fun t4o y3o k4o h => ?_)
          refine gf_X8_41 O ka0 (om_lt ka0 (by decide)) dX8_check_37 ?_
          rw [y3o]
          refine om_iload_n O 2 dX8_check_40 rfl rfl ?_
          revert h; refine om_callR (fun r3o σ3o g3o h => ?_)
          refine cl_X8_241 O (st := [vI (σ2o t3o 3)]) (stk := [vI v2, vR (some t4o), vI (σ2o t3o 3)]) (st2 := [vI r3o, vI (σ2o t3o 3)]) [vI v2] (fun l G => c_X3_at l G g3o) k4o (om_lt k4o (by decide)) (by decide) rfl rfl rfl_le rfl rfl_le rfl_le dX8_check_41 ?_
          refine om_icmp_eq O (tgt := 51) dX8_check_44 (by decide) (fun c3o => ?_) (fun c3o => ?_)
          · replace h := (if_pos c3o).symm.trans h
            refine om_drop (lv' := [(0, vR (some a0)), (1, vI v1), (2, vI v2)]) [0, 1, 2] rfl ?_
            exact g_X8_check_b51 O hE ih ka0 h
          · replace h := (if_neg c3o).symm.trans h
            refine om_drop (lv' := [(0, vR (some a0)), (2, vI v2)]) [0, 2] rfl ?_
            exact g_X8_check_b47 O hE ih ka0 h
      · replace h := (if_neg c2o).symm.trans h
        refine om_drop (lv' := [(0, vR (some a0)), (1, vI v1)]) [0, 1] rfl ?_
        exact g_X8_check_b57 O hE ka0 h
def f_X8_check  (a0 : Nat) (σ : om_S) : Option (Int32 × om_S) := if om_kc a0 = 8 then f_X8_check_b4 om_F a0 (0 : Int32) (0 : Int32) σ else none
set_option maxRecDepth 100000 in
theorem c_X8_check (l : Launch) (G : om_G) {a0 : Nat} {σ : om_S} {r : Int32} {τ : om_S} (h : f_X8_check a0 σ = some (r, τ)) : om_D l G 1 yX8_check cX8_check 4 (some FieldType.int) 0 0 [vR (some a0)] σ om_rf om_N (some (vI r)) τ om_rf om_N := by
  refine om_Dof (lv := [(0, vR (some a0))]) (by decide) rfl_le rfl (fun x O hE => ?_)
  change om_Ok x RX8 "check" cX8_check 4 (some FieldType.int) 1 0 0 at O
  unfold f_X8_check at h
  revert h; refine om_iteR (fun ka0 h => ?_)
  refine om_iconst O (v := 0) dX8_check_0 (by decide) ?_
  refine om_istore_n O (lv' := [(0, vR (some a0)), (1, vI (0 : Int32))]) [1, 0] rfl dX8_check_1 rfl (by decide) rfl ?_
  refine om_iconst O (v := 0) dX8_check_2 (by decide) ?_
  refine om_istore_n O (lv' := [(0, vR (some a0)), (1, vI (0 : Int32)), (2, vI (0 : Int32))]) [1, 2, 0] rfl dX8_check_3 rfl (by decide) rfl ?_
  exact g_X8_check_b4 O hE om_F _ _ _ _ ka0 h
def f_X8_count  (a0 : Nat) (v1 : Int32) (σ : om_S) : Option (Int32 × om_S) := if om_kc a0 = 8 then if v1 = 0 then (om_ref (om_rf a0 0) 6 fun (t1o : Nat) => some ((σ t1o 3), σ)) else (if v1 = 1 then (om_ref (om_rf a0 0) 6 fun (t2o : Nat) => some ((σ t2o 4), σ)) else (if v1 = 2 then (om_ref (om_rf a0 0) 6 fun (t3o : Nat) => some ((σ t3o 5), σ)) else (if v1 = 3 then (om_ref (om_rf a0 0) 6 fun (t4o : Nat) => some ((σ t4o 6), σ)) else (if v1 = 4 then (om_ref (om_rf a0 4) 3 fun (t5o : Nat) => om_call (f_X3_size t5o σ) fun (r1o : Int32) (σ1o : om_S) => some (r1o, σ1o)) else (if v1 = 5 then (om_ref (om_rf a0 6) 3 fun (t6o : Nat) => om_call (f_X3_size t6o σ) fun (r2o : Int32) (σ2o : om_S) => some (r2o, σ2o)) else (if v1 = 6 then (om_ref (om_rf a0 9) 7 fun (t7o : Nat) => om_ref (om_rf t7o 0) 3 fun (t8o : Nat) => om_call (f_X3_size t8o σ) fun (r3o : Int32) (σ3o : om_S) => some (r3o, σ3o)) else (if v1 = 7 then (om_ref (om_rf a0 0) 6 fun (t9o : Nat) => some ((σ t9o 7), σ)) else (om_call (f_X8_refuse a0 (1 : Int32) σ) fun (r4o : Int32) (σ4o : om_S) => some (r4o, σ4o))))))))) else none
set_option maxRecDepth 100000 in
theorem c_X8_count (l : Launch) (G : om_G) {a0 : Nat} {v1 : Int32} {σ : om_S} {r : Int32} {τ : om_S} (h : f_X8_count a0 v1 σ = some (r, τ)) : om_D l G 1 yX8_count cX8_count 2 (some FieldType.int) 0 0 [vR (some a0), vI v1] σ om_rf om_N (some (vI r)) τ om_rf om_N := by
  refine om_Dof (lv := [(0, vR (some a0)), (1, vI v1)]) (by decide) rfl_le rfl (fun x O hE => ?_)
  change om_Ok x RX8 "count" cX8_count 2 (some FieldType.int) 1 0 0 at O
  unfold f_X8_count at h
  revert h; refine om_iteR (fun ka0 h => ?_)
  refine om_iload_n O 1 dX8_count_0 rfl rfl ?_
  by_cases c1o : v1 = 0
  · replace h := (if_pos c1o).symm.trans h
    refine om_tblIn O (b := 0) (off := 47) (tgt := 48) dX8_count_1 c1o (by decide) (by decide) (by decide +kernel) (by decide) ?_
    refine om_aload_n O 0 dX8_count_48 rfl rfl ?_
    revert h; refine om_refR (fun t1o y1o k1o h => ?_)
    refine gf_X8_10 O ka0 (om_lt ka0 (by decide)) dX8_count_49 ?_
    rw [y1o]
    refine gf_X8_202 O k1o (om_lt k1o (by decide)) dX8_count_52 ?_
    exact om_iret (st := []) O (om_eI hE h) rfl dX8_count_55
  · replace h := (if_neg c1o).symm.trans h
    by_cases c2o : v1 = 1
    · replace h := (if_pos c2o).symm.trans h
      refine om_tblIn O (b := 1) (off := 55) (tgt := 56) dX8_count_1 c2o (by decide) (by decide) (by decide +kernel) (by decide) ?_
      refine om_aload_n O 0 dX8_count_56 rfl rfl ?_
      revert h; refine om_refR (fun t2o y2o k2o h => ?_)
      refine gf_X8_10 O ka0 (om_lt ka0 (by decide)) dX8_count_57 ?_
      rw [y2o]
      refine gf_X8_121 O k2o (om_lt k2o (by decide)) dX8_count_60 ?_
      exact om_iret (st := []) O (om_eI hE h) rfl dX8_count_63
    · replace h := (if_neg c2o).symm.trans h
      by_cases c3o : v1 = 2
      · replace h := (if_pos c3o).symm.trans h
        refine om_tblIn O (b := 2) (off := 63) (tgt := 64) dX8_count_1 c3o (by decide) (by decide) (by decide +kernel) (by decide) ?_
        refine om_aload_n O 0 dX8_count_64 rfl rfl ?_
        revert h; refine om_refR (fun t3o y3o k3o h => ?_)
        refine gf_X8_10 O ka0 (om_lt ka0 (by decide)) dX8_count_65 ?_
        rw [y3o]
        refine gf_X8_167 O k3o (om_lt k3o (by decide)) dX8_count_68 ?_
        exact om_iret (st := []) O (om_eI hE h) rfl dX8_count_71
      · replace h := (if_neg c3o).symm.trans h
        by_cases c4o : v1 = 3
        · replace h := (if_pos c4o).symm.trans h
          refine om_tblIn O (b := 3) (off := 71) (tgt := 72) dX8_count_1 c4o (by decide) (by decide) (by decide +kernel) (by decide) ?_
          refine om_aload_n O 0 dX8_count_72 rfl rfl ?_
          revert h; refine om_refR (fun t4o y4o k4o h => ?_)
          refine gf_X8_10 O ka0 (om_lt ka0 (by decide)) dX8_count_73 ?_
          rw [y4o]
          refine gf_X8_266 O k4o (om_lt k4o (by decide)) dX8_count_76 ?_
          exact om_iret (st := []) O (om_eI hE h) rfl dX8_count_79
        · replace h := (if_neg c4o).symm.trans h
          by_cases c5o : v1 = 4
          · replace h := (if_pos c5o).symm.trans h
            refine om_tblIn O (b := 4) (off := 79) (tgt := 80) dX8_count_1 c5o (by decide) (by decide) (by decide +kernel) (by decide) ?_
            refine om_aload_n O 0 dX8_count_80 rfl rfl ?_
            revert h; refine om_refR (fun t5o y5o k5o h => ?_)
            refine gf_X8_34 O ka0 (om_lt ka0 (by decide)) dX8_count_81 ?_
            rw [y5o]
            revert h; refine om_callR (fun r1o σ1o g1o h => ?_)
            refine cl_X8_133 O (st := []) (stk := [vR (some t5o)]) (st2 := [vI r1o]) [] (fun l G => c_X3_size l G g1o) k5o (om_lt k5o (by decide)) (by decide) rfl rfl rfl_le rfl rfl_le rfl_le dX8_count_84 ?_
            exact om_iret (st := []) O (om_eI hE h) rfl dX8_count_87
          · replace h := (if_neg c5o).symm.trans h
            by_cases c6o : v1 = 5
            · replace h := (if_pos c6o).symm.trans h
              refine om_tblIn O (b := 5) (off := 87) (tgt := 88) dX8_count_1 c6o (by decide) (by decide) (by decide +kernel) (by decide) ?_
              refine om_aload_n O 0 dX8_count_88 rfl rfl ?_
              revert h; refine om_refR (fun t6o y6o k6o h => ?_)
              refine gf_X8_41 O ka0 (om_lt ka0 (by decide)) dX8_count_89 ?_
              rw [y6o]
              revert h; refine om_callR (fun r2o σ2o g2o h => ?_)
              refine cl_X8_133 O (st := []) (stk := [vR (some t6o)]) (st2 := [vI r2o]) [] (fun l G => c_X3_size l G g2o) k6o (om_lt k6o (by decide)) (by decide) rfl rfl rfl_le rfl rfl_le rfl_le dX8_count_92 ?_
              exact om_iret (st := []) O (om_eI hE h) rfl dX8_count_95
            · replace h := (if_neg c6o).symm.trans h
              by_cases c7o : v1 = 6
              · replace h := (if_pos c7o).symm.trans h
                refine om_tblIn O (b := 6) (off := 95) (tgt := 96) dX8_count_1 c7o (by decide) (by decide) (by decide +kernel) (by decide) ?_
                refine om_aload_n O 0 dX8_count_96 rfl rfl ?_
                revert h; refine om_refR (fun t7o y7o k7o h => ?_)
                refine gf_X8_57 O ka0 (om_lt ka0 (by decide)) dX8_count_97 ?_
                rw [y7o]
                revert h; refine om_refR (fun t8o y8o k8o h => ?_)
                refine gf_X8_235 O k7o (om_lt k7o (by decide)) dX8_count_100 ?_
                rw [y8o]
                revert h; refine om_callR (fun r3o σ3o g3o h => ?_)
                refine cl_X8_133 O (st := []) (stk := [vR (some t8o)]) (st2 := [vI r3o]) [] (fun l G => c_X3_size l G g3o) k8o (om_lt k8o (by decide)) (by decide) rfl rfl rfl_le rfl rfl_le rfl_le dX8_count_103 ?_
                exact om_iret (st := []) O (om_eI hE h) rfl dX8_count_106
              · replace h := (if_neg c7o).symm.trans h
                by_cases c8o : v1 = 7
                · replace h := (if_pos c8o).symm.trans h
                  refine om_tblIn O (b := 7) (off := 106) (tgt := 107) dX8_count_1 c8o (by decide) (by decide) (by decide +kernel) (by decide) ?_
                  refine om_aload_n O 0 dX8_count_107 rfl rfl ?_
                  revert h; refine om_refR (fun t9o y9o k9o h => ?_)
                  refine gf_X8_10 O ka0 (om_lt ka0 (by decide)) dX8_count_108 ?_
                  rw [y9o]
                  refine gf_X8_177 O k9o (om_lt k9o (by decide)) dX8_count_111 ?_
                  exact om_iret (st := []) O (om_eI hE h) rfl dX8_count_114
                · replace h := (if_neg c8o).symm.trans h
                  refine om_tblDef O (tgt := 115) dX8_count_1 (fun v hv h1 h2 => by
    have h3 : v = 0 ∨ v = 1 ∨ v = 2 ∨ v = 3 ∨ v = 4 ∨ v = 5 ∨ v = 6 ∨ v = 7 := by omega
    rcases h3 with rfl | rfl | rfl | rfl | rfl | rfl | rfl | rfl <;> first | rfl | exact absurd hv.symm (lv_neT (k := 0) c1o (by decide)) | exact absurd hv.symm (lv_neT (k := 1) c2o (by decide)) | exact absurd hv.symm (lv_neT (k := 2) c3o (by decide)) | exact absurd hv.symm (lv_neT (k := 3) c4o (by decide)) | exact absurd hv.symm (lv_neT (k := 4) c5o (by decide)) | exact absurd hv.symm (lv_neT (k := 5) c6o (by decide)) | exact absurd hv.symm (lv_neT (k := 6) c7o (by decide)) | exact absurd hv.symm (lv_neT (k := 7) c8o (by decide))) (by decide) ?_
                  refine om_aload_n O 0 dX8_count_115 rfl rfl ?_
                  refine om_iconst O (v := 1) dX8_count_116 (by decide) ?_
                  revert h; refine om_callR (fun r4o σ4o g4o h => ?_)
                  refine cl_X8_84 O (st := []) (stk := [vI (1 : Int32), vR (some a0)]) (st2 := [vI r4o]) [vI (1 : Int32)] (fun l G => c_X8_refuse l G g4o) ka0 (om_lt ka0 (by decide)) (by decide) rfl rfl rfl_le rfl rfl_le rfl_le dX8_count_117 ?_
                  exact om_iret (st := []) O (om_eI hE h) rfl dX8_count_120
def f_X8_told  (a0 : Nat) (v1 : Int32) (σ : om_S) : Option (Int32 × om_S) := if om_kc a0 = 8 then om_call (f_X8_isWithin v1 (1 : Int32) (6 : Int32) σ) fun (r1o : Int32) (σ1o : om_S) => if r1o = 0 then (om_call (f_X8_refuse a0 (1 : Int32) σ1o) fun (r2o : Int32) (σ2o : om_S) => some (r2o, σ2o)) else (om_ref (om_rf a0 11) 20 fun (t1o : Nat) => if om_in v1 (om_al t1o) then some ((σ1o t1o v1.toNatClampNeg), σ1o) else none) else none
set_option maxRecDepth 100000 in
theorem c_X8_told (l : Launch) (G : om_G) {a0 : Nat} {v1 : Int32} {σ : om_S} {r : Int32} {τ : om_S} (h : f_X8_told a0 v1 σ = some (r, τ)) : om_D l G 1 yX8_told cX8_told 2 (some FieldType.int) 0 0 [vR (some a0), vI v1] σ om_rf om_N (some (vI r)) τ om_rf om_N := by
  refine om_Dof (lv := [(0, vR (some a0)), (1, vI v1)]) (by decide) rfl_le rfl (fun x O hE => ?_)
  change om_Ok x RX8 "told" cX8_told 2 (some FieldType.int) 1 0 0 at O
  unfold f_X8_told at h
  revert h; refine om_iteR (fun ka0 h => ?_)
  refine om_iload_n O 1 dX8_told_0 rfl rfl ?_
  refine om_iconst O (v := 1) dX8_told_1 (by decide) ?_
  refine om_bipush O (v := 6) dX8_told_2 (by decide) ?_
  revert h; refine om_callR (fun r1o σ1o g1o h => ?_)
  refine cl_X8_80 O (st := []) (stk := [vI (6 : Int32), vI (1 : Int32), vI v1]) (st2 := [vI r1o]) [vI v1, vI (1 : Int32), vI (6 : Int32)] (fun l G => c_X8_isWithin l G g1o) (by decide) rfl rfl rfl_le rfl rfl_le rfl_le dX8_told_4 ?_
  refine om_if_eq O (tgt := 19) dX8_told_7 (by decide) (fun c1o => ?_) (fun c1o => ?_)
  · replace h := (if_pos c1o).symm.trans h
    refine om_aload_n O 0 dX8_told_19 rfl rfl ?_
    refine om_iconst O (v := 1) dX8_told_20 (by decide) ?_
    revert h; refine om_callR (fun r2o σ2o g2o h => ?_)
    refine cl_X8_84 O (st := []) (stk := [vI (1 : Int32), vR (some a0)]) (st2 := [vI r2o]) [vI (1 : Int32)] (fun l G => c_X8_refuse l G g2o) ka0 (om_lt ka0 (by decide)) (by decide) rfl rfl rfl_le rfl rfl_le rfl_le dX8_told_21 ?_
    exact om_iret (st := []) O (om_eI hE h) rfl dX8_told_24
  · replace h := (if_neg c1o).symm.trans h
    refine om_aload_n O 0 dX8_told_10 rfl rfl ?_
    revert h; refine om_refR (fun t1o y1o k1o h => ?_)
    refine gf_X8_67 O ka0 (om_lt ka0 (by decide)) dX8_told_11 ?_
    rw [y1o]
    refine om_iload_n O 1 dX8_told_14 rfl rfl ?_
    revert h; refine om_iteR (fun i1o h => ?_)
    refine om_iald O k1o (om_lt k1o (by decide)) i1o dX8_told_15 ?_
    refine om_goto O (tgt := 24) dX8_told_16 (by decide) ?_
    exact om_iret (st := []) O (om_eI hE h) rfl dX8_told_24
def f_X9_init (a0 : Nat) (σ : om_S) (ρ : om_R) (n : Nat) : Option (om_S × om_R × Nat) := if om_kc n = 20 then if Int32.ofNat (om_al n) = (387 : Int32) then if om_al n ≤ 387 then om_mk σ ρ n fun (σ1o : om_S) (ρ1o : om_R) (n1o : Nat) => if om_kc a0 = 9 then if a0 < n1o then om_let (om_wr ρ1o a0 0 (some n)) fun (ρ2o : om_R) => if om_kc n1o = 20 then if Int32.ofNat (om_al n1o) = (387 : Int32) then if om_al n1o ≤ 387 then om_mk σ1o ρ2o n1o fun (σ2o : om_S) (ρ3o : om_R) (n2o : Nat) => om_let (om_wr ρ3o a0 1 (some n1o)) fun (ρ4o : om_R) => if om_kc n2o = 20 then if Int32.ofNat (om_al n2o) = (53 : Int32) then if om_al n2o ≤ 53 then om_mk σ2o ρ4o n2o fun (σ3o : om_S) (ρ5o : om_R) (n3o : Nat) => om_let (om_wr ρ5o a0 2 (some n2o)) fun (ρ6o : om_R) => if om_kc n3o = 20 then if Int32.ofNat (om_al n3o) = (7 : Int32) then if om_al n3o ≤ 7 then om_mk σ3o ρ6o n3o fun (σ4o : om_S) (ρ7o : om_R) (n4o : Nat) => om_let (om_wr ρ7o a0 4 (some n3o)) fun (ρ8o : om_R) => om_let (om_w σ4o a0 5 (-1 : Int32)) fun (σ5o : om_S) => if om_kc n4o = 20 then if Int32.ofNat (om_al n4o) = (124 : Int32) then if om_al n4o ≤ 124 then om_mk σ5o ρ8o n4o fun (σ6o : om_S) (ρ9o : om_R) (n5o : Nat) => om_let (om_wr ρ9o a0 10 (some n4o)) fun (ρ10o : om_R) => if om_kc n5o = 20 then if Int32.ofNat (om_al n5o) = (128 : Int32) then if om_al n5o ≤ 128 then om_mk σ6o ρ10o n5o fun (σ7o : om_S) (ρ11o : om_R) (n6o : Nat) => om_let (om_wr ρ11o a0 11 (some n5o)) fun (ρ12o : om_R) => if om_kc n6o = 20 then if Int32.ofNat (om_al n6o) = (64 : Int32) then if om_al n6o ≤ 64 then om_mk σ7o ρ12o n6o fun (σ8o : om_S) (ρ13o : om_R) (n7o : Nat) => om_let (om_wr ρ13o a0 12 (some n6o)) fun (ρ14o : om_R) => if om_kc n7o = 20 then if Int32.ofNat (om_al n7o) = (512 : Int32) then if om_al n7o ≤ 512 then om_mk σ8o ρ14o n7o fun (σ9o : om_S) (ρ15o : om_R) (n8o : Nat) => om_let (om_wr ρ15o a0 13 (some n7o)) fun (ρ16o : om_R) => if om_kc n8o = 20 then if Int32.ofNat (om_al n8o) = (512 : Int32) then if om_al n8o ≤ 512 then om_mk σ9o ρ16o n8o fun (σ10o : om_S) (ρ17o : om_R) (n9o : Nat) => om_let (om_wr ρ17o a0 14 (some n8o)) fun (ρ18o : om_R) => if om_kc n9o = 20 then if Int32.ofNat (om_al n9o) = (30 : Int32) then if om_al n9o ≤ 30 then om_mk σ10o ρ18o n9o fun (σ11o : om_S) (ρ19o : om_R) (n10o : Nat) => om_let (om_wr ρ19o a0 16 (some n9o)) fun (ρ20o : om_R) => if om_kc n10o = 20 then if Int32.ofNat (om_al n10o) = (4 : Int32) then if om_al n10o ≤ 4 then om_mk σ11o ρ20o n10o fun (σ12o : om_S) (ρ21o : om_R) (n11o : Nat) => om_let (om_wr ρ21o a0 19 (some n10o)) fun (ρ22o : om_R) => if om_kc n11o = 20 then if Int32.ofNat (om_al n11o) = (4 : Int32) then if om_al n11o ≤ 4 then om_mk σ12o ρ22o n11o fun (σ13o : om_S) (ρ23o : om_R) (n12o : Nat) => om_let (om_wr ρ23o a0 20 (some n11o)) fun (ρ24o : om_R) => if om_kc n12o = 20 then if Int32.ofNat (om_al n12o) = (96 : Int32) then if om_al n12o ≤ 96 then om_mk σ13o ρ24o n12o fun (σ14o : om_S) (ρ25o : om_R) (n13o : Nat) => om_let (om_wr ρ25o a0 21 (some n12o)) fun (ρ26o : om_R) => if om_kc n13o = 20 then if Int32.ofNat (om_al n13o) = (24 : Int32) then if om_al n13o ≤ 24 then om_mk σ14o ρ26o n13o fun (σ15o : om_S) (ρ27o : om_R) (n14o : Nat) => om_let (om_wr ρ27o a0 22 (some n13o)) fun (ρ28o : om_R) => om_ref (ρ28o a0 0) 20 fun (t1o : Nat) => if t1o < n14o then if om_in (3 : Int32) (om_al t1o) then om_let (om_w σ15o t1o (3 : Int32).toNatClampNeg (1 : Int32)) fun (σ16o : om_S) => some (σ16o, ρ28o, n14o) else none else none else none else none else none else none else none else none else none else none else none else none else none else none else none else none else none else none else none else none else none else none else none else none else none else none else none else none else none else none else none else none else none else none else none else none else none else none else none else none else none else none else none else none else none else none
set_option maxRecDepth 100000 in
theorem c_X9_init (l : Launch) (G : om_G) {a0 : Nat} {σ : om_S} {ρ : om_R} {n : Nat} {τ : om_S} {ρt : om_R} {nt : Nat} (h : f_X9_init a0 σ ρ n = some (τ, ρt, nt)) : om_D l G 1 yX9_init cX9_init 1 none 14 2332 [vR (some a0)] σ ρ n none τ ρt nt := by
  refine om_Dof (lv := [(0, vR (some a0))]) (by decide) rfl_le rfl (fun x O hE => ?_)
  change om_Ok x RX9 "<init>" cX9_init 1 none 1 14 2332 at O
  unfold f_X9_init at h
  refine om_aload_n O 0 dX9_init_0 rfl rfl ?_
  refine om_objInit O wd_761 wd_69 wd_objcode (by decide) rfl_le dX9_init_1 ?_
  refine om_aload_n O 0 dX9_init_4 rfl rfl ?_
  refine om_sipush O (v := 387) dX9_init_5 (by decide) ?_
  revert h; refine om_iteR (fun k1o h => ?_)
  revert h; refine om_iteR (fun e1o h => ?_)
  revert h; refine om_iteR (fun e2o h => ?_)
  revert h; refine om_mkR (fun σ1o ρ1o n1o e3o e4o e5o h => ?_)
  refine om_newa O 387 wd_arr k1o e1o e2o (by decide) (by decide) (by decide) dX9_init_8 e3o e4o e5o ?_
  revert h; refine om_iteR (fun k2o h => ?_)
  revert h; refine om_iteR (fun l1o h => ?_)
  revert h; refine om_letR (fun ρ2o e6o h => ?_)
  refine pf_X9_7 O k2o l1o dX9_init_10 e6o ?_
  refine om_aload_n O 0 dX9_init_13 rfl rfl ?_
  refine om_sipush O (v := 387) dX9_init_14 (by decide) ?_
  revert h; refine om_iteR (fun k3o h => ?_)
  revert h; refine om_iteR (fun e7o h => ?_)
  revert h; refine om_iteR (fun e8o h => ?_)
  revert h; refine om_mkR (fun σ2o ρ3o n2o e9o e10o e11o h => ?_)
  refine om_newa O 387 wd_arr k3o e7o e8o (by decide) (by decide) (by decide) dX9_init_17 e9o e10o e11o ?_
  revert h; refine om_letR (fun ρ4o e12o h => ?_)
  refine pf_X9_13 O k2o (om_lt1 e11o l1o) dX9_init_19 e12o ?_
  refine om_aload_n O 0 dX9_init_22 rfl rfl ?_
  refine om_bipush O (v := 53) dX9_init_23 (by decide) ?_
  revert h; refine om_iteR (fun k4o h => ?_)
  revert h; refine om_iteR (fun e13o h => ?_)
  revert h; refine om_iteR (fun e14o h => ?_)
  revert h; refine om_mkR (fun σ3o ρ5o n3o e15o e16o e17o h => ?_)
  refine om_newa O 53 wd_arr k4o e13o e14o (by decide) (by decide) (by decide) dX9_init_25 e15o e16o e17o ?_
  revert h; refine om_letR (fun ρ6o e18o h => ?_)
  refine pf_X9_16 O k2o (om_lt1 e17o (om_lt1 e11o l1o)) dX9_init_27 e18o ?_
  refine om_aload_n O 0 dX9_init_30 rfl rfl ?_
  refine om_bipush O (v := 7) dX9_init_31 (by decide) ?_
  revert h; refine om_iteR (fun k5o h => ?_)
  revert h; refine om_iteR (fun e19o h => ?_)
  revert h; refine om_iteR (fun e20o h => ?_)
  revert h; refine om_mkR (fun σ4o ρ7o n4o e21o e22o e23o h => ?_)
  refine om_newa O 7 wd_arr k5o e19o e20o (by decide) (by decide) (by decide) dX9_init_33 e21o e22o e23o ?_
  revert h; refine om_letR (fun ρ8o e24o h => ?_)
  refine pf_X9_19 O k2o (om_lt1 e23o (om_lt1 e17o (om_lt1 e11o l1o))) dX9_init_35 e24o ?_
  refine om_aload_n O 0 dX9_init_38 rfl rfl ?_
  refine om_iconst O (v := -1) dX9_init_39 (by decide) ?_
  revert h; refine om_letR (fun σ5o e25o h => ?_)
  refine pf_X9_22 O (Or.inl rfl) k2o (om_lt1 e23o (om_lt1 e17o (om_lt1 e11o l1o))) dX9_init_40 e25o ?_
  refine om_aload_n O 0 dX9_init_43 rfl rfl ?_
  refine om_bipush O (v := 124) dX9_init_44 (by decide) ?_
  revert h; refine om_iteR (fun k6o h => ?_)
  revert h; refine om_iteR (fun e26o h => ?_)
  revert h; refine om_iteR (fun e27o h => ?_)
  revert h; refine om_mkR (fun σ6o ρ9o n5o e28o e29o e30o h => ?_)
  refine om_newa O 124 wd_arr k6o e26o e27o (by decide) (by decide) (by decide) dX9_init_46 e28o e29o e30o ?_
  revert h; refine om_letR (fun ρ10o e31o h => ?_)
  refine pf_X9_26 O k2o (om_lt1 e30o (om_lt1 e23o (om_lt1 e17o (om_lt1 e11o l1o)))) dX9_init_48 e31o ?_
  refine om_aload_n O 0 dX9_init_51 rfl rfl ?_
  refine om_sipush O (v := 128) dX9_init_52 (by decide) ?_
  revert h; refine om_iteR (fun k7o h => ?_)
  revert h; refine om_iteR (fun e32o h => ?_)
  revert h; refine om_iteR (fun e33o h => ?_)
  revert h; refine om_mkR (fun σ7o ρ11o n6o e34o e35o e36o h => ?_)
  refine om_newa O 128 wd_arr k7o e32o e33o (by decide) (by decide) (by decide) dX9_init_55 e34o e35o e36o ?_
  revert h; refine om_letR (fun ρ12o e37o h => ?_)
  refine pf_X9_29 O k2o (om_lt1 e36o (om_lt1 e30o (om_lt1 e23o (om_lt1 e17o (om_lt1 e11o l1o))))) dX9_init_57 e37o ?_
  refine om_aload_n O 0 dX9_init_60 rfl rfl ?_
  refine om_bipush O (v := 64) dX9_init_61 (by decide) ?_
  revert h; refine om_iteR (fun k8o h => ?_)
  revert h; refine om_iteR (fun e38o h => ?_)
  revert h; refine om_iteR (fun e39o h => ?_)
  revert h; refine om_mkR (fun σ8o ρ13o n7o e40o e41o e42o h => ?_)
  refine om_newa O 64 wd_arr k8o e38o e39o (by decide) (by decide) (by decide) dX9_init_63 e40o e41o e42o ?_
  revert h; refine om_letR (fun ρ14o e43o h => ?_)
  refine pf_X9_32 O k2o (om_lt1 e42o (om_lt1 e36o (om_lt1 e30o (om_lt1 e23o (om_lt1 e17o (om_lt1 e11o l1o)))))) dX9_init_65 e43o ?_
  refine om_aload_n O 0 dX9_init_68 rfl rfl ?_
  refine om_sipush O (v := 512) dX9_init_69 (by decide) ?_
  revert h; refine om_iteR (fun k9o h => ?_)
  revert h; refine om_iteR (fun e44o h => ?_)
  revert h; refine om_iteR (fun e45o h => ?_)
  revert h; refine om_mkR (fun σ9o ρ15o n8o e46o e47o e48o h => ?_)
  refine om_newa O 512 wd_arr k9o e44o e45o (by decide) (by decide) (by decide) dX9_init_72 e46o e47o e48o ?_
  revert h; refine om_letR (fun ρ16o e49o h => ?_)
  refine pf_X9_35 O k2o (om_lt1 e48o (om_lt1 e42o (om_lt1 e36o (om_lt1 e30o (om_lt1 e23o (om_lt1 e17o (om_lt1 e11o l1o))))))) dX9_init_74 e49o ?_
  refine om_aload_n O 0 dX9_init_77 rfl rfl ?_
  refine om_sipush O (v := 512) dX9_init_78 (by decide) ?_
  revert h; refine om_iteR (fun k10o h => ?_)
  revert h; refine om_iteR (fun e50o h => ?_)
  revert h; refine om_iteR (fun e51o h => ?_)
  revert h; refine om_mkR (fun σ10o ρ17o n9o e52o e53o e54o h => ?_)
  refine om_newa O 512 wd_arr k10o e50o e51o (by decide) (by decide) (by decide) dX9_init_81 e52o e53o e54o ?_
  revert h; refine om_letR (fun ρ18o e55o h => ?_)
  refine pf_X9_38 O k2o (om_lt1 e54o (om_lt1 e48o (om_lt1 e42o (om_lt1 e36o (om_lt1 e30o (om_lt1 e23o (om_lt1 e17o (om_lt1 e11o l1o)))))))) dX9_init_83 e55o ?_
  refine om_aload_n O 0 dX9_init_86 rfl rfl ?_
  refine om_bipush O (v := 30) dX9_init_87 (by decide) ?_
  revert h; refine om_iteR (fun k11o h => ?_)
  revert h; refine om_iteR (fun e56o h => ?_)
  revert h; refine om_iteR (fun e57o h => ?_)
  revert h; refine om_mkR (fun σ11o ρ19o n10o e58o e59o e60o h => ?_)
  refine om_newa O 30 wd_arr k11o e56o e57o (by decide) (by decide) (by decide) dX9_init_89 e58o e59o e60o ?_
  revert h; refine om_letR (fun ρ20o e61o h => ?_)
  refine pf_X9_41 O k2o (om_lt1 e60o (om_lt1 e54o (om_lt1 e48o (om_lt1 e42o (om_lt1 e36o (om_lt1 e30o (om_lt1 e23o (om_lt1 e17o (om_lt1 e11o l1o))))))))) dX9_init_91 e61o ?_
  refine om_aload_n O 0 dX9_init_94 rfl rfl ?_
  refine om_iconst O (v := 4) dX9_init_95 (by decide) ?_
  revert h; refine om_iteR (fun k12o h => ?_)
  revert h; refine om_iteR (fun e62o h => ?_)
  revert h; refine om_iteR (fun e63o h => ?_)
  revert h; refine om_mkR (fun σ12o ρ21o n11o e64o e65o e66o h => ?_)
  refine om_newa O 4 wd_arr k12o e62o e63o (by decide) (by decide) (by decide) dX9_init_96 e64o e65o e66o ?_
  revert h; refine om_letR (fun ρ22o e67o h => ?_)
  refine pf_X9_44 O k2o (om_lt1 e66o (om_lt1 e60o (om_lt1 e54o (om_lt1 e48o (om_lt1 e42o (om_lt1 e36o (om_lt1 e30o (om_lt1 e23o (om_lt1 e17o (om_lt1 e11o l1o)))))))))) dX9_init_98 e67o ?_
  refine om_aload_n O 0 dX9_init_101 rfl rfl ?_
  refine om_iconst O (v := 4) dX9_init_102 (by decide) ?_
  revert h; refine om_iteR (fun k13o h => ?_)
  revert h; refine om_iteR (fun e68o h => ?_)
  revert h; refine om_iteR (fun e69o h => ?_)
  revert h; refine om_mkR (fun σ13o ρ23o n12o e70o e71o e72o h => ?_)
  refine om_newa O 4 wd_arr k13o e68o e69o (by decide) (by decide) (by decide) dX9_init_103 e70o e71o e72o ?_
  revert h; refine om_letR (fun ρ24o e73o h => ?_)
  refine pf_X9_47 O k2o (om_lt1 e72o (om_lt1 e66o (om_lt1 e60o (om_lt1 e54o (om_lt1 e48o (om_lt1 e42o (om_lt1 e36o (om_lt1 e30o (om_lt1 e23o (om_lt1 e17o (om_lt1 e11o l1o))))))))))) dX9_init_105 e73o ?_
  refine om_aload_n O 0 dX9_init_108 rfl rfl ?_
  refine om_bipush O (v := 96) dX9_init_109 (by decide) ?_
  revert h; refine om_iteR (fun k14o h => ?_)
  revert h; refine om_iteR (fun e74o h => ?_)
  revert h; refine om_iteR (fun e75o h => ?_)
  revert h; refine om_mkR (fun σ14o ρ25o n13o e76o e77o e78o h => ?_)
  refine om_newa O 96 wd_arr k14o e74o e75o (by decide) (by decide) (by decide) dX9_init_111 e76o e77o e78o ?_
  revert h; refine om_letR (fun ρ26o e79o h => ?_)
  refine pf_X9_50 O k2o (om_lt1 e78o (om_lt1 e72o (om_lt1 e66o (om_lt1 e60o (om_lt1 e54o (om_lt1 e48o (om_lt1 e42o (om_lt1 e36o (om_lt1 e30o (om_lt1 e23o (om_lt1 e17o (om_lt1 e11o l1o)))))))))))) dX9_init_113 e79o ?_
  refine om_aload_n O 0 dX9_init_116 rfl rfl ?_
  refine om_bipush O (v := 24) dX9_init_117 (by decide) ?_
  revert h; refine om_iteR (fun k15o h => ?_)
  revert h; refine om_iteR (fun e80o h => ?_)
  revert h; refine om_iteR (fun e81o h => ?_)
  revert h; refine om_mkR (fun σ15o ρ27o n14o e82o e83o e84o h => ?_)
  refine om_newa O 24 wd_arr k15o e80o e81o (by decide) (by decide) (by decide) dX9_init_119 e82o e83o e84o ?_
  revert h; refine om_letR (fun ρ28o e85o h => ?_)
  refine pf_X9_53 O k2o (om_lt1 e84o (om_lt1 e78o (om_lt1 e72o (om_lt1 e66o (om_lt1 e60o (om_lt1 e54o (om_lt1 e48o (om_lt1 e42o (om_lt1 e36o (om_lt1 e30o (om_lt1 e23o (om_lt1 e17o (om_lt1 e11o l1o))))))))))))) dX9_init_121 e85o ?_
  refine om_aload_n O 0 dX9_init_124 rfl rfl ?_
  revert h; refine om_refR (fun t1o y1o k16o h => ?_)
  refine gf_X9_7 O k2o (om_lt1 e84o (om_lt1 e78o (om_lt1 e72o (om_lt1 e66o (om_lt1 e60o (om_lt1 e54o (om_lt1 e48o (om_lt1 e42o (om_lt1 e36o (om_lt1 e30o (om_lt1 e23o (om_lt1 e17o (om_lt1 e11o l1o))))))))))))) dX9_init_125 ?_
  rw [y1o]
  refine om_iconst O (v := 3) dX9_init_128 (by decide) ?_
  refine om_iconst O (v := 1) dX9_init_129 (by decide) ?_
  revert h; refine om_iteR (fun l2o h => ?_)
  revert h; refine om_iteR (fun i1o h => ?_)
  revert h; refine om_letR (fun σ16o e86o h => ?_)
  refine om_iast O k16o l2o i1o dX9_init_130 e86o ?_
  refine om_widen 14 2332 (by decide) (by decide) ?_
  exact om_vret (st := []) O (om_e3 hE h) rfl dX9_init_131
def f_X9_error  (a0 : Nat) (v1 : Int32) (σ : om_S) : Option (Int32 × om_S) := if om_kc a0 = 9 then om_ref (om_rf a0 4) 20 fun (t1o : Nat) => if om_in v1 (om_al t1o) then if om_in v1 (om_al t1o) then om_let (om_w σ t1o v1.toNatClampNeg ((σ t1o v1.toNatClampNeg) + (1 : Int32))) fun (σ1o : om_S) => some (((-1000000000 : Int32) - v1), σ1o) else none else none else none
set_option maxRecDepth 100000 in
theorem c_X9_error (l : Launch) (G : om_G) {a0 : Nat} {v1 : Int32} {σ : om_S} {r : Int32} {τ : om_S} (h : f_X9_error a0 v1 σ = some (r, τ)) : om_D l G 0 yX9_error cX9_error 2 (some FieldType.int) 0 0 [vR (some a0), vI v1] σ om_rf om_N (some (vI r)) τ om_rf om_N := by
  refine om_Dof (lv := [(0, vR (some a0)), (1, vI v1)]) (by decide) rfl_le rfl (fun x O hE => ?_)
  change om_Ok x RX9 "error" cX9_error 2 (some FieldType.int) 0 0 0 at O
  unfold f_X9_error at h
  revert h; refine om_iteR (fun ka0 h => ?_)
  refine om_aload_n O 0 dX9_error_0 rfl rfl ?_
  revert h; refine om_refR (fun t1o y1o k1o h => ?_)
  refine gf_X9_19 O ka0 (om_lt ka0 (by decide)) dX9_error_1 ?_
  rw [y1o]
  refine om_iload_n O 1 dX9_error_4 rfl rfl ?_
  refine om_dup2 O rfl rfl dX9_error_5 ?_
  revert h; refine om_iteR (fun i1o h => ?_)
  refine om_iald O k1o (om_lt k1o (by decide)) i1o dX9_error_6 ?_
  refine om_iconst O (v := 1) dX9_error_7 (by decide) ?_
  refine om_iadd O dX9_error_8 ?_
  revert h; refine om_iteR (fun i2o h => ?_)
  revert h; refine om_letR (fun σ1o e1o h => ?_)
  refine om_iast O k1o (om_lt k1o (by decide)) i2o dX9_error_9 e1o ?_
  refine om_ldc O (v := -1000000000) wd_843 dX9_error_10 ?_
  refine om_iload_n O 1 dX9_error_12 rfl rfl ?_
  refine om_isub O dX9_error_13 ?_
  exact om_iret (st := []) O (om_eI hE h) rfl dX9_error_14
def f_X9_in  (v0 : Int32) (v1 : Int32) (v2 : Int32) (σ : om_S) : Option (Int32 × om_S) := if v0 < v1 then (some ((0 : Int32), σ)) else (if v2 < v0 then (some ((0 : Int32), σ)) else (some ((1 : Int32), σ)))
set_option maxRecDepth 100000 in
theorem c_X9_in (l : Launch) (G : om_G) {v0 : Int32} {v1 : Int32} {v2 : Int32} {σ : om_S} {r : Int32} {τ : om_S} (h : f_X9_in v0 v1 v2 σ = some (r, τ)) : om_D l G 0 yX9_in cX9_in 3 (some FieldType.boolean) 0 0 [vI v0, vI v1, vI v2] σ om_rf om_N (some (vI r)) τ om_rf om_N := by
  refine om_Dof (lv := [(0, vI v0), (1, vI v1), (2, vI v2)]) (by decide) rfl_le rfl (fun x O hE => ?_)
  change om_Ok x RX9 "in" cX9_in 3 (some FieldType.boolean) 0 0 0 at O
  unfold f_X9_in at h
  refine om_iload_n O 0 dX9_in_0 rfl rfl ?_
  refine om_iload_n O 1 dX9_in_1 rfl rfl ?_
  refine om_icmp_lt O (tgt := 14) dX9_in_2 (by decide) (fun c1o => ?_) (fun c1o => ?_)
  · replace h := (if_pos c1o).symm.trans h
    refine om_iconst O (v := 0) dX9_in_14 (by decide) ?_
    exact om_zret (st := []) O (Or.inl rfl) (om_eI hE h) rfl dX9_in_15
  · replace h := (if_neg c1o).symm.trans h
    refine om_iload_n O 0 dX9_in_5 rfl rfl ?_
    refine om_iload_n O 2 dX9_in_6 rfl rfl ?_
    refine om_icmp_gt O (tgt := 14) dX9_in_7 (by decide) (fun c2o => ?_) (fun c2o => ?_)
    · replace h := (if_pos c2o).symm.trans h
      refine om_iconst O (v := 0) dX9_in_14 (by decide) ?_
      exact om_zret (st := []) O (Or.inl rfl) (om_eI hE h) rfl dX9_in_15
    · replace h := (if_neg c2o).symm.trans h
      refine om_iconst O (v := 1) dX9_in_10 (by decide) ?_
      refine om_goto O (tgt := 15) dX9_in_11 (by decide) ?_
      exact om_zret (st := []) O (Or.inr rfl) (om_eI hE h) rfl dX9_in_15
def f_X9_held  (v0 : Int32) (v1 : Int32) (v2 : Int32) (σ : om_S) : Option (Int32 × om_S) := if v1 ≤ v0 then (if v0 ≤ v2 then (some (v0, σ)) else (some (v2, σ))) else (some (v1, σ))
set_option maxRecDepth 100000 in
theorem c_X9_held (l : Launch) (G : om_G) {v0 : Int32} {v1 : Int32} {v2 : Int32} {σ : om_S} {r : Int32} {τ : om_S} (h : f_X9_held v0 v1 v2 σ = some (r, τ)) : om_D l G 0 yX9_held cX9_held 3 (some FieldType.int) 0 0 [vI v0, vI v1, vI v2] σ om_rf om_N (some (vI r)) τ om_rf om_N := by
  refine om_Dof (lv := [(0, vI v0), (1, vI v1), (2, vI v2)]) (by decide) rfl_le rfl (fun x O hE => ?_)
  change om_Ok x RX9 "held" cX9_held 3 (some FieldType.int) 0 0 0 at O
  unfold f_X9_held at h
  refine om_iload_n O 0 dX9_held_0 rfl rfl ?_
  refine om_iload_n O 1 dX9_held_1 rfl rfl ?_
  refine om_icmp_ge O (tgt := 9) dX9_held_2 (by decide) (fun c1o => ?_) (fun c1o => ?_)
  · replace h := (if_pos c1o).symm.trans h
    refine om_iload_n O 0 dX9_held_9 rfl rfl ?_
    refine om_iload_n O 2 dX9_held_10 rfl rfl ?_
    refine om_icmp_le O (tgt := 18) dX9_held_11 (by decide) (fun c2o => ?_) (fun c2o => ?_)
    · replace h := (if_pos c2o).symm.trans h
      refine om_iload_n O 0 dX9_held_18 rfl rfl ?_
      exact om_iret (st := []) O (om_eI hE h) rfl dX9_held_19
    · replace h := (if_neg c2o).symm.trans h
      refine om_iload_n O 2 dX9_held_14 rfl rfl ?_
      refine om_goto O (tgt := 19) dX9_held_15 (by decide) ?_
      exact om_iret (st := []) O (om_eI hE h) rfl dX9_held_19
  · replace h := (if_neg c1o).symm.trans h
    refine om_iload_n O 1 dX9_held_5 rfl rfl ?_
    refine om_goto O (tgt := 19) dX9_held_6 (by decide) ?_
    exact om_iret (st := []) O (om_eI hE h) rfl dX9_held_19
def f_X9_copyAll_b2  : Nat → Nat → Nat → Int32 → om_S → Option om_S
  | 0, _, _, _, _ => none
  | F + 1, a0, a1, v2, σ => if (387 : Int32) ≤ v2 then (some σ) else (if om_in v2 (om_al a0) then if om_in v2 (om_al a1) then om_let (om_w σ a1 v2.toNatClampNeg (σ a0 v2.toNatClampNeg)) fun (σ1o : om_S) => (f_X9_copyAll_b2 F) a0 a1 (v2 + 1) σ1o else none else none)
set_option maxRecDepth 100000 in
theorem g_X9_copyAll_b2 {x : om_X}   (O : om_Ok x RX9 "copyAll" cX9_copyAll 3 none 0 0 0)   {τ : om_S} (hE : om_End x none τ om_rf om_N 0 0)   : ∀ (F : Nat) (a0 : Nat) (a1 : Nat) (v2 : Int32) (σ : om_S) (ka0 : om_kc a0 = 20) (ka1 : om_kc a1 = 20), f_X9_copyAll_b2 F a0 a1 v2 σ = some τ → om_J x 2 [(0, vR (some a0)), (1, vR (some a1)), (2, vI v2)] [] σ om_rf om_N 0 0 := by
  intro F
  induction F with
  | zero =>
    intro a0 a1 v2 σ ka0 ka1 h
    cases h
  | succ F ih =>
    intro a0 a1 v2 σ ka0 ka1 h
    unfold f_X9_copyAll_b2 at h
    refine om_iload_n O 2 dX9_copyAll_2 rfl rfl ?_
    refine om_sipush O (v := 387) dX9_copyAll_3 (by decide) ?_
    refine om_icmp_ge O (tgt := 21) dX9_copyAll_6 (by decide) (fun c1o => ?_) (fun c1o => ?_)
    · replace h := (if_pos c1o).symm.trans h
      exact om_vret (st := []) O (om_eV hE h) rfl dX9_copyAll_21
    · replace h := (if_neg c1o).symm.trans h
      refine om_aload_n O 1 dX9_copyAll_9 rfl rfl ?_
      refine om_iload_n O 2 dX9_copyAll_10 rfl rfl ?_
      refine om_aload_n O 0 dX9_copyAll_11 rfl rfl ?_
      refine om_iload_n O 2 dX9_copyAll_12 rfl rfl ?_
      revert h; refine om_iteR (fun i1o h => ?_)
      refine om_iald O ka0 (om_lt ka0 (by decide)) i1o dX9_copyAll_13 ?_
      revert h; refine om_iteR (fun i2o h => ?_)
      revert h; refine om_letR (fun σ1o e1o h => ?_)
      refine om_iast O ka1 (om_lt ka1 (by decide)) i2o dX9_copyAll_14 e1o ?_
      refine om_iinc O (v1 := (v2 + 1)) (lv' := [(0, vR (some a0)), (1, vR (some a1)), (2, vI (v2 + 1))]) 2 [1, 2, 0] rfl dX9_copyAll_15 rfl rfl (by decide) rfl ?_
      refine om_goto O (tgt := 2) dX9_copyAll_18 (by decide) ?_
      exact ih _ _ _ _ ka0 ka1 h
def f_X9_copyAll  (a0 : Nat) (a1 : Nat) (σ : om_S) : Option om_S := if om_kc a0 = 20 then if om_kc a1 = 20 then f_X9_copyAll_b2 om_F a0 a1 (0 : Int32) σ else none else none
set_option maxRecDepth 100000 in
theorem c_X9_copyAll (l : Launch) (G : om_G) {a0 : Nat} {a1 : Nat} {σ : om_S} {τ : om_S} (h : f_X9_copyAll a0 a1 σ = some τ) : om_D l G 0 yX9_copyAll cX9_copyAll 3 none 0 0 [vR (some a0), vR (some a1)] σ om_rf om_N none τ om_rf om_N := by
  refine om_Dof (lv := [(0, vR (some a0)), (1, vR (some a1))]) (by decide) rfl_le rfl (fun x O hE => ?_)
  change om_Ok x RX9 "copyAll" cX9_copyAll 3 none 0 0 0 at O
  unfold f_X9_copyAll at h
  revert h; refine om_iteR (fun ka0 h => ?_)
  revert h; refine om_iteR (fun ka1 h => ?_)
  refine om_iconst O (v := 0) dX9_copyAll_0 (by decide) ?_
  refine om_istore_n O (lv' := [(0, vR (some a0)), (1, vR (some a1)), (2, vI (0 : Int32))]) [1, 2, 0] rfl dX9_copyAll_1 rfl (by decide) rfl ?_
  exact g_X9_copyAll_b2 O hE om_F _ _ _ _ ka0 ka1 h
def f_X9_layDown_b2  : Nat → Nat → Int32 → om_S → Option om_S
  | 0, _, _, _ => none
  | F + 1, a0, v1, σ => if (53 : Int32) ≤ v1 then (some σ) else (om_ref (om_rf a0 2) 20 fun (t1o : Nat) => om_ref (om_rf a0 0) 20 fun (t2o : Nat) => if om_in v1 (om_al t2o) then if om_in v1 (om_al t1o) then om_let (om_w σ t1o v1.toNatClampNeg (σ t2o v1.toNatClampNeg)) fun (σ1o : om_S) => (f_X9_layDown_b2 F) a0 (v1 + 1) σ1o else none else none)
set_option maxRecDepth 100000 in
theorem g_X9_layDown_b2 {x : om_X}   (O : om_Ok x RX9 "layDown" cX9_layDown 2 none 0 0 0)   {τ : om_S} (hE : om_End x none τ om_rf om_N 0 0)   : ∀ (F : Nat) (a0 : Nat) (v1 : Int32) (σ : om_S) (ka0 : om_kc a0 = 9), f_X9_layDown_b2 F a0 v1 σ = some τ → om_J x 2 [(0, vR (some a0)), (1, vI v1)] [] σ om_rf om_N 0 0 := by
  intro F
  induction F with
  | zero =>
    intro a0 v1 σ ka0 h
    cases h
  | succ F ih =>
    intro a0 v1 σ ka0 h
    unfold f_X9_layDown_b2 at h
    refine om_iload_n O 1 dX9_layDown_2 rfl rfl ?_
    refine om_bipush O (v := 53) dX9_layDown_3 (by decide) ?_
    refine om_icmp_ge O (tgt := 26) dX9_layDown_5 (by decide) (fun c1o => ?_) (fun c1o => ?_)
    · replace h := (if_pos c1o).symm.trans h
      exact om_vret (st := []) O (om_eV hE h) rfl dX9_layDown_26
    · replace h := (if_neg c1o).symm.trans h
      refine om_aload_n O 0 dX9_layDown_8 rfl rfl ?_
      revert h; refine om_refR (fun t1o y1o k1o h => ?_)
      refine gf_X9_16 O ka0 (om_lt ka0 (by decide)) dX9_layDown_9 ?_
      rw [y1o]
      refine om_iload_n O 1 dX9_layDown_12 rfl rfl ?_
      refine om_aload_n O 0 dX9_layDown_13 rfl rfl ?_
      revert h; refine om_refR (fun t2o y2o k2o h => ?_)
      refine gf_X9_7 O ka0 (om_lt ka0 (by decide)) dX9_layDown_14 ?_
      rw [y2o]
      refine om_iload_n O 1 dX9_layDown_17 rfl rfl ?_
      revert h; refine om_iteR (fun i1o h => ?_)
      refine om_iald O k2o (om_lt k2o (by decide)) i1o dX9_layDown_18 ?_
      revert h; refine om_iteR (fun i2o h => ?_)
      revert h; refine om_letR (fun σ1o e1o h => ?_)
      refine om_iast O k1o (om_lt k1o (by decide)) i2o dX9_layDown_19 e1o ?_
      refine om_iinc O (v1 := (v1 + 1)) (lv' := [(0, vR (some a0)), (1, vI (v1 + 1))]) 1 [1, 0] rfl dX9_layDown_20 rfl rfl (by decide) rfl ?_
      refine om_goto O (tgt := 2) dX9_layDown_23 (by decide) ?_
      exact ih _ _ _ ka0 h
def f_X9_layDown  (a0 : Nat) (σ : om_S) : Option om_S := if om_kc a0 = 9 then f_X9_layDown_b2 om_F a0 (0 : Int32) σ else none
set_option maxRecDepth 100000 in
theorem c_X9_layDown (l : Launch) (G : om_G) {a0 : Nat} {σ : om_S} {τ : om_S} (h : f_X9_layDown a0 σ = some τ) : om_D l G 0 yX9_layDown cX9_layDown 2 none 0 0 [vR (some a0)] σ om_rf om_N none τ om_rf om_N := by
  refine om_Dof (lv := [(0, vR (some a0))]) (by decide) rfl_le rfl (fun x O hE => ?_)
  change om_Ok x RX9 "layDown" cX9_layDown 2 none 0 0 0 at O
  unfold f_X9_layDown at h
  revert h; refine om_iteR (fun ka0 h => ?_)
  refine om_iconst O (v := 0) dX9_layDown_0 (by decide) ?_
  refine om_istore_n O (lv' := [(0, vR (some a0)), (1, vI (0 : Int32))]) [1, 0] rfl dX9_layDown_1 rfl (by decide) rfl ?_
  exact g_X9_layDown_b2 O hE om_F _ _ _ ka0 h
def f_X9_layBack_b2  : Nat → Nat → Int32 → om_S → Option om_S
  | 0, _, _, _ => none
  | F + 1, a0, v1, σ => if (53 : Int32) ≤ v1 then (some σ) else (om_ref (om_rf a0 0) 20 fun (t1o : Nat) => om_ref (om_rf a0 2) 20 fun (t2o : Nat) => if om_in v1 (om_al t2o) then if om_in v1 (om_al t1o) then om_let (om_w σ t1o v1.toNatClampNeg (σ t2o v1.toNatClampNeg)) fun (σ1o : om_S) => (f_X9_layBack_b2 F) a0 (v1 + 1) σ1o else none else none)
set_option maxRecDepth 100000 in
theorem g_X9_layBack_b2 {x : om_X}   (O : om_Ok x RX9 "layBack" cX9_layBack 2 none 0 0 0)   {τ : om_S} (hE : om_End x none τ om_rf om_N 0 0)   : ∀ (F : Nat) (a0 : Nat) (v1 : Int32) (σ : om_S) (ka0 : om_kc a0 = 9), f_X9_layBack_b2 F a0 v1 σ = some τ → om_J x 2 [(0, vR (some a0)), (1, vI v1)] [] σ om_rf om_N 0 0 := by
  intro F
  induction F with
  | zero =>
    intro a0 v1 σ ka0 h
    cases h
  | succ F ih =>
    intro a0 v1 σ ka0 h
    unfold f_X9_layBack_b2 at h
    refine om_iload_n O 1 dX9_layBack_2 rfl rfl ?_
    refine om_bipush O (v := 53) dX9_layBack_3 (by decide) ?_
    refine om_icmp_ge O (tgt := 26) dX9_layBack_5 (by decide) (fun c1o => ?_) (fun c1o => ?_)
    · replace h := (if_pos c1o).symm.trans h
      exact om_vret (st := []) O (om_eV hE h) rfl dX9_layBack_26
    · replace h := (if_neg c1o).symm.trans h
      refine om_aload_n O 0 dX9_layBack_8 rfl rfl ?_
      revert h; refine om_refR (fun t1o y1o k1o h => ?_)
      refine gf_X9_7 O ka0 (om_lt ka0 (by decide)) dX9_layBack_9 ?_
      rw [y1o]
      refine om_iload_n O 1 dX9_layBack_12 rfl rfl ?_
      refine om_aload_n O 0 dX9_layBack_13 rfl rfl ?_
      revert h; refine om_refR (fun t2o y2o k2o h => ?_)
      refine gf_X9_16 O ka0 (om_lt ka0 (by decide)) dX9_layBack_14 ?_
      rw [y2o]
      refine om_iload_n O 1 dX9_layBack_17 rfl rfl ?_
      revert h; refine om_iteR (fun i1o h => ?_)
      refine om_iald O k2o (om_lt k2o (by decide)) i1o dX9_layBack_18 ?_
      revert h; refine om_iteR (fun i2o h => ?_)
      revert h; refine om_letR (fun σ1o e1o h => ?_)
      refine om_iast O k1o (om_lt k1o (by decide)) i2o dX9_layBack_19 e1o ?_
      refine om_iinc O (v1 := (v1 + 1)) (lv' := [(0, vR (some a0)), (1, vI (v1 + 1))]) 1 [1, 0] rfl dX9_layBack_20 rfl rfl (by decide) rfl ?_
      refine om_goto O (tgt := 2) dX9_layBack_23 (by decide) ?_
      exact ih _ _ _ ka0 h
def f_X9_layBack  (a0 : Nat) (σ : om_S) : Option om_S := if om_kc a0 = 9 then f_X9_layBack_b2 om_F a0 (0 : Int32) σ else none
set_option maxRecDepth 100000 in
theorem c_X9_layBack (l : Launch) (G : om_G) {a0 : Nat} {σ : om_S} {τ : om_S} (h : f_X9_layBack a0 σ = some τ) : om_D l G 0 yX9_layBack cX9_layBack 2 none 0 0 [vR (some a0)] σ om_rf om_N none τ om_rf om_N := by
  refine om_Dof (lv := [(0, vR (some a0))]) (by decide) rfl_le rfl (fun x O hE => ?_)
  change om_Ok x RX9 "layBack" cX9_layBack 2 none 0 0 0 at O
  unfold f_X9_layBack at h
  revert h; refine om_iteR (fun ka0 h => ?_)
  refine om_iconst O (v := 0) dX9_layBack_0 (by decide) ?_
  refine om_istore_n O (lv' := [(0, vR (some a0)), (1, vI (0 : Int32))]) [1, 0] rfl dX9_layBack_1 rfl (by decide) rfl ?_
  exact g_X9_layBack_b2 O hE om_F _ _ _ ka0 h
def f_X9_isMemory  (a0 : Nat) (v1 : Int32) (σ : om_S) : Option (Int32 × om_S) := if om_kc a0 = 9 then om_ref (om_rf a0 0) 20 fun (t1o : Nat) => if om_in (6 : Int32) (om_al t1o) then om_call (f_X9_in v1 (0 : Int32) ((σ t1o (6 : Int32).toNatClampNeg) - (1 : Int32)) σ) fun (r1o : Int32) (σ1o : om_S) => if r1o = 0 ∨ r1o = 1 then some (r1o, σ1o) else none else none else none
set_option maxRecDepth 100000 in
theorem c_X9_isMemory (l : Launch) (G : om_G) {a0 : Nat} {v1 : Int32} {σ : om_S} {r : Int32} {τ : om_S} (h : f_X9_isMemory a0 v1 σ = some (r, τ)) : om_D l G 1 yX9_isMemory cX9_isMemory 2 (some FieldType.boolean) 0 0 [vR (some a0), vI v1] σ om_rf om_N (some (vI r)) τ om_rf om_N := by
  refine om_Dof (lv := [(0, vR (some a0)), (1, vI v1)]) (by decide) rfl_le rfl (fun x O hE => ?_)
  change om_Ok x RX9 "isMemory" cX9_isMemory 2 (some FieldType.boolean) 1 0 0 at O
  unfold f_X9_isMemory at h
  revert h; refine om_iteR (fun ka0 h => ?_)
  refine om_iload_n O 1 dX9_isMemory_0 rfl rfl ?_
  refine om_iconst O (v := 0) dX9_isMemory_1 (by decide) ?_
  refine om_aload_n O 0 dX9_isMemory_2 rfl rfl ?_
  revert h; refine om_refR (fun t1o y1o k1o h => ?_)
  refine gf_X9_7 O ka0 (om_lt ka0 (by decide)) dX9_isMemory_3 ?_
  rw [y1o]
  refine om_bipush O (v := 6) dX9_isMemory_6 (by decide) ?_
  revert h; refine om_iteR (fun i1o h => ?_)
  refine om_iald O k1o (om_lt k1o (by decide)) i1o dX9_isMemory_8 ?_
  refine om_iconst O (v := 1) dX9_isMemory_9 (by decide) ?_
  refine om_isub O dX9_isMemory_10 ?_
  revert h; refine om_callR (fun r1o σ1o g1o h => ?_)
  refine cl_X9_57 O (st := []) (stk := [vI ((σ t1o (6 : Int32).toNatClampNeg) - (1 : Int32)), vI (0 : Int32), vI v1]) (st2 := [vI r1o]) [vI v1, vI (0 : Int32), vI ((σ t1o (6 : Int32).toNatClampNeg) - (1 : Int32))] (fun l G => c_X9_in l G g1o) (by decide) rfl rfl rfl_le rfl rfl_le rfl_le dX9_isMemory_11 ?_
  revert h; refine om_iteR (fun z1o h => ?_)
  exact om_zret (st := []) O z1o (om_eI hE h) rfl dX9_isMemory_14
def f_X9_isKeeper  (v0 : Int32) (σ : om_S) : Option (Int32 × om_S) := om_call (f_X9_in v0 (0 : Int32) (3 : Int32) σ) fun (r1o : Int32) (σ1o : om_S) => if r1o = 0 ∨ r1o = 1 then some (r1o, σ1o) else none
set_option maxRecDepth 100000 in
theorem c_X9_isKeeper (l : Launch) (G : om_G) {v0 : Int32} {σ : om_S} {r : Int32} {τ : om_S} (h : f_X9_isKeeper v0 σ = some (r, τ)) : om_D l G 1 yX9_isKeeper cX9_isKeeper 1 (some FieldType.boolean) 0 0 [vI v0] σ om_rf om_N (some (vI r)) τ om_rf om_N := by
  refine om_Dof (lv := [(0, vI v0)]) (by decide) rfl_le rfl (fun x O hE => ?_)
  change om_Ok x RX9 "isKeeper" cX9_isKeeper 1 (some FieldType.boolean) 1 0 0 at O
  unfold f_X9_isKeeper at h
  refine om_iload_n O 0 dX9_isKeeper_0 rfl rfl ?_
  refine om_iconst O (v := 0) dX9_isKeeper_1 (by decide) ?_
  refine om_iconst O (v := 3) dX9_isKeeper_2 (by decide) ?_
  revert h; refine om_callR (fun r1o σ1o g1o h => ?_)
  refine cl_X9_57 O (st := []) (stk := [vI (3 : Int32), vI (0 : Int32), vI v0]) (st2 := [vI r1o]) [vI v0, vI (0 : Int32), vI (3 : Int32)] (fun l G => c_X9_in l G g1o) (by decide) rfl rfl rfl_le rfl rfl_le rfl_le dX9_isKeeper_3 ?_
  revert h; refine om_iteR (fun z1o h => ?_)
  exact om_zret (st := []) O z1o (om_eI hE h) rfl dX9_isKeeper_6
def f_X9_its  (a0 : Nat) (v1 : Int32) (v2 : Int32) (σ : om_S) : Option (Int32 × om_S) := if om_kc a0 = 9 then om_ref (om_rf a0 0) 20 fun (t1o : Nat) => if om_in (((8 : Int32) + ((5 : Int32) * v1)) + v2) (om_al t1o) then some ((σ t1o (((8 : Int32) + ((5 : Int32) * v1)) + v2).toNatClampNeg), σ) else none else none
set_option maxRecDepth 100000 in
theorem c_X9_its (l : Launch) (G : om_G) {a0 : Nat} {v1 : Int32} {v2 : Int32} {σ : om_S} {r : Int32} {τ : om_S} (h : f_X9_its a0 v1 v2 σ = some (r, τ)) : om_D l G 0 yX9_its cX9_its 3 (some FieldType.int) 0 0 [vR (some a0), vI v1, vI v2] σ om_rf om_N (some (vI r)) τ om_rf om_N := by
  refine om_Dof (lv := [(0, vR (some a0)), (1, vI v1), (2, vI v2)]) (by decide) rfl_le rfl (fun x O hE => ?_)
  change om_Ok x RX9 "its" cX9_its 3 (some FieldType.int) 0 0 0 at O
  unfold f_X9_its at h
  revert h; refine om_iteR (fun ka0 h => ?_)
  refine om_aload_n O 0 dX9_its_0 rfl rfl ?_
  revert h; refine om_refR (fun t1o y1o k1o h => ?_)
  refine gf_X9_7 O ka0 (om_lt ka0 (by decide)) dX9_its_1 ?_
  rw [y1o]
  refine om_bipush O (v := 8) dX9_its_4 (by decide) ?_
  refine om_iconst O (v := 5) dX9_its_6 (by decide) ?_
  refine om_iload_n O 1 dX9_its_7 rfl rfl ?_
  refine om_imul O dX9_its_8 ?_
  refine om_iadd O dX9_its_9 ?_
  refine om_iload_n O 2 dX9_its_10 rfl rfl ?_
  refine om_iadd O dX9_its_11 ?_
  revert h; refine om_iteR (fun i1o h => ?_)
  refine om_iald O k1o (om_lt k1o (by decide)) i1o dX9_its_12 ?_
  exact om_iret (st := []) O (om_eI hE h) rfl dX9_its_13
def f_X9_lays1  (a0 : Nat) (v1 : Int32) (v2 : Int32) (v3 : Int32) (σ : om_S) : Option om_S := if om_kc a0 = 9 then om_ref (om_rf a0 0) 20 fun (t1o : Nat) => if om_in (((8 : Int32) + ((5 : Int32) * v1)) + v2) (om_al t1o) then om_let (om_w σ t1o (((8 : Int32) + ((5 : Int32) * v1)) + v2).toNatClampNeg v3) fun (σ1o : om_S) => some σ1o else none else none
set_option maxRecDepth 100000 in
theorem c_X9_lays1 (l : Launch) (G : om_G) {a0 : Nat} {v1 : Int32} {v2 : Int32} {v3 : Int32} {σ : om_S} {τ : om_S} (h : f_X9_lays1 a0 v1 v2 v3 σ = some τ) : om_D l G 0 yX9_lays1 cX9_lays1 4 none 0 0 [vR (some a0), vI v1, vI v2, vI v3] σ om_rf om_N none τ om_rf om_N := by
  refine om_Dof (lv := [(0, vR (some a0)), (1, vI v1), (2, vI v2), (3, vI v3)]) (by decide) rfl_le rfl (fun x O hE => ?_)
  change om_Ok x RX9 "lays1" cX9_lays1 4 none 0 0 0 at O
  unfold f_X9_lays1 at h
  revert h; refine om_iteR (fun ka0 h => ?_)
  refine om_aload_n O 0 dX9_lays1_0 rfl rfl ?_
  revert h; refine om_refR (fun t1o y1o k1o h => ?_)
  refine gf_X9_7 O ka0 (om_lt ka0 (by decide)) dX9_lays1_1 ?_
  rw [y1o]
  refine om_bipush O (v := 8) dX9_lays1_4 (by decide) ?_
  refine om_iconst O (v := 5) dX9_lays1_6 (by decide) ?_
  refine om_iload_n O 1 dX9_lays1_7 rfl rfl ?_
  refine om_imul O dX9_lays1_8 ?_
  refine om_iadd O dX9_lays1_9 ?_
  refine om_iload_n O 2 dX9_lays1_10 rfl rfl ?_
  refine om_iadd O dX9_lays1_11 ?_
  refine om_iload_n O 3 dX9_lays1_12 rfl rfl ?_
  revert h; refine om_iteR (fun i1o h => ?_)
  revert h; refine om_letR (fun σ1o e1o h => ?_)
  refine om_iast O k1o (om_lt k1o (by decide)) i1o dX9_lays1_13 e1o ?_
  exact om_vret (st := []) O (om_eV hE h) rfl dX9_lays1_14
def f_X9_change1  (a0 : Nat) (v1 : Int32) (v2 : Int32) (σ : om_S) : Option (Int32 × om_S) := if om_kc a0 = 9 then om_ref (om_rf a0 0) 20 fun (t1o : Nat) => if om_in v1 (om_al t1o) then om_let (σ t1o v1.toNatClampNeg) fun (x1o : Int32) => om_ref (om_rf a0 0) 20 fun (t2o : Nat) => if om_in v1 (om_al t2o) then om_let (om_w σ t2o v1.toNatClampNeg v2) fun (σ1o : om_S) => some (x1o, σ1o) else none else none else none
set_option maxRecDepth 100000 in
theorem c_X9_change1 (l : Launch) (G : om_G) {a0 : Nat} {v1 : Int32} {v2 : Int32} {σ : om_S} {r : Int32} {τ : om_S} (h : f_X9_change1 a0 v1 v2 σ = some (r, τ)) : om_D l G 0 yX9_change1 cX9_change1 4 (some FieldType.int) 0 0 [vR (some a0), vI v1, vI v2] σ om_rf om_N (some (vI r)) τ om_rf om_N := by
  refine om_Dof (lv := [(0, vR (some a0)), (1, vI v1), (2, vI v2)]) (by decide) rfl_le rfl (fun x O hE => ?_)
  change om_Ok x RX9 "change1" cX9_change1 4 (some FieldType.int) 0 0 0 at O
  unfold f_X9_change1 at h
  revert h; refine om_iteR (fun ka0 h => ?_)
  refine om_aload_n O 0 dX9_change1_0 rfl rfl ?_
  revert h; refine om_refR (fun t1o y1o k1o h => ?_)
  refine gf_X9_7 O ka0 (om_lt ka0 (by decide)) dX9_change1_1 ?_
  rw [y1o]
  refine om_iload_n O 1 dX9_change1_4 rfl rfl ?_
  revert h; refine om_iteR (fun i1o h => ?_)
  refine om_iald O k1o (om_lt k1o (by decide)) i1o dX9_change1_5 ?_
  revert h; refine om_letR (fun x1o e1o h => ?_)
  refine om_istore_n O (lv' := [(0, vR (some a0)), (1, vI v1), (2, vI v2), (3, vI x1o)]) [1, 2, 3, 0] e1o dX9_change1_6 rfl (by decide) rfl ?_
  refine om_aload_n O 0 dX9_change1_7 rfl rfl ?_
  revert h; refine om_refR (fun t2o y2o k2o h => ?_)
  refine gf_X9_7 O ka0 (om_lt ka0 (by decide)) dX9_change1_8 ?_
  rw [y2o]
  refine om_iload_n O 1 dX9_change1_11 rfl rfl ?_
  refine om_iload_n O 2 dX9_change1_12 rfl rfl ?_
  revert h; refine om_iteR (fun i2o h => ?_)
  revert h; refine om_letR (fun σ1o e2o h => ?_)
  refine om_iast O k2o (om_lt k2o (by decide)) i2o dX9_change1_13 e2o ?_
  refine om_iload_n O 3 dX9_change1_14 rfl rfl ?_
  exact om_iret (st := []) O (om_eI hE h) rfl dX9_change1_15
def f_X9_manyIn_b4  : Nat → Int32 → Int32 → Int32 → om_S → Option (Int32 × om_S)
  | 0, _, _, _, _ => none
  | F + 1, v0, v1, v2, σ => if (4 : Int32) ≤ v2 then (some (v1, σ)) else (om_let (v1 + ((v0 >>> (v2 &&& 31)) &&& (1 : Int32))) fun (x1o : Int32) => (f_X9_manyIn_b4 F) v0 x1o (v2 + 1) σ)
set_option maxRecDepth 100000 in
theorem g_X9_manyIn_b4 {x : om_X}   (O : om_Ok x RX9 "manyIn" cX9_manyIn 3 (some FieldType.int) 0 0 0)   {r : Int32} {τ : om_S} (hE : om_End x (some (vI r)) τ om_rf om_N 0 0)   : ∀ (F : Nat) (v0 : Int32) (v1 : Int32) (v2 : Int32) (σ : om_S) , f_X9_manyIn_b4 F v0 v1 v2 σ = some (r, τ) → om_J x 4 [(0, vI v0), (1, vI v1), (2, vI v2)] [] σ om_rf om_N 0 0 := by
  intro F
  induction F with
  | zero =>
    intro v0 v1 v2 σ  h
    cases h
  | succ F ih =>
    intro v0 v1 v2 σ  h
    unfold f_X9_manyIn_b4 at h
    refine om_iload_n O 2 dX9_manyIn_4 rfl rfl ?_
    refine om_iconst O (v := 4) dX9_manyIn_5 (by decide) ?_
    refine om_icmp_ge O (tgt := 23) dX9_manyIn_6 (by decide) (fun c1o => ?_) (fun c1o => ?_)
    · replace h := (if_pos c1o).symm.trans h
      refine om_iload_n O 1 dX9_manyIn_23 rfl rfl ?_
      exact om_iret (st := []) O (om_eI hE h) rfl dX9_manyIn_24
    · replace h := (if_neg c1o).symm.trans h
      refine om_iload_n O 1 dX9_manyIn_9 rfl rfl ?_
      refine om_iload_n O 0 dX9_manyIn_10 rfl rfl ?_
      refine om_iload_n O 2 dX9_manyIn_11 rfl rfl ?_
      refine om_ishr O dX9_manyIn_12 ?_
      refine om_iconst O (v := 1) dX9_manyIn_13 (by decide) ?_
      refine om_iand O dX9_manyIn_14 ?_
      refine om_iadd O dX9_manyIn_15 ?_
      revert h; refine om_letR (fun x1o e1o h => ?_)
      refine om_istore_n O (lv' := [(0, vI v0), (1, vI x1o), (2, vI v2)]) [1, 0, 2] e1o dX9_manyIn_16 rfl (by decide) rfl ?_
      refine om_iinc O (v1 := (v2 + 1)) (lv' := [(0, vI v0), (1, vI x1o), (2, vI (v2 + 1))]) 2 [1, 2, 0] rfl dX9_manyIn_17 rfl rfl (by decide) rfl ?_
      refine om_goto O (tgt := 4) dX9_manyIn_20 (by decide) ?_
      exact ih _ _ _ _ h
def f_X9_manyIn  (v0 : Int32) (σ : om_S) : Option (Int32 × om_S) := f_X9_manyIn_b4 om_F v0 (0 : Int32) (0 : Int32) σ
set_option maxRecDepth 100000 in
theorem c_X9_manyIn (l : Launch) (G : om_G) {v0 : Int32} {σ : om_S} {r : Int32} {τ : om_S} (h : f_X9_manyIn v0 σ = some (r, τ)) : om_D l G 0 yX9_manyIn cX9_manyIn 3 (some FieldType.int) 0 0 [vI v0] σ om_rf om_N (some (vI r)) τ om_rf om_N := by
  refine om_Dof (lv := [(0, vI v0)]) (by decide) rfl_le rfl (fun x O hE => ?_)
  change om_Ok x RX9 "manyIn" cX9_manyIn 3 (some FieldType.int) 0 0 0 at O
  unfold f_X9_manyIn at h
  refine om_iconst O (v := 0) dX9_manyIn_0 (by decide) ?_
  refine om_istore_n O (lv' := [(0, vI v0), (1, vI (0 : Int32))]) [1, 0] rfl dX9_manyIn_1 rfl (by decide) rfl ?_
  refine om_iconst O (v := 0) dX9_manyIn_2 (by decide) ?_
  refine om_istore_n O (lv' := [(0, vI v0), (1, vI (0 : Int32)), (2, vI (0 : Int32))]) [1, 2, 0] rfl dX9_manyIn_3 rfl (by decide) rfl ?_
  exact g_X9_manyIn_b4 O hE om_F _ _ _ _ h
def f_X9_feed_b38  : Nat → Nat → Int64 → Int32 → Int32 → om_S → Option (Int32 × om_S)
  | 0, _, _, _, _, _ => none
  | F + 1, a0, w1, v3, v4, σ => if v3 ≤ v4 then (om_ref (om_rf a0 0) 20 fun (t1o : Nat) => if om_in (4 : Int32) (om_al t1o) then some ((σ t1o (4 : Int32).toNatClampNeg), σ) else none) else (om_ref (om_rf a0 0) 20 fun (t2o : Nat) => om_ref (om_rf a0 0) 20 fun (t3o : Nat) => if om_in (4 : Int32) (om_al t3o) then if om_in ((303 : Int32) + (σ t3o (4 : Int32).toNatClampNeg)) (om_al t2o) then om_let (om_w σ t2o ((303 : Int32) + (σ t3o (4 : Int32).toNatClampNeg)).toNatClampNeg (((w1 >>> (((8 : Int32) * v4).toInt64 &&& 63)) &&& (255 : Int64)).toInt32)) fun (σ1o : om_S) => om_ref (om_rf a0 0) 20 fun (t4o : Nat) => if om_in (4 : Int32) (om_al t4o) then if om_in (4 : Int32) (om_al t4o) then om_let (om_w σ1o t4o (4 : Int32).toNatClampNeg ((σ1o t4o (4 : Int32).toNatClampNeg) + (1 : Int32))) fun (σ2o : om_S) => (f_X9_feed_b38 F) a0 w1 v3 (v4 + 1) σ2o else none else none else none else none)
set_option maxRecDepth 100000 in
theorem g_X9_feed_b38 {x : om_X}   (O : om_Ok x RX9 "feed" cX9_feed 5 (some FieldType.int) 1 0 0)   {r : Int32} {τ : om_S} (hE : om_End x (some (vI r)) τ om_rf om_N 0 0)   : ∀ (F : Nat) (a0 : Nat) (w1 : Int64) (v3 : Int32) (v4 : Int32) (σ : om_S) (ka0 : om_kc a0 = 9), f_X9_feed_b38 F a0 w1 v3 v4 σ = some (r, τ) → om_J x 38 [(0, vR (some a0)), (1, vL w1), (3, vI v3), (4, vI v4)] [] σ om_rf om_N 0 0 := by
  intro F
  induction F with
  | zero =>
    intro a0 w1 v3 v4 σ ka0 h
    cases h
  | succ F ih =>
    intro a0 w1 v3 v4 σ ka0 h
    unfold f_X9_feed_b38 at h
    refine om_iload O 3 dX9_feed_38 rfl ?_
    refine om_iload_n O 2 dX9_feed_40 rfl rfl ?_
    refine om_icmp_ge O (tgt := 87) dX9_feed_41 (by decide) (fun c1o => ?_) (fun c1o => ?_)
    · replace h := (if_pos c1o).symm.trans h
      refine om_aload_n O 0 dX9_feed_87 rfl rfl ?_
      revert h; refine om_refR (fun t1o y1o k1o h => ?_)
      refine gf_X9_7 O ka0 (om_lt ka0 (by decide)) dX9_feed_88 ?_
      rw [y1o]
      refine om_iconst O (v := 4) dX9_feed_91 (by decide) ?_
      revert h; refine om_iteR (fun i1o h => ?_)
      refine om_iald O k1o (om_lt k1o (by decide)) i1o dX9_feed_92 ?_
      exact om_iret (st := []) O (om_eI hE h) rfl dX9_feed_93
    · replace h := (if_neg c1o).symm.trans h
      refine om_aload_n O 0 dX9_feed_44 rfl rfl ?_
      revert h; refine om_refR (fun t2o y2o k2o h => ?_)
      refine gf_X9_7 O ka0 (om_lt ka0 (by decide)) dX9_feed_45 ?_
      rw [y2o]
      refine om_sipush O (v := 303) dX9_feed_48 (by decide) ?_
      refine om_aload_n O 0 dX9_feed_51 rfl rfl ?_
      revert h; refine om_refR (fun t3o y3o k3o h => ?_)
      refine gf_X9_7 O ka0 (om_lt ka0 (by decide)) dX9_feed_52 ?_
      rw [y3o]
      refine om_iconst O (v := 4) dX9_feed_55 (by decide) ?_
      revert h; refine om_iteR (fun i2o h => ?_)
      refine om_iald O k3o (om_lt k3o (by decide)) i2o dX9_feed_56 ?_
      refine om_iadd O dX9_feed_57 ?_
      refine om_lload_n O 1 dX9_feed_58 rfl rfl ?_
      refine om_bipush O (v := 8) dX9_feed_59 (by decide) ?_
      refine om_iload O 3 dX9_feed_61 rfl ?_
      refine om_imul O dX9_feed_63 ?_
      refine om_lshr O dX9_feed_64 ?_
      refine om_ldc2 O (v := 255) wd_844 dX9_feed_65 ?_
      refine om_land O dX9_feed_68 ?_
      refine om_l2i O dX9_feed_69 ?_
      revert h; refine om_iteR (fun i3o h => ?_)
      revert h; refine om_letR (fun σ1o e1o h => ?_)
      refine om_iast O k2o (om_lt k2o (by decide)) i3o dX9_feed_70 e1o ?_
      refine om_aload_n O 0 dX9_feed_71 rfl rfl ?_
      revert h; refine om_refR (fun t4o y4o k4o h => ?_)
      refine gf_X9_7 O ka0 (om_lt ka0 (by decide)) dX9_feed_72 ?_
      rw [y4o]
      refine om_iconst O (v := 4) dX9_feed_75 (by decide) ?_
      refine om_dup2 O rfl rfl dX9_feed_76 ?_
      revert h; refine om_iteR (fun i4o h => ?_)
      refine om_iald O k4o (om_lt k4o (by decide)) i4o dX9_feed_77 ?_
      refine om_iconst O (v := 1) dX9_feed_78 (by decide) ?_
      refine om_iadd O dX9_feed_79 ?_
      revert h; refine om_iteR (fun i5o h => ?_)
      revert h; refine om_letR (fun σ2o e2o h => ?_)
      refine om_iast O k4o (om_lt k4o (by decide)) i5o dX9_feed_80 e2o ?_
      refine om_iinc O (v1 := (v4 + 1)) (lv' := [(0, vR (some a0)), (1, vL w1), (3, vI v3), (4, vI (v4 + 1))]) 3 [1, 2, 3, 0] rfl dX9_feed_81 rfl rfl (by decide) rfl ?_
      refine om_goto O (tgt := 38) dX9_feed_84 (by decide) ?_
      exact ih _ _ _ _ _ ka0 h
def f_X9_feed  (a0 : Nat) (w1 : Int64) (v3 : Int32) (σ : om_S) : Option (Int32 × om_S) := if om_kc a0 = 9 then om_call (f_X9_in v3 (1 : Int32) (8 : Int32) σ) fun (r1o : Int32) (σ1o : om_S) => if r1o = 0 then (om_call (f_X9_error a0 (1 : Int32) σ1o) fun (r2o : Int32) (σ2o : om_S) => some (r2o, σ2o)) else (om_ref (om_rf a0 0) 20 fun (t1o : Nat) => if om_in (4 : Int32) (om_al t1o) then if ((σ1o t1o (4 : Int32).toNatClampNeg) + v3) ≤ (60 : Int32) then (f_X9_feed_b38 om_F a0 w1 v3 (0 : Int32) σ1o) else (om_call (f_X9_error a0 (4 : Int32) σ1o) fun (r3o : Int32) (σ3o : om_S) => some (r3o, σ3o)) else none) else none
set_option maxRecDepth 100000 in
theorem c_X9_feed (l : Launch) (G : om_G) {a0 : Nat} {w1 : Int64} {v3 : Int32} {σ : om_S} {r : Int32} {τ : om_S} (h : f_X9_feed a0 w1 v3 σ = some (r, τ)) : om_D l G 1 yX9_feed cX9_feed 5 (some FieldType.int) 0 0 [vR (some a0), vL w1, vI v3] σ om_rf om_N (some (vI r)) τ om_rf om_N := by
  refine om_Dof (lv := [(0, vR (some a0)), (1, vL w1), (3, vI v3)]) (by decide) rfl_le rfl (fun x O hE => ?_)
  change om_Ok x RX9 "feed" cX9_feed 5 (some FieldType.int) 1 0 0 at O
  unfold f_X9_feed at h
  revert h; refine om_iteR (fun ka0 h => ?_)
  refine om_iload_n O 2 dX9_feed_0 rfl rfl ?_
  refine om_iconst O (v := 1) dX9_feed_1 (by decide) ?_
  refine om_bipush O (v := 8) dX9_feed_2 (by decide) ?_
  revert h; refine om_callR (fun r1o σ1o g1o h => ?_)
  refine cl_X9_57 O (st := []) (stk := [vI (8 : Int32), vI (1 : Int32), vI v3]) (st2 := [vI r1o]) [vI v3, vI (1 : Int32), vI (8 : Int32)] (fun l G => c_X9_in l G g1o) (by decide) rfl rfl rfl_le rfl rfl_le rfl_le dX9_feed_4 ?_
  refine om_if_ne O (tgt := 16) dX9_feed_7 (by decide) (fun c1o => ?_) (fun c1o => ?_)
  · replace h := (if_pos c1o).symm.trans h
    refine om_aload_n O 0 dX9_feed_10 rfl rfl ?_
    refine om_iconst O (v := 1) dX9_feed_11 (by decide) ?_
    revert h; refine om_callR (fun r2o σ2o g2o h => ?_)
    refine cl_X9_61 O (st := []) (stk := [vI (1 : Int32), vR (some a0)]) (st2 := [vI r2o]) [vI (1 : Int32)] (fun l G => c_X9_error l G g2o) ka0 (om_lt ka0 (by decide)) (by decide) rfl rfl rfl_le rfl rfl_le rfl_le dX9_feed_12 ?_
    exact om_iret (st := []) O (om_eI hE h) rfl dX9_feed_15
  · replace h := (if_neg c1o).symm.trans h
    refine om_aload_n O 0 dX9_feed_16 rfl rfl ?_
    revert h; refine om_refR (fun t1o y1o k1o h => ?_)
    refine gf_X9_7 O ka0 (om_lt ka0 (by decide)) dX9_feed_17 ?_
    rw [y1o]
    refine om_iconst O (v := 4) dX9_feed_20 (by decide) ?_
    revert h; refine om_iteR (fun i1o h => ?_)
    refine om_iald O k1o (om_lt k1o (by decide)) i1o dX9_feed_21 ?_
    refine om_iload_n O 2 dX9_feed_22 rfl rfl ?_
    refine om_iadd O dX9_feed_23 ?_
    refine om_bipush O (v := 60) dX9_feed_24 (by decide) ?_
    refine om_icmp_le O (tgt := 35) dX9_feed_26 (by decide) (fun c2o => ?_) (fun c2o => ?_)
    · replace h := (if_pos c2o).symm.trans h
      refine om_iconst O (v := 0) dX9_feed_35 (by decide) ?_
      refine om_istore O (lv' := [(0, vR (some a0)), (1, vL w1), (3, vI v3), (4, vI (0 : Int32))]) [1, 2, 3, 0] rfl dX9_feed_36 (by decide) rfl ?_
      exact g_X9_feed_b38 O hE om_F _ _ _ _ _ ka0 h
    · replace h := (if_neg c2o).symm.trans h
      refine om_aload_n O 0 dX9_feed_29 rfl rfl ?_
      refine om_iconst O (v := 4) dX9_feed_30 (by decide) ?_
      revert h; refine om_callR (fun r3o σ3o g3o h => ?_)
      refine cl_X9_61 O (st := []) (stk := [vI (4 : Int32), vR (some a0)]) (st2 := [vI r3o]) [vI (4 : Int32)] (fun l G => c_X9_error l G g3o) ka0 (om_lt ka0 (by decide)) (by decide) rfl rfl rfl_le rfl rfl_le rfl_le dX9_feed_31 ?_
      exact om_iret (st := []) O (om_eI hE h) rfl dX9_feed_34
def f_X9_look  (a0 : Nat) (σ : om_S) : Option (Int32 × om_S) := if om_kc a0 = 9 then om_ref (om_rf a0 0) 20 fun (t1o : Nat) => if om_in (4 : Int32) (om_al t1o) then if (σ t1o (4 : Int32).toNatClampNeg) ≤ (σ a0 6) then (some ((-1 : Int32), σ)) else (om_ref (om_rf a0 0) 20 fun (t2o : Nat) => if om_in ((303 : Int32) + (σ a0 6)) (om_al t2o) then some ((σ t2o ((303 : Int32) + (σ a0 6)).toNatClampNeg), σ) else none) else none else none
set_option maxRecDepth 100000 in
theorem c_X9_look (l : Launch) (G : om_G) {a0 : Nat} {σ : om_S} {r : Int32} {τ : om_S} (h : f_X9_look a0 σ = some (r, τ)) : om_D l G 0 yX9_look cX9_look 1 (some FieldType.int) 0 0 [vR (some a0)] σ om_rf om_N (some (vI r)) τ om_rf om_N := by
  refine om_Dof (lv := [(0, vR (some a0))]) (by decide) rfl_le rfl (fun x O hE => ?_)
  change om_Ok x RX9 "look" cX9_look 1 (some FieldType.int) 0 0 0 at O
  unfold f_X9_look at h
  revert h; refine om_iteR (fun ka0 h => ?_)
  refine om_aload_n O 0 dX9_look_0 rfl rfl ?_
  refine gf_X9_67 O ka0 (om_lt ka0 (by decide)) dX9_look_1 ?_
  refine om_aload_n O 0 dX9_look_4 rfl rfl ?_
  revert h; refine om_refR (fun t1o y1o k1o h => ?_)
  refine gf_X9_7 O ka0 (om_lt ka0 (by decide)) dX9_look_5 ?_
  rw [y1o]
  refine om_iconst O (v := 4) dX9_look_8 (by decide) ?_
  revert h; refine om_iteR (fun i1o h => ?_)
  refine om_iald O k1o (om_lt k1o (by decide)) i1o dX9_look_9 ?_
  refine om_icmp_ge O (tgt := 29) dX9_look_10 (by decide) (fun c1o => ?_) (fun c1o => ?_)
  · replace h := (if_pos c1o).symm.trans h
    refine om_iconst O (v := -1) dX9_look_29 (by decide) ?_
    exact om_iret (st := []) O (om_eI hE h) rfl dX9_look_30
  · replace h := (if_neg c1o).symm.trans h
    refine om_aload_n O 0 dX9_look_13 rfl rfl ?_
    revert h; refine om_refR (fun t2o y2o k2o h => ?_)
    refine gf_X9_7 O ka0 (om_lt ka0 (by decide)) dX9_look_14 ?_
    rw [y2o]
    refine om_sipush O (v := 303) dX9_look_17 (by decide) ?_
    refine om_aload_n O 0 dX9_look_20 rfl rfl ?_
    refine gf_X9_67 O ka0 (om_lt ka0 (by decide)) dX9_look_21 ?_
    refine om_iadd O dX9_look_24 ?_
    revert h; refine om_iteR (fun i2o h => ?_)
    refine om_iald O k2o (om_lt k2o (by decide)) i2o dX9_look_25 ?_
    refine om_goto O (tgt := 30) dX9_look_26 (by decide) ?_
    exact om_iret (st := []) O (om_eI hE h) rfl dX9_look_30
def f_X9_isName_b15  (a0 : Nat) (v1 : Int32) (s0 : Int32) (s1 : Int32) (σ : om_S) : Option (Int32 × om_S) := if s0 = s1 then (some ((1 : Int32), σ)) else (if (σ a0 9) = 0 then (if v1 = (111 : Int32) then (some ((1 : Int32), σ)) else (if v1 = (110 : Int32) then (some ((1 : Int32), σ)) else (some ((0 : Int32), σ)))) else (if v1 = (100 : Int32) then (some ((1 : Int32), σ)) else (if v1 = (107 : Int32) then (some ((1 : Int32), σ)) else (some ((0 : Int32), σ)))))
set_option maxRecDepth 100000 in
theorem g_X9_isName_b15 {x : om_X}   (O : om_Ok x RX9 "isName" cX9_isName 2 (some FieldType.boolean) 0 0 0)   {r : Int32} {τ : om_S} (hE : om_End x (some (vI r)) τ om_rf om_N 0 0)   {a0 : Nat} {v1 : Int32} {s0 : Int32} {s1 : Int32} {σ : om_S} (ka0 : om_kc a0 = 9) (h : f_X9_isName_b15 a0 v1 s0 s1 σ = some (r, τ)) : om_J x 15 [(0, vR (some a0)), (1, vI v1)] [vI s1, vI s0] σ om_rf om_N 0 0 := by
  unfold f_X9_isName_b15 at h
  refine om_icmp_ne O (tgt := 20) dX9_isName_15 (by decide) (fun c1o => ?_) (fun c1o => ?_)
  · replace h := (if_pos c1o).symm.trans h
    refine om_iconst O (v := 1) dX9_isName_18 (by decide) ?_
    exact om_zret (st := []) O (Or.inr rfl) (om_eI hE h) rfl dX9_isName_19
  · replace h := (if_neg c1o).symm.trans h
    refine om_aload_n O 0 dX9_isName_20 rfl rfl ?_
    refine gf_X9_70 O ka0 (om_lt ka0 (by decide)) dX9_isName_21 ?_
    refine om_if_ne O (tgt := 47) dX9_isName_24 (by decide) (fun c2o => ?_) (fun c2o => ?_)
    · replace h := (if_pos c2o).symm.trans h
      refine om_iload_n O 1 dX9_isName_27 rfl rfl ?_
      refine om_bipush O (v := 111) dX9_isName_28 (by decide) ?_
      refine om_icmp_eq O (tgt := 39) dX9_isName_30 (by decide) (fun c3o => ?_) (fun c3o => ?_)
      · replace h := (if_pos c3o).symm.trans h
        refine om_iconst O (v := 1) dX9_isName_39 (by decide) ?_
        refine om_goto O (tgt := 64) dX9_isName_40 (by decide) ?_
        exact om_zret (st := []) O (Or.inr rfl) (om_eI hE h) rfl dX9_isName_64
      · replace h := (if_neg c3o).symm.trans h
        refine om_iload_n O 1 dX9_isName_33 rfl rfl ?_
        refine om_bipush O (v := 110) dX9_isName_34 (by decide) ?_
        refine om_icmp_ne O (tgt := 43) dX9_isName_36 (by decide) (fun c4o => ?_) (fun c4o => ?_)
        · replace h := (if_pos c4o).symm.trans h
          refine om_iconst O (v := 1) dX9_isName_39 (by decide) ?_
          refine om_goto O (tgt := 64) dX9_isName_40 (by decide) ?_
          exact om_zret (st := []) O (Or.inr rfl) (om_eI hE h) rfl dX9_isName_64
        · replace h := (if_neg c4o).symm.trans h
          refine om_iconst O (v := 0) dX9_isName_43 (by decide) ?_
          refine om_goto O (tgt := 64) dX9_isName_44 (by decide) ?_
          exact om_zret (st := []) O (Or.inl rfl) (om_eI hE h) rfl dX9_isName_64
    · replace h := (if_neg c2o).symm.trans h
      refine om_iload_n O 1 dX9_isName_47 rfl rfl ?_
      refine om_bipush O (v := 100) dX9_isName_48 (by decide) ?_
      refine om_icmp_eq O (tgt := 59) dX9_isName_50 (by decide) (fun c5o => ?_) (fun c5o => ?_)
      · replace h := (if_pos c5o).symm.trans h
        refine om_iconst O (v := 1) dX9_isName_59 (by decide) ?_
        refine om_goto O (tgt := 64) dX9_isName_60 (by decide) ?_
        exact om_zret (st := []) O (Or.inr rfl) (om_eI hE h) rfl dX9_isName_64
      · replace h := (if_neg c5o).symm.trans h
        refine om_iload_n O 1 dX9_isName_53 rfl rfl ?_
        refine om_bipush O (v := 107) dX9_isName_54 (by decide) ?_
        refine om_icmp_ne O (tgt := 63) dX9_isName_56 (by decide) (fun c6o => ?_) (fun c6o => ?_)
        · replace h := (if_pos c6o).symm.trans h
          refine om_iconst O (v := 1) dX9_isName_59 (by decide) ?_
          refine om_goto O (tgt := 64) dX9_isName_60 (by decide) ?_
          exact om_zret (st := []) O (Or.inr rfl) (om_eI hE h) rfl dX9_isName_64
        · replace h := (if_neg c6o).symm.trans h
          refine om_iconst O (v := 0) dX9_isName_63 (by decide) ?_
          exact om_zret (st := []) O (Or.inl rfl) (om_eI hE h) rfl dX9_isName_64
def f_X9_isName  (a0 : Nat) (v1 : Int32) (σ : om_S) : Option (Int32 × om_S) := if om_kc a0 = 9 then if (σ a0 9) = 0 then (f_X9_isName_b15 a0 v1 v1 (108 : Int32) σ) else (f_X9_isName_b15 a0 v1 v1 (119 : Int32) σ) else none
set_option maxRecDepth 100000 in
theorem c_X9_isName (l : Launch) (G : om_G) {a0 : Nat} {v1 : Int32} {σ : om_S} {r : Int32} {τ : om_S} (h : f_X9_isName a0 v1 σ = some (r, τ)) : om_D l G 0 yX9_isName cX9_isName 2 (some FieldType.boolean) 0 0 [vR (some a0), vI v1] σ om_rf om_N (some (vI r)) τ om_rf om_N := by
  refine om_Dof (lv := [(0, vR (some a0)), (1, vI v1)]) (by decide) rfl_le rfl (fun x O hE => ?_)
  change om_Ok x RX9 "isName" cX9_isName 2 (some FieldType.boolean) 0 0 0 at O
  unfold f_X9_isName at h
  revert h; refine om_iteR (fun ka0 h => ?_)
  refine om_iload_n O 1 dX9_isName_0 rfl rfl ?_
  refine om_aload_n O 0 dX9_isName_1 rfl rfl ?_
  refine gf_X9_70 O ka0 (om_lt ka0 (by decide)) dX9_isName_2 ?_
  refine om_if_ne O (tgt := 13) dX9_isName_5 (by decide) (fun c1o => ?_) (fun c1o => ?_)
  · replace h := (if_pos c1o).symm.trans h
    refine om_bipush O (v := 108) dX9_isName_8 (by decide) ?_
    refine om_goto O (tgt := 15) dX9_isName_10 (by decide) ?_
    exact g_X9_isName_b15 O hE ka0 h
  · replace h := (if_neg c1o).symm.trans h
    refine om_bipush O (v := 119) dX9_isName_13 (by decide) ?_
    exact g_X9_isName_b15 O hE ka0 h
def f_X9_step1  (a0 : Nat) (v1 : Int32) (v2 : Int32) (σ : om_S) : Option om_S := if om_kc a0 = 9 then om_ref (om_rf a0 10) 20 fun (t1o : Nat) => if om_in ((2 : Int32) * (σ a0 8)) (om_al t1o) then om_let (om_w σ t1o ((2 : Int32) * (σ a0 8)).toNatClampNeg v1) fun (σ1o : om_S) => om_ref (om_rf a0 10) 20 fun (t2o : Nat) => if om_in (((2 : Int32) * (σ1o a0 8)) + (1 : Int32)) (om_al t2o) then om_let (om_w σ1o t2o (((2 : Int32) * (σ1o a0 8)) + (1 : Int32)).toNatClampNeg v2) fun (σ2o : om_S) => om_let (om_w σ2o a0 8 ((σ2o a0 8) + (1 : Int32))) fun (σ3o : om_S) => some σ3o else none else none else none
set_option maxRecDepth 100000 in
theorem c_X9_step1 (l : Launch) (G : om_G) {a0 : Nat} {v1 : Int32} {v2 : Int32} {σ : om_S} {τ : om_S} (h : f_X9_step1 a0 v1 v2 σ = some τ) : om_D l G 0 yX9_step1 cX9_step1 3 none 0 0 [vR (some a0), vI v1, vI v2] σ om_rf om_N none τ om_rf om_N := by
  refine om_Dof (lv := [(0, vR (some a0)), (1, vI v1), (2, vI v2)]) (by decide) rfl_le rfl (fun x O hE => ?_)
  change om_Ok x RX9 "step1" cX9_step1 3 none 0 0 0 at O
  unfold f_X9_step1 at h
  revert h; refine om_iteR (fun ka0 h => ?_)
  refine om_aload_n O 0 dX9_step1_0 rfl rfl ?_
  revert h; refine om_refR (fun t1o y1o k1o h => ?_)
  refine gf_X9_26 O ka0 (om_lt ka0 (by decide)) dX9_step1_1 ?_
  rw [y1o]
  refine om_iconst O (v := 2) dX9_step1_4 (by decide) ?_
  refine om_aload_n O 0 dX9_step1_5 rfl rfl ?_
  refine gf_X9_73 O ka0 (om_lt ka0 (by decide)) dX9_step1_6 ?_
  refine om_imul O dX9_step1_9 ?_
  refine om_iload_n O 1 dX9_step1_10 rfl rfl ?_
  revert h; refine om_iteR (fun i1o h => ?_)
  revert h; refine om_letR (fun σ1o e1o h => ?_)
  refine om_iast O k1o (om_lt k1o (by decide)) i1o dX9_step1_11 e1o ?_
  refine om_aload_n O 0 dX9_step1_12 rfl rfl ?_
  revert h; refine om_refR (fun t2o y2o k2o h => ?_)
  refine gf_X9_26 O ka0 (om_lt ka0 (by decide)) dX9_step1_13 ?_
  rw [y2o]
  refine om_iconst O (v := 2) dX9_step1_16 (by decide) ?_
  refine om_aload_n O 0 dX9_step1_17 rfl rfl ?_
  refine gf_X9_73 O ka0 (om_lt ka0 (by decide)) dX9_step1_18 ?_
  refine om_imul O dX9_step1_21 ?_
  refine om_iconst O (v := 1) dX9_step1_22 (by decide) ?_
  refine om_iadd O dX9_step1_23 ?_
  refine om_iload_n O 2 dX9_step1_24 rfl rfl ?_
  revert h; refine om_iteR (fun i2o h => ?_)
  revert h; refine om_letR (fun σ2o e2o h => ?_)
  refine om_iast O k2o (om_lt k2o (by decide)) i2o dX9_step1_25 e2o ?_
  refine om_aload_n O 0 dX9_step1_26 rfl rfl ?_
  refine om_dup O rfl dX9_step1_27 ?_
  refine gf_X9_73 O ka0 (om_lt ka0 (by decide)) dX9_step1_28 ?_
  refine om_iconst O (v := 1) dX9_step1_31 (by decide) ?_
  refine om_iadd O dX9_step1_32 ?_
  revert h; refine om_letR (fun σ3o e3o h => ?_)
  refine pf_X9_73 O (Or.inl rfl) ka0 (om_lt ka0 (by decide)) dX9_step1_33 e3o ?_
  exact om_vret (st := []) O (om_eV hE h) rfl dX9_step1_36
def f_X9_opens  (a0 : Nat) (σ : om_S) : Option (Int32 × om_S) := if om_kc a0 = 9 then if (σ a0 7) = (5 : Int32) then (some ((0 : Int32), σ)) else (om_let (om_w σ a0 7 ((σ a0 7) + (1 : Int32))) fun (σ1o : om_S) => om_let (om_w σ1o a0 6 ((σ1o a0 6) + (1 : Int32))) fun (σ2o : om_S) => some ((1 : Int32), σ2o)) else none
set_option maxRecDepth 100000 in
theorem c_X9_opens (l : Launch) (G : om_G) {a0 : Nat} {σ : om_S} {r : Int32} {τ : om_S} (h : f_X9_opens a0 σ = some (r, τ)) : om_D l G 0 yX9_opens cX9_opens 1 (some FieldType.boolean) 0 0 [vR (some a0)] σ om_rf om_N (some (vI r)) τ om_rf om_N := by
  refine om_Dof (lv := [(0, vR (some a0))]) (by decide) rfl_le rfl (fun x O hE => ?_)
  change om_Ok x RX9 "opens" cX9_opens 1 (some FieldType.boolean) 0 0 0 at O
  unfold f_X9_opens at h
  revert h; refine om_iteR (fun ka0 h => ?_)
  refine om_aload_n O 0 dX9_opens_0 rfl rfl ?_
  refine gf_X9_100 O ka0 (om_lt ka0 (by decide)) dX9_opens_1 ?_
  refine om_iconst O (v := 5) dX9_opens_4 (by decide) ?_
  refine om_icmp_ne O (tgt := 10) dX9_opens_5 (by decide) (fun c1o => ?_) (fun c1o => ?_)
  · replace h := (if_pos c1o).symm.trans h
    refine om_iconst O (v := 0) dX9_opens_8 (by decide) ?_
    exact om_zret (st := []) O (Or.inl rfl) (om_eI hE h) rfl dX9_opens_9
  · replace h := (if_neg c1o).symm.trans h
    refine om_aload_n O 0 dX9_opens_10 rfl rfl ?_
    refine om_dup O rfl dX9_opens_11 ?_
    refine gf_X9_100 O ka0 (om_lt ka0 (by decide)) dX9_opens_12 ?_
    refine om_iconst O (v := 1) dX9_opens_15 (by decide) ?_
    refine om_iadd O dX9_opens_16 ?_
    revert h; refine om_letR (fun σ1o e1o h => ?_)
    refine pf_X9_100 O (Or.inl rfl) ka0 (om_lt ka0 (by decide)) dX9_opens_17 e1o ?_
    refine om_aload_n O 0 dX9_opens_20 rfl rfl ?_
    refine om_dup O rfl dX9_opens_21 ?_
    refine gf_X9_67 O ka0 (om_lt ka0 (by decide)) dX9_opens_22 ?_
    refine om_iconst O (v := 1) dX9_opens_25 (by decide) ?_
    refine om_iadd O dX9_opens_26 ?_
    revert h; refine om_letR (fun σ2o e2o h => ?_)
    refine pf_X9_67 O (Or.inl rfl) ka0 (om_lt ka0 (by decide)) dX9_opens_27 e2o ?_
    refine om_iconst O (v := 1) dX9_opens_30 (by decide) ?_
    exact om_zret (st := []) O (Or.inr rfl) (om_eI hE h) rfl dX9_opens_31
