def f_X8_trim_b20  (a0 : Nat) (σ : om_S) : Option (Int32 × om_S) := om_call (f_X8_refuse a0 (1 : Int32) σ) fun (r1o : Int32) (σ1o : om_S) => some (r1o, σ1o)
set_option maxRecDepth 100000 in
theorem g_X8_trim_b20 {x : om_X}   (O : om_Ok x RX8 "trim" cX8_trim 6 (some FieldType.int) 1 0 0)   {r : Int32} {τ : om_S} (hE : om_End x (some (vI r)) τ om_rf om_N 0 0)   {a0 : Nat} {σ : om_S} (ka0 : om_kc a0 = 8) (h : f_X8_trim_b20 a0 σ = some (r, τ)) : om_J x 20 [(0, vR (some a0))] [] σ om_rf om_N 0 0 := by
  unfold f_X8_trim_b20 at h
  refine om_aload_n O 0 dX8_trim_20 rfl rfl ?_
  refine om_iconst O (v := 1) dX8_trim_21 (by decide) ?_
  revert h; refine om_callR (fun r1o σ1o g1o h => ?_)
  refine cl_X8_84 O (st := []) (stk := [vI (1 : Int32), vR (some a0)]) (st2 := [vI r1o]) [vI (1 : Int32)] (fun l G => c_X8_refuse l G g1o) ka0 (om_lt ka0 (by decide)) (by decide) rfl rfl rfl_le rfl rfl_le rfl_le dX8_trim_22 ?_
  exact om_iret (st := []) O (om_eI hE h) rfl dX8_trim_25
def f_X8_trim_b61  (a3 : Nat) (v4 : Int32) (s0 : Int32) (σ : om_S) : Option (Int32 × om_S) := om_let (om_w σ a3 2 ((σ a3 2) &&& (v4 ^^^ (-1 : Int32)))) fun (σ1o : om_S) => some (s0, σ1o)
set_option maxRecDepth 100000 in
theorem g_X8_trim_b61 {x : om_X}   (O : om_Ok x RX8 "trim" cX8_trim 6 (some FieldType.int) 1 0 0)   {r : Int32} {τ : om_S} (hE : om_End x (some (vI r)) τ om_rf om_N 0 0)   {a3 : Nat} {v4 : Int32} {s0 : Int32} {σ : om_S} (ka3 : om_kc a3 = 1) (h : f_X8_trim_b61 a3 v4 s0 σ = some (r, τ)) : om_J x 61 [(3, vR (some a3)), (4, vI v4)] [vI s0] σ om_rf om_N 0 0 := by
  unfold f_X8_trim_b61 at h
  refine om_istore O (lv' := [(3, vR (some a3)), (4, vI v4), (5, vI s0)]) [1, 2, 0] rfl dX8_trim_61 (by decide) rfl ?_
  refine om_aload_n O 0 dX8_trim_63 rfl rfl ?_
  refine om_dup O rfl dX8_trim_64 ?_
  refine gf_X8_108 O ka3 (om_lt ka3 (by decide)) dX8_trim_65 ?_
  refine om_iload O 1 dX8_trim_68 rfl ?_
  refine om_iconst O (v := -1) dX8_trim_70 (by decide) ?_
  refine om_ixor O dX8_trim_71 ?_
  refine om_iand O dX8_trim_72 ?_
  revert h; refine om_letR (fun σ1o e1o h => ?_)
  refine pf_X8_108 O (Or.inl rfl) ka3 (om_lt ka3 (by decide)) dX8_trim_73 e1o ?_
  refine om_iload O 2 dX8_trim_76 rfl ?_
  exact om_iret (st := []) O (om_eI hE h) rfl dX8_trim_78
def f_X8_trim  (a0 : Nat) (v1 : Int32) (v2 : Int32) (σ : om_S) : Option (Int32 × om_S) := if om_kc a0 = 8 then om_ref (om_rf a0 0) 6 fun (t1o : Nat) => om_call (f_X6_at t1o v1 σ) fun (r1o : Option Nat) (σ1o : om_S) => om_nul r1o 1 (f_X8_trim_b20 a0 σ1o) fun (t2o : Nat) => om_call (f_X8_isKeeper v2 σ1o) fun (r2o : Int32) (σ2o : om_S) => if r2o = 0 then (f_X8_trim_b20 a0 σ2o) else (om_let ((1 : Int32) <<< (v2 &&& 31)) fun (x1o : Int32) => if (σ2o t2o 2) = x1o then (om_call (f_X8_refuse a0 (3 : Int32) σ2o) fun (r3o : Int32) (σ3o : om_S) => some (r3o, σ3o)) else (if ((σ2o t2o 2) &&& x1o) = 0 then (f_X8_trim_b61 t2o x1o (0 : Int32) σ2o) else (f_X8_trim_b61 t2o x1o (1 : Int32) σ2o))) else none
set_option maxRecDepth 100000 in
theorem c_X8_trim (l : Launch) (G : om_G) {a0 : Nat} {v1 : Int32} {v2 : Int32} {σ : om_S} {r : Int32} {τ : om_S} (h : f_X8_trim a0 v1 v2 σ = some (r, τ)) : om_D l G 1 yX8_trim cX8_trim 6 (some FieldType.int) 0 0 [vR (some a0), vI v1, vI v2] σ om_rf om_N (some (vI r)) τ om_rf om_N := by
  refine om_Dof (lv := [(0, vR (some a0)), (1, vI v1), (2, vI v2)]) (by decide) rfl_le rfl (fun x O hE => ?_)
  change om_Ok x RX8 "trim" cX8_trim 6 (some FieldType.int) 1 0 0 at O
  unfold f_X8_trim at h
  revert h; refine om_iteR (fun ka0 h => ?_)
  refine om_aload_n O 0 dX8_trim_0 rfl rfl ?_
  revert h; refine om_refR (fun t1o y1o k1o h => ?_)
  refine gf_X8_10 O ka0 (om_lt ka0 (by decide)) dX8_trim_1 ?_
  rw [y1o]
  refine om_iload_n O 1 dX8_trim_4 rfl rfl ?_
  revert h; refine om_callR (fun r1o σ1o g1o h => ?_)
  refine cl_X8_96 O (st := []) (stk := [vI v1, vR (some t1o)]) (st2 := [vR r1o]) [vI v1] (fun l G => c_X6_at l G g1o) k1o (om_lt k1o (by decide)) (by decide) rfl rfl rfl_le rfl rfl_le rfl_le dX8_trim_5 ?_
  refine om_astore_n O (lv' := [(0, vR (some a0)), (2, vI v2), (3, vR r1o)]) [1, 3, 0] dX8_trim_8 rfl (by decide) rfl ?_
  refine om_aload_n O 2 dX8_trim_9 rfl rfl ?_
  revert h; refine om_nulR (fun yy h => ?_) (fun t2o yy k2o h => ?_)
  · subst yy
    refine om_ifnullN O (tgt := 20) dX8_trim_10 (by decide) ?_
    refine om_drop (lv' := [(0, vR (some a0))]) [0] rfl ?_
    exact g_X8_trim_b20 O hE ka0 h
  · subst yy
    refine om_ifnullS O dX8_trim_10 ?_
    refine om_iload_n O 1 dX8_trim_13 rfl rfl ?_
    revert h; refine om_callR (fun r2o σ2o g2o h => ?_)
    refine cl_X8_130 O (st := []) (stk := [vI v2]) (st2 := [vI r2o]) [vI v2] (fun l G => c_X8_isKeeper l G g2o) (by decide) rfl rfl rfl_le rfl rfl_le rfl_le dX8_trim_14 ?_
    refine om_if_ne O (tgt := 26) dX8_trim_17 (by decide) (fun c1o => ?_) (fun c1o => ?_)
    · replace h := (if_pos c1o).symm.trans h
      refine om_drop (lv' := [(0, vR (some a0))]) [0] rfl ?_
      exact g_X8_trim_b20 O hE ka0 h
    · replace h := (if_neg c1o).symm.trans h
      refine om_iconst O (v := 1) dX8_trim_26 (by decide) ?_
      refine om_iload_n O 1 dX8_trim_27 rfl rfl ?_
      refine om_ishl O dX8_trim_28 ?_
      revert h; refine om_letR (fun x1o e1o h => ?_)
      refine om_istore O (lv' := [(0, vR (some a0)), (3, vR (some t2o)), (4, vI x1o)]) [1, 3, 0] e1o dX8_trim_29 (by decide) rfl ?_
      refine om_aload_n O 1 dX8_trim_31 rfl rfl ?_
      refine gf_X8_108 O k2o (om_lt k2o (by decide)) dX8_trim_32 ?_
      refine om_iload O 2 dX8_trim_35 rfl ?_
      refine om_icmp_ne O (tgt := 46) dX8_trim_37 (by decide) (fun c2o => ?_) (fun c2o => ?_)
      · replace h := (if_pos c2o).symm.trans h
        refine om_aload_n O 0 dX8_trim_40 rfl rfl ?_
        refine om_iconst O (v := 3) dX8_trim_41 (by decide) ?_
        revert h; refine om_callR (fun r3o σ3o g3o h => ?_)
        refine cl_X8_84 O (st := []) (stk := [vI (3 : Int32), vR (some a0)]) (st2 := [vI r3o]) [vI (3 : Int32)] (fun l G => c_X8_refuse l G g3o) ka0 (om_lt ka0 (by decide)) (by decide) rfl rfl rfl_le rfl rfl_le rfl_le dX8_trim_42 ?_
        exact om_iret (st := []) O (om_eI hE h) rfl dX8_trim_45
      · replace h := (if_neg c2o).symm.trans h
        refine om_aload_n O 1 dX8_trim_46 rfl rfl ?_
        refine gf_X8_108 O k2o (om_lt k2o (by decide)) dX8_trim_47 ?_
        refine om_iload O 2 dX8_trim_50 rfl ?_
        refine om_iand O dX8_trim_52 ?_
        refine om_if_eq O (tgt := 60) dX8_trim_53 (by decide) (fun c3o => ?_) (fun c3o => ?_)
        · replace h := (if_pos c3o).symm.trans h
          refine om_iconst O (v := 0) dX8_trim_60 (by decide) ?_
          refine om_drop (lv' := [(3, vR (some t2o)), (4, vI x1o)]) [1, 2] rfl ?_
          exact g_X8_trim_b61 O hE k2o h
        · replace h := (if_neg c3o).symm.trans h
          refine om_iconst O (v := 1) dX8_trim_56 (by decide) ?_
          refine om_goto O (tgt := 61) dX8_trim_57 (by decide) ?_
          refine om_drop (lv' := [(3, vR (some t2o)), (4, vI x1o)]) [1, 2] rfl ?_
          exact g_X8_trim_b61 O hE k2o h
def f_X8_tells_b20  (a0 : Nat) (σ : om_S) : Option (Int32 × om_S) := om_call (f_X8_refuse a0 (1 : Int32) σ) fun (r1o : Int32) (σ1o : om_S) => some (r1o, σ1o)
set_option maxRecDepth 100000 in
theorem g_X8_tells_b20 {x : om_X}   (O : om_Ok x RX8 "tells" cX8_tells 6 (some FieldType.int) 1 0 0)   {r : Int32} {τ : om_S} (hE : om_End x (some (vI r)) τ om_rf om_N 0 0)   {a0 : Nat} {σ : om_S} (ka0 : om_kc a0 = 8) (h : f_X8_tells_b20 a0 σ = some (r, τ)) : om_J x 20 [(0, vR (some a0))] [] σ om_rf om_N 0 0 := by
  unfold f_X8_tells_b20 at h
  refine om_aload_n O 0 dX8_tells_20 rfl rfl ?_
  refine om_iconst O (v := 1) dX8_tells_21 (by decide) ?_
  revert h; refine om_callR (fun r1o σ1o g1o h => ?_)
  refine cl_X8_84 O (st := []) (stk := [vI (1 : Int32), vR (some a0)]) (st2 := [vI r1o]) [vI (1 : Int32)] (fun l G => c_X8_refuse l G g1o) ka0 (om_lt ka0 (by decide)) (by decide) rfl rfl rfl_le rfl rfl_le rfl_le dX8_tells_22 ?_
  exact om_iret (st := []) O (om_eI hE h) rfl dX8_tells_25
def f_X8_tells_b46  (a3 : Nat) (v4 : Int32) (s0 : Int32) (σ : om_S) : Option (Int32 × om_S) := om_let (om_w σ a3 2 ((σ a3 2) ||| v4)) fun (σ1o : om_S) => some (s0, σ1o)
set_option maxRecDepth 100000 in
theorem g_X8_tells_b46 {x : om_X}   (O : om_Ok x RX8 "tells" cX8_tells 6 (some FieldType.int) 1 0 0)   {r : Int32} {τ : om_S} (hE : om_End x (some (vI r)) τ om_rf om_N 0 0)   {a3 : Nat} {v4 : Int32} {s0 : Int32} {σ : om_S} (ka3 : om_kc a3 = 1) (h : f_X8_tells_b46 a3 v4 s0 σ = some (r, τ)) : om_J x 46 [(3, vR (some a3)), (4, vI v4)] [vI s0] σ om_rf om_N 0 0 := by
  unfold f_X8_tells_b46 at h
  refine om_istore O (lv' := [(3, vR (some a3)), (4, vI v4), (5, vI s0)]) [1, 2, 0] rfl dX8_tells_46 (by decide) rfl ?_
  refine om_aload_n O 0 dX8_tells_48 rfl rfl ?_
  refine om_dup O rfl dX8_tells_49 ?_
  refine gf_X8_108 O ka3 (om_lt ka3 (by decide)) dX8_tells_50 ?_
  refine om_iload O 1 dX8_tells_53 rfl ?_
  refine om_ior O dX8_tells_55 ?_
  revert h; refine om_letR (fun σ1o e1o h => ?_)
  refine pf_X8_108 O (Or.inl rfl) ka3 (om_lt ka3 (by decide)) dX8_tells_56 e1o ?_
  refine om_iload O 2 dX8_tells_59 rfl ?_
  exact om_iret (st := []) O (om_eI hE h) rfl dX8_tells_61
def f_X8_tells  (a0 : Nat) (v1 : Int32) (v2 : Int32) (σ : om_S) : Option (Int32 × om_S) := if om_kc a0 = 8 then om_ref (om_rf a0 0) 6 fun (t1o : Nat) => om_call (f_X6_at t1o v1 σ) fun (r1o : Option Nat) (σ1o : om_S) => om_nul r1o 1 (f_X8_tells_b20 a0 σ1o) fun (t2o : Nat) => om_call (f_X8_isKeeper v2 σ1o) fun (r2o : Int32) (σ2o : om_S) => if r2o = 0 then (f_X8_tells_b20 a0 σ2o) else (om_let ((1 : Int32) <<< (v2 &&& 31)) fun (x1o : Int32) => if ((σ2o t2o 2) &&& x1o) = 0 then (f_X8_tells_b46 t2o x1o (0 : Int32) σ2o) else (f_X8_tells_b46 t2o x1o (1 : Int32) σ2o)) else none
set_option maxRecDepth 100000 in
theorem c_X8_tells (l : Launch) (G : om_G) {a0 : Nat} {v1 : Int32} {v2 : Int32} {σ : om_S} {r : Int32} {τ : om_S} (h : f_X8_tells a0 v1 v2 σ = some (r, τ)) : om_D l G 1 yX8_tells cX8_tells 6 (some FieldType.int) 0 0 [vR (some a0), vI v1, vI v2] σ om_rf om_N (some (vI r)) τ om_rf om_N := by
  refine om_Dof (lv := [(0, vR (some a0)), (1, vI v1), (2, vI v2)]) (by decide) rfl_le rfl (fun x O hE => ?_)
  change om_Ok x RX8 "tells" cX8_tells 6 (some FieldType.int) 1 0 0 at O
  unfold f_X8_tells at h
  revert h; refine om_iteR (fun ka0 h => ?_)
  refine om_aload_n O 0 dX8_tells_0 rfl rfl ?_
  revert h; refine om_refR (fun t1o y1o k1o h => ?_)
  refine gf_X8_10 O ka0 (om_lt ka0 (by decide)) dX8_tells_1 ?_
  rw [y1o]
  refine om_iload_n O 1 dX8_tells_4 rfl rfl ?_
  revert h; refine om_callR (fun r1o σ1o g1o h => ?_)
  refine cl_X8_96 O (st := []) (stk := [vI v1, vR (some t1o)]) (st2 := [vR r1o]) [vI v1] (fun l G => c_X6_at l G g1o) k1o (om_lt k1o (by decide)) (by decide) rfl rfl rfl_le rfl rfl_le rfl_le dX8_tells_5 ?_
  refine om_astore_n O (lv' := [(0, vR (some a0)), (2, vI v2), (3, vR r1o)]) [1, 3, 0] dX8_tells_8 rfl (by decide) rfl ?_
  refine om_aload_n O 2 dX8_tells_9 rfl rfl ?_
  revert h; refine om_nulR (fun yy h => ?_) (fun t2o yy k2o h => ?_)
  · subst yy
    refine om_ifnullN O (tgt := 20) dX8_tells_10 (by decide) ?_
    refine om_drop (lv' := [(0, vR (some a0))]) [0] rfl ?_
    exact g_X8_tells_b20 O hE ka0 h
  · subst yy
    refine om_ifnullS O dX8_tells_10 ?_
    refine om_iload_n O 1 dX8_tells_13 rfl rfl ?_
    revert h; refine om_callR (fun r2o σ2o g2o h => ?_)
    refine cl_X8_130 O (st := []) (stk := [vI v2]) (st2 := [vI r2o]) [vI v2] (fun l G => c_X8_isKeeper l G g2o) (by decide) rfl rfl rfl_le rfl rfl_le rfl_le dX8_tells_14 ?_
    refine om_if_ne O (tgt := 26) dX8_tells_17 (by decide) (fun c1o => ?_) (fun c1o => ?_)
    · replace h := (if_pos c1o).symm.trans h
      refine om_drop (lv' := [(0, vR (some a0))]) [0] rfl ?_
      exact g_X8_tells_b20 O hE ka0 h
    · replace h := (if_neg c1o).symm.trans h
      refine om_iconst O (v := 1) dX8_tells_26 (by decide) ?_
      refine om_iload_n O 1 dX8_tells_27 rfl rfl ?_
      refine om_ishl O dX8_tells_28 ?_
      revert h; refine om_letR (fun x1o e1o h => ?_)
      refine om_istore O (lv' := [(3, vR (some t2o)), (4, vI x1o)]) [3, 0] e1o dX8_tells_29 (by decide) rfl ?_
      refine om_aload_n O 0 dX8_tells_31 rfl rfl ?_
      refine gf_X8_108 O k2o (om_lt k2o (by decide)) dX8_tells_32 ?_
      refine om_iload O 1 dX8_tells_35 rfl ?_
      refine om_iand O dX8_tells_37 ?_
      refine om_if_eq O (tgt := 45) dX8_tells_38 (by decide) (fun c2o => ?_) (fun c2o => ?_)
      · replace h := (if_pos c2o).symm.trans h
        refine om_iconst O (v := 0) dX8_tells_45 (by decide) ?_
        exact g_X8_tells_b46 O hE k2o h
      · replace h := (if_neg c2o).symm.trans h
        refine om_iconst O (v := 1) dX8_tells_41 (by decide) ?_
        refine om_goto O (tgt := 46) dX8_tells_42 (by decide) ?_
        exact g_X8_tells_b46 O hE k2o h
def f_X8_blows  (a0 : Nat) (v1 : Int32) (σ : om_S) : Option (Int32 × om_S) := if om_kc a0 = 8 then om_call (f_X8_isWithin v1 (0 : Int32) (9 : Int32) σ) fun (r1o : Int32) (σ1o : om_S) => if r1o = 0 then (om_call (f_X8_refuse a0 (1 : Int32) σ1o) fun (r2o : Int32) (σ2o : om_S) => some (r2o, σ2o)) else (om_ref (om_rf a0 0) 6 fun (t1o : Nat) => om_ref (om_rf a0 0) 6 fun (t2o : Nat) => om_let (om_w σ1o t2o 4 v1) fun (σ3o : om_S) => some ((σ1o t1o 4), σ3o)) else none
set_option maxRecDepth 100000 in
theorem c_X8_blows (l : Launch) (G : om_G) {a0 : Nat} {v1 : Int32} {σ : om_S} {r : Int32} {τ : om_S} (h : f_X8_blows a0 v1 σ = some (r, τ)) : om_D l G 1 yX8_blows cX8_blows 3 (some FieldType.int) 0 0 [vR (some a0), vI v1] σ om_rf om_N (some (vI r)) τ om_rf om_N := by
  refine om_Dof (lv := [(0, vR (some a0)), (1, vI v1)]) (by decide) rfl_le rfl (fun x O hE => ?_)
  change om_Ok x RX8 "blows" cX8_blows 3 (some FieldType.int) 1 0 0 at O
  unfold f_X8_blows at h
  revert h; refine om_iteR (fun ka0 h => ?_)
  refine om_iload_n O 1 dX8_blows_0 rfl rfl ?_
  refine om_iconst O (v := 0) dX8_blows_1 (by decide) ?_
  refine om_bipush O (v := 9) dX8_blows_2 (by decide) ?_
  revert h; refine om_callR (fun r1o σ1o g1o h => ?_)
  refine cl_X8_80 O (st := []) (stk := [vI (9 : Int32), vI (0 : Int32), vI v1]) (st2 := [vI r1o]) [vI v1, vI (0 : Int32), vI (9 : Int32)] (fun l G => c_X8_isWithin l G g1o) (by decide) rfl rfl rfl_le rfl rfl_le rfl_le dX8_blows_4 ?_
  refine om_if_ne O (tgt := 16) dX8_blows_7 (by decide) (fun c1o => ?_) (fun c1o => ?_)
  · replace h := (if_pos c1o).symm.trans h
    refine om_aload_n O 0 dX8_blows_10 rfl rfl ?_
    refine om_iconst O (v := 1) dX8_blows_11 (by decide) ?_
    revert h; refine om_callR (fun r2o σ2o g2o h => ?_)
    refine cl_X8_84 O (st := []) (stk := [vI (1 : Int32), vR (some a0)]) (st2 := [vI r2o]) [vI (1 : Int32)] (fun l G => c_X8_refuse l G g2o) ka0 (om_lt ka0 (by decide)) (by decide) rfl rfl rfl_le rfl rfl_le rfl_le dX8_blows_12 ?_
    exact om_iret (st := []) O (om_eI hE h) rfl dX8_blows_15
  · replace h := (if_neg c1o).symm.trans h
    refine om_aload_n O 0 dX8_blows_16 rfl rfl ?_
    revert h; refine om_refR (fun t1o y1o k1o h => ?_)
    refine gf_X8_10 O ka0 (om_lt ka0 (by decide)) dX8_blows_17 ?_
    rw [y1o]
    refine gf_X8_121 O k1o (om_lt k1o (by decide)) dX8_blows_20 ?_
    refine om_istore_n O (lv' := [(0, vR (some a0)), (1, vI v1), (2, vI (σ1o t1o 4))]) [1, 2, 0] rfl dX8_blows_23 rfl (by decide) rfl ?_
    refine om_aload_n O 0 dX8_blows_24 rfl rfl ?_
    revert h; refine om_refR (fun t2o y2o k2o h => ?_)
    refine gf_X8_10 O ka0 (om_lt ka0 (by decide)) dX8_blows_25 ?_
    rw [y2o]
    refine om_iload_n O 1 dX8_blows_28 rfl rfl ?_
    revert h; refine om_letR (fun σ3o e1o h => ?_)
    refine pf_X8_121 O (Or.inl rfl) k2o (om_lt k2o (by decide)) dX8_blows_29 e1o ?_
    refine om_iload_n O 2 dX8_blows_32 rfl rfl ?_
    exact om_iret (st := []) O (om_eI hE h) rfl dX8_blows_33
def f_X3_add  (a0 : Nat) (v1 : Int32) (σ : om_S) : Option (Int32 × om_S) := if om_kc a0 = 3 then if (σ a0 1) < 0 then (some ((0 : Int32), σ)) else (om_ref (om_rf a0 0) 20 fun (t1o : Nat) => if (σ a0 1) < (Int32.ofNat (om_al t1o)) then (om_ref (om_rf a0 0) 20 fun (t2o : Nat) => if om_in (σ a0 1) (om_al t2o) then om_let (om_w σ t2o (σ a0 1).toNatClampNeg v1) fun (σ1o : om_S) => om_let (om_w σ1o a0 1 ((σ1o a0 1) + (1 : Int32))) fun (σ2o : om_S) => some ((1 : Int32), σ2o) else none) else (some ((0 : Int32), σ))) else none
set_option maxRecDepth 100000 in
theorem c_X3_add (l : Launch) (G : om_G) {a0 : Nat} {v1 : Int32} {σ : om_S} {r : Int32} {τ : om_S} (h : f_X3_add a0 v1 σ = some (r, τ)) : om_D l G 0 yX3_add cX3_add 2 (some FieldType.boolean) 0 0 [vR (some a0), vI v1] σ om_rf om_N (some (vI r)) τ om_rf om_N := by
  refine om_Dof (lv := [(0, vR (some a0)), (1, vI v1)]) (by decide) rfl_le rfl (fun x O hE => ?_)
  change om_Ok x RX3 "add" cX3_add 2 (some FieldType.boolean) 0 0 0 at O
  unfold f_X3_add at h
  revert h; refine om_iteR (fun ka0 h => ?_)
  refine om_aload_n O 0 dX3_add_0 rfl rfl ?_
  refine gf_X3_7 O ka0 (om_lt ka0 (by decide)) dX3_add_1 ?_
  refine om_if_lt O (tgt := 19) dX3_add_4 (by decide) (fun c1o => ?_) (fun c1o => ?_)
  · replace h := (if_pos c1o).symm.trans h
    refine om_iconst O (v := 0) dX3_add_19 (by decide) ?_
    exact om_zret (st := []) O (Or.inl rfl) (om_eI hE h) rfl dX3_add_20
  · replace h := (if_neg c1o).symm.trans h
    refine om_aload_n O 0 dX3_add_7 rfl rfl ?_
    refine gf_X3_7 O ka0 (om_lt ka0 (by decide)) dX3_add_8 ?_
    refine om_aload_n O 0 dX3_add_11 rfl rfl ?_
    revert h; refine om_refR (fun t1o y1o k1o h => ?_)
    refine gf_X3_13 O ka0 (om_lt ka0 (by decide)) dX3_add_12 ?_
    rw [y1o]
    refine om_alen O k1o (om_lt k1o (by decide)) rfl dX3_add_15 ?_
    refine om_icmp_lt O (tgt := 21) dX3_add_16 (by decide) (fun c2o => ?_) (fun c2o => ?_)
    · replace h := (if_pos c2o).symm.trans h
      refine om_aload_n O 0 dX3_add_21 rfl rfl ?_
      revert h; refine om_refR (fun t2o y2o k2o h => ?_)
      refine gf_X3_13 O ka0 (om_lt ka0 (by decide)) dX3_add_22 ?_
      rw [y2o]
      refine om_aload_n O 0 dX3_add_25 rfl rfl ?_
      refine gf_X3_7 O ka0 (om_lt ka0 (by decide)) dX3_add_26 ?_
      refine om_iload_n O 1 dX3_add_29 rfl rfl ?_
      revert h; refine om_iteR (fun i1o h => ?_)
      revert h; refine om_letR (fun σ1o e1o h => ?_)
      refine om_iast O k2o (om_lt k2o (by decide)) i1o dX3_add_30 e1o ?_
      refine om_aload_n O 0 dX3_add_31 rfl rfl ?_
      refine om_dup O rfl dX3_add_32 ?_
      refine gf_X3_7 O ka0 (om_lt ka0 (by decide)) dX3_add_33 ?_
      refine om_iconst O (v := 1) dX3_add_36 (by decide) ?_
      refine om_iadd O dX3_add_37 ?_
      revert h; refine om_letR (fun σ2o e2o h => ?_)
      refine pf_X3_7 O (Or.inl rfl) ka0 (om_lt ka0 (by decide)) dX3_add_38 e2o ?_
      refine om_iconst O (v := 1) dX3_add_41 (by decide) ?_
      exact om_zret (st := []) O (Or.inr rfl) (om_eI hE h) rfl dX3_add_42
    · replace h := (if_neg c2o).symm.trans h
      refine om_iconst O (v := 0) dX3_add_19 (by decide) ?_
      exact om_zret (st := []) O (Or.inl rfl) (om_eI hE h) rfl dX3_add_20
def f_X8_feed_b39  : Nat → Nat → Int64 → Int32 → Int32 → om_S → Option (Int32 × om_S)
  | 0, _, _, _, _, _ => none
  | F + 1, a0, w1, v3, v4, σ => if v3 ≤ v4 then (om_ref (om_rf a0 4) 3 fun (t1o : Nat) => om_call (f_X3_size t1o σ) fun (r1o : Int32) (σ1o : om_S) => some (r1o, σ1o)) else (om_ref (om_rf a0 4) 3 fun (t2o : Nat) => om_call (f_X3_add t2o ((((w1.toUInt64 >>> (((8 : Int32) * v4).toInt64.toUInt64 &&& Int64.toUInt64 63)).toInt64).toInt32) &&& (255 : Int32)) σ) fun (r2o : Int32) (σ2o : om_S) => (f_X8_feed_b39 F) a0 w1 v3 (v4 + 1) σ2o)
set_option maxRecDepth 100000 in
theorem g_X8_feed_b39 {x : om_X}   (O : om_Ok x RX8 "feed" cX8_feed 5 (some FieldType.int) 1 0 0)   {r : Int32} {τ : om_S} (hE : om_End x (some (vI r)) τ om_rf om_N 0 0)   : ∀ (F : Nat) (a0 : Nat) (w1 : Int64) (v3 : Int32) (v4 : Int32) (σ : om_S) (ka0 : om_kc a0 = 8), f_X8_feed_b39 F a0 w1 v3 v4 σ = some (r, τ) → om_J x 39 [(0, vR (some a0)), (1, vL w1), (3, vI v3), (4, vI v4)] [] σ om_rf om_N 0 0 := by
  intro F
  induction F with
  | zero =>
    intro a0 w1 v3 v4 σ ka0 h
    cases h
  | succ F ih =>
    intro a0 w1 v3 v4 σ ka0 h
    unfold f_X8_feed_b39 at h
    refine om_iload O 3 dX8_feed_39 rfl ?_
    refine om_iload_n O 2 dX8_feed_41 rfl rfl ?_
    refine om_icmp_ge O (tgt := 71) dX8_feed_42 (by decide) (fun c1o => ?_) (fun c1o => ?_)
    · replace h := (if_pos c1o).symm.trans h
      refine om_aload_n O 0 dX8_feed_71 rfl rfl ?_
      revert h; refine om_refR (fun t1o y1o k1o h => ?_)
      refine gf_X8_34 O ka0 (om_lt ka0 (by decide)) dX8_feed_72 ?_
      rw [y1o]
      revert h; refine om_callR (fun r1o σ1o g1o h => ?_)
      refine cl_X8_133 O (st := []) (stk := [vR (some t1o)]) (st2 := [vI r1o]) [] (fun l G => c_X3_size l G g1o) k1o (om_lt k1o (by decide)) (by decide) rfl rfl rfl_le rfl rfl_le rfl_le dX8_feed_75 ?_
      exact om_iret (st := []) O (om_eI hE h) rfl dX8_feed_78
    · replace h := (if_neg c1o).symm.trans h
      refine om_aload_n O 0 dX8_feed_45 rfl rfl ?_
      revert h; refine om_refR (fun t2o y2o k2o h => ?_)
      refine gf_X8_34 O ka0 (om_lt ka0 (by decide)) dX8_feed_46 ?_
      rw [y2o]
      refine om_lload_n O 1 dX8_feed_49 rfl rfl ?_
      refine om_bipush O (v := 8) dX8_feed_50 (by decide) ?_
      refine om_iload O 3 dX8_feed_52 rfl ?_
      refine om_imul O dX8_feed_54 ?_
      refine om_lushr O dX8_feed_55 ?_
      refine om_l2i O dX8_feed_56 ?_
      refine om_sipush O (v := 255) dX8_feed_57 (by decide) ?_
      refine om_iand O dX8_feed_60 ?_
      revert h; refine om_callR (fun r2o σ2o g2o h => ?_)
      refine cl_X8_137 O (st := []) (stk := [vI ((((w1.toUInt64 >>> (((8 : Int32) * v4).toInt64.toUInt64 &&& Int64.toUInt64 63)).toInt64).toInt32) &&& (255 : Int32)), vR (some t2o)]) (st2 := [vI r2o]) [vI ((((w1.toUInt64 >>> (((8 : Int32) * v4).toInt64.toUInt64 &&& Int64.toUInt64 63)).toInt64).toInt32) &&& (255 : Int32))] (fun l G => c_X3_add l G g2o) k2o (om_lt k2o (by decide)) (by decide) rfl rfl rfl_le rfl rfl_le rfl_le dX8_feed_61 ?_
      refine om_pop O rfl dX8_feed_64 ?_
      refine om_iinc O (v1 := (v4 + 1)) (lv' := [(0, vR (some a0)), (1, vL w1), (3, vI v3), (4, vI (v4 + 1))]) 3 [1, 2, 3, 0] rfl dX8_feed_65 rfl rfl (by decide) rfl ?_
      refine om_goto O (tgt := 39) dX8_feed_68 (by decide) ?_
      exact ih _ _ _ _ _ ka0 h
def f_X8_feed  (a0 : Nat) (w1 : Int64) (v3 : Int32) (σ : om_S) : Option (Int32 × om_S) := if om_kc a0 = 8 then om_call (f_X8_isWithin v3 (1 : Int32) (8 : Int32) σ) fun (r1o : Int32) (σ1o : om_S) => if r1o = 0 then (om_call (f_X8_refuse a0 (1 : Int32) σ1o) fun (r2o : Int32) (σ2o : om_S) => some (r2o, σ2o)) else (om_ref (om_rf a0 4) 3 fun (t1o : Nat) => om_call (f_X3_size t1o σ1o) fun (r3o : Int32) (σ3o : om_S) => if (r3o + v3) ≤ (60 : Int32) then (f_X8_feed_b39 om_F a0 w1 v3 (0 : Int32) σ3o) else (om_call (f_X8_refuse a0 (4 : Int32) σ3o) fun (r4o : Int32) (σ4o : om_S) => some (r4o, σ4o))) else none
set_option maxRecDepth 100000 in
theorem c_X8_feed (l : Launch) (G : om_G) {a0 : Nat} {w1 : Int64} {v3 : Int32} {σ : om_S} {r : Int32} {τ : om_S} (h : f_X8_feed a0 w1 v3 σ = some (r, τ)) : om_D l G 1 yX8_feed cX8_feed 5 (some FieldType.int) 0 0 [vR (some a0), vL w1, vI v3] σ om_rf om_N (some (vI r)) τ om_rf om_N := by
  refine om_Dof (lv := [(0, vR (some a0)), (1, vL w1), (3, vI v3)]) (by decide) rfl_le rfl (fun x O hE => ?_)
  change om_Ok x RX8 "feed" cX8_feed 5 (some FieldType.int) 1 0 0 at O
  unfold f_X8_feed at h
  revert h; refine om_iteR (fun ka0 h => ?_)
  refine om_iload_n O 2 dX8_feed_0 rfl rfl ?_
  refine om_iconst O (v := 1) dX8_feed_1 (by decide) ?_
  refine om_bipush O (v := 8) dX8_feed_2 (by decide) ?_
  revert h; refine om_callR (fun r1o σ1o g1o h => ?_)
  refine cl_X8_80 O (st := []) (stk := [vI (8 : Int32), vI (1 : Int32), vI v3]) (st2 := [vI r1o]) [vI v3, vI (1 : Int32), vI (8 : Int32)] (fun l G => c_X8_isWithin l G g1o) (by decide) rfl rfl rfl_le rfl rfl_le rfl_le dX8_feed_4 ?_
  refine om_if_ne O (tgt := 16) dX8_feed_7 (by decide) (fun c1o => ?_) (fun c1o => ?_)
  · replace h := (if_pos c1o).symm.trans h
    refine om_aload_n O 0 dX8_feed_10 rfl rfl ?_
    refine om_iconst O (v := 1) dX8_feed_11 (by decide) ?_
    revert h; refine om_callR (fun r2o σ2o g2o h => ?_)
    refine cl_X8_84 O (st := []) (stk := [vI (1 : Int32), vR (some a0)]) (st2 := [vI r2o]) [vI (1 : Int32)] (fun l G => c_X8_refuse l G g2o) ka0 (om_lt ka0 (by decide)) (by decide) rfl rfl rfl_le rfl rfl_le rfl_le dX8_feed_12 ?_
    exact om_iret (st := []) O (om_eI hE h) rfl dX8_feed_15
  · replace h := (if_neg c1o).symm.trans h
    refine om_aload_n O 0 dX8_feed_16 rfl rfl ?_
    revert h; refine om_refR (fun t1o y1o k1o h => ?_)
    refine gf_X8_34 O ka0 (om_lt ka0 (by decide)) dX8_feed_17 ?_
    rw [y1o]
    revert h; refine om_callR (fun r3o σ3o g3o h => ?_)
    refine cl_X8_133 O (st := []) (stk := [vR (some t1o)]) (st2 := [vI r3o]) [] (fun l G => c_X3_size l G g3o) k1o (om_lt k1o (by decide)) (by decide) rfl rfl rfl_le rfl rfl_le rfl_le dX8_feed_20 ?_
    refine om_iload_n O 2 dX8_feed_23 rfl rfl ?_
    refine om_iadd O dX8_feed_24 ?_
    refine om_bipush O (v := 60) dX8_feed_25 (by decide) ?_
    refine om_icmp_le O (tgt := 36) dX8_feed_27 (by decide) (fun c2o => ?_) (fun c2o => ?_)
    · replace h := (if_pos c2o).symm.trans h
      refine om_iconst O (v := 0) dX8_feed_36 (by decide) ?_
      refine om_istore O (lv' := [(0, vR (some a0)), (1, vL w1), (3, vI v3), (4, vI (0 : Int32))]) [1, 2, 3, 0] rfl dX8_feed_37 (by decide) rfl ?_
      exact g_X8_feed_b39 O hE om_F _ _ _ _ _ ka0 h
    · replace h := (if_neg c2o).symm.trans h
      refine om_aload_n O 0 dX8_feed_30 rfl rfl ?_
      refine om_iconst O (v := 4) dX8_feed_31 (by decide) ?_
      revert h; refine om_callR (fun r4o σ4o g4o h => ?_)
      refine cl_X8_84 O (st := []) (stk := [vI (4 : Int32), vR (some a0)]) (st2 := [vI r4o]) [vI (4 : Int32)] (fun l G => c_X8_refuse l G g4o) ka0 (om_lt ka0 (by decide)) (by decide) rfl rfl rfl_le rfl rfl_le rfl_le dX8_feed_32 ?_
      exact om_iret (st := []) O (om_eI hE h) rfl dX8_feed_35
def f_X6_textOf  (a0 : Nat) (v1 : Int32) (σ : om_S) : Option (Option Nat × om_S) := if om_kc a0 = 6 then if v1 = 0 then (om_ref (om_rf a0 1) 5 fun (t1o : Nat) => some ((some t1o), σ)) else (if v1 = 1 then (om_ref (om_rf a0 2) 5 fun (t2o : Nat) => some ((some t2o), σ)) else (some (none, σ))) else none
set_option maxRecDepth 100000 in
theorem c_X6_textOf (l : Launch) (G : om_G) {a0 : Nat} {v1 : Int32} {σ : om_S} {r : Option Nat} {τ : om_S} (h : f_X6_textOf a0 v1 σ = some (r, τ)) : om_D l G 0 yX6_textOf cX6_textOf 2 (some (FieldType.object "OilMemories$Text")) 0 0 [vR (some a0), vI v1] σ om_rf om_N (some (vR r)) τ om_rf om_N := by
  refine om_Dof (lv := [(0, vR (some a0)), (1, vI v1)]) (by decide) rfl_le rfl (fun x O hE => ?_)
  change om_Ok x RX6 "textOf" cX6_textOf 2 (some (FieldType.object "OilMemories$Text")) 0 0 0 at O
  unfold f_X6_textOf at h
  revert h; refine om_iteR (fun ka0 h => ?_)
  refine om_iload_n O 1 dX6_textOf_0 rfl rfl ?_
  by_cases c1o : v1 = 0
  · replace h := (if_pos c1o).symm.trans h
    refine om_lookup O (off := 27) (tgt := 28) dX6_textOf_1 (by decide +kernel) (by rw [c1o]; decide +kernel) (by decide) ?_
    refine om_aload_n O 0 dX6_textOf_28 rfl rfl ?_
    revert h; refine om_refR (fun t1o y1o k1o h => ?_)
    refine gf_X6_22 O ka0 (om_lt ka0 (by decide)) dX6_textOf_29 ?_
    rw [y1o]
    exact om_aret (st := []) O (om_eR hE h) rfl dX6_textOf_32
  · replace h := (if_neg c1o).symm.trans h
    by_cases c2o : v1 = 1
    · replace h := (if_pos c2o).symm.trans h
      refine om_lookup O (off := 32) (tgt := 33) dX6_textOf_1 (by decide +kernel) (by rw [c2o]; decide +kernel) (by decide) ?_
      refine om_aload_n O 0 dX6_textOf_33 rfl rfl ?_
      revert h; refine om_refR (fun t2o y2o k2o h => ?_)
      refine gf_X6_26 O ka0 (om_lt ka0 (by decide)) dX6_textOf_34 ?_
      rw [y2o]
      exact om_aret (st := []) O (om_eR hE h) rfl dX6_textOf_37
    · replace h := (if_neg c2o).symm.trans h
      refine om_lookup O (off := 37) (tgt := 38) dX6_textOf_1 (by decide +kernel) ((lv_osw (k := 0) c1o (by decide)).trans ((lv_osw (k := 1) c2o (by decide)).trans rfl)) (by decide) ?_
      refine om_null O dX6_textOf_38 ?_
      exact om_aret (st := []) O (om_eR hE h) rfl dX6_textOf_39
def f_X3_clear  (a0 : Nat) (σ : om_S) : Option om_S := if om_kc a0 = 3 then om_let (om_w σ a0 1 (0 : Int32)) fun (σ1o : om_S) => some σ1o else none
set_option maxRecDepth 100000 in
theorem c_X3_clear (l : Launch) (G : om_G) {a0 : Nat} {σ : om_S} {τ : om_S} (h : f_X3_clear a0 σ = some τ) : om_D l G 0 yX3_clear cX3_clear 1 none 0 0 [vR (some a0)] σ om_rf om_N none τ om_rf om_N := by
  refine om_Dof (lv := [(0, vR (some a0))]) (by decide) rfl_le rfl (fun x O hE => ?_)
  change om_Ok x RX3 "clear" cX3_clear 1 none 0 0 0 at O
  unfold f_X3_clear at h
  revert h; refine om_iteR (fun ka0 h => ?_)
  refine om_aload_n O 0 dX3_clear_0 rfl rfl ?_
  refine om_iconst O (v := 0) dX3_clear_1 (by decide) ?_
  revert h; refine om_letR (fun σ1o e1o h => ?_)
  refine pf_X3_7 O (Or.inl rfl) ka0 (om_lt ka0 (by decide)) dX3_clear_2 e1o ?_
  exact om_vret (st := []) O (om_eV hE h) rfl dX3_clear_5
def f_X5_clear  (a0 : Nat) (σ : om_S) : Option om_S := if om_kc a0 = 5 then om_ref (om_rf a0 1) 3 fun (t1o : Nat) => om_do (f_X3_clear t1o σ) fun (σ1o : om_S) => some σ1o else none
set_option maxRecDepth 100000 in
theorem c_X5_clear (l : Launch) (G : om_G) {a0 : Nat} {σ : om_S} {τ : om_S} (h : f_X5_clear a0 σ = some τ) : om_D l G 1 yX5_clear cX5_clear 1 none 0 0 [vR (some a0)] σ om_rf om_N none τ om_rf om_N := by
  refine om_Dof (lv := [(0, vR (some a0))]) (by decide) rfl_le rfl (fun x O hE => ?_)
  change om_Ok x RX5 "clear" cX5_clear 1 none 1 0 0 at O
  unfold f_X5_clear at h
  revert h; refine om_iteR (fun ka0 h => ?_)
  refine om_aload_n O 0 dX5_clear_0 rfl rfl ?_
  revert h; refine om_refR (fun t1o y1o k1o h => ?_)
  refine gf_X5_14 O ka0 (om_lt ka0 (by decide)) dX5_clear_1 ?_
  rw [y1o]
  revert h; refine om_doR (fun σ1o g1o h => ?_)
  refine cl_X5_28 O (st := []) (stk := [vR (some t1o)]) (st2 := []) [] (fun l G => c_X3_clear l G g1o) k1o (om_lt k1o (by decide)) (by decide) rfl rfl rfl_le rfl rfl_le rfl_le dX5_clear_4 ?_
  exact om_vret (st := []) O (om_eV hE h) rfl dX5_clear_7
def f_X3_copyFrom_b7  : Nat → Nat → Nat → Int32 → om_S → Option om_S
  | 0, _, _, _, _ => none
  | F + 1, a0, a1, v2, σ => if (σ a1 1) ≤ v2 then (some σ) else (om_ref (om_rf a0 0) 20 fun (t1o : Nat) => if (Int32.ofNat (om_al t1o)) ≤ v2 then (some σ) else (om_call (f_X3_at a1 v2 σ) fun (r1o : Int32) (σ1o : om_S) => om_call (f_X3_add a0 r1o σ1o) fun (r2o : Int32) (σ2o : om_S) => (f_X3_copyFrom_b7 F) a0 a1 (v2 + 1) σ2o))
set_option maxRecDepth 100000 in
theorem g_X3_copyFrom_b7 {x : om_X}   (O : om_Ok x RX3 "copyFrom" cX3_copyFrom 3 none 1 0 0)   {τ : om_S} (hE : om_End x none τ om_rf om_N 0 0)   : ∀ (F : Nat) (a0 : Nat) (a1 : Nat) (v2 : Int32) (σ : om_S) (ka0 : om_kc a0 = 3) (ka1 : om_kc a1 = 3), f_X3_copyFrom_b7 F a0 a1 v2 σ = some τ → om_J x 7 [(0, vR (some a0)), (1, vR (some a1)), (2, vI v2)] [] σ om_rf om_N 0 0 := by
  intro F
  induction F with
  | zero =>
    intro a0 a1 v2 σ ka0 ka1 h
    cases h
  | succ F ih =>
    intro a0 a1 v2 σ ka0 ka1 h
    unfold f_X3_copyFrom_b7 at h
    refine om_iload_n O 2 dX3_copyFrom_7 rfl rfl ?_
    refine om_aload_n O 1 dX3_copyFrom_8 rfl rfl ?_
    refine gf_X3_7 O ka1 (om_lt ka1 (by decide)) dX3_copyFrom_9 ?_
    refine om_icmp_ge O (tgt := 40) dX3_copyFrom_12 (by decide) (fun c1o => ?_) (fun c1o => ?_)
    · replace h := (if_pos c1o).symm.trans h
      exact om_vret (st := []) O (om_eV hE h) rfl dX3_copyFrom_40
    · replace h := (if_neg c1o).symm.trans h
      refine om_iload_n O 2 dX3_copyFrom_15 rfl rfl ?_
      refine om_aload_n O 0 dX3_copyFrom_16 rfl rfl ?_
      revert h; refine om_refR (fun t1o y1o k1o h => ?_)
      refine gf_X3_13 O ka0 (om_lt ka0 (by decide)) dX3_copyFrom_17 ?_
      rw [y1o]
      refine om_alen O k1o (om_lt k1o (by decide)) rfl dX3_copyFrom_20 ?_
      refine om_icmp_ge O (tgt := 40) dX3_copyFrom_21 (by decide) (fun c2o => ?_) (fun c2o => ?_)
      · replace h := (if_pos c2o).symm.trans h
        exact om_vret (st := []) O (om_eV hE h) rfl dX3_copyFrom_40
      · replace h := (if_neg c2o).symm.trans h
        refine om_aload_n O 0 dX3_copyFrom_24 rfl rfl ?_
        refine om_aload_n O 1 dX3_copyFrom_25 rfl rfl ?_
        refine om_iload_n O 2 dX3_copyFrom_26 rfl rfl ?_
        revert h; refine om_callR (fun r1o σ1o g1o h => ?_)
        refine cl_X3_17 O (st := [vR (some a0)]) (stk := [vI v2, vR (some a1), vR (some a0)]) (st2 := [vI r1o, vR (some a0)]) [vI v2] (fun l G => c_X3_at l G g1o) ka1 (om_lt ka1 (by decide)) (by decide) rfl rfl rfl_le rfl rfl_le rfl_le dX3_copyFrom_27 ?_
        revert h; refine om_callR (fun r2o σ2o g2o h => ?_)
        refine cl_X3_21 O (st := []) (stk := [vI r1o, vR (some a0)]) (st2 := [vI r2o]) [vI r1o] (fun l G => c_X3_add l G g2o) ka0 (om_lt ka0 (by decide)) (by decide) rfl rfl rfl_le rfl rfl_le rfl_le dX3_copyFrom_30 ?_
        refine om_pop O rfl dX3_copyFrom_33 ?_
        refine om_iinc O (v1 := (v2 + 1)) (lv' := [(0, vR (some a0)), (1, vR (some a1)), (2, vI (v2 + 1))]) 2 [1, 2, 0] rfl dX3_copyFrom_34 rfl rfl (by decide) rfl ?_
        refine om_goto O (tgt := 7) dX3_copyFrom_37 (by decide) ?_
        exact ih _ _ _ _ ka0 ka1 h
def f_X3_copyFrom  (a0 : Nat) (a1 : Nat) (σ : om_S) : Option om_S := if om_kc a0 = 3 then if om_kc a1 = 3 then om_let (om_w σ a0 1 (0 : Int32)) fun (σ1o : om_S) => f_X3_copyFrom_b7 om_F a0 a1 (0 : Int32) σ1o else none else none
set_option maxRecDepth 100000 in
theorem c_X3_copyFrom (l : Launch) (G : om_G) {a0 : Nat} {a1 : Nat} {σ : om_S} {τ : om_S} (h : f_X3_copyFrom a0 a1 σ = some τ) : om_D l G 1 yX3_copyFrom cX3_copyFrom 3 none 0 0 [vR (some a0), vR (some a1)] σ om_rf om_N none τ om_rf om_N := by
  refine om_Dof (lv := [(0, vR (some a0)), (1, vR (some a1))]) (by decide) rfl_le rfl (fun x O hE => ?_)
  change om_Ok x RX3 "copyFrom" cX3_copyFrom 3 none 1 0 0 at O
  unfold f_X3_copyFrom at h
  revert h; refine om_iteR (fun ka0 h => ?_)
  revert h; refine om_iteR (fun ka1 h => ?_)
  refine om_aload_n O 0 dX3_copyFrom_0 rfl rfl ?_
  refine om_iconst O (v := 0) dX3_copyFrom_1 (by decide) ?_
  revert h; refine om_letR (fun σ1o e1o h => ?_)
  refine pf_X3_7 O (Or.inl rfl) ka0 (om_lt ka0 (by decide)) dX3_copyFrom_2 e1o ?_
  refine om_iconst O (v := 0) dX3_copyFrom_5 (by decide) ?_
  refine om_istore_n O (lv' := [(0, vR (some a0)), (1, vR (some a1)), (2, vI (0 : Int32))]) [1, 2, 0] rfl dX3_copyFrom_6 rfl (by decide) rfl ?_
  exact g_X3_copyFrom_b7 O hE om_F _ _ _ _ ka0 ka1 h
def f_X3_has  (a0 : Nat) (v1 : Int32) (σ : om_S) : Option (Int32 × om_S) := if om_kc a0 = 3 then if v1 < 0 then (some ((0 : Int32), σ)) else (if (σ a0 1) ≤ v1 then (some ((0 : Int32), σ)) else (om_ref (om_rf a0 0) 20 fun (t1o : Nat) => if (Int32.ofNat (om_al t1o)) ≤ v1 then (some ((0 : Int32), σ)) else (some ((1 : Int32), σ)))) else none
set_option maxRecDepth 100000 in
theorem c_X3_has (l : Launch) (G : om_G) {a0 : Nat} {v1 : Int32} {σ : om_S} {r : Int32} {τ : om_S} (h : f_X3_has a0 v1 σ = some (r, τ)) : om_D l G 0 yX3_has cX3_has 2 (some FieldType.boolean) 0 0 [vR (some a0), vI v1] σ om_rf om_N (some (vI r)) τ om_rf om_N := by
  refine om_Dof (lv := [(0, vR (some a0)), (1, vI v1)]) (by decide) rfl_le rfl (fun x O hE => ?_)
  change om_Ok x RX3 "has" cX3_has 2 (some FieldType.boolean) 0 0 0 at O
  unfold f_X3_has at h
  revert h; refine om_iteR (fun ka0 h => ?_)
  refine om_iload_n O 1 dX3_has_0 rfl rfl ?_
  refine om_if_lt O (tgt := 25) dX3_has_1 (by decide) (fun c1o => ?_) (fun c1o => ?_)
  · replace h := (if_pos c1o).symm.trans h
    refine om_iconst O (v := 0) dX3_has_25 (by decide) ?_
    exact om_zret (st := []) O (Or.inl rfl) (om_eI hE h) rfl dX3_has_26
  · replace h := (if_neg c1o).symm.trans h
    refine om_iload_n O 1 dX3_has_4 rfl rfl ?_
    refine om_aload_n O 0 dX3_has_5 rfl rfl ?_
    refine gf_X3_7 O ka0 (om_lt ka0 (by decide)) dX3_has_6 ?_
    refine om_icmp_ge O (tgt := 25) dX3_has_9 (by decide) (fun c2o => ?_) (fun c2o => ?_)
    · replace h := (if_pos c2o).symm.trans h
      refine om_iconst O (v := 0) dX3_has_25 (by decide) ?_
      exact om_zret (st := []) O (Or.inl rfl) (om_eI hE h) rfl dX3_has_26
    · replace h := (if_neg c2o).symm.trans h
      refine om_iload_n O 1 dX3_has_12 rfl rfl ?_
      refine om_aload_n O 0 dX3_has_13 rfl rfl ?_
      revert h; refine om_refR (fun t1o y1o k1o h => ?_)
      refine gf_X3_13 O ka0 (om_lt ka0 (by decide)) dX3_has_14 ?_
      rw [y1o]
      refine om_alen O k1o (om_lt k1o (by decide)) rfl dX3_has_17 ?_
      refine om_icmp_ge O (tgt := 25) dX3_has_18 (by decide) (fun c3o => ?_) (fun c3o => ?_)
      · replace h := (if_pos c3o).symm.trans h
        refine om_iconst O (v := 0) dX3_has_25 (by decide) ?_
        exact om_zret (st := []) O (Or.inl rfl) (om_eI hE h) rfl dX3_has_26
      · replace h := (if_neg c3o).symm.trans h
        refine om_iconst O (v := 1) dX3_has_21 (by decide) ?_
        refine om_goto O (tgt := 26) dX3_has_22 (by decide) ?_
        exact om_zret (st := []) O (Or.inr rfl) (om_eI hE h) rfl dX3_has_26
def f_X2_next  (a0 : Nat) (σ : om_S) : Option (Int32 × om_S) := if om_kc a0 = 2 then om_ref (om_rf a0 1) 3 fun (t1o : Nat) => om_call (f_X3_has t1o (σ a0 3) σ) fun (r1o : Int32) (σ1o : om_S) => if r1o = 0 then (some ((-1 : Int32), σ1o)) else (om_ref (om_rf a0 1) 3 fun (t2o : Nat) => om_call (f_X3_at t2o (σ1o a0 3) σ1o) fun (r2o : Int32) (σ2o : om_S) => some (r2o, σ2o)) else none
set_option maxRecDepth 100000 in
theorem c_X2_next (l : Launch) (G : om_G) {a0 : Nat} {σ : om_S} {r : Int32} {τ : om_S} (h : f_X2_next a0 σ = some (r, τ)) : om_D l G 1 yX2_next cX2_next 1 (some FieldType.int) 0 0 [vR (some a0)] σ om_rf om_N (some (vI r)) τ om_rf om_N := by
  refine om_Dof (lv := [(0, vR (some a0))]) (by decide) rfl_le rfl (fun x O hE => ?_)
  change om_Ok x RX2 "next" cX2_next 1 (some FieldType.int) 1 0 0 at O
  unfold f_X2_next at h
  revert h; refine om_iteR (fun ka0 h => ?_)
  refine om_aload_n O 0 dX2_next_0 rfl rfl ?_
  revert h; refine om_refR (fun t1o y1o k1o h => ?_)
  refine gf_X2_23 O ka0 (om_lt ka0 (by decide)) dX2_next_1 ?_
  rw [y1o]
  refine om_aload_n O 0 dX2_next_4 rfl rfl ?_
  refine gf_X2_31 O ka0 (om_lt ka0 (by decide)) dX2_next_5 ?_
  revert h; refine om_callR (fun r1o σ1o g1o h => ?_)
  refine cl_X2_81 O (st := []) (stk := [vI (σ a0 3), vR (some t1o)]) (st2 := [vI r1o]) [vI (σ a0 3)] (fun l G => c_X3_has l G g1o) k1o (om_lt k1o (by decide)) (by decide) rfl rfl rfl_le rfl rfl_le rfl_le dX2_next_8 ?_
  refine om_if_eq O (tgt := 28) dX2_next_11 (by decide) (fun c1o => ?_) (fun c1o => ?_)
  · replace h := (if_pos c1o).symm.trans h
    refine om_iconst O (v := -1) dX2_next_28 (by decide) ?_
    exact om_iret (st := []) O (om_eI hE h) rfl dX2_next_29
  · replace h := (if_neg c1o).symm.trans h
    refine om_aload_n O 0 dX2_next_14 rfl rfl ?_
    revert h; refine om_refR (fun t2o y2o k2o h => ?_)
    refine gf_X2_23 O ka0 (om_lt ka0 (by decide)) dX2_next_15 ?_
    rw [y2o]
    refine om_aload_n O 0 dX2_next_18 rfl rfl ?_
    refine gf_X2_31 O ka0 (om_lt ka0 (by decide)) dX2_next_19 ?_
    revert h; refine om_callR (fun r2o σ2o g2o h => ?_)
    refine cl_X2_84 O (st := []) (stk := [vI (σ1o a0 3), vR (some t2o)]) (st2 := [vI r2o]) [vI (σ1o a0 3)] (fun l G => c_X3_at l G g2o) k2o (om_lt k2o (by decide)) (by decide) rfl rfl rfl_le rfl rfl_le rfl_le dX2_next_22 ?_
    refine om_goto O (tgt := 29) dX2_next_25 (by decide) ?_
    exact om_iret (st := []) O (om_eI hE h) rfl dX2_next_29
def f_X2_isDigit  (v0 : Int32) (σ : om_S) : Option (Int32 × om_S) := if v0 < (48 : Int32) then (some ((0 : Int32), σ)) else (if (57 : Int32) < v0 then (some ((0 : Int32), σ)) else (some ((1 : Int32), σ)))
set_option maxRecDepth 100000 in
theorem c_X2_isDigit (l : Launch) (G : om_G) {v0 : Int32} {σ : om_S} {r : Int32} {τ : om_S} (h : f_X2_isDigit v0 σ = some (r, τ)) : om_D l G 0 yX2_isDigit cX2_isDigit 1 (some FieldType.boolean) 0 0 [vI v0] σ om_rf om_N (some (vI r)) τ om_rf om_N := by
  refine om_Dof (lv := [(0, vI v0)]) (by decide) rfl_le rfl (fun x O hE => ?_)
  change om_Ok x RX2 "isDigit" cX2_isDigit 1 (some FieldType.boolean) 0 0 0 at O
  unfold f_X2_isDigit at h
  refine om_iload_n O 0 dX2_isDigit_0 rfl rfl ?_
  refine om_bipush O (v := 48) dX2_isDigit_1 (by decide) ?_
  refine om_icmp_lt O (tgt := 16) dX2_isDigit_3 (by decide) (fun c1o => ?_) (fun c1o => ?_)
  · replace h := (if_pos c1o).symm.trans h
    refine om_iconst O (v := 0) dX2_isDigit_16 (by decide) ?_
    exact om_zret (st := []) O (Or.inl rfl) (om_eI hE h) rfl dX2_isDigit_17
  · replace h := (if_neg c1o).symm.trans h
    refine om_iload_n O 0 dX2_isDigit_6 rfl rfl ?_
    refine om_bipush O (v := 57) dX2_isDigit_7 (by decide) ?_
    refine om_icmp_gt O (tgt := 16) dX2_isDigit_9 (by decide) (fun c2o => ?_) (fun c2o => ?_)
    · replace h := (if_pos c2o).symm.trans h
      refine om_iconst O (v := 0) dX2_isDigit_16 (by decide) ?_
      exact om_zret (st := []) O (Or.inl rfl) (om_eI hE h) rfl dX2_isDigit_17
    · replace h := (if_neg c2o).symm.trans h
      refine om_iconst O (v := 1) dX2_isDigit_12 (by decide) ?_
      refine om_goto O (tgt := 17) dX2_isDigit_13 (by decide) ?_
      exact om_zret (st := []) O (Or.inr rfl) (om_eI hE h) rfl dX2_isDigit_17
def f_X2_readNumber_b48  (a0 : Nat) (v1 : Int32) (σ : om_S) : Option om_S := om_ref (om_rf a0 0) 5 fun (t1o : Nat) => om_ref (om_rf t1o 1) 3 fun (t2o : Nat) => om_call (f_X3_add t2o v1 σ) fun (r1o : Int32) (σ1o : om_S) => some σ1o
set_option maxRecDepth 100000 in
theorem g_X2_readNumber_b48 {x : om_X}   (O : om_Ok x RX2 "readNumber" cX2_readNumber 3 none 2 0 0)   {τ : om_S} (hE : om_End x none τ om_rf om_N 0 0)   {a0 : Nat} {v1 : Int32} {σ : om_S} (ka0 : om_kc a0 = 2) (h : f_X2_readNumber_b48 a0 v1 σ = some τ) : om_J x 48 [(0, vR (some a0)), (1, vI v1)] [] σ om_rf om_N 0 0 := by
  unfold f_X2_readNumber_b48 at h
  refine om_aload_n O 0 dX2_readNumber_48 rfl rfl ?_
  revert h; refine om_refR (fun t1o y1o k1o h => ?_)
  refine gf_X2_14 O ka0 (om_lt ka0 (by decide)) dX2_readNumber_49 ?_
  rw [y1o]
  revert h; refine om_refR (fun t2o y2o k2o h => ?_)
  refine gf_X2_60 O k1o (om_lt k1o (by decide)) dX2_readNumber_52 ?_
  rw [y2o]
  refine om_iload_n O 1 dX2_readNumber_55 rfl rfl ?_
  revert h; refine om_callR (fun r1o σ1o g1o h => ?_)
  refine cl_X2_63 O (st := []) (stk := [vI v1, vR (some t2o)]) (st2 := [vI r1o]) [vI v1] (fun l G => c_X3_add l G g1o) k2o (om_lt k2o (by decide)) (by decide) rfl rfl rfl_le rfl rfl_le rfl_le dX2_readNumber_56 ?_
  refine om_pop O rfl dX2_readNumber_59 ?_
  exact om_vret (st := []) O (om_eV hE h) rfl dX2_readNumber_60
def f_X2_readNumber_b4  : Nat → Nat → Int32 → Int32 → om_S → Option om_S
  | 0, _, _, _, _ => none
  | F + 1, a0, v1, v2, σ => if (4 : Int32) ≤ v2 then (f_X2_readNumber_b48 a0 v1 σ) else (om_call (f_X2_next a0 σ) fun (r1o : Int32) (σ1o : om_S) => om_call (f_X2_isDigit r1o σ1o) fun (r2o : Int32) (σ2o : om_S) => if r2o = 0 then (f_X2_readNumber_b48 a0 v1 σ2o) else (om_call (f_X2_next a0 σ2o) fun (r3o : Int32) (σ3o : om_S) => om_let (((v1 * (10 : Int32)) + r3o) - (48 : Int32)) fun (x1o : Int32) => om_let (om_w σ3o a0 3 ((σ3o a0 3) + (1 : Int32))) fun (σ4o : om_S) => (f_X2_readNumber_b4 F) a0 x1o (v2 + 1) σ4o))
set_option maxRecDepth 100000 in
theorem g_X2_readNumber_b4 {x : om_X}   (O : om_Ok x RX2 "readNumber" cX2_readNumber 3 none 2 0 0)   {τ : om_S} (hE : om_End x none τ om_rf om_N 0 0)   : ∀ (F : Nat) (a0 : Nat) (v1 : Int32) (v2 : Int32) (σ : om_S) (ka0 : om_kc a0 = 2), f_X2_readNumber_b4 F a0 v1 v2 σ = some τ → om_J x 4 [(0, vR (some a0)), (1, vI v1), (2, vI v2)] [] σ om_rf om_N 0 0 := by
  intro F
  induction F with
  | zero =>
    intro a0 v1 v2 σ ka0 h
    cases h
  | succ F ih =>
    intro a0 v1 v2 σ ka0 h
    unfold f_X2_readNumber_b4 at h
    refine om_iload_n O 2 dX2_readNumber_4 rfl rfl ?_
    refine om_iconst O (v := 4) dX2_readNumber_5 (by decide) ?_
    refine om_icmp_ge O (tgt := 48) dX2_readNumber_6 (by decide) (fun c1o => ?_) (fun c1o => ?_)
    · replace h := (if_pos c1o).symm.trans h
      refine om_drop (lv' := [(0, vR (some a0)), (1, vI v1)]) [0, 1] rfl ?_
      exact g_X2_readNumber_b48 O hE ka0 h
    · replace h := (if_neg c1o).symm.trans h
      refine om_aload_n O 0 dX2_readNumber_9 rfl rfl ?_
      revert h; refine om_callR (fun r1o σ1o g1o h => ?_)
      refine cl_X2_53 O (st := []) (stk := [vR (some a0)]) (st2 := [vI r1o]) [] (fun l G => c_X2_next l G g1o) ka0 (om_lt ka0 (by decide)) (by decide) rfl rfl rfl_le rfl rfl_le rfl_le dX2_readNumber_10 ?_
      revert h; refine om_callR (fun r2o σ2o g2o h => ?_)
      refine cl_X2_66 O (st := []) (stk := [vI r1o]) (st2 := [vI r2o]) [vI r1o] (fun l G => c_X2_isDigit l G g2o) (by decide) rfl rfl rfl_le rfl rfl_le rfl_le dX2_readNumber_13 ?_
      refine om_if_eq O (tgt := 48) dX2_readNumber_16 (by decide) (fun c2o => ?_) (fun c2o => ?_)
      · replace h := (if_pos c2o).symm.trans h
        refine om_drop (lv' := [(0, vR (some a0)), (1, vI v1)]) [0, 1] rfl ?_
        exact g_X2_readNumber_b48 O hE ka0 h
      · replace h := (if_neg c2o).symm.trans h
        refine om_iload_n O 1 dX2_readNumber_19 rfl rfl ?_
        refine om_bipush O (v := 10) dX2_readNumber_20 (by decide) ?_
        refine om_imul O dX2_readNumber_22 ?_
        refine om_aload_n O 0 dX2_readNumber_23 rfl rfl ?_
        revert h; refine om_callR (fun r3o σ3o g3o h => ?_)
        refine cl_X2_53 O (st := [vI (v1 * (10 : Int32))]) (stk := [vR (some a0), vI (v1 * (10 : Int32))]) (st2 := [vI r3o, vI (v1 * (10 : Int32))]) [] (fun l G => c_X2_next l G g3o) ka0 (om_lt ka0 (by decide)) (by decide) rfl rfl rfl_le rfl rfl_le rfl_le dX2_readNumber_24 ?_
        refine om_iadd O dX2_readNumber_27 ?_
        refine om_bipush O (v := 48) dX2_readNumber_28 (by decide) ?_
        refine om_isub O dX2_readNumber_30 ?_
        revert h; refine om_letR (fun x1o e1o h => ?_)
        refine om_istore_n O (lv' := [(0, vR (some a0)), (1, vI x1o), (2, vI v2)]) [1, 0, 2] e1o dX2_readNumber_31 rfl (by decide) rfl ?_
        refine om_aload_n O 0 dX2_readNumber_32 rfl rfl ?_
        refine om_dup O rfl dX2_readNumber_33 ?_
        refine gf_X2_31 O ka0 (om_lt ka0 (by decide)) dX2_readNumber_34 ?_
        refine om_iconst O (v := 1) dX2_readNumber_37 (by decide) ?_
        refine om_iadd O dX2_readNumber_38 ?_
        revert h; refine om_letR (fun σ4o e2o h => ?_)
        refine pf_X2_31 O (Or.inl rfl) ka0 (om_lt ka0 (by decide)) dX2_readNumber_39 e2o ?_
        refine om_iinc O (v1 := (v2 + 1)) (lv' := [(0, vR (some a0)), (1, vI x1o), (2, vI (v2 + 1))]) 2 [1, 2, 0] rfl dX2_readNumber_42 rfl rfl (by decide) rfl ?_
        refine om_goto O (tgt := 4) dX2_readNumber_45 (by decide) ?_
        exact ih _ _ _ _ ka0 h
def f_X2_readNumber  (a0 : Nat) (σ : om_S) : Option om_S := if om_kc a0 = 2 then f_X2_readNumber_b4 om_F a0 (0 : Int32) (0 : Int32) σ else none
set_option maxRecDepth 100000 in
theorem c_X2_readNumber (l : Launch) (G : om_G) {a0 : Nat} {σ : om_S} {τ : om_S} (h : f_X2_readNumber a0 σ = some τ) : om_D l G 2 yX2_readNumber cX2_readNumber 3 none 0 0 [vR (some a0)] σ om_rf om_N none τ om_rf om_N := by
  refine om_Dof (lv := [(0, vR (some a0))]) (by decide) rfl_le rfl (fun x O hE => ?_)
  change om_Ok x RX2 "readNumber" cX2_readNumber 3 none 2 0 0 at O
  unfold f_X2_readNumber at h
  revert h; refine om_iteR (fun ka0 h => ?_)
  refine om_iconst O (v := 0) dX2_readNumber_0 (by decide) ?_
  refine om_istore_n O (lv' := [(0, vR (some a0)), (1, vI (0 : Int32))]) [1, 0] rfl dX2_readNumber_1 rfl (by decide) rfl ?_
  refine om_iconst O (v := 0) dX2_readNumber_2 (by decide) ?_
  refine om_istore_n O (lv' := [(0, vR (some a0)), (1, vI (0 : Int32)), (2, vI (0 : Int32))]) [1, 2, 0] rfl dX2_readNumber_3 rfl (by decide) rfl ?_
  exact g_X2_readNumber_b4 O hE om_F _ _ _ _ ka0 h
def f_X2_nameOf  (a0 : Nat) (v1 : Int32) (σ : om_S) : Option (Int32 × om_S) := if om_kc a0 = 2 then if v1 = 100 then (if (σ a0 2) = (1 : Int32) then (some ((2 : Int32), σ)) else (some ((0 : Int32), σ))) else (if v1 = 107 then (if (σ a0 2) = (1 : Int32) then (some ((3 : Int32), σ)) else (some ((0 : Int32), σ))) else (if v1 = 108 then (if (σ a0 2) = 0 then (some ((1 : Int32), σ)) else (some ((0 : Int32), σ))) else (if v1 = 110 then (if (σ a0 2) = 0 then (some ((3 : Int32), σ)) else (some ((0 : Int32), σ))) else (if v1 = 111 then (if (σ a0 2) = 0 then (some ((2 : Int32), σ)) else (some ((0 : Int32), σ))) else (if v1 = 119 then (if (σ a0 2) = (1 : Int32) then (some ((1 : Int32), σ)) else (some ((0 : Int32), σ))) else (some ((0 : Int32), σ))))))) else none
set_option maxRecDepth 100000 in
theorem c_X2_nameOf (l : Launch) (G : om_G) {a0 : Nat} {v1 : Int32} {σ : om_S} {r : Int32} {τ : om_S} (h : f_X2_nameOf a0 v1 σ = some (r, τ)) : om_D l G 0 yX2_nameOf cX2_nameOf 2 (some FieldType.int) 0 0 [vR (some a0), vI v1] σ om_rf om_N (some (vI r)) τ om_rf om_N := by
  refine om_Dof (lv := [(0, vR (some a0)), (1, vI v1)]) (by decide) rfl_le rfl (fun x O hE => ?_)
  change om_Ok x RX2 "nameOf" cX2_nameOf 2 (some FieldType.int) 0 0 0 at O
  unfold f_X2_nameOf at h
  revert h; refine om_iteR (fun ka0 h => ?_)
  refine om_iload_n O 1 dX2_nameOf_0 rfl rfl ?_
  by_cases c1o : v1 = 100
  · replace h := (if_pos c1o).symm.trans h
    refine om_tblIn O (b := 100) (off := 148) (tgt := 149) dX2_nameOf_1 c1o (by decide) (by decide) (by decide +kernel) (by decide) ?_
    refine om_aload_n O 0 dX2_nameOf_149 rfl rfl ?_
    refine gf_X2_27 O ka0 (om_lt ka0 (by decide)) dX2_nameOf_150 ?_
    refine om_iconst O (v := 1) dX2_nameOf_153 (by decide) ?_
    refine om_icmp_ne O (tgt := 161) dX2_nameOf_154 (by decide) (fun c2o => ?_) (fun c2o => ?_)
    · replace h := (if_pos c2o).symm.trans h
      refine om_iconst O (v := 2) dX2_nameOf_157 (by decide) ?_
      refine om_goto O (tgt := 162) dX2_nameOf_158 (by decide) ?_
      exact om_iret (st := []) O (om_eI hE h) rfl dX2_nameOf_162
    · replace h := (if_neg c2o).symm.trans h
      refine om_iconst O (v := 0) dX2_nameOf_161 (by decide) ?_
      exact om_iret (st := []) O (om_eI hE h) rfl dX2_nameOf_162
  · replace h := (if_neg c1o).symm.trans h
    by_cases c3o : v1 = 107
    · replace h := (if_pos c3o).symm.trans h
      refine om_tblIn O (b := 107) (off := 162) (tgt := 163) dX2_nameOf_1 c3o (by decide) (by decide) (by decide +kernel) (by decide) ?_
      refine om_aload_n O 0 dX2_nameOf_163 rfl rfl ?_
      refine gf_X2_27 O ka0 (om_lt ka0 (by decide)) dX2_nameOf_164 ?_
      refine om_iconst O (v := 1) dX2_nameOf_167 (by decide) ?_
      refine om_icmp_ne O (tgt := 175) dX2_nameOf_168 (by decide) (fun c4o => ?_) (fun c4o => ?_)
      · replace h := (if_pos c4o).symm.trans h
        refine om_iconst O (v := 3) dX2_nameOf_171 (by decide) ?_
        refine om_goto O (tgt := 176) dX2_nameOf_172 (by decide) ?_
        exact om_iret (st := []) O (om_eI hE h) rfl dX2_nameOf_176
      · replace h := (if_neg c4o).symm.trans h
        refine om_iconst O (v := 0) dX2_nameOf_175 (by decide) ?_
        exact om_iret (st := []) O (om_eI hE h) rfl dX2_nameOf_176
    · replace h := (if_neg c3o).symm.trans h
      by_cases c5o : v1 = 108
      · replace h := (if_pos c5o).symm.trans h
        refine om_tblIn O (b := 108) (off := 95) (tgt := 96) dX2_nameOf_1 c5o (by decide) (by decide) (by decide +kernel) (by decide) ?_
        refine om_aload_n O 0 dX2_nameOf_96 rfl rfl ?_
        refine gf_X2_27 O ka0 (om_lt ka0 (by decide)) dX2_nameOf_97 ?_
        refine om_if_ne O (tgt := 107) dX2_nameOf_100 (by decide) (fun c6o => ?_) (fun c6o => ?_)
        · replace h := (if_pos c6o).symm.trans h
          refine om_iconst O (v := 1) dX2_nameOf_103 (by decide) ?_
          refine om_goto O (tgt := 108) dX2_nameOf_104 (by decide) ?_
          exact om_iret (st := []) O (om_eI hE h) rfl dX2_nameOf_108
        · replace h := (if_neg c6o).symm.trans h
          refine om_iconst O (v := 0) dX2_nameOf_107 (by decide) ?_
          exact om_iret (st := []) O (om_eI hE h) rfl dX2_nameOf_108
      · replace h := (if_neg c5o).symm.trans h
        by_cases c7o : v1 = 110
        · replace h := (if_pos c7o).symm.trans h
          refine om_tblIn O (b := 110) (off := 121) (tgt := 122) dX2_nameOf_1 c7o (by decide) (by decide) (by decide +kernel) (by decide) ?_
          refine om_aload_n O 0 dX2_nameOf_122 rfl rfl ?_
          refine gf_X2_27 O ka0 (om_lt ka0 (by decide)) dX2_nameOf_123 ?_
          refine om_if_ne O (tgt := 133) dX2_nameOf_126 (by decide) (fun c8o => ?_) (fun c8o => ?_)
          · replace h := (if_pos c8o).symm.trans h
            refine om_iconst O (v := 3) dX2_nameOf_129 (by decide) ?_
            refine om_goto O (tgt := 134) dX2_nameOf_130 (by decide) ?_
            exact om_iret (st := []) O (om_eI hE h) rfl dX2_nameOf_134
          · replace h := (if_neg c8o).symm.trans h
            refine om_iconst O (v := 0) dX2_nameOf_133 (by decide) ?_
            exact om_iret (st := []) O (om_eI hE h) rfl dX2_nameOf_134
        · replace h := (if_neg c7o).symm.trans h
          by_cases c9o : v1 = 111
          · replace h := (if_pos c9o).symm.trans h
            refine om_tblIn O (b := 111) (off := 108) (tgt := 109) dX2_nameOf_1 c9o (by decide) (by decide) (by decide +kernel) (by decide) ?_
            refine om_aload_n O 0 dX2_nameOf_109 rfl rfl ?_
            refine gf_X2_27 O ka0 (om_lt ka0 (by decide)) dX2_nameOf_110 ?_
            refine om_if_ne O (tgt := 120) dX2_nameOf_113 (by decide) (fun c10o => ?_) (fun c10o => ?_)
            · replace h := (if_pos c10o).symm.trans h
              refine om_iconst O (v := 2) dX2_nameOf_116 (by decide) ?_
              refine om_goto O (tgt := 121) dX2_nameOf_117 (by decide) ?_
              exact om_iret (st := []) O (om_eI hE h) rfl dX2_nameOf_121
            · replace h := (if_neg c10o).symm.trans h
              refine om_iconst O (v := 0) dX2_nameOf_120 (by decide) ?_
              exact om_iret (st := []) O (om_eI hE h) rfl dX2_nameOf_121
          · replace h := (if_neg c9o).symm.trans h
            by_cases c11o : v1 = 119
            · replace h := (if_pos c11o).symm.trans h
              refine om_tblIn O (b := 119) (off := 134) (tgt := 135) dX2_nameOf_1 c11o (by decide) (by decide) (by decide +kernel) (by decide) ?_
              refine om_aload_n O 0 dX2_nameOf_135 rfl rfl ?_
              refine gf_X2_27 O ka0 (om_lt ka0 (by decide)) dX2_nameOf_136 ?_
              refine om_iconst O (v := 1) dX2_nameOf_139 (by decide) ?_
              refine om_icmp_ne O (tgt := 147) dX2_nameOf_140 (by decide) (fun c12o => ?_) (fun c12o => ?_)
              · replace h := (if_pos c12o).symm.trans h
                refine om_iconst O (v := 1) dX2_nameOf_143 (by decide) ?_
                refine om_goto O (tgt := 148) dX2_nameOf_144 (by decide) ?_
                exact om_iret (st := []) O (om_eI hE h) rfl dX2_nameOf_148
              · replace h := (if_neg c12o).symm.trans h
                refine om_iconst O (v := 0) dX2_nameOf_147 (by decide) ?_
                exact om_iret (st := []) O (om_eI hE h) rfl dX2_nameOf_148
            · replace h := (if_neg c11o).symm.trans h
              refine om_tblDef O (tgt := 177) dX2_nameOf_1 (fun v hv h1 h2 => by
    have h3 : v = 100 ∨ v = 101 ∨ v = 102 ∨ v = 103 ∨ v = 104 ∨ v = 105 ∨ v = 106 ∨ v = 107 ∨ v = 108 ∨ v = 109 ∨ v = 110 ∨ v = 111 ∨ v = 112 ∨ v = 113 ∨ v = 114 ∨ v = 115 ∨ v = 116 ∨ v = 117 ∨ v = 118 ∨ v = 119 := by omega
    rcases h3 with rfl | rfl | rfl | rfl | rfl | rfl | rfl | rfl | rfl | rfl | rfl | rfl | rfl | rfl | rfl | rfl | rfl | rfl | rfl | rfl <;> first | rfl | exact absurd hv.symm (lv_neT (k := 100) c1o (by decide)) | exact absurd hv.symm (lv_neT (k := 107) c3o (by decide)) | exact absurd hv.symm (lv_neT (k := 108) c5o (by decide)) | exact absurd hv.symm (lv_neT (k := 110) c7o (by decide)) | exact absurd hv.symm (lv_neT (k := 111) c9o (by decide)) | exact absurd hv.symm (lv_neT (k := 119) c11o (by decide))) (by decide) ?_
              refine om_iconst O (v := 0) dX2_nameOf_177 (by decide) ?_
              exact om_iret (st := []) O (om_eI hE h) rfl dX2_nameOf_178
def f_X2_levelOf  (v0 : Int32) (σ : om_S) : Option (Int32 × om_S) := if v0 = 37 then (some ((4 : Int32), σ)) else (if v0 = 38 then (some ((1 : Int32), σ)) else (if v0 = 42 then (some ((4 : Int32), σ)) else (if v0 = 43 then (some ((3 : Int32), σ)) else (if v0 = 45 then (some ((3 : Int32), σ)) else (if v0 = 47 then (some ((4 : Int32), σ)) else (if v0 = 60 then (some ((2 : Int32), σ)) else (if v0 = 61 then (some ((2 : Int32), σ)) else (if v0 = 62 then (some ((2 : Int32), σ)) else (if v0 = 124 then (some ((0 : Int32), σ)) else (some ((-1 : Int32), σ)))))))))))
set_option maxRecDepth 100000 in
theorem c_X2_levelOf (l : Launch) (G : om_G) {v0 : Int32} {σ : om_S} {r : Int32} {τ : om_S} (h : f_X2_levelOf v0 σ = some (r, τ)) : om_D l G 0 yX2_levelOf cX2_levelOf 1 (some FieldType.int) 0 0 [vI v0] σ om_rf om_N (some (vI r)) τ om_rf om_N := by
  refine om_Dof (lv := [(0, vI v0)]) (by decide) rfl_le rfl (fun x O hE => ?_)
  change om_Ok x RX2 "levelOf" cX2_levelOf 1 (some FieldType.int) 0 0 0 at O
  unfold f_X2_levelOf at h
  refine om_iload_n O 0 dX2_levelOf_0 rfl rfl ?_
  by_cases c1o : v0 = 37
  · replace h := (if_pos c1o).symm.trans h
    refine om_lookup O (off := 99) (tgt := 100) dX2_levelOf_1 (by decide +kernel) (by rw [c1o]; decide +kernel) (by decide) ?_
    refine om_iconst O (v := 4) dX2_levelOf_100 (by decide) ?_
    exact om_iret (st := []) O (om_eI hE h) rfl dX2_levelOf_101
  · replace h := (if_neg c1o).symm.trans h
    by_cases c2o : v0 = 38
    · replace h := (if_pos c2o).symm.trans h
      refine om_lookup O (off := 93) (tgt := 94) dX2_levelOf_1 (by decide +kernel) (by rw [c2o]; decide +kernel) (by decide) ?_
      refine om_iconst O (v := 1) dX2_levelOf_94 (by decide) ?_
      exact om_iret (st := []) O (om_eI hE h) rfl dX2_levelOf_95
    · replace h := (if_neg c2o).symm.trans h
      by_cases c3o : v0 = 42
      · replace h := (if_pos c3o).symm.trans h
        refine om_lookup O (off := 99) (tgt := 100) dX2_levelOf_1 (by decide +kernel) (by rw [c3o]; decide +kernel) (by decide) ?_
        refine om_iconst O (v := 4) dX2_levelOf_100 (by decide) ?_
        exact om_iret (st := []) O (om_eI hE h) rfl dX2_levelOf_101
      · replace h := (if_neg c3o).symm.trans h
        by_cases c4o : v0 = 43
        · replace h := (if_pos c4o).symm.trans h
          refine om_lookup O (off := 97) (tgt := 98) dX2_levelOf_1 (by decide +kernel) (by rw [c4o]; decide +kernel) (by decide) ?_
          refine om_iconst O (v := 3) dX2_levelOf_98 (by decide) ?_
          exact om_iret (st := []) O (om_eI hE h) rfl dX2_levelOf_99
        · replace h := (if_neg c4o).symm.trans h
          by_cases c5o : v0 = 45
          · replace h := (if_pos c5o).symm.trans h
            refine om_lookup O (off := 97) (tgt := 98) dX2_levelOf_1 (by decide +kernel) (by rw [c5o]; decide +kernel) (by decide) ?_
            refine om_iconst O (v := 3) dX2_levelOf_98 (by decide) ?_
            exact om_iret (st := []) O (om_eI hE h) rfl dX2_levelOf_99
          · replace h := (if_neg c5o).symm.trans h
            by_cases c6o : v0 = 47
            · replace h := (if_pos c6o).symm.trans h
              refine om_lookup O (off := 99) (tgt := 100) dX2_levelOf_1 (by decide +kernel) (by rw [c6o]; decide +kernel) (by decide) ?_
              refine om_iconst O (v := 4) dX2_levelOf_100 (by decide) ?_
              exact om_iret (st := []) O (om_eI hE h) rfl dX2_levelOf_101
            · replace h := (if_neg c6o).symm.trans h
              by_cases c7o : v0 = 60
              · replace h := (if_pos c7o).symm.trans h
                refine om_lookup O (off := 95) (tgt := 96) dX2_levelOf_1 (by decide +kernel) (by rw [c7o]; decide +kernel) (by decide) ?_
                refine om_iconst O (v := 2) dX2_levelOf_96 (by decide) ?_
                exact om_iret (st := []) O (om_eI hE h) rfl dX2_levelOf_97
              · replace h := (if_neg c7o).symm.trans h
                by_cases c8o : v0 = 61
                · replace h := (if_pos c8o).symm.trans h
                  refine om_lookup O (off := 95) (tgt := 96) dX2_levelOf_1 (by decide +kernel) (by rw [c8o]; decide +kernel) (by decide) ?_
                  refine om_iconst O (v := 2) dX2_levelOf_96 (by decide) ?_
                  exact om_iret (st := []) O (om_eI hE h) rfl dX2_levelOf_97
                · replace h := (if_neg c8o).symm.trans h
                  by_cases c9o : v0 = 62
                  · replace h := (if_pos c9o).symm.trans h
                    refine om_lookup O (off := 95) (tgt := 96) dX2_levelOf_1 (by decide +kernel) (by rw [c9o]; decide +kernel) (by decide) ?_
                    refine om_iconst O (v := 2) dX2_levelOf_96 (by decide) ?_
                    exact om_iret (st := []) O (om_eI hE h) rfl dX2_levelOf_97
                  · replace h := (if_neg c9o).symm.trans h
                    by_cases c10o : v0 = 124
                    · replace h := (if_pos c10o).symm.trans h
                      refine om_lookup O (off := 91) (tgt := 92) dX2_levelOf_1 (by decide +kernel) (by rw [c10o]; decide +kernel) (by decide) ?_
                      refine om_iconst O (v := 0) dX2_levelOf_92 (by decide) ?_
                      exact om_iret (st := []) O (om_eI hE h) rfl dX2_levelOf_93
                    · replace h := (if_neg c10o).symm.trans h
                      refine om_lookup O (off := 101) (tgt := 102) dX2_levelOf_1 (by decide +kernel) ((lv_osw (k := 37) c1o (by decide)).trans ((lv_osw (k := 38) c2o (by decide)).trans ((lv_osw (k := 42) c3o (by decide)).trans ((lv_osw (k := 43) c4o (by decide)).trans ((lv_osw (k := 45) c5o (by decide)).trans ((lv_osw (k := 47) c6o (by decide)).trans ((lv_osw (k := 60) c7o (by decide)).trans ((lv_osw (k := 61) c8o (by decide)).trans ((lv_osw (k := 62) c9o (by decide)).trans ((lv_osw (k := 124) c10o (by decide)).trans rfl)))))))))) (by decide) ?_
                      refine om_iconst O (v := -1) dX2_levelOf_102 (by decide) ?_
                      exact om_iret (st := []) O (om_eI hE h) rfl dX2_levelOf_103
def f_X2_readChain_b39 (rc_readChain : Nat → Int32 → Int32 → om_S → Option (Int32 × om_S)) (rc_readUnit : Nat → Int32 → om_S → Option (Int32 × om_S)) (rc_readNot : Nat → Int32 → om_S → Option (Int32 × om_S)) (rc_readBracketed : Nat → Int32 → om_S → Option (Int32 × om_S)) : Nat → Nat → Int32 → Int32 → Int32 → Int32 → om_S → Option (Int32 × om_S)
  | 0, _, _, _, _, _, _ => none
  | F + 1, a0, v1, v2, v3, v4, σ => if v3 ≤ v4 then (some ((1 : Int32), σ)) else (om_call (f_X2_next a0 σ) fun (r1o : Int32) (σ1o : om_S) => om_call (f_X2_levelOf r1o σ1o) fun (r2o : Int32) (σ2o : om_S) => if r2o = v1 then (om_call (f_X2_next a0 σ2o) fun (r3o : Int32) (σ3o : om_S) => om_let (om_w σ3o a0 3 ((σ3o a0 3) + (1 : Int32))) fun (σ4o : om_S) => om_call (rc_readChain a0 (v1 + (1 : Int32)) v2 σ4o) fun (r4o : Int32) (σ5o : om_S) => if r4o = 0 then (some ((0 : Int32), σ5o)) else (om_ref (om_rf a0 0) 5 fun (t1o : Nat) => om_ref (om_rf t1o 1) 3 fun (t2o : Nat) => om_call (f_X3_add t2o (-r3o) σ5o) fun (r5o : Int32) (σ6o : om_S) => (f_X2_readChain_b39 rc_readChain rc_readUnit rc_readNot rc_readBracketed F) a0 v1 v2 v3 (v4 + 1) σ6o)) else (some ((1 : Int32), σ2o)))
set_option maxRecDepth 100000 in
theorem g_X2_readChain_b39 {x : om_X} {kd : Nat} {rc_readChain : Nat → Int32 → Int32 → om_S → Option (Int32 × om_S)} {rc_readUnit : Nat → Int32 → om_S → Option (Int32 × om_S)} {rc_readNot : Nat → Int32 → om_S → Option (Int32 × om_S)} {rc_readBracketed : Nat → Int32 → om_S → Option (Int32 × om_S)} (O : om_Ok x RX2 "readChain" cX2_readChain 6 (some FieldType.boolean) (kd + 1) 0 0)  (hkd : 3 ≤ kd) (H_readChain : ∀ (a0 : Nat) (v1 : Int32) (v2 : Int32) (σ : om_S) (r : Int32) (τ : om_S), rc_readChain a0 v1 v2 σ = some (r, τ) → ∀ (l : Launch) (G : om_G), om_D l G kd yX2_readChain cX2_readChain 6 (some FieldType.boolean) 0 0 [vR (some a0), vI v1, vI v2] σ om_rf om_N (some (vI r)) τ om_rf om_N) (H_readUnit : ∀ (a0 : Nat) (v1 : Int32) (σ : om_S) (r : Int32) (τ : om_S), rc_readUnit a0 v1 σ = some (r, τ) → ∀ (l : Launch) (G : om_G), om_D l G kd yX2_readUnit cX2_readUnit 4 (some FieldType.boolean) 0 0 [vR (some a0), vI v1] σ om_rf om_N (some (vI r)) τ om_rf om_N) (H_readNot : ∀ (a0 : Nat) (v1 : Int32) (σ : om_S) (r : Int32) (τ : om_S), rc_readNot a0 v1 σ = some (r, τ) → ∀ (l : Launch) (G : om_G), om_D l G kd yX2_readNot cX2_readNot 2 (some FieldType.boolean) 0 0 [vR (some a0), vI v1] σ om_rf om_N (some (vI r)) τ om_rf om_N) (H_readBracketed : ∀ (a0 : Nat) (v1 : Int32) (σ : om_S) (r : Int32) (τ : om_S), rc_readBracketed a0 v1 σ = some (r, τ) → ∀ (l : Launch) (G : om_G), om_D l G kd yX2_readBracketed cX2_readBracketed 2 (some FieldType.boolean) 0 0 [vR (some a0), vI v1] σ om_rf om_N (some (vI r)) τ om_rf om_N) {r : Int32} {τ : om_S} (hE : om_End x (some (vI r)) τ om_rf om_N 0 0)   : ∀ (F : Nat) (a0 : Nat) (v1 : Int32) (v2 : Int32) (v3 : Int32) (v4 : Int32) (σ : om_S) (ka0 : om_kc a0 = 2), f_X2_readChain_b39 rc_readChain rc_readUnit rc_readNot rc_readBracketed F a0 v1 v2 v3 v4 σ = some (r, τ) → om_J x 39 [(0, vR (some a0)), (1, vI v1), (2, vI v2), (3, vI v3), (4, vI v4)] [] σ om_rf om_N 0 0 := by
  intro F
  induction F with
  | zero =>
    intro a0 v1 v2 v3 v4 σ ka0 h
    cases h
  | succ F ih =>
    intro a0 v1 v2 v3 v4 σ ka0 h
    unfold f_X2_readChain_b39 at h
    refine om_iload O 4 dX2_readChain_39 rfl ?_
    refine om_iload_n O 3 dX2_readChain_41 rfl rfl ?_
    refine om_icmp_ge O (tgt := 105) dX2_readChain_42 (by decide) (fun c1o => ?_) (fun c1o => ?_)
    · replace h := (if_pos c1o).symm.trans h
      refine om_iconst O (v := 1) dX2_readChain_105 (by decide) ?_
      exact om_zret (st := []) O (Or.inr rfl) (om_eI hE h) rfl dX2_readChain_106
    · replace h := (if_neg c1o).symm.trans h
      refine om_aload_n O 0 dX2_readChain_45 rfl rfl ?_
      revert h; refine om_callR (fun r1o σ1o g1o h => ?_)
      refine cl_X2_53 O (st := []) (stk := [vR (some a0)]) (st2 := [vI r1o]) [] (fun l G => c_X2_next l G g1o) ka0 (om_lt ka0 (by decide)) (by omega) rfl rfl rfl_le rfl rfl_le rfl_le dX2_readChain_46 ?_
      revert h; refine om_callR (fun r2o σ2o g2o h => ?_)
      refine cl_X2_56 O (st := []) (stk := [vI r1o]) (st2 := [vI r2o]) [vI r1o] (fun l G => c_X2_levelOf l G g2o) (by omega) rfl rfl rfl_le rfl rfl_le rfl_le dX2_readChain_49 ?_
      refine om_iload_n O 1 dX2_readChain_52 rfl rfl ?_
      refine om_icmp_ne O (tgt := 105) dX2_readChain_53 (by decide) (fun c2o => ?_) (fun c2o => ?_)
      · replace h := (if_pos c2o).symm.trans h
        refine om_aload_n O 0 dX2_readChain_56 rfl rfl ?_
        revert h; refine om_callR (fun r3o σ3o g3o h => ?_)
        refine cl_X2_53 O (st := []) (stk := [vR (some a0)]) (st2 := [vI r3o]) [] (fun l G => c_X2_next l G g3o) ka0 (om_lt ka0 (by decide)) (by omega) rfl rfl rfl_le rfl rfl_le rfl_le dX2_readChain_57 ?_
        refine om_istore O (lv' := [(0, vR (some a0)), (1, vI v1), (2, vI v2), (3, vI v3), (4, vI v4), (5, vI r3o)]) [1, 2, 3, 4, 5, 0] rfl dX2_readChain_60 (by decide) rfl ?_
        refine om_aload_n O 0 dX2_readChain_62 rfl rfl ?_
        refine om_dup O rfl dX2_readChain_63 ?_
        refine gf_X2_31 O ka0 (om_lt ka0 (by decide)) dX2_readChain_64 ?_
        refine om_iconst O (v := 1) dX2_readChain_67 (by decide) ?_
        refine om_iadd O dX2_readChain_68 ?_
        revert h; refine om_letR (fun σ4o e1o h => ?_)
        refine pf_X2_31 O (Or.inl rfl) ka0 (om_lt ka0 (by decide)) dX2_readChain_69 e1o ?_
        refine om_aload_n O 0 dX2_readChain_72 rfl rfl ?_
        refine om_iload_n O 1 dX2_readChain_73 rfl rfl ?_
        refine om_iconst O (v := 1) dX2_readChain_74 (by decide) ?_
        refine om_iadd O dX2_readChain_75 ?_
        refine om_iload_n O 2 dX2_readChain_76 rfl rfl ?_
        revert h; refine om_callR (fun r4o σ5o g4o h => ?_)
        refine cl_X2_41 O (st := []) (stk := [vI v2, vI (v1 + (1 : Int32)), vR (some a0)]) (st2 := [vI r4o]) [vI (v1 + (1 : Int32)), vI v2] (H_readChain _ _ _ _ _ _ g4o) ka0 (om_lt ka0 (by decide)) (Nat.le_refl _) rfl rfl rfl_le rfl rfl_le rfl_le dX2_readChain_77 ?_
        refine om_if_ne O (tgt := 85) dX2_readChain_80 (by decide) (fun c3o => ?_) (fun c3o => ?_)
        · replace h := (if_pos c3o).symm.trans h
          refine om_iconst O (v := 0) dX2_readChain_83 (by decide) ?_
          exact om_zret (st := []) O (Or.inl rfl) (om_eI hE h) rfl dX2_readChain_84
        · replace h := (if_neg c3o).symm.trans h
          refine om_aload_n O 0 dX2_readChain_85 rfl rfl ?_
          revert h; refine om_refR (fun t1o y1o k1o h => ?_)
          refine gf_X2_14 O ka0 (om_lt ka0 (by decide)) dX2_readChain_86 ?_
          rw [y1o]
          revert h; refine om_refR (fun t2o y2o k2o h => ?_)
          refine gf_X2_60 O k1o (om_lt k1o (by decide)) dX2_readChain_89 ?_
          rw [y2o]
          refine om_iload O 5 dX2_readChain_92 rfl ?_
          refine om_ineg O dX2_readChain_94 ?_
          revert h; refine om_callR (fun r5o σ6o g5o h => ?_)
          refine cl_X2_63 O (st := []) (stk := [vI (-r3o), vR (some t2o)]) (st2 := [vI r5o]) [vI (-r3o)] (fun l G => c_X3_add l G g5o) k2o (om_lt k2o (by decide)) (by omega) rfl rfl rfl_le rfl rfl_le rfl_le dX2_readChain_95 ?_
          refine om_pop O rfl dX2_readChain_98 ?_
          refine om_iinc O (v1 := (v4 + 1)) (lv' := [(0, vR (some a0)), (1, vI v1), (2, vI v2), (3, vI v3), (4, vI (v4 + 1))]) 4 [1, 2, 3, 4, 0] rfl dX2_readChain_99 rfl rfl (by decide) rfl ?_
          refine om_goto O (tgt := 39) dX2_readChain_102 (by decide) ?_
          exact ih _ _ _ _ _ _ ka0 h
      · replace h := (if_neg c2o).symm.trans h
        refine om_iconst O (v := 1) dX2_readChain_105 (by decide) ?_
        exact om_zret (st := []) O (Or.inr rfl) (om_eI hE h) rfl dX2_readChain_106
def f_X2_readChain_b35 (rc_readChain : Nat → Int32 → Int32 → om_S → Option (Int32 × om_S)) (rc_readUnit : Nat → Int32 → om_S → Option (Int32 × om_S)) (rc_readNot : Nat → Int32 → om_S → Option (Int32 × om_S)) (rc_readBracketed : Nat → Int32 → om_S → Option (Int32 × om_S)) (a0 : Nat) (v1 : Int32) (v2 : Int32) (s0 : Int32) (σ : om_S) : Option (Int32 × om_S) := f_X2_readChain_b39 rc_readChain rc_readUnit rc_readNot rc_readBracketed om_F a0 v1 v2 s0 (0 : Int32) σ
set_option maxRecDepth 100000 in
theorem g_X2_readChain_b35 {x : om_X} {kd : Nat} {rc_readChain : Nat → Int32 → Int32 → om_S → Option (Int32 × om_S)} {rc_readUnit : Nat → Int32 → om_S → Option (Int32 × om_S)} {rc_readNot : Nat → Int32 → om_S → Option (Int32 × om_S)} {rc_readBracketed : Nat → Int32 → om_S → Option (Int32 × om_S)} (O : om_Ok x RX2 "readChain" cX2_readChain 6 (some FieldType.boolean) (kd + 1) 0 0)  (hkd : 3 ≤ kd) (H_readChain : ∀ (a0 : Nat) (v1 : Int32) (v2 : Int32) (σ : om_S) (r : Int32) (τ : om_S), rc_readChain a0 v1 v2 σ = some (r, τ) → ∀ (l : Launch) (G : om_G), om_D l G kd yX2_readChain cX2_readChain 6 (some FieldType.boolean) 0 0 [vR (some a0), vI v1, vI v2] σ om_rf om_N (some (vI r)) τ om_rf om_N) (H_readUnit : ∀ (a0 : Nat) (v1 : Int32) (σ : om_S) (r : Int32) (τ : om_S), rc_readUnit a0 v1 σ = some (r, τ) → ∀ (l : Launch) (G : om_G), om_D l G kd yX2_readUnit cX2_readUnit 4 (some FieldType.boolean) 0 0 [vR (some a0), vI v1] σ om_rf om_N (some (vI r)) τ om_rf om_N) (H_readNot : ∀ (a0 : Nat) (v1 : Int32) (σ : om_S) (r : Int32) (τ : om_S), rc_readNot a0 v1 σ = some (r, τ) → ∀ (l : Launch) (G : om_G), om_D l G kd yX2_readNot cX2_readNot 2 (some FieldType.boolean) 0 0 [vR (some a0), vI v1] σ om_rf om_N (some (vI r)) τ om_rf om_N) (H_readBracketed : ∀ (a0 : Nat) (v1 : Int32) (σ : om_S) (r : Int32) (τ : om_S), rc_readBracketed a0 v1 σ = some (r, τ) → ∀ (l : Launch) (G : om_G), om_D l G kd yX2_readBracketed cX2_readBracketed 2 (some FieldType.boolean) 0 0 [vR (some a0), vI v1] σ om_rf om_N (some (vI r)) τ om_rf om_N) {r : Int32} {τ : om_S} (hE : om_End x (some (vI r)) τ om_rf om_N 0 0)   {a0 : Nat} {v1 : Int32} {v2 : Int32} {s0 : Int32} {σ : om_S} (ka0 : om_kc a0 = 2) (h : f_X2_readChain_b35 rc_readChain rc_readUnit rc_readNot rc_readBracketed a0 v1 v2 s0 σ = some (r, τ)) : om_J x 35 [(0, vR (some a0)), (1, vI v1), (2, vI v2)] [vI s0] σ om_rf om_N 0 0 := by
  unfold f_X2_readChain_b35 at h
  refine om_istore_n O (lv' := [(0, vR (some a0)), (1, vI v1), (2, vI v2), (3, vI s0)]) [1, 2, 3, 0] rfl dX2_readChain_35 rfl (by decide) rfl ?_
  refine om_iconst O (v := 0) dX2_readChain_36 (by decide) ?_
  refine om_istore O (lv' := [(0, vR (some a0)), (1, vI v1), (2, vI v2), (3, vI s0), (4, vI (0 : Int32))]) [1, 2, 3, 4, 0] rfl dX2_readChain_37 (by decide) rfl ?_
  exact g_X2_readChain_b39 O hkd H_readChain H_readUnit H_readNot H_readBracketed hE om_F _ _ _ _ _ _ ka0 h
def fo_X2_readChain (rc_readChain : Nat → Int32 → Int32 → om_S → Option (Int32 × om_S)) (rc_readUnit : Nat → Int32 → om_S → Option (Int32 × om_S)) (rc_readNot : Nat → Int32 → om_S → Option (Int32 × om_S)) (rc_readBracketed : Nat → Int32 → om_S → Option (Int32 × om_S)) (a0 : Nat) (v1 : Int32) (v2 : Int32) (σ : om_S) : Option (Int32 × om_S) := if om_kc a0 = 2 then if v1 ≤ (4 : Int32) then (om_call (rc_readChain a0 (v1 + (1 : Int32)) v2 σ) fun (r1o : Int32) (σ1o : om_S) => if r1o = 0 then (some ((0 : Int32), σ1o)) else (if v1 = (2 : Int32) then (f_X2_readChain_b35 rc_readChain rc_readUnit rc_readNot rc_readBracketed a0 v1 v2 (1 : Int32) σ1o) else (f_X2_readChain_b35 rc_readChain rc_readUnit rc_readNot rc_readBracketed a0 v1 v2 (60 : Int32) σ1o))) else (om_call (rc_readUnit a0 v2 σ) fun (r2o : Int32) (σ2o : om_S) => if r2o = 0 ∨ r2o = 1 then some (r2o, σ2o) else none) else none
set_option maxRecDepth 100000 in
theorem co_X2_readChain {rc_readChain : Nat → Int32 → Int32 → om_S → Option (Int32 × om_S)} {rc_readUnit : Nat → Int32 → om_S → Option (Int32 × om_S)} {rc_readNot : Nat → Int32 → om_S → Option (Int32 × om_S)} {rc_readBracketed : Nat → Int32 → om_S → Option (Int32 × om_S)} {kd : Nat} (hkd : 3 ≤ kd) (H_readChain : ∀ (a0 : Nat) (v1 : Int32) (v2 : Int32) (σ : om_S) (r : Int32) (τ : om_S), rc_readChain a0 v1 v2 σ = some (r, τ) → ∀ (l : Launch) (G : om_G), om_D l G kd yX2_readChain cX2_readChain 6 (some FieldType.boolean) 0 0 [vR (some a0), vI v1, vI v2] σ om_rf om_N (some (vI r)) τ om_rf om_N) (H_readUnit : ∀ (a0 : Nat) (v1 : Int32) (σ : om_S) (r : Int32) (τ : om_S), rc_readUnit a0 v1 σ = some (r, τ) → ∀ (l : Launch) (G : om_G), om_D l G kd yX2_readUnit cX2_readUnit 4 (some FieldType.boolean) 0 0 [vR (some a0), vI v1] σ om_rf om_N (some (vI r)) τ om_rf om_N) (H_readNot : ∀ (a0 : Nat) (v1 : Int32) (σ : om_S) (r : Int32) (τ : om_S), rc_readNot a0 v1 σ = some (r, τ) → ∀ (l : Launch) (G : om_G), om_D l G kd yX2_readNot cX2_readNot 2 (some FieldType.boolean) 0 0 [vR (some a0), vI v1] σ om_rf om_N (some (vI r)) τ om_rf om_N) (H_readBracketed : ∀ (a0 : Nat) (v1 : Int32) (σ : om_S) (r : Int32) (τ : om_S), rc_readBracketed a0 v1 σ = some (r, τ) → ∀ (l : Launch) (G : om_G), om_D l G kd yX2_readBracketed cX2_readBracketed 2 (some FieldType.boolean) 0 0 [vR (some a0), vI v1] σ om_rf om_N (some (vI r)) τ om_rf om_N) (l : Launch) (G : om_G) {a0 : Nat} {v1 : Int32} {v2 : Int32} {σ : om_S} {r : Int32} {τ : om_S} (h : fo_X2_readChain rc_readChain rc_readUnit rc_readNot rc_readBracketed a0 v1 v2 σ = some (r, τ)) : om_D l G (kd + 1) yX2_readChain cX2_readChain 6 (some FieldType.boolean) 0 0 [vR (some a0), vI v1, vI v2] σ om_rf om_N (some (vI r)) τ om_rf om_N := by
  refine om_Dof (lv := [(0, vR (some a0)), (1, vI v1), (2, vI v2)]) (by decide) rfl_le rfl (fun x O hE => ?_)
  change om_Ok x RX2 "readChain" cX2_readChain 6 (some FieldType.boolean) (kd + 1) 0 0 at O
  unfold fo_X2_readChain at h
  revert h; refine om_iteR (fun ka0 h => ?_)
  refine om_iload_n O 1 dX2_readChain_0 rfl rfl ?_
  refine om_iconst O (v := 4) dX2_readChain_1 (by decide) ?_
  refine om_icmp_le O (tgt := 11) dX2_readChain_2 (by decide) (fun c1o => ?_) (fun c1o => ?_)
  · replace h := (if_pos c1o).symm.trans h
    refine om_aload_n O 0 dX2_readChain_11 rfl rfl ?_
    refine om_iload_n O 1 dX2_readChain_12 rfl rfl ?_
    refine om_iconst O (v := 1) dX2_readChain_13 (by decide) ?_
    refine om_iadd O dX2_readChain_14 ?_
    refine om_iload_n O 2 dX2_readChain_15 rfl rfl ?_
    revert h; refine om_callR (fun r1o σ1o g1o h => ?_)
    refine cl_X2_41 O (st := []) (stk := [vI v2, vI (v1 + (1 : Int32)), vR (some a0)]) (st2 := [vI r1o]) [vI (v1 + (1 : Int32)), vI v2] (H_readChain _ _ _ _ _ _ g1o) ka0 (om_lt ka0 (by decide)) (Nat.le_refl _) rfl rfl rfl_le rfl rfl_le rfl_le dX2_readChain_16 ?_
    refine om_if_ne O (tgt := 24) dX2_readChain_19 (by decide) (fun c2o => ?_) (fun c2o => ?_)
    · replace h := (if_pos c2o).symm.trans h
      refine om_iconst O (v := 0) dX2_readChain_22 (by decide) ?_
      exact om_zret (st := []) O (Or.inl rfl) (om_eI hE h) rfl dX2_readChain_23
    · replace h := (if_neg c2o).symm.trans h
      refine om_iload_n O 1 dX2_readChain_24 rfl rfl ?_
      refine om_iconst O (v := 2) dX2_readChain_25 (by decide) ?_
      refine om_icmp_ne O (tgt := 33) dX2_readChain_26 (by decide) (fun c3o => ?_) (fun c3o => ?_)
      · replace h := (if_pos c3o).symm.trans h
        refine om_iconst O (v := 1) dX2_readChain_29 (by decide) ?_
        refine om_goto O (tgt := 35) dX2_readChain_30 (by decide) ?_
        exact g_X2_readChain_b35 O hkd H_readChain H_readUnit H_readNot H_readBracketed hE ka0 h
      · replace h := (if_neg c3o).symm.trans h
        refine om_bipush O (v := 60) dX2_readChain_33 (by decide) ?_
        exact g_X2_readChain_b35 O hkd H_readChain H_readUnit H_readNot H_readBracketed hE ka0 h
  · replace h := (if_neg c1o).symm.trans h
    refine om_aload_n O 0 dX2_readChain_5 rfl rfl ?_
    refine om_iload_n O 2 dX2_readChain_6 rfl rfl ?_
    revert h; refine om_callR (fun r2o σ2o g2o h => ?_)
    refine cl_X2_49 O (st := []) (stk := [vI v2, vR (some a0)]) (st2 := [vI r2o]) [vI v2] (H_readUnit _ _ _ _ _ g2o) ka0 (om_lt ka0 (by decide)) (Nat.le_refl _) rfl rfl rfl_le rfl rfl_le rfl_le dX2_readChain_7 ?_
    revert h; refine om_iteR (fun z1o h => ?_)
    exact om_zret (st := []) O z1o (om_eI hE h) rfl dX2_readChain_10
def f_X2_readUnit_b65 (rc_readChain : Nat → Int32 → Int32 → om_S → Option (Int32 × om_S)) (rc_readUnit : Nat → Int32 → om_S → Option (Int32 × om_S)) (rc_readNot : Nat → Int32 → om_S → Option (Int32 × om_S)) (rc_readBracketed : Nat → Int32 → om_S → Option (Int32 × om_S)) (a0 : Nat) (v1 : Int32) (v2 : Int32) (σ : om_S) : Option (Int32 × om_S) := if v1 < (5 : Int32) then (om_let (om_w σ a0 3 ((σ a0 3) + (1 : Int32))) fun (σ1o : om_S) => if v2 = (33 : Int32) then (om_call (rc_readNot a0 (v1 + (1 : Int32)) σ1o) fun (r1o : Int32) (σ2o : om_S) => if r1o = 0 ∨ r1o = 1 then some (r1o, σ2o) else none) else (om_call (rc_readBracketed a0 (v1 + (1 : Int32)) σ1o) fun (r2o : Int32) (σ3o : om_S) => if r2o = 0 ∨ r2o = 1 then some (r2o, σ3o) else none)) else (some ((0 : Int32), σ))
set_option maxRecDepth 100000 in
theorem g_X2_readUnit_b65 {x : om_X} {kd : Nat} {rc_readChain : Nat → Int32 → Int32 → om_S → Option (Int32 × om_S)} {rc_readUnit : Nat → Int32 → om_S → Option (Int32 × om_S)} {rc_readNot : Nat → Int32 → om_S → Option (Int32 × om_S)} {rc_readBracketed : Nat → Int32 → om_S → Option (Int32 × om_S)} (O : om_Ok x RX2 "readUnit" cX2_readUnit 4 (some FieldType.boolean) (kd + 1) 0 0)  (hkd : 3 ≤ kd) (H_readChain : ∀ (a0 : Nat) (v1 : Int32) (v2 : Int32) (σ : om_S) (r : Int32) (τ : om_S), rc_readChain a0 v1 v2 σ = some (r, τ) → ∀ (l : Launch) (G : om_G), om_D l G kd yX2_readChain cX2_readChain 6 (some FieldType.boolean) 0 0 [vR (some a0), vI v1, vI v2] σ om_rf om_N (some (vI r)) τ om_rf om_N) (H_readUnit : ∀ (a0 : Nat) (v1 : Int32) (σ : om_S) (r : Int32) (τ : om_S), rc_readUnit a0 v1 σ = some (r, τ) → ∀ (l : Launch) (G : om_G), om_D l G kd yX2_readUnit cX2_readUnit 4 (some FieldType.boolean) 0 0 [vR (some a0), vI v1] σ om_rf om_N (some (vI r)) τ om_rf om_N) (H_readNot : ∀ (a0 : Nat) (v1 : Int32) (σ : om_S) (r : Int32) (τ : om_S), rc_readNot a0 v1 σ = some (r, τ) → ∀ (l : Launch) (G : om_G), om_D l G kd yX2_readNot cX2_readNot 2 (some FieldType.boolean) 0 0 [vR (some a0), vI v1] σ om_rf om_N (some (vI r)) τ om_rf om_N) (H_readBracketed : ∀ (a0 : Nat) (v1 : Int32) (σ : om_S) (r : Int32) (τ : om_S), rc_readBracketed a0 v1 σ = some (r, τ) → ∀ (l : Launch) (G : om_G), om_D l G kd yX2_readBracketed cX2_readBracketed 2 (some FieldType.boolean) 0 0 [vR (some a0), vI v1] σ om_rf om_N (some (vI r)) τ om_rf om_N) {r : Int32} {τ : om_S} (hE : om_End x (some (vI r)) τ om_rf om_N 0 0)   {a0 : Nat} {v1 : Int32} {v2 : Int32} {σ : om_S} (ka0 : om_kc a0 = 2) (h : f_X2_readUnit_b65 rc_readChain rc_readUnit rc_readNot rc_readBracketed a0 v1 v2 σ = some (r, τ)) : om_J x 65 [(0, vR (some a0)), (1, vI v1), (2, vI v2)] [] σ om_rf om_N 0 0 := by
  unfold f_X2_readUnit_b65 at h
  refine om_iload_n O 1 dX2_readUnit_65 rfl rfl ?_
  refine om_iconst O (v := 5) dX2_readUnit_66 (by decide) ?_
  refine om_icmp_lt O (tgt := 72) dX2_readUnit_67 (by decide) (fun c1o => ?_) (fun c1o => ?_)
  · replace h := (if_pos c1o).symm.trans h
    refine om_aload_n O 0 dX2_readUnit_72 rfl rfl ?_
    refine om_dup O rfl dX2_readUnit_73 ?_
    refine gf_X2_31 O ka0 (om_lt ka0 (by decide)) dX2_readUnit_74 ?_
    refine om_iconst O (v := 1) dX2_readUnit_77 (by decide) ?_
    refine om_iadd O dX2_readUnit_78 ?_
    revert h; refine om_letR (fun σ1o e1o h => ?_)
    refine pf_X2_31 O (Or.inl rfl) ka0 (om_lt ka0 (by decide)) dX2_readUnit_79 e1o ?_
    refine om_iload_n O 2 dX2_readUnit_82 rfl rfl ?_
    refine om_bipush O (v := 33) dX2_readUnit_83 (by decide) ?_
    refine om_icmp_ne O (tgt := 98) dX2_readUnit_85 (by decide) (fun c2o => ?_) (fun c2o => ?_)
    · replace h := (if_pos c2o).symm.trans h
      refine om_aload_n O 0 dX2_readUnit_88 rfl rfl ?_
      refine om_iload_n O 1 dX2_readUnit_89 rfl rfl ?_
      refine om_iconst O (v := 1) dX2_readUnit_90 (by decide) ?_
      refine om_iadd O dX2_readUnit_91 ?_
      revert h; refine om_callR (fun r1o σ2o g1o h => ?_)
      refine cl_X2_75 O (st := []) (stk := [vI (v1 + (1 : Int32)), vR (some a0)]) (st2 := [vI r1o]) [vI (v1 + (1 : Int32))] (H_readNot _ _ _ _ _ g1o) ka0 (om_lt ka0 (by decide)) (Nat.le_refl _) rfl rfl rfl_le rfl rfl_le rfl_le dX2_readUnit_92 ?_
      refine om_goto O (tgt := 105) dX2_readUnit_95 (by decide) ?_
      revert h; refine om_iteR (fun z1o h => ?_)
      exact om_zret (st := []) O z1o (om_eI hE h) rfl dX2_readUnit_105
    · replace h := (if_neg c2o).symm.trans h
      refine om_aload_n O 0 dX2_readUnit_98 rfl rfl ?_
      refine om_iload_n O 1 dX2_readUnit_99 rfl rfl ?_
      refine om_iconst O (v := 1) dX2_readUnit_100 (by decide) ?_
      refine om_iadd O dX2_readUnit_101 ?_
      revert h; refine om_callR (fun r2o σ3o g2o h => ?_)
      refine cl_X2_78 O (st := []) (stk := [vI (v1 + (1 : Int32)), vR (some a0)]) (st2 := [vI r2o]) [vI (v1 + (1 : Int32))] (H_readBracketed _ _ _ _ _ g2o) ka0 (om_lt ka0 (by decide)) (Nat.le_refl _) rfl rfl rfl_le rfl rfl_le rfl_le dX2_readUnit_102 ?_
      revert h; refine om_iteR (fun z2o h => ?_)
      exact om_zret (st := []) O z2o (om_eI hE h) rfl dX2_readUnit_105
  · replace h := (if_neg c1o).symm.trans h
    refine om_iconst O (v := 0) dX2_readUnit_70 (by decide) ?_
    exact om_zret (st := []) O (Or.inl rfl) (om_eI hE h) rfl dX2_readUnit_71
def fo_X2_readUnit (rc_readChain : Nat → Int32 → Int32 → om_S → Option (Int32 × om_S)) (rc_readUnit : Nat → Int32 → om_S → Option (Int32 × om_S)) (rc_readNot : Nat → Int32 → om_S → Option (Int32 × om_S)) (rc_readBracketed : Nat → Int32 → om_S → Option (Int32 × om_S)) (a0 : Nat) (v1 : Int32) (σ : om_S) : Option (Int32 × om_S) := if om_kc a0 = 2 then om_call (f_X2_next a0 σ) fun (r1o : Int32) (σ1o : om_S) => om_call (f_X2_isDigit r1o σ1o) fun (r2o : Int32) (σ2o : om_S) => if r2o = 0 then (om_call (f_X2_nameOf a0 r1o σ2o) fun (r3o : Int32) (σ3o : om_S) => if r3o = 0 then (if r1o = (33 : Int32) then (f_X2_readUnit_b65 rc_readChain rc_readUnit rc_readNot rc_readBracketed a0 v1 r1o σ3o) else (if r1o = (40 : Int32) then (f_X2_readUnit_b65 rc_readChain rc_readUnit rc_readNot rc_readBracketed a0 v1 r1o σ3o) else (some ((0 : Int32), σ3o)))) else (om_let (om_w σ3o a0 3 ((σ3o a0 3) + (1 : Int32))) fun (σ4o : om_S) => om_ref (om_rf a0 0) 5 fun (t1o : Nat) => om_ref (om_rf t1o 1) 3 fun (t2o : Nat) => om_call (f_X3_add t2o (-r3o) σ4o) fun (r4o : Int32) (σ5o : om_S) => some ((1 : Int32), σ5o))) else (om_do (f_X2_readNumber a0 σ2o) fun (σ6o : om_S) => some ((1 : Int32), σ6o)) else none
set_option maxRecDepth 100000 in
theorem co_X2_readUnit {rc_readChain : Nat → Int32 → Int32 → om_S → Option (Int32 × om_S)} {rc_readUnit : Nat → Int32 → om_S → Option (Int32 × om_S)} {rc_readNot : Nat → Int32 → om_S → Option (Int32 × om_S)} {rc_readBracketed : Nat → Int32 → om_S → Option (Int32 × om_S)} {kd : Nat} (hkd : 3 ≤ kd) (H_readChain : ∀ (a0 : Nat) (v1 : Int32) (v2 : Int32) (σ : om_S) (r : Int32) (τ : om_S), rc_readChain a0 v1 v2 σ = some (r, τ) → ∀ (l : Launch) (G : om_G), om_D l G kd yX2_readChain cX2_readChain 6 (some FieldType.boolean) 0 0 [vR (some a0), vI v1, vI v2] σ om_rf om_N (some (vI r)) τ om_rf om_N) (H_readUnit : ∀ (a0 : Nat) (v1 : Int32) (σ : om_S) (r : Int32) (τ : om_S), rc_readUnit a0 v1 σ = some (r, τ) → ∀ (l : Launch) (G : om_G), om_D l G kd yX2_readUnit cX2_readUnit 4 (some FieldType.boolean) 0 0 [vR (some a0), vI v1] σ om_rf om_N (some (vI r)) τ om_rf om_N) (H_readNot : ∀ (a0 : Nat) (v1 : Int32) (σ : om_S) (r : Int32) (τ : om_S), rc_readNot a0 v1 σ = some (r, τ) → ∀ (l : Launch) (G : om_G), om_D l G kd yX2_readNot cX2_readNot 2 (some FieldType.boolean) 0 0 [vR (some a0), vI v1] σ om_rf om_N (some (vI r)) τ om_rf om_N) (H_readBracketed : ∀ (a0 : Nat) (v1 : Int32) (σ : om_S) (r : Int32) (τ : om_S), rc_readBracketed a0 v1 σ = some (r, τ) → ∀ (l : Launch) (G : om_G), om_D l G kd yX2_readBracketed cX2_readBracketed 2 (some FieldType.boolean) 0 0 [vR (some a0), vI v1] σ om_rf om_N (some (vI r)) τ om_rf om_N) (l : Launch) (G : om_G) {a0 : Nat} {v1 : Int32} {σ : om_S} {r : Int32} {τ : om_S} (h : fo_X2_readUnit rc_readChain rc_readUnit rc_readNot rc_readBracketed a0 v1 σ = some (r, τ)) : om_D l G (kd + 1) yX2_readUnit cX2_readUnit 4 (some FieldType.boolean) 0 0 [vR (some a0), vI v1] σ om_rf om_N (some (vI r)) τ om_rf om_N := by
  refine om_Dof (lv := [(0, vR (some a0)), (1, vI v1)]) (by decide) rfl_le rfl (fun x O hE => ?_)
  change om_Ok x RX2 "readUnit" cX2_readUnit 4 (some FieldType.boolean) (kd + 1) 0 0 at O
  unfold fo_X2_readUnit at h
  revert h; refine om_iteR (fun ka0 h => ?_)
  refine om_aload_n O 0 dX2_readUnit_0 rfl rfl ?_
  revert h; refine om_callR (fun r1o σ1o g1o h => ?_)
  refine cl_X2_53 O (st := []) (stk := [vR (some a0)]) (st2 := [vI r1o]) [] (fun l G => c_X2_next l G g1o) ka0 (om_lt ka0 (by decide)) (by omega) rfl rfl rfl_le rfl rfl_le rfl_le dX2_readUnit_1 ?_
  refine om_istore_n O (lv' := [(0, vR (some a0)), (1, vI v1), (2, vI r1o)]) [1, 2, 0] rfl dX2_readUnit_4 rfl (by decide) rfl ?_
  refine om_iload_n O 2 dX2_readUnit_5 rfl rfl ?_
  revert h; refine om_callR (fun r2o σ2o g2o h => ?_)
  refine cl_X2_66 O (st := []) (stk := [vI r1o]) (st2 := [vI r2o]) [vI r1o] (fun l G => c_X2_isDigit l G g2o) (by omega) rfl rfl rfl_le rfl rfl_le rfl_le dX2_readUnit_6 ?_
  refine om_if_eq O (tgt := 18) dX2_readUnit_9 (by decide) (fun c1o => ?_) (fun c1o => ?_)
  · replace h := (if_pos c1o).symm.trans h
    refine om_aload_n O 0 dX2_readUnit_18 rfl rfl ?_
    refine om_iload_n O 2 dX2_readUnit_19 rfl rfl ?_
    revert h; refine om_callR (fun r3o σ3o g3o h => ?_)
    refine cl_X2_72 O (st := []) (stk := [vI r1o, vR (some a0)]) (st2 := [vI r3o]) [vI r1o] (fun l G => c_X2_nameOf l G g3o) ka0 (om_lt ka0 (by decide)) (by omega) rfl rfl rfl_le rfl rfl_le rfl_le dX2_readUnit_20 ?_
    refine om_istore_n O (lv' := [(0, vR (some a0)), (1, vI v1), (2, vI r1o), (3, vI r3o)]) [1, 2, 3, 0] rfl dX2_readUnit_23 rfl (by decide) rfl ?_
    refine om_iload_n O 3 dX2_readUnit_24 rfl rfl ?_
    refine om_if_eq O (tgt := 53) dX2_readUnit_25 (by decide) (fun c2o => ?_) (fun c2o => ?_)
    · replace h := (if_pos c2o).symm.trans h
      refine om_iload_n O 2 dX2_readUnit_53 rfl rfl ?_
      refine om_bipush O (v := 33) dX2_readUnit_54 (by decide) ?_
      refine om_icmp_eq O (tgt := 65) dX2_readUnit_56 (by decide) (fun c3o => ?_) (fun c3o => ?_)
      · replace h := (if_pos c3o).symm.trans h
        refine om_drop (lv' := [(0, vR (some a0)), (1, vI v1), (2, vI r1o)]) [0, 1, 2] rfl ?_
        exact g_X2_readUnit_b65 O hkd H_readChain H_readUnit H_readNot H_readBracketed hE ka0 h
      · replace h := (if_neg c3o).symm.trans h
        refine om_iload_n O 2 dX2_readUnit_59 rfl rfl ?_
        refine om_bipush O (v := 40) dX2_readUnit_60 (by decide) ?_
        refine om_icmp_ne O (tgt := 70) dX2_readUnit_62 (by decide) (fun c4o => ?_) (fun c4o => ?_)
        · replace h := (if_pos c4o).symm.trans h
          refine om_drop (lv' := [(0, vR (some a0)), (1, vI v1), (2, vI r1o)]) [0, 1, 2] rfl ?_
          exact g_X2_readUnit_b65 O hkd H_readChain H_readUnit H_readNot H_readBracketed hE ka0 h
        · replace h := (if_neg c4o).symm.trans h
          refine om_iconst O (v := 0) dX2_readUnit_70 (by decide) ?_
          exact om_zret (st := []) O (Or.inl rfl) (om_eI hE h) rfl dX2_readUnit_71
    · replace h := (if_neg c2o).symm.trans h
      refine om_aload_n O 0 dX2_readUnit_28 rfl rfl ?_
      refine om_dup O rfl dX2_readUnit_29 ?_
      refine gf_X2_31 O ka0 (om_lt ka0 (by decide)) dX2_readUnit_30 ?_
      refine om_iconst O (v := 1) dX2_readUnit_33 (by decide) ?_
      refine om_iadd O dX2_readUnit_34 ?_
      revert h; refine om_letR (fun σ4o e1o h => ?_)
      refine pf_X2_31 O (Or.inl rfl) ka0 (om_lt ka0 (by decide)) dX2_readUnit_35 e1o ?_
      refine om_aload_n O 0 dX2_readUnit_38 rfl rfl ?_
      revert h; refine om_refR (fun t1o y1o k1o h => ?_)
      refine gf_X2_14 O ka0 (om_lt ka0 (by decide)) dX2_readUnit_39 ?_
      rw [y1o]
      revert h; refine om_refR (fun t2o y2o k2o h => ?_)
      refine gf_X2_60 O k1o (om_lt k1o (by decide)) dX2_readUnit_42 ?_
      rw [y2o]
      refine om_iload_n O 3 dX2_readUnit_45 rfl rfl ?_
      refine om_ineg O dX2_readUnit_46 ?_
      revert h; refine om_callR (fun r4o σ5o g4o h => ?_)
      refine cl_X2_63 O (st := []) (stk := [vI (-r3o), vR (some t2o)]) (st2 := [vI r4o]) [vI (-r3o)] (fun l G => c_X3_add l G g4o) k2o (om_lt k2o (by decide)) (by omega) rfl rfl rfl_le rfl rfl_le rfl_le dX2_readUnit_47 ?_
      refine om_pop O rfl dX2_readUnit_50 ?_
      refine om_iconst O (v := 1) dX2_readUnit_51 (by decide) ?_
      exact om_zret (st := []) O (Or.inr rfl) (om_eI hE h) rfl dX2_readUnit_52
  · replace h := (if_neg c1o).symm.trans h
    refine om_aload_n O 0 dX2_readUnit_12 rfl rfl ?_
    revert h; refine om_doR (fun σ6o g5o h => ?_)
    refine cl_X2_69 O (st := []) (stk := [vR (some a0)]) (st2 := []) [] (fun l G => c_X2_readNumber l G g5o) ka0 (om_lt ka0 (by decide)) (by omega) rfl rfl rfl_le rfl rfl_le rfl_le dX2_readUnit_13 ?_
    refine om_iconst O (v := 1) dX2_readUnit_16 (by decide) ?_
    exact om_zret (st := []) O (Or.inr rfl) (om_eI hE h) rfl dX2_readUnit_17
def fo_X2_readNot (rc_readChain : Nat → Int32 → Int32 → om_S → Option (Int32 × om_S)) (rc_readUnit : Nat → Int32 → om_S → Option (Int32 × om_S)) (rc_readNot : Nat → Int32 → om_S → Option (Int32 × om_S)) (rc_readBracketed : Nat → Int32 → om_S → Option (Int32 × om_S)) (a0 : Nat) (v1 : Int32) (σ : om_S) : Option (Int32 × om_S) := if om_kc a0 = 2 then om_call (rc_readUnit a0 v1 σ) fun (r1o : Int32) (σ1o : om_S) => if r1o = 0 then (some ((0 : Int32), σ1o)) else (om_ref (om_rf a0 0) 5 fun (t1o : Nat) => om_ref (om_rf t1o 1) 3 fun (t2o : Nat) => om_call (f_X3_add t2o (-33 : Int32) σ1o) fun (r2o : Int32) (σ2o : om_S) => some ((1 : Int32), σ2o)) else none
set_option maxRecDepth 100000 in
theorem co_X2_readNot {rc_readChain : Nat → Int32 → Int32 → om_S → Option (Int32 × om_S)} {rc_readUnit : Nat → Int32 → om_S → Option (Int32 × om_S)} {rc_readNot : Nat → Int32 → om_S → Option (Int32 × om_S)} {rc_readBracketed : Nat → Int32 → om_S → Option (Int32 × om_S)} {kd : Nat} (hkd : 3 ≤ kd) (H_readChain : ∀ (a0 : Nat) (v1 : Int32) (v2 : Int32) (σ : om_S) (r : Int32) (τ : om_S), rc_readChain a0 v1 v2 σ = some (r, τ) → ∀ (l : Launch) (G : om_G), om_D l G kd yX2_readChain cX2_readChain 6 (some FieldType.boolean) 0 0 [vR (some a0), vI v1, vI v2] σ om_rf om_N (some (vI r)) τ om_rf om_N) (H_readUnit : ∀ (a0 : Nat) (v1 : Int32) (σ : om_S) (r : Int32) (τ : om_S), rc_readUnit a0 v1 σ = some (r, τ) → ∀ (l : Launch) (G : om_G), om_D l G kd yX2_readUnit cX2_readUnit 4 (some FieldType.boolean) 0 0 [vR (some a0), vI v1] σ om_rf om_N (some (vI r)) τ om_rf om_N) (H_readNot : ∀ (a0 : Nat) (v1 : Int32) (σ : om_S) (r : Int32) (τ : om_S), rc_readNot a0 v1 σ = some (r, τ) → ∀ (l : Launch) (G : om_G), om_D l G kd yX2_readNot cX2_readNot 2 (some FieldType.boolean) 0 0 [vR (some a0), vI v1] σ om_rf om_N (some (vI r)) τ om_rf om_N) (H_readBracketed : ∀ (a0 : Nat) (v1 : Int32) (σ : om_S) (r : Int32) (τ : om_S), rc_readBracketed a0 v1 σ = some (r, τ) → ∀ (l : Launch) (G : om_G), om_D l G kd yX2_readBracketed cX2_readBracketed 2 (some FieldType.boolean) 0 0 [vR (some a0), vI v1] σ om_rf om_N (some (vI r)) τ om_rf om_N) (l : Launch) (G : om_G) {a0 : Nat} {v1 : Int32} {σ : om_S} {r : Int32} {τ : om_S} (h : fo_X2_readNot rc_readChain rc_readUnit rc_readNot rc_readBracketed a0 v1 σ = some (r, τ)) : om_D l G (kd + 1) yX2_readNot cX2_readNot 2 (some FieldType.boolean) 0 0 [vR (some a0), vI v1] σ om_rf om_N (some (vI r)) τ om_rf om_N := by
  refine om_Dof (lv := [(0, vR (some a0)), (1, vI v1)]) (by decide) rfl_le rfl (fun x O hE => ?_)
  change om_Ok x RX2 "readNot" cX2_readNot 2 (some FieldType.boolean) (kd + 1) 0 0 at O
  unfold fo_X2_readNot at h
  revert h; refine om_iteR (fun ka0 h => ?_)
  refine om_aload_n O 0 dX2_readNot_0 rfl rfl ?_
  refine om_iload_n O 1 dX2_readNot_1 rfl rfl ?_
  revert h; refine om_callR (fun r1o σ1o g1o h => ?_)
  refine cl_X2_49 O (st := []) (stk := [vI v1, vR (some a0)]) (st2 := [vI r1o]) [vI v1] (H_readUnit _ _ _ _ _ g1o) ka0 (om_lt ka0 (by decide)) (Nat.le_refl _) rfl rfl rfl_le rfl rfl_le rfl_le dX2_readNot_2 ?_
  refine om_if_ne O (tgt := 10) dX2_readNot_5 (by decide) (fun c1o => ?_) (fun c1o => ?_)
  · replace h := (if_pos c1o).symm.trans h
    refine om_iconst O (v := 0) dX2_readNot_8 (by decide) ?_
    exact om_zret (st := []) O (Or.inl rfl) (om_eI hE h) rfl dX2_readNot_9
  · replace h := (if_neg c1o).symm.trans h
    refine om_aload_n O 0 dX2_readNot_10 rfl rfl ?_
    revert h; refine om_refR (fun t1o y1o k1o h => ?_)
    refine gf_X2_14 O ka0 (om_lt ka0 (by decide)) dX2_readNot_11 ?_
    rw [y1o]
    revert h; refine om_refR (fun t2o y2o k2o h => ?_)
    refine gf_X2_60 O k1o (om_lt k1o (by decide)) dX2_readNot_14 ?_
    rw [y2o]
    refine om_bipush O (v := -33) dX2_readNot_17 (by decide) ?_
    revert h; refine om_callR (fun r2o σ2o g2o h => ?_)
    refine cl_X2_63 O (st := []) (stk := [vI (-33 : Int32), vR (some t2o)]) (st2 := [vI r2o]) [vI (-33 : Int32)] (fun l G => c_X3_add l G g2o) k2o (om_lt k2o (by decide)) (by omega) rfl rfl rfl_le rfl rfl_le rfl_le dX2_readNot_19 ?_
    refine om_pop O rfl dX2_readNot_22 ?_
    refine om_iconst O (v := 1) dX2_readNot_23 (by decide) ?_
    exact om_zret (st := []) O (Or.inr rfl) (om_eI hE h) rfl dX2_readNot_24
def fo_X2_readBracketed (rc_readChain : Nat → Int32 → Int32 → om_S → Option (Int32 × om_S)) (rc_readUnit : Nat → Int32 → om_S → Option (Int32 × om_S)) (rc_readNot : Nat → Int32 → om_S → Option (Int32 × om_S)) (rc_readBracketed : Nat → Int32 → om_S → Option (Int32 × om_S)) (a0 : Nat) (v1 : Int32) (σ : om_S) : Option (Int32 × om_S) := if om_kc a0 = 2 then om_call (rc_readChain a0 (0 : Int32) v1 σ) fun (r1o : Int32) (σ1o : om_S) => if r1o = 0 then (some ((0 : Int32), σ1o)) else (om_call (f_X2_next a0 σ1o) fun (r2o : Int32) (σ2o : om_S) => if r2o = (41 : Int32) then (om_let (om_w σ2o a0 3 ((σ2o a0 3) + (1 : Int32))) fun (σ3o : om_S) => some ((1 : Int32), σ3o)) else (some ((0 : Int32), σ2o))) else none
set_option maxRecDepth 100000 in
theorem co_X2_readBracketed {rc_readChain : Nat → Int32 → Int32 → om_S → Option (Int32 × om_S)} {rc_readUnit : Nat → Int32 → om_S → Option (Int32 × om_S)} {rc_readNot : Nat → Int32 → om_S → Option (Int32 × om_S)} {rc_readBracketed : Nat → Int32 → om_S → Option (Int32 × om_S)} {kd : Nat} (hkd : 3 ≤ kd) (H_readChain : ∀ (a0 : Nat) (v1 : Int32) (v2 : Int32) (σ : om_S) (r : Int32) (τ : om_S), rc_readChain a0 v1 v2 σ = some (r, τ) → ∀ (l : Launch) (G : om_G), om_D l G kd yX2_readChain cX2_readChain 6 (some FieldType.boolean) 0 0 [vR (some a0), vI v1, vI v2] σ om_rf om_N (some (vI r)) τ om_rf om_N) (H_readUnit : ∀ (a0 : Nat) (v1 : Int32) (σ : om_S) (r : Int32) (τ : om_S), rc_readUnit a0 v1 σ = some (r, τ) → ∀ (l : Launch) (G : om_G), om_D l G kd yX2_readUnit cX2_readUnit 4 (some FieldType.boolean) 0 0 [vR (some a0), vI v1] σ om_rf om_N (some (vI r)) τ om_rf om_N) (H_readNot : ∀ (a0 : Nat) (v1 : Int32) (σ : om_S) (r : Int32) (τ : om_S), rc_readNot a0 v1 σ = some (r, τ) → ∀ (l : Launch) (G : om_G), om_D l G kd yX2_readNot cX2_readNot 2 (some FieldType.boolean) 0 0 [vR (some a0), vI v1] σ om_rf om_N (some (vI r)) τ om_rf om_N) (H_readBracketed : ∀ (a0 : Nat) (v1 : Int32) (σ : om_S) (r : Int32) (τ : om_S), rc_readBracketed a0 v1 σ = some (r, τ) → ∀ (l : Launch) (G : om_G), om_D l G kd yX2_readBracketed cX2_readBracketed 2 (some FieldType.boolean) 0 0 [vR (some a0), vI v1] σ om_rf om_N (some (vI r)) τ om_rf om_N) (l : Launch) (G : om_G) {a0 : Nat} {v1 : Int32} {σ : om_S} {r : Int32} {τ : om_S} (h : fo_X2_readBracketed rc_readChain rc_readUnit rc_readNot rc_readBracketed a0 v1 σ = some (r, τ)) : om_D l G (kd + 1) yX2_readBracketed cX2_readBracketed 2 (some FieldType.boolean) 0 0 [vR (some a0), vI v1] σ om_rf om_N (some (vI r)) τ om_rf om_N := by
  refine om_Dof (lv := [(0, vR (some a0)), (1, vI v1)]) (by decide) rfl_le rfl (fun x O hE => ?_)
  change om_Ok x RX2 "readBracketed" cX2_readBracketed 2 (some FieldType.boolean) (kd + 1) 0 0 at O
  unfold fo_X2_readBracketed at h
  revert h; refine om_iteR (fun ka0 h => ?_)
  refine om_aload_n O 0 dX2_readBracketed_0 rfl rfl ?_
  refine om_iconst O (v := 0) dX2_readBracketed_1 (by decide) ?_
  refine om_iload_n O 1 dX2_readBracketed_2 rfl rfl ?_
  revert h; refine om_callR (fun r1o σ1o g1o h => ?_)
  refine cl_X2_41 O (st := []) (stk := [vI v1, vI (0 : Int32), vR (some a0)]) (st2 := [vI r1o]) [vI (0 : Int32), vI v1] (H_readChain _ _ _ _ _ _ g1o) ka0 (om_lt ka0 (by decide)) (Nat.le_refl _) rfl rfl rfl_le rfl rfl_le rfl_le dX2_readBracketed_3 ?_
  refine om_if_eq O (tgt := 18) dX2_readBracketed_6 (by decide) (fun c1o => ?_) (fun c1o => ?_)
  · replace h := (if_pos c1o).symm.trans h
    refine om_iconst O (v := 0) dX2_readBracketed_18 (by decide) ?_
    exact om_zret (st := []) O (Or.inl rfl) (om_eI hE h) rfl dX2_readBracketed_19
  · replace h := (if_neg c1o).symm.trans h
    refine om_aload_n O 0 dX2_readBracketed_9 rfl rfl ?_
    revert h; refine om_callR (fun r2o σ2o g2o h => ?_)
    refine cl_X2_53 O (st := []) (stk := [vR (some a0)]) (st2 := [vI r2o]) [] (fun l G => c_X2_next l G g2o) ka0 (om_lt ka0 (by decide)) (by omega) rfl rfl rfl_le rfl rfl_le rfl_le dX2_readBracketed_10 ?_
    refine om_bipush O (v := 41) dX2_readBracketed_13 (by decide) ?_
    refine om_icmp_eq O (tgt := 20) dX2_readBracketed_15 (by decide) (fun c2o => ?_) (fun c2o => ?_)
    · replace h := (if_pos c2o).symm.trans h
      refine om_aload_n O 0 dX2_readBracketed_20 rfl rfl ?_
      refine om_dup O rfl dX2_readBracketed_21 ?_
      refine gf_X2_31 O ka0 (om_lt ka0 (by decide)) dX2_readBracketed_22 ?_
      refine om_iconst O (v := 1) dX2_readBracketed_25 (by decide) ?_
      refine om_iadd O dX2_readBracketed_26 ?_
      revert h; refine om_letR (fun σ3o e1o h => ?_)
      refine pf_X2_31 O (Or.inl rfl) ka0 (om_lt ka0 (by decide)) dX2_readBracketed_27 e1o ?_
      refine om_iconst O (v := 1) dX2_readBracketed_30 (by decide) ?_
      exact om_zret (st := []) O (Or.inr rfl) (om_eI hE h) rfl dX2_readBracketed_31
    · replace h := (if_neg c2o).symm.trans h
      refine om_iconst O (v := 0) dX2_readBracketed_18 (by decide) ?_
      exact om_zret (st := []) O (Or.inl rfl) (om_eI hE h) rfl dX2_readBracketed_19
def grp_X2_readChain : Nat → (Nat → Int32 → Int32 → om_S → Option (Int32 × om_S)) × (Nat → Int32 → om_S → Option (Int32 × om_S)) × (Nat → Int32 → om_S → Option (Int32 × om_S)) × (Nat → Int32 → om_S → Option (Int32 × om_S))
  | 0 => (fun _ _ _ _ => none, fun _ _ _ => none, fun _ _ _ => none, fun _ _ _ => none)
  | d + 1 => (fo_X2_readChain (grp_X2_readChain d).1 (grp_X2_readChain d).2.1 (grp_X2_readChain d).2.2.1 (grp_X2_readChain d).2.2.2, fo_X2_readUnit (grp_X2_readChain d).1 (grp_X2_readChain d).2.1 (grp_X2_readChain d).2.2.1 (grp_X2_readChain d).2.2.2, fo_X2_readNot (grp_X2_readChain d).1 (grp_X2_readChain d).2.1 (grp_X2_readChain d).2.2.1 (grp_X2_readChain d).2.2.2, fo_X2_readBracketed (grp_X2_readChain d).1 (grp_X2_readChain d).2.1 (grp_X2_readChain d).2.2.1 (grp_X2_readChain d).2.2.2)
def f_X2_readChain : Nat → Int32 → Int32 → om_S → Option (Int32 × om_S) := (grp_X2_readChain 60).1
def f_X2_readUnit : Nat → Int32 → om_S → Option (Int32 × om_S) := (grp_X2_readChain 60).2.1
def f_X2_readNot : Nat → Int32 → om_S → Option (Int32 × om_S) := (grp_X2_readChain 60).2.2.1
def f_X2_readBracketed : Nat → Int32 → om_S → Option (Int32 × om_S) := (grp_X2_readChain 60).2.2.2
set_option maxRecDepth 100000 in
theorem cg_X2_readChain : ∀ d : Nat, (∀ (a0 : Nat) (v1 : Int32) (v2 : Int32) (σ : om_S) (r : Int32) (τ : om_S), (grp_X2_readChain d).1 a0 v1 v2 σ = some (r, τ) → ∀ (l : Launch) (G : om_G), om_D l G (3 + d) yX2_readChain cX2_readChain 6 (some FieldType.boolean) 0 0 [vR (some a0), vI v1, vI v2] σ om_rf om_N (some (vI r)) τ om_rf om_N) ∧ (∀ (a0 : Nat) (v1 : Int32) (σ : om_S) (r : Int32) (τ : om_S), (grp_X2_readChain d).2.1 a0 v1 σ = some (r, τ) → ∀ (l : Launch) (G : om_G), om_D l G (3 + d) yX2_readUnit cX2_readUnit 4 (some FieldType.boolean) 0 0 [vR (some a0), vI v1] σ om_rf om_N (some (vI r)) τ om_rf om_N) ∧ (∀ (a0 : Nat) (v1 : Int32) (σ : om_S) (r : Int32) (τ : om_S), (grp_X2_readChain d).2.2.1 a0 v1 σ = some (r, τ) → ∀ (l : Launch) (G : om_G), om_D l G (3 + d) yX2_readNot cX2_readNot 2 (some FieldType.boolean) 0 0 [vR (some a0), vI v1] σ om_rf om_N (some (vI r)) τ om_rf om_N) ∧ (∀ (a0 : Nat) (v1 : Int32) (σ : om_S) (r : Int32) (τ : om_S), (grp_X2_readChain d).2.2.2 a0 v1 σ = some (r, τ) → ∀ (l : Launch) (G : om_G), om_D l G (3 + d) yX2_readBracketed cX2_readBracketed 2 (some FieldType.boolean) 0 0 [vR (some a0), vI v1] σ om_rf om_N (some (vI r)) τ om_rf om_N) := by
  intro d
  induction d with
  | zero => exact ⟨fun _ _ _ _ _ _ h => absurd (show none = some _ from h) (by intro hh; cases hh), fun _ _ _ _ _ h => absurd (show none = some _ from h) (by intro hh; cases hh), fun _ _ _ _ _ h => absurd (show none = some _ from h) (by intro hh; cases hh), fun _ _ _ _ _ h => absurd (show none = some _ from h) (by intro hh; cases hh)⟩
  | succ d ih => exact ⟨fun _ _ _ _ _ _ h l G => co_X2_readChain (kd := 3 + d) (by omega) ih.1 ih.2.1 ih.2.2.1 ih.2.2.2 l G h, fun _ _ _ _ _ h l G => co_X2_readUnit (kd := 3 + d) (by omega) ih.1 ih.2.1 ih.2.2.1 ih.2.2.2 l G h, fun _ _ _ _ _ h l G => co_X2_readNot (kd := 3 + d) (by omega) ih.1 ih.2.1 ih.2.2.1 ih.2.2.2 l G h, fun _ _ _ _ _ h l G => co_X2_readBracketed (kd := 3 + d) (by omega) ih.1 ih.2.1 ih.2.2.1 ih.2.2.2 l G h⟩
set_option maxRecDepth 100000 in
theorem c_X2_readChain (l : Launch) (G : om_G) {a0 : Nat} {v1 : Int32} {v2 : Int32} {σ : om_S} {r : Int32} {τ : om_S} (h : f_X2_readChain a0 v1 v2 σ = some (r, τ)) : om_D l G 63 yX2_readChain cX2_readChain 6 (some FieldType.boolean) 0 0 [vR (some a0), vI v1, vI v2] σ om_rf om_N (some (vI r)) τ om_rf om_N := (cg_X2_readChain 60).1 _ _ _ _ _ _ h l G
set_option maxRecDepth 100000 in
theorem c_X2_readUnit (l : Launch) (G : om_G) {a0 : Nat} {v1 : Int32} {σ : om_S} {r : Int32} {τ : om_S} (h : f_X2_readUnit a0 v1 σ = some (r, τ)) : om_D l G 63 yX2_readUnit cX2_readUnit 4 (some FieldType.boolean) 0 0 [vR (some a0), vI v1] σ om_rf om_N (some (vI r)) τ om_rf om_N := (cg_X2_readChain 60).2.1 _ _ _ _ _ h l G
set_option maxRecDepth 100000 in
theorem c_X2_readNot (l : Launch) (G : om_G) {a0 : Nat} {v1 : Int32} {σ : om_S} {r : Int32} {τ : om_S} (h : f_X2_readNot a0 v1 σ = some (r, τ)) : om_D l G 63 yX2_readNot cX2_readNot 2 (some FieldType.boolean) 0 0 [vR (some a0), vI v1] σ om_rf om_N (some (vI r)) τ om_rf om_N := (cg_X2_readChain 60).2.2.1 _ _ _ _ _ h l G
set_option maxRecDepth 100000 in
theorem c_X2_readBracketed (l : Launch) (G : om_G) {a0 : Nat} {v1 : Int32} {σ : om_S} {r : Int32} {τ : om_S} (h : f_X2_readBracketed a0 v1 σ = some (r, τ)) : om_D l G 63 yX2_readBracketed cX2_readBracketed 2 (some FieldType.boolean) 0 0 [vR (some a0), vI v1] σ om_rf om_N (some (vI r)) τ om_rf om_N := (cg_X2_readChain 60).2.2.2 _ _ _ _ _ h l G
def f_X2_read_b53  (a0 : Nat) (s0 : Int32) (σ : om_S) : Option (Int32 × om_S) := if s0 = 0 then (some ((σ a0 3), σ)) else (some ((-1 : Int32), σ))
set_option maxRecDepth 100000 in
theorem g_X2_read_b53 {x : om_X}   (O : om_Ok x RX2 "read" cX2_read 4 (some FieldType.int) 64 0 0)   {r : Int32} {τ : om_S} (hE : om_End x (some (vI r)) τ om_rf om_N 0 0)   {a0 : Nat} {s0 : Int32} {σ : om_S} (ka0 : om_kc a0 = 2) (h : f_X2_read_b53 a0 s0 σ = some (r, τ)) : om_J x 53 [(0, vR (some a0))] [vI s0] σ om_rf om_N 0 0 := by
  unfold f_X2_read_b53 at h
  refine om_istore_n O (lv' := [(0, vR (some a0)), (3, vI s0)]) [1, 0] rfl dX2_read_53 rfl (by decide) rfl ?_
  refine om_iload_n O 1 dX2_read_54 rfl rfl ?_
  refine om_if_eq O (tgt := 62) dX2_read_55 (by decide) (fun c1o => ?_) (fun c1o => ?_)
  · replace h := (if_pos c1o).symm.trans h
    refine om_aload_n O 0 dX2_read_62 rfl rfl ?_
    refine gf_X2_31 O ka0 (om_lt ka0 (by decide)) dX2_read_63 ?_
    exact om_iret (st := []) O (om_eI hE h) rfl dX2_read_66
  · replace h := (if_neg c1o).symm.trans h
    refine om_iconst O (v := -1) dX2_read_58 (by decide) ?_
    refine om_goto O (tgt := 66) dX2_read_59 (by decide) ?_
    exact om_iret (st := []) O (om_eI hE h) rfl dX2_read_66
def f_X2_read_b52  (a0 : Nat) (σ : om_S) : Option (Int32 × om_S) := f_X2_read_b53 a0 (0 : Int32) σ
set_option maxRecDepth 100000 in
theorem g_X2_read_b52 {x : om_X}   (O : om_Ok x RX2 "read" cX2_read 4 (some FieldType.int) 64 0 0)   {r : Int32} {τ : om_S} (hE : om_End x (some (vI r)) τ om_rf om_N 0 0)   {a0 : Nat} {σ : om_S} (ka0 : om_kc a0 = 2) (h : f_X2_read_b52 a0 σ = some (r, τ)) : om_J x 52 [(0, vR (some a0))] [] σ om_rf om_N 0 0 := by
  unfold f_X2_read_b52 at h
  refine om_iconst O (v := 0) dX2_read_52 (by decide) ?_
  exact g_X2_read_b53 O hE ka0 h
def f_X2_read  (a0 : Nat) (a1 : Nat) (v2 : Int32) (σ : om_S) : Option (Int32 × om_S) := if om_kc a0 = 2 then if om_kc a1 = 3 then om_ref (om_rf a0 0) 5 fun (t1o : Nat) => om_do (f_X5_clear t1o σ) fun (σ1o : om_S) => om_ref (om_rf a0 1) 3 fun (t2o : Nat) => om_do (f_X3_copyFrom t2o a1 σ1o) fun (σ2o : om_S) => om_let (om_w σ2o a0 2 v2) fun (σ3o : om_S) => om_let (om_w σ3o a0 3 (0 : Int32)) fun (σ4o : om_S) => om_call (f_X2_readChain a0 (0 : Int32) (0 : Int32) σ4o) fun (r1o : Int32) (σ5o : om_S) => if r1o = 0 then (f_X2_read_b52 a0 σ5o) else (om_ref (om_rf a0 1) 3 fun (t3o : Nat) => om_call (f_X3_size t3o σ5o) fun (r2o : Int32) (σ6o : om_S) => if (σ5o a0 3) = r2o then (f_X2_read_b53 a0 (1 : Int32) σ6o) else (f_X2_read_b52 a0 σ6o)) else none else none
set_option maxRecDepth 100000 in
theorem c_X2_read (l : Launch) (G : om_G) {a0 : Nat} {a1 : Nat} {v2 : Int32} {σ : om_S} {r : Int32} {τ : om_S} (h : f_X2_read a0 a1 v2 σ = some (r, τ)) : om_D l G 64 yX2_read cX2_read 4 (some FieldType.int) 0 0 [vR (some a0), vR (some a1), vI v2] σ om_rf om_N (some (vI r)) τ om_rf om_N := by
  refine om_Dof (lv := [(0, vR (some a0)), (1, vR (some a1)), (2, vI v2)]) (by decide) rfl_le rfl (fun x O hE => ?_)
  change om_Ok x RX2 "read" cX2_read 4 (some FieldType.int) 64 0 0 at O
  unfold f_X2_read at h
  revert h; refine om_iteR (fun ka0 h => ?_)
  revert h; refine om_iteR (fun ka1 h => ?_)
  refine om_aload_n O 0 dX2_read_0 rfl rfl ?_
  revert h; refine om_refR (fun t1o y1o k1o h => ?_)
  refine gf_X2_14 O ka0 (om_lt ka0 (by decide)) dX2_read_1 ?_
  rw [y1o]
  revert h; refine om_doR (fun σ1o g1o h => ?_)
  refine cl_X2_34 O (st := []) (stk := [vR (some t1o)]) (st2 := []) [] (fun l G => c_X5_clear l G g1o) k1o (om_lt k1o (by decide)) (by decide) rfl rfl rfl_le rfl rfl_le rfl_le dX2_read_4 ?_
  refine om_aload_n O 0 dX2_read_7 rfl rfl ?_
  revert h; refine om_refR (fun t2o y2o k2o h => ?_)
  refine gf_X2_23 O ka0 (om_lt ka0 (by decide)) dX2_read_8 ?_
  rw [y2o]
  refine om_aload_n O 1 dX2_read_11 rfl rfl ?_
  revert h; refine om_doR (fun σ2o g2o h => ?_)
  refine cl_X2_37 O (st := []) (stk := [vR (some a1), vR (some t2o)]) (st2 := []) [vR (some a1)] (fun l G => c_X3_copyFrom l G g2o) k2o (om_lt k2o (by decide)) (by decide) rfl rfl rfl_le rfl rfl_le rfl_le dX2_read_12 ?_
  refine om_aload_n O 0 dX2_read_15 rfl rfl ?_
  refine om_iload_n O 2 dX2_read_16 rfl rfl ?_
  revert h; refine om_letR (fun σ3o e1o h => ?_)
  refine pf_X2_27 O (Or.inl rfl) ka0 (om_lt ka0 (by decide)) dX2_read_17 e1o ?_
  refine om_aload_n O 0 dX2_read_20 rfl rfl ?_
  refine om_iconst O (v := 0) dX2_read_21 (by decide) ?_
  revert h; refine om_letR (fun σ4o e2o h => ?_)
  refine pf_X2_31 O (Or.inl rfl) ka0 (om_lt ka0 (by decide)) dX2_read_22 e2o ?_
  refine om_aload_n O 0 dX2_read_25 rfl rfl ?_
  refine om_iconst O (v := 0) dX2_read_26 (by decide) ?_
  refine om_iconst O (v := 0) dX2_read_27 (by decide) ?_
  revert h; refine om_callR (fun r1o σ5o g3o h => ?_)
  refine cl_X2_41 O (st := []) (stk := [vI (0 : Int32), vI (0 : Int32), vR (some a0)]) (st2 := [vI r1o]) [vI (0 : Int32), vI (0 : Int32)] (fun l G => c_X2_readChain l G g3o) ka0 (om_lt ka0 (by decide)) (by decide) rfl rfl rfl_le rfl rfl_le rfl_le dX2_read_28 ?_
  refine om_if_eq O (tgt := 52) dX2_read_31 (by decide) (fun c1o => ?_) (fun c1o => ?_)
  · replace h := (if_pos c1o).symm.trans h
    refine om_drop (lv' := [(0, vR (some a0))]) [0] rfl ?_
    exact g_X2_read_b52 O hE ka0 h
  · replace h := (if_neg c1o).symm.trans h
    refine om_aload_n O 0 dX2_read_34 rfl rfl ?_
    refine gf_X2_31 O ka0 (om_lt ka0 (by decide)) dX2_read_35 ?_
    refine om_aload_n O 0 dX2_read_38 rfl rfl ?_
    revert h; refine om_refR (fun t3o y3o k3o h => ?_)
    refine gf_X2_23 O ka0 (om_lt ka0 (by decide)) dX2_read_39 ?_
    rw [y3o]
    revert h; refine om_callR (fun r2o σ6o g4o h => ?_)
    refine cl_X2_45 O (st := [vI (σ5o a0 3)]) (stk := [vR (some t3o), vI (σ5o a0 3)]) (st2 := [vI r2o, vI (σ5o a0 3)]) [] (fun l G => c_X3_size l G g4o) k3o (om_lt k3o (by decide)) (by decide) rfl rfl rfl_le rfl rfl_le rfl_le dX2_read_42 ?_
    refine om_icmp_ne O (tgt := 52) dX2_read_45 (by decide) (fun c2o => ?_) (fun c2o => ?_)
    · replace h := (if_pos c2o).symm.trans h
      refine om_iconst O (v := 1) dX2_read_48 (by decide) ?_
      refine om_goto O (tgt := 53) dX2_read_49 (by decide) ?_
      refine om_drop (lv' := [(0, vR (some a0))]) [0] rfl ?_
      exact g_X2_read_b53 O hE ka0 h
    · replace h := (if_neg c2o).symm.trans h
      refine om_drop (lv' := [(0, vR (some a0))]) [0] rfl ?_
      exact g_X2_read_b52 O hE ka0 h
def f_X5_copyFrom  (a0 : Nat) (a1 : Nat) (σ : om_S) : Option om_S := if om_kc a0 = 5 then if om_kc a1 = 5 then om_ref (om_rf a0 1) 3 fun (t1o : Nat) => om_ref (om_rf a1 1) 3 fun (t2o : Nat) => om_do (f_X3_copyFrom t1o t2o σ) fun (σ1o : om_S) => some σ1o else none else none
set_option maxRecDepth 100000 in
theorem c_X5_copyFrom (l : Launch) (G : om_G) {a0 : Nat} {a1 : Nat} {σ : om_S} {τ : om_S} (h : f_X5_copyFrom a0 a1 σ = some τ) : om_D l G 2 yX5_copyFrom cX5_copyFrom 2 none 0 0 [vR (some a0), vR (some a1)] σ om_rf om_N none τ om_rf om_N := by
  refine om_Dof (lv := [(0, vR (some a0)), (1, vR (some a1))]) (by decide) rfl_le rfl (fun x O hE => ?_)
  change om_Ok x RX5 "copyFrom" cX5_copyFrom 2 none 2 0 0 at O
  unfold f_X5_copyFrom at h
  revert h; refine om_iteR (fun ka0 h => ?_)
  revert h; refine om_iteR (fun ka1 h => ?_)
  refine om_aload_n O 0 dX5_copyFrom_0 rfl rfl ?_
  revert h; refine om_refR (fun t1o y1o k1o h => ?_)
  refine gf_X5_14 O ka0 (om_lt ka0 (by decide)) dX5_copyFrom_1 ?_
  rw [y1o]
  refine om_aload_n O 1 dX5_copyFrom_4 rfl rfl ?_
  revert h; refine om_refR (fun t2o y2o k2o h => ?_)
  refine gf_X5_14 O ka1 (om_lt ka1 (by decide)) dX5_copyFrom_5 ?_
  rw [y2o]
  revert h; refine om_doR (fun σ1o g1o h => ?_)
  refine cl_X5_31 O (st := []) (stk := [vR (some t2o), vR (some t1o)]) (st2 := []) [vR (some t2o)] (fun l G => c_X3_copyFrom l G g1o) k1o (om_lt k1o (by decide)) (by decide) rfl rfl rfl_le rfl rfl_le rfl_le dX5_copyFrom_8 ?_
  exact om_vret (st := []) O (om_eV hE h) rfl dX5_copyFrom_11
def f_X8_text  (a0 : Nat) (v1 : Int32) (σ : om_S) : Option (Int32 × om_S) := if om_kc a0 = 8 then om_ref (om_rf a0 0) 6 fun (t1o : Nat) => om_call (f_X6_textOf t1o v1 σ) fun (r1o : Option Nat) (σ1o : om_S) => om_nul r1o 5 (om_call (f_X8_refuse a0 (1 : Int32) σ1o) fun (r2o : Int32) (σ2o : om_S) => some (r2o, σ2o)) fun (t2o : Nat) => om_ref (om_rf a0 8) 2 fun (t3o : Nat) => om_ref (om_rf a0 4) 3 fun (t4o : Nat) => om_call (f_X2_read t3o t4o v1 σ1o) fun (r3o : Int32) (σ3o : om_S) => om_ref (om_rf a0 4) 3 fun (t5o : Nat) => om_do (f_X3_clear t5o σ3o) fun (σ4o : om_S) => if r3o = (-1 : Int32) then (om_ref (om_rf a0 8) 2 fun (t6o : Nat) => om_ref (om_rf t6o 0) 5 fun (t7o : Nat) => om_do (f_X5_copyFrom t2o t7o σ4o) fun (σ5o : om_S) => some ((1 : Int32), σ5o)) else (some (((-10 : Int32) - r3o), σ4o)) else none
set_option maxRecDepth 100000 in
theorem c_X8_text (l : Launch) (G : om_G) {a0 : Nat} {v1 : Int32} {σ : om_S} {r : Int32} {τ : om_S} (h : f_X8_text a0 v1 σ = some (r, τ)) : om_D l G 65 yX8_text cX8_text 4 (some FieldType.int) 0 0 [vR (some a0), vI v1] σ om_rf om_N (some (vI r)) τ om_rf om_N := by
  refine om_Dof (lv := [(0, vR (some a0)), (1, vI v1)]) (by decide) rfl_le rfl (fun x O hE => ?_)
  change om_Ok x RX8 "text" cX8_text 4 (some FieldType.int) 65 0 0 at O
  unfold f_X8_text at h
  revert h; refine om_iteR (fun ka0 h => ?_)
  refine om_aload_n O 0 dX8_text_0 rfl rfl ?_
  revert h; refine om_refR (fun t1o y1o k1o h => ?_)
  refine gf_X8_10 O ka0 (om_lt ka0 (by decide)) dX8_text_1 ?_
  rw [y1o]
  refine om_iload_n O 1 dX8_text_4 rfl rfl ?_
  revert h; refine om_callR (fun r1o σ1o g1o h => ?_)
  refine cl_X8_139 O (st := []) (stk := [vI v1, vR (some t1o)]) (st2 := [vR r1o]) [vI v1] (fun l G => c_X6_textOf l G g1o) k1o (om_lt k1o (by decide)) (by decide) rfl rfl rfl_le rfl rfl_le rfl_le dX8_text_5 ?_
  refine om_astore_n O (lv' := [(0, vR (some a0)), (1, vI v1), (2, vR r1o)]) [1, 2, 0] dX8_text_8 rfl (by decide) rfl ?_
  refine om_aload_n O 2 dX8_text_9 rfl rfl ?_
  revert h; refine om_nulR (fun yy h => ?_) (fun t2o yy k2o h => ?_)
  · subst yy
    refine om_ifnonnullN O dX8_text_10 ?_
    refine om_aload_n O 0 dX8_text_13 rfl rfl ?_
    refine om_iconst O (v := 1) dX8_text_14 (by decide) ?_
    revert h; refine om_callR (fun r2o σ2o g2o h => ?_)
    refine cl_X8_84 O (st := []) (stk := [vI (1 : Int32), vR (some a0)]) (st2 := [vI r2o]) [vI (1 : Int32)] (fun l G => c_X8_refuse l G g2o) ka0 (om_lt ka0 (by decide)) (by decide) rfl rfl rfl_le rfl rfl_le rfl_le dX8_text_15 ?_
    exact om_iret (st := []) O (om_eI hE h) rfl dX8_text_18
  · subst yy
    refine om_ifnonnullS O (tgt := 19) dX8_text_10 (by decide) ?_
    refine om_aload_n O 0 dX8_text_19 rfl rfl ?_
    revert h; refine om_refR (fun t3o y2o k3o h => ?_)
    refine gf_X8_50 O ka0 (om_lt ka0 (by decide)) dX8_text_20 ?_
    rw [y2o]
    refine om_aload_n O 0 dX8_text_23 rfl rfl ?_
    revert h; refine om_refR (fun t4o y3o k4o h => ?_)
    refine gf_X8_34 O ka0 (om_lt ka0 (by decide)) dX8_text_24 ?_
    rw [y3o]
    refine om_iload_n O 1 dX8_text_27 rfl rfl ?_
    revert h; refine om_callR (fun r3o σ3o g3o h => ?_)
    refine cl_X8_143 O (st := []) (stk := [vI v1, vR (some t4o), vR (some t3o)]) (st2 := [vI r3o]) [vR (some t4o), vI v1] (fun l G => c_X2_read l G g3o) k3o (om_lt k3o (by decide)) (by decide) rfl rfl rfl_le rfl rfl_le rfl_le dX8_text_28 ?_
    refine om_istore_n O (lv' := [(0, vR (some a0)), (2, vR (some t2o)), (3, vI r3o)]) [1, 3, 0] rfl dX8_text_31 rfl (by decide) rfl ?_
    refine om_aload_n O 0 dX8_text_32 rfl rfl ?_
    revert h; refine om_refR (fun t5o y4o k5o h => ?_)
    refine gf_X8_34 O ka0 (om_lt ka0 (by decide)) dX8_text_33 ?_
    rw [y4o]
    revert h; refine om_doR (fun σ4o g4o h => ?_)
    refine cl_X8_147 O (st := []) (stk := [vR (some t5o)]) (st2 := []) [] (fun l G => c_X3_clear l G g4o) k5o (om_lt k5o (by decide)) (by decide) rfl rfl rfl_le rfl rfl_le rfl_le dX8_text_36 ?_
    refine om_iload_n O 2 dX8_text_39 rfl rfl ?_
    refine om_iconst O (v := -1) dX8_text_40 (by decide) ?_
    refine om_icmp_eq O (tgt := 49) dX8_text_41 (by decide) (fun c1o => ?_) (fun c1o => ?_)
    · replace h := (if_pos c1o).symm.trans h
      refine om_aload_n O 1 dX8_text_49 rfl rfl ?_
      refine om_aload_n O 0 dX8_text_50 rfl rfl ?_
      revert h; refine om_refR (fun t6o y5o k6o h => ?_)
      refine gf_X8_50 O ka0 (om_lt ka0 (by decide)) dX8_text_51 ?_
      rw [y5o]
      revert h; refine om_refR (fun t7o y6o k7o h => ?_)
      refine gf_X8_150 O k6o (om_lt k6o (by decide)) dX8_text_54 ?_
      rw [y6o]
      revert h; refine om_doR (fun σ5o g5o h => ?_)
      refine cl_X8_154 O (st := []) (stk := [vR (some t7o), vR (some t2o)]) (st2 := []) [vR (some t7o)] (fun l G => c_X5_copyFrom l G g5o) k2o (om_lt k2o (by decide)) (by decide) rfl rfl rfl_le rfl rfl_le rfl_le dX8_text_57 ?_
      refine om_iconst O (v := 1) dX8_text_60 (by decide) ?_
      exact om_iret (st := []) O (om_eI hE h) rfl dX8_text_61
    · replace h := (if_neg c1o).symm.trans h
      refine om_bipush O (v := -10) dX8_text_44 (by decide) ?_
      refine om_iload_n O 2 dX8_text_46 rfl rfl ?_
      refine om_isub O dX8_text_47 ?_
      exact om_iret (st := []) O (om_eI hE h) rfl dX8_text_48
def f_X8_untell_b34  (a2 : Nat) (s0 : Int32) (σ : om_S) : Option (Int32 × om_S) := om_do (f_X5_clear a2 σ) fun (σ1o : om_S) => some (s0, σ1o)
set_option maxRecDepth 100000 in
theorem g_X8_untell_b34 {x : om_X}   (O : om_Ok x RX8 "untell" cX8_untell 4 (some FieldType.int) 2 0 0)   {r : Int32} {τ : om_S} (hE : om_End x (some (vI r)) τ om_rf om_N 0 0)   {a2 : Nat} {s0 : Int32} {σ : om_S} (ka2 : om_kc a2 = 5) (h : f_X8_untell_b34 a2 s0 σ = some (r, τ)) : om_J x 34 [(2, vR (some a2))] [vI s0] σ om_rf om_N 0 0 := by
  unfold f_X8_untell_b34 at h
  refine om_istore_n O (lv' := [(2, vR (some a2)), (3, vI s0)]) [1, 0] rfl dX8_untell_34 rfl (by decide) rfl ?_
  refine om_aload_n O 0 dX8_untell_35 rfl rfl ?_
  revert h; refine om_doR (fun σ1o g1o h => ?_)
  refine cl_X8_163 O (st := []) (stk := [vR (some a2)]) (st2 := []) [] (fun l G => c_X5_clear l G g1o) ka2 (om_lt ka2 (by decide)) (by decide) rfl rfl rfl_le rfl rfl_le rfl_le dX8_untell_36 ?_
  refine om_iload_n O 1 dX8_untell_39 rfl rfl ?_
  exact om_iret (st := []) O (om_eI hE h) rfl dX8_untell_40
def f_X8_untell  (a0 : Nat) (v1 : Int32) (σ : om_S) : Option (Int32 × om_S) := if om_kc a0 = 8 then om_ref (om_rf a0 0) 6 fun (t1o : Nat) => om_call (f_X6_textOf t1o v1 σ) fun (r1o : Option Nat) (σ1o : om_S) => om_nul r1o 5 (om_call (f_X8_refuse a0 (1 : Int32) σ1o) fun (r2o : Int32) (σ2o : om_S) => some (r2o, σ2o)) fun (t2o : Nat) => om_ref (om_rf t2o 1) 3 fun (t3o : Nat) => om_call (f_X3_size t3o σ1o) fun (r3o : Int32) (σ3o : om_S) => if r3o ≤ 0 then (f_X8_untell_b34 t2o (0 : Int32) σ3o) else (f_X8_untell_b34 t2o (1 : Int32) σ3o) else none
set_option maxRecDepth 100000 in
theorem c_X8_untell (l : Launch) (G : om_G) {a0 : Nat} {v1 : Int32} {σ : om_S} {r : Int32} {τ : om_S} (h : f_X8_untell a0 v1 σ = some (r, τ)) : om_D l G 2 yX8_untell cX8_untell 4 (some FieldType.int) 0 0 [vR (some a0), vI v1] σ om_rf om_N (some (vI r)) τ om_rf om_N := by
  refine om_Dof (lv := [(0, vR (some a0)), (1, vI v1)]) (by decide) rfl_le rfl (fun x O hE => ?_)
  change om_Ok x RX8 "untell" cX8_untell 4 (some FieldType.int) 2 0 0 at O
  unfold f_X8_untell at h
  revert h; refine om_iteR (fun ka0 h => ?_)
  refine om_aload_n O 0 dX8_untell_0 rfl rfl ?_
  revert h; refine om_refR (fun t1o y1o k1o h => ?_)
  refine gf_X8_10 O ka0 (om_lt ka0 (by decide)) dX8_untell_1 ?_
  rw [y1o]
  refine om_iload_n O 1 dX8_untell_4 rfl rfl ?_
  revert h; refine om_callR (fun r1o σ1o g1o h => ?_)
  refine cl_X8_139 O (st := []) (stk := [vI v1, vR (some t1o)]) (st2 := [vR r1o]) [vI v1] (fun l G => c_X6_textOf l G g1o) k1o (om_lt k1o (by decide)) (by decide) rfl rfl rfl_le rfl rfl_le rfl_le dX8_untell_5 ?_
  refine om_astore_n O (lv' := [(0, vR (some a0)), (2, vR r1o)]) [1, 0] dX8_untell_8 rfl (by decide) rfl ?_
  refine om_aload_n O 1 dX8_untell_9 rfl rfl ?_
  revert h; refine om_nulR (fun yy h => ?_) (fun t2o yy k2o h => ?_)
  · subst yy
    refine om_ifnonnullN O dX8_untell_10 ?_
    refine om_aload_n O 0 dX8_untell_13 rfl rfl ?_
    refine om_iconst O (v := 1) dX8_untell_14 (by decide) ?_
    revert h; refine om_callR (fun r2o σ2o g2o h => ?_)
    refine cl_X8_84 O (st := []) (stk := [vI (1 : Int32), vR (some a0)]) (st2 := [vI r2o]) [vI (1 : Int32)] (fun l G => c_X8_refuse l G g2o) ka0 (om_lt ka0 (by decide)) (by decide) rfl rfl rfl_le rfl rfl_le rfl_le dX8_untell_15 ?_
    exact om_iret (st := []) O (om_eI hE h) rfl dX8_untell_18
  · subst yy
    refine om_ifnonnullS O (tgt := 19) dX8_untell_10 (by decide) ?_
    refine om_aload_n O 1 dX8_untell_19 rfl rfl ?_
    revert h; refine om_refR (fun t3o y2o k3o h => ?_)
    refine gf_X8_160 O k2o (om_lt k2o (by decide)) dX8_untell_20 ?_
    rw [y2o]
    revert h; refine om_callR (fun r3o σ3o g3o h => ?_)
    refine cl_X8_133 O (st := []) (stk := [vR (some t3o)]) (st2 := [vI r3o]) [] (fun l G => c_X3_size l G g3o) k3o (om_lt k3o (by decide)) (by decide) rfl rfl rfl_le rfl rfl_le rfl_le dX8_untell_23 ?_
    refine om_if_le O (tgt := 33) dX8_untell_26 (by decide) (fun c1o => ?_) (fun c1o => ?_)
    · replace h := (if_pos c1o).symm.trans h
      refine om_iconst O (v := 0) dX8_untell_33 (by decide) ?_
      refine om_drop (lv' := [(2, vR (some t2o))]) [1] rfl ?_
      exact g_X8_untell_b34 O hE k2o h
    · replace h := (if_neg c1o).symm.trans h
      refine om_iconst O (v := 1) dX8_untell_29 (by decide) ?_
      refine om_goto O (tgt := 34) dX8_untell_30 (by decide) ?_
      refine om_drop (lv' := [(2, vR (some t2o))]) [1] rfl ?_
      exact g_X8_untell_b34 O hE k2o h
def f_X8_law  (a0 : Nat) (v1 : Int32) (v2 : Int32) (v3 : Int32) (v4 : Int32) (σ : om_S) : Option (Int32 × om_S) := if om_kc a0 = 8 then om_ref (om_rf a0 0) 6 fun (t1o : Nat) => om_call (f_X6_textOf t1o v1 σ) fun (r1o : Option Nat) (σ1o : om_S) => om_nul r1o 5 (om_call (f_X8_refuse a0 (1 : Int32) σ1o) fun (r2o : Int32) (σ2o : om_S) => some (r2o, σ2o)) fun (t2o : Nat) => om_call (f_X5_gives t2o v2 v3 v4 σ1o) fun (r3o : Int32) (σ3o : om_S) => some (r3o, σ3o) else none
set_option maxRecDepth 100000 in
theorem c_X8_law (l : Launch) (G : om_G) {a0 : Nat} {v1 : Int32} {v2 : Int32} {v3 : Int32} {v4 : Int32} {σ : om_S} {r : Int32} {τ : om_S} (h : f_X8_law a0 v1 v2 v3 v4 σ = some (r, τ)) : om_D l G 2 yX8_law cX8_law 6 (some FieldType.int) 0 0 [vR (some a0), vI v1, vI v2, vI v3, vI v4] σ om_rf om_N (some (vI r)) τ om_rf om_N := by
  refine om_Dof (lv := [(0, vR (some a0)), (1, vI v1), (2, vI v2), (3, vI v3), (4, vI v4)]) (by decide) rfl_le rfl (fun x O hE => ?_)
  change om_Ok x RX8 "law" cX8_law 6 (some FieldType.int) 2 0 0 at O
  unfold f_X8_law at h
  revert h; refine om_iteR (fun ka0 h => ?_)
  refine om_aload_n O 0 dX8_law_0 rfl rfl ?_
  revert h; refine om_refR (fun t1o y1o k1o h => ?_)
  refine gf_X8_10 O ka0 (om_lt ka0 (by decide)) dX8_law_1 ?_
  rw [y1o]
  refine om_iload_n O 1 dX8_law_4 rfl rfl ?_
  revert h; refine om_callR (fun r1o σ1o g1o h => ?_)
  refine cl_X8_139 O (st := []) (stk := [vI v1, vR (some t1o)]) (st2 := [vR r1o]) [vI v1] (fun l G => c_X6_textOf l G g1o) k1o (om_lt k1o (by decide)) (by decide) rfl rfl rfl_le rfl rfl_le rfl_le dX8_law_5 ?_
  refine om_astore O (lv' := [(0, vR (some a0)), (2, vI v2), (3, vI v3), (4, vI v4), (5, vR r1o)]) [1, 3, 4, 5, 0] dX8_law_8 (by decide) rfl ?_
  refine om_aload O 4 dX8_law_10 rfl ?_
  revert h; refine om_nulR (fun yy h => ?_) (fun t2o yy k2o h => ?_)
  · subst yy
    refine om_ifnonnullN O dX8_law_12 ?_
    refine om_aload_n O 0 dX8_law_15 rfl rfl ?_
    refine om_iconst O (v := 1) dX8_law_16 (by decide) ?_
    revert h; refine om_callR (fun r2o σ2o g2o h => ?_)
    refine cl_X8_84 O (st := []) (stk := [vI (1 : Int32), vR (some a0)]) (st2 := [vI r2o]) [vI (1 : Int32)] (fun l G => c_X8_refuse l G g2o) ka0 (om_lt ka0 (by decide)) (by decide) rfl rfl rfl_le rfl rfl_le rfl_le dX8_law_17 ?_
    exact om_iret (st := []) O (om_eI hE h) rfl dX8_law_20
  · subst yy
    refine om_ifnonnullS O (tgt := 21) dX8_law_12 (by decide) ?_
    refine om_aload O 4 dX8_law_21 rfl ?_
    refine om_iload_n O 1 dX8_law_23 rfl rfl ?_
    refine om_iload_n O 2 dX8_law_24 rfl rfl ?_
    refine om_iload O 3 dX8_law_25 rfl ?_
    revert h; refine om_callR (fun r3o σ3o g3o h => ?_)
    refine cl_X8_164 O (st := []) (stk := [vI v4, vI v3, vI v2, vR (some t2o)]) (st2 := [vI r3o]) [vI v2, vI v3, vI v4] (fun l G => c_X5_gives l G g3o) k2o (om_lt k2o (by decide)) (by decide) rfl rfl rfl_le rfl rfl_le rfl_le dX8_law_27 ?_
    exact om_iret (st := []) O (om_eI hE h) rfl dX8_law_30
def f_X6_gives  (a0 : Nat) (a1 : Nat) (σ : om_S) : Option (Int32 × om_S) := if om_kc a0 = 6 then if om_kc a1 = 1 then om_call (f_X6_light a0 a1 σ) fun (r1o : Int32) (σ1o : om_S) => om_call (f_X1_smoke a1 (σ1o a0 4) σ1o) fun (r2o : Int32) (σ2o : om_S) => some ((r1o - r2o), σ2o) else none else none
set_option maxRecDepth 100000 in
theorem c_X6_gives (l : Launch) (G : om_G) {a0 : Nat} {a1 : Nat} {σ : om_S} {r : Int32} {τ : om_S} (h : f_X6_gives a0 a1 σ = some (r, τ)) : om_D l G 3 yX6_gives cX6_gives 2 (some FieldType.int) 0 0 [vR (some a0), vR (some a1)] σ om_rf om_N (some (vI r)) τ om_rf om_N := by
  refine om_Dof (lv := [(0, vR (some a0)), (1, vR (some a1))]) (by decide) rfl_le rfl (fun x O hE => ?_)
  change om_Ok x RX6 "gives" cX6_gives 2 (some FieldType.int) 3 0 0 at O
  unfold f_X6_gives at h
  revert h; refine om_iteR (fun ka0 h => ?_)
  revert h; refine om_iteR (fun ka1 h => ?_)
  refine om_aload_n O 0 dX6_gives_0 rfl rfl ?_
  refine om_aload_n O 1 dX6_gives_1 rfl rfl ?_
  revert h; refine om_callR (fun r1o σ1o g1o h => ?_)
  refine cl_X6_89 O (st := []) (stk := [vR (some a1), vR (some a0)]) (st2 := [vI r1o]) [vR (some a1)] (fun l G => c_X6_light l G g1o) ka0 (om_lt ka0 (by decide)) (by decide) rfl rfl rfl_le rfl rfl_le rfl_le dX6_gives_2 ?_
  refine om_aload_n O 1 dX6_gives_5 rfl rfl ?_
  refine om_aload_n O 0 dX6_gives_6 rfl rfl ?_
  refine gf_X6_33 O ka0 (om_lt ka0 (by decide)) dX6_gives_7 ?_
  revert h; refine om_callR (fun r2o σ2o g2o h => ?_)
  refine cl_X6_93 O (st := [vI r1o]) (stk := [vI (σ1o a0 4), vR (some a1), vI r1o]) (st2 := [vI r2o, vI r1o]) [vI (σ1o a0 4)] (fun l G => c_X1_smoke l G g2o) ka1 (om_lt ka1 (by decide)) (by decide) rfl rfl rfl_le rfl rfl_le rfl_le dX6_gives_10 ?_
  refine om_isub O dX6_gives_13 ?_
  exact om_iret (st := []) O (om_eI hE h) rfl dX6_gives_14
def f_X0_joinToEach_b18  : Nat → Nat → Int32 → Int32 → Int32 → Int32 → om_S → Option om_S
  | 0, _, _, _, _, _, _ => none
  | F + 1, a0, v1, v2, v3, v4, σ => if (σ a0 3) ≤ v4 then (om_let (om_w σ a0 3 ((σ a0 3) * (2 : Int32))) fun (σ1o : om_S) => some σ1o) else (om_ref (om_rf a0 0) 20 fun (t1o : Nat) => om_ref (om_rf a0 0) 20 fun (t2o : Nat) => if om_in v4 (om_al t2o) then if om_in ((σ a0 3) + v4) (om_al t1o) then om_let (om_w σ t1o ((σ a0 3) + v4).toNatClampNeg ((σ t2o v4.toNatClampNeg) ||| v1)) fun (σ2o : om_S) => om_ref (om_rf a0 1) 20 fun (t3o : Nat) => om_ref (om_rf a0 1) 20 fun (t4o : Nat) => if om_in v4 (om_al t4o) then if om_in ((σ2o a0 3) + v4) (om_al t3o) then om_let (om_w σ2o t3o ((σ2o a0 3) + v4).toNatClampNeg ((σ2o t4o v4.toNatClampNeg) + v2)) fun (σ3o : om_S) => om_ref (om_rf a0 2) 20 fun (t5o : Nat) => om_ref (om_rf a0 2) 20 fun (t6o : Nat) => if om_in v4 (om_al t6o) then if om_in ((σ3o a0 3) + v4) (om_al t5o) then om_let (om_w σ3o t5o ((σ3o a0 3) + v4).toNatClampNeg ((σ3o t6o v4.toNatClampNeg) + v3)) fun (σ4o : om_S) => (f_X0_joinToEach_b18 F) a0 v1 v2 v3 (v4 + 1) σ4o else none else none else none else none else none else none)
set_option maxRecDepth 100000 in
theorem g_X0_joinToEach_b18 {x : om_X}   (O : om_Ok x RX0 "joinToEach" cX0_joinToEach 5 none 0 0 0)   {τ : om_S} (hE : om_End x none τ om_rf om_N 0 0)   : ∀ (F : Nat) (a0 : Nat) (v1 : Int32) (v2 : Int32) (v3 : Int32) (v4 : Int32) (σ : om_S) (ka0 : om_kc a0 = 0), f_X0_joinToEach_b18 F a0 v1 v2 v3 v4 σ = some τ → om_J x 18 [(0, vR (some a0)), (1, vI v1), (2, vI v2), (3, vI v3), (4, vI v4)] [] σ om_rf om_N 0 0 := by
  intro F
  induction F with
  | zero =>
    intro a0 v1 v2 v3 v4 σ ka0 h
    cases h
  | succ F ih =>
    intro a0 v1 v2 v3 v4 σ ka0 h
    unfold f_X0_joinToEach_b18 at h
    refine om_iload O 4 dX0_joinToEach_18 rfl ?_
    refine om_aload_n O 0 dX0_joinToEach_20 rfl rfl ?_
    refine gf_X0_21 O ka0 (om_lt ka0 (by decide)) dX0_joinToEach_21 ?_
    refine om_icmp_ge O (tgt := 96) dX0_joinToEach_24 (by decide) (fun c1o => ?_) (fun c1o => ?_)
    · replace h := (if_pos c1o).symm.trans h
      refine om_aload_n O 0 dX0_joinToEach_96 rfl rfl ?_
      refine om_dup O rfl dX0_joinToEach_97 ?_
      refine gf_X0_21 O ka0 (om_lt ka0 (by decide)) dX0_joinToEach_98 ?_
      refine om_iconst O (v := 2) dX0_joinToEach_101 (by decide) ?_
      refine om_imul O dX0_joinToEach_102 ?_
      revert h; refine om_letR (fun σ1o e1o h => ?_)
      refine pf_X0_21 O (Or.inl rfl) ka0 (om_lt ka0 (by decide)) dX0_joinToEach_103 e1o ?_
      exact om_vret (st := []) O (om_eV hE h) rfl dX0_joinToEach_106
    · replace h := (if_neg c1o).symm.trans h
      refine om_aload_n O 0 dX0_joinToEach_27 rfl rfl ?_
      revert h; refine om_refR (fun t1o y1o k1o h => ?_)
      refine gf_X0_9 O ka0 (om_lt ka0 (by decide)) dX0_joinToEach_28 ?_
      rw [y1o]
      refine om_aload_n O 0 dX0_joinToEach_31 rfl rfl ?_
      refine gf_X0_21 O ka0 (om_lt ka0 (by decide)) dX0_joinToEach_32 ?_
      refine om_iload O 4 dX0_joinToEach_35 rfl ?_
      refine om_iadd O dX0_joinToEach_37 ?_
      refine om_aload_n O 0 dX0_joinToEach_38 rfl rfl ?_
      revert h; refine om_refR (fun t2o y2o k2o h => ?_)
      refine gf_X0_9 O ka0 (om_lt ka0 (by decide)) dX0_joinToEach_39 ?_
      rw [y2o]
      refine om_iload O 4 dX0_joinToEach_42 rfl ?_
      revert h; refine om_iteR (fun i1o h => ?_)
      refine om_iald O k2o (om_lt k2o (by decide)) i1o dX0_joinToEach_44 ?_
      refine om_iload_n O 1 dX0_joinToEach_45 rfl rfl ?_
      refine om_ior O dX0_joinToEach_46 ?_
      revert h; refine om_iteR (fun i2o h => ?_)
      revert h; refine om_letR (fun σ2o e2o h => ?_)
      refine om_iast O k1o (om_lt k1o (by decide)) i2o dX0_joinToEach_47 e2o ?_
      refine om_aload_n O 0 dX0_joinToEach_48 rfl rfl ?_
      revert h; refine om_refR (fun t3o y3o k3o h => ?_)
      refine gf_X0_15 O ka0 (om_lt ka0 (by decide)) dX0_joinToEach_49 ?_
      rw [y3o]
      refine om_aload_n O 0 dX0_joinToEach_52 rfl rfl ?_
      refine gf_X0_21 O ka0 (om_lt ka0 (by decide)) dX0_joinToEach_53 ?_
      refine om_iload O 4 dX0_joinToEach_56 rfl ?_
      refine om_iadd O dX0_joinToEach_58 ?_
      refine om_aload_n O 0 dX0_joinToEach_59 rfl rfl ?_
      revert h; refine om_refR (fun t4o y4o k4o h => ?_)
      refine gf_X0_15 O ka0 (om_lt ka0 (by decide)) dX0_joinToEach_60 ?_
      rw [y4o]
      refine om_iload O 4 dX0_joinToEach_63 rfl ?_
      revert h; refine om_iteR (fun i3o h => ?_)
      refine om_iald O k4o (om_lt k4o (by decide)) i3o dX0_joinToEach_65 ?_
      refine om_iload_n O 2 dX0_joinToEach_66 rfl rfl ?_
      refine om_iadd O dX0_joinToEach_67 ?_
      revert h; refine om_iteR (fun i4o h => ?_)
      revert h; refine om_letR (fun σ3o e3o h => ?_)
      refine om_iast O k3o (om_lt k3o (by decide)) i4o dX0_joinToEach_68 e3o ?_
      refine om_aload_n O 0 dX0_joinToEach_69 rfl rfl ?_
      revert h; refine om_refR (fun t5o y5o k5o h => ?_)
      refine gf_X0_18 O ka0 (om_lt ka0 (by decide)) dX0_joinToEach_70 ?_
      rw [y5o]
      refine om_aload_n O 0 dX0_joinToEach_73 rfl rfl ?_
      refine gf_X0_21 O ka0 (om_lt ka0 (by decide)) dX0_joinToEach_74 ?_
      refine om_iload O 4 dX0_joinToEach_77 rfl ?_
      refine om_iadd O dX0_joinToEach_79 ?_
      refine om_aload_n O 0 dX0_joinToEach_80 rfl rfl ?_
      revert h; refine om_refR (fun t6o y6o k6o h => ?_)
      refine gf_X0_18 O ka0 (om_lt ka0 (by decide)) dX0_joinToEach_81 ?_
      rw [y6o]
      refine om_iload O 4 dX0_joinToEach_84 rfl ?_
      revert h; refine om_iteR (fun i5o h => ?_)
      refine om_iald O k6o (om_lt k6o (by decide)) i5o dX0_joinToEach_86 ?_
      refine om_iload_n O 3 dX0_joinToEach_87 rfl rfl ?_
      refine om_iadd O dX0_joinToEach_88 ?_
      revert h; refine om_iteR (fun i6o h => ?_)
      revert h; refine om_letR (fun σ4o e4o h => ?_)
      refine om_iast O k5o (om_lt k5o (by decide)) i6o dX0_joinToEach_89 e4o ?_
      refine om_iinc O (v1 := (v4 + 1)) (lv' := [(0, vR (some a0)), (1, vI v1), (2, vI v2), (3, vI v3), (4, vI (v4 + 1))]) 4 [1, 2, 3, 4, 0] rfl dX0_joinToEach_90 rfl rfl (by decide) rfl ?_
      refine om_goto O (tgt := 18) dX0_joinToEach_93 (by decide) ?_
      exact ih _ _ _ _ _ _ ka0 h
def f_X0_joinToEach  (a0 : Nat) (v1 : Int32) (v2 : Int32) (v3 : Int32) (σ : om_S) : Option om_S := if om_kc a0 = 0 then om_ref (om_rf a0 0) 20 fun (t1o : Nat) => if ((σ a0 3) * (2 : Int32)) ≤ (Int32.ofNat (om_al t1o)) then (f_X0_joinToEach_b18 om_F a0 v1 v2 v3 (0 : Int32) σ) else (some σ) else none
set_option maxRecDepth 100000 in
theorem c_X0_joinToEach (l : Launch) (G : om_G) {a0 : Nat} {v1 : Int32} {v2 : Int32} {v3 : Int32} {σ : om_S} {τ : om_S} (h : f_X0_joinToEach a0 v1 v2 v3 σ = some τ) : om_D l G 0 yX0_joinToEach cX0_joinToEach 5 none 0 0 [vR (some a0), vI v1, vI v2, vI v3] σ om_rf om_N none τ om_rf om_N := by
  refine om_Dof (lv := [(0, vR (some a0)), (1, vI v1), (2, vI v2), (3, vI v3)]) (by decide) rfl_le rfl (fun x O hE => ?_)
  change om_Ok x RX0 "joinToEach" cX0_joinToEach 5 none 0 0 0 at O
  unfold f_X0_joinToEach at h
  revert h; refine om_iteR (fun ka0 h => ?_)
  refine om_aload_n O 0 dX0_joinToEach_0 rfl rfl ?_
  refine gf_X0_21 O ka0 (om_lt ka0 (by decide)) dX0_joinToEach_1 ?_
  refine om_iconst O (v := 2) dX0_joinToEach_4 (by decide) ?_
  refine om_imul O dX0_joinToEach_5 ?_
  refine om_aload_n O 0 dX0_joinToEach_6 rfl rfl ?_
  revert h; refine om_refR (fun t1o y1o k1o h => ?_)
  refine gf_X0_9 O ka0 (om_lt ka0 (by decide)) dX0_joinToEach_7 ?_
  rw [y1o]
  refine om_alen O k1o (om_lt k1o (by decide)) rfl dX0_joinToEach_10 ?_
  refine om_icmp_le O (tgt := 15) dX0_joinToEach_11 (by decide) (fun c1o => ?_) (fun c1o => ?_)
  · replace h := (if_pos c1o).symm.trans h
    refine om_iconst O (v := 0) dX0_joinToEach_15 (by decide) ?_
    refine om_istore O (lv' := [(0, vR (some a0)), (1, vI v1), (2, vI v2), (3, vI v3), (4, vI (0 : Int32))]) [1, 2, 3, 4, 0] rfl dX0_joinToEach_16 (by decide) rfl ?_
    exact g_X0_joinToEach_b18 O hE om_F _ _ _ _ _ _ ka0 h
  · replace h := (if_neg c1o).symm.trans h
    exact om_vret (st := []) O (om_eV hE h) rfl dX0_joinToEach_14
def f_X6_keepersWithOil_b36 (lp4 : Nat → Int32 → Int32 → om_S → Option (Int32 × om_S)) (a0 : Nat) (v1 : Int32) (v2 : Int32) (σ : om_S) : Option (Int32 × om_S) := lp4 a0 v1 (v2 + 1) σ
set_option maxRecDepth 100000 in
theorem g_X6_keepersWithOil_b36 {x : om_X}   (O : om_Ok x RX6 "keepersWithOil" cX6_keepersWithOil 4 (some FieldType.int) 1 0 0)   {r : Int32} {τ : om_S} (hE : om_End x (some (vI r)) τ om_rf om_N 0 0) {lp4 : Nat → Int32 → Int32 → om_S → Option (Int32 × om_S)} (L4 : ∀ (a0 : Nat) (v1 : Int32) (v2 : Int32) (σ : om_S) (ka0 : om_kc a0 = 6), lp4 a0 v1 v2 σ = some (r, τ) → om_J x 4 [(0, vR (some a0)), (1, vI v1), (2, vI v2)] [] σ om_rf om_N 0 0) {a0 : Nat} {v1 : Int32} {v2 : Int32} {σ : om_S} (ka0 : om_kc a0 = 6) (h : f_X6_keepersWithOil_b36 lp4 a0 v1 v2 σ = some (r, τ)) : om_J x 36 [(0, vR (some a0)), (1, vI v1), (2, vI v2)] [] σ om_rf om_N 0 0 := by
  unfold f_X6_keepersWithOil_b36 at h
  refine om_iinc O (v1 := (v2 + 1)) (lv' := [(0, vR (some a0)), (1, vI v1), (2, vI (v2 + 1))]) 2 [1, 2, 0] rfl dX6_keepersWithOil_36 rfl rfl (by decide) rfl ?_
  refine om_goto O (tgt := 4) dX6_keepersWithOil_39 (by decide) ?_
  exact L4 _ _ _ _ ka0 h
def f_X6_keepersWithOil_b4  : Nat → Nat → Int32 → Int32 → om_S → Option (Int32 × om_S)
  | 0, _, _, _, _ => none
  | F + 1, a0, v1, v2, σ => if (σ a0 3) ≤ v2 then (om_call (f_J6_bitCount_0f7a4 v1 σ) fun (r1o : Int32) (σ1o : om_S) => some (r1o, σ1o)) else (om_call (f_X6_at a0 v2 σ) fun (r2o : Option Nat) (σ2o : om_S) => om_nul r2o 1 (f_X6_keepersWithOil_b36 (f_X6_keepersWithOil_b4 F) a0 v1 v2 σ2o) fun (t1o : Nat) => if (σ2o t1o 3) ≤ 0 then (f_X6_keepersWithOil_b36 (f_X6_keepersWithOil_b4 F) a0 v1 v2 σ2o) else (f_X6_keepersWithOil_b36 (f_X6_keepersWithOil_b4 F) a0 (v1 ||| (σ2o t1o 2)) v2 σ2o))
set_option maxRecDepth 100000 in
theorem g_X6_keepersWithOil_b4 {x : om_X}   (O : om_Ok x RX6 "keepersWithOil" cX6_keepersWithOil 4 (some FieldType.int) 1 0 0)   {r : Int32} {τ : om_S} (hE : om_End x (some (vI r)) τ om_rf om_N 0 0)   : ∀ (F : Nat) (a0 : Nat) (v1 : Int32) (v2 : Int32) (σ : om_S) (ka0 : om_kc a0 = 6), f_X6_keepersWithOil_b4 F a0 v1 v2 σ = some (r, τ) → om_J x 4 [(0, vR (some a0)), (1, vI v1), (2, vI v2)] [] σ om_rf om_N 0 0 := by
  intro F
  induction F with
  | zero =>
    intro a0 v1 v2 σ ka0 h
    cases h
  | succ F ih =>
    intro a0 v1 v2 σ ka0 h
    unfold f_X6_keepersWithOil_b4 at h
    refine om_iload_n O 2 dX6_keepersWithOil_4 rfl rfl ?_
    refine om_aload_n O 0 dX6_keepersWithOil_5 rfl rfl ?_
    refine gf_X6_29 O ka0 (om_lt ka0 (by decide)) dX6_keepersWithOil_6 ?_
    refine om_icmp_ge O (tgt := 42) dX6_keepersWithOil_9 (by decide) (fun c1o => ?_) (fun c1o => ?_)
    · replace h := (if_pos c1o).symm.trans h
      refine om_iload_n O 1 dX6_keepersWithOil_42 rfl rfl ?_
      revert h; refine om_callR (fun r1o σ1o g1o h => ?_)
      refine cl_X6_80 O (st := []) (stk := [vI v1]) (st2 := [vI r1o]) [vI v1] (fun l G => c_J6_bitCount_0f7a4 l G g1o) (by decide) rfl rfl rfl_le rfl rfl_le rfl_le dX6_keepersWithOil_43 ?_
      exact om_iret (st := []) O (om_eI hE h) rfl dX6_keepersWithOil_46
    · replace h := (if_neg c1o).symm.trans h
      refine om_aload_n O 0 dX6_keepersWithOil_12 rfl rfl ?_
      refine om_iload_n O 2 dX6_keepersWithOil_13 rfl rfl ?_
      revert h; refine om_callR (fun r2o σ2o g2o h => ?_)
      refine cl_X6_57 O (st := []) (stk := [vI v2, vR (some a0)]) (st2 := [vR r2o]) [vI v2] (fun l G => c_X6_at l G g2o) ka0 (om_lt ka0 (by decide)) (by decide) rfl rfl rfl_le rfl rfl_le rfl_le dX6_keepersWithOil_14 ?_
      refine om_astore_n O (lv' := [(0, vR (some a0)), (1, vI v1), (2, vI v2), (3, vR r2o)]) [1, 2, 3, 0] dX6_keepersWithOil_17 rfl (by decide) rfl ?_
      refine om_aload_n O 3 dX6_keepersWithOil_18 rfl rfl ?_
      revert h; refine om_nulR (fun yy h => ?_) (fun t1o yy k1o h => ?_)
      · subst yy
        refine om_ifnullN O (tgt := 36) dX6_keepersWithOil_19 (by decide) ?_
        refine om_drop (lv' := [(0, vR (some a0)), (1, vI v1), (2, vI v2)]) [0, 1, 2] rfl ?_
        exact g_X6_keepersWithOil_b36 O hE ih ka0 h
      · subst yy
        refine om_ifnullS O dX6_keepersWithOil_19 ?_
        refine om_aload_n O 3 dX6_keepersWithOil_22 rfl rfl ?_
        refine gf_X6_70 O k1o (om_lt k1o (by decide)) dX6_keepersWithOil_23 ?_
        refine om_if_le O (tgt := 36) dX6_keepersWithOil_26 (by decide) (fun c2o => ?_) (fun c2o => ?_)
        · replace h := (if_pos c2o).symm.trans h
          refine om_drop (lv' := [(0, vR (some a0)), (1, vI v1), (2, vI v2)]) [0, 1, 2] rfl ?_
          exact g_X6_keepersWithOil_b36 O hE ih ka0 h
        · replace h := (if_neg c2o).symm.trans h
          refine om_iload_n O 1 dX6_keepersWithOil_29 rfl rfl ?_
          refine om_aload_n O 3 dX6_keepersWithOil_30 rfl rfl ?_
          refine gf_X6_67 O k1o (om_lt k1o (by decide)) dX6_keepersWithOil_31 ?_
          refine om_ior O dX6_keepersWithOil_34 ?_
          refine om_istore_n O (lv' := [(0, vR (some a0)), (1, vI (v1 ||| (σ2o t1o 2))), (2, vI v2)]) [1, 0, 2] rfl dX6_keepersWithOil_35 rfl (by decide) rfl ?_
          exact g_X6_keepersWithOil_b36 O hE ih ka0 h
def f_X6_keepersWithOil  (a0 : Nat) (σ : om_S) : Option (Int32 × om_S) := if om_kc a0 = 6 then f_X6_keepersWithOil_b4 om_F a0 (0 : Int32) (0 : Int32) σ else none
set_option maxRecDepth 100000 in
theorem c_X6_keepersWithOil (l : Launch) (G : om_G) {a0 : Nat} {σ : om_S} {r : Int32} {τ : om_S} (h : f_X6_keepersWithOil a0 σ = some (r, τ)) : om_D l G 1 yX6_keepersWithOil cX6_keepersWithOil 4 (some FieldType.int) 0 0 [vR (some a0)] σ om_rf om_N (some (vI r)) τ om_rf om_N := by
  refine om_Dof (lv := [(0, vR (some a0))]) (by decide) rfl_le rfl (fun x O hE => ?_)
  change om_Ok x RX6 "keepersWithOil" cX6_keepersWithOil 4 (some FieldType.int) 1 0 0 at O
  unfold f_X6_keepersWithOil at h
  revert h; refine om_iteR (fun ka0 h => ?_)
  refine om_iconst O (v := 0) dX6_keepersWithOil_0 (by decide) ?_
  refine om_istore_n O (lv' := [(0, vR (some a0)), (1, vI (0 : Int32))]) [1, 0] rfl dX6_keepersWithOil_1 rfl (by decide) rfl ?_
  refine om_iconst O (v := 0) dX6_keepersWithOil_2 (by decide) ?_
  refine om_istore_n O (lv' := [(0, vR (some a0)), (1, vI (0 : Int32)), (2, vI (0 : Int32))]) [1, 2, 0] rfl dX6_keepersWithOil_3 rfl (by decide) rfl ?_
  exact g_X6_keepersWithOil_b4 O hE om_F _ _ _ _ ka0 h
def f_X6_wanted  (a0 : Nat) (σ : om_S) : Option (Int32 × om_S) := if om_kc a0 = 6 then om_ref (om_rf a0 2) 5 fun (t1o : Nat) => om_call (f_X6_keepersWithOil a0 σ) fun (r1o : Int32) (σ1o : om_S) => om_call (f_X5_gives t1o (σ a0 4) ((σ a0 5) - (σ a0 5) / (7 : Int32) * (7 : Int32)) r1o σ1o) fun (r2o : Int32) (σ2o : om_S) => some (r2o, σ2o) else none
set_option maxRecDepth 100000 in
theorem c_X6_wanted (l : Launch) (G : om_G) {a0 : Nat} {σ : om_S} {r : Int32} {τ : om_S} (h : f_X6_wanted a0 σ = some (r, τ)) : om_D l G 2 yX6_wanted cX6_wanted 1 (some FieldType.int) 0 0 [vR (some a0)] σ om_rf om_N (some (vI r)) τ om_rf om_N := by
  refine om_Dof (lv := [(0, vR (some a0))]) (by decide) rfl_le rfl (fun x O hE => ?_)
  change om_Ok x RX6 "wanted" cX6_wanted 1 (some FieldType.int) 2 0 0 at O
  unfold f_X6_wanted at h
  revert h; refine om_iteR (fun ka0 h => ?_)
  refine om_aload_n O 0 dX6_wanted_0 rfl rfl ?_
  revert h; refine om_refR (fun t1o y1o k1o h => ?_)
  refine gf_X6_26 O ka0 (om_lt ka0 (by decide)) dX6_wanted_1 ?_
  rw [y1o]
  refine om_aload_n O 0 dX6_wanted_4 rfl rfl ?_
  refine gf_X6_33 O ka0 (om_lt ka0 (by decide)) dX6_wanted_5 ?_
  refine om_aload_n O 0 dX6_wanted_8 rfl rfl ?_
  refine gf_X6_36 O ka0 (om_lt ka0 (by decide)) dX6_wanted_9 ?_
  refine om_bipush O (v := 7) dX6_wanted_12 (by decide) ?_
  refine om_irem O dX6_wanted_14 (by decide) ?_
  refine om_aload_n O 0 dX6_wanted_15 rfl rfl ?_
  revert h; refine om_callR (fun r1o σ1o g1o h => ?_)
  refine cl_X6_96 O (st := [vI ((σ a0 5) - (σ a0 5) / (7 : Int32) * (7 : Int32)), vI (σ a0 4), vR (some t1o)]) (stk := [vR (some a0), vI ((σ a0 5) - (σ a0 5) / (7 : Int32) * (7 : Int32)), vI (σ a0 4), vR (some t1o)]) (st2 := [vI r1o, vI ((σ a0 5) - (σ a0 5) / (7 : Int32) * (7 : Int32)), vI (σ a0 4), vR (some t1o)]) [] (fun l G => c_X6_keepersWithOil l G g1o) ka0 (om_lt ka0 (by decide)) (by decide) rfl rfl rfl_le rfl rfl_le rfl_le dX6_wanted_16 ?_
  revert h; refine om_callR (fun r2o σ2o g2o h => ?_)
  refine cl_X6_85 O (st := []) (stk := [vI r1o, vI ((σ a0 5) - (σ a0 5) / (7 : Int32) * (7 : Int32)), vI (σ a0 4), vR (some t1o)]) (st2 := [vI r2o]) [vI (σ a0 4), vI ((σ a0 5) - (σ a0 5) / (7 : Int32) * (7 : Int32)), vI r1o] (fun l G => c_X5_gives l G g2o) k1o (om_lt k1o (by decide)) (by decide) rfl rfl rfl_le rfl rfl_le rfl_le dX6_wanted_19 ?_
  exact om_iret (st := []) O (om_eI hE h) rfl dX6_wanted_22
def f_X0_takeLeastDear_b66 (lp9 : Nat → Int32 → Int32 → Int32 → om_S → Option om_S) (a0 : Nat) (v1 : Int32) (v2 : Int32) (v3 : Int32) (σ : om_S) : Option om_S := lp9 a0 v1 v2 (v3 + 1) σ
set_option maxRecDepth 100000 in
theorem g_X0_takeLeastDear_b66 {x : om_X}   (O : om_Ok x RX0 "takeLeastDear" cX0_takeLeastDear 4 none 0 0 0)   {τ : om_S} (hE : om_End x none τ om_rf om_N 0 0) {lp9 : Nat → Int32 → Int32 → Int32 → om_S → Option om_S} (L9 : ∀ (a0 : Nat) (v1 : Int32) (v2 : Int32) (v3 : Int32) (σ : om_S) (ka0 : om_kc a0 = 0), lp9 a0 v1 v2 v3 σ = some τ → om_J x 9 [(0, vR (some a0)), (1, vI v1), (2, vI v2), (3, vI v3)] [] σ om_rf om_N 0 0) {a0 : Nat} {v1 : Int32} {v2 : Int32} {v3 : Int32} {σ : om_S} (ka0 : om_kc a0 = 0) (h : f_X0_takeLeastDear_b66 lp9 a0 v1 v2 v3 σ = some τ) : om_J x 66 [(0, vR (some a0)), (1, vI v1), (2, vI v2), (3, vI v3)] [] σ om_rf om_N 0 0 := by
  unfold f_X0_takeLeastDear_b66 at h
  refine om_iinc O (v1 := (v3 + 1)) (lv' := [(0, vR (some a0)), (1, vI v1), (2, vI v2), (3, vI (v3 + 1))]) 3 [1, 2, 3, 0] rfl dX0_takeLeastDear_66 rfl rfl (by decide) rfl ?_
  refine om_goto O (tgt := 9) dX0_takeLeastDear_69 (by decide) ?_
  exact L9 _ _ _ _ _ ka0 h
def f_X0_takeLeastDear_b54 (lp9 : Nat → Int32 → Int32 → Int32 → om_S → Option om_S) (a0 : Nat) (v1 : Int32) (v3 : Int32) (σ : om_S) : Option om_S := om_let (om_w σ a0 4 v3) fun (σ1o : om_S) => om_ref (om_rf a0 2) 20 fun (t1o : Nat) => if om_in v3 (om_al t1o) then om_let (σ1o t1o v3.toNatClampNeg) fun (x1o : Int32) => f_X0_takeLeastDear_b66 lp9 a0 v1 x1o v3 σ1o else none
set_option maxRecDepth 100000 in
theorem g_X0_takeLeastDear_b54 {x : om_X}   (O : om_Ok x RX0 "takeLeastDear" cX0_takeLeastDear 4 none 0 0 0)   {τ : om_S} (hE : om_End x none τ om_rf om_N 0 0) {lp9 : Nat → Int32 → Int32 → Int32 → om_S → Option om_S} (L9 : ∀ (a0 : Nat) (v1 : Int32) (v2 : Int32) (v3 : Int32) (σ : om_S) (ka0 : om_kc a0 = 0), lp9 a0 v1 v2 v3 σ = some τ → om_J x 9 [(0, vR (some a0)), (1, vI v1), (2, vI v2), (3, vI v3)] [] σ om_rf om_N 0 0) {a0 : Nat} {v1 : Int32} {v3 : Int32} {σ : om_S} (ka0 : om_kc a0 = 0) (h : f_X0_takeLeastDear_b54 lp9 a0 v1 v3 σ = some τ) : om_J x 54 [(0, vR (some a0)), (1, vI v1), (3, vI v3)] [] σ om_rf om_N 0 0 := by
  unfold f_X0_takeLeastDear_b54 at h
  refine om_aload_n O 0 dX0_takeLeastDear_54 rfl rfl ?_
  refine om_iload_n O 2 dX0_takeLeastDear_55 rfl rfl ?_
  revert h; refine om_letR (fun σ1o e1o h => ?_)
  refine pf_X0_25 O (Or.inl rfl) ka0 (om_lt ka0 (by decide)) dX0_takeLeastDear_56 e1o ?_
  refine om_aload_n O 0 dX0_takeLeastDear_59 rfl rfl ?_
  revert h; refine om_refR (fun t1o y1o k1o h => ?_)
  refine gf_X0_18 O ka0 (om_lt ka0 (by decide)) dX0_takeLeastDear_60 ?_
  rw [y1o]
  refine om_iload_n O 2 dX0_takeLeastDear_63 rfl rfl ?_
  revert h; refine om_iteR (fun i1o h => ?_)
  refine om_iald O k1o (om_lt k1o (by decide)) i1o dX0_takeLeastDear_64 ?_
  revert h; refine om_letR (fun x1o e2o h => ?_)
  refine om_istore_n O (lv' := [(0, vR (some a0)), (1, vI v1), (2, vI x1o), (3, vI v3)]) [1, 2, 0, 3] e2o dX0_takeLeastDear_65 rfl (by decide) rfl ?_
  exact g_X0_takeLeastDear_b66 O hE L9 ka0 h
def f_X0_takeLeastDear_b9  : Nat → Nat → Int32 → Int32 → Int32 → om_S → Option om_S
  | 0, _, _, _, _, _ => none
  | F + 1, a0, v1, v2, v3, σ => if (σ a0 3) ≤ v3 then (some σ) else (om_ref (om_rf a0 0) 20 fun (t1o : Nat) => if (Int32.ofNat (om_al t1o)) ≤ v3 then (some σ) else (om_ref (om_rf a0 1) 20 fun (t2o : Nat) => if om_in v3 (om_al t2o) then if (σ t2o v3.toNatClampNeg) < v1 then (f_X0_takeLeastDear_b66 (f_X0_takeLeastDear_b9 F) a0 v1 v2 v3 σ) else (if (σ a0 4) = (-1 : Int32) then (f_X0_takeLeastDear_b54 (f_X0_takeLeastDear_b9 F) a0 v1 v3 σ) else (om_ref (om_rf a0 2) 20 fun (t3o : Nat) => if om_in v3 (om_al t3o) then if v2 ≤ (σ t3o v3.toNatClampNeg) then (f_X0_takeLeastDear_b66 (f_X0_takeLeastDear_b9 F) a0 v1 v2 v3 σ) else (f_X0_takeLeastDear_b54 (f_X0_takeLeastDear_b9 F) a0 v1 v3 σ) else none)) else none))
set_option maxRecDepth 100000 in
theorem g_X0_takeLeastDear_b9 {x : om_X}   (O : om_Ok x RX0 "takeLeastDear" cX0_takeLeastDear 4 none 0 0 0)   {τ : om_S} (hE : om_End x none τ om_rf om_N 0 0)   : ∀ (F : Nat) (a0 : Nat) (v1 : Int32) (v2 : Int32) (v3 : Int32) (σ : om_S) (ka0 : om_kc a0 = 0), f_X0_takeLeastDear_b9 F a0 v1 v2 v3 σ = some τ → om_J x 9 [(0, vR (some a0)), (1, vI v1), (2, vI v2), (3, vI v3)] [] σ om_rf om_N 0 0 := by
  intro F
  induction F with
  | zero =>
    intro a0 v1 v2 v3 σ ka0 h
    cases h
  | succ F ih =>
    intro a0 v1 v2 v3 σ ka0 h
    unfold f_X0_takeLeastDear_b9 at h
    refine om_iload_n O 3 dX0_takeLeastDear_9 rfl rfl ?_
    refine om_aload_n O 0 dX0_takeLeastDear_10 rfl rfl ?_
    refine gf_X0_21 O ka0 (om_lt ka0 (by decide)) dX0_takeLeastDear_11 ?_
    refine om_icmp_ge O (tgt := 72) dX0_takeLeastDear_14 (by decide) (fun c1o => ?_) (fun c1o => ?_)
    · replace h := (if_pos c1o).symm.trans h
      exact om_vret (st := []) O (om_eV hE h) rfl dX0_takeLeastDear_72
    · replace h := (if_neg c1o).symm.trans h
      refine om_iload_n O 3 dX0_takeLeastDear_17 rfl rfl ?_
      refine om_aload_n O 0 dX0_takeLeastDear_18 rfl rfl ?_
      revert h; refine om_refR (fun t1o y1o k1o h => ?_)
      refine gf_X0_9 O ka0 (om_lt ka0 (by decide)) dX0_takeLeastDear_19 ?_
      rw [y1o]
      refine om_alen O k1o (om_lt k1o (by decide)) rfl dX0_takeLeastDear_22 ?_
      refine om_icmp_ge O (tgt := 72) dX0_takeLeastDear_23 (by decide) (fun c2o => ?_) (fun c2o => ?_)
      · replace h := (if_pos c2o).symm.trans h
        exact om_vret (st := []) O (om_eV hE h) rfl dX0_takeLeastDear_72
      · replace h := (if_neg c2o).symm.trans h
        refine om_aload_n O 0 dX0_takeLeastDear_26 rfl rfl ?_
        revert h; refine om_refR (fun t2o y2o k2o h => ?_)
        refine gf_X0_15 O ka0 (om_lt ka0 (by decide)) dX0_takeLeastDear_27 ?_
        rw [y2o]
        refine om_iload_n O 3 dX0_takeLeastDear_30 rfl rfl ?_
        revert h; refine om_iteR (fun i1o h => ?_)
        refine om_iald O k2o (om_lt k2o (by decide)) i1o dX0_takeLeastDear_31 ?_
        refine om_iload_n O 1 dX0_takeLeastDear_32 rfl rfl ?_
        refine om_icmp_lt O (tgt := 66) dX0_takeLeastDear_33 (by decide) (fun c3o => ?_) (fun c3o => ?_)
        · replace h := (if_pos c3o).symm.trans h
          exact g_X0_takeLeastDear_b66 O hE ih ka0 h
        · replace h := (if_neg c3o).symm.trans h
          refine om_aload_n O 0 dX0_takeLeastDear_36 rfl rfl ?_
          refine gf_X0_25 O ka0 (om_lt ka0 (by decide)) dX0_takeLeastDear_37 ?_
          refine om_iconst O (v := -1) dX0_takeLeastDear_40 (by decide) ?_
          refine om_icmp_eq O (tgt := 54) dX0_takeLeastDear_41 (by decide) (fun c4o => ?_) (fun c4o => ?_)
          · replace h := (if_pos c4o).symm.trans h
            refine om_drop (lv' := [(0, vR (some a0)), (1, vI v1), (3, vI v3)]) [0, 1, 3] rfl ?_
            exact g_X0_takeLeastDear_b54 O hE ih ka0 h
          · replace h := (if_neg c4o).symm.trans h
            refine om_aload_n O 0 dX0_takeLeastDear_44 rfl rfl ?_
            revert h; refine om_refR (fun t3o y3o k3o h => ?_)
            refine gf_X0_18 O ka0 (om_lt ka0 (by decide)) dX0_takeLeastDear_45 ?_
            rw [y3o]
            refine om_iload_n O 3 dX0_takeLeastDear_48 rfl rfl ?_
            revert h; refine om_iteR (fun i2o h => ?_)
            refine om_iald O k3o (om_lt k3o (by decide)) i2o dX0_takeLeastDear_49 ?_
            refine om_iload_n O 2 dX0_takeLeastDear_50 rfl rfl ?_
            refine om_icmp_ge O (tgt := 66) dX0_takeLeastDear_51 (by decide) (fun c5o => ?_) (fun c5o => ?_)
            · replace h := (if_pos c5o).symm.trans h
              exact g_X0_takeLeastDear_b66 O hE ih ka0 h
            · replace h := (if_neg c5o).symm.trans h
              refine om_drop (lv' := [(0, vR (some a0)), (1, vI v1), (3, vI v3)]) [0, 1, 3] rfl ?_
              exact g_X0_takeLeastDear_b54 O hE ih ka0 h
def f_X0_takeLeastDear  (a0 : Nat) (v1 : Int32) (σ : om_S) : Option om_S := if om_kc a0 = 0 then om_let (om_w σ a0 4 (-1 : Int32)) fun (σ1o : om_S) => f_X0_takeLeastDear_b9 om_F a0 v1 (0 : Int32) (0 : Int32) σ1o else none
set_option maxRecDepth 100000 in
theorem c_X0_takeLeastDear (l : Launch) (G : om_G) {a0 : Nat} {v1 : Int32} {σ : om_S} {τ : om_S} (h : f_X0_takeLeastDear a0 v1 σ = some τ) : om_D l G 0 yX0_takeLeastDear cX0_takeLeastDear 4 none 0 0 [vR (some a0), vI v1] σ om_rf om_N none τ om_rf om_N := by
  refine om_Dof (lv := [(0, vR (some a0)), (1, vI v1)]) (by decide) rfl_le rfl (fun x O hE => ?_)
  change om_Ok x RX0 "takeLeastDear" cX0_takeLeastDear 4 none 0 0 0 at O
  unfold f_X0_takeLeastDear at h
  revert h; refine om_iteR (fun ka0 h => ?_)
  refine om_aload_n O 0 dX0_takeLeastDear_0 rfl rfl ?_
  refine om_iconst O (v := -1) dX0_takeLeastDear_1 (by decide) ?_
  revert h; refine om_letR (fun σ1o e1o h => ?_)
  refine pf_X0_25 O (Or.inl rfl) ka0 (om_lt ka0 (by decide)) dX0_takeLeastDear_2 e1o ?_
  refine om_iconst O (v := 0) dX0_takeLeastDear_5 (by decide) ?_
  refine om_istore_n O (lv' := [(0, vR (some a0)), (1, vI v1), (2, vI (0 : Int32))]) [1, 2, 0] rfl dX0_takeLeastDear_6 rfl (by decide) rfl ?_
  refine om_iconst O (v := 0) dX0_takeLeastDear_7 (by decide) ?_
  refine om_istore_n O (lv' := [(0, vR (some a0)), (1, vI v1), (2, vI (0 : Int32)), (3, vI (0 : Int32))]) [1, 2, 3, 0] rfl dX0_takeLeastDear_8 rfl (by decide) rfl ?_
  exact g_X0_takeLeastDear_b9 O hE om_F _ _ _ _ _ ka0 h
def f_X0_find_b58 (lp7 : Nat → Nat → Int32 → Int32 → om_S → Option (Int32 × om_S)) (a0 : Nat) (a1 : Nat) (v2 : Int32) (v3 : Int32) (σ : om_S) : Option (Int32 × om_S) := lp7 a0 a1 v2 (v3 + 1) σ
set_option maxRecDepth 100000 in
theorem g_X0_find_b58 {x : om_X}   (O : om_Ok x RX0 "find" cX0_find 5 (some FieldType.boolean) 4 0 0)   {r : Int32} {τ : om_S} (hE : om_End x (some (vI r)) τ om_rf om_N 0 0) {lp7 : Nat → Nat → Int32 → Int32 → om_S → Option (Int32 × om_S)} (L7 : ∀ (a0 : Nat) (a1 : Nat) (v2 : Int32) (v3 : Int32) (σ : om_S) (ka0 : om_kc a0 = 0) (ka1 : om_kc a1 = 6), lp7 a0 a1 v2 v3 σ = some (r, τ) → om_J x 7 [(0, vR (some a0)), (1, vR (some a1)), (2, vI v2), (3, vI v3)] [] σ om_rf om_N 0 0) {a0 : Nat} {a1 : Nat} {v2 : Int32} {v3 : Int32} {σ : om_S} (ka0 : om_kc a0 = 0) (ka1 : om_kc a1 = 6) (h : f_X0_find_b58 lp7 a0 a1 v2 v3 σ = some (r, τ)) : om_J x 58 [(0, vR (some a0)), (1, vR (some a1)), (2, vI v2), (3, vI v3)] [] σ om_rf om_N 0 0 := by
  unfold f_X0_find_b58 at h
  refine om_iinc O (v1 := (v3 + 1)) (lv' := [(0, vR (some a0)), (1, vR (some a1)), (2, vI v2), (3, vI (v3 + 1))]) 3 [1, 2, 3, 0] rfl dX0_find_58 rfl rfl (by decide) rfl ?_
  refine om_goto O (tgt := 7) dX0_find_61 (by decide) ?_
  exact L7 _ _ _ _ _ ka0 ka1 h
def f_X0_find_b7  : Nat → Nat → Nat → Int32 → Int32 → om_S → Option (Int32 × om_S)
  | 0, _, _, _, _, _ => none
  | F + 1, a0, a1, v2, v3, σ => if (σ a1 3) ≤ v3 then (om_call (f_X6_wanted a1 σ) fun (r1o : Int32) (σ1o : om_S) => om_do (f_X0_takeLeastDear a0 r1o σ1o) fun (σ2o : om_S) => if (σ2o a0 4) = (-1 : Int32) then (some ((0 : Int32), σ2o)) else (some ((1 : Int32), σ2o))) else (om_call (f_X6_at a1 v3 σ) fun (r2o : Option Nat) (σ3o : om_S) => om_nul r2o 1 (f_X0_find_b58 (f_X0_find_b7 F) a0 a1 v2 v3 σ3o) fun (t1o : Nat) => if (σ3o t1o 3) ≤ 0 then (f_X0_find_b58 (f_X0_find_b7 F) a0 a1 v2 v3 σ3o) else (if v3 = v2 then (f_X0_find_b58 (f_X0_find_b7 F) a0 a1 v2 v3 σ3o) else (om_call (f_X6_gives a1 t1o σ3o) fun (r3o : Int32) (σ4o : om_S) => om_do (f_X0_joinToEach a0 ((1 : Int32) <<< (v3 &&& 31)) r3o (σ4o t1o 4) σ4o) fun (σ5o : om_S) => f_X0_find_b58 (f_X0_find_b7 F) a0 a1 v2 v3 σ5o)))
set_option maxRecDepth 100000 in
theorem g_X0_find_b7 {x : om_X}   (O : om_Ok x RX0 "find" cX0_find 5 (some FieldType.boolean) 4 0 0)   {r : Int32} {τ : om_S} (hE : om_End x (some (vI r)) τ om_rf om_N 0 0)   : ∀ (F : Nat) (a0 : Nat) (a1 : Nat) (v2 : Int32) (v3 : Int32) (σ : om_S) (ka0 : om_kc a0 = 0) (ka1 : om_kc a1 = 6), f_X0_find_b7 F a0 a1 v2 v3 σ = some (r, τ) → om_J x 7 [(0, vR (some a0)), (1, vR (some a1)), (2, vI v2), (3, vI v3)] [] σ om_rf om_N 0 0 := by
  intro F
  induction F with
  | zero =>
    intro a0 a1 v2 v3 σ ka0 ka1 h
    cases h
  | succ F ih =>
    intro a0 a1 v2 v3 σ ka0 ka1 h
    unfold f_X0_find_b7 at h
    refine om_iload_n O 3 dX0_find_7 rfl rfl ?_
    refine om_aload_n O 1 dX0_find_8 rfl rfl ?_
    refine gf_X0_28 O ka1 (om_lt ka1 (by decide)) dX0_find_9 ?_
    refine om_icmp_ge O (tgt := 64) dX0_find_12 (by decide) (fun c1o => ?_) (fun c1o => ?_)
    · replace h := (if_pos c1o).symm.trans h
      refine om_aload_n O 0 dX0_find_64 rfl rfl ?_
      refine om_aload_n O 1 dX0_find_65 rfl rfl ?_
      revert h; refine om_callR (fun r1o σ1o g1o h => ?_)
      refine cl_X0_52 O (st := [vR (some a0)]) (stk := [vR (some a1), vR (some a0)]) (st2 := [vI r1o, vR (some a0)]) [] (fun l G => c_X6_wanted l G g1o) ka1 (om_lt ka1 (by decide)) (by decide) rfl rfl rfl_le rfl rfl_le rfl_le dX0_find_66 ?_
      revert h; refine om_doR (fun σ2o g2o h => ?_)
      refine cl_X0_56 O (st := []) (stk := [vI r1o, vR (some a0)]) (st2 := []) [vI r1o] (fun l G => c_X0_takeLeastDear l G g2o) ka0 (om_lt ka0 (by decide)) (by decide) rfl rfl rfl_le rfl rfl_le rfl_le dX0_find_69 ?_
      refine om_aload_n O 0 dX0_find_72 rfl rfl ?_
      refine gf_X0_25 O ka0 (om_lt ka0 (by decide)) dX0_find_73 ?_
      refine om_iconst O (v := -1) dX0_find_76 (by decide) ?_
      refine om_icmp_eq O (tgt := 84) dX0_find_77 (by decide) (fun c2o => ?_) (fun c2o => ?_)
      · replace h := (if_pos c2o).symm.trans h
        refine om_iconst O (v := 0) dX0_find_84 (by decide) ?_
        exact om_zret (st := []) O (Or.inl rfl) (om_eI hE h) rfl dX0_find_85
      · replace h := (if_neg c2o).symm.trans h
        refine om_iconst O (v := 1) dX0_find_80 (by decide) ?_
        refine om_goto O (tgt := 85) dX0_find_81 (by decide) ?_
        exact om_zret (st := []) O (Or.inr rfl) (om_eI hE h) rfl dX0_find_85
    · replace h := (if_neg c1o).symm.trans h
      refine om_aload_n O 1 dX0_find_15 rfl rfl ?_
      refine om_iload_n O 3 dX0_find_16 rfl rfl ?_
      revert h; refine om_callR (fun r2o σ3o g3o h => ?_)
      refine cl_X0_33 O (st := []) (stk := [vI v3, vR (some a1)]) (st2 := [vR r2o]) [vI v3] (fun l G => c_X6_at l G g3o) ka1 (om_lt ka1 (by decide)) (by decide) rfl rfl rfl_le rfl rfl_le rfl_le dX0_find_17 ?_
      refine om_astore O (lv' := [(0, vR (some a0)), (1, vR (some a1)), (2, vI v2), (3, vI v3), (4, vR r2o)]) [1, 2, 3, 4, 0] dX0_find_20 (by decide) rfl ?_
      refine om_aload O 4 dX0_find_22 rfl ?_
      revert h; refine om_nulR (fun yy h => ?_) (fun t1o yy k1o h => ?_)
      · subst yy
        refine om_ifnullN O (tgt := 58) dX0_find_24 (by decide) ?_
        refine om_drop (lv' := [(0, vR (some a0)), (1, vR (some a1)), (2, vI v2), (3, vI v3)]) [0, 1, 2, 3] rfl ?_
        exact g_X0_find_b58 O hE ih ka0 ka1 h
      · subst yy
        refine om_ifnullS O dX0_find_24 ?_
        refine om_aload O 4 dX0_find_27 rfl ?_
        refine gf_X0_37 O k1o (om_lt k1o (by decide)) dX0_find_29 ?_
        refine om_if_le O (tgt := 58) dX0_find_32 (by decide) (fun c3o => ?_) (fun c3o => ?_)
        · replace h := (if_pos c3o).symm.trans h
          refine om_drop (lv' := [(0, vR (some a0)), (1, vR (some a1)), (2, vI v2), (3, vI v3)]) [0, 1, 2, 3] rfl ?_
          exact g_X0_find_b58 O hE ih ka0 ka1 h
        · replace h := (if_neg c3o).symm.trans h
          refine om_iload_n O 3 dX0_find_35 rfl rfl ?_
          refine om_iload_n O 2 dX0_find_36 rfl rfl ?_
          refine om_icmp_eq O (tgt := 58) dX0_find_37 (by decide) (fun c4o => ?_) (fun c4o => ?_)
          · replace h := (if_pos c4o).symm.trans h
            refine om_drop (lv' := [(0, vR (some a0)), (1, vR (some a1)), (2, vI v2), (3, vI v3)]) [0, 1, 2, 3] rfl ?_
            exact g_X0_find_b58 O hE ih ka0 ka1 h
          · replace h := (if_neg c4o).symm.trans h
            refine om_aload_n O 0 dX0_find_40 rfl rfl ?_
            refine om_iconst O (v := 1) dX0_find_41 (by decide) ?_
            refine om_iload_n O 3 dX0_find_42 rfl rfl ?_
            refine om_ishl O dX0_find_43 ?_
            refine om_aload_n O 1 dX0_find_44 rfl rfl ?_
            refine om_aload O 4 dX0_find_45 rfl ?_
            revert h; refine om_callR (fun r3o σ4o g4o h => ?_)
            refine cl_X0_42 O (st := [vI ((1 : Int32) <<< (v3 &&& 31)), vR (some a0)]) (stk := [vR (some t1o), vR (some a1), vI ((1 : Int32) <<< (v3 &&& 31)), vR (some a0)]) (st2 := [vI r3o, vI ((1 : Int32) <<< (v3 &&& 31)), vR (some a0)]) [vR (some t1o)] (fun l G => c_X6_gives l G g4o) ka1 (om_lt ka1 (by decide)) (by decide) rfl rfl rfl_le rfl rfl_le rfl_le dX0_find_47 ?_
            refine om_aload O 4 dX0_find_50 rfl ?_
            refine gf_X0_45 O k1o (om_lt k1o (by decide)) dX0_find_52 ?_
            revert h; refine om_doR (fun σ5o g5o h => ?_)
            refine cl_X0_48 O (st := []) (stk := [vI (σ4o t1o 4), vI r3o, vI ((1 : Int32) <<< (v3 &&& 31)), vR (some a0)]) (st2 := []) [vI ((1 : Int32) <<< (v3 &&& 31)), vI r3o, vI (σ4o t1o 4)] (fun l G => c_X0_joinToEach l G g5o) ka0 (om_lt ka0 (by decide)) (by decide) rfl rfl rfl_le rfl rfl_le rfl_le dX0_find_55 ?_
            refine om_drop (lv' := [(0, vR (some a0)), (1, vR (some a1)), (2, vI v2), (3, vI v3)]) [0, 1, 2, 3] rfl ?_
            exact g_X0_find_b58 O hE ih ka0 ka1 h
def f_X0_find  (a0 : Nat) (a1 : Nat) (v2 : Int32) (σ : om_S) : Option (Int32 × om_S) := if om_kc a0 = 0 then if om_kc a1 = 6 then om_let (om_w σ a0 3 (1 : Int32)) fun (σ1o : om_S) => f_X0_find_b7 om_F a0 a1 v2 (0 : Int32) σ1o else none else none
set_option maxRecDepth 100000 in
theorem c_X0_find (l : Launch) (G : om_G) {a0 : Nat} {a1 : Nat} {v2 : Int32} {σ : om_S} {r : Int32} {τ : om_S} (h : f_X0_find a0 a1 v2 σ = some (r, τ)) : om_D l G 4 yX0_find cX0_find 5 (some FieldType.boolean) 0 0 [vR (some a0), vR (some a1), vI v2] σ om_rf om_N (some (vI r)) τ om_rf om_N := by
  refine om_Dof (lv := [(0, vR (some a0)), (1, vR (some a1)), (2, vI v2)]) (by decide) rfl_le rfl (fun x O hE => ?_)
  change om_Ok x RX0 "find" cX0_find 5 (some FieldType.boolean) 4 0 0 at O
  unfold f_X0_find at h
  revert h; refine om_iteR (fun ka0 h => ?_)
  revert h; refine om_iteR (fun ka1 h => ?_)
  refine om_aload_n O 0 dX0_find_0 rfl rfl ?_
  refine om_iconst O (v := 1) dX0_find_1 (by decide) ?_
  revert h; refine om_letR (fun σ1o e1o h => ?_)
  refine pf_X0_21 O (Or.inl rfl) ka0 (om_lt ka0 (by decide)) dX0_find_2 e1o ?_
  refine om_iconst O (v := 0) dX0_find_5 (by decide) ?_
  refine om_istore_n O (lv' := [(0, vR (some a0)), (1, vR (some a1)), (2, vI v2), (3, vI (0 : Int32))]) [1, 2, 3, 0] rfl dX0_find_6 rfl (by decide) rfl ?_
  exact g_X0_find_b7 O hE om_F _ _ _ _ _ ka0 ka1 h
def f_X0_foundSet  (a0 : Nat) (σ : om_S) : Option (Int32 × om_S) := if om_kc a0 = 0 then if (σ a0 4) < 0 then (some ((0 : Int32), σ)) else (om_ref (om_rf a0 0) 20 fun (t1o : Nat) => if (Int32.ofNat (om_al t1o)) ≤ (σ a0 4) then (some ((0 : Int32), σ)) else (om_ref (om_rf a0 0) 20 fun (t2o : Nat) => if om_in (σ a0 4) (om_al t2o) then some ((σ t2o (σ a0 4).toNatClampNeg), σ) else none)) else none
set_option maxRecDepth 100000 in
theorem c_X0_foundSet (l : Launch) (G : om_G) {a0 : Nat} {σ : om_S} {r : Int32} {τ : om_S} (h : f_X0_foundSet a0 σ = some (r, τ)) : om_D l G 0 yX0_foundSet cX0_foundSet 1 (some FieldType.int) 0 0 [vR (some a0)] σ om_rf om_N (some (vI r)) τ om_rf om_N := by
  refine om_Dof (lv := [(0, vR (some a0))]) (by decide) rfl_le rfl (fun x O hE => ?_)
  change om_Ok x RX0 "foundSet" cX0_foundSet 1 (some FieldType.int) 0 0 0 at O
  unfold f_X0_foundSet at h
  revert h; refine om_iteR (fun ka0 h => ?_)
  refine om_aload_n O 0 dX0_foundSet_0 rfl rfl ?_
  refine gf_X0_25 O ka0 (om_lt ka0 (by decide)) dX0_foundSet_1 ?_
  refine om_if_lt O (tgt := 31) dX0_foundSet_4 (by decide) (fun c1o => ?_) (fun c1o => ?_)
  · replace h := (if_pos c1o).symm.trans h
    refine om_iconst O (v := 0) dX0_foundSet_31 (by decide) ?_
    exact om_iret (st := []) O (om_eI hE h) rfl dX0_foundSet_32
  · replace h := (if_neg c1o).symm.trans h
    refine om_aload_n O 0 dX0_foundSet_7 rfl rfl ?_
    refine gf_X0_25 O ka0 (om_lt ka0 (by decide)) dX0_foundSet_8 ?_
    refine om_aload_n O 0 dX0_foundSet_11 rfl rfl ?_
    revert h; refine om_refR (fun t1o y1o k1o h => ?_)
    refine gf_X0_9 O ka0 (om_lt ka0 (by decide)) dX0_foundSet_12 ?_
    rw [y1o]
    refine om_alen O k1o (om_lt k1o (by decide)) rfl dX0_foundSet_15 ?_
    refine om_icmp_ge O (tgt := 31) dX0_foundSet_16 (by decide) (fun c2o => ?_) (fun c2o => ?_)
    · replace h := (if_pos c2o).symm.trans h
      refine om_iconst O (v := 0) dX0_foundSet_31 (by decide) ?_
      exact om_iret (st := []) O (om_eI hE h) rfl dX0_foundSet_32
    · replace h := (if_neg c2o).symm.trans h
      refine om_aload_n O 0 dX0_foundSet_19 rfl rfl ?_
      revert h; refine om_refR (fun t2o y2o k2o h => ?_)
      refine gf_X0_9 O ka0 (om_lt ka0 (by decide)) dX0_foundSet_20 ?_
      rw [y2o]
      refine om_aload_n O 0 dX0_foundSet_23 rfl rfl ?_
      refine gf_X0_25 O ka0 (om_lt ka0 (by decide)) dX0_foundSet_24 ?_
      revert h; refine om_iteR (fun i1o h => ?_)
      refine om_iald O k2o (om_lt k2o (by decide)) i1o dX0_foundSet_27 ?_
      refine om_goto O (tgt := 32) dX0_foundSet_28 (by decide) ?_
      exact om_iret (st := []) O (om_eI hE h) rfl dX0_foundSet_32
def f_X6_burn_b38 (lp2 : Nat → Int32 → Int32 → om_S → Option om_S) (a0 : Nat) (v1 : Int32) (v2 : Int32) (σ : om_S) : Option om_S := lp2 a0 v1 (v2 + 1) σ
set_option maxRecDepth 100000 in
theorem g_X6_burn_b38 {x : om_X}   (O : om_Ok x RX6 "burn" cX6_burn 4 none 1 0 0)   {τ : om_S} (hE : om_End x none τ om_rf om_N 0 0) {lp2 : Nat → Int32 → Int32 → om_S → Option om_S} (L2 : ∀ (a0 : Nat) (v1 : Int32) (v2 : Int32) (σ : om_S) (ka0 : om_kc a0 = 6), lp2 a0 v1 v2 σ = some τ → om_J x 2 [(0, vR (some a0)), (1, vI v1), (2, vI v2)] [] σ om_rf om_N 0 0) {a0 : Nat} {v1 : Int32} {v2 : Int32} {σ : om_S} (ka0 : om_kc a0 = 6) (h : f_X6_burn_b38 lp2 a0 v1 v2 σ = some τ) : om_J x 38 [(0, vR (some a0)), (1, vI v1), (2, vI v2)] [] σ om_rf om_N 0 0 := by
  unfold f_X6_burn_b38 at h
  refine om_iinc O (v1 := (v2 + 1)) (lv' := [(0, vR (some a0)), (1, vI v1), (2, vI (v2 + 1))]) 2 [1, 2, 0] rfl dX6_burn_38 rfl rfl (by decide) rfl ?_
  refine om_goto O (tgt := 2) dX6_burn_41 (by decide) ?_
  exact L2 _ _ _ _ ka0 h
def f_X6_burn_b2  : Nat → Nat → Int32 → Int32 → om_S → Option om_S
  | 0, _, _, _, _ => none
  | F + 1, a0, v1, v2, σ => if (σ a0 3) ≤ v2 then (some σ) else (om_call (f_X6_at a0 v2 σ) fun (r1o : Option Nat) (σ1o : om_S) => om_nul r1o 1 (f_X6_burn_b38 (f_X6_burn_b2 F) a0 v1 v2 σ1o) fun (t1o : Nat) => if (v1 &&& ((1 : Int32) <<< (v2 &&& 31))) = 0 then (f_X6_burn_b38 (f_X6_burn_b2 F) a0 v1 v2 σ1o) else (om_let (om_w σ1o t1o 3 ((σ1o t1o 3) - (1 : Int32))) fun (σ2o : om_S) => f_X6_burn_b38 (f_X6_burn_b2 F) a0 v1 v2 σ2o))
set_option maxRecDepth 100000 in
theorem g_X6_burn_b2 {x : om_X}   (O : om_Ok x RX6 "burn" cX6_burn 4 none 1 0 0)   {τ : om_S} (hE : om_End x none τ om_rf om_N 0 0)   : ∀ (F : Nat) (a0 : Nat) (v1 : Int32) (v2 : Int32) (σ : om_S) (ka0 : om_kc a0 = 6), f_X6_burn_b2 F a0 v1 v2 σ = some τ → om_J x 2 [(0, vR (some a0)), (1, vI v1), (2, vI v2)] [] σ om_rf om_N 0 0 := by
  intro F
  induction F with
  | zero =>
    intro a0 v1 v2 σ ka0 h
    cases h
  | succ F ih =>
    intro a0 v1 v2 σ ka0 h
    unfold f_X6_burn_b2 at h
    refine om_iload_n O 2 dX6_burn_2 rfl rfl ?_
    refine om_aload_n O 0 dX6_burn_3 rfl rfl ?_
    refine gf_X6_29 O ka0 (om_lt ka0 (by decide)) dX6_burn_4 ?_
    refine om_icmp_ge O (tgt := 44) dX6_burn_7 (by decide) (fun c1o => ?_) (fun c1o => ?_)
    · replace h := (if_pos c1o).symm.trans h
      exact om_vret (st := []) O (om_eV hE h) rfl dX6_burn_44
    · replace h := (if_neg c1o).symm.trans h
      refine om_aload_n O 0 dX6_burn_10 rfl rfl ?_
      refine om_iload_n O 2 dX6_burn_11 rfl rfl ?_
      revert h; refine om_callR (fun r1o σ1o g1o h => ?_)
      refine cl_X6_57 O (st := []) (stk := [vI v2, vR (some a0)]) (st2 := [vR r1o]) [vI v2] (fun l G => c_X6_at l G g1o) ka0 (om_lt ka0 (by decide)) (by decide) rfl rfl rfl_le rfl rfl_le rfl_le dX6_burn_12 ?_
      refine om_astore_n O (lv' := [(0, vR (some a0)), (1, vI v1), (2, vI v2), (3, vR r1o)]) [1, 2, 3, 0] dX6_burn_15 rfl (by decide) rfl ?_
      refine om_aload_n O 3 dX6_burn_16 rfl rfl ?_
      revert h; refine om_nulR (fun yy h => ?_) (fun t1o yy k1o h => ?_)
      · subst yy
        refine om_ifnullN O (tgt := 38) dX6_burn_17 (by decide) ?_
        refine om_drop (lv' := [(0, vR (some a0)), (1, vI v1), (2, vI v2)]) [0, 1, 2] rfl ?_
        exact g_X6_burn_b38 O hE ih ka0 h
      · subst yy
        refine om_ifnullS O dX6_burn_17 ?_
        refine om_iload_n O 1 dX6_burn_20 rfl rfl ?_
        refine om_iconst O (v := 1) dX6_burn_21 (by decide) ?_
        refine om_iload_n O 2 dX6_burn_22 rfl rfl ?_
        refine om_ishl O dX6_burn_23 ?_
        refine om_iand O dX6_burn_24 ?_
        refine om_if_eq O (tgt := 38) dX6_burn_25 (by decide) (fun c2o => ?_) (fun c2o => ?_)
        · replace h := (if_pos c2o).symm.trans h
          refine om_drop (lv' := [(0, vR (some a0)), (1, vI v1), (2, vI v2)]) [0, 1, 2] rfl ?_
          exact g_X6_burn_b38 O hE ih ka0 h
        · replace h := (if_neg c2o).symm.trans h
          refine om_aload_n O 3 dX6_burn_28 rfl rfl ?_
          refine om_dup O rfl dX6_burn_29 ?_
          refine gf_X6_70 O k1o (om_lt k1o (by decide)) dX6_burn_30 ?_
          refine om_iconst O (v := 1) dX6_burn_33 (by decide) ?_
          refine om_isub O dX6_burn_34 ?_
          revert h; refine om_letR (fun σ2o e1o h => ?_)
          refine pf_X6_70 O (Or.inl rfl) k1o (om_lt k1o (by decide)) dX6_burn_35 e1o ?_
          refine om_drop (lv' := [(0, vR (some a0)), (1, vI v1), (2, vI v2)]) [0, 1, 2] rfl ?_
          exact g_X6_burn_b38 O hE ih ka0 h
def f_X6_burn  (a0 : Nat) (v1 : Int32) (σ : om_S) : Option om_S := if om_kc a0 = 6 then f_X6_burn_b2 om_F a0 v1 (0 : Int32) σ else none
set_option maxRecDepth 100000 in
theorem c_X6_burn (l : Launch) (G : om_G) {a0 : Nat} {v1 : Int32} {σ : om_S} {τ : om_S} (h : f_X6_burn a0 v1 σ = some τ) : om_D l G 1 yX6_burn cX6_burn 4 none 0 0 [vR (some a0), vI v1] σ om_rf om_N none τ om_rf om_N := by
  refine om_Dof (lv := [(0, vR (some a0)), (1, vI v1)]) (by decide) rfl_le rfl (fun x O hE => ?_)
  change om_Ok x RX6 "burn" cX6_burn 4 none 1 0 0 at O
  unfold f_X6_burn at h
  revert h; refine om_iteR (fun ka0 h => ?_)
  refine om_iconst O (v := 0) dX6_burn_0 (by decide) ?_
  refine om_istore_n O (lv' := [(0, vR (some a0)), (1, vI v1), (2, vI (0 : Int32))]) [1, 2, 0] rfl dX6_burn_1 rfl (by decide) rfl ?_
  exact g_X6_burn_b2 O hE om_F _ _ _ _ ka0 h
def f_X6_passNight_b38  (a0 : Nat) (v3 : Int32) (σ : om_S) : Option (Int32 × om_S) := om_let (om_w σ a0 5 ((σ a0 5) + (1 : Int32))) fun (σ1o : om_S) => if v3 = 0 ∨ v3 = 1 then some (v3, σ1o) else none
set_option maxRecDepth 100000 in
theorem g_X6_passNight_b38 {x : om_X}   (O : om_Ok x RX6 "passNight" cX6_passNight 4 (some FieldType.boolean) 5 0 0)   {r : Int32} {τ : om_S} (hE : om_End x (some (vI r)) τ om_rf om_N 0 0)   {a0 : Nat} {v3 : Int32} {σ : om_S} (ka0 : om_kc a0 = 6) (h : f_X6_passNight_b38 a0 v3 σ = some (r, τ)) : om_J x 38 [(0, vR (some a0)), (3, vI v3)] [] σ om_rf om_N 0 0 := by
  unfold f_X6_passNight_b38 at h
  refine om_aload_n O 0 dX6_passNight_38 rfl rfl ?_
  refine om_dup O rfl dX6_passNight_39 ?_
  refine gf_X6_36 O ka0 (om_lt ka0 (by decide)) dX6_passNight_40 ?_
  refine om_iconst O (v := 1) dX6_passNight_43 (by decide) ?_
  refine om_iadd O dX6_passNight_44 ?_
  revert h; refine om_letR (fun σ1o e1o h => ?_)
  refine pf_X6_36 O (Or.inl rfl) ka0 (om_lt ka0 (by decide)) dX6_passNight_45 e1o ?_
  refine om_iload_n O 1 dX6_passNight_48 rfl rfl ?_
  revert h; refine om_iteR (fun z1o h => ?_)
  exact om_zret (st := []) O z1o (om_eI hE h) rfl dX6_passNight_49
def f_X6_passNight  (a0 : Nat) (a1 : Nat) (v2 : Int32) (σ : om_S) : Option (Int32 × om_S) := if om_kc a0 = 6 then if om_kc a1 = 0 then om_call (f_X0_find a1 a0 v2 σ) fun (r1o : Int32) (σ1o : om_S) => if r1o = 0 then (om_let (om_w σ1o a0 6 (if ((σ1o a0 6) + (1 : Int32)) < (9999 : Int32) then ((σ1o a0 6) + (1 : Int32)) else (9999 : Int32))) fun (σ2o : om_S) => f_X6_passNight_b38 a0 r1o σ2o) else (om_call (f_X0_foundSet a1 σ1o) fun (r2o : Int32) (σ3o : om_S) => om_do (f_X6_burn a0 r2o σ3o) fun (σ4o : om_S) => f_X6_passNight_b38 a0 r1o σ4o) else none else none
set_option maxRecDepth 100000 in
theorem c_X6_passNight (l : Launch) (G : om_G) {a0 : Nat} {a1 : Nat} {v2 : Int32} {σ : om_S} {r : Int32} {τ : om_S} (h : f_X6_passNight a0 a1 v2 σ = some (r, τ)) : om_D l G 5 yX6_passNight cX6_passNight 4 (some FieldType.boolean) 0 0 [vR (some a0), vR (some a1), vI v2] σ om_rf om_N (some (vI r)) τ om_rf om_N := by
  refine om_Dof (lv := [(0, vR (some a0)), (1, vR (some a1)), (2, vI v2)]) (by decide) rfl_le rfl (fun x O hE => ?_)
  change om_Ok x RX6 "passNight" cX6_passNight 4 (some FieldType.boolean) 5 0 0 at O
  unfold f_X6_passNight at h
  revert h; refine om_iteR (fun ka0 h => ?_)
  revert h; refine om_iteR (fun ka1 h => ?_)
  refine om_aload_n O 1 dX6_passNight_0 rfl rfl ?_
  refine om_aload_n O 0 dX6_passNight_1 rfl rfl ?_
  refine om_iload_n O 2 dX6_passNight_2 rfl rfl ?_
  revert h; refine om_callR (fun r1o σ1o g1o h => ?_)
  refine cl_X6_100 O (st := []) (stk := [vI v2, vR (some a0), vR (some a1)]) (st2 := [vI r1o]) [vR (some a0), vI v2] (fun l G => c_X0_find l G g1o) ka1 (om_lt ka1 (by decide)) (by decide) rfl rfl rfl_le rfl rfl_le rfl_le dX6_passNight_3 ?_
  refine om_istore_n O (lv' := [(0, vR (some a0)), (1, vR (some a1)), (3, vI r1o)]) [1, 2, 0] rfl dX6_passNight_6 rfl (by decide) rfl ?_
  refine om_iload_n O 2 dX6_passNight_7 rfl rfl ?_
  refine om_if_eq O (tgt := 22) dX6_passNight_8 (by decide) (fun c1o => ?_) (fun c1o => ?_)
  · replace h := (if_pos c1o).symm.trans h
    refine om_aload_n O 0 dX6_passNight_22 rfl rfl ?_
    refine om_sipush O (v := 9999) dX6_passNight_23 (by decide) ?_
    refine om_aload_n O 0 dX6_passNight_26 rfl rfl ?_
    refine gf_X6_39 O ka0 (om_lt ka0 (by decide)) dX6_passNight_27 ?_
    refine om_iconst O (v := 1) dX6_passNight_30 (by decide) ?_
    refine om_iadd O dX6_passNight_31 ?_
    refine om_mmin (st := [vR (some a0)]) (cells := 0) (slots := 0) O wd_552 wd_553 wd_62 wd_554 (by decide) rfl_le rfl_le rfl_le dX6_passNight_32 ?_
    revert h; refine om_letR (fun σ2o e1o h => ?_)
    refine pf_X6_39 O (Or.inl rfl) ka0 (om_lt ka0 (by decide)) dX6_passNight_35 e1o ?_
    refine om_drop (lv' := [(0, vR (some a0)), (3, vI r1o)]) [0, 2] rfl ?_
    exact g_X6_passNight_b38 O hE ka0 h
  · replace h := (if_neg c1o).symm.trans h
    refine om_aload_n O 0 dX6_passNight_11 rfl rfl ?_
    refine om_aload_n O 1 dX6_passNight_12 rfl rfl ?_
    revert h; refine om_callR (fun r2o σ3o g2o h => ?_)
    refine cl_X6_106 O (st := [vR (some a0)]) (stk := [vR (some a1), vR (some a0)]) (st2 := [vI r2o, vR (some a0)]) [] (fun l G => c_X0_foundSet l G g2o) ka1 (om_lt ka1 (by decide)) (by decide) rfl rfl rfl_le rfl rfl_le rfl_le dX6_passNight_13 ?_
    revert h; refine om_doR (fun σ4o g3o h => ?_)
    refine cl_X6_109 O (st := []) (stk := [vI r2o, vR (some a0)]) (st2 := []) [vI r2o] (fun l G => c_X6_burn l G g3o) ka0 (om_lt ka0 (by decide)) (by decide) rfl rfl rfl_le rfl rfl_le rfl_le dX6_passNight_16 ?_
    refine om_goto O (tgt := 38) dX6_passNight_19 (by decide) ?_
    refine om_drop (lv' := [(0, vR (some a0)), (3, vI r1o)]) [0, 2] rfl ?_
    exact g_X6_passNight_b38 O hE ka0 h
def f_X8_nights_b64 (lp41 : Nat → Int32 → Int32 → Int32 → om_S → Option (Int32 × om_S)) (a0 : Nat) (v1 : Int32) (v2 : Int32) (v3 : Int32) (σ : om_S) : Option (Int32 × om_S) := lp41 a0 v1 v2 (v3 + 1) σ
set_option maxRecDepth 100000 in
theorem g_X8_nights_b64 {x : om_X}   (O : om_Ok x RX8 "nights" cX8_nights 4 (some FieldType.int) 6 0 0)   {r : Int32} {τ : om_S} (hE : om_End x (some (vI r)) τ om_rf om_N 0 0) {lp41 : Nat → Int32 → Int32 → Int32 → om_S → Option (Int32 × om_S)} (L41 : ∀ (a0 : Nat) (v1 : Int32) (v2 : Int32) (v3 : Int32) (σ : om_S) (ka0 : om_kc a0 = 8), lp41 a0 v1 v2 v3 σ = some (r, τ) → om_J x 41 [(0, vR (some a0)), (1, vI v1), (2, vI v2), (3, vI v3)] [] σ om_rf om_N 0 0) {a0 : Nat} {v1 : Int32} {v2 : Int32} {v3 : Int32} {σ : om_S} (ka0 : om_kc a0 = 8) (h : f_X8_nights_b64 lp41 a0 v1 v2 v3 σ = some (r, τ)) : om_J x 64 [(0, vR (some a0)), (1, vI v1), (2, vI v2), (3, vI v3)] [] σ om_rf om_N 0 0 := by
  unfold f_X8_nights_b64 at h
  refine om_iinc O (v1 := (v3 + 1)) (lv' := [(0, vR (some a0)), (1, vI v1), (2, vI v2), (3, vI (v3 + 1))]) 3 [1, 2, 3, 0] rfl dX8_nights_64 rfl rfl (by decide) rfl ?_
  refine om_goto O (tgt := 41) dX8_nights_67 (by decide) ?_
  exact L41 _ _ _ _ _ ka0 h
def f_X8_nights_b41  : Nat → Nat → Int32 → Int32 → Int32 → om_S → Option (Int32 × om_S)
  | 0, _, _, _, _, _ => none
  | F + 1, a0, v1, v2, v3, σ => if v1 ≤ v3 then (some (v2, σ)) else (om_ref (om_rf a0 0) 6 fun (t1o : Nat) => om_ref (om_rf a0 3) 0 fun (t2o : Nat) => om_call (f_X6_passNight t1o t2o (-1 : Int32) σ) fun (r1o : Int32) (σ1o : om_S) => if r1o = 0 then (f_X8_nights_b64 (f_X8_nights_b41 F) a0 v1 v2 v3 σ1o) else (f_X8_nights_b64 (f_X8_nights_b41 F) a0 v1 (v2 + 1) v3 σ1o))
set_option maxRecDepth 100000 in
theorem g_X8_nights_b41 {x : om_X}   (O : om_Ok x RX8 "nights" cX8_nights 4 (some FieldType.int) 6 0 0)   {r : Int32} {τ : om_S} (hE : om_End x (some (vI r)) τ om_rf om_N 0 0)   : ∀ (F : Nat) (a0 : Nat) (v1 : Int32) (v2 : Int32) (v3 : Int32) (σ : om_S) (ka0 : om_kc a0 = 8), f_X8_nights_b41 F a0 v1 v2 v3 σ = some (r, τ) → om_J x 41 [(0, vR (some a0)), (1, vI v1), (2, vI v2), (3, vI v3)] [] σ om_rf om_N 0 0 := by
  intro F
  induction F with
  | zero =>
    intro a0 v1 v2 v3 σ ka0 h
    cases h
  | succ F ih =>
    intro a0 v1 v2 v3 σ ka0 h
    unfold f_X8_nights_b41 at h
    refine om_iload_n O 3 dX8_nights_41 rfl rfl ?_
    refine om_iload_n O 1 dX8_nights_42 rfl rfl ?_
    refine om_icmp_ge O (tgt := 70) dX8_nights_43 (by decide) (fun c1o => ?_) (fun c1o => ?_)
    · replace h := (if_pos c1o).symm.trans h
      refine om_iload_n O 2 dX8_nights_70 rfl rfl ?_
      exact om_iret (st := []) O (om_eI hE h) rfl dX8_nights_71
    · replace h := (if_neg c1o).symm.trans h
      refine om_aload_n O 0 dX8_nights_46 rfl rfl ?_
      revert h; refine om_refR (fun t1o y1o k1o h => ?_)
      refine gf_X8_10 O ka0 (om_lt ka0 (by decide)) dX8_nights_47 ?_
      rw [y1o]
      refine om_aload_n O 0 dX8_nights_50 rfl rfl ?_
      revert h; refine om_refR (fun t2o y2o k2o h => ?_)
      refine gf_X8_25 O ka0 (om_lt ka0 (by decide)) dX8_nights_51 ?_
      rw [y2o]
      refine om_iconst O (v := -1) dX8_nights_54 (by decide) ?_
      revert h; refine om_callR (fun r1o σ1o g1o h => ?_)
      refine cl_X8_170 O (st := []) (stk := [vI (-1 : Int32), vR (some t2o), vR (some t1o)]) (st2 := [vI r1o]) [vR (some t2o), vI (-1 : Int32)] (fun l G => c_X6_passNight l G g1o) k1o (om_lt k1o (by decide)) (by decide) rfl rfl rfl_le rfl rfl_le rfl_le dX8_nights_55 ?_
      refine om_if_eq O (tgt := 64) dX8_nights_58 (by decide) (fun c2o => ?_) (fun c2o => ?_)
      · replace h := (if_pos c2o).symm.trans h
        exact g_X8_nights_b64 O hE ih ka0 h
      · replace h := (if_neg c2o).symm.trans h
        refine om_iinc O (v1 := (v2 + 1)) (lv' := [(0, vR (some a0)), (1, vI v1), (2, vI (v2 + 1)), (3, vI v3)]) 2 [1, 2, 0, 3] rfl dX8_nights_61 rfl rfl (by decide) rfl ?_
        exact g_X8_nights_b64 O hE ih ka0 h
def f_X8_nights  (a0 : Nat) (v1 : Int32) (σ : om_S) : Option (Int32 × om_S) := if om_kc a0 = 8 then om_call (f_X8_isWithin v1 (1 : Int32) (60 : Int32) σ) fun (r1o : Int32) (σ1o : om_S) => if r1o = 0 then (om_call (f_X8_refuse a0 (1 : Int32) σ1o) fun (r2o : Int32) (σ2o : om_S) => some (r2o, σ2o)) else (om_ref (om_rf a0 0) 6 fun (t1o : Nat) => if ((σ1o t1o 5) + v1) ≤ (9999 : Int32) then (f_X8_nights_b41 om_F a0 v1 (0 : Int32) (0 : Int32) σ1o) else (om_call (f_X8_refuse a0 (3 : Int32) σ1o) fun (r3o : Int32) (σ3o : om_S) => some (r3o, σ3o))) else none
set_option maxRecDepth 100000 in
theorem c_X8_nights (l : Launch) (G : om_G) {a0 : Nat} {v1 : Int32} {σ : om_S} {r : Int32} {τ : om_S} (h : f_X8_nights a0 v1 σ = some (r, τ)) : om_D l G 6 yX8_nights cX8_nights 4 (some FieldType.int) 0 0 [vR (some a0), vI v1] σ om_rf om_N (some (vI r)) τ om_rf om_N := by
  refine om_Dof (lv := [(0, vR (some a0)), (1, vI v1)]) (by decide) rfl_le rfl (fun x O hE => ?_)
  change om_Ok x RX8 "nights" cX8_nights 4 (some FieldType.int) 6 0 0 at O
  unfold f_X8_nights at h
  revert h; refine om_iteR (fun ka0 h => ?_)
  refine om_iload_n O 1 dX8_nights_0 rfl rfl ?_
  refine om_iconst O (v := 1) dX8_nights_1 (by decide) ?_
  refine om_bipush O (v := 60) dX8_nights_2 (by decide) ?_
  revert h; refine om_callR (fun r1o σ1o g1o h => ?_)
  refine cl_X8_80 O (st := []) (stk := [vI (60 : Int32), vI (1 : Int32), vI v1]) (st2 := [vI r1o]) [vI v1, vI (1 : Int32), vI (60 : Int32)] (fun l G => c_X8_isWithin l G g1o) (by decide) rfl rfl rfl_le rfl rfl_le rfl_le dX8_nights_4 ?_
  refine om_if_ne O (tgt := 16) dX8_nights_7 (by decide) (fun c1o => ?_) (fun c1o => ?_)
  · replace h := (if_pos c1o).symm.trans h
    refine om_aload_n O 0 dX8_nights_10 rfl rfl ?_
    refine om_iconst O (v := 1) dX8_nights_11 (by decide) ?_
    revert h; refine om_callR (fun r2o σ2o g2o h => ?_)
    refine cl_X8_84 O (st := []) (stk := [vI (1 : Int32), vR (some a0)]) (st2 := [vI r2o]) [vI (1 : Int32)] (fun l G => c_X8_refuse l G g2o) ka0 (om_lt ka0 (by decide)) (by decide) rfl rfl rfl_le rfl rfl_le rfl_le dX8_nights_12 ?_
    exact om_iret (st := []) O (om_eI hE h) rfl dX8_nights_15
  · replace h := (if_neg c1o).symm.trans h
    refine om_aload_n O 0 dX8_nights_16 rfl rfl ?_
    revert h; refine om_refR (fun t1o y1o k1o h => ?_)
    refine gf_X8_10 O ka0 (om_lt ka0 (by decide)) dX8_nights_17 ?_
    rw [y1o]
    refine gf_X8_167 O k1o (om_lt k1o (by decide)) dX8_nights_20 ?_
    refine om_iload_n O 1 dX8_nights_23 rfl rfl ?_
    refine om_iadd O dX8_nights_24 ?_
    refine om_sipush O (v := 9999) dX8_nights_25 (by decide) ?_
    refine om_icmp_le O (tgt := 37) dX8_nights_28 (by decide) (fun c2o => ?_) (fun c2o => ?_)
    · replace h := (if_pos c2o).symm.trans h
      refine om_iconst O (v := 0) dX8_nights_37 (by decide) ?_
      refine om_istore_n O (lv' := [(0, vR (some a0)), (1, vI v1), (2, vI (0 : Int32))]) [1, 2, 0] rfl dX8_nights_38 rfl (by decide) rfl ?_
      refine om_iconst O (v := 0) dX8_nights_39 (by decide) ?_
      refine om_istore_n O (lv' := [(0, vR (some a0)), (1, vI v1), (2, vI (0 : Int32)), (3, vI (0 : Int32))]) [1, 2, 3, 0] rfl dX8_nights_40 rfl (by decide) rfl ?_
      exact g_X8_nights_b41 O hE om_F _ _ _ _ _ ka0 h
    · replace h := (if_neg c2o).symm.trans h
      refine om_aload_n O 0 dX8_nights_31 rfl rfl ?_
      refine om_iconst O (v := 3) dX8_nights_32 (by decide) ?_
      revert h; refine om_callR (fun r3o σ3o g3o h => ?_)
      refine cl_X8_84 O (st := []) (stk := [vI (3 : Int32), vR (some a0)]) (st2 := [vI r3o]) [vI (3 : Int32)] (fun l G => c_X8_refuse l G g3o) ka0 (om_lt ka0 (by decide)) (by decide) rfl rfl rfl_le rfl rfl_le rfl_le dX8_nights_33 ?_
      exact om_iret (st := []) O (om_eI hE h) rfl dX8_nights_36
def f_X6_draw  (a0 : Nat) (σ : om_S) : Option (Int32 × om_S) := if om_kc a0 = 6 then om_let (om_w σ a0 7 (((σ a0 7) * (1103515245 : Int32)) + (12345 : Int32))) fun (σ1o : om_S) => some ((((σ1o a0 7).toUInt32 >>> ((8 : Int32).toUInt32 &&& Int32.toUInt32 31)).toInt32), σ1o) else none
set_option maxRecDepth 100000 in
theorem c_X6_draw (l : Launch) (G : om_G) {a0 : Nat} {σ : om_S} {r : Int32} {τ : om_S} (h : f_X6_draw a0 σ = some (r, τ)) : om_D l G 0 yX6_draw cX6_draw 1 (some FieldType.int) 0 0 [vR (some a0)] σ om_rf om_N (some (vI r)) τ om_rf om_N := by
  refine om_Dof (lv := [(0, vR (some a0))]) (by decide) rfl_le rfl (fun x O hE => ?_)
  change om_Ok x RX6 "draw" cX6_draw 1 (some FieldType.int) 0 0 0 at O
  unfold f_X6_draw at h
  revert h; refine om_iteR (fun ka0 h => ?_)
  refine om_aload_n O 0 dX6_draw_0 rfl rfl ?_
  refine om_aload_n O 0 dX6_draw_1 rfl rfl ?_
  refine gf_X6_42 O ka0 (om_lt ka0 (by decide)) dX6_draw_2 ?_
  refine om_ldc O (v := 1103515245) wd_567 dX6_draw_5 ?_
  refine om_imul O dX6_draw_7 ?_
  refine om_sipush O (v := 12345) dX6_draw_8 (by decide) ?_
  refine om_iadd O dX6_draw_11 ?_
  revert h; refine om_letR (fun σ1o e1o h => ?_)
  refine pf_X6_42 O (Or.inl rfl) ka0 (om_lt ka0 (by decide)) dX6_draw_12 e1o ?_
  refine om_aload_n O 0 dX6_draw_15 rfl rfl ?_
  refine gf_X6_42 O ka0 (om_lt ka0 (by decide)) dX6_draw_16 ?_
  refine om_bipush O (v := 8) dX6_draw_19 (by decide) ?_
  refine om_iushr O dX6_draw_21 ?_
  exact om_iret (st := []) O (om_eI hE h) rfl dX6_draw_22
def f_X6_drawTheDay  (a0 : Nat) (σ : om_S) : Option om_S := if om_kc a0 = 6 then om_call (f_X6_draw a0 σ) fun (r1o : Int32) (σ1o : om_S) => om_let (om_w σ1o a0 4 (r1o - r1o / (10 : Int32) * (10 : Int32))) fun (σ2o : om_S) => if (σ2o a0 3) ≤ 0 then (some σ2o) else (om_call (f_X6_draw a0 σ2o) fun (r2o : Int32) (σ3o : om_S) => if (r2o - r2o / (8 : Int32) * (8 : Int32)) = 0 then (om_call (f_X6_draw a0 σ3o) fun (r3o : Int32) (σ4o : om_S) => if ¬ (σ4o a0 3) = 0 then om_call (f_X6_at a0 (r3o - r3o / (σ4o a0 3) * (σ4o a0 3)) σ4o) fun (r4o : Option Nat) (σ5o : om_S) => om_call (f_X6_draw a0 σ5o) fun (r5o : Int32) (σ6o : om_S) => om_let (r5o - r5o / (5 : Int32) * (5 : Int32)) fun (x1o : Int32) => om_nul r4o 1 (some σ6o) fun (t1o : Nat) => om_let (om_w σ6o t1o 3 (if ((σ6o t1o 3) + x1o) < (99 : Int32) then ((σ6o t1o 3) + x1o) else (99 : Int32))) fun (σ7o : om_S) => some σ7o else none) else (some σ3o)) else none
set_option maxRecDepth 100000 in
theorem c_X6_drawTheDay (l : Launch) (G : om_G) {a0 : Nat} {σ : om_S} {τ : om_S} (h : f_X6_drawTheDay a0 σ = some τ) : om_D l G 1 yX6_drawTheDay cX6_drawTheDay 3 none 0 0 [vR (some a0)] σ om_rf om_N none τ om_rf om_N := by
  refine om_Dof (lv := [(0, vR (some a0))]) (by decide) rfl_le rfl (fun x O hE => ?_)
  change om_Ok x RX6 "drawTheDay" cX6_drawTheDay 3 none 1 0 0 at O
  unfold f_X6_drawTheDay at h
  revert h; refine om_iteR (fun ka0 h => ?_)
  refine om_aload_n O 0 dX6_drawTheDay_0 rfl rfl ?_
  refine om_aload_n O 0 dX6_drawTheDay_1 rfl rfl ?_
  revert h; refine om_callR (fun r1o σ1o g1o h => ?_)
  refine cl_X6_118 O (st := [vR (some a0)]) (stk := [vR (some a0), vR (some a0)]) (st2 := [vI r1o, vR (some a0)]) [] (fun l G => c_X6_draw l G g1o) ka0 (om_lt ka0 (by decide)) (by decide) rfl rfl rfl_le rfl rfl_le rfl_le dX6_drawTheDay_2 ?_
  refine om_bipush O (v := 10) dX6_drawTheDay_5 (by decide) ?_
  refine om_irem O dX6_drawTheDay_7 (by decide) ?_
  revert h; refine om_letR (fun σ2o e1o h => ?_)
  refine pf_X6_33 O (Or.inl rfl) ka0 (om_lt ka0 (by decide)) dX6_drawTheDay_8 e1o ?_
  refine om_aload_n O 0 dX6_drawTheDay_11 rfl rfl ?_
  refine gf_X6_29 O ka0 (om_lt ka0 (by decide)) dX6_drawTheDay_12 ?_
  refine om_if_le O (tgt := 68) dX6_drawTheDay_15 (by decide) (fun c1o => ?_) (fun c1o => ?_)
  · replace h := (if_pos c1o).symm.trans h
    exact om_vret (st := []) O (om_eV hE h) rfl dX6_drawTheDay_68
  · replace h := (if_neg c1o).symm.trans h
    refine om_aload_n O 0 dX6_drawTheDay_18 rfl rfl ?_
    revert h; refine om_callR (fun r2o σ3o g2o h => ?_)
    refine cl_X6_118 O (st := []) (stk := [vR (some a0)]) (st2 := [vI r2o]) [] (fun l G => c_X6_draw l G g2o) ka0 (om_lt ka0 (by decide)) (by decide) rfl rfl rfl_le rfl rfl_le rfl_le dX6_drawTheDay_19 ?_
    refine om_bipush O (v := 8) dX6_drawTheDay_22 (by decide) ?_
    refine om_irem O dX6_drawTheDay_24 (by decide) ?_
    refine om_if_ne O (tgt := 68) dX6_drawTheDay_25 (by decide) (fun c2o => ?_) (fun c2o => ?_)
    · replace h := (if_pos c2o).symm.trans h
      refine om_aload_n O 0 dX6_drawTheDay_28 rfl rfl ?_
      refine om_aload_n O 0 dX6_drawTheDay_29 rfl rfl ?_
      revert h; refine om_callR (fun r3o σ4o g3o h => ?_)
      refine cl_X6_118 O (st := [vR (some a0)]) (stk := [vR (some a0), vR (some a0)]) (st2 := [vI r3o, vR (some a0)]) [] (fun l G => c_X6_draw l G g3o) ka0 (om_lt ka0 (by decide)) (by decide) rfl rfl rfl_le rfl rfl_le rfl_le dX6_drawTheDay_30 ?_
      refine om_aload_n O 0 dX6_drawTheDay_33 rfl rfl ?_
      refine gf_X6_29 O ka0 (om_lt ka0 (by decide)) dX6_drawTheDay_34 ?_
      revert h; refine om_iteR (fun z1o h => ?_)
      refine om_irem O dX6_drawTheDay_37 z1o ?_
      revert h; refine om_callR (fun r4o σ5o g4o h => ?_)
      refine cl_X6_57 O (st := []) (stk := [vI (r3o - r3o / (σ4o a0 3) * (σ4o a0 3)), vR (some a0)]) (st2 := [vR r4o]) [vI (r3o - r3o / (σ4o a0 3) * (σ4o a0 3))] (fun l G => c_X6_at l G g4o) ka0 (om_lt ka0 (by decide)) (by decide) rfl rfl rfl_le rfl rfl_le rfl_le dX6_drawTheDay_38 ?_
      refine om_astore_n O (lv' := [(0, vR (some a0)), (1, vR r4o)]) [1, 0] dX6_drawTheDay_41 rfl (by decide) rfl ?_
      refine om_aload_n O 0 dX6_drawTheDay_42 rfl rfl ?_
      revert h; refine om_callR (fun r5o σ6o g5o h => ?_)
      refine cl_X6_118 O (st := []) (stk := [vR (some a0)]) (st2 := [vI r5o]) [] (fun l G => c_X6_draw l G g5o) ka0 (om_lt ka0 (by decide)) (by decide) rfl rfl rfl_le rfl rfl_le rfl_le dX6_drawTheDay_43 ?_
      refine om_iconst O (v := 5) dX6_drawTheDay_46 (by decide) ?_
      refine om_irem O dX6_drawTheDay_47 (by decide) ?_
      revert h; refine om_letR (fun x1o e2o h => ?_)
      refine om_istore_n O (lv' := [(1, vR r4o), (2, vI x1o)]) [2, 0] e2o dX6_drawTheDay_48 rfl (by decide) rfl ?_
      refine om_aload_n O 0 dX6_drawTheDay_49 rfl rfl ?_
      revert h; refine om_nulR (fun yy h => ?_) (fun t1o yy k1o h => ?_)
      · subst yy
        refine om_ifnullN O (tgt := 68) dX6_drawTheDay_50 (by decide) ?_
        exact om_vret (st := []) O (om_eV hE h) rfl dX6_drawTheDay_68
      · subst yy
        refine om_ifnullS O dX6_drawTheDay_50 ?_
        refine om_aload_n O 0 dX6_drawTheDay_53 rfl rfl ?_
        refine om_bipush O (v := 99) dX6_drawTheDay_54 (by decide) ?_
        refine om_aload_n O 0 dX6_drawTheDay_56 rfl rfl ?_
        refine gf_X6_70 O k1o (om_lt k1o (by decide)) dX6_drawTheDay_57 ?_
        refine om_iload_n O 1 dX6_drawTheDay_60 rfl rfl ?_
        refine om_iadd O dX6_drawTheDay_61 ?_
        refine om_mmin (st := [vR (some t1o)]) (cells := 0) (slots := 0) O wd_552 wd_553 wd_62 wd_554 (by decide) rfl_le rfl_le rfl_le dX6_drawTheDay_62 ?_
        revert h; refine om_letR (fun σ7o e3o h => ?_)
        refine pf_X6_70 O (Or.inl rfl) k1o (om_lt k1o (by decide)) dX6_drawTheDay_65 e3o ?_
        exact om_vret (st := []) O (om_eV hE h) rfl dX6_drawTheDay_68
    · replace h := (if_neg c2o).symm.trans h
      exact om_vret (st := []) O (om_eV hE h) rfl dX6_drawTheDay_68
