def f_X3_init (a0 : Nat) (v1 : Int32) (σ : om_S) (ρ : om_R) (n : Nat) : Option (om_S × om_R × Nat) := if om_kc a0 = 3 then if a0 < n then om_let (om_w σ a0 1 (0 : Int32)) fun (σ1o : om_S) => if v1 ≤ 0 then (if om_kc n = 20 then if Int32.ofNat (om_al n) = (0 : Int32) then if om_al n ≤ 0 then om_mk σ1o ρ n fun (σ2o : om_S) (ρ1o : om_R) (n1o : Nat) => om_let (om_wr ρ1o a0 0 (some n)) fun (ρ2o : om_R) => some (σ2o, ρ2o, n1o) else none else none else none) else (if om_kc n = 20 then if Int32.ofNat (om_al n) = v1 then if om_al n ≤ 60 then om_mk σ1o ρ n fun (σ3o : om_S) (ρ3o : om_R) (n2o : Nat) => om_let (om_wr ρ3o a0 0 (some n)) fun (ρ4o : om_R) => some (σ3o, ρ4o, n2o) else none else none else none) else none else none
set_option maxRecDepth 100000 in
theorem c_X3_init (l : Launch) (G : om_G) {a0 : Nat} {v1 : Int32} {σ : om_S} {ρ : om_R} {n : Nat} {τ : om_S} {ρt : om_R} {nt : Nat} (h : f_X3_init a0 v1 σ ρ n = some (τ, ρt, nt)) : om_D l G 1 yX3_init cX3_init 2 none 1 60 [vR (some a0), vI v1] σ ρ n none τ ρt nt := by
  refine om_Dof (lv := [(0, vR (some a0)), (1, vI v1)]) (by decide) rfl_le rfl (fun x O hE => ?_)
  change om_Ok x RX3 "<init>" cX3_init 2 none 1 1 60 at O
  unfold f_X3_init at h
  refine om_aload_n O 0 dX3_init_0 rfl rfl ?_
  refine om_objInit O wd_90 wd_69 wd_objcode (by decide) rfl_le dX3_init_1 ?_
  refine om_aload_n O 0 dX3_init_4 rfl rfl ?_
  refine om_iconst O (v := 0) dX3_init_5 (by decide) ?_
  revert h; refine om_iteR (fun k1o h => ?_)
  revert h; refine om_iteR (fun l1o h => ?_)
  revert h; refine om_letR (fun σ1o e1o h => ?_)
  refine pf_X3_7 O (Or.inl rfl) k1o l1o dX3_init_6 e1o ?_
  refine om_aload_n O 0 dX3_init_9 rfl rfl ?_
  refine om_iload_n O 1 dX3_init_10 rfl rfl ?_
  refine om_if_le O (tgt := 18) dX3_init_11 (by decide) (fun c1o => ?_) (fun c1o => ?_)
  · replace h := (if_pos c1o).symm.trans h
    refine om_iconst O (v := 0) dX3_init_18 (by decide) ?_
    revert h; refine om_iteR (fun k2o h => ?_)
    revert h; refine om_iteR (fun e2o h => ?_)
    revert h; refine om_iteR (fun e3o h => ?_)
    revert h; refine om_mkR (fun σ2o ρ1o n1o e4o e5o e6o h => ?_)
    refine om_newa O 0 wd_arr k2o e2o e3o (by decide) (by decide) (by decide) dX3_init_19 e4o e5o e6o ?_
    revert h; refine om_letR (fun ρ2o e7o h => ?_)
    refine pf_X3_13 O k1o (om_lt1 e6o l1o) dX3_init_21 e7o ?_
    refine om_widen 1 60 (by decide) (by decide) ?_
    exact om_vret (st := []) O (om_e3 hE h) rfl dX3_init_24
  · replace h := (if_neg c1o).symm.trans h
    refine om_iload_n O 1 dX3_init_14 rfl rfl ?_
    refine om_goto O (tgt := 19) dX3_init_15 (by decide) ?_
    revert h; refine om_iteR (fun k3o h => ?_)
    revert h; refine om_iteR (fun e8o h => ?_)
    revert h; refine om_iteR (fun e9o h => ?_)
    revert h; refine om_mkR (fun σ3o ρ3o n2o e10o e11o e12o h => ?_)
    refine om_newa O 60 wd_arr k3o e8o e9o (by decide) (by decide) (by decide) dX3_init_19 e10o e11o e12o ?_
    revert h; refine om_letR (fun ρ4o e13o h => ?_)
    refine pf_X3_13 O k1o (om_lt1 e12o l1o) dX3_init_21 e13o ?_
    refine om_widen 1 60 (by decide) (by decide) ?_
    exact om_vret (st := []) O (om_e3 hE h) rfl dX3_init_24
def f_X5_init (a0 : Nat) (v1 : Int32) (σ : om_S) (ρ : om_R) (n : Nat) : Option (om_S × om_R × Nat) := if om_kc n = 3 then om_mk σ ρ n fun (σ1o : om_S) (ρ1o : om_R) (n1o : Nat) => om_call3 (f_X3_init n (60 : Int32) σ1o ρ1o n1o) fun (σ2o : om_S) (ρ2o : om_R) (n2o : Nat) => if om_kc a0 = 5 then if a0 < n2o then om_let (om_wr ρ2o a0 1 (some n)) fun (ρ3o : om_R) => if om_kc n2o = 20 then if Int32.ofNat (om_al n2o) = (60 : Int32) then if om_al n2o ≤ 60 then om_mk σ2o ρ3o n2o fun (σ3o : om_S) (ρ4o : om_R) (n3o : Nat) => om_let (om_wr ρ4o a0 2 (some n2o)) fun (ρ5o : om_R) => om_let (om_w σ3o a0 0 v1) fun (σ4o : om_S) => some (σ4o, ρ5o, n3o) else none else none else none else none else none else none
set_option maxRecDepth 100000 in
theorem c_X5_init (l : Launch) (G : om_G) {a0 : Nat} {v1 : Int32} {σ : om_S} {ρ : om_R} {n : Nat} {τ : om_S} {ρt : om_R} {nt : Nat} (h : f_X5_init a0 v1 σ ρ n = some (τ, ρt, nt)) : om_D l G 2 yX5_init cX5_init 2 none 3 122 [vR (some a0), vI v1] σ ρ n none τ ρt nt := by
  refine om_Dof (lv := [(0, vR (some a0)), (1, vI v1)]) (by decide) rfl_le rfl (fun x O hE => ?_)
  change om_Ok x RX5 "<init>" cX5_init 2 none 2 3 122 at O
  unfold f_X5_init at h
  refine om_aload_n O 0 dX5_init_0 rfl rfl ?_
  refine om_objInit O wd_84 wd_69 wd_objcode (by decide) rfl_le dX5_init_1 ?_
  refine om_aload_n O 0 dX5_init_4 rfl rfl ?_
  revert h; refine om_iteR (fun k1o h => ?_)
  revert h; refine om_mkR (fun σ1o ρ1o n1o e1o e2o e3o h => ?_)
  refine nw_X5_9 O k1o (by decide) (by decide) dX5_init_5 e1o e2o e3o ?_
  refine om_dup O rfl dX5_init_8 ?_
  refine om_bipush O (v := 60) dX5_init_9 (by decide) ?_
  revert h; refine om_call3R (fun σ2o ρ2o n2o g1o h => ?_)
  refine cl_X5_11 O (st := [vR (some n), vR (some a0)]) (stk := [vI (60 : Int32), vR (some n), vR (some n), vR (some a0)]) (st2 := [vR (some n), vR (some a0)]) [vI (60 : Int32)] (fun l G => c_X3_init l G g1o) (by decide) rfl rfl rfl_le rfl rfl_le rfl_le dX5_init_11 ?_
  revert h; refine om_iteR (fun k2o h => ?_)
  revert h; refine om_iteR (fun l1o h => ?_)
  revert h; refine om_letR (fun ρ3o e4o h => ?_)
  refine pf_X5_14 O k2o l1o dX5_init_14 e4o ?_
  refine om_aload_n O 0 dX5_init_17 rfl rfl ?_
  refine om_bipush O (v := 60) dX5_init_18 (by decide) ?_
  revert h; refine om_iteR (fun k3o h => ?_)
  revert h; refine om_iteR (fun e5o h => ?_)
  revert h; refine om_iteR (fun e6o h => ?_)
  revert h; refine om_mkR (fun σ3o ρ4o n3o e7o e8o e9o h => ?_)
  refine om_newa O 60 wd_arr k3o e5o e6o (by decide) (by decide) (by decide) dX5_init_20 e7o e8o e9o ?_
  revert h; refine om_letR (fun ρ5o e10o h => ?_)
  refine pf_X5_20 O k2o (om_lt1 e9o l1o) dX5_init_22 e10o ?_
  refine om_aload_n O 0 dX5_init_25 rfl rfl ?_
  refine om_iload_n O 1 dX5_init_26 rfl rfl ?_
  revert h; refine om_letR (fun σ4o e11o h => ?_)
  refine pf_X5_24 O (Or.inl rfl) k2o (om_lt1 e9o l1o) dX5_init_27 e11o ?_
  refine om_widen 3 122 (by decide) (by decide) ?_
  exact om_vret (st := []) O (om_e3 hE h) rfl dX5_init_30
def f_X1_init (a0 : Nat) (σ : om_S) (ρ : om_R) (n : Nat) : Option (om_S × om_R × Nat) := some (σ, ρ, n)
set_option maxRecDepth 100000 in
theorem c_X1_init (l : Launch) (G : om_G) {a0 : Nat} {σ : om_S} {ρ : om_R} {n : Nat} {τ : om_S} {ρt : om_R} {nt : Nat} (h : f_X1_init a0 σ ρ n = some (τ, ρt, nt)) : om_D l G 1 yX1_init cX1_init 1 none 0 0 [vR (some a0)] σ ρ n none τ ρt nt := by
  refine om_Dof (lv := [(0, vR (some a0))]) (by decide) rfl_le rfl (fun x O hE => ?_)
  change om_Ok x RX1 "<init>" cX1_init 1 none 1 0 0 at O
  unfold f_X1_init at h
  refine om_aload_n O 0 dX1_init_0 rfl rfl ?_
  refine om_objInit O wd_115 wd_69 wd_objcode (by decide) rfl_le dX1_init_1 ?_
  refine om_widen 0 0 (by decide) (by decide) ?_
  exact om_vret (st := []) O (om_e3 hE h) rfl dX1_init_4
def f_X6_init (a0 : Nat) (σ : om_S) (ρ : om_R) (n : Nat) : Option (om_S × om_R × Nat) := if om_kc n = 21 then if Int32.ofNat (om_al n) = (9 : Int32) then if om_al n ≤ 100 then om_mk σ ρ n fun (σ1o : om_S) (ρ1o : om_R) (n1o : Nat) => if om_kc a0 = 6 then if a0 < n1o then om_let (om_wr ρ1o a0 0 (some n)) fun (ρ2o : om_R) => if om_kc n1o = 5 then om_mk σ1o ρ2o n1o fun (σ2o : om_S) (ρ3o : om_R) (n2o : Nat) => om_call3 (f_X5_init n1o (0 : Int32) σ2o ρ3o n2o) fun (σ3o : om_S) (ρ4o : om_R) (n3o : Nat) => if a0 < n3o then om_let (om_wr ρ4o a0 1 (some n1o)) fun (ρ5o : om_R) => if om_kc n3o = 5 then om_mk σ3o ρ5o n3o fun (σ4o : om_S) (ρ6o : om_R) (n4o : Nat) => om_call3 (f_X5_init n3o (1 : Int32) σ4o ρ6o n4o) fun (σ5o : om_S) (ρ7o : om_R) (n5o : Nat) => if a0 < n5o then om_let (om_wr ρ7o a0 2 (some n3o)) fun (ρ8o : om_R) => om_let (om_w σ5o a0 3 (0 : Int32)) fun (σ6o : om_S) => om_let (om_w σ6o a0 4 (0 : Int32)) fun (σ7o : om_S) => om_let (om_w σ7o a0 5 (0 : Int32)) fun (σ8o : om_S) => om_let (om_w σ8o a0 6 (0 : Int32)) fun (σ9o : om_S) => om_let (om_w σ9o a0 7 (1 : Int32)) fun (σ10o : om_S) => om_ref (ρ8o a0 0) 21 fun (t1o : Nat) => if t1o < n5o then if (Int32.ofNat (om_al t1o)) ≤ (0 : Int32) then (some (σ10o, ρ8o, n5o)) else (om_ref (ρ8o a0 0) 21 fun (t2o : Nat) => if om_kc n5o = 1 then om_mk σ10o ρ8o n5o fun (σ11o : om_S) (ρ9o : om_R) (n6o : Nat) => om_call3 (f_X1_init n5o σ11o ρ9o n6o) fun (σ12o : om_S) (ρ10o : om_R) (n7o : Nat) => if t2o < n7o then if n5o < n7o then if om_in (0 : Int32) (om_al t2o) then om_let (om_wr ρ10o t2o (0 : Int32).toNatClampNeg (some n5o)) fun (ρ11o : om_R) => if a0 < n7o then om_ref (ρ11o a0 0) 21 fun (t3o : Nat) => if t3o < n7o then if (Int32.ofNat (om_al t3o)) ≤ (1 : Int32) then (some (σ12o, ρ11o, n7o)) else (om_ref (ρ11o a0 0) 21 fun (t4o : Nat) => if om_kc n7o = 1 then om_mk σ12o ρ11o n7o fun (σ13o : om_S) (ρ12o : om_R) (n8o : Nat) => om_call3 (f_X1_init n7o σ13o ρ12o n8o) fun (σ14o : om_S) (ρ13o : om_R) (n9o : Nat) => if t4o < n9o then if n7o < n9o then if om_in (1 : Int32) (om_al t4o) then om_let (om_wr ρ13o t4o (1 : Int32).toNatClampNeg (some n7o)) fun (ρ14o : om_R) => if a0 < n9o then om_ref (ρ14o a0 0) 21 fun (t5o : Nat) => if t5o < n9o then if (Int32.ofNat (om_al t5o)) ≤ (2 : Int32) then (some (σ14o, ρ14o, n9o)) else (om_ref (ρ14o a0 0) 21 fun (t6o : Nat) => if om_kc n9o = 1 then om_mk σ14o ρ14o n9o fun (σ15o : om_S) (ρ15o : om_R) (n10o : Nat) => om_call3 (f_X1_init n9o σ15o ρ15o n10o) fun (σ16o : om_S) (ρ16o : om_R) (n11o : Nat) => if t6o < n11o then if n9o < n11o then if om_in (2 : Int32) (om_al t6o) then om_let (om_wr ρ16o t6o (2 : Int32).toNatClampNeg (some n9o)) fun (ρ17o : om_R) => if a0 < n11o then om_ref (ρ17o a0 0) 21 fun (t7o : Nat) => if t7o < n11o then if (Int32.ofNat (om_al t7o)) ≤ (3 : Int32) then (some (σ16o, ρ17o, n11o)) else (om_ref (ρ17o a0 0) 21 fun (t8o : Nat) => if om_kc n11o = 1 then om_mk σ16o ρ17o n11o fun (σ17o : om_S) (ρ18o : om_R) (n12o : Nat) => om_call3 (f_X1_init n11o σ17o ρ18o n12o) fun (σ18o : om_S) (ρ19o : om_R) (n13o : Nat) => if t8o < n13o then if n11o < n13o then if om_in (3 : Int32) (om_al t8o) then om_let (om_wr ρ19o t8o (3 : Int32).toNatClampNeg (some n11o)) fun (ρ20o : om_R) => if a0 < n13o then om_ref (ρ20o a0 0) 21 fun (t9o : Nat) => if t9o < n13o then if (Int32.ofNat (om_al t9o)) ≤ (4 : Int32) then (some (σ18o, ρ20o, n13o)) else (om_ref (ρ20o a0 0) 21 fun (t10o : Nat) => if om_kc n13o = 1 then om_mk σ18o ρ20o n13o fun (σ19o : om_S) (ρ21o : om_R) (n14o : Nat) => om_call3 (f_X1_init n13o σ19o ρ21o n14o) fun (σ20o : om_S) (ρ22o : om_R) (n15o : Nat) => if t10o < n15o then if n13o < n15o then if om_in (4 : Int32) (om_al t10o) then om_let (om_wr ρ22o t10o (4 : Int32).toNatClampNeg (some n13o)) fun (ρ23o : om_R) => if a0 < n15o then om_ref (ρ23o a0 0) 21 fun (t11o : Nat) => if t11o < n15o then if (Int32.ofNat (om_al t11o)) ≤ (5 : Int32) then (some (σ20o, ρ23o, n15o)) else (om_ref (ρ23o a0 0) 21 fun (t12o : Nat) => if om_kc n15o = 1 then om_mk σ20o ρ23o n15o fun (σ21o : om_S) (ρ24o : om_R) (n16o : Nat) => om_call3 (f_X1_init n15o σ21o ρ24o n16o) fun (σ22o : om_S) (ρ25o : om_R) (n17o : Nat) => if t12o < n17o then if n15o < n17o then if om_in (5 : Int32) (om_al t12o) then om_let (om_wr ρ25o t12o (5 : Int32).toNatClampNeg (some n15o)) fun (ρ26o : om_R) => if a0 < n17o then om_ref (ρ26o a0 0) 21 fun (t13o : Nat) => if t13o < n17o then if (Int32.ofNat (om_al t13o)) ≤ (6 : Int32) then (some (σ22o, ρ26o, n17o)) else (om_ref (ρ26o a0 0) 21 fun (t14o : Nat) => if om_kc n17o = 1 then om_mk σ22o ρ26o n17o fun (σ23o : om_S) (ρ27o : om_R) (n18o : Nat) => om_call3 (f_X1_init n17o σ23o ρ27o n18o) fun (σ24o : om_S) (ρ28o : om_R) (n19o : Nat) => if t14o < n19o then if n17o < n19o then if om_in (6 : Int32) (om_al t14o) then om_let (om_wr ρ28o t14o (6 : Int32).toNatClampNeg (some n17o)) fun (ρ29o : om_R) => if a0 < n19o then om_ref (ρ29o a0 0) 21 fun (t15o : Nat) => if t15o < n19o then if (Int32.ofNat (om_al t15o)) ≤ (7 : Int32) then (some (σ24o, ρ29o, n19o)) else (om_ref (ρ29o a0 0) 21 fun (t16o : Nat) => if om_kc n19o = 1 then om_mk σ24o ρ29o n19o fun (σ25o : om_S) (ρ30o : om_R) (n20o : Nat) => om_call3 (f_X1_init n19o σ25o ρ30o n20o) fun (σ26o : om_S) (ρ31o : om_R) (n21o : Nat) => if t16o < n21o then if n19o < n21o then if om_in (7 : Int32) (om_al t16o) then om_let (om_wr ρ31o t16o (7 : Int32).toNatClampNeg (some n19o)) fun (ρ32o : om_R) => if a0 < n21o then om_ref (ρ32o a0 0) 21 fun (t17o : Nat) => if t17o < n21o then if (Int32.ofNat (om_al t17o)) ≤ (8 : Int32) then (some (σ26o, ρ32o, n21o)) else (om_ref (ρ32o a0 0) 21 fun (t18o : Nat) => if om_kc n21o = 1 then om_mk σ26o ρ32o n21o fun (σ27o : om_S) (ρ33o : om_R) (n22o : Nat) => om_call3 (f_X1_init n21o σ27o ρ33o n22o) fun (σ28o : om_S) (ρ34o : om_R) (n23o : Nat) => if t18o < n23o then if n21o < n23o then if om_in (8 : Int32) (om_al t18o) then om_let (om_wr ρ34o t18o (8 : Int32).toNatClampNeg (some n21o)) fun (ρ35o : om_R) => if a0 < n23o then om_ref (ρ35o a0 0) 21 fun (t19o : Nat) => if t19o < n23o then if (Int32.ofNat (om_al t19o)) ≤ (9 : Int32) then (some (σ28o, ρ35o, n23o)) else (om_ref (ρ35o a0 0) 21 fun (t20o : Nat) => none) else none else none else none else none else none else none) else none else none else none else none else none else none) else none else none else none else none else none else none) else none else none else none else none else none else none) else none else none else none else none else none else none) else none else none else none else none else none else none) else none else none else none else none else none else none) else none else none else none else none else none else none) else none else none else none else none else none else none) else none else none else none else none else none else none else none else none else none else none
set_option maxRecDepth 100000 in
theorem c_X6_init (l : Launch) (G : om_G) {a0 : Nat} {σ : om_S} {ρ : om_R} {n : Nat} {τ : om_S} {ρt : om_R} {nt : Nat} (h : f_X6_init a0 σ ρ n = some (τ, ρt, nt)) : om_D l G 3 yX6_init cX6_init 2 none 18 395 [vR (some a0)] σ ρ n none τ ρt nt := by
  refine om_Dof (lv := [(0, vR (some a0))]) (by decide) rfl_le rfl (fun x O hE => ?_)
  change om_Ok x RX6 "<init>" cX6_init 2 none 3 18 395 at O
  unfold f_X6_init at h
  refine om_aload_n O 0 dX6_init_0 rfl rfl ?_
  refine om_objInit O wd_76 wd_69 wd_objcode (by decide) rfl_le dX6_init_1 ?_
  refine om_aload_n O 0 dX6_init_4 rfl rfl ?_
  refine om_bipush O (v := 9) dX6_init_5 (by decide) ?_
  revert h; refine om_iteR (fun k1o h => ?_)
  revert h; refine om_iteR (fun e1o h => ?_)
  revert h; refine om_iteR (fun e2o h => ?_)
  revert h; refine om_mkR (fun σ1o ρ1o n1o e3o e4o e5o h => ?_)
  refine om_anewM O wd_77 k1o e1o e2o (by decide) (by decide) dX6_init_7 e3o e4o e5o ?_
  revert h; refine om_iteR (fun k2o h => ?_)
  revert h; refine om_iteR (fun l1o h => ?_)
  revert h; refine om_letR (fun ρ2o e6o h => ?_)
  refine pf_X6_11 O k2o l1o dX6_init_10 e6o ?_
  refine om_aload_n O 0 dX6_init_13 rfl rfl ?_
  revert h; refine om_iteR (fun k3o h => ?_)
  revert h; refine om_mkR (fun σ2o ρ3o n2o e7o e8o e9o h => ?_)
  refine nw_X6_17 O k3o (by decide) (by decide) dX6_init_14 e7o e8o e9o ?_
  refine om_dup O rfl dX6_init_17 ?_
  refine om_iconst O (v := 0) dX6_init_18 (by decide) ?_
  revert h; refine om_call3R (fun σ3o ρ4o n3o g1o h => ?_)
  refine cl_X6_19 O (st := [vR (some n1o), vR (some a0)]) (stk := [vI (0 : Int32), vR (some n1o), vR (some n1o), vR (some a0)]) (st2 := [vR (some n1o), vR (some a0)]) [vI (0 : Int32)] (fun l G => c_X5_init l G g1o) (by decide) rfl rfl rfl_le rfl rfl_le rfl_le dX6_init_19 ?_
  revert h; refine om_iteR (fun l2o h => ?_)
  revert h; refine om_letR (fun ρ5o e10o h => ?_)
  refine pf_X6_22 O k2o l2o dX6_init_22 e10o ?_
  refine om_aload_n O 0 dX6_init_25 rfl rfl ?_
  revert h; refine om_iteR (fun k4o h => ?_)
  revert h; refine om_mkR (fun σ4o ρ6o n4o e11o e12o e13o h => ?_)
  refine nw_X6_17 O k4o (by decide) (by decide) dX6_init_26 e11o e12o e13o ?_
  refine om_dup O rfl dX6_init_29 ?_
  refine om_iconst O (v := 1) dX6_init_30 (by decide) ?_
  revert h; refine om_call3R (fun σ5o ρ7o n5o g2o h => ?_)
  refine cl_X6_19 O (st := [vR (some n3o), vR (some a0)]) (stk := [vI (1 : Int32), vR (some n3o), vR (some n3o), vR (some a0)]) (st2 := [vR (some n3o), vR (some a0)]) [vI (1 : Int32)] (fun l G => c_X5_init l G g2o) (by decide) rfl rfl rfl_le rfl rfl_le rfl_le dX6_init_31 ?_
  revert h; refine om_iteR (fun l3o h => ?_)
  revert h; refine om_letR (fun ρ8o e14o h => ?_)
  refine pf_X6_26 O k2o l3o dX6_init_34 e14o ?_
  refine om_aload_n O 0 dX6_init_37 rfl rfl ?_
  refine om_iconst O (v := 0) dX6_init_38 (by decide) ?_
  revert h; refine om_letR (fun σ6o e15o h => ?_)
  refine pf_X6_29 O (Or.inl rfl) k2o l3o dX6_init_39 e15o ?_
  refine om_aload_n O 0 dX6_init_42 rfl rfl ?_
  refine om_iconst O (v := 0) dX6_init_43 (by decide) ?_
  revert h; refine om_letR (fun σ7o e16o h => ?_)
  refine pf_X6_33 O (Or.inl rfl) k2o l3o dX6_init_44 e16o ?_
  refine om_aload_n O 0 dX6_init_47 rfl rfl ?_
  refine om_iconst O (v := 0) dX6_init_48 (by decide) ?_
  revert h; refine om_letR (fun σ8o e17o h => ?_)
  refine pf_X6_36 O (Or.inl rfl) k2o l3o dX6_init_49 e17o ?_
  refine om_aload_n O 0 dX6_init_52 rfl rfl ?_
  refine om_iconst O (v := 0) dX6_init_53 (by decide) ?_
  revert h; refine om_letR (fun σ9o e18o h => ?_)
  refine pf_X6_39 O (Or.inl rfl) k2o l3o dX6_init_54 e18o ?_
  refine om_aload_n O 0 dX6_init_57 rfl rfl ?_
  refine om_iconst O (v := 1) dX6_init_58 (by decide) ?_
  revert h; refine om_letR (fun σ10o e19o h => ?_)
  refine pf_X6_42 O (Or.inl rfl) k2o l3o dX6_init_59 e19o ?_
  refine om_iconst O (v := 0) dX6_init_62 (by decide) ?_
  refine om_istore_n O (lv' := [(0, vR (some a0)), (1, vI (0 : Int32))]) [1, 0] rfl dX6_init_63 rfl (by decide) rfl ?_
  refine om_iload_n O 1 dX6_init_64 rfl rfl ?_
  refine om_aload_n O 0 dX6_init_65 rfl rfl ?_
  revert h; refine om_refR (fun t1o y1o k5o h => ?_)
  refine gf_X6_11 O k2o l3o dX6_init_66 ?_
  rw [y1o]
  revert h; refine om_iteR (fun l4o h => ?_)
  refine om_alenM O k5o l4o rfl dX6_init_69 ?_
  refine om_icmp_ge O (tgt := 92) dX6_init_70 (by decide) (fun c1o => ?_) (fun c1o => ?_)
  · replace h := (if_pos c1o).symm.trans h
    refine om_widen 18 395 (by decide) (by decide) ?_
    exact om_vret (st := []) O (om_e3 hE h) rfl dX6_init_92
  · replace h := (if_neg c1o).symm.trans h
    refine om_aload_n O 0 dX6_init_73 rfl rfl ?_
    revert h; refine om_refR (fun t2o y2o k6o h => ?_)
    refine gf_X6_11 O k2o l3o dX6_init_74 ?_
    rw [y2o]
    refine om_iload_n O 1 dX6_init_77 rfl rfl ?_
    revert h; refine om_iteR (fun k7o h => ?_)
    revert h; refine om_mkR (fun σ11o ρ9o n6o e20o e21o e22o h => ?_)
    refine nw_X6_9 O k7o (by decide) (by decide) dX6_init_78 e20o e21o e22o ?_
    refine om_dup O rfl dX6_init_81 ?_
    revert h; refine om_call3R (fun σ12o ρ10o n7o g3o h => ?_)
    refine cl_X6_45 O (st := [vR (some n5o), vI (0 : Int32), vR (some t2o)]) (stk := [vR (some n5o), vR (some n5o), vI (0 : Int32), vR (some t2o)]) (st2 := [vR (some n5o), vI (0 : Int32), vR (some t2o)]) [] (fun l G => c_X1_init l G g3o) (by decide) rfl rfl rfl_le rfl rfl_le rfl_le dX6_init_82 ?_
    revert h; refine om_iteR (fun l5o h => ?_)
    revert h; refine om_iteR (fun l6o h => ?_)
    revert h; refine om_iteR (fun i1o h => ?_)
    revert h; refine om_letR (fun ρ11o e23o h => ?_)
    refine om_aastM O (ci := 1) rfl (by decide) k6o l5o k7o l6o i1o dX6_init_85 e23o ?_
    refine om_iinc O (v1 := (1 : Int32)) (lv' := [(0, vR (some a0)), (1, vI (1 : Int32))]) 1 [1, 0] rfl dX6_init_86 rfl (by decide) (by decide) rfl ?_
    refine om_goto O (tgt := 64) dX6_init_89 (by decide) ?_
    refine om_iload_n O 1 dX6_init_64 rfl rfl ?_
    refine om_aload_n O 0 dX6_init_65 rfl rfl ?_
    revert h; refine om_iteR (fun l7o h => ?_)
    revert h; refine om_refR (fun t3o y3o k8o h => ?_)
    refine gf_X6_11 O k2o l7o dX6_init_66 ?_
    rw [y3o]
    revert h; refine om_iteR (fun l8o h => ?_)
    refine om_alenM O k8o l8o rfl dX6_init_69 ?_
    refine om_icmp_ge O (tgt := 92) dX6_init_70 (by decide) (fun c2o => ?_) (fun c2o => ?_)
    · replace h := (if_pos c2o).symm.trans h
      refine om_widen 18 395 (by decide) (by decide) ?_
      exact om_vret (st := []) O (om_e3 hE h) rfl dX6_init_92
    · replace h := (if_neg c2o).symm.trans h
      refine om_aload_n O 0 dX6_init_73 rfl rfl ?_
      revert h; refine om_refR (fun t4o y4o k9o h => ?_)
      refine gf_X6_11 O k2o l7o dX6_init_74 ?_
      rw [y4o]
      refine om_iload_n O 1 dX6_init_77 rfl rfl ?_
      revert h; refine om_iteR (fun k10o h => ?_)
      revert h; refine om_mkR (fun σ13o ρ12o n8o e24o e25o e26o h => ?_)
      refine nw_X6_9 O k10o (by decide) (by decide) dX6_init_78 e24o e25o e26o ?_
      refine om_dup O rfl dX6_init_81 ?_
      revert h; refine om_call3R (fun σ14o ρ13o n9o g4o h => ?_)
      refine cl_X6_45 O (st := [vR (some n7o), vI (1 : Int32), vR (some t4o)]) (stk := [vR (some n7o), vR (some n7o), vI (1 : Int32), vR (some t4o)]) (st2 := [vR (some n7o), vI (1 : Int32), vR (some t4o)]) [] (fun l G => c_X1_init l G g4o) (by decide) rfl rfl rfl_le rfl rfl_le rfl_le dX6_init_82 ?_
      revert h; refine om_iteR (fun l9o h => ?_)
      revert h; refine om_iteR (fun l10o h => ?_)
      revert h; refine om_iteR (fun i2o h => ?_)
      revert h; refine om_letR (fun ρ14o e27o h => ?_)
      refine om_aastM O (ci := 1) rfl (by decide) k9o l9o k10o l10o i2o dX6_init_85 e27o ?_
      refine om_iinc O (v1 := (2 : Int32)) (lv' := [(0, vR (some a0)), (1, vI (2 : Int32))]) 1 [1, 0] rfl dX6_init_86 rfl (by decide) (by decide) rfl ?_
      refine om_goto O (tgt := 64) dX6_init_89 (by decide) ?_
      refine om_iload_n O 1 dX6_init_64 rfl rfl ?_
      refine om_aload_n O 0 dX6_init_65 rfl rfl ?_
      revert h; refine om_iteR (fun l11o h => ?_)
      revert h; refine om_refR (fun t5o y5o k11o h => ?_)
      refine gf_X6_11 O k2o l11o dX6_init_66 ?_
      rw [y5o]
      revert h; refine om_iteR (fun l12o h => ?_)
      refine om_alenM O k11o l12o rfl dX6_init_69 ?_
      refine om_icmp_ge O (tgt := 92) dX6_init_70 (by decide) (fun c3o => ?_) (fun c3o => ?_)
      · replace h := (if_pos c3o).symm.trans h
        refine om_widen 18 395 (by decide) (by decide) ?_
        exact om_vret (st := []) O (om_e3 hE h) rfl dX6_init_92
      · replace h := (if_neg c3o).symm.trans h
        refine om_aload_n O 0 dX6_init_73 rfl rfl ?_
        revert h; refine om_refR (fun t6o y6o k12o h => ?_)
        refine gf_X6_11 O k2o l11o dX6_init_74 ?_
        rw [y6o]
        refine om_iload_n O 1 dX6_init_77 rfl rfl ?_
        revert h; refine om_iteR (fun k13o h => ?_)
        revert h; refine om_mkR (fun σ15o ρ15o n10o e28o e29o e30o h => ?_)
        refine nw_X6_9 O k13o (by decide) (by decide) dX6_init_78 e28o e29o e30o ?_
        refine om_dup O rfl dX6_init_81 ?_
        revert h; refine om_call3R (fun σ16o ρ16o n11o g5o h => ?_)
        refine cl_X6_45 O (st := [vR (some n9o), vI (2 : Int32), vR (some t6o)]) (stk := [vR (some n9o), vR (some n9o), vI (2 : Int32), vR (some t6o)]) (st2 := [vR (some n9o), vI (2 : Int32), vR (some t6o)]) [] (fun l G => c_X1_init l G g5o) (by decide) rfl rfl rfl_le rfl rfl_le rfl_le dX6_init_82 ?_
        revert h; refine om_iteR (fun l13o h => ?_)
        revert h; refine om_iteR (fun l14o h => ?_)
        revert h; refine om_iteR (fun i3o h => ?_)
        revert h; refine om_letR (fun ρ17o e31o h => ?_)
        refine om_aastM O (ci := 1) rfl (by decide) k12o l13o k13o l14o i3o dX6_init_85 e31o ?_
        refine om_iinc O (v1 := (3 : Int32)) (lv' := [(0, vR (some a0)), (1, vI (3 : Int32))]) 1 [1, 0] rfl dX6_init_86 rfl (by decide) (by decide) rfl ?_
        refine om_goto O (tgt := 64) dX6_init_89 (by decide) ?_
        refine om_iload_n O 1 dX6_init_64 rfl rfl ?_
        refine om_aload_n O 0 dX6_init_65 rfl rfl ?_
        revert h; refine om_iteR (fun l15o h => ?_)
        revert h; refine om_refR (fun t7o y7o k14o h => ?_)
        refine gf_X6_11 O k2o l15o dX6_init_66 ?_
        rw [y7o]
        revert h; refine om_iteR (fun l16o h => ?_)
        refine om_alenM O k14o l16o rfl dX6_init_69 ?_
        refine om_icmp_ge O (tgt := 92) dX6_init_70 (by decide) (fun c4o => ?_) (fun c4o => ?_)
        · replace h := (if_pos c4o).symm.trans h
          refine om_widen 18 395 (by decide) (by decide) ?_
          exact om_vret (st := []) O (om_e3 hE h) rfl dX6_init_92
        · replace h := (if_neg c4o).symm.trans h
          refine om_aload_n O 0 dX6_init_73 rfl rfl ?_
          revert h; refine om_refR (fun t8o y8o k15o h => ?_)
          refine gf_X6_11 O k2o l15o dX6_init_74 ?_
          rw [y8o]
          refine om_iload_n O 1 dX6_init_77 rfl rfl ?_
          revert h; refine om_iteR (fun k16o h => ?_)
          revert h; refine om_mkR (fun σ17o ρ18o n12o e32o e33o e34o h => ?_)
          refine nw_X6_9 O k16o (by decide) (by decide) dX6_init_78 e32o e33o e34o ?_
          refine om_dup O rfl dX6_init_81 ?_
          revert h; refine om_call3R (fun σ18o ρ19o n13o g6o h => ?_)
          refine cl_X6_45 O (st := [vR (some n11o), vI (3 : Int32), vR (some t8o)]) (stk := [vR (some n11o), vR (some n11o), vI (3 : Int32), vR (some t8o)]) (st2 := [vR (some n11o), vI (3 : Int32), vR (some t8o)]) [] (fun l G => c_X1_init l G g6o) (by decide) rfl rfl rfl_le rfl rfl_le rfl_le dX6_init_82 ?_
          revert h; refine om_iteR (fun l17o h => ?_)
          revert h; refine om_iteR (fun l18o h => ?_)
          revert h; refine om_iteR (fun i4o h => ?_)
          revert h; refine om_letR (fun ρ20o e35o h => ?_)
          refine om_aastM O (ci := 1) rfl (by decide) k15o l17o k16o l18o i4o dX6_init_85 e35o ?_
          refine om_iinc O (v1 := (4 : Int32)) (lv' := [(0, vR (some a0)), (1, vI (4 : Int32))]) 1 [1, 0] rfl dX6_init_86 rfl (by decide) (by decide) rfl ?_
          refine om_goto O (tgt := 64) dX6_init_89 (by decide) ?_
          refine om_iload_n O 1 dX6_init_64 rfl rfl ?_
          refine om_aload_n O 0 dX6_init_65 rfl rfl ?_
          revert h; refine om_iteR (fun l19o h => ?_)
          revert h; refine om_refR (fun t9o y9o k17o h => ?_)
          refine gf_X6_11 O k2o l19o dX6_init_66 ?_
          rw [y9o]
          revert h; refine om_iteR (fun l20o h => ?_)
          refine om_alenM O k17o l20o rfl dX6_init_69 ?_
          refine om_icmp_ge O (tgt := 92) dX6_init_70 (by decide) (fun c5o => ?_) (fun c5o => ?_)
          · replace h := (if_pos c5o).symm.trans h
            refine om_widen 18 395 (by decide) (by decide) ?_
            exact om_vret (st := []) O (om_e3 hE h) rfl dX6_init_92
          · replace h := (if_neg c5o).symm.trans h
            refine om_aload_n O 0 dX6_init_73 rfl rfl ?_
            revert h; refine om_refR (fun t10o y10o k18o h => ?_)
            refine gf_X6_11 O k2o l19o dX6_init_74 ?_
            rw [y10o]
            refine om_iload_n O 1 dX6_init_77 rfl rfl ?_
            revert h; refine om_iteR (fun k19o h => ?_)
            revert h; refine om_mkR (fun σ19o ρ21o n14o e36o e37o e38o h => ?_)
            refine nw_X6_9 O k19o (by decide) (by decide) dX6_init_78 e36o e37o e38o ?_
            refine om_dup O rfl dX6_init_81 ?_
            revert h; refine om_call3R (fun σ20o ρ22o n15o g7o h => ?_)
            refine cl_X6_45 O (st := [vR (some n13o), vI (4 : Int32), vR (some t10o)]) (stk := [vR (some n13o), vR (some n13o), vI (4 : Int32), vR (some t10o)]) (st2 := [vR (some n13o), vI (4 : Int32), vR (some t10o)]) [] (fun l G => c_X1_init l G g7o) (by decide) rfl rfl rfl_le rfl rfl_le rfl_le dX6_init_82 ?_
            revert h; refine om_iteR (fun l21o h => ?_)
            revert h; refine om_iteR (fun l22o h => ?_)
            revert h; refine om_iteR (fun i5o h => ?_)
            revert h; refine om_letR (fun ρ23o e39o h => ?_)
            refine om_aastM O (ci := 1) rfl (by decide) k18o l21o k19o l22o i5o dX6_init_85 e39o ?_
            refine om_iinc O (v1 := (5 : Int32)) (lv' := [(0, vR (some a0)), (1, vI (5 : Int32))]) 1 [1, 0] rfl dX6_init_86 rfl (by decide) (by decide) rfl ?_
            refine om_goto O (tgt := 64) dX6_init_89 (by decide) ?_
            refine om_iload_n O 1 dX6_init_64 rfl rfl ?_
            refine om_aload_n O 0 dX6_init_65 rfl rfl ?_
            revert h; refine om_iteR (fun l23o h => ?_)
            revert h; refine om_refR (fun t11o y11o k20o h => ?_)
            refine gf_X6_11 O k2o l23o dX6_init_66 ?_
            rw [y11o]
            revert h; refine om_iteR (fun l24o h => ?_)
            refine om_alenM O k20o l24o rfl dX6_init_69 ?_
            refine om_icmp_ge O (tgt := 92) dX6_init_70 (by decide) (fun c6o => ?_) (fun c6o => ?_)
            · replace h := (if_pos c6o).symm.trans h
              refine om_widen 18 395 (by decide) (by decide) ?_
              exact om_vret (st := []) O (om_e3 hE h) rfl dX6_init_92
            · replace h := (if_neg c6o).symm.trans h
              refine om_aload_n O 0 dX6_init_73 rfl rfl ?_
              revert h; refine om_refR (fun t12o y12o k21o h => ?_)
              refine gf_X6_11 O k2o l23o dX6_init_74 ?_
              rw [y12o]
              refine om_iload_n O 1 dX6_init_77 rfl rfl ?_
              revert h; refine om_iteR (fun k22o h => ?_)
              revert h; refine om_mkR (fun σ21o ρ24o n16o e40o e41o e42o h => ?_)
              refine nw_X6_9 O k22o (by decide) (by decide) dX6_init_78 e40o e41o e42o ?_
              refine om_dup O rfl dX6_init_81 ?_
              revert h; refine om_call3R (fun σ22o ρ25o n17o g8o h => ?_)
              refine cl_X6_45 O (st := [vR (some n15o), vI (5 : Int32), vR (some t12o)]) (stk := [vR (some n15o), vR (some n15o), vI (5 : Int32), vR (some t12o)]) (st2 := [vR (some n15o), vI (5 : Int32), vR (some t12o)]) [] (fun l G => c_X1_init l G g8o) (by decide) rfl rfl rfl_le rfl rfl_le rfl_le dX6_init_82 ?_
              revert h; refine om_iteR (fun l25o h => ?_)
              revert h; refine om_iteR (fun l26o h => ?_)
              revert h; refine om_iteR (fun i6o h => ?_)
              revert h; refine om_letR (fun ρ26o e43o h => ?_)
              refine om_aastM O (ci := 1) rfl (by decide) k21o l25o k22o l26o i6o dX6_init_85 e43o ?_
              refine om_iinc O (v1 := (6 : Int32)) (lv' := [(0, vR (some a0)), (1, vI (6 : Int32))]) 1 [1, 0] rfl dX6_init_86 rfl (by decide) (by decide) rfl ?_
              refine om_goto O (tgt := 64) dX6_init_89 (by decide) ?_
              refine om_iload_n O 1 dX6_init_64 rfl rfl ?_
              refine om_aload_n O 0 dX6_init_65 rfl rfl ?_
              revert h; refine om_iteR (fun l27o h => ?_)
              revert h; refine om_refR (fun t13o y13o k23o h => ?_)
              refine gf_X6_11 O k2o l27o dX6_init_66 ?_
              rw [y13o]
              revert h; refine om_iteR (fun l28o h => ?_)
              refine om_alenM O k23o l28o rfl dX6_init_69 ?_
              refine om_icmp_ge O (tgt := 92) dX6_init_70 (by decide) (fun c7o => ?_) (fun c7o => ?_)
              · replace h := (if_pos c7o).symm.trans h
                refine om_widen 18 395 (by decide) (by decide) ?_
                exact om_vret (st := []) O (om_e3 hE h) rfl dX6_init_92
              · replace h := (if_neg c7o).symm.trans h
                refine om_aload_n O 0 dX6_init_73 rfl rfl ?_
                revert h; refine om_refR (fun t14o y14o k24o h => ?_)
                refine gf_X6_11 O k2o l27o dX6_init_74 ?_
                rw [y14o]
                refine om_iload_n O 1 dX6_init_77 rfl rfl ?_
                revert h; refine om_iteR (fun k25o h => ?_)
                revert h; refine om_mkR (fun σ23o ρ27o n18o e44o e45o e46o h => ?_)
                refine nw_X6_9 O k25o (by decide) (by decide) dX6_init_78 e44o e45o e46o ?_
                refine om_dup O rfl dX6_init_81 ?_
                revert h; refine om_call3R (fun σ24o ρ28o n19o g9o h => ?_)
                refine cl_X6_45 O (st := [vR (some n17o), vI (6 : Int32), vR (some t14o)]) (stk := [vR (some n17o), vR (some n17o), vI (6 : Int32), vR (some t14o)]) (st2 := [vR (some n17o), vI (6 : Int32), vR (some t14o)]) [] (fun l G => c_X1_init l G g9o) (by decide) rfl rfl rfl_le rfl rfl_le rfl_le dX6_init_82 ?_
                revert h; refine om_iteR (fun l29o h => ?_)
                revert h; refine om_iteR (fun l30o h => ?_)
                revert h; refine om_iteR (fun i7o h => ?_)
                revert h; refine om_letR (fun ρ29o e47o h => ?_)
                refine om_aastM O (ci := 1) rfl (by decide) k24o l29o k25o l30o i7o dX6_init_85 e47o ?_
                refine om_iinc O (v1 := (7 : Int32)) (lv' := [(0, vR (some a0)), (1, vI (7 : Int32))]) 1 [1, 0] rfl dX6_init_86 rfl (by decide) (by decide) rfl ?_
                refine om_goto O (tgt := 64) dX6_init_89 (by decide) ?_
                refine om_iload_n O 1 dX6_init_64 rfl rfl ?_
                refine om_aload_n O 0 dX6_init_65 rfl rfl ?_
                revert h; refine om_iteR (fun l31o h => ?_)
                revert h; refine om_refR (fun t15o y15o k26o h => ?_)
                refine gf_X6_11 O k2o l31o dX6_init_66 ?_
                rw [y15o]
                revert h; refine om_iteR (fun l32o h => ?_)
                refine om_alenM O k26o l32o rfl dX6_init_69 ?_
                refine om_icmp_ge O (tgt := 92) dX6_init_70 (by decide) (fun c8o => ?_) (fun c8o => ?_)
                · replace h := (if_pos c8o).symm.trans h
                  refine om_widen 18 395 (by decide) (by decide) ?_
                  exact om_vret (st := []) O (om_e3 hE h) rfl dX6_init_92
                · replace h := (if_neg c8o).symm.trans h
                  refine om_aload_n O 0 dX6_init_73 rfl rfl ?_
                  revert h; refine om_refR (fun t16o y16o k27o h => ?_)
                  refine gf_X6_11 O k2o l31o dX6_init_74 ?_
                  rw [y16o]
                  refine om_iload_n O 1 dX6_init_77 rfl rfl ?_
                  revert h; refine om_iteR (fun k28o h => ?_)
                  revert h; refine om_mkR (fun σ25o ρ30o n20o e48o e49o e50o h => ?_)
                  refine nw_X6_9 O k28o (by decide) (by decide) dX6_init_78 e48o e49o e50o ?_
                  refine om_dup O rfl dX6_init_81 ?_
                  revert h; refine om_call3R (fun σ26o ρ31o n21o g10o h => ?_)
                  refine cl_X6_45 O (st := [vR (some n19o), vI (7 : Int32), vR (some t16o)]) (stk := [vR (some n19o), vR (some n19o), vI (7 : Int32), vR (some t16o)]) (st2 := [vR (some n19o), vI (7 : Int32), vR (some t16o)]) [] (fun l G => c_X1_init l G g10o) (by decide) rfl rfl rfl_le rfl rfl_le rfl_le dX6_init_82 ?_
                  revert h; refine om_iteR (fun l33o h => ?_)
                  revert h; refine om_iteR (fun l34o h => ?_)
                  revert h; refine om_iteR (fun i8o h => ?_)
                  revert h; refine om_letR (fun ρ32o e51o h => ?_)
                  refine om_aastM O (ci := 1) rfl (by decide) k27o l33o k28o l34o i8o dX6_init_85 e51o ?_
                  refine om_iinc O (v1 := (8 : Int32)) (lv' := [(0, vR (some a0)), (1, vI (8 : Int32))]) 1 [1, 0] rfl dX6_init_86 rfl (by decide) (by decide) rfl ?_
                  refine om_goto O (tgt := 64) dX6_init_89 (by decide) ?_
                  refine om_iload_n O 1 dX6_init_64 rfl rfl ?_
                  refine om_aload_n O 0 dX6_init_65 rfl rfl ?_
                  revert h; refine om_iteR (fun l35o h => ?_)
                  revert h; refine om_refR (fun t17o y17o k29o h => ?_)
                  refine gf_X6_11 O k2o l35o dX6_init_66 ?_
                  rw [y17o]
                  revert h; refine om_iteR (fun l36o h => ?_)
                  refine om_alenM O k29o l36o rfl dX6_init_69 ?_
                  refine om_icmp_ge O (tgt := 92) dX6_init_70 (by decide) (fun c9o => ?_) (fun c9o => ?_)
                  · replace h := (if_pos c9o).symm.trans h
                    refine om_widen 18 395 (by decide) (by decide) ?_
                    exact om_vret (st := []) O (om_e3 hE h) rfl dX6_init_92
                  · replace h := (if_neg c9o).symm.trans h
                    refine om_aload_n O 0 dX6_init_73 rfl rfl ?_
                    revert h; refine om_refR (fun t18o y18o k30o h => ?_)
                    refine gf_X6_11 O k2o l35o dX6_init_74 ?_
                    rw [y18o]
                    refine om_iload_n O 1 dX6_init_77 rfl rfl ?_
                    revert h; refine om_iteR (fun k31o h => ?_)
                    revert h; refine om_mkR (fun σ27o ρ33o n22o e52o e53o e54o h => ?_)
                    refine nw_X6_9 O k31o (by decide) (by decide) dX6_init_78 e52o e53o e54o ?_
                    refine om_dup O rfl dX6_init_81 ?_
                    revert h; refine om_call3R (fun σ28o ρ34o n23o g11o h => ?_)
                    refine cl_X6_45 O (st := [vR (some n21o), vI (8 : Int32), vR (some t18o)]) (stk := [vR (some n21o), vR (some n21o), vI (8 : Int32), vR (some t18o)]) (st2 := [vR (some n21o), vI (8 : Int32), vR (some t18o)]) [] (fun l G => c_X1_init l G g11o) (by decide) rfl rfl rfl_le rfl rfl_le rfl_le dX6_init_82 ?_
                    revert h; refine om_iteR (fun l37o h => ?_)
                    revert h; refine om_iteR (fun l38o h => ?_)
                    revert h; refine om_iteR (fun i9o h => ?_)
                    revert h; refine om_letR (fun ρ35o e55o h => ?_)
                    refine om_aastM O (ci := 1) rfl (by decide) k30o l37o k31o l38o i9o dX6_init_85 e55o ?_
                    refine om_iinc O (v1 := (9 : Int32)) (lv' := [(0, vR (some a0)), (1, vI (9 : Int32))]) 1 [1, 0] rfl dX6_init_86 rfl (by decide) (by decide) rfl ?_
                    refine om_goto O (tgt := 64) dX6_init_89 (by decide) ?_
                    refine om_iload_n O 1 dX6_init_64 rfl rfl ?_
                    refine om_aload_n O 0 dX6_init_65 rfl rfl ?_
                    revert h; refine om_iteR (fun l39o h => ?_)
                    revert h; refine om_refR (fun t19o y19o k32o h => ?_)
                    refine gf_X6_11 O k2o l39o dX6_init_66 ?_
                    rw [y19o]
                    revert h; refine om_iteR (fun l40o h => ?_)
                    refine om_alenM O k32o l40o rfl dX6_init_69 ?_
                    refine om_icmp_ge O (tgt := 92) dX6_init_70 (by decide) (fun c10o => ?_) (fun c10o => ?_)
                    · replace h := (if_pos c10o).symm.trans h
                      refine om_widen 18 395 (by decide) (by decide) ?_
                      exact om_vret (st := []) O (om_e3 hE h) rfl dX6_init_92
                    · replace h := (if_neg c10o).symm.trans h
                      refine om_aload_n O 0 dX6_init_73 rfl rfl ?_
                      revert h; refine om_refR (fun t20o y20o k33o h => ?_)
                      refine gf_X6_11 O k2o l39o dX6_init_74 ?_
                      rw [y20o]
                      refine om_iload_n O 1 dX6_init_77 rfl rfl ?_
                      cases h
def f_X0_init (a0 : Nat) (σ : om_S) (ρ : om_R) (n : Nat) : Option (om_S × om_R × Nat) := if om_kc n = 20 then if Int32.ofNat (om_al n) = (512 : Int32) then if om_al n ≤ 512 then om_mk σ ρ n fun (σ1o : om_S) (ρ1o : om_R) (n1o : Nat) => if om_kc a0 = 0 then if a0 < n1o then om_let (om_wr ρ1o a0 0 (some n)) fun (ρ2o : om_R) => if om_kc n1o = 20 then if Int32.ofNat (om_al n1o) = (512 : Int32) then if om_al n1o ≤ 512 then om_mk σ1o ρ2o n1o fun (σ2o : om_S) (ρ3o : om_R) (n2o : Nat) => om_let (om_wr ρ3o a0 1 (some n1o)) fun (ρ4o : om_R) => if om_kc n2o = 20 then if Int32.ofNat (om_al n2o) = (512 : Int32) then if om_al n2o ≤ 512 then om_mk σ2o ρ4o n2o fun (σ3o : om_S) (ρ5o : om_R) (n3o : Nat) => om_let (om_wr ρ5o a0 2 (some n2o)) fun (ρ6o : om_R) => om_let (om_w σ3o a0 3 (1 : Int32)) fun (σ4o : om_S) => om_let (om_w σ4o a0 4 (-1 : Int32)) fun (σ5o : om_S) => some (σ5o, ρ6o, n3o) else none else none else none else none else none else none else none else none else none else none else none
set_option maxRecDepth 100000 in
theorem c_X0_init (l : Launch) (G : om_G) {a0 : Nat} {σ : om_S} {ρ : om_R} {n : Nat} {τ : om_S} {ρt : om_R} {nt : Nat} (h : f_X0_init a0 σ ρ n = some (τ, ρt, nt)) : om_D l G 1 yX0_init cX0_init 1 none 3 1536 [vR (some a0)] σ ρ n none τ ρt nt := by
  refine om_Dof (lv := [(0, vR (some a0))]) (by decide) rfl_le rfl (fun x O hE => ?_)
  change om_Ok x RX0 "<init>" cX0_init 1 none 1 3 1536 at O
  unfold f_X0_init at h
  refine om_aload_n O 0 dX0_init_0 rfl rfl ?_
  refine om_objInit O wd_182 wd_69 wd_objcode (by decide) rfl_le dX0_init_1 ?_
  refine om_aload_n O 0 dX0_init_4 rfl rfl ?_
  refine om_sipush O (v := 512) dX0_init_5 (by decide) ?_
  revert h; refine om_iteR (fun k1o h => ?_)
  revert h; refine om_iteR (fun e1o h => ?_)
  revert h; refine om_iteR (fun e2o h => ?_)
  revert h; refine om_mkR (fun σ1o ρ1o n1o e3o e4o e5o h => ?_)
  refine om_newa O 512 wd_arr k1o e1o e2o (by decide) (by decide) (by decide) dX0_init_8 e3o e4o e5o ?_
  revert h; refine om_iteR (fun k2o h => ?_)
  revert h; refine om_iteR (fun l1o h => ?_)
  revert h; refine om_letR (fun ρ2o e6o h => ?_)
  refine pf_X0_9 O k2o l1o dX0_init_10 e6o ?_
  refine om_aload_n O 0 dX0_init_13 rfl rfl ?_
  refine om_sipush O (v := 512) dX0_init_14 (by decide) ?_
  revert h; refine om_iteR (fun k3o h => ?_)
  revert h; refine om_iteR (fun e7o h => ?_)
  revert h; refine om_iteR (fun e8o h => ?_)
  revert h; refine om_mkR (fun σ2o ρ3o n2o e9o e10o e11o h => ?_)
  refine om_newa O 512 wd_arr k3o e7o e8o (by decide) (by decide) (by decide) dX0_init_17 e9o e10o e11o ?_
  revert h; refine om_letR (fun ρ4o e12o h => ?_)
  refine pf_X0_15 O k2o (om_lt1 e11o l1o) dX0_init_19 e12o ?_
  refine om_aload_n O 0 dX0_init_22 rfl rfl ?_
  refine om_sipush O (v := 512) dX0_init_23 (by decide) ?_
  revert h; refine om_iteR (fun k4o h => ?_)
  revert h; refine om_iteR (fun e13o h => ?_)
  revert h; refine om_iteR (fun e14o h => ?_)
  revert h; refine om_mkR (fun σ3o ρ5o n3o e15o e16o e17o h => ?_)
  refine om_newa O 512 wd_arr k4o e13o e14o (by decide) (by decide) (by decide) dX0_init_26 e15o e16o e17o ?_
  revert h; refine om_letR (fun ρ6o e18o h => ?_)
  refine pf_X0_18 O k2o (om_lt1 e17o (om_lt1 e11o l1o)) dX0_init_28 e18o ?_
  refine om_aload_n O 0 dX0_init_31 rfl rfl ?_
  refine om_iconst O (v := 1) dX0_init_32 (by decide) ?_
  revert h; refine om_letR (fun σ4o e19o h => ?_)
  refine pf_X0_21 O (Or.inl rfl) k2o (om_lt1 e17o (om_lt1 e11o l1o)) dX0_init_33 e19o ?_
  refine om_aload_n O 0 dX0_init_36 rfl rfl ?_
  refine om_iconst O (v := -1) dX0_init_37 (by decide) ?_
  revert h; refine om_letR (fun σ5o e20o h => ?_)
  refine pf_X0_25 O (Or.inl rfl) k2o (om_lt1 e17o (om_lt1 e11o l1o)) dX0_init_38 e20o ?_
  refine om_widen 3 1536 (by decide) (by decide) ?_
  exact om_vret (st := []) O (om_e3 hE h) rfl dX0_init_41
def f_X2_init (a0 : Nat) (σ : om_S) (ρ : om_R) (n : Nat) : Option (om_S × om_R × Nat) := if om_kc n = 5 then om_mk σ ρ n fun (σ1o : om_S) (ρ1o : om_R) (n1o : Nat) => om_call3 (f_X5_init n (0 : Int32) σ1o ρ1o n1o) fun (σ2o : om_S) (ρ2o : om_R) (n2o : Nat) => if om_kc a0 = 2 then if a0 < n2o then om_let (om_wr ρ2o a0 0 (some n)) fun (ρ3o : om_R) => if om_kc n2o = 3 then om_mk σ2o ρ3o n2o fun (σ3o : om_S) (ρ4o : om_R) (n3o : Nat) => om_call3 (f_X3_init n2o (60 : Int32) σ3o ρ4o n3o) fun (σ4o : om_S) (ρ5o : om_R) (n4o : Nat) => if a0 < n4o then om_let (om_wr ρ5o a0 1 (some n2o)) fun (ρ6o : om_R) => om_let (om_w σ4o a0 2 (0 : Int32)) fun (σ5o : om_S) => om_let (om_w σ5o a0 3 (0 : Int32)) fun (σ6o : om_S) => some (σ6o, ρ6o, n4o) else none else none else none else none else none
set_option maxRecDepth 100000 in
theorem c_X2_init (l : Launch) (G : om_G) {a0 : Nat} {σ : om_S} {ρ : om_R} {n : Nat} {τ : om_S} {ρt : om_R} {nt : Nat} (h : f_X2_init a0 σ ρ n = some (τ, ρt, nt)) : om_D l G 3 yX2_init cX2_init 1 none 6 187 [vR (some a0)] σ ρ n none τ ρt nt := by
  refine om_Dof (lv := [(0, vR (some a0))]) (by decide) rfl_le rfl (fun x O hE => ?_)
  change om_Ok x RX2 "<init>" cX2_init 1 none 3 6 187 at O
  unfold f_X2_init at h
  refine om_aload_n O 0 dX2_init_0 rfl rfl ?_
  refine om_objInit O wd_206 wd_69 wd_objcode (by decide) rfl_le dX2_init_1 ?_
  refine om_aload_n O 0 dX2_init_4 rfl rfl ?_
  revert h; refine om_iteR (fun k1o h => ?_)
  revert h; refine om_mkR (fun σ1o ρ1o n1o e1o e2o e3o h => ?_)
  refine nw_X2_9 O k1o (by decide) (by decide) dX2_init_5 e1o e2o e3o ?_
  refine om_dup O rfl dX2_init_8 ?_
  refine om_iconst O (v := 0) dX2_init_9 (by decide) ?_
  revert h; refine om_call3R (fun σ2o ρ2o n2o g1o h => ?_)
  refine cl_X2_11 O (st := [vR (some n), vR (some a0)]) (stk := [vI (0 : Int32), vR (some n), vR (some n), vR (some a0)]) (st2 := [vR (some n), vR (some a0)]) [vI (0 : Int32)] (fun l G => c_X5_init l G g1o) (by decide) rfl rfl rfl_le rfl rfl_le rfl_le dX2_init_10 ?_
  revert h; refine om_iteR (fun k2o h => ?_)
  revert h; refine om_iteR (fun l1o h => ?_)
  revert h; refine om_letR (fun ρ3o e4o h => ?_)
  refine pf_X2_14 O k2o l1o dX2_init_13 e4o ?_
  refine om_aload_n O 0 dX2_init_16 rfl rfl ?_
  revert h; refine om_iteR (fun k3o h => ?_)
  revert h; refine om_mkR (fun σ3o ρ4o n3o e5o e6o e7o h => ?_)
  refine nw_X2_20 O k3o (by decide) (by decide) dX2_init_17 e5o e6o e7o ?_
  refine om_dup O rfl dX2_init_20 ?_
  refine om_bipush O (v := 60) dX2_init_21 (by decide) ?_
  revert h; refine om_call3R (fun σ4o ρ5o n4o g2o h => ?_)
  refine cl_X2_22 O (st := [vR (some n2o), vR (some a0)]) (stk := [vI (60 : Int32), vR (some n2o), vR (some n2o), vR (some a0)]) (st2 := [vR (some n2o), vR (some a0)]) [vI (60 : Int32)] (fun l G => c_X3_init l G g2o) (by decide) rfl rfl rfl_le rfl rfl_le rfl_le dX2_init_23 ?_
  revert h; refine om_iteR (fun l2o h => ?_)
  revert h; refine om_letR (fun ρ6o e8o h => ?_)
  refine pf_X2_23 O k2o l2o dX2_init_26 e8o ?_
  refine om_aload_n O 0 dX2_init_29 rfl rfl ?_
  refine om_iconst O (v := 0) dX2_init_30 (by decide) ?_
  revert h; refine om_letR (fun σ5o e9o h => ?_)
  refine pf_X2_27 O (Or.inl rfl) k2o l2o dX2_init_31 e9o ?_
  refine om_aload_n O 0 dX2_init_34 rfl rfl ?_
  refine om_iconst O (v := 0) dX2_init_35 (by decide) ?_
  revert h; refine om_letR (fun σ6o e10o h => ?_)
  refine pf_X2_31 O (Or.inl rfl) k2o l2o dX2_init_36 e10o ?_
  refine om_widen 6 187 (by decide) (by decide) ?_
  exact om_vret (st := []) O (om_e3 hE h) rfl dX2_init_39
def f_X7_init (a0 : Nat) (σ : om_S) (ρ : om_R) (n : Nat) : Option (om_S × om_R × Nat) := if om_kc n = 3 then om_mk σ ρ n fun (σ1o : om_S) (ρ1o : om_R) (n1o : Nat) => om_call3 (f_X3_init n (30 : Int32) σ1o ρ1o n1o) fun (σ2o : om_S) (ρ2o : om_R) (n2o : Nat) => if om_kc a0 = 7 then if a0 < n2o then om_let (om_wr ρ2o a0 0 (some n)) fun (ρ3o : om_R) => om_let (om_w σ2o a0 1 (0 : Int32)) fun (σ3o : om_S) => om_let (om_w σ3o a0 2 (0 : Int32)) fun (σ4o : om_S) => om_let (om_w σ4o a0 3 (0 : Int32)) fun (σ5o : om_S) => om_let (om_w σ5o a0 4 (0 : Int32)) fun (σ6o : om_S) => some (σ6o, ρ3o, n2o) else none else none else none
set_option maxRecDepth 100000 in
theorem c_X7_init (l : Launch) (G : om_G) {a0 : Nat} {σ : om_S} {ρ : om_R} {n : Nat} {τ : om_S} {ρt : om_R} {nt : Nat} (h : f_X7_init a0 σ ρ n = some (τ, ρt, nt)) : om_D l G 2 yX7_init cX7_init 1 none 2 62 [vR (some a0)] σ ρ n none τ ρt nt := by
  refine om_Dof (lv := [(0, vR (some a0))]) (by decide) rfl_le rfl (fun x O hE => ?_)
  change om_Ok x RX7 "<init>" cX7_init 1 none 2 2 62 at O
  unfold f_X7_init at h
  refine om_aload_n O 0 dX7_init_0 rfl rfl ?_
  refine om_objInit O wd_230 wd_69 wd_objcode (by decide) rfl_le dX7_init_1 ?_
  refine om_aload_n O 0 dX7_init_4 rfl rfl ?_
  revert h; refine om_iteR (fun k1o h => ?_)
  revert h; refine om_mkR (fun σ1o ρ1o n1o e1o e2o e3o h => ?_)
  refine nw_X7_9 O k1o (by decide) (by decide) dX7_init_5 e1o e2o e3o ?_
  refine om_dup O rfl dX7_init_8 ?_
  refine om_bipush O (v := 30) dX7_init_9 (by decide) ?_
  revert h; refine om_call3R (fun σ2o ρ2o n2o g1o h => ?_)
  refine cl_X7_11 O (st := [vR (some n), vR (some a0)]) (stk := [vI (30 : Int32), vR (some n), vR (some n), vR (some a0)]) (st2 := [vR (some n), vR (some a0)]) [vI (30 : Int32)] (fun l G => c_X3_init l G g1o) (by decide) rfl rfl rfl_le rfl rfl_le rfl_le dX7_init_11 ?_
  revert h; refine om_iteR (fun k2o h => ?_)
  revert h; refine om_iteR (fun l1o h => ?_)
  revert h; refine om_letR (fun ρ3o e4o h => ?_)
  refine pf_X7_14 O k2o l1o dX7_init_14 e4o ?_
  refine om_aload_n O 0 dX7_init_17 rfl rfl ?_
  refine om_iconst O (v := 0) dX7_init_18 (by decide) ?_
  revert h; refine om_letR (fun σ3o e5o h => ?_)
  refine pf_X7_20 O (Or.inl rfl) k2o l1o dX7_init_19 e5o ?_
  refine om_aload_n O 0 dX7_init_22 rfl rfl ?_
  refine om_iconst O (v := 0) dX7_init_23 (by decide) ?_
  revert h; refine om_letR (fun σ4o e6o h => ?_)
  refine pf_X7_24 O (Or.inl rfl) k2o l1o dX7_init_24 e6o ?_
  refine om_aload_n O 0 dX7_init_27 rfl rfl ?_
  refine om_iconst O (v := 0) dX7_init_28 (by decide) ?_
  revert h; refine om_letR (fun σ5o e7o h => ?_)
  refine pf_X7_27 O (Or.inl rfl) k2o l1o dX7_init_29 e7o ?_
  refine om_aload_n O 0 dX7_init_32 rfl rfl ?_
  refine om_iconst O (v := 0) dX7_init_33 (by decide) ?_
  revert h; refine om_letR (fun σ6o e8o h => ?_)
  refine pf_X7_30 O (Or.inr ⟨rfl, Or.inl rfl⟩) k2o l1o dX7_init_34 e8o ?_
  refine om_widen 2 62 (by decide) (by decide) ?_
  exact om_vret (st := []) O (om_e3 hE h) rfl dX7_init_37
def f_X4_init (a0 : Nat) (σ : om_S) (ρ : om_R) (n : Nat) : Option (om_S × om_R × Nat) := if om_kc n = 20 then if Int32.ofNat (om_al n) = (24 : Int32) then if om_al n ≤ 24 then om_mk σ ρ n fun (σ1o : om_S) (ρ1o : om_R) (n1o : Nat) => if om_kc a0 = 4 then if a0 < n1o then om_let (om_wr ρ1o a0 0 (some n)) fun (ρ2o : om_R) => om_let (om_w σ1o a0 1 (0 : Int32)) fun (σ2o : om_S) => om_let (om_w σ2o a0 2 (0 : Int32)) fun (σ3o : om_S) => some (σ3o, ρ2o, n1o) else none else none else none else none else none
set_option maxRecDepth 100000 in
theorem c_X4_init (l : Launch) (G : om_G) {a0 : Nat} {σ : om_S} {ρ : om_R} {n : Nat} {τ : om_S} {ρt : om_R} {nt : Nat} (h : f_X4_init a0 σ ρ n = some (τ, ρt, nt)) : om_D l G 1 yX4_init cX4_init 1 none 1 24 [vR (some a0)] σ ρ n none τ ρt nt := by
  refine om_Dof (lv := [(0, vR (some a0))]) (by decide) rfl_le rfl (fun x O hE => ?_)
  change om_Ok x RX4 "<init>" cX4_init 1 none 1 1 24 at O
  unfold f_X4_init at h
  refine om_aload_n O 0 dX4_init_0 rfl rfl ?_
  refine om_objInit O wd_257 wd_69 wd_objcode (by decide) rfl_le dX4_init_1 ?_
  refine om_aload_n O 0 dX4_init_4 rfl rfl ?_
  refine om_bipush O (v := 24) dX4_init_5 (by decide) ?_
  revert h; refine om_iteR (fun k1o h => ?_)
  revert h; refine om_iteR (fun e1o h => ?_)
  revert h; refine om_iteR (fun e2o h => ?_)
  revert h; refine om_mkR (fun σ1o ρ1o n1o e3o e4o e5o h => ?_)
  refine om_newa O 24 wd_arr k1o e1o e2o (by decide) (by decide) (by decide) dX4_init_7 e3o e4o e5o ?_
  revert h; refine om_iteR (fun k2o h => ?_)
  revert h; refine om_iteR (fun l1o h => ?_)
  revert h; refine om_letR (fun ρ2o e6o h => ?_)
  refine pf_X4_9 O k2o l1o dX4_init_9 e6o ?_
  refine om_aload_n O 0 dX4_init_12 rfl rfl ?_
  refine om_iconst O (v := 0) dX4_init_13 (by decide) ?_
  revert h; refine om_letR (fun σ2o e7o h => ?_)
  refine pf_X4_15 O (Or.inl rfl) k2o l1o dX4_init_14 e7o ?_
  refine om_aload_n O 0 dX4_init_17 rfl rfl ?_
  refine om_iconst O (v := 0) dX4_init_18 (by decide) ?_
  revert h; refine om_letR (fun σ3o e8o h => ?_)
  refine pf_X4_19 O (Or.inl rfl) k2o l1o dX4_init_19 e8o ?_
  refine om_widen 1 24 (by decide) (by decide) ?_
  exact om_vret (st := []) O (om_e3 hE h) rfl dX4_init_22
def f_X8_init (a0 : Nat) (σ : om_S) (ρ : om_R) (n : Nat) : Option (om_S × om_R × Nat) := if om_kc n = 6 then om_mk σ ρ n fun (σ1o : om_S) (ρ1o : om_R) (n1o : Nat) => om_call3 (f_X6_init n σ1o ρ1o n1o) fun (σ2o : om_S) (ρ2o : om_R) (n2o : Nat) => if om_kc a0 = 8 then if a0 < n2o then om_let (om_wr ρ2o a0 0 (some n)) fun (ρ3o : om_R) => if om_kc n2o = 6 then om_mk σ2o ρ3o n2o fun (σ3o : om_S) (ρ4o : om_R) (n3o : Nat) => om_call3 (f_X6_init n2o σ3o ρ4o n3o) fun (σ4o : om_S) (ρ5o : om_R) (n4o : Nat) => if a0 < n4o then om_let (om_wr ρ5o a0 1 (some n2o)) fun (ρ6o : om_R) => if om_kc n4o = 6 then om_mk σ4o ρ6o n4o fun (σ5o : om_S) (ρ7o : om_R) (n5o : Nat) => om_call3 (f_X6_init n4o σ5o ρ7o n5o) fun (σ6o : om_S) (ρ8o : om_R) (n6o : Nat) => if a0 < n6o then om_let (om_wr ρ8o a0 2 (some n4o)) fun (ρ9o : om_R) => if om_kc n6o = 0 then om_mk σ6o ρ9o n6o fun (σ7o : om_S) (ρ10o : om_R) (n7o : Nat) => om_call3 (f_X0_init n6o σ7o ρ10o n7o) fun (σ8o : om_S) (ρ11o : om_R) (n8o : Nat) => if a0 < n8o then om_let (om_wr ρ11o a0 3 (some n6o)) fun (ρ12o : om_R) => if om_kc n8o = 3 then om_mk σ8o ρ12o n8o fun (σ9o : om_S) (ρ13o : om_R) (n9o : Nat) => om_call3 (f_X3_init n8o (60 : Int32) σ9o ρ13o n9o) fun (σ10o : om_S) (ρ14o : om_R) (n10o : Nat) => if a0 < n10o then om_let (om_wr ρ14o a0 4 (some n8o)) fun (ρ15o : om_R) => if om_kc n10o = 3 then om_mk σ10o ρ15o n10o fun (σ11o : om_S) (ρ16o : om_R) (n11o : Nat) => om_call3 (f_X3_init n10o (60 : Int32) σ11o ρ16o n11o) fun (σ12o : om_S) (ρ17o : om_R) (n12o : Nat) => if a0 < n12o then om_let (om_wr ρ17o a0 5 (some n10o)) fun (ρ18o : om_R) => if om_kc n12o = 3 then om_mk σ12o ρ18o n12o fun (σ13o : om_S) (ρ19o : om_R) (n13o : Nat) => om_call3 (f_X3_init n12o (24 : Int32) σ13o ρ19o n13o) fun (σ14o : om_S) (ρ20o : om_R) (n14o : Nat) => if a0 < n14o then om_let (om_wr ρ20o a0 6 (some n12o)) fun (ρ21o : om_R) => if om_kc n14o = 3 then om_mk σ14o ρ21o n14o fun (σ15o : om_S) (ρ22o : om_R) (n15o : Nat) => om_call3 (f_X3_init n14o (24 : Int32) σ15o ρ22o n15o) fun (σ16o : om_S) (ρ23o : om_R) (n16o : Nat) => if a0 < n16o then om_let (om_wr ρ23o a0 7 (some n14o)) fun (ρ24o : om_R) => if om_kc n16o = 2 then om_mk σ16o ρ24o n16o fun (σ17o : om_S) (ρ25o : om_R) (n17o : Nat) => om_call3 (f_X2_init n16o σ17o ρ25o n17o) fun (σ18o : om_S) (ρ26o : om_R) (n18o : Nat) => if a0 < n18o then om_let (om_wr ρ26o a0 8 (some n16o)) fun (ρ27o : om_R) => if om_kc n18o = 7 then om_mk σ18o ρ27o n18o fun (σ19o : om_S) (ρ28o : om_R) (n19o : Nat) => om_call3 (f_X7_init n18o σ19o ρ28o n19o) fun (σ20o : om_S) (ρ29o : om_R) (n20o : Nat) => if a0 < n20o then om_let (om_wr ρ29o a0 9 (some n18o)) fun (ρ30o : om_R) => if om_kc n20o = 22 then if Int32.ofNat (om_al n20o) = (4 : Int32) then if om_al n20o ≤ 100 then om_mk σ20o ρ30o n20o fun (σ21o : om_S) (ρ31o : om_R) (n21o : Nat) => om_let (om_wr ρ31o a0 10 (some n20o)) fun (ρ32o : om_R) => if om_kc n21o = 20 then if Int32.ofNat (om_al n21o) = (7 : Int32) then if om_al n21o ≤ 7 then om_mk σ21o ρ32o n21o fun (σ22o : om_S) (ρ33o : om_R) (n22o : Nat) => om_let (om_wr ρ33o a0 11 (some n21o)) fun (ρ34o : om_R) => om_let (om_w σ22o a0 12 (0 : Int32)) fun (σ23o : om_S) => om_ref (ρ34o a0 10) 22 fun (t1o : Nat) => if t1o < n22o then if (Int32.ofNat (om_al t1o)) ≤ (0 : Int32) then (some (σ23o, ρ34o, n22o)) else (om_ref (ρ34o a0 10) 22 fun (t2o : Nat) => if om_kc n22o = 4 then om_mk σ23o ρ34o n22o fun (σ24o : om_S) (ρ35o : om_R) (n23o : Nat) => om_call3 (f_X4_init n22o σ24o ρ35o n23o) fun (σ25o : om_S) (ρ36o : om_R) (n24o : Nat) => if t2o < n24o then if n22o < n24o then if om_in (0 : Int32) (om_al t2o) then om_let (om_wr ρ36o t2o (0 : Int32).toNatClampNeg (some n22o)) fun (ρ37o : om_R) => if a0 < n24o then om_ref (ρ37o a0 10) 22 fun (t3o : Nat) => if t3o < n24o then if (Int32.ofNat (om_al t3o)) ≤ (1 : Int32) then (some (σ25o, ρ37o, n24o)) else (om_ref (ρ37o a0 10) 22 fun (t4o : Nat) => if om_kc n24o = 4 then om_mk σ25o ρ37o n24o fun (σ26o : om_S) (ρ38o : om_R) (n25o : Nat) => om_call3 (f_X4_init n24o σ26o ρ38o n25o) fun (σ27o : om_S) (ρ39o : om_R) (n26o : Nat) => if t4o < n26o then if n24o < n26o then if om_in (1 : Int32) (om_al t4o) then om_let (om_wr ρ39o t4o (1 : Int32).toNatClampNeg (some n24o)) fun (ρ40o : om_R) => if a0 < n26o then om_ref (ρ40o a0 10) 22 fun (t5o : Nat) => if t5o < n26o then if (Int32.ofNat (om_al t5o)) ≤ (2 : Int32) then (some (σ27o, ρ40o, n26o)) else (om_ref (ρ40o a0 10) 22 fun (t6o : Nat) => if om_kc n26o = 4 then om_mk σ27o ρ40o n26o fun (σ28o : om_S) (ρ41o : om_R) (n27o : Nat) => om_call3 (f_X4_init n26o σ28o ρ41o n27o) fun (σ29o : om_S) (ρ42o : om_R) (n28o : Nat) => if t6o < n28o then if n26o < n28o then if om_in (2 : Int32) (om_al t6o) then om_let (om_wr ρ42o t6o (2 : Int32).toNatClampNeg (some n26o)) fun (ρ43o : om_R) => if a0 < n28o then om_ref (ρ43o a0 10) 22 fun (t7o : Nat) => if t7o < n28o then if (Int32.ofNat (om_al t7o)) ≤ (3 : Int32) then (some (σ29o, ρ43o, n28o)) else (om_ref (ρ43o a0 10) 22 fun (t8o : Nat) => if om_kc n28o = 4 then om_mk σ29o ρ43o n28o fun (σ30o : om_S) (ρ44o : om_R) (n29o : Nat) => om_call3 (f_X4_init n28o σ30o ρ44o n29o) fun (σ31o : om_S) (ρ45o : om_R) (n30o : Nat) => if t8o < n30o then if n28o < n30o then if om_in (3 : Int32) (om_al t8o) then om_let (om_wr ρ45o t8o (3 : Int32).toNatClampNeg (some n28o)) fun (ρ46o : om_R) => if a0 < n30o then om_ref (ρ46o a0 10) 22 fun (t9o : Nat) => if t9o < n30o then if (Int32.ofNat (om_al t9o)) ≤ (4 : Int32) then (some (σ31o, ρ46o, n30o)) else (om_ref (ρ46o a0 10) 22 fun (t10o : Nat) => none) else none else none else none else none else none else none) else none else none else none else none else none else none) else none else none else none else none else none else none) else none else none else none else none else none else none) else none else none else none else none else none else none else none else none else none else none else none else none else none else none else none else none else none else none else none else none else none else none else none else none else none else none else none else none
set_option maxRecDepth 100000 in
theorem c_X8_init (l : Launch) (G : om_G) {a0 : Nat} {σ : om_S} {ρ : om_R} {n : Nat} {τ : om_S} {ρt : om_R} {nt : Nat} (h : f_X8_init a0 σ ρ n = some (τ, ρt, nt)) : om_D l G 4 yX8_init cX8_init 2 none 89 3471 [vR (some a0)] σ ρ n none τ ρt nt := by
  refine om_Dof (lv := [(0, vR (some a0))]) (by decide) rfl_le rfl (fun x O hE => ?_)
  change om_Ok x RX8 "<init>" cX8_init 2 none 4 89 3471 at O
  unfold f_X8_init at h
  refine om_aload_n O 0 dX8_init_0 rfl rfl ?_
  refine om_objInit O wd_68 wd_69 wd_objcode (by decide) rfl_le dX8_init_1 ?_
  refine om_aload_n O 0 dX8_init_4 rfl rfl ?_
  revert h; refine om_iteR (fun k1o h => ?_)
  revert h; refine om_mkR (fun σ1o ρ1o n1o e1o e2o e3o h => ?_)
  refine nw_X8_7 O k1o (by decide) (by decide) dX8_init_5 e1o e2o e3o ?_
  refine om_dup O rfl dX8_init_8 ?_
  revert h; refine om_call3R (fun σ2o ρ2o n2o g1o h => ?_)
  refine cl_X8_9 O (st := [vR (some n), vR (some a0)]) (stk := [vR (some n), vR (some n), vR (some a0)]) (st2 := [vR (some n), vR (some a0)]) [] (fun l G => c_X6_init l G g1o) (by decide) rfl rfl rfl_le rfl rfl_le rfl_le dX8_init_9 ?_
  revert h; refine om_iteR (fun k2o h => ?_)
  revert h; refine om_iteR (fun l1o h => ?_)
  revert h; refine om_letR (fun ρ3o e4o h => ?_)
  refine pf_X8_10 O k2o l1o dX8_init_12 e4o ?_
  refine om_aload_n O 0 dX8_init_15 rfl rfl ?_
  revert h; refine om_iteR (fun k3o h => ?_)
  revert h; refine om_mkR (fun σ3o ρ4o n3o e5o e6o e7o h => ?_)
  refine nw_X8_7 O k3o (by decide) (by decide) dX8_init_16 e5o e6o e7o ?_
  refine om_dup O rfl dX8_init_19 ?_
  revert h; refine om_call3R (fun σ4o ρ5o n4o g2o h => ?_)
  refine cl_X8_9 O (st := [vR (some n2o), vR (some a0)]) (stk := [vR (some n2o), vR (some n2o), vR (some a0)]) (st2 := [vR (some n2o), vR (some a0)]) [] (fun l G => c_X6_init l G g2o) (by decide) rfl rfl rfl_le rfl rfl_le rfl_le dX8_init_20 ?_
  revert h; refine om_iteR (fun l2o h => ?_)
  revert h; refine om_letR (fun ρ6o e8o h => ?_)
  refine pf_X8_16 O k2o l2o dX8_init_23 e8o ?_
  refine om_aload_n O 0 dX8_init_26 rfl rfl ?_
  revert h; refine om_iteR (fun k4o h => ?_)
  revert h; refine om_mkR (fun σ5o ρ7o n5o e9o e10o e11o h => ?_)
  refine nw_X8_7 O k4o (by decide) (by decide) dX8_init_27 e9o e10o e11o ?_
  refine om_dup O rfl dX8_init_30 ?_
  revert h; refine om_call3R (fun σ6o ρ8o n6o g3o h => ?_)
  refine cl_X8_9 O (st := [vR (some n4o), vR (some a0)]) (stk := [vR (some n4o), vR (some n4o), vR (some a0)]) (st2 := [vR (some n4o), vR (some a0)]) [] (fun l G => c_X6_init l G g3o) (by decide) rfl rfl rfl_le rfl rfl_le rfl_le dX8_init_31 ?_
  revert h; refine om_iteR (fun l3o h => ?_)
  revert h; refine om_letR (fun ρ9o e12o h => ?_)
  refine pf_X8_19 O k2o l3o dX8_init_34 e12o ?_
  refine om_aload_n O 0 dX8_init_37 rfl rfl ?_
  revert h; refine om_iteR (fun k5o h => ?_)
  revert h; refine om_mkR (fun σ7o ρ10o n7o e13o e14o e15o h => ?_)
  refine nw_X8_22 O k5o (by decide) (by decide) dX8_init_38 e13o e14o e15o ?_
  refine om_dup O rfl dX8_init_41 ?_
  revert h; refine om_call3R (fun σ8o ρ11o n8o g4o h => ?_)
  refine cl_X8_24 O (st := [vR (some n6o), vR (some a0)]) (stk := [vR (some n6o), vR (some n6o), vR (some a0)]) (st2 := [vR (some n6o), vR (some a0)]) [] (fun l G => c_X0_init l G g4o) (by decide) rfl rfl rfl_le rfl rfl_le rfl_le dX8_init_42 ?_
  revert h; refine om_iteR (fun l4o h => ?_)
  revert h; refine om_letR (fun ρ12o e16o h => ?_)
  refine pf_X8_25 O k2o l4o dX8_init_45 e16o ?_
  refine om_aload_n O 0 dX8_init_48 rfl rfl ?_
  revert h; refine om_iteR (fun k6o h => ?_)
  revert h; refine om_mkR (fun σ9o ρ13o n9o e17o e18o e19o h => ?_)
  refine nw_X8_29 O k6o (by decide) (by decide) dX8_init_49 e17o e18o e19o ?_
  refine om_dup O rfl dX8_init_52 ?_
  refine om_bipush O (v := 60) dX8_init_53 (by decide) ?_
  revert h; refine om_call3R (fun σ10o ρ14o n10o g5o h => ?_)
  refine cl_X8_31 O (st := [vR (some n8o), vR (some a0)]) (stk := [vI (60 : Int32), vR (some n8o), vR (some n8o), vR (some a0)]) (st2 := [vR (some n8o), vR (some a0)]) [vI (60 : Int32)] (fun l G => c_X3_init l G g5o) (by decide) rfl rfl rfl_le rfl rfl_le rfl_le dX8_init_55 ?_
  revert h; refine om_iteR (fun l5o h => ?_)
  revert h; refine om_letR (fun ρ15o e20o h => ?_)
  refine pf_X8_34 O k2o l5o dX8_init_58 e20o ?_
  refine om_aload_n O 0 dX8_init_61 rfl rfl ?_
  revert h; refine om_iteR (fun k7o h => ?_)
  revert h; refine om_mkR (fun σ11o ρ16o n11o e21o e22o e23o h => ?_)
  refine nw_X8_29 O k7o (by decide) (by decide) dX8_init_62 e21o e22o e23o ?_
  refine om_dup O rfl dX8_init_65 ?_
  refine om_bipush O (v := 60) dX8_init_66 (by decide) ?_
  revert h; refine om_call3R (fun σ12o ρ17o n12o g6o h => ?_)
  refine cl_X8_31 O (st := [vR (some n10o), vR (some a0)]) (stk := [vI (60 : Int32), vR (some n10o), vR (some n10o), vR (some a0)]) (st2 := [vR (some n10o), vR (some a0)]) [vI (60 : Int32)] (fun l G => c_X3_init l G g6o) (by decide) rfl rfl rfl_le rfl rfl_le rfl_le dX8_init_68 ?_
  revert h; refine om_iteR (fun l6o h => ?_)
  revert h; refine om_letR (fun ρ18o e24o h => ?_)
  refine pf_X8_38 O k2o l6o dX8_init_71 e24o ?_
  refine om_aload_n O 0 dX8_init_74 rfl rfl ?_
  revert h; refine om_iteR (fun k8o h => ?_)
  revert h; refine om_mkR (fun σ13o ρ19o n13o e25o e26o e27o h => ?_)
  refine nw_X8_29 O k8o (by decide) (by decide) dX8_init_75 e25o e26o e27o ?_
  refine om_dup O rfl dX8_init_78 ?_
  refine om_bipush O (v := 24) dX8_init_79 (by decide) ?_
  revert h; refine om_call3R (fun σ14o ρ20o n14o g7o h => ?_)
  refine cl_X8_31 O (st := [vR (some n12o), vR (some a0)]) (stk := [vI (24 : Int32), vR (some n12o), vR (some n12o), vR (some a0)]) (st2 := [vR (some n12o), vR (some a0)]) [vI (24 : Int32)] (fun l G => c_X3_init l G g7o) (by decide) rfl rfl rfl_le rfl rfl_le rfl_le dX8_init_81 ?_
  revert h; refine om_iteR (fun l7o h => ?_)
  revert h; refine om_letR (fun ρ21o e28o h => ?_)
  refine pf_X8_41 O k2o l7o dX8_init_84 e28o ?_
  refine om_aload_n O 0 dX8_init_87 rfl rfl ?_
  revert h; refine om_iteR (fun k9o h => ?_)
  revert h; refine om_mkR (fun σ15o ρ22o n15o e29o e30o e31o h => ?_)
  refine nw_X8_29 O k9o (by decide) (by decide) dX8_init_88 e29o e30o e31o ?_
  refine om_dup O rfl dX8_init_91 ?_
  refine om_bipush O (v := 24) dX8_init_92 (by decide) ?_
  revert h; refine om_call3R (fun σ16o ρ23o n16o g8o h => ?_)
  refine cl_X8_31 O (st := [vR (some n14o), vR (some a0)]) (stk := [vI (24 : Int32), vR (some n14o), vR (some n14o), vR (some a0)]) (st2 := [vR (some n14o), vR (some a0)]) [vI (24 : Int32)] (fun l G => c_X3_init l G g8o) (by decide) rfl rfl rfl_le rfl rfl_le rfl_le dX8_init_94 ?_
  revert h; refine om_iteR (fun l8o h => ?_)
  revert h; refine om_letR (fun ρ24o e32o h => ?_)
  refine pf_X8_44 O k2o l8o dX8_init_97 e32o ?_
  refine om_aload_n O 0 dX8_init_100 rfl rfl ?_
  revert h; refine om_iteR (fun k10o h => ?_)
  revert h; refine om_mkR (fun σ17o ρ25o n17o e33o e34o e35o h => ?_)
  refine nw_X8_47 O k10o (by decide) (by decide) dX8_init_101 e33o e34o e35o ?_
  refine om_dup O rfl dX8_init_104 ?_
  revert h; refine om_call3R (fun σ18o ρ26o n18o g9o h => ?_)
  refine cl_X8_49 O (st := [vR (some n16o), vR (some a0)]) (stk := [vR (some n16o), vR (some n16o), vR (some a0)]) (st2 := [vR (some n16o), vR (some a0)]) [] (fun l G => c_X2_init l G g9o) (by decide) rfl rfl rfl_le rfl rfl_le rfl_le dX8_init_105 ?_
  revert h; refine om_iteR (fun l9o h => ?_)
  revert h; refine om_letR (fun ρ27o e36o h => ?_)
  refine pf_X8_50 O k2o l9o dX8_init_108 e36o ?_
  refine om_aload_n O 0 dX8_init_111 rfl rfl ?_
  revert h; refine om_iteR (fun k11o h => ?_)
  revert h; refine om_mkR (fun σ19o ρ28o n19o e37o e38o e39o h => ?_)
  refine nw_X8_54 O k11o (by decide) (by decide) dX8_init_112 e37o e38o e39o ?_
  refine om_dup O rfl dX8_init_115 ?_
  revert h; refine om_call3R (fun σ20o ρ29o n20o g10o h => ?_)
  refine cl_X8_56 O (st := [vR (some n18o), vR (some a0)]) (stk := [vR (some n18o), vR (some n18o), vR (some a0)]) (st2 := [vR (some n18o), vR (some a0)]) [] (fun l G => c_X7_init l G g10o) (by decide) rfl rfl rfl_le rfl rfl_le rfl_le dX8_init_116 ?_
  revert h; refine om_iteR (fun l10o h => ?_)
  revert h; refine om_letR (fun ρ30o e40o h => ?_)
  refine pf_X8_57 O k2o l10o dX8_init_119 e40o ?_
  refine om_aload_n O 0 dX8_init_122 rfl rfl ?_
  refine om_iconst O (v := 4) dX8_init_123 (by decide) ?_
  revert h; refine om_iteR (fun k12o h => ?_)
  revert h; refine om_iteR (fun e41o h => ?_)
  revert h; refine om_iteR (fun e42o h => ?_)
  revert h; refine om_mkR (fun σ21o ρ31o n21o e43o e44o e45o h => ?_)
  refine om_anewS O wd_251 k12o e41o e42o (by decide) (by decide) dX8_init_124 e43o e44o e45o ?_
  revert h; refine om_letR (fun ρ32o e46o h => ?_)
  refine pf_X8_63 O k2o (om_lt1 e45o l10o) dX8_init_127 e46o ?_
  refine om_aload_n O 0 dX8_init_130 rfl rfl ?_
  refine om_bipush O (v := 7) dX8_init_131 (by decide) ?_
  revert h; refine om_iteR (fun k13o h => ?_)
  revert h; refine om_iteR (fun e47o h => ?_)
  revert h; refine om_iteR (fun e48o h => ?_)
  revert h; refine om_mkR (fun σ22o ρ33o n22o e49o e50o e51o h => ?_)
  refine om_newa O 7 wd_arr k13o e47o e48o (by decide) (by decide) (by decide) dX8_init_133 e49o e50o e51o ?_
  revert h; refine om_letR (fun ρ34o e52o h => ?_)
  refine pf_X8_67 O k2o (om_lt1 e51o (om_lt1 e45o l10o)) dX8_init_135 e52o ?_
  refine om_aload_n O 0 dX8_init_138 rfl rfl ?_
  refine om_iconst O (v := 0) dX8_init_139 (by decide) ?_
  revert h; refine om_letR (fun σ23o e53o h => ?_)
  refine pf_X8_71 O (Or.inl rfl) k2o (om_lt1 e51o (om_lt1 e45o l10o)) dX8_init_140 e53o ?_
  refine om_iconst O (v := 0) dX8_init_143 (by decide) ?_
  refine om_istore_n O (lv' := [(0, vR (some a0)), (1, vI (0 : Int32))]) [1, 0] rfl dX8_init_144 rfl (by decide) rfl ?_
  refine om_iload_n O 1 dX8_init_145 rfl rfl ?_
  refine om_aload_n O 0 dX8_init_146 rfl rfl ?_
  revert h; refine om_refR (fun t1o y1o k14o h => ?_)
  refine gf_X8_63 O k2o (om_lt1 e51o (om_lt1 e45o l10o)) dX8_init_147 ?_
  rw [y1o]
  revert h; refine om_iteR (fun l11o h => ?_)
  refine om_alenS O k14o l11o rfl dX8_init_150 ?_
  refine om_icmp_ge O (tgt := 173) dX8_init_151 (by decide) (fun c1o => ?_) (fun c1o => ?_)
  · replace h := (if_pos c1o).symm.trans h
    refine om_widen 89 3471 (by decide) (by decide) ?_
    exact om_vret (st := []) O (om_e3 hE h) rfl dX8_init_173
  · replace h := (if_neg c1o).symm.trans h
    refine om_aload_n O 0 dX8_init_154 rfl rfl ?_
    revert h; refine om_refR (fun t2o y2o k15o h => ?_)
    refine gf_X8_63 O k2o (om_lt1 e51o (om_lt1 e45o l10o)) dX8_init_155 ?_
    rw [y2o]
    refine om_iload_n O 1 dX8_init_158 rfl rfl ?_
    revert h; refine om_iteR (fun k16o h => ?_)
    revert h; refine om_mkR (fun σ24o ρ35o n23o e54o e55o e56o h => ?_)
    refine nw_X8_61 O k16o (by decide) (by decide) dX8_init_159 e54o e55o e56o ?_
    refine om_dup O rfl dX8_init_162 ?_
    revert h; refine om_call3R (fun σ25o ρ36o n24o g11o h => ?_)
    refine cl_X8_75 O (st := [vR (some n22o), vI (0 : Int32), vR (some t2o)]) (stk := [vR (some n22o), vR (some n22o), vI (0 : Int32), vR (some t2o)]) (st2 := [vR (some n22o), vI (0 : Int32), vR (some t2o)]) [] (fun l G => c_X4_init l G g11o) (by decide) rfl rfl rfl_le rfl rfl_le rfl_le dX8_init_163 ?_
    revert h; refine om_iteR (fun l12o h => ?_)
    revert h; refine om_iteR (fun l13o h => ?_)
    revert h; refine om_iteR (fun i1o h => ?_)
    revert h; refine om_letR (fun ρ37o e57o h => ?_)
    refine om_aastS O (ci := 4) rfl (by decide) k15o l12o k16o l13o i1o dX8_init_166 e57o ?_
    refine om_iinc O (v1 := (1 : Int32)) (lv' := [(0, vR (some a0)), (1, vI (1 : Int32))]) 1 [1, 0] rfl dX8_init_167 rfl (by decide) (by decide) rfl ?_
    refine om_goto O (tgt := 145) dX8_init_170 (by decide) ?_
    refine om_iload_n O 1 dX8_init_145 rfl rfl ?_
    refine om_aload_n O 0 dX8_init_146 rfl rfl ?_
    revert h; refine om_iteR (fun l14o h => ?_)
    revert h; refine om_refR (fun t3o y3o k17o h => ?_)
    refine gf_X8_63 O k2o l14o dX8_init_147 ?_
    rw [y3o]
    revert h; refine om_iteR (fun l15o h => ?_)
    refine om_alenS O k17o l15o rfl dX8_init_150 ?_
    refine om_icmp_ge O (tgt := 173) dX8_init_151 (by decide) (fun c2o => ?_) (fun c2o => ?_)
    · replace h := (if_pos c2o).symm.trans h
      refine om_widen 89 3471 (by decide) (by decide) ?_
      exact om_vret (st := []) O (om_e3 hE h) rfl dX8_init_173
    · replace h := (if_neg c2o).symm.trans h
      refine om_aload_n O 0 dX8_init_154 rfl rfl ?_
      revert h; refine om_refR (fun t4o y4o k18o h => ?_)
      refine gf_X8_63 O k2o l14o dX8_init_155 ?_
      rw [y4o]
      refine om_iload_n O 1 dX8_init_158 rfl rfl ?_
      revert h; refine om_iteR (fun k19o h => ?_)
      revert h; refine om_mkR (fun σ26o ρ38o n25o e58o e59o e60o h => ?_)
      refine nw_X8_61 O k19o (by decide) (by decide) dX8_init_159 e58o e59o e60o ?_
      refine om_dup O rfl dX8_init_162 ?_
      revert h; refine om_call3R (fun σ27o ρ39o n26o g12o h => ?_)
      refine cl_X8_75 O (st := [vR (some n24o), vI (1 : Int32), vR (some t4o)]) (stk := [vR (some n24o), vR (some n24o), vI (1 : Int32), vR (some t4o)]) (st2 := [vR (some n24o), vI (1 : Int32), vR (some t4o)]) [] (fun l G => c_X4_init l G g12o) (by decide) rfl rfl rfl_le rfl rfl_le rfl_le dX8_init_163 ?_
      revert h; refine om_iteR (fun l16o h => ?_)
      revert h; refine om_iteR (fun l17o h => ?_)
      revert h; refine om_iteR (fun i2o h => ?_)
      revert h; refine om_letR (fun ρ40o e61o h => ?_)
      refine om_aastS O (ci := 4) rfl (by decide) k18o l16o k19o l17o i2o dX8_init_166 e61o ?_
      refine om_iinc O (v1 := (2 : Int32)) (lv' := [(0, vR (some a0)), (1, vI (2 : Int32))]) 1 [1, 0] rfl dX8_init_167 rfl (by decide) (by decide) rfl ?_
      refine om_goto O (tgt := 145) dX8_init_170 (by decide) ?_
      refine om_iload_n O 1 dX8_init_145 rfl rfl ?_
      refine om_aload_n O 0 dX8_init_146 rfl rfl ?_
      revert h; refine om_iteR (fun l18o h => ?_)
      revert h; refine om_refR (fun t5o y5o k20o h => ?_)
      refine gf_X8_63 O k2o l18o dX8_init_147 ?_
      rw [y5o]
      revert h; refine om_iteR (fun l19o h => ?_)
      refine om_alenS O k20o l19o rfl dX8_init_150 ?_
      refine om_icmp_ge O (tgt := 173) dX8_init_151 (by decide) (fun c3o => ?_) (fun c3o => ?_)
      · replace h := (if_pos c3o).symm.trans h
        refine om_widen 89 3471 (by decide) (by decide) ?_
        exact om_vret (st := []) O (om_e3 hE h) rfl dX8_init_173
      · replace h := (if_neg c3o).symm.trans h
        refine om_aload_n O 0 dX8_init_154 rfl rfl ?_
        revert h; refine om_refR (fun t6o y6o k21o h => ?_)
        refine gf_X8_63 O k2o l18o dX8_init_155 ?_
        rw [y6o]
        refine om_iload_n O 1 dX8_init_158 rfl rfl ?_
        revert h; refine om_iteR (fun k22o h => ?_)
        revert h; refine om_mkR (fun σ28o ρ41o n27o e62o e63o e64o h => ?_)
        refine nw_X8_61 O k22o (by decide) (by decide) dX8_init_159 e62o e63o e64o ?_
        refine om_dup O rfl dX8_init_162 ?_
        revert h; refine om_call3R (fun σ29o ρ42o n28o g13o h => ?_)
        refine cl_X8_75 O (st := [vR (some n26o), vI (2 : Int32), vR (some t6o)]) (stk := [vR (some n26o), vR (some n26o), vI (2 : Int32), vR (some t6o)]) (st2 := [vR (some n26o), vI (2 : Int32), vR (some t6o)]) [] (fun l G => c_X4_init l G g13o) (by decide) rfl rfl rfl_le rfl rfl_le rfl_le dX8_init_163 ?_
        revert h; refine om_iteR (fun l20o h => ?_)
        revert h; refine om_iteR (fun l21o h => ?_)
        revert h; refine om_iteR (fun i3o h => ?_)
        revert h; refine om_letR (fun ρ43o e65o h => ?_)
        refine om_aastS O (ci := 4) rfl (by decide) k21o l20o k22o l21o i3o dX8_init_166 e65o ?_
        refine om_iinc O (v1 := (3 : Int32)) (lv' := [(0, vR (some a0)), (1, vI (3 : Int32))]) 1 [1, 0] rfl dX8_init_167 rfl (by decide) (by decide) rfl ?_
        refine om_goto O (tgt := 145) dX8_init_170 (by decide) ?_
        refine om_iload_n O 1 dX8_init_145 rfl rfl ?_
        refine om_aload_n O 0 dX8_init_146 rfl rfl ?_
        revert h; refine om_iteR (fun l22o h => ?_)
        revert h; refine om_refR (fun t7o y7o k23o h => ?_)
        refine gf_X8_63 O k2o l22o dX8_init_147 ?_
        rw [y7o]
        revert h; refine om_iteR (fun l23o h => ?_)
        refine om_alenS O k23o l23o rfl dX8_init_150 ?_
        refine om_icmp_ge O (tgt := 173) dX8_init_151 (by decide) (fun c4o => ?_) (fun c4o => ?_)
        · replace h := (if_pos c4o).symm.trans h
          refine om_widen 89 3471 (by decide) (by decide) ?_
          exact om_vret (st := []) O (om_e3 hE h) rfl dX8_init_173
        · replace h := (if_neg c4o).symm.trans h
          refine om_aload_n O 0 dX8_init_154 rfl rfl ?_
          revert h; refine om_refR (fun t8o y8o k24o h => ?_)
          refine gf_X8_63 O k2o l22o dX8_init_155 ?_
          rw [y8o]
          refine om_iload_n O 1 dX8_init_158 rfl rfl ?_
          revert h; refine om_iteR (fun k25o h => ?_)
          revert h; refine om_mkR (fun σ30o ρ44o n29o e66o e67o e68o h => ?_)
          refine nw_X8_61 O k25o (by decide) (by decide) dX8_init_159 e66o e67o e68o ?_
          refine om_dup O rfl dX8_init_162 ?_
          revert h; refine om_call3R (fun σ31o ρ45o n30o g14o h => ?_)
          refine cl_X8_75 O (st := [vR (some n28o), vI (3 : Int32), vR (some t8o)]) (stk := [vR (some n28o), vR (some n28o), vI (3 : Int32), vR (some t8o)]) (st2 := [vR (some n28o), vI (3 : Int32), vR (some t8o)]) [] (fun l G => c_X4_init l G g14o) (by decide) rfl rfl rfl_le rfl rfl_le rfl_le dX8_init_163 ?_
          revert h; refine om_iteR (fun l24o h => ?_)
          revert h; refine om_iteR (fun l25o h => ?_)
          revert h; refine om_iteR (fun i4o h => ?_)
          revert h; refine om_letR (fun ρ46o e69o h => ?_)
          refine om_aastS O (ci := 4) rfl (by decide) k24o l24o k25o l25o i4o dX8_init_166 e69o ?_
          refine om_iinc O (v1 := (4 : Int32)) (lv' := [(0, vR (some a0)), (1, vI (4 : Int32))]) 1 [1, 0] rfl dX8_init_167 rfl (by decide) (by decide) rfl ?_
          refine om_goto O (tgt := 145) dX8_init_170 (by decide) ?_
          refine om_iload_n O 1 dX8_init_145 rfl rfl ?_
          refine om_aload_n O 0 dX8_init_146 rfl rfl ?_
          revert h; refine om_iteR (fun l26o h => ?_)
          revert h; refine om_refR (fun t9o y9o k26o h => ?_)
          refine gf_X8_63 O k2o l26o dX8_init_147 ?_
          rw [y9o]
          revert h; refine om_iteR (fun l27o h => ?_)
          refine om_alenS O k26o l27o rfl dX8_init_150 ?_
          refine om_icmp_ge O (tgt := 173) dX8_init_151 (by decide) (fun c5o => ?_) (fun c5o => ?_)
          · replace h := (if_pos c5o).symm.trans h
            refine om_widen 89 3471 (by decide) (by decide) ?_
            exact om_vret (st := []) O (om_e3 hE h) rfl dX8_init_173
          · replace h := (if_neg c5o).symm.trans h
            refine om_aload_n O 0 dX8_init_154 rfl rfl ?_
            revert h; refine om_refR (fun t10o y10o k27o h => ?_)
            refine gf_X8_63 O k2o l26o dX8_init_155 ?_
            rw [y10o]
            refine om_iload_n O 1 dX8_init_158 rfl rfl ?_
            cases h
def f_X8_isKindAndNumber  (v0 : Int32) (σ : om_S) : Option (Int32 × om_S) := if v0 < 0 then (some ((0 : Int32), σ)) else (if (69 : Int32) < v0 then (some ((0 : Int32), σ)) else (some ((1 : Int32), σ)))
set_option maxRecDepth 100000 in
theorem c_X8_isKindAndNumber (l : Launch) (G : om_G) {v0 : Int32} {σ : om_S} {r : Int32} {τ : om_S} (h : f_X8_isKindAndNumber v0 σ = some (r, τ)) : om_D l G 0 yX8_isKindAndNumber cX8_isKindAndNumber 1 (some FieldType.boolean) 0 0 [vI v0] σ om_rf om_N (some (vI r)) τ om_rf om_N := by
  refine om_Dof (lv := [(0, vI v0)]) (by decide) rfl_le rfl (fun x O hE => ?_)
  change om_Ok x RX8 "isKindAndNumber" cX8_isKindAndNumber 1 (some FieldType.boolean) 0 0 0 at O
  unfold f_X8_isKindAndNumber at h
  refine om_iload_n O 0 dX8_isKindAndNumber_0 rfl rfl ?_
  refine om_if_lt O (tgt := 14) dX8_isKindAndNumber_1 (by decide) (fun c1o => ?_) (fun c1o => ?_)
  · replace h := (if_pos c1o).symm.trans h
    refine om_iconst O (v := 0) dX8_isKindAndNumber_14 (by decide) ?_
    exact om_zret (st := []) O (Or.inl rfl) (om_eI hE h) rfl dX8_isKindAndNumber_15
  · replace h := (if_neg c1o).symm.trans h
    refine om_iload_n O 0 dX8_isKindAndNumber_4 rfl rfl ?_
    refine om_bipush O (v := 69) dX8_isKindAndNumber_5 (by decide) ?_
    refine om_icmp_gt O (tgt := 14) dX8_isKindAndNumber_7 (by decide) (fun c2o => ?_) (fun c2o => ?_)
    · replace h := (if_pos c2o).symm.trans h
      refine om_iconst O (v := 0) dX8_isKindAndNumber_14 (by decide) ?_
      exact om_zret (st := []) O (Or.inl rfl) (om_eI hE h) rfl dX8_isKindAndNumber_15
    · replace h := (if_neg c2o).symm.trans h
      refine om_iconst O (v := 1) dX8_isKindAndNumber_10 (by decide) ?_
      refine om_goto O (tgt := 15) dX8_isKindAndNumber_11 (by decide) ?_
      exact om_zret (st := []) O (Or.inr rfl) (om_eI hE h) rfl dX8_isKindAndNumber_15
def f_X8_isWithin  (v0 : Int32) (v1 : Int32) (v2 : Int32) (σ : om_S) : Option (Int32 × om_S) := if v0 < v1 then (some ((0 : Int32), σ)) else (if v2 < v0 then (some ((0 : Int32), σ)) else (some ((1 : Int32), σ)))
set_option maxRecDepth 100000 in
theorem c_X8_isWithin (l : Launch) (G : om_G) {v0 : Int32} {v1 : Int32} {v2 : Int32} {σ : om_S} {r : Int32} {τ : om_S} (h : f_X8_isWithin v0 v1 v2 σ = some (r, τ)) : om_D l G 0 yX8_isWithin cX8_isWithin 3 (some FieldType.boolean) 0 0 [vI v0, vI v1, vI v2] σ om_rf om_N (some (vI r)) τ om_rf om_N := by
  refine om_Dof (lv := [(0, vI v0), (1, vI v1), (2, vI v2)]) (by decide) rfl_le rfl (fun x O hE => ?_)
  change om_Ok x RX8 "isWithin" cX8_isWithin 3 (some FieldType.boolean) 0 0 0 at O
  unfold f_X8_isWithin at h
  refine om_iload_n O 0 dX8_isWithin_0 rfl rfl ?_
  refine om_iload_n O 1 dX8_isWithin_1 rfl rfl ?_
  refine om_icmp_lt O (tgt := 14) dX8_isWithin_2 (by decide) (fun c1o => ?_) (fun c1o => ?_)
  · replace h := (if_pos c1o).symm.trans h
    refine om_iconst O (v := 0) dX8_isWithin_14 (by decide) ?_
    exact om_zret (st := []) O (Or.inl rfl) (om_eI hE h) rfl dX8_isWithin_15
  · replace h := (if_neg c1o).symm.trans h
    refine om_iload_n O 0 dX8_isWithin_5 rfl rfl ?_
    refine om_iload_n O 2 dX8_isWithin_6 rfl rfl ?_
    refine om_icmp_gt O (tgt := 14) dX8_isWithin_7 (by decide) (fun c2o => ?_) (fun c2o => ?_)
    · replace h := (if_pos c2o).symm.trans h
      refine om_iconst O (v := 0) dX8_isWithin_14 (by decide) ?_
      exact om_zret (st := []) O (Or.inl rfl) (om_eI hE h) rfl dX8_isWithin_15
    · replace h := (if_neg c2o).symm.trans h
      refine om_iconst O (v := 1) dX8_isWithin_10 (by decide) ?_
      refine om_goto O (tgt := 15) dX8_isWithin_11 (by decide) ?_
      exact om_zret (st := []) O (Or.inr rfl) (om_eI hE h) rfl dX8_isWithin_15
def f_X8_refuse  (a0 : Nat) (v1 : Int32) (σ : om_S) : Option (Int32 × om_S) := if om_kc a0 = 8 then if v1 < 0 then (some (((-1000000000 : Int32) - v1), σ)) else (om_ref (om_rf a0 11) 20 fun (t1o : Nat) => if (Int32.ofNat (om_al t1o)) ≤ v1 then (some (((-1000000000 : Int32) - v1), σ)) else (om_ref (om_rf a0 11) 20 fun (t2o : Nat) => if om_in v1 (om_al t2o) then if om_in v1 (om_al t2o) then om_let (om_w σ t2o v1.toNatClampNeg ((σ t2o v1.toNatClampNeg) + (1 : Int32))) fun (σ1o : om_S) => some (((-1000000000 : Int32) - v1), σ1o) else none else none)) else none
set_option maxRecDepth 100000 in
theorem c_X8_refuse (l : Launch) (G : om_G) {a0 : Nat} {v1 : Int32} {σ : om_S} {r : Int32} {τ : om_S} (h : f_X8_refuse a0 v1 σ = some (r, τ)) : om_D l G 0 yX8_refuse cX8_refuse 2 (some FieldType.int) 0 0 [vR (some a0), vI v1] σ om_rf om_N (some (vI r)) τ om_rf om_N := by
  refine om_Dof (lv := [(0, vR (some a0)), (1, vI v1)]) (by decide) rfl_le rfl (fun x O hE => ?_)
  change om_Ok x RX8 "refuse" cX8_refuse 2 (some FieldType.int) 0 0 0 at O
  unfold f_X8_refuse at h
  revert h; refine om_iteR (fun ka0 h => ?_)
  refine om_iload_n O 1 dX8_refuse_0 rfl rfl ?_
  refine om_if_lt O (tgt := 23) dX8_refuse_1 (by decide) (fun c1o => ?_) (fun c1o => ?_)
  · replace h := (if_pos c1o).symm.trans h
    refine om_ldcw O (v := -1000000000) wd_323 dX8_refuse_23 ?_
    refine om_iload_n O 1 dX8_refuse_26 rfl rfl ?_
    refine om_isub O dX8_refuse_27 ?_
    exact om_iret (st := []) O (om_eI hE h) rfl dX8_refuse_28
  · replace h := (if_neg c1o).symm.trans h
    refine om_iload_n O 1 dX8_refuse_4 rfl rfl ?_
    refine om_aload_n O 0 dX8_refuse_5 rfl rfl ?_
    revert h; refine om_refR (fun t1o y1o k1o h => ?_)
    refine gf_X8_67 O ka0 (om_lt ka0 (by decide)) dX8_refuse_6 ?_
    rw [y1o]
    refine om_alen O k1o (om_lt k1o (by decide)) rfl dX8_refuse_9 ?_
    refine om_icmp_ge O (tgt := 23) dX8_refuse_10 (by decide) (fun c2o => ?_) (fun c2o => ?_)
    · replace h := (if_pos c2o).symm.trans h
      refine om_ldcw O (v := -1000000000) wd_323 dX8_refuse_23 ?_
      refine om_iload_n O 1 dX8_refuse_26 rfl rfl ?_
      refine om_isub O dX8_refuse_27 ?_
      exact om_iret (st := []) O (om_eI hE h) rfl dX8_refuse_28
    · replace h := (if_neg c2o).symm.trans h
      refine om_aload_n O 0 dX8_refuse_13 rfl rfl ?_
      revert h; refine om_refR (fun t2o y2o k2o h => ?_)
      refine gf_X8_67 O ka0 (om_lt ka0 (by decide)) dX8_refuse_14 ?_
      rw [y2o]
      refine om_iload_n O 1 dX8_refuse_17 rfl rfl ?_
      refine om_dup2 O rfl rfl dX8_refuse_18 ?_
      revert h; refine om_iteR (fun i1o h => ?_)
      refine om_iald O k2o (om_lt k2o (by decide)) i1o dX8_refuse_19 ?_
      refine om_iconst O (v := 1) dX8_refuse_20 (by decide) ?_
      refine om_iadd O dX8_refuse_21 ?_
      revert h; refine om_iteR (fun i2o h => ?_)
      revert h; refine om_letR (fun σ1o e1o h => ?_)
      refine om_iast O k2o (om_lt k2o (by decide)) i2o dX8_refuse_22 e1o ?_
      refine om_ldcw O (v := -1000000000) wd_323 dX8_refuse_23 ?_
      refine om_iload_n O 1 dX8_refuse_26 rfl rfl ?_
      refine om_isub O dX8_refuse_27 ?_
      exact om_iret (st := []) O (om_eI hE h) rfl dX8_refuse_28
def f_X6_isFull  (a0 : Nat) (σ : om_S) : Option (Int32 × om_S) := if om_kc a0 = 6 then om_ref (om_rf a0 0) 21 fun (t1o : Nat) => if (σ a0 3) < (Int32.ofNat (om_al t1o)) then (some ((0 : Int32), σ)) else (some ((1 : Int32), σ)) else none
set_option maxRecDepth 100000 in
theorem c_X6_isFull (l : Launch) (G : om_G) {a0 : Nat} {σ : om_S} {r : Int32} {τ : om_S} (h : f_X6_isFull a0 σ = some (r, τ)) : om_D l G 0 yX6_isFull cX6_isFull 1 (some FieldType.boolean) 0 0 [vR (some a0)] σ om_rf om_N (some (vI r)) τ om_rf om_N := by
  refine om_Dof (lv := [(0, vR (some a0))]) (by decide) rfl_le rfl (fun x O hE => ?_)
  change om_Ok x RX6 "isFull" cX6_isFull 1 (some FieldType.boolean) 0 0 0 at O
  unfold f_X6_isFull at h
  revert h; refine om_iteR (fun ka0 h => ?_)
  refine om_aload_n O 0 dX6_isFull_0 rfl rfl ?_
  refine gf_X6_29 O ka0 (om_lt ka0 (by decide)) dX6_isFull_1 ?_
  refine om_aload_n O 0 dX6_isFull_4 rfl rfl ?_
  revert h; refine om_refR (fun t1o y1o k1o h => ?_)
  refine gf_X6_11 O ka0 (om_lt ka0 (by decide)) dX6_isFull_5 ?_
  rw [y1o]
  refine om_alenM O k1o (om_lt k1o (by decide)) rfl dX6_isFull_8 ?_
  refine om_icmp_lt O (tgt := 16) dX6_isFull_9 (by decide) (fun c1o => ?_) (fun c1o => ?_)
  · replace h := (if_pos c1o).symm.trans h
    refine om_iconst O (v := 0) dX6_isFull_16 (by decide) ?_
    exact om_zret (st := []) O (Or.inl rfl) (om_eI hE h) rfl dX6_isFull_17
  · replace h := (if_neg c1o).symm.trans h
    refine om_iconst O (v := 1) dX6_isFull_12 (by decide) ?_
    refine om_goto O (tgt := 17) dX6_isFull_13 (by decide) ?_
    exact om_zret (st := []) O (Or.inr rfl) (om_eI hE h) rfl dX6_isFull_17
def f_X6_at  (a0 : Nat) (v1 : Int32) (σ : om_S) : Option (Option Nat × om_S) := if om_kc a0 = 6 then if v1 < 0 then (some (none, σ)) else (if (σ a0 3) ≤ v1 then (some (none, σ)) else (om_ref (om_rf a0 0) 21 fun (t1o : Nat) => if (Int32.ofNat (om_al t1o)) ≤ v1 then (some (none, σ)) else (om_ref (om_rf a0 0) 21 fun (t2o : Nat) => if om_in v1 (om_al t2o) then om_ref (om_rf t2o v1.toNatClampNeg) 1 fun (t3o : Nat) => some ((some t3o), σ) else none))) else none
set_option maxRecDepth 100000 in
theorem c_X6_at (l : Launch) (G : om_G) {a0 : Nat} {v1 : Int32} {σ : om_S} {r : Option Nat} {τ : om_S} (h : f_X6_at a0 v1 σ = some (r, τ)) : om_D l G 0 yX6_at cX6_at 2 (some (FieldType.object "OilMemories$Memory")) 0 0 [vR (some a0), vI v1] σ om_rf om_N (some (vR r)) τ om_rf om_N := by
  refine om_Dof (lv := [(0, vR (some a0)), (1, vI v1)]) (by decide) rfl_le rfl (fun x O hE => ?_)
  change om_Ok x RX6 "at" cX6_at 2 (some (FieldType.object "OilMemories$Memory")) 0 0 0 at O
  unfold f_X6_at at h
  revert h; refine om_iteR (fun ka0 h => ?_)
  refine om_iload_n O 1 dX6_at_0 rfl rfl ?_
  refine om_if_lt O (tgt := 30) dX6_at_1 (by decide) (fun c1o => ?_) (fun c1o => ?_)
  · replace h := (if_pos c1o).symm.trans h
    refine om_null O dX6_at_30 ?_
    exact om_aret (st := []) O (om_eR hE h) rfl dX6_at_31
  · replace h := (if_neg c1o).symm.trans h
    refine om_iload_n O 1 dX6_at_4 rfl rfl ?_
    refine om_aload_n O 0 dX6_at_5 rfl rfl ?_
    refine gf_X6_29 O ka0 (om_lt ka0 (by decide)) dX6_at_6 ?_
    refine om_icmp_ge O (tgt := 30) dX6_at_9 (by decide) (fun c2o => ?_) (fun c2o => ?_)
    · replace h := (if_pos c2o).symm.trans h
      refine om_null O dX6_at_30 ?_
      exact om_aret (st := []) O (om_eR hE h) rfl dX6_at_31
    · replace h := (if_neg c2o).symm.trans h
      refine om_iload_n O 1 dX6_at_12 rfl rfl ?_
      refine om_aload_n O 0 dX6_at_13 rfl rfl ?_
      revert h; refine om_refR (fun t1o y1o k1o h => ?_)
      refine gf_X6_11 O ka0 (om_lt ka0 (by decide)) dX6_at_14 ?_
      rw [y1o]
      refine om_alenM O k1o (om_lt k1o (by decide)) rfl dX6_at_17 ?_
      refine om_icmp_ge O (tgt := 30) dX6_at_18 (by decide) (fun c3o => ?_) (fun c3o => ?_)
      · replace h := (if_pos c3o).symm.trans h
        refine om_null O dX6_at_30 ?_
        exact om_aret (st := []) O (om_eR hE h) rfl dX6_at_31
      · replace h := (if_neg c3o).symm.trans h
        refine om_aload_n O 0 dX6_at_21 rfl rfl ?_
        revert h; refine om_refR (fun t2o y2o k2o h => ?_)
        refine gf_X6_11 O ka0 (om_lt ka0 (by decide)) dX6_at_22 ?_
        rw [y2o]
        refine om_iload_n O 1 dX6_at_25 rfl rfl ?_
        revert h; refine om_iteR (fun i1o h => ?_)
        revert h; refine om_refR (fun t3o y3o k3o h => ?_)
        refine om_aaldM O k2o (om_lt k2o (by decide)) i1o dX6_at_26 ?_
        rw [y3o]
        refine om_goto O (tgt := 31) dX6_at_27 (by decide) ?_
        exact om_aret (st := []) O (om_eR hE h) rfl dX6_at_31
def f_X6_add_b23  (a0 : Nat) (v1 : Int32) (v2 : Int32) (v3 : Int32) (v4 : Int32) (σ : om_S) : Option (Int32 × om_S) := om_call (f_X6_at a0 v4 σ) fun (r1o : Option Nat) (σ1o : om_S) => om_nul r1o 1 (some (v4, σ1o)) fun (t1o : Nat) => om_let (om_w σ1o t1o 0 (v1 / (10 : Int32))) fun (σ2o : om_S) => om_let (om_w σ2o t1o 1 (v1 - v1 / (10 : Int32) * (10 : Int32))) fun (σ3o : om_S) => om_let (om_w σ3o t1o 2 v2) fun (σ4o : om_S) => om_let (om_w σ4o t1o 3 (v3 / (100 : Int32))) fun (σ5o : om_S) => om_let (om_w σ5o t1o 4 (v3 - v3 / (100 : Int32) * (100 : Int32))) fun (σ6o : om_S) => some (v4, σ6o)
set_option maxRecDepth 100000 in
theorem g_X6_add_b23 {x : om_X}   (O : om_Ok x RX6 "add" cX6_add 6 (some FieldType.int) 1 0 0)   {r : Int32} {τ : om_S} (hE : om_End x (some (vI r)) τ om_rf om_N 0 0)   {a0 : Nat} {v1 : Int32} {v2 : Int32} {v3 : Int32} {v4 : Int32} {σ : om_S} (ka0 : om_kc a0 = 6) (h : f_X6_add_b23 a0 v1 v2 v3 v4 σ = some (r, τ)) : om_J x 23 [(0, vR (some a0)), (1, vI v1), (2, vI v2), (3, vI v3), (4, vI v4)] [] σ om_rf om_N 0 0 := by
  unfold f_X6_add_b23 at h
  refine om_aload_n O 0 dX6_add_23 rfl rfl ?_
  refine om_iload O 4 dX6_add_24 rfl ?_
  revert h; refine om_callR (fun r1o σ1o g1o h => ?_)
  refine cl_X6_57 O (st := []) (stk := [vI v4, vR (some a0)]) (st2 := [vR r1o]) [vI v4] (fun l G => c_X6_at l G g1o) ka0 (om_lt ka0 (by decide)) (by decide) rfl rfl rfl_le rfl rfl_le rfl_le dX6_add_26 ?_
  refine om_astore O (lv' := [(1, vI v1), (2, vI v2), (3, vI v3), (4, vI v4), (5, vR r1o)]) [2, 3, 4, 5, 0] dX6_add_29 (by decide) rfl ?_
  refine om_aload O 4 dX6_add_31 rfl ?_
  revert h; refine om_nulR (fun yy h => ?_) (fun t1o yy k1o h => ?_)
  · subst yy
    refine om_ifnullN O (tgt := 78) dX6_add_33 (by decide) ?_
    refine om_iload O 3 dX6_add_78 rfl ?_
    exact om_iret (st := []) O (om_eI hE h) rfl dX6_add_80
  · subst yy
    refine om_ifnullS O dX6_add_33 ?_
    refine om_aload O 4 dX6_add_36 rfl ?_
    refine om_iload_n O 0 dX6_add_38 rfl rfl ?_
    refine om_bipush O (v := 10) dX6_add_39 (by decide) ?_
    refine om_idiv O dX6_add_41 (by decide) ?_
    revert h; refine om_letR (fun σ2o e1o h => ?_)
    refine pf_X6_61 O (Or.inl rfl) k1o (om_lt k1o (by decide)) dX6_add_42 e1o ?_
    refine om_aload O 4 dX6_add_45 rfl ?_
    refine om_iload_n O 0 dX6_add_47 rfl rfl ?_
    refine om_bipush O (v := 10) dX6_add_48 (by decide) ?_
    refine om_irem O dX6_add_50 (by decide) ?_
    revert h; refine om_letR (fun σ3o e2o h => ?_)
    refine pf_X6_64 O (Or.inl rfl) k1o (om_lt k1o (by decide)) dX6_add_51 e2o ?_
    refine om_aload O 4 dX6_add_54 rfl ?_
    refine om_iload_n O 1 dX6_add_56 rfl rfl ?_
    revert h; refine om_letR (fun σ4o e3o h => ?_)
    refine pf_X6_67 O (Or.inl rfl) k1o (om_lt k1o (by decide)) dX6_add_57 e3o ?_
    refine om_aload O 4 dX6_add_60 rfl ?_
    refine om_iload_n O 2 dX6_add_62 rfl rfl ?_
    refine om_bipush O (v := 100) dX6_add_63 (by decide) ?_
    refine om_idiv O dX6_add_65 (by decide) ?_
    revert h; refine om_letR (fun σ5o e4o h => ?_)
    refine pf_X6_70 O (Or.inl rfl) k1o (om_lt k1o (by decide)) dX6_add_66 e4o ?_
    refine om_aload O 4 dX6_add_69 rfl ?_
    refine om_iload_n O 2 dX6_add_71 rfl rfl ?_
    refine om_bipush O (v := 100) dX6_add_72 (by decide) ?_
    refine om_irem O dX6_add_74 (by decide) ?_
    revert h; refine om_letR (fun σ6o e5o h => ?_)
    refine pf_X6_73 O (Or.inl rfl) k1o (om_lt k1o (by decide)) dX6_add_75 e5o ?_
    refine om_iload O 3 dX6_add_78 rfl ?_
    exact om_iret (st := []) O (om_eI hE h) rfl dX6_add_80
def f_X6_add  (a0 : Nat) (v1 : Int32) (v2 : Int32) (v3 : Int32) (σ : om_S) : Option (Int32 × om_S) := if om_kc a0 = 6 then om_call (f_X6_isFull a0 σ) fun (r1o : Int32) (σ1o : om_S) => if r1o = 0 then (om_let (om_w σ1o a0 3 ((σ1o a0 3) + (1 : Int32))) fun (σ2o : om_S) => f_X6_add_b23 a0 v1 v2 v3 (σ a0 3) σ2o) else (f_X6_add_b23 a0 v1 v2 v3 (σ a0 3) σ1o) else none
set_option maxRecDepth 100000 in
theorem c_X6_add (l : Launch) (G : om_G) {a0 : Nat} {v1 : Int32} {v2 : Int32} {v3 : Int32} {σ : om_S} {r : Int32} {τ : om_S} (h : f_X6_add a0 v1 v2 v3 σ = some (r, τ)) : om_D l G 1 yX6_add cX6_add 6 (some FieldType.int) 0 0 [vR (some a0), vI v1, vI v2, vI v3] σ om_rf om_N (some (vI r)) τ om_rf om_N := by
  refine om_Dof (lv := [(0, vR (some a0)), (1, vI v1), (2, vI v2), (3, vI v3)]) (by decide) rfl_le rfl (fun x O hE => ?_)
  change om_Ok x RX6 "add" cX6_add 6 (some FieldType.int) 1 0 0 at O
  unfold f_X6_add at h
  revert h; refine om_iteR (fun ka0 h => ?_)
  refine om_aload_n O 0 dX6_add_0 rfl rfl ?_
  refine gf_X6_29 O ka0 (om_lt ka0 (by decide)) dX6_add_1 ?_
  refine om_istore O (lv' := [(0, vR (some a0)), (1, vI v1), (2, vI v2), (3, vI v3), (4, vI (σ a0 3))]) [1, 2, 3, 4, 0] rfl dX6_add_4 (by decide) rfl ?_
  refine om_aload_n O 0 dX6_add_6 rfl rfl ?_
  revert h; refine om_callR (fun r1o σ1o g1o h => ?_)
  refine cl_X6_53 O (st := []) (stk := [vR (some a0)]) (st2 := [vI r1o]) [] (fun l G => c_X6_isFull l G g1o) ka0 (om_lt ka0 (by decide)) (by decide) rfl rfl rfl_le rfl rfl_le rfl_le dX6_add_7 ?_
  refine om_if_ne O (tgt := 23) dX6_add_10 (by decide) (fun c1o => ?_) (fun c1o => ?_)
  · replace h := (if_pos c1o).symm.trans h
    refine om_aload_n O 0 dX6_add_13 rfl rfl ?_
    refine om_dup O rfl dX6_add_14 ?_
    refine gf_X6_29 O ka0 (om_lt ka0 (by decide)) dX6_add_15 ?_
    refine om_iconst O (v := 1) dX6_add_18 (by decide) ?_
    refine om_iadd O dX6_add_19 ?_
    revert h; refine om_letR (fun σ2o e1o h => ?_)
    refine pf_X6_29 O (Or.inl rfl) ka0 (om_lt ka0 (by decide)) dX6_add_20 e1o ?_
    exact g_X6_add_b23 O hE ka0 h
  · replace h := (if_neg c1o).symm.trans h
    exact g_X6_add_b23 O hE ka0 h
def f_X8_memory_b28  (a0 : Nat) (σ : om_S) : Option (Int32 × om_S) := om_call (f_X8_refuse a0 (1 : Int32) σ) fun (r1o : Int32) (σ1o : om_S) => some (r1o, σ1o)
set_option maxRecDepth 100000 in
theorem g_X8_memory_b28 {x : om_X}   (O : om_Ok x RX8 "memory" cX8_memory 4 (some FieldType.int) 2 0 0)   {r : Int32} {τ : om_S} (hE : om_End x (some (vI r)) τ om_rf om_N 0 0)   {a0 : Nat} {σ : om_S} (ka0 : om_kc a0 = 8) (h : f_X8_memory_b28 a0 σ = some (r, τ)) : om_J x 28 [(0, vR (some a0))] [] σ om_rf om_N 0 0 := by
  unfold f_X8_memory_b28 at h
  refine om_aload_n O 0 dX8_memory_28 rfl rfl ?_
  refine om_iconst O (v := 1) dX8_memory_29 (by decide) ?_
  revert h; refine om_callR (fun r1o σ1o g1o h => ?_)
  refine cl_X8_84 O (st := []) (stk := [vI (1 : Int32), vR (some a0)]) (st2 := [vI r1o]) [vI (1 : Int32)] (fun l G => c_X8_refuse l G g1o) ka0 (om_lt ka0 (by decide)) (by decide) rfl rfl rfl_le rfl rfl_le rfl_le dX8_memory_30 ?_
  exact om_iret (st := []) O (om_eI hE h) rfl dX8_memory_33
def f_X8_memory  (a0 : Nat) (v1 : Int32) (v2 : Int32) (v3 : Int32) (σ : om_S) : Option (Int32 × om_S) := if om_kc a0 = 8 then om_call (f_X8_isKindAndNumber v1 σ) fun (r1o : Int32) (σ1o : om_S) => if r1o = 0 then (f_X8_memory_b28 a0 σ1o) else (om_call (f_X8_isWithin v2 (1 : Int32) (15 : Int32) σ1o) fun (r2o : Int32) (σ2o : om_S) => if r2o = 0 then (f_X8_memory_b28 a0 σ2o) else (om_call (f_X8_isWithin v3 (0 : Int32) (9999 : Int32) σ2o) fun (r3o : Int32) (σ3o : om_S) => if r3o = 0 then (f_X8_memory_b28 a0 σ3o) else (om_ref (om_rf a0 0) 6 fun (t1o : Nat) => om_call (f_X6_isFull t1o σ3o) fun (r4o : Int32) (σ4o : om_S) => if r4o = 0 then (om_ref (om_rf a0 0) 6 fun (t2o : Nat) => om_call (f_X6_add t2o v1 v2 v3 σ4o) fun (r5o : Int32) (σ5o : om_S) => some (r5o, σ5o)) else (om_call (f_X8_refuse a0 (4 : Int32) σ4o) fun (r6o : Int32) (σ6o : om_S) => some (r6o, σ6o))))) else none
set_option maxRecDepth 100000 in
theorem c_X8_memory (l : Launch) (G : om_G) {a0 : Nat} {v1 : Int32} {v2 : Int32} {v3 : Int32} {σ : om_S} {r : Int32} {τ : om_S} (h : f_X8_memory a0 v1 v2 v3 σ = some (r, τ)) : om_D l G 2 yX8_memory cX8_memory 4 (some FieldType.int) 0 0 [vR (some a0), vI v1, vI v2, vI v3] σ om_rf om_N (some (vI r)) τ om_rf om_N := by
  refine om_Dof (lv := [(0, vR (some a0)), (1, vI v1), (2, vI v2), (3, vI v3)]) (by decide) rfl_le rfl (fun x O hE => ?_)
  change om_Ok x RX8 "memory" cX8_memory 4 (some FieldType.int) 2 0 0 at O
  unfold f_X8_memory at h
  revert h; refine om_iteR (fun ka0 h => ?_)
  refine om_iload_n O 1 dX8_memory_0 rfl rfl ?_
  revert h; refine om_callR (fun r1o σ1o g1o h => ?_)
  refine cl_X8_76 O (st := []) (stk := [vI v1]) (st2 := [vI r1o]) [vI v1] (fun l G => c_X8_isKindAndNumber l G g1o) (by decide) rfl rfl rfl_le rfl rfl_le rfl_le dX8_memory_1 ?_
  refine om_if_eq O (tgt := 28) dX8_memory_4 (by decide) (fun c1o => ?_) (fun c1o => ?_)
  · replace h := (if_pos c1o).symm.trans h
    refine om_drop (lv' := [(0, vR (some a0))]) [0] rfl ?_
    exact g_X8_memory_b28 O hE ka0 h
  · replace h := (if_neg c1o).symm.trans h
    refine om_iload_n O 2 dX8_memory_7 rfl rfl ?_
    refine om_iconst O (v := 1) dX8_memory_8 (by decide) ?_
    refine om_bipush O (v := 15) dX8_memory_9 (by decide) ?_
    revert h; refine om_callR (fun r2o σ2o g2o h => ?_)
    refine cl_X8_80 O (st := []) (stk := [vI (15 : Int32), vI (1 : Int32), vI v2]) (st2 := [vI r2o]) [vI v2, vI (1 : Int32), vI (15 : Int32)] (fun l G => c_X8_isWithin l G g2o) (by decide) rfl rfl rfl_le rfl rfl_le rfl_le dX8_memory_11 ?_
    refine om_if_eq O (tgt := 28) dX8_memory_14 (by decide) (fun c2o => ?_) (fun c2o => ?_)
    · replace h := (if_pos c2o).symm.trans h
      refine om_drop (lv' := [(0, vR (some a0))]) [0] rfl ?_
      exact g_X8_memory_b28 O hE ka0 h
    · replace h := (if_neg c2o).symm.trans h
      refine om_iload_n O 3 dX8_memory_17 rfl rfl ?_
      refine om_iconst O (v := 0) dX8_memory_18 (by decide) ?_
      refine om_sipush O (v := 9999) dX8_memory_19 (by decide) ?_
      revert h; refine om_callR (fun r3o σ3o g3o h => ?_)
      refine cl_X8_80 O (st := []) (stk := [vI (9999 : Int32), vI (0 : Int32), vI v3]) (st2 := [vI r3o]) [vI v3, vI (0 : Int32), vI (9999 : Int32)] (fun l G => c_X8_isWithin l G g3o) (by decide) rfl rfl rfl_le rfl rfl_le rfl_le dX8_memory_22 ?_
      refine om_if_ne O (tgt := 34) dX8_memory_25 (by decide) (fun c3o => ?_) (fun c3o => ?_)
      · replace h := (if_pos c3o).symm.trans h
        refine om_drop (lv' := [(0, vR (some a0))]) [0] rfl ?_
        exact g_X8_memory_b28 O hE ka0 h
      · replace h := (if_neg c3o).symm.trans h
        refine om_aload_n O 0 dX8_memory_34 rfl rfl ?_
        revert h; refine om_refR (fun t1o y1o k1o h => ?_)
        refine gf_X8_10 O ka0 (om_lt ka0 (by decide)) dX8_memory_35 ?_
        rw [y1o]
        revert h; refine om_callR (fun r4o σ4o g4o h => ?_)
        refine cl_X8_88 O (st := []) (stk := [vR (some t1o)]) (st2 := [vI r4o]) [] (fun l G => c_X6_isFull l G g4o) k1o (om_lt k1o (by decide)) (by decide) rfl rfl rfl_le rfl rfl_le rfl_le dX8_memory_38 ?_
        refine om_if_eq O (tgt := 50) dX8_memory_41 (by decide) (fun c4o => ?_) (fun c4o => ?_)
        · replace h := (if_pos c4o).symm.trans h
          refine om_aload_n O 0 dX8_memory_50 rfl rfl ?_
          revert h; refine om_refR (fun t2o y2o k2o h => ?_)
          refine gf_X8_10 O ka0 (om_lt ka0 (by decide)) dX8_memory_51 ?_
          rw [y2o]
          refine om_iload_n O 1 dX8_memory_54 rfl rfl ?_
          refine om_iload_n O 2 dX8_memory_55 rfl rfl ?_
          refine om_iload_n O 3 dX8_memory_56 rfl rfl ?_
          revert h; refine om_callR (fun r5o σ5o g5o h => ?_)
          refine cl_X8_92 O (st := []) (stk := [vI v3, vI v2, vI v1, vR (some t2o)]) (st2 := [vI r5o]) [vI v1, vI v2, vI v3] (fun l G => c_X6_add l G g5o) k2o (om_lt k2o (by decide)) (by decide) rfl rfl rfl_le rfl rfl_le rfl_le dX8_memory_57 ?_
          exact om_iret (st := []) O (om_eI hE h) rfl dX8_memory_60
        · replace h := (if_neg c4o).symm.trans h
          refine om_aload_n O 0 dX8_memory_44 rfl rfl ?_
          refine om_iconst O (v := 4) dX8_memory_45 (by decide) ?_
          revert h; refine om_callR (fun r6o σ6o g6o h => ?_)
          refine cl_X8_84 O (st := []) (stk := [vI (4 : Int32), vR (some a0)]) (st2 := [vI r6o]) [vI (4 : Int32)] (fun l G => c_X8_refuse l G g6o) ka0 (om_lt ka0 (by decide)) (by decide) rfl rfl rfl_le rfl rfl_le rfl_le dX8_memory_46 ?_
          exact om_iret (st := []) O (om_eI hE h) rfl dX8_memory_49
def f_J6_bitCount_0f7a4  (v0 : Int32) (σ : om_S) : Option (Int32 × om_S) := om_let (v0 - (((v0.toUInt32 >>> ((1 : Int32).toUInt32 &&& Int32.toUInt32 31)).toInt32) &&& (1431655765 : Int32))) fun (x1o : Int32) => om_let ((x1o &&& (858993459 : Int32)) + (((x1o.toUInt32 >>> ((2 : Int32).toUInt32 &&& Int32.toUInt32 31)).toInt32) &&& (858993459 : Int32))) fun (x2o : Int32) => om_let ((x2o + ((x2o.toUInt32 >>> ((4 : Int32).toUInt32 &&& Int32.toUInt32 31)).toInt32)) &&& (252645135 : Int32)) fun (x3o : Int32) => om_let (x3o + ((x3o.toUInt32 >>> ((8 : Int32).toUInt32 &&& Int32.toUInt32 31)).toInt32)) fun (x4o : Int32) => om_let (x4o + ((x4o.toUInt32 >>> ((16 : Int32).toUInt32 &&& Int32.toUInt32 31)).toInt32)) fun (x5o : Int32) => some ((x5o &&& (63 : Int32)), σ)
set_option maxRecDepth 100000 in
theorem c_J6_bitCount_0f7a4 (l : Launch) (G : om_G) {v0 : Int32} {σ : om_S} {r : Int32} {τ : om_S} (h : f_J6_bitCount_0f7a4 v0 σ = some (r, τ)) : om_D l G 0 yJ6_bitCount_0f7a4 cJ6_bitCount_0f7a4 1 (some FieldType.int) 0 0 [vI v0] σ om_rf om_N (some (vI r)) τ om_rf om_N := by
  refine om_Dof (lv := [(0, vI v0)]) (by decide) rfl_le rfl (fun x O hE => ?_)
  change om_Ok x RJ6 "bitCount" cJ6_bitCount_0f7a4 1 (some FieldType.int) 0 0 0 at O
  unfold f_J6_bitCount_0f7a4 at h
  refine om_iload_n O 0 dJ6_bitCount_0f7a4_0 rfl rfl ?_
  refine om_iload_n O 0 dJ6_bitCount_0f7a4_1 rfl rfl ?_
  refine om_iconst O (v := 1) dJ6_bitCount_0f7a4_2 (by decide) ?_
  refine om_iushr O dJ6_bitCount_0f7a4_3 ?_
  refine om_ldcw O (v := 1431655765) wd_353 dJ6_bitCount_0f7a4_4 ?_
  refine om_iand O dJ6_bitCount_0f7a4_7 ?_
  refine om_isub O dJ6_bitCount_0f7a4_8 ?_
  revert h; refine om_letR (fun x1o e1o h => ?_)
  refine om_istore_n O (lv' := [(0, vI x1o)]) [0] e1o dJ6_bitCount_0f7a4_9 rfl (by decide) rfl ?_
  refine om_iload_n O 0 dJ6_bitCount_0f7a4_10 rfl rfl ?_
  refine om_ldcw O (v := 858993459) wd_354 dJ6_bitCount_0f7a4_11 ?_
  refine om_iand O dJ6_bitCount_0f7a4_14 ?_
  refine om_iload_n O 0 dJ6_bitCount_0f7a4_15 rfl rfl ?_
  refine om_iconst O (v := 2) dJ6_bitCount_0f7a4_16 (by decide) ?_
  refine om_iushr O dJ6_bitCount_0f7a4_17 ?_
  refine om_ldcw O (v := 858993459) wd_354 dJ6_bitCount_0f7a4_18 ?_
  refine om_iand O dJ6_bitCount_0f7a4_21 ?_
  refine om_iadd O dJ6_bitCount_0f7a4_22 ?_
  revert h; refine om_letR (fun x2o e2o h => ?_)
  refine om_istore_n O (lv' := [(0, vI x2o)]) [0] e2o dJ6_bitCount_0f7a4_23 rfl (by decide) rfl ?_
  refine om_iload_n O 0 dJ6_bitCount_0f7a4_24 rfl rfl ?_
  refine om_iload_n O 0 dJ6_bitCount_0f7a4_25 rfl rfl ?_
  refine om_iconst O (v := 4) dJ6_bitCount_0f7a4_26 (by decide) ?_
  refine om_iushr O dJ6_bitCount_0f7a4_27 ?_
  refine om_iadd O dJ6_bitCount_0f7a4_28 ?_
  refine om_ldcw O (v := 252645135) wd_355 dJ6_bitCount_0f7a4_29 ?_
  refine om_iand O dJ6_bitCount_0f7a4_32 ?_
  revert h; refine om_letR (fun x3o e3o h => ?_)
  refine om_istore_n O (lv' := [(0, vI x3o)]) [0] e3o dJ6_bitCount_0f7a4_33 rfl (by decide) rfl ?_
  refine om_iload_n O 0 dJ6_bitCount_0f7a4_34 rfl rfl ?_
  refine om_iload_n O 0 dJ6_bitCount_0f7a4_35 rfl rfl ?_
  refine om_bipush O (v := 8) dJ6_bitCount_0f7a4_36 (by decide) ?_
  refine om_iushr O dJ6_bitCount_0f7a4_38 ?_
  refine om_iadd O dJ6_bitCount_0f7a4_39 ?_
  revert h; refine om_letR (fun x4o e4o h => ?_)
  refine om_istore_n O (lv' := [(0, vI x4o)]) [0] e4o dJ6_bitCount_0f7a4_40 rfl (by decide) rfl ?_
  refine om_iload_n O 0 dJ6_bitCount_0f7a4_41 rfl rfl ?_
  refine om_iload_n O 0 dJ6_bitCount_0f7a4_42 rfl rfl ?_
  refine om_bipush O (v := 16) dJ6_bitCount_0f7a4_43 (by decide) ?_
  refine om_iushr O dJ6_bitCount_0f7a4_45 ?_
  refine om_iadd O dJ6_bitCount_0f7a4_46 ?_
  revert h; refine om_letR (fun x5o e5o h => ?_)
  refine om_istore_n O (lv' := [(0, vI x5o)]) [0] e5o dJ6_bitCount_0f7a4_47 rfl (by decide) rfl ?_
  refine om_iload_n O 0 dJ6_bitCount_0f7a4_48 rfl rfl ?_
  refine om_bipush O (v := 63) dJ6_bitCount_0f7a4_49 (by decide) ?_
  refine om_iand O dJ6_bitCount_0f7a4_51 ?_
  exact om_iret (st := []) O (om_eI hE h) rfl dJ6_bitCount_0f7a4_52
def f_X1_burns  (a0 : Nat) (v1 : Int32) (σ : om_S) : Option (Int32 × om_S) := if om_kc a0 = 1 then om_let ((10 : Int32) + (σ a0 1)) fun (x1o : Int32) => if (σ a0 0) = 1 then (some ((x1o + (5 : Int32)), σ)) else (if (σ a0 0) = 2 then (some (((2 : Int32) * x1o), σ)) else (if (σ a0 0) = 3 then (some ((x1o / (2 : Int32)), σ)) else (if (σ a0 0) = 4 then (om_call (f_J6_bitCount_0f7a4 (σ a0 2) σ) fun (r1o : Int32) (σ1o : om_S) => some (((x1o + (5 : Int32)) + ((10 : Int32) * (r1o - (1 : Int32)))), σ1o)) else (if (σ a0 0) = 5 then (some ((((2 : Int32) * x1o) + (v1 - v1 / (5 : Int32) * (5 : Int32))), σ)) else (if (σ a0 0) = 6 then (some (((4 : Int32) + ((σ a0 3) / (10 : Int32))), σ)) else (some (x1o, σ))))))) else none
set_option maxRecDepth 100000 in
theorem c_X1_burns (l : Launch) (G : om_G) {a0 : Nat} {v1 : Int32} {σ : om_S} {r : Int32} {τ : om_S} (h : f_X1_burns a0 v1 σ = some (r, τ)) : om_D l G 1 yX1_burns cX1_burns 3 (some FieldType.int) 0 0 [vR (some a0), vI v1] σ om_rf om_N (some (vI r)) τ om_rf om_N := by
  refine om_Dof (lv := [(0, vR (some a0)), (1, vI v1)]) (by decide) rfl_le rfl (fun x O hE => ?_)
  change om_Ok x RX1 "burns" cX1_burns 3 (some FieldType.int) 1 0 0 at O
  unfold f_X1_burns at h
  revert h; refine om_iteR (fun ka0 h => ?_)
  refine om_bipush O (v := 10) dX1_burns_0 (by decide) ?_
  refine om_aload_n O 0 dX1_burns_2 rfl rfl ?_
  refine gf_X1_15 O ka0 (om_lt ka0 (by decide)) dX1_burns_3 ?_
  refine om_iadd O dX1_burns_6 ?_
  revert h; refine om_letR (fun x1o e1o h => ?_)
  refine om_istore_n O (lv' := [(0, vR (some a0)), (1, vI v1), (2, vI x1o)]) [1, 2, 0] e1o dX1_burns_7 rfl (by decide) rfl ?_
  refine om_aload_n O 0 dX1_burns_8 rfl rfl ?_
  refine gf_X1_9 O ka0 (om_lt ka0 (by decide)) dX1_burns_9 ?_
  by_cases c1o : (σ a0 0) = 1
  · replace h := (if_pos c1o).symm.trans h
    refine om_tblIn O (b := 1) (off := 40) (tgt := 52) dX1_burns_12 c1o (by decide) (by decide) (by decide +kernel) (by decide) ?_
    refine om_iload_n O 2 dX1_burns_52 rfl rfl ?_
    refine om_iconst O (v := 5) dX1_burns_53 (by decide) ?_
    refine om_iadd O dX1_burns_54 ?_
    exact om_iret (st := []) O (om_eI hE h) rfl dX1_burns_55
  · replace h := (if_neg c1o).symm.trans h
    by_cases c2o : (σ a0 0) = 2
    · replace h := (if_pos c2o).symm.trans h
      refine om_tblIn O (b := 2) (off := 44) (tgt := 56) dX1_burns_12 c2o (by decide) (by decide) (by decide +kernel) (by decide) ?_
      refine om_iconst O (v := 2) dX1_burns_56 (by decide) ?_
      refine om_iload_n O 2 dX1_burns_57 rfl rfl ?_
      refine om_imul O dX1_burns_58 ?_
      exact om_iret (st := []) O (om_eI hE h) rfl dX1_burns_59
    · replace h := (if_neg c2o).symm.trans h
      by_cases c3o : (σ a0 0) = 3
      · replace h := (if_pos c3o).symm.trans h
        refine om_tblIn O (b := 3) (off := 48) (tgt := 60) dX1_burns_12 c3o (by decide) (by decide) (by decide +kernel) (by decide) ?_
        refine om_iload_n O 2 dX1_burns_60 rfl rfl ?_
        refine om_iconst O (v := 2) dX1_burns_61 (by decide) ?_
        refine om_idiv O dX1_burns_62 (by decide) ?_
        exact om_iret (st := []) O (om_eI hE h) rfl dX1_burns_63
      · replace h := (if_neg c3o).symm.trans h
        by_cases c4o : (σ a0 0) = 4
        · replace h := (if_pos c4o).symm.trans h
          refine om_tblIn O (b := 4) (off := 52) (tgt := 64) dX1_burns_12 c4o (by decide) (by decide) (by decide +kernel) (by decide) ?_
          refine om_iload_n O 2 dX1_burns_64 rfl rfl ?_
          refine om_iconst O (v := 5) dX1_burns_65 (by decide) ?_
          refine om_iadd O dX1_burns_66 ?_
          refine om_bipush O (v := 10) dX1_burns_67 (by decide) ?_
          refine om_aload_n O 0 dX1_burns_69 rfl rfl ?_
          refine gf_X1_18 O ka0 (om_lt ka0 (by decide)) dX1_burns_70 ?_
          revert h; refine om_callR (fun r1o σ1o g1o h => ?_)
          refine cl_X1_31 O (st := [vI (10 : Int32), vI (x1o + (5 : Int32))]) (stk := [vI (σ a0 2), vI (10 : Int32), vI (x1o + (5 : Int32))]) (st2 := [vI r1o, vI (10 : Int32), vI (x1o + (5 : Int32))]) [vI (σ a0 2)] (fun l G => c_J6_bitCount_0f7a4 l G g1o) (by decide) rfl rfl rfl_le rfl rfl_le rfl_le dX1_burns_73 ?_
          refine om_iconst O (v := 1) dX1_burns_76 (by decide) ?_
          refine om_isub O dX1_burns_77 ?_
          refine om_imul O dX1_burns_78 ?_
          refine om_iadd O dX1_burns_79 ?_
          exact om_iret (st := []) O (om_eI hE h) rfl dX1_burns_80
        · replace h := (if_neg c4o).symm.trans h
          by_cases c5o : (σ a0 0) = 5
          · replace h := (if_pos c5o).symm.trans h
            refine om_tblIn O (b := 5) (off := 69) (tgt := 81) dX1_burns_12 c5o (by decide) (by decide) (by decide +kernel) (by decide) ?_
            refine om_iconst O (v := 2) dX1_burns_81 (by decide) ?_
            refine om_iload_n O 2 dX1_burns_82 rfl rfl ?_
            refine om_imul O dX1_burns_83 ?_
            refine om_iload_n O 1 dX1_burns_84 rfl rfl ?_
            refine om_iconst O (v := 5) dX1_burns_85 (by decide) ?_
            refine om_irem O dX1_burns_86 (by decide) ?_
            refine om_iadd O dX1_burns_87 ?_
            exact om_iret (st := []) O (om_eI hE h) rfl dX1_burns_88
          · replace h := (if_neg c5o).symm.trans h
            by_cases c6o : (σ a0 0) = 6
            · replace h := (if_pos c6o).symm.trans h
              refine om_tblIn O (b := 6) (off := 77) (tgt := 89) dX1_burns_12 c6o (by decide) (by decide) (by decide +kernel) (by decide) ?_
              refine om_iconst O (v := 4) dX1_burns_89 (by decide) ?_
              refine om_aload_n O 0 dX1_burns_90 rfl rfl ?_
              refine gf_X1_21 O ka0 (om_lt ka0 (by decide)) dX1_burns_91 ?_
              refine om_bipush O (v := 10) dX1_burns_94 (by decide) ?_
              refine om_idiv O dX1_burns_96 (by decide) ?_
              refine om_iadd O dX1_burns_97 ?_
              exact om_iret (st := []) O (om_eI hE h) rfl dX1_burns_98
            · replace h := (if_neg c6o).symm.trans h
              refine om_tblDef O (tgt := 99) dX1_burns_12 (fun v hv h1 h2 => by
    have h3 : v = 1 ∨ v = 2 ∨ v = 3 ∨ v = 4 ∨ v = 5 ∨ v = 6 := by omega
    rcases h3 with rfl | rfl | rfl | rfl | rfl | rfl <;> first | rfl | exact absurd hv.symm (lv_neT (k := 1) c1o (by decide)) | exact absurd hv.symm (lv_neT (k := 2) c2o (by decide)) | exact absurd hv.symm (lv_neT (k := 3) c3o (by decide)) | exact absurd hv.symm (lv_neT (k := 4) c4o (by decide)) | exact absurd hv.symm (lv_neT (k := 5) c5o (by decide)) | exact absurd hv.symm (lv_neT (k := 6) c6o (by decide))) (by decide) ?_
              refine om_iload_n O 2 dX1_burns_99 rfl rfl ?_
              exact om_iret (st := []) O (om_eI hE h) rfl dX1_burns_100
def f_X3_size  (a0 : Nat) (σ : om_S) : Option (Int32 × om_S) := if om_kc a0 = 3 then some ((σ a0 1), σ) else none
set_option maxRecDepth 100000 in
theorem c_X3_size (l : Launch) (G : om_G) {a0 : Nat} {σ : om_S} {r : Int32} {τ : om_S} (h : f_X3_size a0 σ = some (r, τ)) : om_D l G 0 yX3_size cX3_size 1 (some FieldType.int) 0 0 [vR (some a0)] σ om_rf om_N (some (vI r)) τ om_rf om_N := by
  refine om_Dof (lv := [(0, vR (some a0))]) (by decide) rfl_le rfl (fun x O hE => ?_)
  change om_Ok x RX3 "size" cX3_size 1 (some FieldType.int) 0 0 0 at O
  unfold f_X3_size at h
  revert h; refine om_iteR (fun ka0 h => ?_)
  refine om_aload_n O 0 dX3_size_0 rfl rfl ?_
  refine gf_X3_7 O ka0 (om_lt ka0 (by decide)) dX3_size_1 ?_
  exact om_iret (st := []) O (om_eI hE h) rfl dX3_size_4
def f_X5_held_b15  (v1 : Int32) (s0 : Int32) (σ : om_S) : Option (Int32 × om_S) := if 0 ≤ v1 then (if v1 ≤ s0 then (some (v1, σ)) else (some (s0, σ))) else (some ((0 : Int32), σ))
set_option maxRecDepth 100000 in
theorem g_X5_held_b15 {x : om_X}   (O : om_Ok x RX5 "held" cX5_held 3 (some FieldType.int) 0 0 0)   {r : Int32} {τ : om_S} (hE : om_End x (some (vI r)) τ om_rf om_N 0 0)   {v1 : Int32} {s0 : Int32} {σ : om_S}  (h : f_X5_held_b15 v1 s0 σ = some (r, τ)) : om_J x 15 [(1, vI v1)] [vI s0] σ om_rf om_N 0 0 := by
  unfold f_X5_held_b15 at h
  refine om_istore_n O (lv' := [(1, vI v1), (2, vI s0)]) [1, 0] rfl dX5_held_15 rfl (by decide) rfl ?_
  refine om_iload_n O 0 dX5_held_16 rfl rfl ?_
  refine om_if_ge O (tgt := 24) dX5_held_17 (by decide) (fun c1o => ?_) (fun c1o => ?_)
  · replace h := (if_pos c1o).symm.trans h
    refine om_iload_n O 0 dX5_held_24 rfl rfl ?_
    refine om_iload_n O 1 dX5_held_25 rfl rfl ?_
    refine om_icmp_le O (tgt := 33) dX5_held_26 (by decide) (fun c2o => ?_) (fun c2o => ?_)
    · replace h := (if_pos c2o).symm.trans h
      refine om_iload_n O 0 dX5_held_33 rfl rfl ?_
      exact om_iret (st := []) O (om_eI hE h) rfl dX5_held_34
    · replace h := (if_neg c2o).symm.trans h
      refine om_iload_n O 1 dX5_held_29 rfl rfl ?_
      refine om_goto O (tgt := 34) dX5_held_30 (by decide) ?_
      exact om_iret (st := []) O (om_eI hE h) rfl dX5_held_34
  · replace h := (if_neg c1o).symm.trans h
    refine om_iconst O (v := 0) dX5_held_20 (by decide) ?_
    refine om_goto O (tgt := 34) dX5_held_21 (by decide) ?_
    exact om_iret (st := []) O (om_eI hE h) rfl dX5_held_34
def f_X5_held  (a0 : Nat) (v1 : Int32) (σ : om_S) : Option (Int32 × om_S) := if om_kc a0 = 5 then if (σ a0 0) = 0 then (f_X5_held_b15 v1 (99 : Int32) σ) else (f_X5_held_b15 v1 (199 : Int32) σ) else none
set_option maxRecDepth 100000 in
theorem c_X5_held (l : Launch) (G : om_G) {a0 : Nat} {v1 : Int32} {σ : om_S} {r : Int32} {τ : om_S} (h : f_X5_held a0 v1 σ = some (r, τ)) : om_D l G 0 yX5_held cX5_held 3 (some FieldType.int) 0 0 [vR (some a0), vI v1] σ om_rf om_N (some (vI r)) τ om_rf om_N := by
  refine om_Dof (lv := [(0, vR (some a0)), (1, vI v1)]) (by decide) rfl_le rfl (fun x O hE => ?_)
  change om_Ok x RX5 "held" cX5_held 3 (some FieldType.int) 0 0 0 at O
  unfold f_X5_held at h
  revert h; refine om_iteR (fun ka0 h => ?_)
  refine om_aload_n O 0 dX5_held_0 rfl rfl ?_
  refine gf_X5_24 O ka0 (om_lt ka0 (by decide)) dX5_held_1 ?_
  refine om_if_ne O (tgt := 12) dX5_held_4 (by decide) (fun c1o => ?_) (fun c1o => ?_)
  · replace h := (if_pos c1o).symm.trans h
    refine om_bipush O (v := 99) dX5_held_7 (by decide) ?_
    refine om_goto O (tgt := 15) dX5_held_9 (by decide) ?_
    refine om_drop (lv' := [(1, vI v1)]) [1] rfl ?_
    exact g_X5_held_b15 O hE h
  · replace h := (if_neg c1o).symm.trans h
    refine om_sipush O (v := 199) dX5_held_12 (by decide) ?_
    refine om_drop (lv' := [(1, vI v1)]) [1] rfl ?_
    exact g_X5_held_b15 O hE h
def f_X3_at  (a0 : Nat) (v1 : Int32) (σ : om_S) : Option (Int32 × om_S) := if om_kc a0 = 3 then if v1 < 0 then (some ((0 : Int32), σ)) else (if (σ a0 1) ≤ v1 then (some ((0 : Int32), σ)) else (om_ref (om_rf a0 0) 20 fun (t1o : Nat) => if (Int32.ofNat (om_al t1o)) ≤ v1 then (some ((0 : Int32), σ)) else (om_ref (om_rf a0 0) 20 fun (t2o : Nat) => if om_in v1 (om_al t2o) then some ((σ t2o v1.toNatClampNeg), σ) else none))) else none
set_option maxRecDepth 100000 in
theorem c_X3_at (l : Launch) (G : om_G) {a0 : Nat} {v1 : Int32} {σ : om_S} {r : Int32} {τ : om_S} (h : f_X3_at a0 v1 σ = some (r, τ)) : om_D l G 0 yX3_at cX3_at 2 (some FieldType.int) 0 0 [vR (some a0), vI v1] σ om_rf om_N (some (vI r)) τ om_rf om_N := by
  refine om_Dof (lv := [(0, vR (some a0)), (1, vI v1)]) (by decide) rfl_le rfl (fun x O hE => ?_)
  change om_Ok x RX3 "at" cX3_at 2 (some FieldType.int) 0 0 0 at O
  unfold f_X3_at at h
  revert h; refine om_iteR (fun ka0 h => ?_)
  refine om_iload_n O 1 dX3_at_0 rfl rfl ?_
  refine om_if_lt O (tgt := 30) dX3_at_1 (by decide) (fun c1o => ?_) (fun c1o => ?_)
  · replace h := (if_pos c1o).symm.trans h
    refine om_iconst O (v := 0) dX3_at_30 (by decide) ?_
    exact om_iret (st := []) O (om_eI hE h) rfl dX3_at_31
  · replace h := (if_neg c1o).symm.trans h
    refine om_iload_n O 1 dX3_at_4 rfl rfl ?_
    refine om_aload_n O 0 dX3_at_5 rfl rfl ?_
    refine gf_X3_7 O ka0 (om_lt ka0 (by decide)) dX3_at_6 ?_
    refine om_icmp_ge O (tgt := 30) dX3_at_9 (by decide) (fun c2o => ?_) (fun c2o => ?_)
    · replace h := (if_pos c2o).symm.trans h
      refine om_iconst O (v := 0) dX3_at_30 (by decide) ?_
      exact om_iret (st := []) O (om_eI hE h) rfl dX3_at_31
    · replace h := (if_neg c2o).symm.trans h
      refine om_iload_n O 1 dX3_at_12 rfl rfl ?_
      refine om_aload_n O 0 dX3_at_13 rfl rfl ?_
      revert h; refine om_refR (fun t1o y1o k1o h => ?_)
      refine gf_X3_13 O ka0 (om_lt ka0 (by decide)) dX3_at_14 ?_
      rw [y1o]
      refine om_alen O k1o (om_lt k1o (by decide)) rfl dX3_at_17 ?_
      refine om_icmp_ge O (tgt := 30) dX3_at_18 (by decide) (fun c3o => ?_) (fun c3o => ?_)
      · replace h := (if_pos c3o).symm.trans h
        refine om_iconst O (v := 0) dX3_at_30 (by decide) ?_
        exact om_iret (st := []) O (om_eI hE h) rfl dX3_at_31
      · replace h := (if_neg c3o).symm.trans h
        refine om_aload_n O 0 dX3_at_21 rfl rfl ?_
        revert h; refine om_refR (fun t2o y2o k2o h => ?_)
        refine gf_X3_13 O ka0 (om_lt ka0 (by decide)) dX3_at_22 ?_
        rw [y2o]
        refine om_iload_n O 1 dX3_at_25 rfl rfl ?_
        revert h; refine om_iteR (fun i1o h => ?_)
        refine om_iald O k2o (om_lt k2o (by decide)) i1o dX3_at_26 ?_
        refine om_goto O (tgt := 31) dX3_at_27 (by decide) ?_
        exact om_iret (st := []) O (om_eI hE h) rfl dX3_at_31
def f_X5_joined  (v0 : Int32) (v1 : Int32) (v2 : Int32) (σ : om_S) : Option (Int32 × om_S) := if v0 = 37 then (if v2 = 0 then (some ((0 : Int32), σ)) else (if ¬ v2 = 0 then some ((v1 - v1 / v2 * v2), σ) else none)) else (if v0 = 38 then (if v1 = 0 then (some ((0 : Int32), σ)) else (if v2 = 0 then (some ((0 : Int32), σ)) else (some ((1 : Int32), σ)))) else (if v0 = 42 then (some ((v1 * v2), σ)) else (if v0 = 43 then (some ((v1 + v2), σ)) else (if v0 = 45 then (some ((v1 - v2), σ)) else (if v0 = 47 then (if v2 = 0 then (some ((0 : Int32), σ)) else (if ¬ v2 = 0 then some ((v1 / v2), σ) else none)) else (if v0 = 60 then (if v2 ≤ v1 then (some ((0 : Int32), σ)) else (some ((1 : Int32), σ))) else (if v0 = 61 then (if v1 = v2 then (some ((1 : Int32), σ)) else (some ((0 : Int32), σ))) else (if v0 = 62 then (if v1 ≤ v2 then (some ((0 : Int32), σ)) else (some ((1 : Int32), σ))) else (if v0 = 124 then (if v1 = 0 then (if v2 = 0 then (some ((0 : Int32), σ)) else (some ((1 : Int32), σ))) else (some ((1 : Int32), σ))) else (some ((0 : Int32), σ)))))))))))
set_option maxRecDepth 100000 in
theorem c_X5_joined (l : Launch) (G : om_G) {v0 : Int32} {v1 : Int32} {v2 : Int32} {σ : om_S} {r : Int32} {τ : om_S} (h : f_X5_joined v0 v1 v2 σ = some (r, τ)) : om_D l G 0 yX5_joined cX5_joined 3 (some FieldType.int) 0 0 [vI v0, vI v1, vI v2] σ om_rf om_N (some (vI r)) τ om_rf om_N := by
  refine om_Dof (lv := [(0, vI v0), (1, vI v1), (2, vI v2)]) (by decide) rfl_le rfl (fun x O hE => ?_)
  change om_Ok x RX5 "joined" cX5_joined 3 (some FieldType.int) 0 0 0 at O
  unfold f_X5_joined at h
  refine om_iload_n O 0 dX5_joined_0 rfl rfl ?_
  by_cases c1o : v0 = 37
  · replace h := (if_pos c1o).symm.trans h
    refine om_lookup O (off := 176) (tgt := 177) dX5_joined_1 (by decide +kernel) (by rw [c1o]; decide +kernel) (by decide) ?_
    refine om_iload_n O 2 dX5_joined_177 rfl rfl ?_
    refine om_if_ne O (tgt := 185) dX5_joined_178 (by decide) (fun c2o => ?_) (fun c2o => ?_)
    · replace h := (if_pos c2o).symm.trans h
      refine om_iconst O (v := 0) dX5_joined_181 (by decide) ?_
      refine om_goto O (tgt := 188) dX5_joined_182 (by decide) ?_
      exact om_iret (st := []) O (om_eI hE h) rfl dX5_joined_188
    · replace h := (if_neg c2o).symm.trans h
      refine om_iload_n O 1 dX5_joined_185 rfl rfl ?_
      refine om_iload_n O 2 dX5_joined_186 rfl rfl ?_
      revert h; refine om_iteR (fun z1o h => ?_)
      refine om_irem O dX5_joined_187 z1o ?_
      exact om_iret (st := []) O (om_eI hE h) rfl dX5_joined_188
  · replace h := (if_neg c1o).symm.trans h
    by_cases c3o : v0 = 38
    · replace h := (if_pos c3o).symm.trans h
      refine om_lookup O (off := 105) (tgt := 106) dX5_joined_1 (by decide +kernel) (by rw [c3o]; decide +kernel) (by decide) ?_
      refine om_iload_n O 1 dX5_joined_106 rfl rfl ?_
      refine om_if_eq O (tgt := 118) dX5_joined_107 (by decide) (fun c4o => ?_) (fun c4o => ?_)
      · replace h := (if_pos c4o).symm.trans h
        refine om_iconst O (v := 0) dX5_joined_118 (by decide) ?_
        exact om_iret (st := []) O (om_eI hE h) rfl dX5_joined_119
      · replace h := (if_neg c4o).symm.trans h
        refine om_iload_n O 2 dX5_joined_110 rfl rfl ?_
        refine om_if_eq O (tgt := 118) dX5_joined_111 (by decide) (fun c5o => ?_) (fun c5o => ?_)
        · replace h := (if_pos c5o).symm.trans h
          refine om_iconst O (v := 0) dX5_joined_118 (by decide) ?_
          exact om_iret (st := []) O (om_eI hE h) rfl dX5_joined_119
        · replace h := (if_neg c5o).symm.trans h
          refine om_iconst O (v := 1) dX5_joined_114 (by decide) ?_
          refine om_goto O (tgt := 119) dX5_joined_115 (by decide) ?_
          exact om_iret (st := []) O (om_eI hE h) rfl dX5_joined_119
    · replace h := (if_neg c3o).symm.trans h
      by_cases c6o : v0 = 42
      · replace h := (if_pos c6o).symm.trans h
        refine om_lookup O (off := 160) (tgt := 161) dX5_joined_1 (by decide +kernel) (by rw [c6o]; decide +kernel) (by decide) ?_
        refine om_iload_n O 1 dX5_joined_161 rfl rfl ?_
        refine om_iload_n O 2 dX5_joined_162 rfl rfl ?_
        refine om_imul O dX5_joined_163 ?_
        exact om_iret (st := []) O (om_eI hE h) rfl dX5_joined_164
      · replace h := (if_neg c6o).symm.trans h
        by_cases c7o : v0 = 43
        · replace h := (if_pos c7o).symm.trans h
          refine om_lookup O (off := 152) (tgt := 153) dX5_joined_1 (by decide +kernel) (by rw [c7o]; decide +kernel) (by decide) ?_
          refine om_iload_n O 1 dX5_joined_153 rfl rfl ?_
          refine om_iload_n O 2 dX5_joined_154 rfl rfl ?_
          refine om_iadd O dX5_joined_155 ?_
          exact om_iret (st := []) O (om_eI hE h) rfl dX5_joined_156
        · replace h := (if_neg c7o).symm.trans h
          by_cases c8o : v0 = 45
          · replace h := (if_pos c8o).symm.trans h
            refine om_lookup O (off := 156) (tgt := 157) dX5_joined_1 (by decide +kernel) (by rw [c8o]; decide +kernel) (by decide) ?_
            refine om_iload_n O 1 dX5_joined_157 rfl rfl ?_
            refine om_iload_n O 2 dX5_joined_158 rfl rfl ?_
            refine om_isub O dX5_joined_159 ?_
            exact om_iret (st := []) O (om_eI hE h) rfl dX5_joined_160
          · replace h := (if_neg c8o).symm.trans h
            by_cases c9o : v0 = 47
            · replace h := (if_pos c9o).symm.trans h
              refine om_lookup O (off := 164) (tgt := 165) dX5_joined_1 (by decide +kernel) (by rw [c9o]; decide +kernel) (by decide) ?_
              refine om_iload_n O 2 dX5_joined_165 rfl rfl ?_
              refine om_if_ne O (tgt := 173) dX5_joined_166 (by decide) (fun c10o => ?_) (fun c10o => ?_)
              · replace h := (if_pos c10o).symm.trans h
                refine om_iconst O (v := 0) dX5_joined_169 (by decide) ?_
                refine om_goto O (tgt := 176) dX5_joined_170 (by decide) ?_
                exact om_iret (st := []) O (om_eI hE h) rfl dX5_joined_176
              · replace h := (if_neg c10o).symm.trans h
                refine om_iload_n O 1 dX5_joined_173 rfl rfl ?_
                refine om_iload_n O 2 dX5_joined_174 rfl rfl ?_
                revert h; refine om_iteR (fun z2o h => ?_)
                refine om_idiv O dX5_joined_175 z2o ?_
                exact om_iret (st := []) O (om_eI hE h) rfl dX5_joined_176
            · replace h := (if_neg c9o).symm.trans h
              by_cases c11o : v0 = 60
              · replace h := (if_pos c11o).symm.trans h
                refine om_lookup O (off := 119) (tgt := 120) dX5_joined_1 (by decide +kernel) (by rw [c11o]; decide +kernel) (by decide) ?_
                refine om_iload_n O 1 dX5_joined_120 rfl rfl ?_
                refine om_iload_n O 2 dX5_joined_121 rfl rfl ?_
                refine om_icmp_ge O (tgt := 129) dX5_joined_122 (by decide) (fun c12o => ?_) (fun c12o => ?_)
                · replace h := (if_pos c12o).symm.trans h
                  refine om_iconst O (v := 0) dX5_joined_129 (by decide) ?_
                  exact om_iret (st := []) O (om_eI hE h) rfl dX5_joined_130
                · replace h := (if_neg c12o).symm.trans h
                  refine om_iconst O (v := 1) dX5_joined_125 (by decide) ?_
                  refine om_goto O (tgt := 130) dX5_joined_126 (by decide) ?_
                  exact om_iret (st := []) O (om_eI hE h) rfl dX5_joined_130
              · replace h := (if_neg c11o).symm.trans h
                by_cases c13o : v0 = 61
                · replace h := (if_pos c13o).symm.trans h
                  refine om_lookup O (off := 130) (tgt := 131) dX5_joined_1 (by decide +kernel) (by rw [c13o]; decide +kernel) (by decide) ?_
                  refine om_iload_n O 1 dX5_joined_131 rfl rfl ?_
                  refine om_iload_n O 2 dX5_joined_132 rfl rfl ?_
                  refine om_icmp_ne O (tgt := 140) dX5_joined_133 (by decide) (fun c14o => ?_) (fun c14o => ?_)
                  · replace h := (if_pos c14o).symm.trans h
                    refine om_iconst O (v := 1) dX5_joined_136 (by decide) ?_
                    refine om_goto O (tgt := 141) dX5_joined_137 (by decide) ?_
                    exact om_iret (st := []) O (om_eI hE h) rfl dX5_joined_141
                  · replace h := (if_neg c14o).symm.trans h
                    refine om_iconst O (v := 0) dX5_joined_140 (by decide) ?_
                    exact om_iret (st := []) O (om_eI hE h) rfl dX5_joined_141
                · replace h := (if_neg c13o).symm.trans h
                  by_cases c15o : v0 = 62
                  · replace h := (if_pos c15o).symm.trans h
                    refine om_lookup O (off := 141) (tgt := 142) dX5_joined_1 (by decide +kernel) (by rw [c15o]; decide +kernel) (by decide) ?_
                    refine om_iload_n O 1 dX5_joined_142 rfl rfl ?_
                    refine om_iload_n O 2 dX5_joined_143 rfl rfl ?_
                    refine om_icmp_le O (tgt := 151) dX5_joined_144 (by decide) (fun c16o => ?_) (fun c16o => ?_)
                    · replace h := (if_pos c16o).symm.trans h
                      refine om_iconst O (v := 0) dX5_joined_151 (by decide) ?_
                      exact om_iret (st := []) O (om_eI hE h) rfl dX5_joined_152
                    · replace h := (if_neg c16o).symm.trans h
                      refine om_iconst O (v := 1) dX5_joined_147 (by decide) ?_
                      refine om_goto O (tgt := 152) dX5_joined_148 (by decide) ?_
                      exact om_iret (st := []) O (om_eI hE h) rfl dX5_joined_152
                  · replace h := (if_neg c15o).symm.trans h
                    by_cases c17o : v0 = 124
                    · replace h := (if_pos c17o).symm.trans h
                      refine om_lookup O (off := 91) (tgt := 92) dX5_joined_1 (by decide +kernel) (by rw [c17o]; decide +kernel) (by decide) ?_
                      refine om_iload_n O 1 dX5_joined_92 rfl rfl ?_
                      refine om_if_ne O (tgt := 100) dX5_joined_93 (by decide) (fun c18o => ?_) (fun c18o => ?_)
                      · replace h := (if_pos c18o).symm.trans h
                        refine om_iload_n O 2 dX5_joined_96 rfl rfl ?_
                        refine om_if_eq O (tgt := 104) dX5_joined_97 (by decide) (fun c19o => ?_) (fun c19o => ?_)
                        · replace h := (if_pos c19o).symm.trans h
                          refine om_iconst O (v := 0) dX5_joined_104 (by decide) ?_
                          exact om_iret (st := []) O (om_eI hE h) rfl dX5_joined_105
                        · replace h := (if_neg c19o).symm.trans h
                          refine om_iconst O (v := 1) dX5_joined_100 (by decide) ?_
                          refine om_goto O (tgt := 105) dX5_joined_101 (by decide) ?_
                          exact om_iret (st := []) O (om_eI hE h) rfl dX5_joined_105
                      · replace h := (if_neg c18o).symm.trans h
                        refine om_iconst O (v := 1) dX5_joined_100 (by decide) ?_
                        refine om_goto O (tgt := 105) dX5_joined_101 (by decide) ?_
                        exact om_iret (st := []) O (om_eI hE h) rfl dX5_joined_105
                    · replace h := (if_neg c17o).symm.trans h
                      refine om_lookup O (off := 188) (tgt := 189) dX5_joined_1 (by decide +kernel) ((lv_osw (k := 37) c1o (by decide)).trans ((lv_osw (k := 38) c3o (by decide)).trans ((lv_osw (k := 42) c6o (by decide)).trans ((lv_osw (k := 43) c7o (by decide)).trans ((lv_osw (k := 45) c8o (by decide)).trans ((lv_osw (k := 47) c9o (by decide)).trans ((lv_osw (k := 60) c11o (by decide)).trans ((lv_osw (k := 61) c13o (by decide)).trans ((lv_osw (k := 62) c15o (by decide)).trans ((lv_osw (k := 124) c17o (by decide)).trans rfl)))))))))) (by decide) ?_
                      refine om_iconst O (v := 0) dX5_joined_189 (by decide) ?_
                      exact om_iret (st := []) O (om_eI hE h) rfl dX5_joined_190
def f_X5_gives_b27  (b0 : Nat) (s1 : Int32) (σ : om_S) : Option (Int32 × om_S) := om_call (f_X5_held b0 s1 σ) fun (r1o : Int32) (σ1o : om_S) => some (r1o, σ1o)
set_option maxRecDepth 100000 in
theorem g_X5_gives_b27 {x : om_X}   (O : om_Ok x RX5 "gives" cX5_gives 7 (some FieldType.int) 1 0 0)   {r : Int32} {τ : om_S} (hE : om_End x (some (vI r)) τ om_rf om_N 0 0)   {b0 : Nat} {s1 : Int32} {σ : om_S} (kb0 : om_kc b0 = 5) (h : f_X5_gives_b27 b0 s1 σ = some (r, τ)) : om_J x 27 [] [vI s1, vR (some b0)] σ om_rf om_N 0 0 := by
  unfold f_X5_gives_b27 at h
  revert h; refine om_callR (fun r1o σ1o g1o h => ?_)
  refine cl_X5_39 O (st := []) (stk := [vI s1, vR (some b0)]) (st2 := [vI r1o]) [vI s1] (fun l G => c_X5_held l G g1o) kb0 (om_lt kb0 (by decide)) (by decide) rfl rfl rfl_le rfl rfl_le rfl_le dX5_gives_27 ?_
  exact om_iret (st := []) O (om_eI hE h) rfl dX5_gives_30
def f_X5_gives_b249  (b0 : Nat) (s1 : Int32) (σ : om_S) : Option (Int32 × om_S) := om_call (f_X5_held b0 s1 σ) fun (r1o : Int32) (σ1o : om_S) => some (r1o, σ1o)
set_option maxRecDepth 100000 in
theorem g_X5_gives_b249 {x : om_X}   (O : om_Ok x RX5 "gives" cX5_gives 7 (some FieldType.int) 1 0 0)   {r : Int32} {τ : om_S} (hE : om_End x (some (vI r)) τ om_rf om_N 0 0)   {b0 : Nat} {s1 : Int32} {σ : om_S} (kb0 : om_kc b0 = 5) (h : f_X5_gives_b249 b0 s1 σ = some (r, τ)) : om_J x 249 [] [vI s1, vR (some b0)] σ om_rf om_N 0 0 := by
  unfold f_X5_gives_b249 at h
  revert h; refine om_callR (fun r1o σ1o g1o h => ?_)
  refine cl_X5_39 O (st := []) (stk := [vI s1, vR (some b0)]) (st2 := [vI r1o]) [vI s1] (fun l G => c_X5_held l G g1o) kb0 (om_lt kb0 (by decide)) (by decide) rfl rfl rfl_le rfl rfl_le rfl_le dX5_gives_249 ?_
  exact om_iret (st := []) O (om_eI hE h) rfl dX5_gives_252
def f_X5_gives_b224 (lp37 : Nat → Int32 → Int32 → Int32 → Int32 → Int32 → om_S → Option (Int32 × om_S)) (a0 : Nat) (v1 : Int32) (v2 : Int32) (v3 : Int32) (v4 : Int32) (v5 : Int32) (σ : om_S) : Option (Int32 × om_S) := lp37 a0 v1 v2 v3 v4 (v5 + 1) σ
set_option maxRecDepth 100000 in
theorem g_X5_gives_b224 {x : om_X}   (O : om_Ok x RX5 "gives" cX5_gives 7 (some FieldType.int) 1 0 0)   {r : Int32} {τ : om_S} (hE : om_End x (some (vI r)) τ om_rf om_N 0 0) {lp37 : Nat → Int32 → Int32 → Int32 → Int32 → Int32 → om_S → Option (Int32 × om_S)} (L37 : ∀ (a0 : Nat) (v1 : Int32) (v2 : Int32) (v3 : Int32) (v4 : Int32) (v5 : Int32) (σ : om_S) (ka0 : om_kc a0 = 5), lp37 a0 v1 v2 v3 v4 v5 σ = some (r, τ) → om_J x 37 [(0, vR (some a0)), (1, vI v1), (2, vI v2), (3, vI v3), (4, vI v4), (5, vI v5)] [] σ om_rf om_N 0 0) {a0 : Nat} {v1 : Int32} {v2 : Int32} {v3 : Int32} {v4 : Int32} {v5 : Int32} {σ : om_S} (ka0 : om_kc a0 = 5) (h : f_X5_gives_b224 lp37 a0 v1 v2 v3 v4 v5 σ = some (r, τ)) : om_J x 224 [(0, vR (some a0)), (1, vI v1), (2, vI v2), (3, vI v3), (4, vI v4), (5, vI v5)] [] σ om_rf om_N 0 0 := by
  unfold f_X5_gives_b224 at h
  refine om_iinc O (v1 := (v5 + 1)) (lv' := [(0, vR (some a0)), (1, vI v1), (2, vI v2), (3, vI v3), (4, vI v4), (5, vI (v5 + 1))]) 5 [1, 2, 3, 4, 5, 0] rfl dX5_gives_224 rfl rfl (by decide) rfl ?_
  refine om_goto O (tgt := 37) dX5_gives_227 (by decide) ?_
  exact L37 _ _ _ _ _ _ _ ka0 h
def f_X5_gives_b174 (lp37 : Nat → Int32 → Int32 → Int32 → Int32 → Int32 → om_S → Option (Int32 × om_S)) (a0 : Nat) (v1 : Int32) (v2 : Int32) (v3 : Int32) (v4 : Int32) (v5 : Int32) (v6 : Int32) (σ : om_S) : Option (Int32 × om_S) := if v4 < (2 : Int32) then (f_X5_gives_b224 lp37 a0 v1 v2 v3 v4 v5 σ) else (om_ref (om_rf a0 2) 20 fun (t1o : Nat) => if (Int32.ofNat (om_al t1o)) < v4 then (f_X5_gives_b224 lp37 a0 v1 v2 v3 v4 v5 σ) else (om_ref (om_rf a0 2) 20 fun (t2o : Nat) => om_ref (om_rf a0 2) 20 fun (t3o : Nat) => if om_in ((v4 + (-1)) - (1 : Int32)) (om_al t3o) then om_ref (om_rf a0 2) 20 fun (t4o : Nat) => if om_in (v4 + (-1)) (om_al t4o) then om_call (f_X5_joined (-v6) (σ t3o ((v4 + (-1)) - (1 : Int32)).toNatClampNeg) (σ t4o (v4 + (-1)).toNatClampNeg) σ) fun (r1o : Int32) (σ1o : om_S) => if om_in ((v4 + (-1)) - (1 : Int32)) (om_al t2o) then om_let (om_w σ1o t2o ((v4 + (-1)) - (1 : Int32)).toNatClampNeg r1o) fun (σ2o : om_S) => f_X5_gives_b224 lp37 a0 v1 v2 v3 (v4 + (-1)) v5 σ2o else none else none else none))
set_option maxRecDepth 100000 in
theorem g_X5_gives_b174 {x : om_X}   (O : om_Ok x RX5 "gives" cX5_gives 7 (some FieldType.int) 1 0 0)   {r : Int32} {τ : om_S} (hE : om_End x (some (vI r)) τ om_rf om_N 0 0) {lp37 : Nat → Int32 → Int32 → Int32 → Int32 → Int32 → om_S → Option (Int32 × om_S)} (L37 : ∀ (a0 : Nat) (v1 : Int32) (v2 : Int32) (v3 : Int32) (v4 : Int32) (v5 : Int32) (σ : om_S) (ka0 : om_kc a0 = 5), lp37 a0 v1 v2 v3 v4 v5 σ = some (r, τ) → om_J x 37 [(0, vR (some a0)), (1, vI v1), (2, vI v2), (3, vI v3), (4, vI v4), (5, vI v5)] [] σ om_rf om_N 0 0) {a0 : Nat} {v1 : Int32} {v2 : Int32} {v3 : Int32} {v4 : Int32} {v5 : Int32} {v6 : Int32} {σ : om_S} (ka0 : om_kc a0 = 5) (h : f_X5_gives_b174 lp37 a0 v1 v2 v3 v4 v5 v6 σ = some (r, τ)) : om_J x 174 [(0, vR (some a0)), (1, vI v1), (2, vI v2), (3, vI v3), (4, vI v4), (5, vI v5), (6, vI v6)] [] σ om_rf om_N 0 0 := by
  unfold f_X5_gives_b174 at h
  refine om_iload O 4 dX5_gives_174 rfl ?_
  refine om_iconst O (v := 2) dX5_gives_176 (by decide) ?_
  refine om_icmp_lt O (tgt := 224) dX5_gives_177 (by decide) (fun c1o => ?_) (fun c1o => ?_)
  · replace h := (if_pos c1o).symm.trans h
    refine om_drop (lv' := [(0, vR (some a0)), (1, vI v1), (2, vI v2), (3, vI v3), (4, vI v4), (5, vI v5)]) [0, 1, 2, 3, 4, 5] rfl ?_
    exact g_X5_gives_b224 O hE L37 ka0 h
  · replace h := (if_neg c1o).symm.trans h
    refine om_iload O 4 dX5_gives_180 rfl ?_
    refine om_aload_n O 0 dX5_gives_182 rfl rfl ?_
    revert h; refine om_refR (fun t1o y1o k1o h => ?_)
    refine gf_X5_20 O ka0 (om_lt ka0 (by decide)) dX5_gives_183 ?_
    rw [y1o]
    refine om_alen O k1o (om_lt k1o (by decide)) rfl dX5_gives_186 ?_
    refine om_icmp_gt O (tgt := 224) dX5_gives_187 (by decide) (fun c2o => ?_) (fun c2o => ?_)
    · replace h := (if_pos c2o).symm.trans h
      refine om_drop (lv' := [(0, vR (some a0)), (1, vI v1), (2, vI v2), (3, vI v3), (4, vI v4), (5, vI v5)]) [0, 1, 2, 3, 4, 5] rfl ?_
      exact g_X5_gives_b224 O hE L37 ka0 h
    · replace h := (if_neg c2o).symm.trans h
      refine om_iinc O (v1 := (v4 + (-1))) (lv' := [(0, vR (some a0)), (1, vI v1), (2, vI v2), (3, vI v3), (4, vI (v4 + (-1))), (5, vI v5), (6, vI v6)]) 4 [1, 2, 3, 4, 0, 5, 6] rfl dX5_gives_190 rfl (congrArg (fun y => v4 + y) (by decide)) (by decide) rfl ?_
      refine om_aload_n O 0 dX5_gives_193 rfl rfl ?_
      revert h; refine om_refR (fun t2o y2o k2o h => ?_)
      refine gf_X5_20 O ka0 (om_lt ka0 (by decide)) dX5_gives_194 ?_
      rw [y2o]
      refine om_iload O 4 dX5_gives_197 rfl ?_
      refine om_iconst O (v := 1) dX5_gives_199 (by decide) ?_
      refine om_isub O dX5_gives_200 ?_
      refine om_iload O 6 dX5_gives_201 rfl ?_
      refine om_ineg O dX5_gives_203 ?_
      refine om_aload_n O 0 dX5_gives_204 rfl rfl ?_
      revert h; refine om_refR (fun t3o y3o k3o h => ?_)
      refine gf_X5_20 O ka0 (om_lt ka0 (by decide)) dX5_gives_205 ?_
      rw [y3o]
      refine om_iload O 4 dX5_gives_208 rfl ?_
      refine om_iconst O (v := 1) dX5_gives_210 (by decide) ?_
      refine om_isub O dX5_gives_211 ?_
      revert h; refine om_iteR (fun i1o h => ?_)
      refine om_iald O k3o (om_lt k3o (by decide)) i1o dX5_gives_212 ?_
      refine om_aload_n O 0 dX5_gives_213 rfl rfl ?_
      revert h; refine om_refR (fun t4o y4o k4o h => ?_)
      refine gf_X5_20 O ka0 (om_lt ka0 (by decide)) dX5_gives_214 ?_
      rw [y4o]
      refine om_iload O 4 dX5_gives_217 rfl ?_
      revert h; refine om_iteR (fun i2o h => ?_)
      refine om_iald O k4o (om_lt k4o (by decide)) i2o dX5_gives_219 ?_
      revert h; refine om_callR (fun r1o σ1o g1o h => ?_)
      refine cl_X5_46 O (st := [vI ((v4 + (-1)) - (1 : Int32)), vR (some t2o)]) (stk := [vI (σ t4o (v4 + (-1)).toNatClampNeg), vI (σ t3o ((v4 + (-1)) - (1 : Int32)).toNatClampNeg), vI (-v6), vI ((v4 + (-1)) - (1 : Int32)), vR (some t2o)]) (st2 := [vI r1o, vI ((v4 + (-1)) - (1 : Int32)), vR (some t2o)]) [vI (-v6), vI (σ t3o ((v4 + (-1)) - (1 : Int32)).toNatClampNeg), vI (σ t4o (v4 + (-1)).toNatClampNeg)] (fun l G => c_X5_joined l G g1o) (by decide) rfl rfl rfl_le rfl rfl_le rfl_le dX5_gives_220 ?_
      revert h; refine om_iteR (fun i3o h => ?_)
      revert h; refine om_letR (fun σ2o e1o h => ?_)
      refine om_iast O k2o (om_lt k2o (by decide)) i3o dX5_gives_223 e1o ?_
      refine om_drop (lv' := [(0, vR (some a0)), (1, vI v1), (2, vI v2), (3, vI v3), (4, vI (v4 + (-1))), (5, vI v5)]) [0, 1, 2, 3, 4, 5] rfl ?_
      exact g_X5_gives_b224 O hE L37 ka0 h
def f_X5_gives_b170 (lp37 : Nat → Int32 → Int32 → Int32 → Int32 → Int32 → om_S → Option (Int32 × om_S)) (a0 : Nat) (v1 : Int32) (v2 : Int32) (v3 : Int32) (v4 : Int32) (v5 : Int32) (b0 : Nat) (s1 : Int32) (s2 : Int32) (σ : om_S) : Option (Int32 × om_S) := if om_in s1 (om_al b0) then om_let (om_w σ b0 s1.toNatClampNeg s2) fun (σ1o : om_S) => f_X5_gives_b224 lp37 a0 v1 v2 v3 v4 v5 σ1o else none
set_option maxRecDepth 100000 in
theorem g_X5_gives_b170 {x : om_X}   (O : om_Ok x RX5 "gives" cX5_gives 7 (some FieldType.int) 1 0 0)   {r : Int32} {τ : om_S} (hE : om_End x (some (vI r)) τ om_rf om_N 0 0) {lp37 : Nat → Int32 → Int32 → Int32 → Int32 → Int32 → om_S → Option (Int32 × om_S)} (L37 : ∀ (a0 : Nat) (v1 : Int32) (v2 : Int32) (v3 : Int32) (v4 : Int32) (v5 : Int32) (σ : om_S) (ka0 : om_kc a0 = 5), lp37 a0 v1 v2 v3 v4 v5 σ = some (r, τ) → om_J x 37 [(0, vR (some a0)), (1, vI v1), (2, vI v2), (3, vI v3), (4, vI v4), (5, vI v5)] [] σ om_rf om_N 0 0) {a0 : Nat} {v1 : Int32} {v2 : Int32} {v3 : Int32} {v4 : Int32} {v5 : Int32} {b0 : Nat} {s1 : Int32} {s2 : Int32} {σ : om_S} (ka0 : om_kc a0 = 5) (kb0 : om_kc b0 = 20) (h : f_X5_gives_b170 lp37 a0 v1 v2 v3 v4 v5 b0 s1 s2 σ = some (r, τ)) : om_J x 170 [(0, vR (some a0)), (1, vI v1), (2, vI v2), (3, vI v3), (4, vI v4), (5, vI v5)] [vI s2, vI s1, vR (some b0)] σ om_rf om_N 0 0 := by
  unfold f_X5_gives_b170 at h
  revert h; refine om_iteR (fun i1o h => ?_)
  revert h; refine om_letR (fun σ1o e1o h => ?_)
  refine om_iast O kb0 (om_lt kb0 (by decide)) i1o dX5_gives_170 e1o ?_
  refine om_goto O (tgt := 224) dX5_gives_171 (by decide) ?_
  exact g_X5_gives_b224 O hE L37 ka0 h
def f_X5_gives_b122 (lp37 : Nat → Int32 → Int32 → Int32 → Int32 → Int32 → om_S → Option (Int32 × om_S)) (a0 : Nat) (v1 : Int32) (v2 : Int32) (v3 : Int32) (v4 : Int32) (v5 : Int32) (v6 : Int32) (σ : om_S) : Option (Int32 × om_S) := if v6 = (-33 : Int32) then (if v4 < (1 : Int32) then (f_X5_gives_b174 lp37 a0 v1 v2 v3 v4 v5 v6 σ) else (om_ref (om_rf a0 2) 20 fun (t1o : Nat) => if (Int32.ofNat (om_al t1o)) < v4 then (f_X5_gives_b174 lp37 a0 v1 v2 v3 v4 v5 v6 σ) else (om_ref (om_rf a0 2) 20 fun (t2o : Nat) => om_ref (om_rf a0 2) 20 fun (t3o : Nat) => if om_in (v4 - (1 : Int32)) (om_al t3o) then if (σ t3o (v4 - (1 : Int32)).toNatClampNeg) = 0 then (f_X5_gives_b170 lp37 a0 v1 v2 v3 v4 v5 t2o (v4 - (1 : Int32)) (1 : Int32) σ) else (f_X5_gives_b170 lp37 a0 v1 v2 v3 v4 v5 t2o (v4 - (1 : Int32)) (0 : Int32) σ) else none))) else (f_X5_gives_b174 lp37 a0 v1 v2 v3 v4 v5 v6 σ)
set_option maxRecDepth 100000 in
theorem g_X5_gives_b122 {x : om_X}   (O : om_Ok x RX5 "gives" cX5_gives 7 (some FieldType.int) 1 0 0)   {r : Int32} {τ : om_S} (hE : om_End x (some (vI r)) τ om_rf om_N 0 0) {lp37 : Nat → Int32 → Int32 → Int32 → Int32 → Int32 → om_S → Option (Int32 × om_S)} (L37 : ∀ (a0 : Nat) (v1 : Int32) (v2 : Int32) (v3 : Int32) (v4 : Int32) (v5 : Int32) (σ : om_S) (ka0 : om_kc a0 = 5), lp37 a0 v1 v2 v3 v4 v5 σ = some (r, τ) → om_J x 37 [(0, vR (some a0)), (1, vI v1), (2, vI v2), (3, vI v3), (4, vI v4), (5, vI v5)] [] σ om_rf om_N 0 0) {a0 : Nat} {v1 : Int32} {v2 : Int32} {v3 : Int32} {v4 : Int32} {v5 : Int32} {v6 : Int32} {σ : om_S} (ka0 : om_kc a0 = 5) (h : f_X5_gives_b122 lp37 a0 v1 v2 v3 v4 v5 v6 σ = some (r, τ)) : om_J x 122 [(0, vR (some a0)), (1, vI v1), (2, vI v2), (3, vI v3), (4, vI v4), (5, vI v5), (6, vI v6)] [] σ om_rf om_N 0 0 := by
  unfold f_X5_gives_b122 at h
  refine om_iload O 6 dX5_gives_122 rfl ?_
  refine om_bipush O (v := -33) dX5_gives_124 (by decide) ?_
  refine om_icmp_ne O (tgt := 174) dX5_gives_126 (by decide) (fun c1o => ?_) (fun c1o => ?_)
  · replace h := (if_pos c1o).symm.trans h
    refine om_iload O 4 dX5_gives_129 rfl ?_
    refine om_iconst O (v := 1) dX5_gives_131 (by decide) ?_
    refine om_icmp_lt O (tgt := 174) dX5_gives_132 (by decide) (fun c2o => ?_) (fun c2o => ?_)
    · replace h := (if_pos c2o).symm.trans h
      exact g_X5_gives_b174 O hE L37 ka0 h
    · replace h := (if_neg c2o).symm.trans h
      refine om_iload O 4 dX5_gives_135 rfl ?_
      refine om_aload_n O 0 dX5_gives_137 rfl rfl ?_
      revert h; refine om_refR (fun t1o y1o k1o h => ?_)
      refine gf_X5_20 O ka0 (om_lt ka0 (by decide)) dX5_gives_138 ?_
      rw [y1o]
      refine om_alen O k1o (om_lt k1o (by decide)) rfl dX5_gives_141 ?_
      refine om_icmp_gt O (tgt := 174) dX5_gives_142 (by decide) (fun c3o => ?_) (fun c3o => ?_)
      · replace h := (if_pos c3o).symm.trans h
        exact g_X5_gives_b174 O hE L37 ka0 h
      · replace h := (if_neg c3o).symm.trans h
        refine om_aload_n O 0 dX5_gives_145 rfl rfl ?_
        revert h; refine om_refR (fun t2o y2o k2o h => ?_)
        refine gf_X5_20 O ka0 (om_lt ka0 (by decide)) dX5_gives_146 ?_
        rw [y2o]
        refine om_iload O 4 dX5_gives_149 rfl ?_
        refine om_iconst O (v := 1) dX5_gives_151 (by decide) ?_
        refine om_isub O dX5_gives_152 ?_
        refine om_aload_n O 0 dX5_gives_153 rfl rfl ?_
        revert h; refine om_refR (fun t3o y3o k3o h => ?_)
        refine gf_X5_20 O ka0 (om_lt ka0 (by decide)) dX5_gives_154 ?_
        rw [y3o]
        refine om_iload O 4 dX5_gives_157 rfl ?_
        refine om_iconst O (v := 1) dX5_gives_159 (by decide) ?_
        refine om_isub O dX5_gives_160 ?_
        revert h; refine om_iteR (fun i1o h => ?_)
        refine om_iald O k3o (om_lt k3o (by decide)) i1o dX5_gives_161 ?_
        refine om_if_ne O (tgt := 169) dX5_gives_162 (by decide) (fun c4o => ?_) (fun c4o => ?_)
        · replace h := (if_pos c4o).symm.trans h
          refine om_iconst O (v := 1) dX5_gives_165 (by decide) ?_
          refine om_goto O (tgt := 170) dX5_gives_166 (by decide) ?_
          refine om_drop (lv' := [(0, vR (some a0)), (1, vI v1), (2, vI v2), (3, vI v3), (4, vI v4), (5, vI v5)]) [0, 1, 2, 3, 4, 5] rfl ?_
          exact g_X5_gives_b170 O hE L37 ka0 k2o h
        · replace h := (if_neg c4o).symm.trans h
          refine om_iconst O (v := 0) dX5_gives_169 (by decide) ?_
          refine om_drop (lv' := [(0, vR (some a0)), (1, vI v1), (2, vI v2), (3, vI v3), (4, vI v4), (5, vI v5)]) [0, 1, 2, 3, 4, 5] rfl ?_
          exact g_X5_gives_b170 O hE L37 ka0 k2o h
  · replace h := (if_neg c1o).symm.trans h
    exact g_X5_gives_b174 O hE L37 ka0 h
def f_X5_gives_b115 (lp37 : Nat → Int32 → Int32 → Int32 → Int32 → Int32 → om_S → Option (Int32 × om_S)) (a0 : Nat) (v1 : Int32) (v2 : Int32) (v3 : Int32) (v4 : Int32) (v5 : Int32) (b0 : Nat) (s1 : Int32) (s2 : Int32) (σ : om_S) : Option (Int32 × om_S) := if om_in s1 (om_al b0) then om_let (om_w σ b0 s1.toNatClampNeg s2) fun (σ1o : om_S) => f_X5_gives_b224 lp37 a0 v1 v2 v3 (v4 + 1) v5 σ1o else none
set_option maxRecDepth 100000 in
theorem g_X5_gives_b115 {x : om_X}   (O : om_Ok x RX5 "gives" cX5_gives 7 (some FieldType.int) 1 0 0)   {r : Int32} {τ : om_S} (hE : om_End x (some (vI r)) τ om_rf om_N 0 0) {lp37 : Nat → Int32 → Int32 → Int32 → Int32 → Int32 → om_S → Option (Int32 × om_S)} (L37 : ∀ (a0 : Nat) (v1 : Int32) (v2 : Int32) (v3 : Int32) (v4 : Int32) (v5 : Int32) (σ : om_S) (ka0 : om_kc a0 = 5), lp37 a0 v1 v2 v3 v4 v5 σ = some (r, τ) → om_J x 37 [(0, vR (some a0)), (1, vI v1), (2, vI v2), (3, vI v3), (4, vI v4), (5, vI v5)] [] σ om_rf om_N 0 0) {a0 : Nat} {v1 : Int32} {v2 : Int32} {v3 : Int32} {v4 : Int32} {v5 : Int32} {b0 : Nat} {s1 : Int32} {s2 : Int32} {σ : om_S} (ka0 : om_kc a0 = 5) (kb0 : om_kc b0 = 20) (h : f_X5_gives_b115 lp37 a0 v1 v2 v3 v4 v5 b0 s1 s2 σ = some (r, τ)) : om_J x 115 [(0, vR (some a0)), (1, vI v1), (2, vI v2), (3, vI v3), (4, vI v4), (5, vI v5)] [vI s2, vI s1, vR (some b0)] σ om_rf om_N 0 0 := by
  unfold f_X5_gives_b115 at h
  revert h; refine om_iteR (fun i1o h => ?_)
  revert h; refine om_letR (fun σ1o e1o h => ?_)
  refine om_iast O kb0 (om_lt kb0 (by decide)) i1o dX5_gives_115 e1o ?_
  refine om_iinc O (v1 := (v4 + 1)) (lv' := [(0, vR (some a0)), (1, vI v1), (2, vI v2), (3, vI v3), (4, vI (v4 + 1)), (5, vI v5)]) 4 [1, 2, 3, 4, 0, 5] rfl dX5_gives_116 rfl rfl (by decide) rfl ?_
  refine om_goto O (tgt := 224) dX5_gives_119 (by decide) ?_
  exact g_X5_gives_b224 O hE L37 ka0 h
def f_X5_gives_b37  : Nat → Nat → Int32 → Int32 → Int32 → Int32 → Int32 → om_S → Option (Int32 × om_S)
  | 0, _, _, _, _, _, _, _ => none
  | F + 1, a0, v1, v2, v3, v4, v5, σ => om_ref (om_rf a0 1) 3 fun (t1o : Nat) => om_call (f_X3_size t1o σ) fun (r1o : Int32) (σ1o : om_S) => if r1o ≤ v5 then (om_ref (om_rf a0 2) 20 fun (t2o : Nat) => if (Int32.ofNat (om_al t2o)) ≤ 0 then (f_X5_gives_b249 a0 (0 : Int32) σ1o) else (om_ref (om_rf a0 2) 20 fun (t3o : Nat) => if om_in (0 : Int32) (om_al t3o) then f_X5_gives_b249 a0 (σ1o t3o (0 : Int32).toNatClampNeg) σ1o else none)) else (om_ref (om_rf a0 1) 3 fun (t4o : Nat) => om_call (f_X3_at t4o v5 σ1o) fun (r2o : Int32) (σ2o : om_S) => if r2o < (-3 : Int32) then (f_X5_gives_b122 (f_X5_gives_b37 F) a0 v1 v2 v3 v4 v5 r2o σ2o) else (om_ref (om_rf a0 2) 20 fun (t5o : Nat) => if (Int32.ofNat (om_al t5o)) ≤ v4 then (f_X5_gives_b122 (f_X5_gives_b37 F) a0 v1 v2 v3 v4 v5 r2o σ2o) else (om_ref (om_rf a0 2) 20 fun (t6o : Nat) => if r2o < 0 then (if r2o = (-1 : Int32) then (f_X5_gives_b115 (f_X5_gives_b37 F) a0 v1 v2 v3 v4 v5 t6o v4 v1 σ2o) else (if r2o = (-2 : Int32) then (f_X5_gives_b115 (f_X5_gives_b37 F) a0 v1 v2 v3 v4 v5 t6o v4 v2 σ2o) else (f_X5_gives_b115 (f_X5_gives_b37 F) a0 v1 v2 v3 v4 v5 t6o v4 v3 σ2o))) else (f_X5_gives_b115 (f_X5_gives_b37 F) a0 v1 v2 v3 v4 v5 t6o v4 r2o σ2o))))
set_option maxRecDepth 100000 in
theorem g_X5_gives_b37 {x : om_X}   (O : om_Ok x RX5 "gives" cX5_gives 7 (some FieldType.int) 1 0 0)   {r : Int32} {τ : om_S} (hE : om_End x (some (vI r)) τ om_rf om_N 0 0)   : ∀ (F : Nat) (a0 : Nat) (v1 : Int32) (v2 : Int32) (v3 : Int32) (v4 : Int32) (v5 : Int32) (σ : om_S) (ka0 : om_kc a0 = 5), f_X5_gives_b37 F a0 v1 v2 v3 v4 v5 σ = some (r, τ) → om_J x 37 [(0, vR (some a0)), (1, vI v1), (2, vI v2), (3, vI v3), (4, vI v4), (5, vI v5)] [] σ om_rf om_N 0 0 := by
  intro F
  induction F with
  | zero =>
    intro a0 v1 v2 v3 v4 v5 σ ka0 h
    cases h
  | succ F ih =>
    intro a0 v1 v2 v3 v4 v5 σ ka0 h
    unfold f_X5_gives_b37 at h
    refine om_iload O 5 dX5_gives_37 rfl ?_
    refine om_aload_n O 0 dX5_gives_39 rfl rfl ?_
    revert h; refine om_refR (fun t1o y1o k1o h => ?_)
    refine gf_X5_14 O ka0 (om_lt ka0 (by decide)) dX5_gives_40 ?_
    rw [y1o]
    revert h; refine om_callR (fun r1o σ1o g1o h => ?_)
    refine cl_X5_35 O (st := [vI v5]) (stk := [vR (some t1o), vI v5]) (st2 := [vI r1o, vI v5]) [] (fun l G => c_X3_size l G g1o) k1o (om_lt k1o (by decide)) (by decide) rfl rfl rfl_le rfl rfl_le rfl_le dX5_gives_43 ?_
    refine om_icmp_ge O (tgt := 230) dX5_gives_46 (by decide) (fun c1o => ?_) (fun c1o => ?_)
    · replace h := (if_pos c1o).symm.trans h
      refine om_aload_n O 0 dX5_gives_230 rfl rfl ?_
      refine om_aload_n O 0 dX5_gives_231 rfl rfl ?_
      revert h; refine om_refR (fun t2o y2o k2o h => ?_)
      refine gf_X5_20 O ka0 (om_lt ka0 (by decide)) dX5_gives_232 ?_
      rw [y2o]
      refine om_alen O k2o (om_lt k2o (by decide)) rfl dX5_gives_235 ?_
      refine om_if_le O (tgt := 248) dX5_gives_236 (by decide) (fun c2o => ?_) (fun c2o => ?_)
      · replace h := (if_pos c2o).symm.trans h
        refine om_iconst O (v := 0) dX5_gives_248 (by decide) ?_
        refine om_drop (lv' := []) [] rfl ?_
        exact g_X5_gives_b249 O hE ka0 h
      · replace h := (if_neg c2o).symm.trans h
        refine om_aload_n O 0 dX5_gives_239 rfl rfl ?_
        revert h; refine om_refR (fun t3o y3o k3o h => ?_)
        refine gf_X5_20 O ka0 (om_lt ka0 (by decide)) dX5_gives_240 ?_
        rw [y3o]
        refine om_iconst O (v := 0) dX5_gives_243 (by decide) ?_
        revert h; refine om_iteR (fun i1o h => ?_)
        refine om_iald O k3o (om_lt k3o (by decide)) i1o dX5_gives_244 ?_
        refine om_goto O (tgt := 249) dX5_gives_245 (by decide) ?_
        refine om_drop (lv' := []) [] rfl ?_
        exact g_X5_gives_b249 O hE ka0 h
    · replace h := (if_neg c1o).symm.trans h
      refine om_aload_n O 0 dX5_gives_49 rfl rfl ?_
      revert h; refine om_refR (fun t4o y4o k4o h => ?_)
      refine gf_X5_14 O ka0 (om_lt ka0 (by decide)) dX5_gives_50 ?_
      rw [y4o]
      refine om_iload O 5 dX5_gives_53 rfl ?_
      revert h; refine om_callR (fun r2o σ2o g2o h => ?_)
      refine cl_X5_43 O (st := []) (stk := [vI v5, vR (some t4o)]) (st2 := [vI r2o]) [vI v5] (fun l G => c_X3_at l G g2o) k4o (om_lt k4o (by decide)) (by decide) rfl rfl rfl_le rfl rfl_le rfl_le dX5_gives_55 ?_
      refine om_istore O (lv' := [(0, vR (some a0)), (1, vI v1), (2, vI v2), (3, vI v3), (4, vI v4), (5, vI v5), (6, vI r2o)]) [1, 2, 3, 4, 5, 6, 0] rfl dX5_gives_58 (by decide) rfl ?_
      refine om_iload O 6 dX5_gives_60 rfl ?_
      refine om_bipush O (v := -3) dX5_gives_62 (by decide) ?_
      refine om_icmp_lt O (tgt := 122) dX5_gives_64 (by decide) (fun c3o => ?_) (fun c3o => ?_)
      · replace h := (if_pos c3o).symm.trans h
        exact g_X5_gives_b122 O hE ih ka0 h
      · replace h := (if_neg c3o).symm.trans h
        refine om_iload O 4 dX5_gives_67 rfl ?_
        refine om_aload_n O 0 dX5_gives_69 rfl rfl ?_
        revert h; refine om_refR (fun t5o y5o k5o h => ?_)
        refine gf_X5_20 O ka0 (om_lt ka0 (by decide)) dX5_gives_70 ?_
        rw [y5o]
        refine om_alen O k5o (om_lt k5o (by decide)) rfl dX5_gives_73 ?_
        refine om_icmp_ge O (tgt := 122) dX5_gives_74 (by decide) (fun c4o => ?_) (fun c4o => ?_)
        · replace h := (if_pos c4o).symm.trans h
          exact g_X5_gives_b122 O hE ih ka0 h
        · replace h := (if_neg c4o).symm.trans h
          refine om_aload_n O 0 dX5_gives_77 rfl rfl ?_
          revert h; refine om_refR (fun t6o y6o k6o h => ?_)
          refine gf_X5_20 O ka0 (om_lt ka0 (by decide)) dX5_gives_78 ?_
          rw [y6o]
          refine om_iload O 4 dX5_gives_81 rfl ?_
          refine om_iload O 6 dX5_gives_83 rfl ?_
          refine om_if_lt O (tgt := 93) dX5_gives_85 (by decide) (fun c5o => ?_) (fun c5o => ?_)
          · replace h := (if_pos c5o).symm.trans h
            refine om_iload O 6 dX5_gives_93 rfl ?_
            refine om_iconst O (v := -1) dX5_gives_95 (by decide) ?_
            refine om_icmp_ne O (tgt := 103) dX5_gives_96 (by decide) (fun c6o => ?_) (fun c6o => ?_)
            · replace h := (if_pos c6o).symm.trans h
              refine om_iload_n O 1 dX5_gives_99 rfl rfl ?_
              refine om_goto O (tgt := 115) dX5_gives_100 (by decide) ?_
              refine om_drop (lv' := [(0, vR (some a0)), (1, vI v1), (2, vI v2), (3, vI v3), (4, vI v4), (5, vI v5)]) [0, 1, 2, 3, 4, 5] rfl ?_
              exact g_X5_gives_b115 O hE ih ka0 k6o h
            · replace h := (if_neg c6o).symm.trans h
              refine om_iload O 6 dX5_gives_103 rfl ?_
              refine om_bipush O (v := -2) dX5_gives_105 (by decide) ?_
              refine om_icmp_ne O (tgt := 114) dX5_gives_107 (by decide) (fun c7o => ?_) (fun c7o => ?_)
              · replace h := (if_pos c7o).symm.trans h
                refine om_iload_n O 2 dX5_gives_110 rfl rfl ?_
                refine om_goto O (tgt := 115) dX5_gives_111 (by decide) ?_
                refine om_drop (lv' := [(0, vR (some a0)), (1, vI v1), (2, vI v2), (3, vI v3), (4, vI v4), (5, vI v5)]) [0, 1, 2, 3, 4, 5] rfl ?_
                exact g_X5_gives_b115 O hE ih ka0 k6o h
              · replace h := (if_neg c7o).symm.trans h
                refine om_iload_n O 3 dX5_gives_114 rfl rfl ?_
                refine om_drop (lv' := [(0, vR (some a0)), (1, vI v1), (2, vI v2), (3, vI v3), (4, vI v4), (5, vI v5)]) [0, 1, 2, 3, 4, 5] rfl ?_
                exact g_X5_gives_b115 O hE ih ka0 k6o h
          · replace h := (if_neg c5o).symm.trans h
            refine om_iload O 6 dX5_gives_88 rfl ?_
            refine om_goto O (tgt := 115) dX5_gives_90 (by decide) ?_
            refine om_drop (lv' := [(0, vR (some a0)), (1, vI v1), (2, vI v2), (3, vI v3), (4, vI v4), (5, vI v5)]) [0, 1, 2, 3, 4, 5] rfl ?_
            exact g_X5_gives_b115 O hE ih ka0 k6o h
def f_X5_gives  (a0 : Nat) (v1 : Int32) (v2 : Int32) (v3 : Int32) (σ : om_S) : Option (Int32 × om_S) := if om_kc a0 = 5 then om_ref (om_rf a0 1) 3 fun (t1o : Nat) => om_call (f_X3_size t1o σ) fun (r1o : Int32) (σ1o : om_S) => if r1o = 0 then (if (σ1o a0 0) = 0 then (f_X5_gives_b27 a0 v1 σ1o) else (f_X5_gives_b27 a0 ((5 : Int32) + ((3 : Int32) * v1)) σ1o)) else (f_X5_gives_b37 om_F a0 v1 v2 v3 (0 : Int32) (0 : Int32) σ1o) else none
set_option maxRecDepth 100000 in
theorem c_X5_gives (l : Launch) (G : om_G) {a0 : Nat} {v1 : Int32} {v2 : Int32} {v3 : Int32} {σ : om_S} {r : Int32} {τ : om_S} (h : f_X5_gives a0 v1 v2 v3 σ = some (r, τ)) : om_D l G 1 yX5_gives cX5_gives 7 (some FieldType.int) 0 0 [vR (some a0), vI v1, vI v2, vI v3] σ om_rf om_N (some (vI r)) τ om_rf om_N := by
  refine om_Dof (lv := [(0, vR (some a0)), (1, vI v1), (2, vI v2), (3, vI v3)]) (by decide) rfl_le rfl (fun x O hE => ?_)
  change om_Ok x RX5 "gives" cX5_gives 7 (some FieldType.int) 1 0 0 at O
  unfold f_X5_gives at h
  revert h; refine om_iteR (fun ka0 h => ?_)
  refine om_aload_n O 0 dX5_gives_0 rfl rfl ?_
  revert h; refine om_refR (fun t1o y1o k1o h => ?_)
  refine gf_X5_14 O ka0 (om_lt ka0 (by decide)) dX5_gives_1 ?_
  rw [y1o]
  revert h; refine om_callR (fun r1o σ1o g1o h => ?_)
  refine cl_X5_35 O (st := []) (stk := [vR (some t1o)]) (st2 := [vI r1o]) [] (fun l G => c_X3_size l G g1o) k1o (om_lt k1o (by decide)) (by decide) rfl rfl rfl_le rfl rfl_le rfl_le dX5_gives_4 ?_
  refine om_if_ne O (tgt := 31) dX5_gives_7 (by decide) (fun c1o => ?_) (fun c1o => ?_)
  · replace h := (if_pos c1o).symm.trans h
    refine om_aload_n O 0 dX5_gives_10 rfl rfl ?_
    refine om_aload_n O 0 dX5_gives_11 rfl rfl ?_
    refine gf_X5_24 O ka0 (om_lt ka0 (by decide)) dX5_gives_12 ?_
    refine om_if_ne O (tgt := 22) dX5_gives_15 (by decide) (fun c2o => ?_) (fun c2o => ?_)
    · replace h := (if_pos c2o).symm.trans h
      refine om_iload_n O 1 dX5_gives_18 rfl rfl ?_
      refine om_goto O (tgt := 27) dX5_gives_19 (by decide) ?_
      refine om_drop (lv' := []) [] rfl ?_
      exact g_X5_gives_b27 O hE ka0 h
    · replace h := (if_neg c2o).symm.trans h
      refine om_iconst O (v := 5) dX5_gives_22 (by decide) ?_
      refine om_iconst O (v := 3) dX5_gives_23 (by decide) ?_
      refine om_iload_n O 1 dX5_gives_24 rfl rfl ?_
      refine om_imul O dX5_gives_25 ?_
      refine om_iadd O dX5_gives_26 ?_
      refine om_drop (lv' := []) [] rfl ?_
      exact g_X5_gives_b27 O hE ka0 h
  · replace h := (if_neg c1o).symm.trans h
    refine om_iconst O (v := 0) dX5_gives_31 (by decide) ?_
    refine om_istore O (lv' := [(0, vR (some a0)), (1, vI v1), (2, vI v2), (3, vI v3), (4, vI (0 : Int32))]) [1, 2, 3, 4, 0] rfl dX5_gives_32 (by decide) rfl ?_
    refine om_iconst O (v := 0) dX5_gives_34 (by decide) ?_
    refine om_istore O (lv' := [(0, vR (some a0)), (1, vI v1), (2, vI v2), (3, vI v3), (4, vI (0 : Int32)), (5, vI (0 : Int32))]) [1, 2, 3, 4, 5, 0] rfl dX5_gives_35 (by decide) rfl ?_
    exact g_X5_gives_b37 O hE om_F _ _ _ _ _ _ _ ka0 h
def f_X6_light  (a0 : Nat) (a1 : Nat) (σ : om_S) : Option (Int32 × om_S) := if om_kc a0 = 6 then if om_kc a1 = 1 then om_ref (om_rf a0 1) 5 fun (t1o : Nat) => om_call (f_X1_burns a1 (σ a0 5) σ) fun (r1o : Int32) (σ1o : om_S) => om_call (f_J6_bitCount_0f7a4 (σ1o a1 2) σ1o) fun (r2o : Int32) (σ2o : om_S) => om_call (f_X5_gives t1o r1o r2o ((σ2o a0 5) - (σ2o a0 5) / (7 : Int32) * (7 : Int32)) σ2o) fun (r3o : Int32) (σ3o : om_S) => some (r3o, σ3o) else none else none
set_option maxRecDepth 100000 in
theorem c_X6_light (l : Launch) (G : om_G) {a0 : Nat} {a1 : Nat} {σ : om_S} {r : Int32} {τ : om_S} (h : f_X6_light a0 a1 σ = some (r, τ)) : om_D l G 2 yX6_light cX6_light 2 (some FieldType.int) 0 0 [vR (some a0), vR (some a1)] σ om_rf om_N (some (vI r)) τ om_rf om_N := by
  refine om_Dof (lv := [(0, vR (some a0)), (1, vR (some a1))]) (by decide) rfl_le rfl (fun x O hE => ?_)
  change om_Ok x RX6 "light" cX6_light 2 (some FieldType.int) 2 0 0 at O
  unfold f_X6_light at h
  revert h; refine om_iteR (fun ka0 h => ?_)
  revert h; refine om_iteR (fun ka1 h => ?_)
  refine om_aload_n O 0 dX6_light_0 rfl rfl ?_
  revert h; refine om_refR (fun t1o y1o k1o h => ?_)
  refine gf_X6_22 O ka0 (om_lt ka0 (by decide)) dX6_light_1 ?_
  rw [y1o]
  refine om_aload_n O 1 dX6_light_4 rfl rfl ?_
  refine om_aload_n O 0 dX6_light_5 rfl rfl ?_
  refine gf_X6_36 O ka0 (om_lt ka0 (by decide)) dX6_light_6 ?_
  revert h; refine om_callR (fun r1o σ1o g1o h => ?_)
  refine cl_X6_76 O (st := [vR (some t1o)]) (stk := [vI (σ a0 5), vR (some a1), vR (some t1o)]) (st2 := [vI r1o, vR (some t1o)]) [vI (σ a0 5)] (fun l G => c_X1_burns l G g1o) ka1 (om_lt ka1 (by decide)) (by decide) rfl rfl rfl_le rfl rfl_le rfl_le dX6_light_9 ?_
  refine om_aload_n O 1 dX6_light_12 rfl rfl ?_
  refine gf_X6_67 O ka1 (om_lt ka1 (by decide)) dX6_light_13 ?_
  revert h; refine om_callR (fun r2o σ2o g2o h => ?_)
  refine cl_X6_80 O (st := [vI r1o, vR (some t1o)]) (stk := [vI (σ1o a1 2), vI r1o, vR (some t1o)]) (st2 := [vI r2o, vI r1o, vR (some t1o)]) [vI (σ1o a1 2)] (fun l G => c_J6_bitCount_0f7a4 l G g2o) (by decide) rfl rfl rfl_le rfl rfl_le rfl_le dX6_light_16 ?_
  refine om_aload_n O 0 dX6_light_19 rfl rfl ?_
  refine gf_X6_36 O ka0 (om_lt ka0 (by decide)) dX6_light_20 ?_
  refine om_bipush O (v := 7) dX6_light_23 (by decide) ?_
  refine om_irem O dX6_light_25 (by decide) ?_
  revert h; refine om_callR (fun r3o σ3o g3o h => ?_)
  refine cl_X6_85 O (st := []) (stk := [vI ((σ2o a0 5) - (σ2o a0 5) / (7 : Int32) * (7 : Int32)), vI r2o, vI r1o, vR (some t1o)]) (st2 := [vI r3o]) [vI r1o, vI r2o, vI ((σ2o a0 5) - (σ2o a0 5) / (7 : Int32) * (7 : Int32))] (fun l G => c_X5_gives l G g3o) k1o (om_lt k1o (by decide)) (by decide) rfl rfl rfl_le rfl rfl_le rfl_le dX6_light_26 ?_
  exact om_iret (st := []) O (om_eI hE h) rfl dX6_light_29
def f_X1_smoke_b24  (a0 : Nat) (v1 : Int32) (v2 : Int32) (v3 : Int32) (s0 : Int32) (σ : om_S) : Option (Int32 × om_S) := if (σ a0 0) = 1 then (some (s0, σ)) else (if (σ a0 0) = 2 then (some ((0 : Int32), σ)) else (if (σ a0 0) = 3 then (some (((v3 + (σ a0 1)) + (2 : Int32)), σ)) else (if (σ a0 0) = 4 then (some ((s0 + v2), σ)) else (if (σ a0 0) = 5 then (some (v1, σ)) else (if (σ a0 0) = 6 then (some ((0 : Int32), σ)) else (some (v3, σ)))))))
set_option maxRecDepth 100000 in
theorem g_X1_smoke_b24 {x : om_X}   (O : om_Ok x RX1 "smoke" cX1_smoke 5 (some FieldType.int) 1 0 0)   {r : Int32} {τ : om_S} (hE : om_End x (some (vI r)) τ om_rf om_N 0 0)   {a0 : Nat} {v1 : Int32} {v2 : Int32} {v3 : Int32} {s0 : Int32} {σ : om_S} (ka0 : om_kc a0 = 1) (h : f_X1_smoke_b24 a0 v1 v2 v3 s0 σ = some (r, τ)) : om_J x 24 [(0, vR (some a0)), (1, vI v1), (2, vI v2), (3, vI v3)] [vI s0] σ om_rf om_N 0 0 := by
  unfold f_X1_smoke_b24 at h
  refine om_istore O (lv' := [(0, vR (some a0)), (1, vI v1), (2, vI v2), (3, vI v3), (4, vI s0)]) [1, 2, 3, 4, 0] rfl dX1_smoke_24 (by decide) rfl ?_
  refine om_aload_n O 0 dX1_smoke_26 rfl rfl ?_
  refine gf_X1_9 O ka0 (om_lt ka0 (by decide)) dX1_smoke_27 ?_
  by_cases c1o : (σ a0 0) = 1
  · replace h := (if_pos c1o).symm.trans h
    refine om_tblIn O (b := 1) (off := 38) (tgt := 68) dX1_smoke_30 c1o (by decide) (by decide) (by decide +kernel) (by decide) ?_
    refine om_iload O 4 dX1_smoke_68 rfl ?_
    exact om_iret (st := []) O (om_eI hE h) rfl dX1_smoke_70
  · replace h := (if_neg c1o).symm.trans h
    by_cases c2o : (σ a0 0) = 2
    · replace h := (if_pos c2o).symm.trans h
      refine om_tblIn O (b := 2) (off := 41) (tgt := 71) dX1_smoke_30 c2o (by decide) (by decide) (by decide +kernel) (by decide) ?_
      refine om_iconst O (v := 0) dX1_smoke_71 (by decide) ?_
      exact om_iret (st := []) O (om_eI hE h) rfl dX1_smoke_72
    · replace h := (if_neg c2o).symm.trans h
      by_cases c3o : (σ a0 0) = 3
      · replace h := (if_pos c3o).symm.trans h
        refine om_tblIn O (b := 3) (off := 43) (tgt := 73) dX1_smoke_30 c3o (by decide) (by decide) (by decide +kernel) (by decide) ?_
        refine om_iload_n O 3 dX1_smoke_73 rfl rfl ?_
        refine om_aload_n O 0 dX1_smoke_74 rfl rfl ?_
        refine gf_X1_15 O ka0 (om_lt ka0 (by decide)) dX1_smoke_75 ?_
        refine om_iadd O dX1_smoke_78 ?_
        refine om_iconst O (v := 2) dX1_smoke_79 (by decide) ?_
        refine om_iadd O dX1_smoke_80 ?_
        exact om_iret (st := []) O (om_eI hE h) rfl dX1_smoke_81
      · replace h := (if_neg c3o).symm.trans h
        by_cases c4o : (σ a0 0) = 4
        · replace h := (if_pos c4o).symm.trans h
          refine om_tblIn O (b := 4) (off := 52) (tgt := 82) dX1_smoke_30 c4o (by decide) (by decide) (by decide +kernel) (by decide) ?_
          refine om_iload O 4 dX1_smoke_82 rfl ?_
          refine om_iload_n O 2 dX1_smoke_84 rfl rfl ?_
          refine om_iadd O dX1_smoke_85 ?_
          exact om_iret (st := []) O (om_eI hE h) rfl dX1_smoke_86
        · replace h := (if_neg c4o).symm.trans h
          by_cases c5o : (σ a0 0) = 5
          · replace h := (if_pos c5o).symm.trans h
            refine om_tblIn O (b := 5) (off := 57) (tgt := 87) dX1_smoke_30 c5o (by decide) (by decide) (by decide +kernel) (by decide) ?_
            refine om_iload_n O 1 dX1_smoke_87 rfl rfl ?_
            exact om_iret (st := []) O (om_eI hE h) rfl dX1_smoke_88
          · replace h := (if_neg c5o).symm.trans h
            by_cases c6o : (σ a0 0) = 6
            · replace h := (if_pos c6o).symm.trans h
              refine om_tblIn O (b := 6) (off := 59) (tgt := 89) dX1_smoke_30 c6o (by decide) (by decide) (by decide +kernel) (by decide) ?_
              refine om_iconst O (v := 0) dX1_smoke_89 (by decide) ?_
              exact om_iret (st := []) O (om_eI hE h) rfl dX1_smoke_90
            · replace h := (if_neg c6o).symm.trans h
              refine om_tblDef O (tgt := 91) dX1_smoke_30 (fun v hv h1 h2 => by
    have h3 : v = 1 ∨ v = 2 ∨ v = 3 ∨ v = 4 ∨ v = 5 ∨ v = 6 := by omega
    rcases h3 with rfl | rfl | rfl | rfl | rfl | rfl <;> first | rfl | exact absurd hv.symm (lv_neT (k := 1) c1o (by decide)) | exact absurd hv.symm (lv_neT (k := 2) c2o (by decide)) | exact absurd hv.symm (lv_neT (k := 3) c3o (by decide)) | exact absurd hv.symm (lv_neT (k := 4) c4o (by decide)) | exact absurd hv.symm (lv_neT (k := 5) c5o (by decide)) | exact absurd hv.symm (lv_neT (k := 6) c6o (by decide))) (by decide) ?_
              refine om_iload_n O 3 dX1_smoke_91 rfl rfl ?_
              exact om_iret (st := []) O (om_eI hE h) rfl dX1_smoke_92
def f_X1_smoke  (a0 : Nat) (v1 : Int32) (σ : om_S) : Option (Int32 × om_S) := if om_kc a0 = 1 then om_call (f_J6_bitCount_0f7a4 (σ a0 2) σ) fun (r1o : Int32) (σ1o : om_S) => if r1o < (3 : Int32) then (f_X1_smoke_b24 a0 v1 r1o (v1 / (3 : Int32)) (v1 / (3 : Int32)) σ1o) else (f_X1_smoke_b24 a0 v1 r1o (v1 / (3 : Int32)) ((v1 / (3 : Int32)) + (3 : Int32)) σ1o) else none
set_option maxRecDepth 100000 in
theorem c_X1_smoke (l : Launch) (G : om_G) {a0 : Nat} {v1 : Int32} {σ : om_S} {r : Int32} {τ : om_S} (h : f_X1_smoke a0 v1 σ = some (r, τ)) : om_D l G 1 yX1_smoke cX1_smoke 5 (some FieldType.int) 0 0 [vR (some a0), vI v1] σ om_rf om_N (some (vI r)) τ om_rf om_N := by
  refine om_Dof (lv := [(0, vR (some a0)), (1, vI v1)]) (by decide) rfl_le rfl (fun x O hE => ?_)
  change om_Ok x RX1 "smoke" cX1_smoke 5 (some FieldType.int) 1 0 0 at O
  unfold f_X1_smoke at h
  revert h; refine om_iteR (fun ka0 h => ?_)
  refine om_aload_n O 0 dX1_smoke_0 rfl rfl ?_
  refine gf_X1_18 O ka0 (om_lt ka0 (by decide)) dX1_smoke_1 ?_
  revert h; refine om_callR (fun r1o σ1o g1o h => ?_)
  refine cl_X1_31 O (st := []) (stk := [vI (σ a0 2)]) (st2 := [vI r1o]) [vI (σ a0 2)] (fun l G => c_J6_bitCount_0f7a4 l G g1o) (by decide) rfl rfl rfl_le rfl rfl_le rfl_le dX1_smoke_4 ?_
  refine om_istore_n O (lv' := [(0, vR (some a0)), (1, vI v1), (2, vI r1o)]) [1, 2, 0] rfl dX1_smoke_7 rfl (by decide) rfl ?_
  refine om_iload_n O 1 dX1_smoke_8 rfl rfl ?_
  refine om_iconst O (v := 3) dX1_smoke_9 (by decide) ?_
  refine om_idiv O dX1_smoke_10 (by decide) ?_
  refine om_istore_n O (lv' := [(0, vR (some a0)), (1, vI v1), (2, vI r1o), (3, vI (v1 / (3 : Int32)))]) [1, 2, 3, 0] rfl dX1_smoke_11 rfl (by decide) rfl ?_
  refine om_iload_n O 2 dX1_smoke_12 rfl rfl ?_
  refine om_iconst O (v := 3) dX1_smoke_13 (by decide) ?_
  refine om_icmp_lt O (tgt := 23) dX1_smoke_14 (by decide) (fun c1o => ?_) (fun c1o => ?_)
  · replace h := (if_pos c1o).symm.trans h
    refine om_iload_n O 3 dX1_smoke_23 rfl rfl ?_
    exact g_X1_smoke_b24 O hE ka0 h
  · replace h := (if_neg c1o).symm.trans h
    refine om_iload_n O 3 dX1_smoke_17 rfl rfl ?_
    refine om_iconst O (v := 3) dX1_smoke_18 (by decide) ?_
    refine om_iadd O dX1_smoke_19 ?_
    refine om_goto O (tgt := 24) dX1_smoke_20 (by decide) ?_
    exact g_X1_smoke_b24 O hE ka0 h
def f_X8_memoryIs  (a0 : Nat) (v1 : Int32) (v2 : Int32) (σ : om_S) : Option (Int32 × om_S) := if om_kc a0 = 8 then om_ref (om_rf a0 0) 6 fun (t1o : Nat) => om_call (f_X6_at t1o v1 σ) fun (r1o : Option Nat) (σ1o : om_S) => om_nul r1o 1 (om_call (f_X8_refuse a0 (1 : Int32) σ1o) fun (r2o : Int32) (σ2o : om_S) => some (r2o, σ2o)) fun (t2o : Nat) => if v2 = 0 then (some ((σ1o t2o 0), σ1o)) else (if v2 = 1 then (some ((σ1o t2o 1), σ1o)) else (if v2 = 2 then (some ((σ1o t2o 2), σ1o)) else (if v2 = 3 then (some ((σ1o t2o 3), σ1o)) else (if v2 = 4 then (some ((σ1o t2o 4), σ1o)) else (if v2 = 5 then (om_ref (om_rf a0 0) 6 fun (t3o : Nat) => om_call (f_X6_light t3o t2o σ1o) fun (r3o : Int32) (σ3o : om_S) => some (r3o, σ3o)) else (if v2 = 6 then (om_ref (om_rf a0 0) 6 fun (t4o : Nat) => om_call (f_X1_smoke t2o (σ1o t4o 4) σ1o) fun (r4o : Int32) (σ4o : om_S) => some (r4o, σ4o)) else (om_call (f_X8_refuse a0 (1 : Int32) σ1o) fun (r5o : Int32) (σ5o : om_S) => some (r5o, σ5o)))))))) else none
set_option maxRecDepth 100000 in
theorem c_X8_memoryIs (l : Launch) (G : om_G) {a0 : Nat} {v1 : Int32} {v2 : Int32} {σ : om_S} {r : Int32} {τ : om_S} (h : f_X8_memoryIs a0 v1 v2 σ = some (r, τ)) : om_D l G 3 yX8_memoryIs cX8_memoryIs 4 (some FieldType.int) 0 0 [vR (some a0), vI v1, vI v2] σ om_rf om_N (some (vI r)) τ om_rf om_N := by
  refine om_Dof (lv := [(0, vR (some a0)), (1, vI v1), (2, vI v2)]) (by decide) rfl_le rfl (fun x O hE => ?_)
  change om_Ok x RX8 "memoryIs" cX8_memoryIs 4 (some FieldType.int) 3 0 0 at O
  unfold f_X8_memoryIs at h
  revert h; refine om_iteR (fun ka0 h => ?_)
  refine om_aload_n O 0 dX8_memoryIs_0 rfl rfl ?_
  revert h; refine om_refR (fun t1o y1o k1o h => ?_)
  refine gf_X8_10 O ka0 (om_lt ka0 (by decide)) dX8_memoryIs_1 ?_
  rw [y1o]
  refine om_iload_n O 1 dX8_memoryIs_4 rfl rfl ?_
  revert h; refine om_callR (fun r1o σ1o g1o h => ?_)
  refine cl_X8_96 O (st := []) (stk := [vI v1, vR (some t1o)]) (st2 := [vR r1o]) [vI v1] (fun l G => c_X6_at l G g1o) k1o (om_lt k1o (by decide)) (by decide) rfl rfl rfl_le rfl rfl_le rfl_le dX8_memoryIs_5 ?_
  refine om_astore_n O (lv' := [(0, vR (some a0)), (2, vI v2), (3, vR r1o)]) [1, 3, 0] dX8_memoryIs_8 rfl (by decide) rfl ?_
  refine om_aload_n O 2 dX8_memoryIs_9 rfl rfl ?_
  revert h; refine om_nulR (fun yy h => ?_) (fun t2o yy k2o h => ?_)
  · subst yy
    refine om_ifnonnullN O dX8_memoryIs_10 ?_
    refine om_aload_n O 0 dX8_memoryIs_13 rfl rfl ?_
    refine om_iconst O (v := 1) dX8_memoryIs_14 (by decide) ?_
    revert h; refine om_callR (fun r2o σ2o g2o h => ?_)
    refine cl_X8_84 O (st := []) (stk := [vI (1 : Int32), vR (some a0)]) (st2 := [vI r2o]) [vI (1 : Int32)] (fun l G => c_X8_refuse l G g2o) ka0 (om_lt ka0 (by decide)) (by decide) rfl rfl rfl_le rfl rfl_le rfl_le dX8_memoryIs_15 ?_
    exact om_iret (st := []) O (om_eI hE h) rfl dX8_memoryIs_18
  · subst yy
    refine om_ifnonnullS O (tgt := 19) dX8_memoryIs_10 (by decide) ?_
    refine om_iload_n O 1 dX8_memoryIs_19 rfl rfl ?_
    by_cases c1o : v2 = 0
    · replace h := (if_pos c1o).symm.trans h
      refine om_tblIn O (b := 0) (off := 44) (tgt := 64) dX8_memoryIs_20 c1o (by decide) (by decide) (by decide +kernel) (by decide) ?_
      refine om_aload_n O 2 dX8_memoryIs_64 rfl rfl ?_
      refine gf_X8_100 O k2o (om_lt k2o (by decide)) dX8_memoryIs_65 ?_
      exact om_iret (st := []) O (om_eI hE h) rfl dX8_memoryIs_68
    · replace h := (if_neg c1o).symm.trans h
      by_cases c2o : v2 = 1
      · replace h := (if_pos c2o).symm.trans h
        refine om_tblIn O (b := 1) (off := 49) (tgt := 69) dX8_memoryIs_20 c2o (by decide) (by decide) (by decide +kernel) (by decide) ?_
        refine om_aload_n O 2 dX8_memoryIs_69 rfl rfl ?_
        refine gf_X8_105 O k2o (om_lt k2o (by decide)) dX8_memoryIs_70 ?_
        exact om_iret (st := []) O (om_eI hE h) rfl dX8_memoryIs_73
      · replace h := (if_neg c2o).symm.trans h
        by_cases c3o : v2 = 2
        · replace h := (if_pos c3o).symm.trans h
          refine om_tblIn O (b := 2) (off := 54) (tgt := 74) dX8_memoryIs_20 c3o (by decide) (by decide) (by decide +kernel) (by decide) ?_
          refine om_aload_n O 2 dX8_memoryIs_74 rfl rfl ?_
          refine gf_X8_108 O k2o (om_lt k2o (by decide)) dX8_memoryIs_75 ?_
          exact om_iret (st := []) O (om_eI hE h) rfl dX8_memoryIs_78
        · replace h := (if_neg c3o).symm.trans h
          by_cases c4o : v2 = 3
          · replace h := (if_pos c4o).symm.trans h
            refine om_tblIn O (b := 3) (off := 59) (tgt := 79) dX8_memoryIs_20 c4o (by decide) (by decide) (by decide +kernel) (by decide) ?_
            refine om_aload_n O 2 dX8_memoryIs_79 rfl rfl ?_
            refine gf_X8_111 O k2o (om_lt k2o (by decide)) dX8_memoryIs_80 ?_
            exact om_iret (st := []) O (om_eI hE h) rfl dX8_memoryIs_83
          · replace h := (if_neg c4o).symm.trans h
            by_cases c5o : v2 = 4
            · replace h := (if_pos c5o).symm.trans h
              refine om_tblIn O (b := 4) (off := 64) (tgt := 84) dX8_memoryIs_20 c5o (by decide) (by decide) (by decide +kernel) (by decide) ?_
              refine om_aload_n O 2 dX8_memoryIs_84 rfl rfl ?_
              refine gf_X8_114 O k2o (om_lt k2o (by decide)) dX8_memoryIs_85 ?_
              exact om_iret (st := []) O (om_eI hE h) rfl dX8_memoryIs_88
            · replace h := (if_neg c5o).symm.trans h
              by_cases c6o : v2 = 5
              · replace h := (if_pos c6o).symm.trans h
                refine om_tblIn O (b := 5) (off := 69) (tgt := 89) dX8_memoryIs_20 c6o (by decide) (by decide) (by decide +kernel) (by decide) ?_
                refine om_aload_n O 0 dX8_memoryIs_89 rfl rfl ?_
                revert h; refine om_refR (fun t3o y2o k3o h => ?_)
                refine gf_X8_10 O ka0 (om_lt ka0 (by decide)) dX8_memoryIs_90 ?_
                rw [y2o]
                refine om_aload_n O 2 dX8_memoryIs_93 rfl rfl ?_
                revert h; refine om_callR (fun r3o σ3o g3o h => ?_)
                refine cl_X8_117 O (st := []) (stk := [vR (some t2o), vR (some t3o)]) (st2 := [vI r3o]) [vR (some t2o)] (fun l G => c_X6_light l G g3o) k3o (om_lt k3o (by decide)) (by decide) rfl rfl rfl_le rfl rfl_le rfl_le dX8_memoryIs_94 ?_
                exact om_iret (st := []) O (om_eI hE h) rfl dX8_memoryIs_97
              · replace h := (if_neg c6o).symm.trans h
                by_cases c7o : v2 = 6
                · replace h := (if_pos c7o).symm.trans h
                  refine om_tblIn O (b := 6) (off := 78) (tgt := 98) dX8_memoryIs_20 c7o (by decide) (by decide) (by decide +kernel) (by decide) ?_
                  refine om_aload_n O 2 dX8_memoryIs_98 rfl rfl ?_
                  refine om_aload_n O 0 dX8_memoryIs_99 rfl rfl ?_
                  revert h; refine om_refR (fun t4o y3o k4o h => ?_)
                  refine gf_X8_10 O ka0 (om_lt ka0 (by decide)) dX8_memoryIs_100 ?_
                  rw [y3o]
                  refine gf_X8_121 O k4o (om_lt k4o (by decide)) dX8_memoryIs_103 ?_
                  revert h; refine om_callR (fun r4o σ4o g4o h => ?_)
                  refine cl_X8_124 O (st := []) (stk := [vI (σ1o t4o 4), vR (some t2o)]) (st2 := [vI r4o]) [vI (σ1o t4o 4)] (fun l G => c_X1_smoke l G g4o) k2o (om_lt k2o (by decide)) (by decide) rfl rfl rfl_le rfl rfl_le rfl_le dX8_memoryIs_106 ?_
                  exact om_iret (st := []) O (om_eI hE h) rfl dX8_memoryIs_109
                · replace h := (if_neg c7o).symm.trans h
                  refine om_tblDef O (tgt := 110) dX8_memoryIs_20 (fun v hv h1 h2 => by
    have h3 : v = 0 ∨ v = 1 ∨ v = 2 ∨ v = 3 ∨ v = 4 ∨ v = 5 ∨ v = 6 := by omega
    rcases h3 with rfl | rfl | rfl | rfl | rfl | rfl | rfl <;> first | rfl | exact absurd hv.symm (lv_neT (k := 0) c1o (by decide)) | exact absurd hv.symm (lv_neT (k := 1) c2o (by decide)) | exact absurd hv.symm (lv_neT (k := 2) c3o (by decide)) | exact absurd hv.symm (lv_neT (k := 3) c4o (by decide)) | exact absurd hv.symm (lv_neT (k := 4) c5o (by decide)) | exact absurd hv.symm (lv_neT (k := 5) c6o (by decide)) | exact absurd hv.symm (lv_neT (k := 6) c7o (by decide))) (by decide) ?_
                  refine om_aload_n O 0 dX8_memoryIs_110 rfl rfl ?_
                  refine om_iconst O (v := 1) dX8_memoryIs_111 (by decide) ?_
                  revert h; refine om_callR (fun r5o σ5o g5o h => ?_)
                  refine cl_X8_84 O (st := []) (stk := [vI (1 : Int32), vR (some a0)]) (st2 := [vI r5o]) [vI (1 : Int32)] (fun l G => c_X8_refuse l G g5o) ka0 (om_lt ka0 (by decide)) (by decide) rfl rfl rfl_le rfl rfl_le rfl_le dX8_memoryIs_112 ?_
                  exact om_iret (st := []) O (om_eI hE h) rfl dX8_memoryIs_115
def f_X8_become_b20  (a0 : Nat) (σ : om_S) : Option (Int32 × om_S) := om_call (f_X8_refuse a0 (1 : Int32) σ) fun (r1o : Int32) (σ1o : om_S) => some (r1o, σ1o)
set_option maxRecDepth 100000 in
theorem g_X8_become_b20 {x : om_X}   (O : om_Ok x RX8 "become" cX8_become 5 (some FieldType.int) 1 0 0)   {r : Int32} {τ : om_S} (hE : om_End x (some (vI r)) τ om_rf om_N 0 0)   {a0 : Nat} {σ : om_S} (ka0 : om_kc a0 = 8) (h : f_X8_become_b20 a0 σ = some (r, τ)) : om_J x 20 [(0, vR (some a0))] [] σ om_rf om_N 0 0 := by
  unfold f_X8_become_b20 at h
  refine om_aload_n O 0 dX8_become_20 rfl rfl ?_
  refine om_iconst O (v := 1) dX8_become_21 (by decide) ?_
  revert h; refine om_callR (fun r1o σ1o g1o h => ?_)
  refine cl_X8_84 O (st := []) (stk := [vI (1 : Int32), vR (some a0)]) (st2 := [vI r1o]) [vI (1 : Int32)] (fun l G => c_X8_refuse l G g1o) ka0 (om_lt ka0 (by decide)) (by decide) rfl rfl rfl_le rfl rfl_le rfl_le dX8_become_22 ?_
  exact om_iret (st := []) O (om_eI hE h) rfl dX8_become_25
def f_X8_become  (a0 : Nat) (v1 : Int32) (v2 : Int32) (σ : om_S) : Option (Int32 × om_S) := if om_kc a0 = 8 then om_ref (om_rf a0 0) 6 fun (t1o : Nat) => om_call (f_X6_at t1o v1 σ) fun (r1o : Option Nat) (σ1o : om_S) => om_nul r1o 1 (f_X8_become_b20 a0 σ1o) fun (t2o : Nat) => om_call (f_X8_isKindAndNumber v2 σ1o) fun (r2o : Int32) (σ2o : om_S) => if r2o = 0 then (f_X8_become_b20 a0 σ2o) else (om_let (om_w σ2o t2o 0 (v2 / (10 : Int32))) fun (σ3o : om_S) => om_let (om_w σ3o t2o 1 (v2 - v2 / (10 : Int32) * (10 : Int32))) fun (σ4o : om_S) => some ((σ2o t2o 0), σ4o)) else none
set_option maxRecDepth 100000 in
theorem c_X8_become (l : Launch) (G : om_G) {a0 : Nat} {v1 : Int32} {v2 : Int32} {σ : om_S} {r : Int32} {τ : om_S} (h : f_X8_become a0 v1 v2 σ = some (r, τ)) : om_D l G 1 yX8_become cX8_become 5 (some FieldType.int) 0 0 [vR (some a0), vI v1, vI v2] σ om_rf om_N (some (vI r)) τ om_rf om_N := by
  refine om_Dof (lv := [(0, vR (some a0)), (1, vI v1), (2, vI v2)]) (by decide) rfl_le rfl (fun x O hE => ?_)
  change om_Ok x RX8 "become" cX8_become 5 (some FieldType.int) 1 0 0 at O
  unfold f_X8_become at h
  revert h; refine om_iteR (fun ka0 h => ?_)
  refine om_aload_n O 0 dX8_become_0 rfl rfl ?_
  revert h; refine om_refR (fun t1o y1o k1o h => ?_)
  refine gf_X8_10 O ka0 (om_lt ka0 (by decide)) dX8_become_1 ?_
  rw [y1o]
  refine om_iload_n O 1 dX8_become_4 rfl rfl ?_
  revert h; refine om_callR (fun r1o σ1o g1o h => ?_)
  refine cl_X8_96 O (st := []) (stk := [vI v1, vR (some t1o)]) (st2 := [vR r1o]) [vI v1] (fun l G => c_X6_at l G g1o) k1o (om_lt k1o (by decide)) (by decide) rfl rfl rfl_le rfl rfl_le rfl_le dX8_become_5 ?_
  refine om_astore_n O (lv' := [(0, vR (some a0)), (2, vI v2), (3, vR r1o)]) [1, 3, 0] dX8_become_8 rfl (by decide) rfl ?_
  refine om_aload_n O 2 dX8_become_9 rfl rfl ?_
  revert h; refine om_nulR (fun yy h => ?_) (fun t2o yy k2o h => ?_)
  · subst yy
    refine om_ifnullN O (tgt := 20) dX8_become_10 (by decide) ?_
    refine om_drop (lv' := [(0, vR (some a0))]) [0] rfl ?_
    exact g_X8_become_b20 O hE ka0 h
  · subst yy
    refine om_ifnullS O dX8_become_10 ?_
    refine om_iload_n O 1 dX8_become_13 rfl rfl ?_
    revert h; refine om_callR (fun r2o σ2o g2o h => ?_)
    refine cl_X8_76 O (st := []) (stk := [vI v2]) (st2 := [vI r2o]) [vI v2] (fun l G => c_X8_isKindAndNumber l G g2o) (by decide) rfl rfl rfl_le rfl rfl_le rfl_le dX8_become_14 ?_
    refine om_if_ne O (tgt := 26) dX8_become_17 (by decide) (fun c1o => ?_) (fun c1o => ?_)
    · replace h := (if_pos c1o).symm.trans h
      refine om_drop (lv' := [(0, vR (some a0))]) [0] rfl ?_
      exact g_X8_become_b20 O hE ka0 h
    · replace h := (if_neg c1o).symm.trans h
      refine om_aload_n O 2 dX8_become_26 rfl rfl ?_
      refine gf_X8_100 O k2o (om_lt k2o (by decide)) dX8_become_27 ?_
      refine om_istore O (lv' := [(2, vI v2), (3, vR (some t2o)), (4, vI (σ2o t2o 0))]) [2, 3, 0] rfl dX8_become_30 (by decide) rfl ?_
      refine om_aload_n O 1 dX8_become_32 rfl rfl ?_
      refine om_iload_n O 0 dX8_become_33 rfl rfl ?_
      refine om_bipush O (v := 10) dX8_become_34 (by decide) ?_
      refine om_idiv O dX8_become_36 (by decide) ?_
      revert h; refine om_letR (fun σ3o e1o h => ?_)
      refine pf_X8_100 O (Or.inl rfl) k2o (om_lt k2o (by decide)) dX8_become_37 e1o ?_
      refine om_aload_n O 1 dX8_become_40 rfl rfl ?_
      refine om_iload_n O 0 dX8_become_41 rfl rfl ?_
      refine om_bipush O (v := 10) dX8_become_42 (by decide) ?_
      refine om_irem O dX8_become_44 (by decide) ?_
      revert h; refine om_letR (fun σ4o e2o h => ?_)
      refine pf_X8_105 O (Or.inl rfl) k2o (om_lt k2o (by decide)) dX8_become_45 e2o ?_
      refine om_iload O 2 dX8_become_48 rfl ?_
      exact om_iret (st := []) O (om_eI hE h) rfl dX8_become_50
def f_X1_isOf_b43 (lp7 : Int32 → Int32 → Int32 → om_S → Option (Int32 × om_S)) (v1 : Int32) (v3 : Int32) (s0 : Int32) (σ : om_S) : Option (Int32 × om_S) := lp7 v1 s0 (v3 + 1) σ
set_option maxRecDepth 100000 in
theorem g_X1_isOf_b43 {x : om_X}   (O : om_Ok x RX1 "isOf" cX1_isOf 4 (some FieldType.boolean) 0 0 0)   {r : Int32} {τ : om_S} (hE : om_End x (some (vI r)) τ om_rf om_N 0 0) {lp7 : Int32 → Int32 → Int32 → om_S → Option (Int32 × om_S)} (L7 : ∀ (v1 : Int32) (v2 : Int32) (v3 : Int32) (σ : om_S) , lp7 v1 v2 v3 σ = some (r, τ) → om_J x 7 [(1, vI v1), (2, vI v2), (3, vI v3)] [] σ om_rf om_N 0 0) {v1 : Int32} {v3 : Int32} {s0 : Int32} {σ : om_S}  (h : f_X1_isOf_b43 lp7 v1 v3 s0 σ = some (r, τ)) : om_J x 43 [(1, vI v1), (3, vI v3)] [vI s0] σ om_rf om_N 0 0 := by
  unfold f_X1_isOf_b43 at h
  refine om_istore_n O (lv' := [(1, vI v1), (2, vI s0), (3, vI v3)]) [1, 0, 2] rfl dX1_isOf_43 rfl (by decide) rfl ?_
  refine om_iinc O (v1 := (v3 + 1)) (lv' := [(1, vI v1), (2, vI s0), (3, vI (v3 + 1))]) 2 [1, 2, 0] rfl dX1_isOf_44 rfl rfl (by decide) rfl ?_
  refine om_goto O (tgt := 7) dX1_isOf_47 (by decide) ?_
  exact L7 _ _ _ _ h
def f_X1_isOf_b42 (lp7 : Int32 → Int32 → Int32 → om_S → Option (Int32 × om_S)) (v1 : Int32) (v3 : Int32) (σ : om_S) : Option (Int32 × om_S) := f_X1_isOf_b43 lp7 v1 v3 (-1 : Int32) σ
set_option maxRecDepth 100000 in
theorem g_X1_isOf_b42 {x : om_X}   (O : om_Ok x RX1 "isOf" cX1_isOf 4 (some FieldType.boolean) 0 0 0)   {r : Int32} {τ : om_S} (hE : om_End x (some (vI r)) τ om_rf om_N 0 0) {lp7 : Int32 → Int32 → Int32 → om_S → Option (Int32 × om_S)} (L7 : ∀ (v1 : Int32) (v2 : Int32) (v3 : Int32) (σ : om_S) , lp7 v1 v2 v3 σ = some (r, τ) → om_J x 7 [(1, vI v1), (2, vI v2), (3, vI v3)] [] σ om_rf om_N 0 0) {v1 : Int32} {v3 : Int32} {σ : om_S}  (h : f_X1_isOf_b42 lp7 v1 v3 σ = some (r, τ)) : om_J x 42 [(1, vI v1), (3, vI v3)] [] σ om_rf om_N 0 0 := by
  unfold f_X1_isOf_b42 at h
  refine om_iconst O (v := -1) dX1_isOf_42 (by decide) ?_
  exact g_X1_isOf_b43 O hE L7 h
def f_X1_isOf_b7  : Nat → Int32 → Int32 → Int32 → om_S → Option (Int32 × om_S)
  | 0, _, _, _, _ => none
  | F + 1, v1, v2, v3, σ => if (7 : Int32) ≤ v3 then (some ((0 : Int32), σ)) else (if v2 = v1 then (some ((1 : Int32), σ)) else (if v2 < 0 then (f_X1_isOf_b42 (f_X1_isOf_b7 F) v1 v3 σ) else (if (7 : Int32) ≤ v2 then (f_X1_isOf_b42 (f_X1_isOf_b7 F) v1 v3 σ) else (if om_in v2 7 then f_X1_isOf_b43 (f_X1_isOf_b7 F) v1 v3 (om_ka v2.toNatClampNeg) σ else none))))
set_option maxRecDepth 100000 in
theorem g_X1_isOf_b7 {x : om_X}   (O : om_Ok x RX1 "isOf" cX1_isOf 4 (some FieldType.boolean) 0 0 0)   {r : Int32} {τ : om_S} (hE : om_End x (some (vI r)) τ om_rf om_N 0 0)   : ∀ (F : Nat) (v1 : Int32) (v2 : Int32) (v3 : Int32) (σ : om_S) , f_X1_isOf_b7 F v1 v2 v3 σ = some (r, τ) → om_J x 7 [(1, vI v1), (2, vI v2), (3, vI v3)] [] σ om_rf om_N 0 0 := by
  intro F
  induction F with
  | zero =>
    intro v1 v2 v3 σ  h
    cases h
  | succ F ih =>
    intro v1 v2 v3 σ  h
    unfold f_X1_isOf_b7 at h
    refine om_iload_n O 2 dX1_isOf_7 rfl rfl ?_
    refine om_getKA O (idx := 27) om_nwKA dX1_isOf_8 ?_
    refine om_kaLen O dX1_isOf_11 ?_
    refine om_icmp_ge O (tgt := 50) dX1_isOf_12 (by decide) (fun c1o => ?_) (fun c1o => ?_)
    · replace h := (if_pos c1o).symm.trans h
      refine om_iconst O (v := 0) dX1_isOf_50 (by decide) ?_
      exact om_zret (st := []) O (Or.inl rfl) (om_eI hE h) rfl dX1_isOf_51
    · replace h := (if_neg c1o).symm.trans h
      refine om_iload_n O 1 dX1_isOf_15 rfl rfl ?_
      refine om_iload_n O 0 dX1_isOf_16 rfl rfl ?_
      refine om_icmp_ne O (tgt := 22) dX1_isOf_17 (by decide) (fun c2o => ?_) (fun c2o => ?_)
      · replace h := (if_pos c2o).symm.trans h
        refine om_iconst O (v := 1) dX1_isOf_20 (by decide) ?_
        exact om_zret (st := []) O (Or.inr rfl) (om_eI hE h) rfl dX1_isOf_21
      · replace h := (if_neg c2o).symm.trans h
        refine om_iload_n O 1 dX1_isOf_22 rfl rfl ?_
        refine om_if_lt O (tgt := 42) dX1_isOf_23 (by decide) (fun c3o => ?_) (fun c3o => ?_)
        · replace h := (if_pos c3o).symm.trans h
          refine om_drop (lv' := [(1, vI v1), (3, vI v3)]) [0, 2] rfl ?_
          exact g_X1_isOf_b42 O hE ih h
        · replace h := (if_neg c3o).symm.trans h
          refine om_iload_n O 1 dX1_isOf_26 rfl rfl ?_
          refine om_getKA O (idx := 27) om_nwKA dX1_isOf_27 ?_
          refine om_kaLen O dX1_isOf_30 ?_
          refine om_icmp_ge O (tgt := 42) dX1_isOf_31 (by decide) (fun c4o => ?_) (fun c4o => ?_)
          · replace h := (if_pos c4o).symm.trans h
            refine om_drop (lv' := [(1, vI v1), (3, vI v3)]) [0, 2] rfl ?_
            exact g_X1_isOf_b42 O hE ih h
          · replace h := (if_neg c4o).symm.trans h
            refine om_getKA O (idx := 27) om_nwKA dX1_isOf_34 ?_
            refine om_iload_n O 1 dX1_isOf_37 rfl rfl ?_
            revert h; refine om_iteR (fun i1o h => ?_)
            refine om_kaLd O i1o dX1_isOf_38 ?_
            refine om_goto O (tgt := 43) dX1_isOf_39 (by decide) ?_
            refine om_drop (lv' := [(1, vI v1), (3, vI v3)]) [0, 2] rfl ?_
            exact g_X1_isOf_b43 O hE ih h
def f_X1_isOf  (a0 : Nat) (v1 : Int32) (σ : om_S) : Option (Int32 × om_S) := if om_kc a0 = 1 then f_X1_isOf_b7 om_F v1 (σ a0 0) (0 : Int32) σ else none
set_option maxRecDepth 100000 in
theorem c_X1_isOf (l : Launch) (G : om_G) {a0 : Nat} {v1 : Int32} {σ : om_S} {r : Int32} {τ : om_S} (h : f_X1_isOf a0 v1 σ = some (r, τ)) : om_D l G 0 yX1_isOf cX1_isOf 4 (some FieldType.boolean) 0 0 [vR (some a0), vI v1] σ om_rf om_N (some (vI r)) τ om_rf om_N := by
  refine om_Dof (lv := [(0, vR (some a0)), (1, vI v1)]) (by decide) rfl_le rfl (fun x O hE => ?_)
  change om_Ok x RX1 "isOf" cX1_isOf 4 (some FieldType.boolean) 0 0 0 at O
  unfold f_X1_isOf at h
  revert h; refine om_iteR (fun ka0 h => ?_)
  refine om_aload_n O 0 dX1_isOf_0 rfl rfl ?_
  refine gf_X1_9 O ka0 (om_lt ka0 (by decide)) dX1_isOf_1 ?_
  refine om_istore_n O (lv' := [(1, vI v1), (2, vI (σ a0 0))]) [2, 0] rfl dX1_isOf_4 rfl (by decide) rfl ?_
  refine om_iconst O (v := 0) dX1_isOf_5 (by decide) ?_
  refine om_istore_n O (lv' := [(1, vI v1), (2, vI (σ a0 0)), (3, vI (0 : Int32))]) [1, 2, 0] rfl dX1_isOf_6 rfl (by decide) rfl ?_
  exact g_X1_isOf_b7 O hE om_F _ _ _ _ h
def f_X8_as_b23  (a0 : Nat) (σ : om_S) : Option (Int32 × om_S) := om_call (f_X8_refuse a0 (1 : Int32) σ) fun (r1o : Int32) (σ1o : om_S) => some (r1o, σ1o)
set_option maxRecDepth 100000 in
theorem g_X8_as_b23 {x : om_X}   (O : om_Ok x RX8 "as" cX8_as 4 (some FieldType.int) 1 0 0)   {r : Int32} {τ : om_S} (hE : om_End x (some (vI r)) τ om_rf om_N 0 0)   {a0 : Nat} {σ : om_S} (ka0 : om_kc a0 = 8) (h : f_X8_as_b23 a0 σ = some (r, τ)) : om_J x 23 [(0, vR (some a0))] [] σ om_rf om_N 0 0 := by
  unfold f_X8_as_b23 at h
  refine om_aload_n O 0 dX8_as_23 rfl rfl ?_
  refine om_iconst O (v := 1) dX8_as_24 (by decide) ?_
  revert h; refine om_callR (fun r1o σ1o g1o h => ?_)
  refine cl_X8_84 O (st := []) (stk := [vI (1 : Int32), vR (some a0)]) (st2 := [vI r1o]) [vI (1 : Int32)] (fun l G => c_X8_refuse l G g1o) ka0 (om_lt ka0 (by decide)) (by decide) rfl rfl rfl_le rfl rfl_le rfl_le dX8_as_25 ?_
  exact om_iret (st := []) O (om_eI hE h) rfl dX8_as_28
def f_X8_as  (a0 : Nat) (v1 : Int32) (v2 : Int32) (σ : om_S) : Option (Int32 × om_S) := if om_kc a0 = 8 then om_ref (om_rf a0 0) 6 fun (t1o : Nat) => om_call (f_X6_at t1o v1 σ) fun (r1o : Option Nat) (σ1o : om_S) => om_nul r1o 1 (f_X8_as_b23 a0 σ1o) fun (t2o : Nat) => om_call (f_X8_isWithin v2 (0 : Int32) (6 : Int32) σ1o) fun (r2o : Int32) (σ2o : om_S) => if r2o = 0 then (f_X8_as_b23 a0 σ2o) else (om_call (f_X1_isOf t2o v2 σ2o) fun (r3o : Int32) (σ3o : om_S) => if r3o = 0 then (om_call (f_X8_refuse a0 (5 : Int32) σ3o) fun (r4o : Int32) (σ4o : om_S) => some (r4o, σ4o)) else (some ((σ3o t2o 1), σ3o))) else none
set_option maxRecDepth 100000 in
theorem c_X8_as (l : Launch) (G : om_G) {a0 : Nat} {v1 : Int32} {v2 : Int32} {σ : om_S} {r : Int32} {τ : om_S} (h : f_X8_as a0 v1 v2 σ = some (r, τ)) : om_D l G 1 yX8_as cX8_as 4 (some FieldType.int) 0 0 [vR (some a0), vI v1, vI v2] σ om_rf om_N (some (vI r)) τ om_rf om_N := by
  refine om_Dof (lv := [(0, vR (some a0)), (1, vI v1), (2, vI v2)]) (by decide) rfl_le rfl (fun x O hE => ?_)
  change om_Ok x RX8 "as" cX8_as 4 (some FieldType.int) 1 0 0 at O
  unfold f_X8_as at h
  revert h; refine om_iteR (fun ka0 h => ?_)
  refine om_aload_n O 0 dX8_as_0 rfl rfl ?_
  revert h; refine om_refR (fun t1o y1o k1o h => ?_)
  refine gf_X8_10 O ka0 (om_lt ka0 (by decide)) dX8_as_1 ?_
  rw [y1o]
  refine om_iload_n O 1 dX8_as_4 rfl rfl ?_
  revert h; refine om_callR (fun r1o σ1o g1o h => ?_)
  refine cl_X8_96 O (st := []) (stk := [vI v1, vR (some t1o)]) (st2 := [vR r1o]) [vI v1] (fun l G => c_X6_at l G g1o) k1o (om_lt k1o (by decide)) (by decide) rfl rfl rfl_le rfl rfl_le rfl_le dX8_as_5 ?_
  refine om_astore_n O (lv' := [(0, vR (some a0)), (2, vI v2), (3, vR r1o)]) [1, 3, 0] dX8_as_8 rfl (by decide) rfl ?_
  refine om_aload_n O 2 dX8_as_9 rfl rfl ?_
  revert h; refine om_nulR (fun yy h => ?_) (fun t2o yy k2o h => ?_)
  · subst yy
    refine om_ifnullN O (tgt := 23) dX8_as_10 (by decide) ?_
    refine om_drop (lv' := [(0, vR (some a0))]) [0] rfl ?_
    exact g_X8_as_b23 O hE ka0 h
  · subst yy
    refine om_ifnullS O dX8_as_10 ?_
    refine om_iload_n O 1 dX8_as_13 rfl rfl ?_
    refine om_iconst O (v := 0) dX8_as_14 (by decide) ?_
    refine om_bipush O (v := 6) dX8_as_15 (by decide) ?_
    revert h; refine om_callR (fun r2o σ2o g2o h => ?_)
    refine cl_X8_80 O (st := []) (stk := [vI (6 : Int32), vI (0 : Int32), vI v2]) (st2 := [vI r2o]) [vI v2, vI (0 : Int32), vI (6 : Int32)] (fun l G => c_X8_isWithin l G g2o) (by decide) rfl rfl rfl_le rfl rfl_le rfl_le dX8_as_17 ?_
    refine om_if_ne O (tgt := 29) dX8_as_20 (by decide) (fun c1o => ?_) (fun c1o => ?_)
    · replace h := (if_pos c1o).symm.trans h
      refine om_drop (lv' := [(0, vR (some a0))]) [0] rfl ?_
      exact g_X8_as_b23 O hE ka0 h
    · replace h := (if_neg c1o).symm.trans h
      refine om_aload_n O 2 dX8_as_29 rfl rfl ?_
      refine om_iload_n O 1 dX8_as_30 rfl rfl ?_
      revert h; refine om_callR (fun r3o σ3o g3o h => ?_)
      refine cl_X8_127 O (st := []) (stk := [vI v2, vR (some t2o)]) (st2 := [vI r3o]) [vI v2] (fun l G => c_X1_isOf l G g3o) k2o (om_lt k2o (by decide)) (by decide) rfl rfl rfl_le rfl rfl_le rfl_le dX8_as_31 ?_
      refine om_if_ne O (tgt := 43) dX8_as_34 (by decide) (fun c2o => ?_) (fun c2o => ?_)
      · replace h := (if_pos c2o).symm.trans h
        refine om_aload_n O 0 dX8_as_37 rfl rfl ?_
        refine om_iconst O (v := 5) dX8_as_38 (by decide) ?_
        revert h; refine om_callR (fun r4o σ4o g4o h => ?_)
        refine cl_X8_84 O (st := []) (stk := [vI (5 : Int32), vR (some a0)]) (st2 := [vI r4o]) [vI (5 : Int32)] (fun l G => c_X8_refuse l G g4o) ka0 (om_lt ka0 (by decide)) (by decide) rfl rfl rfl_le rfl rfl_le rfl_le dX8_as_39 ?_
        exact om_iret (st := []) O (om_eI hE h) rfl dX8_as_42
      · replace h := (if_neg c2o).symm.trans h
        refine om_aload_n O 2 dX8_as_43 rfl rfl ?_
        refine gf_X8_105 O k2o (om_lt k2o (by decide)) dX8_as_44 ?_
        exact om_iret (st := []) O (om_eI hE h) rfl dX8_as_47
def f_X8_fills_b23  (a0 : Nat) (σ : om_S) : Option (Int32 × om_S) := om_call (f_X8_refuse a0 (1 : Int32) σ) fun (r1o : Int32) (σ1o : om_S) => some (r1o, σ1o)
set_option maxRecDepth 100000 in
theorem g_X8_fills_b23 {x : om_X}   (O : om_Ok x RX8 "fills" cX8_fills 5 (some FieldType.int) 1 0 0)   {r : Int32} {τ : om_S} (hE : om_End x (some (vI r)) τ om_rf om_N 0 0)   {a0 : Nat} {σ : om_S} (ka0 : om_kc a0 = 8) (h : f_X8_fills_b23 a0 σ = some (r, τ)) : om_J x 23 [(0, vR (some a0))] [] σ om_rf om_N 0 0 := by
  unfold f_X8_fills_b23 at h
  refine om_aload_n O 0 dX8_fills_23 rfl rfl ?_
  refine om_iconst O (v := 1) dX8_fills_24 (by decide) ?_
  revert h; refine om_callR (fun r1o σ1o g1o h => ?_)
  refine cl_X8_84 O (st := []) (stk := [vI (1 : Int32), vR (some a0)]) (st2 := [vI r1o]) [vI (1 : Int32)] (fun l G => c_X8_refuse l G g1o) ka0 (om_lt ka0 (by decide)) (by decide) rfl rfl rfl_le rfl rfl_le rfl_le dX8_fills_25 ?_
  exact om_iret (st := []) O (om_eI hE h) rfl dX8_fills_28
def f_X8_fills  (a0 : Nat) (v1 : Int32) (v2 : Int32) (σ : om_S) : Option (Int32 × om_S) := if om_kc a0 = 8 then om_ref (om_rf a0 0) 6 fun (t1o : Nat) => om_call (f_X6_at t1o v1 σ) fun (r1o : Option Nat) (σ1o : om_S) => om_nul r1o 1 (f_X8_fills_b23 a0 σ1o) fun (t2o : Nat) => om_call (f_X8_isWithin v2 (0 : Int32) (99 : Int32) σ1o) fun (r2o : Int32) (σ2o : om_S) => if r2o = 0 then (f_X8_fills_b23 a0 σ2o) else (om_let (om_w σ2o t2o 3 v2) fun (σ3o : om_S) => some ((σ2o t2o 3), σ3o)) else none
set_option maxRecDepth 100000 in
theorem c_X8_fills (l : Launch) (G : om_G) {a0 : Nat} {v1 : Int32} {v2 : Int32} {σ : om_S} {r : Int32} {τ : om_S} (h : f_X8_fills a0 v1 v2 σ = some (r, τ)) : om_D l G 1 yX8_fills cX8_fills 5 (some FieldType.int) 0 0 [vR (some a0), vI v1, vI v2] σ om_rf om_N (some (vI r)) τ om_rf om_N := by
  refine om_Dof (lv := [(0, vR (some a0)), (1, vI v1), (2, vI v2)]) (by decide) rfl_le rfl (fun x O hE => ?_)
  change om_Ok x RX8 "fills" cX8_fills 5 (some FieldType.int) 1 0 0 at O
  unfold f_X8_fills at h
  revert h; refine om_iteR (fun ka0 h => ?_)
  refine om_aload_n O 0 dX8_fills_0 rfl rfl ?_
  revert h; refine om_refR (fun t1o y1o k1o h => ?_)
  refine gf_X8_10 O ka0 (om_lt ka0 (by decide)) dX8_fills_1 ?_
  rw [y1o]
  refine om_iload_n O 1 dX8_fills_4 rfl rfl ?_
  revert h; refine om_callR (fun r1o σ1o g1o h => ?_)
  refine cl_X8_96 O (st := []) (stk := [vI v1, vR (some t1o)]) (st2 := [vR r1o]) [vI v1] (fun l G => c_X6_at l G g1o) k1o (om_lt k1o (by decide)) (by decide) rfl rfl rfl_le rfl rfl_le rfl_le dX8_fills_5 ?_
  refine om_astore_n O (lv' := [(0, vR (some a0)), (2, vI v2), (3, vR r1o)]) [1, 3, 0] dX8_fills_8 rfl (by decide) rfl ?_
  refine om_aload_n O 2 dX8_fills_9 rfl rfl ?_
  revert h; refine om_nulR (fun yy h => ?_) (fun t2o yy k2o h => ?_)
  · subst yy
    refine om_ifnullN O (tgt := 23) dX8_fills_10 (by decide) ?_
    refine om_drop (lv' := [(0, vR (some a0))]) [0] rfl ?_
    exact g_X8_fills_b23 O hE ka0 h
  · subst yy
    refine om_ifnullS O dX8_fills_10 ?_
    refine om_iload_n O 1 dX8_fills_13 rfl rfl ?_
    refine om_iconst O (v := 0) dX8_fills_14 (by decide) ?_
    refine om_bipush O (v := 99) dX8_fills_15 (by decide) ?_
    revert h; refine om_callR (fun r2o σ2o g2o h => ?_)
    refine cl_X8_80 O (st := []) (stk := [vI (99 : Int32), vI (0 : Int32), vI v2]) (st2 := [vI r2o]) [vI v2, vI (0 : Int32), vI (99 : Int32)] (fun l G => c_X8_isWithin l G g2o) (by decide) rfl rfl rfl_le rfl rfl_le rfl_le dX8_fills_17 ?_
    refine om_if_ne O (tgt := 29) dX8_fills_20 (by decide) (fun c1o => ?_) (fun c1o => ?_)
    · replace h := (if_pos c1o).symm.trans h
      refine om_drop (lv' := [(0, vR (some a0))]) [0] rfl ?_
      exact g_X8_fills_b23 O hE ka0 h
    · replace h := (if_neg c1o).symm.trans h
      refine om_aload_n O 2 dX8_fills_29 rfl rfl ?_
      refine gf_X8_111 O k2o (om_lt k2o (by decide)) dX8_fills_30 ?_
      refine om_istore O (lv' := [(2, vI v2), (3, vR (some t2o)), (4, vI (σ2o t2o 3))]) [2, 3, 0] rfl dX8_fills_33 (by decide) rfl ?_
      refine om_aload_n O 1 dX8_fills_35 rfl rfl ?_
      refine om_iload_n O 0 dX8_fills_36 rfl rfl ?_
      revert h; refine om_letR (fun σ3o e1o h => ?_)
      refine pf_X8_111 O (Or.inl rfl) k2o (om_lt k2o (by decide)) dX8_fills_37 e1o ?_
      refine om_iload O 2 dX8_fills_40 rfl ?_
      exact om_iret (st := []) O (om_eI hE h) rfl dX8_fills_42
def f_X8_dear_b23  (a0 : Nat) (σ : om_S) : Option (Int32 × om_S) := om_call (f_X8_refuse a0 (1 : Int32) σ) fun (r1o : Int32) (σ1o : om_S) => some (r1o, σ1o)
set_option maxRecDepth 100000 in
theorem g_X8_dear_b23 {x : om_X}   (O : om_Ok x RX8 "dear" cX8_dear 5 (some FieldType.int) 1 0 0)   {r : Int32} {τ : om_S} (hE : om_End x (some (vI r)) τ om_rf om_N 0 0)   {a0 : Nat} {σ : om_S} (ka0 : om_kc a0 = 8) (h : f_X8_dear_b23 a0 σ = some (r, τ)) : om_J x 23 [(0, vR (some a0))] [] σ om_rf om_N 0 0 := by
  unfold f_X8_dear_b23 at h
  refine om_aload_n O 0 dX8_dear_23 rfl rfl ?_
  refine om_iconst O (v := 1) dX8_dear_24 (by decide) ?_
  revert h; refine om_callR (fun r1o σ1o g1o h => ?_)
  refine cl_X8_84 O (st := []) (stk := [vI (1 : Int32), vR (some a0)]) (st2 := [vI r1o]) [vI (1 : Int32)] (fun l G => c_X8_refuse l G g1o) ka0 (om_lt ka0 (by decide)) (by decide) rfl rfl rfl_le rfl rfl_le rfl_le dX8_dear_25 ?_
  exact om_iret (st := []) O (om_eI hE h) rfl dX8_dear_28
def f_X8_dear  (a0 : Nat) (v1 : Int32) (v2 : Int32) (σ : om_S) : Option (Int32 × om_S) := if om_kc a0 = 8 then om_ref (om_rf a0 0) 6 fun (t1o : Nat) => om_call (f_X6_at t1o v1 σ) fun (r1o : Option Nat) (σ1o : om_S) => om_nul r1o 1 (f_X8_dear_b23 a0 σ1o) fun (t2o : Nat) => om_call (f_X8_isWithin v2 (0 : Int32) (99 : Int32) σ1o) fun (r2o : Int32) (σ2o : om_S) => if r2o = 0 then (f_X8_dear_b23 a0 σ2o) else (om_let (om_w σ2o t2o 4 v2) fun (σ3o : om_S) => some ((σ2o t2o 4), σ3o)) else none
set_option maxRecDepth 100000 in
theorem c_X8_dear (l : Launch) (G : om_G) {a0 : Nat} {v1 : Int32} {v2 : Int32} {σ : om_S} {r : Int32} {τ : om_S} (h : f_X8_dear a0 v1 v2 σ = some (r, τ)) : om_D l G 1 yX8_dear cX8_dear 5 (some FieldType.int) 0 0 [vR (some a0), vI v1, vI v2] σ om_rf om_N (some (vI r)) τ om_rf om_N := by
  refine om_Dof (lv := [(0, vR (some a0)), (1, vI v1), (2, vI v2)]) (by decide) rfl_le rfl (fun x O hE => ?_)
  change om_Ok x RX8 "dear" cX8_dear 5 (some FieldType.int) 1 0 0 at O
  unfold f_X8_dear at h
  revert h; refine om_iteR (fun ka0 h => ?_)
  refine om_aload_n O 0 dX8_dear_0 rfl rfl ?_
  revert h; refine om_refR (fun t1o y1o k1o h => ?_)
  refine gf_X8_10 O ka0 (om_lt ka0 (by decide)) dX8_dear_1 ?_
  rw [y1o]
  refine om_iload_n O 1 dX8_dear_4 rfl rfl ?_
  revert h; refine om_callR (fun r1o σ1o g1o h => ?_)
  refine cl_X8_96 O (st := []) (stk := [vI v1, vR (some t1o)]) (st2 := [vR r1o]) [vI v1] (fun l G => c_X6_at l G g1o) k1o (om_lt k1o (by decide)) (by decide) rfl rfl rfl_le rfl rfl_le rfl_le dX8_dear_5 ?_
  refine om_astore_n O (lv' := [(0, vR (some a0)), (2, vI v2), (3, vR r1o)]) [1, 3, 0] dX8_dear_8 rfl (by decide) rfl ?_
  refine om_aload_n O 2 dX8_dear_9 rfl rfl ?_
  revert h; refine om_nulR (fun yy h => ?_) (fun t2o yy k2o h => ?_)
  · subst yy
    refine om_ifnullN O (tgt := 23) dX8_dear_10 (by decide) ?_
    refine om_drop (lv' := [(0, vR (some a0))]) [0] rfl ?_
    exact g_X8_dear_b23 O hE ka0 h
  · subst yy
    refine om_ifnullS O dX8_dear_10 ?_
    refine om_iload_n O 1 dX8_dear_13 rfl rfl ?_
    refine om_iconst O (v := 0) dX8_dear_14 (by decide) ?_
    refine om_bipush O (v := 99) dX8_dear_15 (by decide) ?_
    revert h; refine om_callR (fun r2o σ2o g2o h => ?_)
    refine cl_X8_80 O (st := []) (stk := [vI (99 : Int32), vI (0 : Int32), vI v2]) (st2 := [vI r2o]) [vI v2, vI (0 : Int32), vI (99 : Int32)] (fun l G => c_X8_isWithin l G g2o) (by decide) rfl rfl rfl_le rfl rfl_le rfl_le dX8_dear_17 ?_
    refine om_if_ne O (tgt := 29) dX8_dear_20 (by decide) (fun c1o => ?_) (fun c1o => ?_)
    · replace h := (if_pos c1o).symm.trans h
      refine om_drop (lv' := [(0, vR (some a0))]) [0] rfl ?_
      exact g_X8_dear_b23 O hE ka0 h
    · replace h := (if_neg c1o).symm.trans h
      refine om_aload_n O 2 dX8_dear_29 rfl rfl ?_
      refine gf_X8_114 O k2o (om_lt k2o (by decide)) dX8_dear_30 ?_
      refine om_istore O (lv' := [(2, vI v2), (3, vR (some t2o)), (4, vI (σ2o t2o 4))]) [2, 3, 0] rfl dX8_dear_33 (by decide) rfl ?_
      refine om_aload_n O 1 dX8_dear_35 rfl rfl ?_
      refine om_iload_n O 0 dX8_dear_36 rfl rfl ?_
      revert h; refine om_letR (fun σ3o e1o h => ?_)
      refine pf_X8_114 O (Or.inl rfl) k2o (om_lt k2o (by decide)) dX8_dear_37 e1o ?_
      refine om_iload O 2 dX8_dear_40 rfl ?_
      exact om_iret (st := []) O (om_eI hE h) rfl dX8_dear_42
def f_X8_isKeeper  (v0 : Int32) (σ : om_S) : Option (Int32 × om_S) := if v0 < 0 then (some ((0 : Int32), σ)) else (if (4 : Int32) ≤ v0 then (some ((0 : Int32), σ)) else (some ((1 : Int32), σ)))
set_option maxRecDepth 100000 in
theorem c_X8_isKeeper (l : Launch) (G : om_G) {v0 : Int32} {σ : om_S} {r : Int32} {τ : om_S} (h : f_X8_isKeeper v0 σ = some (r, τ)) : om_D l G 0 yX8_isKeeper cX8_isKeeper 1 (some FieldType.boolean) 0 0 [vI v0] σ om_rf om_N (some (vI r)) τ om_rf om_N := by
  refine om_Dof (lv := [(0, vI v0)]) (by decide) rfl_le rfl (fun x O hE => ?_)
  change om_Ok x RX8 "isKeeper" cX8_isKeeper 1 (some FieldType.boolean) 0 0 0 at O
  unfold f_X8_isKeeper at h
  refine om_iload_n O 0 dX8_isKeeper_0 rfl rfl ?_
  refine om_if_lt O (tgt := 13) dX8_isKeeper_1 (by decide) (fun c1o => ?_) (fun c1o => ?_)
  · replace h := (if_pos c1o).symm.trans h
    refine om_iconst O (v := 0) dX8_isKeeper_13 (by decide) ?_
    exact om_zret (st := []) O (Or.inl rfl) (om_eI hE h) rfl dX8_isKeeper_14
  · replace h := (if_neg c1o).symm.trans h
    refine om_iload_n O 0 dX8_isKeeper_4 rfl rfl ?_
    refine om_iconst O (v := 4) dX8_isKeeper_5 (by decide) ?_
    refine om_icmp_ge O (tgt := 13) dX8_isKeeper_6 (by decide) (fun c2o => ?_) (fun c2o => ?_)
    · replace h := (if_pos c2o).symm.trans h
      refine om_iconst O (v := 0) dX8_isKeeper_13 (by decide) ?_
      exact om_zret (st := []) O (Or.inl rfl) (om_eI hE h) rfl dX8_isKeeper_14
    · replace h := (if_neg c2o).symm.trans h
      refine om_iconst O (v := 1) dX8_isKeeper_9 (by decide) ?_
      refine om_goto O (tgt := 14) dX8_isKeeper_10 (by decide) ?_
      exact om_zret (st := []) O (Or.inr rfl) (om_eI hE h) rfl dX8_isKeeper_14
