def f_X9_aNight_b73  (a0 : Nat) (v1 : Int32) (σ : om_S) : Option (Int32 × om_S) := om_ref (om_rf a0 0) 20 fun (t1o : Nat) => if om_in (1 : Int32) (om_al t1o) then if om_in (1 : Int32) (om_al t1o) then om_let (om_w σ t1o (1 : Int32).toNatClampNeg ((σ t1o (1 : Int32).toNatClampNeg) + (1 : Int32))) fun (σ1o : om_S) => if v1 = (-1 : Int32) then (some ((0 : Int32), σ1o)) else (some ((1 : Int32), σ1o)) else none else none
set_option maxRecDepth 100000 in
theorem g_X9_aNight_b73 {x : om_X}   (O : om_Ok x RX9 "aNight" cX9_aNight 3 (some FieldType.boolean) 6 0 0)   {r : Int32} {τ : om_S} (hE : om_End x (some (vI r)) τ om_rf om_N 0 0)   {a0 : Nat} {v1 : Int32} {σ : om_S} (ka0 : om_kc a0 = 9) (h : f_X9_aNight_b73 a0 v1 σ = some (r, τ)) : om_J x 73 [(0, vR (some a0)), (1, vI v1)] [] σ om_rf om_N 0 0 := by
  unfold f_X9_aNight_b73 at h
  refine om_aload_n O 0 dX9_aNight_73 rfl rfl ?_
  revert h; refine om_refR (fun t1o y1o k1o h => ?_)
  refine gf_X9_7 O ka0 (om_lt ka0 (by decide)) dX9_aNight_74 ?_
  rw [y1o]
  refine om_iconst O (v := 1) dX9_aNight_77 (by decide) ?_
  refine om_dup2 O rfl rfl dX9_aNight_78 ?_
  revert h; refine om_iteR (fun i1o h => ?_)
  refine om_iald O k1o (om_lt k1o (by decide)) i1o dX9_aNight_79 ?_
  refine om_iconst O (v := 1) dX9_aNight_80 (by decide) ?_
  refine om_iadd O dX9_aNight_81 ?_
  revert h; refine om_iteR (fun i2o h => ?_)
  revert h; refine om_letR (fun σ1o e1o h => ?_)
  refine om_iast O k1o (om_lt k1o (by decide)) i2o dX9_aNight_82 e1o ?_
  refine om_iload_n O 1 dX9_aNight_83 rfl rfl ?_
  refine om_iconst O (v := -1) dX9_aNight_84 (by decide) ?_
  refine om_icmp_eq O (tgt := 92) dX9_aNight_85 (by decide) (fun c1o => ?_) (fun c1o => ?_)
  · replace h := (if_pos c1o).symm.trans h
    refine om_iconst O (v := 0) dX9_aNight_92 (by decide) ?_
    exact om_zret (st := []) O (Or.inl rfl) (om_eI hE h) rfl dX9_aNight_93
  · replace h := (if_neg c1o).symm.trans h
    refine om_iconst O (v := 1) dX9_aNight_88 (by decide) ?_
    refine om_goto O (tgt := 93) dX9_aNight_89 (by decide) ?_
    exact om_zret (st := []) O (Or.inr rfl) (om_eI hE h) rfl dX9_aNight_93
def f_X9_aNight_b47  (a0 : Nat) (v1 : Int32) (σ : om_S) : Option (Int32 × om_S) := if v1 = (-1 : Int32) then (om_ref (om_rf a0 0) 20 fun (t1o : Nat) => om_ref (om_rf a0 0) 20 fun (t2o : Nat) => if om_in (2 : Int32) (om_al t2o) then om_call (f_X9_held ((σ t2o (2 : Int32).toNatClampNeg) + (1 : Int32)) (0 : Int32) (9999 : Int32) σ) fun (r1o : Int32) (σ1o : om_S) => if om_in (2 : Int32) (om_al t1o) then om_let (om_w σ1o t1o (2 : Int32).toNatClampNeg r1o) fun (σ2o : om_S) => f_X9_aNight_b73 a0 v1 σ2o else none else none) else (f_X9_aNight_b73 a0 v1 σ)
set_option maxRecDepth 100000 in
theorem g_X9_aNight_b47 {x : om_X}   (O : om_Ok x RX9 "aNight" cX9_aNight 3 (some FieldType.boolean) 6 0 0)   {r : Int32} {τ : om_S} (hE : om_End x (some (vI r)) τ om_rf om_N 0 0)   {a0 : Nat} {v1 : Int32} {σ : om_S} (ka0 : om_kc a0 = 9) (h : f_X9_aNight_b47 a0 v1 σ = some (r, τ)) : om_J x 47 [(0, vR (some a0)), (1, vI v1)] [] σ om_rf om_N 0 0 := by
  unfold f_X9_aNight_b47 at h
  refine om_iload_n O 1 dX9_aNight_47 rfl rfl ?_
  refine om_iconst O (v := -1) dX9_aNight_48 (by decide) ?_
  refine om_icmp_ne O (tgt := 73) dX9_aNight_49 (by decide) (fun c1o => ?_) (fun c1o => ?_)
  · replace h := (if_pos c1o).symm.trans h
    refine om_aload_n O 0 dX9_aNight_52 rfl rfl ?_
    revert h; refine om_refR (fun t1o y1o k1o h => ?_)
    refine gf_X9_7 O ka0 (om_lt ka0 (by decide)) dX9_aNight_53 ?_
    rw [y1o]
    refine om_iconst O (v := 2) dX9_aNight_56 (by decide) ?_
    refine om_aload_n O 0 dX9_aNight_57 rfl rfl ?_
    revert h; refine om_refR (fun t2o y2o k2o h => ?_)
    refine gf_X9_7 O ka0 (om_lt ka0 (by decide)) dX9_aNight_58 ?_
    rw [y2o]
    refine om_iconst O (v := 2) dX9_aNight_61 (by decide) ?_
    revert h; refine om_iteR (fun i1o h => ?_)
    refine om_iald O k2o (om_lt k2o (by decide)) i1o dX9_aNight_62 ?_
    refine om_iconst O (v := 1) dX9_aNight_63 (by decide) ?_
    refine om_iadd O dX9_aNight_64 ?_
    refine om_iconst O (v := 0) dX9_aNight_65 (by decide) ?_
    refine om_sipush O (v := 9999) dX9_aNight_66 (by decide) ?_
    revert h; refine om_callR (fun r1o σ1o g1o h => ?_)
    refine cl_X9_127 O (st := [vI (2 : Int32), vR (some t1o)]) (stk := [vI (9999 : Int32), vI (0 : Int32), vI ((σ t2o (2 : Int32).toNatClampNeg) + (1 : Int32)), vI (2 : Int32), vR (some t1o)]) (st2 := [vI r1o, vI (2 : Int32), vR (some t1o)]) [vI ((σ t2o (2 : Int32).toNatClampNeg) + (1 : Int32)), vI (0 : Int32), vI (9999 : Int32)] (fun l G => c_X9_held l G g1o) (by decide) rfl rfl rfl_le rfl rfl_le rfl_le dX9_aNight_69 ?_
    revert h; refine om_iteR (fun i2o h => ?_)
    revert h; refine om_letR (fun σ2o e1o h => ?_)
    refine om_iast O k1o (om_lt k1o (by decide)) i2o dX9_aNight_72 e1o ?_
    exact g_X9_aNight_b73 O hE ka0 h
  · replace h := (if_neg c1o).symm.trans h
    exact g_X9_aNight_b73 O hE ka0 h
def f_X9_aNight_b7  : Nat → Nat → Int32 → Int32 → om_S → Option (Int32 × om_S)
  | 0, _, _, _, _ => none
  | F + 1, a0, v1, v2, σ => om_ref (om_rf a0 0) 20 fun (t1o : Nat) => if om_in (6 : Int32) (om_al t1o) then if (σ t1o (6 : Int32).toNatClampNeg) ≤ v2 then (f_X9_aNight_b47 a0 v1 σ) else (if v1 = (-1 : Int32) then (f_X9_aNight_b47 a0 v1 σ) else (om_call (f_X9_its a0 v2 (3 : Int32) σ) fun (r1o : Int32) (σ1o : om_S) => om_do (f_X9_lays1 a0 v2 (3 : Int32) (r1o - ((v1 >>> (v2 &&& 31)) &&& (1 : Int32))) σ1o) fun (σ2o : om_S) => (f_X9_aNight_b7 F) a0 v1 (v2 + 1) σ2o)) else none
set_option maxRecDepth 100000 in
theorem g_X9_aNight_b7 {x : om_X}   (O : om_Ok x RX9 "aNight" cX9_aNight 3 (some FieldType.boolean) 6 0 0)   {r : Int32} {τ : om_S} (hE : om_End x (some (vI r)) τ om_rf om_N 0 0)   : ∀ (F : Nat) (a0 : Nat) (v1 : Int32) (v2 : Int32) (σ : om_S) (ka0 : om_kc a0 = 9), f_X9_aNight_b7 F a0 v1 v2 σ = some (r, τ) → om_J x 7 [(0, vR (some a0)), (1, vI v1), (2, vI v2)] [] σ om_rf om_N 0 0 := by
  intro F
  induction F with
  | zero =>
    intro a0 v1 v2 σ ka0 h
    cases h
  | succ F ih =>
    intro a0 v1 v2 σ ka0 h
    unfold f_X9_aNight_b7 at h
    refine om_iload_n O 2 dX9_aNight_7 rfl rfl ?_
    refine om_aload_n O 0 dX9_aNight_8 rfl rfl ?_
    revert h; refine om_refR (fun t1o y1o k1o h => ?_)
    refine gf_X9_7 O ka0 (om_lt ka0 (by decide)) dX9_aNight_9 ?_
    rw [y1o]
    refine om_bipush O (v := 6) dX9_aNight_12 (by decide) ?_
    revert h; refine om_iteR (fun i1o h => ?_)
    refine om_iald O k1o (om_lt k1o (by decide)) i1o dX9_aNight_14 ?_
    refine om_icmp_ge O (tgt := 47) dX9_aNight_15 (by decide) (fun c1o => ?_) (fun c1o => ?_)
    · replace h := (if_pos c1o).symm.trans h
      refine om_drop (lv' := [(0, vR (some a0)), (1, vI v1)]) [0, 1] rfl ?_
      exact g_X9_aNight_b47 O hE ka0 h
    · replace h := (if_neg c1o).symm.trans h
      refine om_iload_n O 1 dX9_aNight_18 rfl rfl ?_
      refine om_iconst O (v := -1) dX9_aNight_19 (by decide) ?_
      refine om_icmp_eq O (tgt := 47) dX9_aNight_20 (by decide) (fun c2o => ?_) (fun c2o => ?_)
      · replace h := (if_pos c2o).symm.trans h
        refine om_drop (lv' := [(0, vR (some a0)), (1, vI v1)]) [0, 1] rfl ?_
        exact g_X9_aNight_b47 O hE ka0 h
      · replace h := (if_neg c2o).symm.trans h
        refine om_aload_n O 0 dX9_aNight_23 rfl rfl ?_
        refine om_iload_n O 2 dX9_aNight_24 rfl rfl ?_
        refine om_iconst O (v := 3) dX9_aNight_25 (by decide) ?_
        refine om_aload_n O 0 dX9_aNight_26 rfl rfl ?_
        refine om_iload_n O 2 dX9_aNight_27 rfl rfl ?_
        refine om_iconst O (v := 3) dX9_aNight_28 (by decide) ?_
        revert h; refine om_callR (fun r1o σ1o g1o h => ?_)
        refine cl_X9_120 O (st := [vI (3 : Int32), vI v2, vR (some a0)]) (stk := [vI (3 : Int32), vI v2, vR (some a0), vI (3 : Int32), vI v2, vR (some a0)]) (st2 := [vI r1o, vI (3 : Int32), vI v2, vR (some a0)]) [vI v2, vI (3 : Int32)] (fun l G => c_X9_its l G g1o) ka0 (om_lt ka0 (by decide)) (by decide) rfl rfl rfl_le rfl rfl_le rfl_le dX9_aNight_29 ?_
        refine om_iload_n O 1 dX9_aNight_32 rfl rfl ?_
        refine om_iload_n O 2 dX9_aNight_33 rfl rfl ?_
        refine om_ishr O dX9_aNight_34 ?_
        refine om_iconst O (v := 1) dX9_aNight_35 (by decide) ?_
        refine om_iand O dX9_aNight_36 ?_
        refine om_isub O dX9_aNight_37 ?_
        revert h; refine om_doR (fun σ2o g2o h => ?_)
        refine cl_X9_157 O (st := []) (stk := [vI (r1o - ((v1 >>> (v2 &&& 31)) &&& (1 : Int32))), vI (3 : Int32), vI v2, vR (some a0)]) (st2 := []) [vI v2, vI (3 : Int32), vI (r1o - ((v1 >>> (v2 &&& 31)) &&& (1 : Int32)))] (fun l G => c_X9_lays1 l G g2o) ka0 (om_lt ka0 (by decide)) (by decide) rfl rfl rfl_le rfl rfl_le rfl_le dX9_aNight_38 ?_
        refine om_iinc O (v1 := (v2 + 1)) (lv' := [(0, vR (some a0)), (1, vI v1), (2, vI (v2 + 1))]) 2 [1, 2, 0] rfl dX9_aNight_41 rfl rfl (by decide) rfl ?_
        refine om_goto O (tgt := 7) dX9_aNight_44 (by decide) ?_
        exact ih _ _ _ _ ka0 h
def f_X9_aNight  (a0 : Nat) (σ : om_S) : Option (Int32 × om_S) := if om_kc a0 = 9 then om_call (f_X9_tonightSet a0 σ) fun (r1o : Int32) (σ1o : om_S) => f_X9_aNight_b7 om_F a0 r1o (0 : Int32) σ1o else none
set_option maxRecDepth 100000 in
theorem c_X9_aNight (l : Launch) (G : om_G) {a0 : Nat} {σ : om_S} {r : Int32} {τ : om_S} (h : f_X9_aNight a0 σ = some (r, τ)) : om_D l G 6 yX9_aNight cX9_aNight 3 (some FieldType.boolean) 0 0 [vR (some a0)] σ om_rf om_N (some (vI r)) τ om_rf om_N := by
  refine om_Dof (lv := [(0, vR (some a0))]) (by decide) rfl_le rfl (fun x O hE => ?_)
  change om_Ok x RX9 "aNight" cX9_aNight 3 (some FieldType.boolean) 6 0 0 at O
  unfold f_X9_aNight at h
  revert h; refine om_iteR (fun ka0 h => ?_)
  refine om_aload_n O 0 dX9_aNight_0 rfl rfl ?_
  revert h; refine om_callR (fun r1o σ1o g1o h => ?_)
  refine cl_X9_154 O (st := []) (stk := [vR (some a0)]) (st2 := [vI r1o]) [] (fun l G => c_X9_tonightSet l G g1o) ka0 (om_lt ka0 (by decide)) (by decide) rfl rfl rfl_le rfl rfl_le rfl_le dX9_aNight_1 ?_
  refine om_istore_n O (lv' := [(0, vR (some a0)), (1, vI r1o)]) [1, 0] rfl dX9_aNight_4 rfl (by decide) rfl ?_
  refine om_iconst O (v := 0) dX9_aNight_5 (by decide) ?_
  refine om_istore_n O (lv' := [(0, vR (some a0)), (1, vI r1o), (2, vI (0 : Int32))]) [1, 2, 0] rfl dX9_aNight_6 rfl (by decide) rfl ?_
  exact g_X9_aNight_b7 O hE om_F _ _ _ _ ka0 h
def f_X9_goes_b22 (lp4 : Nat → Int32 → Int32 → Int32 → om_S → Option (Int32 × om_S)) (a0 : Nat) (v1 : Int32) (v3 : Int32) (s0 : Int32) (s1 : Int32) (σ : om_S) : Option (Int32 × om_S) := lp4 a0 v1 (s0 + s1) (v3 + 1) σ
set_option maxRecDepth 100000 in
theorem g_X9_goes_b22 {x : om_X}   (O : om_Ok x RX9 "goes" cX9_goes 4 (some FieldType.int) 7 0 0)   {r : Int32} {τ : om_S} (hE : om_End x (some (vI r)) τ om_rf om_N 0 0) {lp4 : Nat → Int32 → Int32 → Int32 → om_S → Option (Int32 × om_S)} (L4 : ∀ (a0 : Nat) (v1 : Int32) (v2 : Int32) (v3 : Int32) (σ : om_S) (ka0 : om_kc a0 = 9), lp4 a0 v1 v2 v3 σ = some (r, τ) → om_J x 4 [(0, vR (some a0)), (1, vI v1), (2, vI v2), (3, vI v3)] [] σ om_rf om_N 0 0) {a0 : Nat} {v1 : Int32} {v3 : Int32} {s0 : Int32} {s1 : Int32} {σ : om_S} (ka0 : om_kc a0 = 9) (h : f_X9_goes_b22 lp4 a0 v1 v3 s0 s1 σ = some (r, τ)) : om_J x 22 [(0, vR (some a0)), (1, vI v1), (3, vI v3)] [vI s1, vI s0] σ om_rf om_N 0 0 := by
  unfold f_X9_goes_b22 at h
  refine om_iadd O dX9_goes_22 ?_
  refine om_istore_n O (lv' := [(0, vR (some a0)), (1, vI v1), (2, vI (s0 + s1)), (3, vI v3)]) [1, 2, 0, 3] rfl dX9_goes_23 rfl (by decide) rfl ?_
  refine om_iinc O (v1 := (v3 + 1)) (lv' := [(0, vR (some a0)), (1, vI v1), (2, vI (s0 + s1)), (3, vI (v3 + 1))]) 3 [1, 2, 3, 0] rfl dX9_goes_24 rfl rfl (by decide) rfl ?_
  refine om_goto O (tgt := 4) dX9_goes_27 (by decide) ?_
  exact L4 _ _ _ _ _ ka0 h
def f_X9_goes_b4  : Nat → Nat → Int32 → Int32 → Int32 → om_S → Option (Int32 × om_S)
  | 0, _, _, _, _, _ => none
  | F + 1, a0, v1, v2, v3, σ => if v1 ≤ v3 then (some (v2, σ)) else (om_call (f_X9_aNight a0 σ) fun (r1o : Int32) (σ1o : om_S) => if r1o = 0 then (f_X9_goes_b22 (f_X9_goes_b4 F) a0 v1 v3 v2 (0 : Int32) σ1o) else (f_X9_goes_b22 (f_X9_goes_b4 F) a0 v1 v3 v2 (1 : Int32) σ1o))
set_option maxRecDepth 100000 in
theorem g_X9_goes_b4 {x : om_X}   (O : om_Ok x RX9 "goes" cX9_goes 4 (some FieldType.int) 7 0 0)   {r : Int32} {τ : om_S} (hE : om_End x (some (vI r)) τ om_rf om_N 0 0)   : ∀ (F : Nat) (a0 : Nat) (v1 : Int32) (v2 : Int32) (v3 : Int32) (σ : om_S) (ka0 : om_kc a0 = 9), f_X9_goes_b4 F a0 v1 v2 v3 σ = some (r, τ) → om_J x 4 [(0, vR (some a0)), (1, vI v1), (2, vI v2), (3, vI v3)] [] σ om_rf om_N 0 0 := by
  intro F
  induction F with
  | zero =>
    intro a0 v1 v2 v3 σ ka0 h
    cases h
  | succ F ih =>
    intro a0 v1 v2 v3 σ ka0 h
    unfold f_X9_goes_b4 at h
    refine om_iload_n O 3 dX9_goes_4 rfl rfl ?_
    refine om_iload_n O 1 dX9_goes_5 rfl rfl ?_
    refine om_icmp_ge O (tgt := 30) dX9_goes_6 (by decide) (fun c1o => ?_) (fun c1o => ?_)
    · replace h := (if_pos c1o).symm.trans h
      refine om_iload_n O 2 dX9_goes_30 rfl rfl ?_
      exact om_iret (st := []) O (om_eI hE h) rfl dX9_goes_31
    · replace h := (if_neg c1o).symm.trans h
      refine om_iload_n O 2 dX9_goes_9 rfl rfl ?_
      refine om_aload_n O 0 dX9_goes_10 rfl rfl ?_
      revert h; refine om_callR (fun r1o σ1o g1o h => ?_)
      refine cl_X9_161 O (st := [vI v2]) (stk := [vR (some a0), vI v2]) (st2 := [vI r1o, vI v2]) [] (fun l G => c_X9_aNight l G g1o) ka0 (om_lt ka0 (by decide)) (by decide) rfl rfl rfl_le rfl rfl_le rfl_le dX9_goes_11 ?_
      refine om_if_eq O (tgt := 21) dX9_goes_14 (by decide) (fun c2o => ?_) (fun c2o => ?_)
      · replace h := (if_pos c2o).symm.trans h
        refine om_iconst O (v := 0) dX9_goes_21 (by decide) ?_
        refine om_drop (lv' := [(0, vR (some a0)), (1, vI v1), (3, vI v3)]) [0, 1, 3] rfl ?_
        exact g_X9_goes_b22 O hE ih ka0 h
      · replace h := (if_neg c2o).symm.trans h
        refine om_iconst O (v := 1) dX9_goes_17 (by decide) ?_
        refine om_goto O (tgt := 22) dX9_goes_18 (by decide) ?_
        refine om_drop (lv' := [(0, vR (some a0)), (1, vI v1), (3, vI v3)]) [0, 1, 3] rfl ?_
        exact g_X9_goes_b22 O hE ih ka0 h
def f_X9_goes  (a0 : Nat) (v1 : Int32) (σ : om_S) : Option (Int32 × om_S) := if om_kc a0 = 9 then f_X9_goes_b4 om_F a0 v1 (0 : Int32) (0 : Int32) σ else none
set_option maxRecDepth 100000 in
theorem c_X9_goes (l : Launch) (G : om_G) {a0 : Nat} {v1 : Int32} {σ : om_S} {r : Int32} {τ : om_S} (h : f_X9_goes a0 v1 σ = some (r, τ)) : om_D l G 7 yX9_goes cX9_goes 4 (some FieldType.int) 0 0 [vR (some a0), vI v1] σ om_rf om_N (some (vI r)) τ om_rf om_N := by
  refine om_Dof (lv := [(0, vR (some a0)), (1, vI v1)]) (by decide) rfl_le rfl (fun x O hE => ?_)
  change om_Ok x RX9 "goes" cX9_goes 4 (some FieldType.int) 7 0 0 at O
  unfold f_X9_goes at h
  revert h; refine om_iteR (fun ka0 h => ?_)
  refine om_iconst O (v := 0) dX9_goes_0 (by decide) ?_
  refine om_istore_n O (lv' := [(0, vR (some a0)), (1, vI v1), (2, vI (0 : Int32))]) [1, 2, 0] rfl dX9_goes_1 rfl (by decide) rfl ?_
  refine om_iconst O (v := 0) dX9_goes_2 (by decide) ?_
  refine om_istore_n O (lv' := [(0, vR (some a0)), (1, vI v1), (2, vI (0 : Int32)), (3, vI (0 : Int32))]) [1, 2, 3, 0] rfl dX9_goes_3 rfl (by decide) rfl ?_
  exact g_X9_goes_b4 O hE om_F _ _ _ _ _ ka0 h
def f_X9_draw  (a0 : Nat) (σ : om_S) : Option (Int32 × om_S) := if om_kc a0 = 9 then om_ref (om_rf a0 0) 20 fun (t1o : Nat) => om_ref (om_rf a0 0) 20 fun (t2o : Nat) => if om_in (3 : Int32) (om_al t2o) then if om_in (3 : Int32) (om_al t1o) then om_let (om_w σ t1o (3 : Int32).toNatClampNeg (((σ t2o (3 : Int32).toNatClampNeg) * (1103515245 : Int32)) + (12345 : Int32))) fun (σ1o : om_S) => om_ref (om_rf a0 0) 20 fun (t3o : Nat) => if om_in (3 : Int32) (om_al t3o) then some ((((σ1o t3o (3 : Int32).toNatClampNeg).toUInt32 >>> ((8 : Int32).toUInt32 &&& Int32.toUInt32 31)).toInt32), σ1o) else none else none else none else none
set_option maxRecDepth 100000 in
theorem c_X9_draw (l : Launch) (G : om_G) {a0 : Nat} {σ : om_S} {r : Int32} {τ : om_S} (h : f_X9_draw a0 σ = some (r, τ)) : om_D l G 0 yX9_draw cX9_draw 1 (some FieldType.int) 0 0 [vR (some a0)] σ om_rf om_N (some (vI r)) τ om_rf om_N := by
  refine om_Dof (lv := [(0, vR (some a0))]) (by decide) rfl_le rfl (fun x O hE => ?_)
  change om_Ok x RX9 "draw" cX9_draw 1 (some FieldType.int) 0 0 0 at O
  unfold f_X9_draw at h
  revert h; refine om_iteR (fun ka0 h => ?_)
  refine om_aload_n O 0 dX9_draw_0 rfl rfl ?_
  revert h; refine om_refR (fun t1o y1o k1o h => ?_)
  refine gf_X9_7 O ka0 (om_lt ka0 (by decide)) dX9_draw_1 ?_
  rw [y1o]
  refine om_iconst O (v := 3) dX9_draw_4 (by decide) ?_
  refine om_aload_n O 0 dX9_draw_5 rfl rfl ?_
  revert h; refine om_refR (fun t2o y2o k2o h => ?_)
  refine gf_X9_7 O ka0 (om_lt ka0 (by decide)) dX9_draw_6 ?_
  rw [y2o]
  refine om_iconst O (v := 3) dX9_draw_9 (by decide) ?_
  revert h; refine om_iteR (fun i1o h => ?_)
  refine om_iald O k2o (om_lt k2o (by decide)) i1o dX9_draw_10 ?_
  refine om_ldc O (v := 1103515245) wd_1035 dX9_draw_11 ?_
  refine om_imul O dX9_draw_13 ?_
  refine om_sipush O (v := 12345) dX9_draw_14 (by decide) ?_
  refine om_iadd O dX9_draw_17 ?_
  revert h; refine om_iteR (fun i2o h => ?_)
  revert h; refine om_letR (fun σ1o e1o h => ?_)
  refine om_iast O k1o (om_lt k1o (by decide)) i2o dX9_draw_18 e1o ?_
  refine om_aload_n O 0 dX9_draw_19 rfl rfl ?_
  revert h; refine om_refR (fun t3o y3o k3o h => ?_)
  refine gf_X9_7 O ka0 (om_lt ka0 (by decide)) dX9_draw_20 ?_
  rw [y3o]
  refine om_iconst O (v := 3) dX9_draw_23 (by decide) ?_
  revert h; refine om_iteR (fun i3o h => ?_)
  refine om_iald O k3o (om_lt k3o (by decide)) i3o dX9_draw_24 ?_
  refine om_bipush O (v := 8) dX9_draw_25 (by decide) ?_
  refine om_iushr O dX9_draw_27 ?_
  exact om_iret (st := []) O (om_eI hE h) rfl dX9_draw_28
def f_X9_isKind  (v0 : Int32) (σ : om_S) : Option (Int32 × om_S) := om_call (f_X9_in v0 (0 : Int32) (69 : Int32) σ) fun (r1o : Int32) (σ1o : om_S) => if r1o = 0 ∨ r1o = 1 then some (r1o, σ1o) else none
set_option maxRecDepth 100000 in
theorem c_X9_isKind (l : Launch) (G : om_G) {v0 : Int32} {σ : om_S} {r : Int32} {τ : om_S} (h : f_X9_isKind v0 σ = some (r, τ)) : om_D l G 1 yX9_isKind cX9_isKind 1 (some FieldType.boolean) 0 0 [vI v0] σ om_rf om_N (some (vI r)) τ om_rf om_N := by
  refine om_Dof (lv := [(0, vI v0)]) (by decide) rfl_le rfl (fun x O hE => ?_)
  change om_Ok x RX9 "isKind" cX9_isKind 1 (some FieldType.boolean) 1 0 0 at O
  unfold f_X9_isKind at h
  refine om_iload_n O 0 dX9_isKind_0 rfl rfl ?_
  refine om_iconst O (v := 0) dX9_isKind_1 (by decide) ?_
  refine om_bipush O (v := 69) dX9_isKind_2 (by decide) ?_
  revert h; refine om_callR (fun r1o σ1o g1o h => ?_)
  refine cl_X9_57 O (st := []) (stk := [vI (69 : Int32), vI (0 : Int32), vI v0]) (st2 := [vI r1o]) [vI v0, vI (0 : Int32), vI (69 : Int32)] (fun l G => c_X9_in l G g1o) (by decide) rfl rfl rfl_le rfl rfl_le rfl_le dX9_isKind_4 ?_
  revert h; refine om_iteR (fun z1o h => ?_)
  exact om_zret (st := []) O z1o (om_eI hE h) rfl dX9_isKind_7
def f_X9_memory_b28  (a0 : Nat) (σ : om_S) : Option (Int32 × om_S) := om_call (f_X9_error a0 (1 : Int32) σ) fun (r1o : Int32) (σ1o : om_S) => some (r1o, σ1o)
set_option maxRecDepth 100000 in
theorem g_X9_memory_b28 {x : om_X}   (O : om_Ok x RX9 "memory" cX9_memory 5 (some FieldType.int) 2 0 0)   {r : Int32} {τ : om_S} (hE : om_End x (some (vI r)) τ om_rf om_N 0 0)   {a0 : Nat} {σ : om_S} (ka0 : om_kc a0 = 9) (h : f_X9_memory_b28 a0 σ = some (r, τ)) : om_J x 28 [(0, vR (some a0))] [] σ om_rf om_N 0 0 := by
  unfold f_X9_memory_b28 at h
  refine om_aload_n O 0 dX9_memory_28 rfl rfl ?_
  refine om_iconst O (v := 1) dX9_memory_29 (by decide) ?_
  revert h; refine om_callR (fun r1o σ1o g1o h => ?_)
  refine cl_X9_61 O (st := []) (stk := [vI (1 : Int32), vR (some a0)]) (st2 := [vI r1o]) [vI (1 : Int32)] (fun l G => c_X9_error l G g1o) ka0 (om_lt ka0 (by decide)) (by decide) rfl rfl rfl_le rfl rfl_le rfl_le dX9_memory_30 ?_
  exact om_iret (st := []) O (om_eI hE h) rfl dX9_memory_33
def f_X9_memory  (a0 : Nat) (v1 : Int32) (v2 : Int32) (v3 : Int32) (σ : om_S) : Option (Int32 × om_S) := if om_kc a0 = 9 then om_call (f_X9_isKind v1 σ) fun (r1o : Int32) (σ1o : om_S) => if r1o = 0 then (f_X9_memory_b28 a0 σ1o) else (om_call (f_X9_in v2 (1 : Int32) (15 : Int32) σ1o) fun (r2o : Int32) (σ2o : om_S) => if r2o = 0 then (f_X9_memory_b28 a0 σ2o) else (om_call (f_X9_in v3 (0 : Int32) (9999 : Int32) σ2o) fun (r3o : Int32) (σ3o : om_S) => if r3o = 0 then (f_X9_memory_b28 a0 σ3o) else (om_ref (om_rf a0 0) 20 fun (t1o : Nat) => if om_in (6 : Int32) (om_al t1o) then if (σ3o t1o (6 : Int32).toNatClampNeg) = (9 : Int32) then (om_call (f_X9_error a0 (4 : Int32) σ3o) fun (r4o : Int32) (σ4o : om_S) => some (r4o, σ4o)) else (om_ref (om_rf a0 0) 20 fun (t2o : Nat) => if om_in (6 : Int32) (om_al t2o) then om_let (σ3o t2o (6 : Int32).toNatClampNeg) fun (x1o : Int32) => om_do (f_X9_lays1 a0 x1o (0 : Int32) (v1 / (10 : Int32)) σ3o) fun (σ5o : om_S) => om_do (f_X9_lays1 a0 x1o (1 : Int32) (v1 - v1 / (10 : Int32) * (10 : Int32)) σ5o) fun (σ6o : om_S) => om_do (f_X9_lays1 a0 x1o (2 : Int32) v2 σ6o) fun (σ7o : om_S) => om_do (f_X9_lays1 a0 x1o (3 : Int32) (v3 / (100 : Int32)) σ7o) fun (σ8o : om_S) => om_do (f_X9_lays1 a0 x1o (4 : Int32) (v3 - v3 / (100 : Int32) * (100 : Int32)) σ8o) fun (σ9o : om_S) => om_ref (om_rf a0 0) 20 fun (t3o : Nat) => if om_in (6 : Int32) (om_al t3o) then if om_in (6 : Int32) (om_al t3o) then om_let (om_w σ9o t3o (6 : Int32).toNatClampNeg ((σ9o t3o (6 : Int32).toNatClampNeg) + (1 : Int32))) fun (σ10o : om_S) => some (x1o, σ10o) else none else none else none) else none))) else none
set_option maxRecDepth 100000 in
theorem c_X9_memory (l : Launch) (G : om_G) {a0 : Nat} {v1 : Int32} {v2 : Int32} {v3 : Int32} {σ : om_S} {r : Int32} {τ : om_S} (h : f_X9_memory a0 v1 v2 v3 σ = some (r, τ)) : om_D l G 2 yX9_memory cX9_memory 5 (some FieldType.int) 0 0 [vR (some a0), vI v1, vI v2, vI v3] σ om_rf om_N (some (vI r)) τ om_rf om_N := by
  refine om_Dof (lv := [(0, vR (some a0)), (1, vI v1), (2, vI v2), (3, vI v3)]) (by decide) rfl_le rfl (fun x O hE => ?_)
  change om_Ok x RX9 "memory" cX9_memory 5 (some FieldType.int) 2 0 0 at O
  unfold f_X9_memory at h
  revert h; refine om_iteR (fun ka0 h => ?_)
  refine om_iload_n O 1 dX9_memory_0 rfl rfl ?_
  revert h; refine om_callR (fun r1o σ1o g1o h => ?_)
  refine cl_X9_165 O (st := []) (stk := [vI v1]) (st2 := [vI r1o]) [vI v1] (fun l G => c_X9_isKind l G g1o) (by decide) rfl rfl rfl_le rfl rfl_le rfl_le dX9_memory_1 ?_
  refine om_if_eq O (tgt := 28) dX9_memory_4 (by decide) (fun c1o => ?_) (fun c1o => ?_)
  · replace h := (if_pos c1o).symm.trans h
    refine om_drop (lv' := [(0, vR (some a0))]) [0] rfl ?_
    exact g_X9_memory_b28 O hE ka0 h
  · replace h := (if_neg c1o).symm.trans h
    refine om_iload_n O 2 dX9_memory_7 rfl rfl ?_
    refine om_iconst O (v := 1) dX9_memory_8 (by decide) ?_
    refine om_bipush O (v := 15) dX9_memory_9 (by decide) ?_
    revert h; refine om_callR (fun r2o σ2o g2o h => ?_)
    refine cl_X9_57 O (st := []) (stk := [vI (15 : Int32), vI (1 : Int32), vI v2]) (st2 := [vI r2o]) [vI v2, vI (1 : Int32), vI (15 : Int32)] (fun l G => c_X9_in l G g2o) (by decide) rfl rfl rfl_le rfl rfl_le rfl_le dX9_memory_11 ?_
    refine om_if_eq O (tgt := 28) dX9_memory_14 (by decide) (fun c2o => ?_) (fun c2o => ?_)
    · replace h := (if_pos c2o).symm.trans h
      refine om_drop (lv' := [(0, vR (some a0))]) [0] rfl ?_
      exact g_X9_memory_b28 O hE ka0 h
    · replace h := (if_neg c2o).symm.trans h
      refine om_iload_n O 3 dX9_memory_17 rfl rfl ?_
      refine om_iconst O (v := 0) dX9_memory_18 (by decide) ?_
      refine om_sipush O (v := 9999) dX9_memory_19 (by decide) ?_
      revert h; refine om_callR (fun r3o σ3o g3o h => ?_)
      refine cl_X9_57 O (st := []) (stk := [vI (9999 : Int32), vI (0 : Int32), vI v3]) (st2 := [vI r3o]) [vI v3, vI (0 : Int32), vI (9999 : Int32)] (fun l G => c_X9_in l G g3o) (by decide) rfl rfl rfl_le rfl rfl_le rfl_le dX9_memory_22 ?_
      refine om_if_ne O (tgt := 34) dX9_memory_25 (by decide) (fun c3o => ?_) (fun c3o => ?_)
      · replace h := (if_pos c3o).symm.trans h
        refine om_drop (lv' := [(0, vR (some a0))]) [0] rfl ?_
        exact g_X9_memory_b28 O hE ka0 h
      · replace h := (if_neg c3o).symm.trans h
        refine om_aload_n O 0 dX9_memory_34 rfl rfl ?_
        revert h; refine om_refR (fun t1o y1o k1o h => ?_)
        refine gf_X9_7 O ka0 (om_lt ka0 (by decide)) dX9_memory_35 ?_
        rw [y1o]
        refine om_bipush O (v := 6) dX9_memory_38 (by decide) ?_
        revert h; refine om_iteR (fun i1o h => ?_)
        refine om_iald O k1o (om_lt k1o (by decide)) i1o dX9_memory_40 ?_
        refine om_bipush O (v := 9) dX9_memory_41 (by decide) ?_
        refine om_icmp_ne O (tgt := 52) dX9_memory_43 (by decide) (fun c4o => ?_) (fun c4o => ?_)
        · replace h := (if_pos c4o).symm.trans h
          refine om_aload_n O 0 dX9_memory_46 rfl rfl ?_
          refine om_iconst O (v := 4) dX9_memory_47 (by decide) ?_
          revert h; refine om_callR (fun r4o σ4o g4o h => ?_)
          refine cl_X9_61 O (st := []) (stk := [vI (4 : Int32), vR (some a0)]) (st2 := [vI r4o]) [vI (4 : Int32)] (fun l G => c_X9_error l G g4o) ka0 (om_lt ka0 (by decide)) (by decide) rfl rfl rfl_le rfl rfl_le rfl_le dX9_memory_48 ?_
          exact om_iret (st := []) O (om_eI hE h) rfl dX9_memory_51
        · replace h := (if_neg c4o).symm.trans h
          refine om_aload_n O 0 dX9_memory_52 rfl rfl ?_
          revert h; refine om_refR (fun t2o y2o k2o h => ?_)
          refine gf_X9_7 O ka0 (om_lt ka0 (by decide)) dX9_memory_53 ?_
          rw [y2o]
          refine om_bipush O (v := 6) dX9_memory_56 (by decide) ?_
          revert h; refine om_iteR (fun i2o h => ?_)
          refine om_iald O k2o (om_lt k2o (by decide)) i2o dX9_memory_58 ?_
          revert h; refine om_letR (fun x1o e1o h => ?_)
          refine om_istore O (lv' := [(0, vR (some a0)), (1, vI v1), (2, vI v2), (3, vI v3), (4, vI x1o)]) [1, 2, 3, 4, 0] e1o dX9_memory_59 (by decide) rfl ?_
          refine om_aload_n O 0 dX9_memory_61 rfl rfl ?_
          refine om_iload O 4 dX9_memory_62 rfl ?_
          refine om_iconst O (v := 0) dX9_memory_64 (by decide) ?_
          refine om_iload_n O 1 dX9_memory_65 rfl rfl ?_
          refine om_bipush O (v := 10) dX9_memory_66 (by decide) ?_
          refine om_idiv O dX9_memory_68 (by decide) ?_
          revert h; refine om_doR (fun σ5o g5o h => ?_)
          refine cl_X9_157 O (st := []) (stk := [vI (v1 / (10 : Int32)), vI (0 : Int32), vI x1o, vR (some a0)]) (st2 := []) [vI x1o, vI (0 : Int32), vI (v1 / (10 : Int32))] (fun l G => c_X9_lays1 l G g5o) ka0 (om_lt ka0 (by decide)) (by decide) rfl rfl rfl_le rfl rfl_le rfl_le dX9_memory_69 ?_
          refine om_aload_n O 0 dX9_memory_72 rfl rfl ?_
          refine om_iload O 4 dX9_memory_73 rfl ?_
          refine om_iconst O (v := 1) dX9_memory_75 (by decide) ?_
          refine om_iload_n O 1 dX9_memory_76 rfl rfl ?_
          refine om_bipush O (v := 10) dX9_memory_77 (by decide) ?_
          refine om_irem O dX9_memory_79 (by decide) ?_
          revert h; refine om_doR (fun σ6o g6o h => ?_)
          refine cl_X9_157 O (st := []) (stk := [vI (v1 - v1 / (10 : Int32) * (10 : Int32)), vI (1 : Int32), vI x1o, vR (some a0)]) (st2 := []) [vI x1o, vI (1 : Int32), vI (v1 - v1 / (10 : Int32) * (10 : Int32))] (fun l G => c_X9_lays1 l G g6o) ka0 (om_lt ka0 (by decide)) (by decide) rfl rfl rfl_le rfl rfl_le rfl_le dX9_memory_80 ?_
          refine om_aload_n O 0 dX9_memory_83 rfl rfl ?_
          refine om_iload O 4 dX9_memory_84 rfl ?_
          refine om_iconst O (v := 2) dX9_memory_86 (by decide) ?_
          refine om_iload_n O 2 dX9_memory_87 rfl rfl ?_
          revert h; refine om_doR (fun σ7o g7o h => ?_)
          refine cl_X9_157 O (st := []) (stk := [vI v2, vI (2 : Int32), vI x1o, vR (some a0)]) (st2 := []) [vI x1o, vI (2 : Int32), vI v2] (fun l G => c_X9_lays1 l G g7o) ka0 (om_lt ka0 (by decide)) (by decide) rfl rfl rfl_le rfl rfl_le rfl_le dX9_memory_88 ?_
          refine om_aload_n O 0 dX9_memory_91 rfl rfl ?_
          refine om_iload O 4 dX9_memory_92 rfl ?_
          refine om_iconst O (v := 3) dX9_memory_94 (by decide) ?_
          refine om_iload_n O 3 dX9_memory_95 rfl rfl ?_
          refine om_bipush O (v := 100) dX9_memory_96 (by decide) ?_
          refine om_idiv O dX9_memory_98 (by decide) ?_
          revert h; refine om_doR (fun σ8o g8o h => ?_)
          refine cl_X9_157 O (st := []) (stk := [vI (v3 / (100 : Int32)), vI (3 : Int32), vI x1o, vR (some a0)]) (st2 := []) [vI x1o, vI (3 : Int32), vI (v3 / (100 : Int32))] (fun l G => c_X9_lays1 l G g8o) ka0 (om_lt ka0 (by decide)) (by decide) rfl rfl rfl_le rfl rfl_le rfl_le dX9_memory_99 ?_
          refine om_aload_n O 0 dX9_memory_102 rfl rfl ?_
          refine om_iload O 4 dX9_memory_103 rfl ?_
          refine om_iconst O (v := 4) dX9_memory_105 (by decide) ?_
          refine om_iload_n O 3 dX9_memory_106 rfl rfl ?_
          refine om_bipush O (v := 100) dX9_memory_107 (by decide) ?_
          refine om_irem O dX9_memory_109 (by decide) ?_
          revert h; refine om_doR (fun σ9o g9o h => ?_)
          refine cl_X9_157 O (st := []) (stk := [vI (v3 - v3 / (100 : Int32) * (100 : Int32)), vI (4 : Int32), vI x1o, vR (some a0)]) (st2 := []) [vI x1o, vI (4 : Int32), vI (v3 - v3 / (100 : Int32) * (100 : Int32))] (fun l G => c_X9_lays1 l G g9o) ka0 (om_lt ka0 (by decide)) (by decide) rfl rfl rfl_le rfl rfl_le rfl_le dX9_memory_110 ?_
          refine om_aload_n O 0 dX9_memory_113 rfl rfl ?_
          revert h; refine om_refR (fun t3o y3o k3o h => ?_)
          refine gf_X9_7 O ka0 (om_lt ka0 (by decide)) dX9_memory_114 ?_
          rw [y3o]
          refine om_bipush O (v := 6) dX9_memory_117 (by decide) ?_
          refine om_dup2 O rfl rfl dX9_memory_119 ?_
          revert h; refine om_iteR (fun i3o h => ?_)
          refine om_iald O k3o (om_lt k3o (by decide)) i3o dX9_memory_120 ?_
          refine om_iconst O (v := 1) dX9_memory_121 (by decide) ?_
          refine om_iadd O dX9_memory_122 ?_
          revert h; refine om_iteR (fun i4o h => ?_)
          revert h; refine om_letR (fun σ10o e2o h => ?_)
          refine om_iast O k3o (om_lt k3o (by decide)) i4o dX9_memory_123 e2o ?_
          refine om_iload O 4 dX9_memory_124 rfl ?_
          exact om_iret (st := []) O (om_eI hE h) rfl dX9_memory_126
def f_X9_memoryIs_b18  (a0 : Nat) (σ : om_S) : Option (Int32 × om_S) := om_call (f_X9_error a0 (1 : Int32) σ) fun (r1o : Int32) (σ1o : om_S) => some (r1o, σ1o)
set_option maxRecDepth 100000 in
theorem g_X9_memoryIs_b18 {x : om_X}   (O : om_Ok x RX9 "memoryIs" cX9_memoryIs 4 (some FieldType.int) 4 0 0)   {r : Int32} {τ : om_S} (hE : om_End x (some (vI r)) τ om_rf om_N 0 0)   {a0 : Nat} {σ : om_S} (ka0 : om_kc a0 = 9) (h : f_X9_memoryIs_b18 a0 σ = some (r, τ)) : om_J x 18 [(0, vR (some a0))] [] σ om_rf om_N 0 0 := by
  unfold f_X9_memoryIs_b18 at h
  refine om_aload_n O 0 dX9_memoryIs_18 rfl rfl ?_
  refine om_iconst O (v := 1) dX9_memoryIs_19 (by decide) ?_
  revert h; refine om_callR (fun r1o σ1o g1o h => ?_)
  refine cl_X9_61 O (st := []) (stk := [vI (1 : Int32), vR (some a0)]) (st2 := [vI r1o]) [vI (1 : Int32)] (fun l G => c_X9_error l G g1o) ka0 (om_lt ka0 (by decide)) (by decide) rfl rfl rfl_le rfl rfl_le rfl_le dX9_memoryIs_20 ?_
  exact om_iret (st := []) O (om_eI hE h) rfl dX9_memoryIs_23
def f_X9_memoryIs  (a0 : Nat) (v1 : Int32) (v2 : Int32) (σ : om_S) : Option (Int32 × om_S) := if om_kc a0 = 9 then om_call (f_X9_isMemory a0 v1 σ) fun (r1o : Int32) (σ1o : om_S) => if r1o = 0 then (f_X9_memoryIs_b18 a0 σ1o) else (om_call (f_X9_in v2 (0 : Int32) (6 : Int32) σ1o) fun (r2o : Int32) (σ2o : om_S) => if r2o = 0 then (f_X9_memoryIs_b18 a0 σ2o) else (om_call (f_X9_its a0 v1 (2 : Int32) σ2o) fun (r3o : Int32) (σ3o : om_S) => if (5 : Int32) ≤ v2 then (if v2 = (5 : Int32) then (om_call (f_X9_lightBy a0 v1 r3o σ3o) fun (r4o : Int32) (σ4o : om_S) => some (r4o, σ4o)) else (om_call (f_X9_manyIn r3o σ3o) fun (r5o : Int32) (σ5o : om_S) => om_call (f_X9_smokeOf a0 v1 r5o σ5o) fun (r6o : Int32) (σ6o : om_S) => some (r6o, σ6o))) else (om_call (f_X9_its a0 v1 v2 σ3o) fun (r7o : Int32) (σ7o : om_S) => some (r7o, σ7o)))) else none
set_option maxRecDepth 100000 in
theorem c_X9_memoryIs (l : Launch) (G : om_G) {a0 : Nat} {v1 : Int32} {v2 : Int32} {σ : om_S} {r : Int32} {τ : om_S} (h : f_X9_memoryIs a0 v1 v2 σ = some (r, τ)) : om_D l G 4 yX9_memoryIs cX9_memoryIs 4 (some FieldType.int) 0 0 [vR (some a0), vI v1, vI v2] σ om_rf om_N (some (vI r)) τ om_rf om_N := by
  refine om_Dof (lv := [(0, vR (some a0)), (1, vI v1), (2, vI v2)]) (by decide) rfl_le rfl (fun x O hE => ?_)
  change om_Ok x RX9 "memoryIs" cX9_memoryIs 4 (some FieldType.int) 4 0 0 at O
  unfold f_X9_memoryIs at h
  revert h; refine om_iteR (fun ka0 h => ?_)
  refine om_aload_n O 0 dX9_memoryIs_0 rfl rfl ?_
  refine om_iload_n O 1 dX9_memoryIs_1 rfl rfl ?_
  revert h; refine om_callR (fun r1o σ1o g1o h => ?_)
  refine cl_X9_168 O (st := []) (stk := [vI v1, vR (some a0)]) (st2 := [vI r1o]) [vI v1] (fun l G => c_X9_isMemory l G g1o) ka0 (om_lt ka0 (by decide)) (by decide) rfl rfl rfl_le rfl rfl_le rfl_le dX9_memoryIs_2 ?_
  refine om_if_eq O (tgt := 18) dX9_memoryIs_5 (by decide) (fun c1o => ?_) (fun c1o => ?_)
  · replace h := (if_pos c1o).symm.trans h
    refine om_drop (lv' := [(0, vR (some a0))]) [0] rfl ?_
    exact g_X9_memoryIs_b18 O hE ka0 h
  · replace h := (if_neg c1o).symm.trans h
    refine om_iload_n O 2 dX9_memoryIs_8 rfl rfl ?_
    refine om_iconst O (v := 0) dX9_memoryIs_9 (by decide) ?_
    refine om_bipush O (v := 6) dX9_memoryIs_10 (by decide) ?_
    revert h; refine om_callR (fun r2o σ2o g2o h => ?_)
    refine cl_X9_57 O (st := []) (stk := [vI (6 : Int32), vI (0 : Int32), vI v2]) (st2 := [vI r2o]) [vI v2, vI (0 : Int32), vI (6 : Int32)] (fun l G => c_X9_in l G g2o) (by decide) rfl rfl rfl_le rfl rfl_le rfl_le dX9_memoryIs_12 ?_
    refine om_if_ne O (tgt := 24) dX9_memoryIs_15 (by decide) (fun c2o => ?_) (fun c2o => ?_)
    · replace h := (if_pos c2o).symm.trans h
      refine om_drop (lv' := [(0, vR (some a0))]) [0] rfl ?_
      exact g_X9_memoryIs_b18 O hE ka0 h
    · replace h := (if_neg c2o).symm.trans h
      refine om_aload_n O 0 dX9_memoryIs_24 rfl rfl ?_
      refine om_iload_n O 1 dX9_memoryIs_25 rfl rfl ?_
      refine om_iconst O (v := 2) dX9_memoryIs_26 (by decide) ?_
      revert h; refine om_callR (fun r3o σ3o g3o h => ?_)
      refine cl_X9_120 O (st := []) (stk := [vI (2 : Int32), vI v1, vR (some a0)]) (st2 := [vI r3o]) [vI v1, vI (2 : Int32)] (fun l G => c_X9_its l G g3o) ka0 (om_lt ka0 (by decide)) (by decide) rfl rfl rfl_le rfl rfl_le rfl_le dX9_memoryIs_27 ?_
      refine om_istore_n O (lv' := [(0, vR (some a0)), (1, vI v1), (2, vI v2), (3, vI r3o)]) [1, 2, 3, 0] rfl dX9_memoryIs_30 rfl (by decide) rfl ?_
      refine om_iload_n O 2 dX9_memoryIs_31 rfl rfl ?_
      refine om_iconst O (v := 5) dX9_memoryIs_32 (by decide) ?_
      refine om_icmp_ge O (tgt := 45) dX9_memoryIs_33 (by decide) (fun c3o => ?_) (fun c3o => ?_)
      · replace h := (if_pos c3o).symm.trans h
        refine om_iload_n O 2 dX9_memoryIs_45 rfl rfl ?_
        refine om_iconst O (v := 5) dX9_memoryIs_46 (by decide) ?_
        refine om_icmp_ne O (tgt := 59) dX9_memoryIs_47 (by decide) (fun c4o => ?_) (fun c4o => ?_)
        · replace h := (if_pos c4o).symm.trans h
          refine om_aload_n O 0 dX9_memoryIs_50 rfl rfl ?_
          refine om_iload_n O 1 dX9_memoryIs_51 rfl rfl ?_
          refine om_iload_n O 3 dX9_memoryIs_52 rfl rfl ?_
          revert h; refine om_callR (fun r4o σ4o g4o h => ?_)
          refine cl_X9_139 O (st := []) (stk := [vI r3o, vI v1, vR (some a0)]) (st2 := [vI r4o]) [vI v1, vI r3o] (fun l G => c_X9_lightBy l G g4o) ka0 (om_lt ka0 (by decide)) (by decide) rfl rfl rfl_le rfl rfl_le rfl_le dX9_memoryIs_53 ?_
          refine om_goto O (tgt := 68) dX9_memoryIs_56 (by decide) ?_
          exact om_iret (st := []) O (om_eI hE h) rfl dX9_memoryIs_68
        · replace h := (if_neg c4o).symm.trans h
          refine om_aload_n O 0 dX9_memoryIs_59 rfl rfl ?_
          refine om_iload_n O 1 dX9_memoryIs_60 rfl rfl ?_
          refine om_iload_n O 3 dX9_memoryIs_61 rfl rfl ?_
          revert h; refine om_callR (fun r5o σ5o g5o h => ?_)
          refine cl_X9_130 O (st := [vI v1, vR (some a0)]) (stk := [vI r3o, vI v1, vR (some a0)]) (st2 := [vI r5o, vI v1, vR (some a0)]) [vI r3o] (fun l G => c_X9_manyIn l G g5o) (by decide) rfl rfl rfl_le rfl rfl_le rfl_le dX9_memoryIs_62 ?_
          revert h; refine om_callR (fun r6o σ6o g6o h => ?_)
          refine cl_X9_142 O (st := []) (stk := [vI r5o, vI v1, vR (some a0)]) (st2 := [vI r6o]) [vI v1, vI r5o] (fun l G => c_X9_smokeOf l G g6o) ka0 (om_lt ka0 (by decide)) (by decide) rfl rfl rfl_le rfl rfl_le rfl_le dX9_memoryIs_65 ?_
          exact om_iret (st := []) O (om_eI hE h) rfl dX9_memoryIs_68
      · replace h := (if_neg c3o).symm.trans h
        refine om_aload_n O 0 dX9_memoryIs_36 rfl rfl ?_
        refine om_iload_n O 1 dX9_memoryIs_37 rfl rfl ?_
        refine om_iload_n O 2 dX9_memoryIs_38 rfl rfl ?_
        revert h; refine om_callR (fun r7o σ7o g7o h => ?_)
        refine cl_X9_120 O (st := []) (stk := [vI v2, vI v1, vR (some a0)]) (st2 := [vI r7o]) [vI v1, vI v2] (fun l G => c_X9_its l G g7o) ka0 (om_lt ka0 (by decide)) (by decide) rfl rfl rfl_le rfl rfl_le rfl_le dX9_memoryIs_39 ?_
        refine om_goto O (tgt := 68) dX9_memoryIs_42 (by decide) ?_
        exact om_iret (st := []) O (om_eI hE h) rfl dX9_memoryIs_68
def f_X9_become_b15  (a0 : Nat) (σ : om_S) : Option (Int32 × om_S) := om_call (f_X9_error a0 (1 : Int32) σ) fun (r1o : Int32) (σ1o : om_S) => some (r1o, σ1o)
set_option maxRecDepth 100000 in
theorem g_X9_become_b15 {x : om_X}   (O : om_Ok x RX9 "become" cX9_become 3 (some FieldType.int) 2 0 0)   {r : Int32} {τ : om_S} (hE : om_End x (some (vI r)) τ om_rf om_N 0 0)   {a0 : Nat} {σ : om_S} (ka0 : om_kc a0 = 9) (h : f_X9_become_b15 a0 σ = some (r, τ)) : om_J x 15 [(0, vR (some a0))] [] σ om_rf om_N 0 0 := by
  unfold f_X9_become_b15 at h
  refine om_aload_n O 0 dX9_become_15 rfl rfl ?_
  refine om_iconst O (v := 1) dX9_become_16 (by decide) ?_
  revert h; refine om_callR (fun r1o σ1o g1o h => ?_)
  refine cl_X9_61 O (st := []) (stk := [vI (1 : Int32), vR (some a0)]) (st2 := [vI r1o]) [vI (1 : Int32)] (fun l G => c_X9_error l G g1o) ka0 (om_lt ka0 (by decide)) (by decide) rfl rfl rfl_le rfl rfl_le rfl_le dX9_become_17 ?_
  exact om_iret (st := []) O (om_eI hE h) rfl dX9_become_20
def f_X9_become  (a0 : Nat) (v1 : Int32) (v2 : Int32) (σ : om_S) : Option (Int32 × om_S) := if om_kc a0 = 9 then om_call (f_X9_isMemory a0 v1 σ) fun (r1o : Int32) (σ1o : om_S) => if r1o = 0 then (f_X9_become_b15 a0 σ1o) else (om_call (f_X9_isKind v2 σ1o) fun (r2o : Int32) (σ2o : om_S) => if r2o = 0 then (f_X9_become_b15 a0 σ2o) else (om_do (f_X9_lays1 a0 v1 (1 : Int32) (v2 - v2 / (10 : Int32) * (10 : Int32)) σ2o) fun (σ3o : om_S) => om_call (f_X9_change1 a0 (((8 : Int32) + ((5 : Int32) * v1)) + (0 : Int32)) (v2 / (10 : Int32)) σ3o) fun (r3o : Int32) (σ4o : om_S) => some (r3o, σ4o))) else none
set_option maxRecDepth 100000 in
theorem c_X9_become (l : Launch) (G : om_G) {a0 : Nat} {v1 : Int32} {v2 : Int32} {σ : om_S} {r : Int32} {τ : om_S} (h : f_X9_become a0 v1 v2 σ = some (r, τ)) : om_D l G 2 yX9_become cX9_become 3 (some FieldType.int) 0 0 [vR (some a0), vI v1, vI v2] σ om_rf om_N (some (vI r)) τ om_rf om_N := by
  refine om_Dof (lv := [(0, vR (some a0)), (1, vI v1), (2, vI v2)]) (by decide) rfl_le rfl (fun x O hE => ?_)
  change om_Ok x RX9 "become" cX9_become 3 (some FieldType.int) 2 0 0 at O
  unfold f_X9_become at h
  revert h; refine om_iteR (fun ka0 h => ?_)
  refine om_aload_n O 0 dX9_become_0 rfl rfl ?_
  refine om_iload_n O 1 dX9_become_1 rfl rfl ?_
  revert h; refine om_callR (fun r1o σ1o g1o h => ?_)
  refine cl_X9_168 O (st := []) (stk := [vI v1, vR (some a0)]) (st2 := [vI r1o]) [vI v1] (fun l G => c_X9_isMemory l G g1o) ka0 (om_lt ka0 (by decide)) (by decide) rfl rfl rfl_le rfl rfl_le rfl_le dX9_become_2 ?_
  refine om_if_eq O (tgt := 15) dX9_become_5 (by decide) (fun c1o => ?_) (fun c1o => ?_)
  · replace h := (if_pos c1o).symm.trans h
    refine om_drop (lv' := [(0, vR (some a0))]) [0] rfl ?_
    exact g_X9_become_b15 O hE ka0 h
  · replace h := (if_neg c1o).symm.trans h
    refine om_iload_n O 2 dX9_become_8 rfl rfl ?_
    revert h; refine om_callR (fun r2o σ2o g2o h => ?_)
    refine cl_X9_165 O (st := []) (stk := [vI v2]) (st2 := [vI r2o]) [vI v2] (fun l G => c_X9_isKind l G g2o) (by decide) rfl rfl rfl_le rfl rfl_le rfl_le dX9_become_9 ?_
    refine om_if_ne O (tgt := 21) dX9_become_12 (by decide) (fun c2o => ?_) (fun c2o => ?_)
    · replace h := (if_pos c2o).symm.trans h
      refine om_drop (lv' := [(0, vR (some a0))]) [0] rfl ?_
      exact g_X9_become_b15 O hE ka0 h
    · replace h := (if_neg c2o).symm.trans h
      refine om_aload_n O 0 dX9_become_21 rfl rfl ?_
      refine om_iload_n O 1 dX9_become_22 rfl rfl ?_
      refine om_iconst O (v := 1) dX9_become_23 (by decide) ?_
      refine om_iload_n O 2 dX9_become_24 rfl rfl ?_
      refine om_bipush O (v := 10) dX9_become_25 (by decide) ?_
      refine om_irem O dX9_become_27 (by decide) ?_
      revert h; refine om_doR (fun σ3o g3o h => ?_)
      refine cl_X9_157 O (st := []) (stk := [vI (v2 - v2 / (10 : Int32) * (10 : Int32)), vI (1 : Int32), vI v1, vR (some a0)]) (st2 := []) [vI v1, vI (1 : Int32), vI (v2 - v2 / (10 : Int32) * (10 : Int32))] (fun l G => c_X9_lays1 l G g3o) ka0 (om_lt ka0 (by decide)) (by decide) rfl rfl rfl_le rfl rfl_le rfl_le dX9_become_28 ?_
      refine om_aload_n O 0 dX9_become_31 rfl rfl ?_
      refine om_bipush O (v := 8) dX9_become_32 (by decide) ?_
      refine om_iconst O (v := 5) dX9_become_34 (by decide) ?_
      refine om_iload_n O 1 dX9_become_35 rfl rfl ?_
      refine om_imul O dX9_become_36 ?_
      refine om_iadd O dX9_become_37 ?_
      refine om_iconst O (v := 0) dX9_become_38 (by decide) ?_
      refine om_iadd O dX9_become_39 ?_
      refine om_iload_n O 2 dX9_become_40 rfl rfl ?_
      refine om_bipush O (v := 10) dX9_become_41 (by decide) ?_
      refine om_idiv O dX9_become_43 (by decide) ?_
      revert h; refine om_callR (fun r3o σ4o g4o h => ?_)
      refine cl_X9_171 O (st := []) (stk := [vI (v2 / (10 : Int32)), vI (((8 : Int32) + ((5 : Int32) * v1)) + (0 : Int32)), vR (some a0)]) (st2 := [vI r3o]) [vI (((8 : Int32) + ((5 : Int32) * v1)) + (0 : Int32)), vI (v2 / (10 : Int32))] (fun l G => c_X9_change1 l G g4o) ka0 (om_lt ka0 (by decide)) (by decide) rfl rfl rfl_le rfl rfl_le rfl_le dX9_become_44 ?_
      exact om_iret (st := []) O (om_eI hE h) rfl dX9_become_47
def f_X9_above  (v0 : Int32) (σ : om_S) : Option (Int32 × om_S) := if v0 = (4 : Int32) then (some ((1 : Int32), σ)) else (if v0 = (5 : Int32) then (some ((2 : Int32), σ)) else (some ((0 : Int32), σ)))
set_option maxRecDepth 100000 in
theorem c_X9_above (l : Launch) (G : om_G) {v0 : Int32} {σ : om_S} {r : Int32} {τ : om_S} (h : f_X9_above v0 σ = some (r, τ)) : om_D l G 0 yX9_above cX9_above 1 (some FieldType.int) 0 0 [vI v0] σ om_rf om_N (some (vI r)) τ om_rf om_N := by
  refine om_Dof (lv := [(0, vI v0)]) (by decide) rfl_le rfl (fun x O hE => ?_)
  change om_Ok x RX9 "above" cX9_above 1 (some FieldType.int) 0 0 0 at O
  unfold f_X9_above at h
  refine om_iload_n O 0 dX9_above_0 rfl rfl ?_
  refine om_iconst O (v := 4) dX9_above_1 (by decide) ?_
  refine om_icmp_ne O (tgt := 9) dX9_above_2 (by decide) (fun c1o => ?_) (fun c1o => ?_)
  · replace h := (if_pos c1o).symm.trans h
    refine om_iconst O (v := 1) dX9_above_5 (by decide) ?_
    refine om_goto O (tgt := 19) dX9_above_6 (by decide) ?_
    exact om_iret (st := []) O (om_eI hE h) rfl dX9_above_19
  · replace h := (if_neg c1o).symm.trans h
    refine om_iload_n O 0 dX9_above_9 rfl rfl ?_
    refine om_iconst O (v := 5) dX9_above_10 (by decide) ?_
    refine om_icmp_ne O (tgt := 18) dX9_above_11 (by decide) (fun c2o => ?_) (fun c2o => ?_)
    · replace h := (if_pos c2o).symm.trans h
      refine om_iconst O (v := 2) dX9_above_14 (by decide) ?_
      refine om_goto O (tgt := 19) dX9_above_15 (by decide) ?_
      exact om_iret (st := []) O (om_eI hE h) rfl dX9_above_19
    · replace h := (if_neg c2o).symm.trans h
      refine om_iconst O (v := 0) dX9_above_18 (by decide) ?_
      exact om_iret (st := []) O (om_eI hE h) rfl dX9_above_19
def f_X9_as_b18  (a0 : Nat) (σ : om_S) : Option (Int32 × om_S) := om_call (f_X9_error a0 (1 : Int32) σ) fun (r1o : Int32) (σ1o : om_S) => some (r1o, σ1o)
set_option maxRecDepth 100000 in
theorem g_X9_as_b18 {x : om_X}   (O : om_Ok x RX9 "as" cX9_as 4 (some FieldType.int) 2 0 0)   {r : Int32} {τ : om_S} (hE : om_End x (some (vI r)) τ om_rf om_N 0 0)   {a0 : Nat} {σ : om_S} (ka0 : om_kc a0 = 9) (h : f_X9_as_b18 a0 σ = some (r, τ)) : om_J x 18 [(0, vR (some a0))] [] σ om_rf om_N 0 0 := by
  unfold f_X9_as_b18 at h
  refine om_aload_n O 0 dX9_as_18 rfl rfl ?_
  refine om_iconst O (v := 1) dX9_as_19 (by decide) ?_
  revert h; refine om_callR (fun r1o σ1o g1o h => ?_)
  refine cl_X9_61 O (st := []) (stk := [vI (1 : Int32), vR (some a0)]) (st2 := [vI r1o]) [vI (1 : Int32)] (fun l G => c_X9_error l G g1o) ka0 (om_lt ka0 (by decide)) (by decide) rfl rfl rfl_le rfl rfl_le rfl_le dX9_as_20 ?_
  exact om_iret (st := []) O (om_eI hE h) rfl dX9_as_23
def f_X9_as_b48  (a0 : Nat) (v1 : Int32) (v2 : Int32) (v3 : Int32) (σ : om_S) : Option (Int32 × om_S) := if v3 = v2 then (om_call (f_X9_its a0 v1 (1 : Int32) σ) fun (r1o : Int32) (σ1o : om_S) => some (r1o, σ1o)) else (om_call (f_X9_error a0 (5 : Int32) σ) fun (r2o : Int32) (σ2o : om_S) => some (r2o, σ2o))
set_option maxRecDepth 100000 in
theorem g_X9_as_b48 {x : om_X}   (O : om_Ok x RX9 "as" cX9_as 4 (some FieldType.int) 2 0 0)   {r : Int32} {τ : om_S} (hE : om_End x (some (vI r)) τ om_rf om_N 0 0)   {a0 : Nat} {v1 : Int32} {v2 : Int32} {v3 : Int32} {σ : om_S} (ka0 : om_kc a0 = 9) (h : f_X9_as_b48 a0 v1 v2 v3 σ = some (r, τ)) : om_J x 48 [(0, vR (some a0)), (1, vI v1), (2, vI v2), (3, vI v3)] [] σ om_rf om_N 0 0 := by
  unfold f_X9_as_b48 at h
  refine om_iload_n O 3 dX9_as_48 rfl rfl ?_
  refine om_iload_n O 2 dX9_as_49 rfl rfl ?_
  refine om_icmp_ne O (tgt := 62) dX9_as_50 (by decide) (fun c1o => ?_) (fun c1o => ?_)
  · replace h := (if_pos c1o).symm.trans h
    refine om_aload_n O 0 dX9_as_53 rfl rfl ?_
    refine om_iload_n O 1 dX9_as_54 rfl rfl ?_
    refine om_iconst O (v := 1) dX9_as_55 (by decide) ?_
    revert h; refine om_callR (fun r1o σ1o g1o h => ?_)
    refine cl_X9_120 O (st := []) (stk := [vI (1 : Int32), vI v1, vR (some a0)]) (st2 := [vI r1o]) [vI v1, vI (1 : Int32)] (fun l G => c_X9_its l G g1o) ka0 (om_lt ka0 (by decide)) (by decide) rfl rfl rfl_le rfl rfl_le rfl_le dX9_as_56 ?_
    refine om_goto O (tgt := 67) dX9_as_59 (by decide) ?_
    exact om_iret (st := []) O (om_eI hE h) rfl dX9_as_67
  · replace h := (if_neg c1o).symm.trans h
    refine om_aload_n O 0 dX9_as_62 rfl rfl ?_
    refine om_iconst O (v := 5) dX9_as_63 (by decide) ?_
    revert h; refine om_callR (fun r2o σ2o g2o h => ?_)
    refine cl_X9_61 O (st := []) (stk := [vI (5 : Int32), vR (some a0)]) (st2 := [vI r2o]) [vI (5 : Int32)] (fun l G => c_X9_error l G g2o) ka0 (om_lt ka0 (by decide)) (by decide) rfl rfl rfl_le rfl rfl_le rfl_le dX9_as_64 ?_
    exact om_iret (st := []) O (om_eI hE h) rfl dX9_as_67
def f_X9_as_b31  : Nat → Nat → Int32 → Int32 → Int32 → om_S → Option (Int32 × om_S)
  | 0, _, _, _, _, _ => none
  | F + 1, a0, v1, v2, v3, σ => if v3 = v2 then (f_X9_as_b48 a0 v1 v2 v3 σ) else (if v3 = 0 then (f_X9_as_b48 a0 v1 v2 v3 σ) else (om_call (f_X9_above v3 σ) fun (r1o : Int32) (σ1o : om_S) => (f_X9_as_b31 F) a0 v1 v2 r1o σ1o))
set_option maxRecDepth 100000 in
theorem g_X9_as_b31 {x : om_X}   (O : om_Ok x RX9 "as" cX9_as 4 (some FieldType.int) 2 0 0)   {r : Int32} {τ : om_S} (hE : om_End x (some (vI r)) τ om_rf om_N 0 0)   : ∀ (F : Nat) (a0 : Nat) (v1 : Int32) (v2 : Int32) (v3 : Int32) (σ : om_S) (ka0 : om_kc a0 = 9), f_X9_as_b31 F a0 v1 v2 v3 σ = some (r, τ) → om_J x 31 [(0, vR (some a0)), (1, vI v1), (2, vI v2), (3, vI v3)] [] σ om_rf om_N 0 0 := by
  intro F
  induction F with
  | zero =>
    intro a0 v1 v2 v3 σ ka0 h
    cases h
  | succ F ih =>
    intro a0 v1 v2 v3 σ ka0 h
    unfold f_X9_as_b31 at h
    refine om_iload_n O 3 dX9_as_31 rfl rfl ?_
    refine om_iload_n O 2 dX9_as_32 rfl rfl ?_
    refine om_icmp_eq O (tgt := 48) dX9_as_33 (by decide) (fun c1o => ?_) (fun c1o => ?_)
    · replace h := (if_pos c1o).symm.trans h
      exact g_X9_as_b48 O hE ka0 h
    · replace h := (if_neg c1o).symm.trans h
      refine om_iload_n O 3 dX9_as_36 rfl rfl ?_
      refine om_if_eq O (tgt := 48) dX9_as_37 (by decide) (fun c2o => ?_) (fun c2o => ?_)
      · replace h := (if_pos c2o).symm.trans h
        exact g_X9_as_b48 O hE ka0 h
      · replace h := (if_neg c2o).symm.trans h
        refine om_iload_n O 3 dX9_as_40 rfl rfl ?_
        revert h; refine om_callR (fun r1o σ1o g1o h => ?_)
        refine cl_X9_174 O (st := []) (stk := [vI v3]) (st2 := [vI r1o]) [vI v3] (fun l G => c_X9_above l G g1o) (by decide) rfl rfl rfl_le rfl rfl_le rfl_le dX9_as_41 ?_
        refine om_istore_n O (lv' := [(0, vR (some a0)), (1, vI v1), (2, vI v2), (3, vI r1o)]) [1, 2, 3, 0] rfl dX9_as_44 rfl (by decide) rfl ?_
        refine om_goto O (tgt := 31) dX9_as_45 (by decide) ?_
        exact ih _ _ _ _ _ ka0 h
def f_X9_as  (a0 : Nat) (v1 : Int32) (v2 : Int32) (σ : om_S) : Option (Int32 × om_S) := if om_kc a0 = 9 then om_call (f_X9_isMemory a0 v1 σ) fun (r1o : Int32) (σ1o : om_S) => if r1o = 0 then (f_X9_as_b18 a0 σ1o) else (om_call (f_X9_in v2 (0 : Int32) (6 : Int32) σ1o) fun (r2o : Int32) (σ2o : om_S) => if r2o = 0 then (f_X9_as_b18 a0 σ2o) else (om_call (f_X9_its a0 v1 (0 : Int32) σ2o) fun (r3o : Int32) (σ3o : om_S) => f_X9_as_b31 om_F a0 v1 v2 r3o σ3o)) else none
set_option maxRecDepth 100000 in
theorem c_X9_as (l : Launch) (G : om_G) {a0 : Nat} {v1 : Int32} {v2 : Int32} {σ : om_S} {r : Int32} {τ : om_S} (h : f_X9_as a0 v1 v2 σ = some (r, τ)) : om_D l G 2 yX9_as cX9_as 4 (some FieldType.int) 0 0 [vR (some a0), vI v1, vI v2] σ om_rf om_N (some (vI r)) τ om_rf om_N := by
  refine om_Dof (lv := [(0, vR (some a0)), (1, vI v1), (2, vI v2)]) (by decide) rfl_le rfl (fun x O hE => ?_)
  change om_Ok x RX9 "as" cX9_as 4 (some FieldType.int) 2 0 0 at O
  unfold f_X9_as at h
  revert h; refine om_iteR (fun ka0 h => ?_)
  refine om_aload_n O 0 dX9_as_0 rfl rfl ?_
  refine om_iload_n O 1 dX9_as_1 rfl rfl ?_
  revert h; refine om_callR (fun r1o σ1o g1o h => ?_)
  refine cl_X9_168 O (st := []) (stk := [vI v1, vR (some a0)]) (st2 := [vI r1o]) [vI v1] (fun l G => c_X9_isMemory l G g1o) ka0 (om_lt ka0 (by decide)) (by decide) rfl rfl rfl_le rfl rfl_le rfl_le dX9_as_2 ?_
  refine om_if_eq O (tgt := 18) dX9_as_5 (by decide) (fun c1o => ?_) (fun c1o => ?_)
  · replace h := (if_pos c1o).symm.trans h
    refine om_drop (lv' := [(0, vR (some a0))]) [0] rfl ?_
    exact g_X9_as_b18 O hE ka0 h
  · replace h := (if_neg c1o).symm.trans h
    refine om_iload_n O 2 dX9_as_8 rfl rfl ?_
    refine om_iconst O (v := 0) dX9_as_9 (by decide) ?_
    refine om_bipush O (v := 6) dX9_as_10 (by decide) ?_
    revert h; refine om_callR (fun r2o σ2o g2o h => ?_)
    refine cl_X9_57 O (st := []) (stk := [vI (6 : Int32), vI (0 : Int32), vI v2]) (st2 := [vI r2o]) [vI v2, vI (0 : Int32), vI (6 : Int32)] (fun l G => c_X9_in l G g2o) (by decide) rfl rfl rfl_le rfl rfl_le rfl_le dX9_as_12 ?_
    refine om_if_ne O (tgt := 24) dX9_as_15 (by decide) (fun c2o => ?_) (fun c2o => ?_)
    · replace h := (if_pos c2o).symm.trans h
      refine om_drop (lv' := [(0, vR (some a0))]) [0] rfl ?_
      exact g_X9_as_b18 O hE ka0 h
    · replace h := (if_neg c2o).symm.trans h
      refine om_aload_n O 0 dX9_as_24 rfl rfl ?_
      refine om_iload_n O 1 dX9_as_25 rfl rfl ?_
      refine om_iconst O (v := 0) dX9_as_26 (by decide) ?_
      revert h; refine om_callR (fun r3o σ3o g3o h => ?_)
      refine cl_X9_120 O (st := []) (stk := [vI (0 : Int32), vI v1, vR (some a0)]) (st2 := [vI r3o]) [vI v1, vI (0 : Int32)] (fun l G => c_X9_its l G g3o) ka0 (om_lt ka0 (by decide)) (by decide) rfl rfl rfl_le rfl rfl_le rfl_le dX9_as_27 ?_
      refine om_istore_n O (lv' := [(0, vR (some a0)), (1, vI v1), (2, vI v2), (3, vI r3o)]) [1, 2, 3, 0] rfl dX9_as_30 rfl (by decide) rfl ?_
      exact g_X9_as_b31 O hE om_F _ _ _ _ _ ka0 h
def f_X9_fills_b34  (a0 : Nat) (σ : om_S) : Option (Int32 × om_S) := om_call (f_X9_error a0 (1 : Int32) σ) fun (r1o : Int32) (σ1o : om_S) => some (r1o, σ1o)
set_option maxRecDepth 100000 in
theorem g_X9_fills_b34 {x : om_X}   (O : om_Ok x RX9 "fills" cX9_fills 3 (some FieldType.int) 2 0 0)   {r : Int32} {τ : om_S} (hE : om_End x (some (vI r)) τ om_rf om_N 0 0)   {a0 : Nat} {σ : om_S} (ka0 : om_kc a0 = 9) (h : f_X9_fills_b34 a0 σ = some (r, τ)) : om_J x 34 [(0, vR (some a0))] [] σ om_rf om_N 0 0 := by
  unfold f_X9_fills_b34 at h
  refine om_aload_n O 0 dX9_fills_34 rfl rfl ?_
  refine om_iconst O (v := 1) dX9_fills_35 (by decide) ?_
  revert h; refine om_callR (fun r1o σ1o g1o h => ?_)
  refine cl_X9_61 O (st := []) (stk := [vI (1 : Int32), vR (some a0)]) (st2 := [vI r1o]) [vI (1 : Int32)] (fun l G => c_X9_error l G g1o) ka0 (om_lt ka0 (by decide)) (by decide) rfl rfl rfl_le rfl rfl_le rfl_le dX9_fills_36 ?_
  exact om_iret (st := []) O (om_eI hE h) rfl dX9_fills_39
def f_X9_fills  (a0 : Nat) (v1 : Int32) (v2 : Int32) (σ : om_S) : Option (Int32 × om_S) := if om_kc a0 = 9 then om_call (f_X9_isMemory a0 v1 σ) fun (r1o : Int32) (σ1o : om_S) => if r1o = 0 then (f_X9_fills_b34 a0 σ1o) else (om_call (f_X9_in v2 (0 : Int32) (99 : Int32) σ1o) fun (r2o : Int32) (σ2o : om_S) => if r2o = 0 then (f_X9_fills_b34 a0 σ2o) else (om_call (f_X9_change1 a0 (((8 : Int32) + ((5 : Int32) * v1)) + (3 : Int32)) v2 σ2o) fun (r3o : Int32) (σ3o : om_S) => some (r3o, σ3o))) else none
set_option maxRecDepth 100000 in
theorem c_X9_fills (l : Launch) (G : om_G) {a0 : Nat} {v1 : Int32} {v2 : Int32} {σ : om_S} {r : Int32} {τ : om_S} (h : f_X9_fills a0 v1 v2 σ = some (r, τ)) : om_D l G 2 yX9_fills cX9_fills 3 (some FieldType.int) 0 0 [vR (some a0), vI v1, vI v2] σ om_rf om_N (some (vI r)) τ om_rf om_N := by
  refine om_Dof (lv := [(0, vR (some a0)), (1, vI v1), (2, vI v2)]) (by decide) rfl_le rfl (fun x O hE => ?_)
  change om_Ok x RX9 "fills" cX9_fills 3 (some FieldType.int) 2 0 0 at O
  unfold f_X9_fills at h
  revert h; refine om_iteR (fun ka0 h => ?_)
  refine om_aload_n O 0 dX9_fills_0 rfl rfl ?_
  refine om_iload_n O 1 dX9_fills_1 rfl rfl ?_
  revert h; refine om_callR (fun r1o σ1o g1o h => ?_)
  refine cl_X9_168 O (st := []) (stk := [vI v1, vR (some a0)]) (st2 := [vI r1o]) [vI v1] (fun l G => c_X9_isMemory l G g1o) ka0 (om_lt ka0 (by decide)) (by decide) rfl rfl rfl_le rfl rfl_le rfl_le dX9_fills_2 ?_
  refine om_if_eq O (tgt := 34) dX9_fills_5 (by decide) (fun c1o => ?_) (fun c1o => ?_)
  · replace h := (if_pos c1o).symm.trans h
    refine om_drop (lv' := [(0, vR (some a0))]) [0] rfl ?_
    exact g_X9_fills_b34 O hE ka0 h
  · replace h := (if_neg c1o).symm.trans h
    refine om_iload_n O 2 dX9_fills_8 rfl rfl ?_
    refine om_iconst O (v := 0) dX9_fills_9 (by decide) ?_
    refine om_bipush O (v := 99) dX9_fills_10 (by decide) ?_
    revert h; refine om_callR (fun r2o σ2o g2o h => ?_)
    refine cl_X9_57 O (st := []) (stk := [vI (99 : Int32), vI (0 : Int32), vI v2]) (st2 := [vI r2o]) [vI v2, vI (0 : Int32), vI (99 : Int32)] (fun l G => c_X9_in l G g2o) (by decide) rfl rfl rfl_le rfl rfl_le rfl_le dX9_fills_12 ?_
    refine om_if_eq O (tgt := 34) dX9_fills_15 (by decide) (fun c2o => ?_) (fun c2o => ?_)
    · replace h := (if_pos c2o).symm.trans h
      refine om_drop (lv' := [(0, vR (some a0))]) [0] rfl ?_
      exact g_X9_fills_b34 O hE ka0 h
    · replace h := (if_neg c2o).symm.trans h
      refine om_aload_n O 0 dX9_fills_18 rfl rfl ?_
      refine om_bipush O (v := 8) dX9_fills_19 (by decide) ?_
      refine om_iconst O (v := 5) dX9_fills_21 (by decide) ?_
      refine om_iload_n O 1 dX9_fills_22 rfl rfl ?_
      refine om_imul O dX9_fills_23 ?_
      refine om_iadd O dX9_fills_24 ?_
      refine om_iconst O (v := 3) dX9_fills_25 (by decide) ?_
      refine om_iadd O dX9_fills_26 ?_
      refine om_iload_n O 2 dX9_fills_27 rfl rfl ?_
      revert h; refine om_callR (fun r3o σ3o g3o h => ?_)
      refine cl_X9_171 O (st := []) (stk := [vI v2, vI (((8 : Int32) + ((5 : Int32) * v1)) + (3 : Int32)), vR (some a0)]) (st2 := [vI r3o]) [vI (((8 : Int32) + ((5 : Int32) * v1)) + (3 : Int32)), vI v2] (fun l G => c_X9_change1 l G g3o) ka0 (om_lt ka0 (by decide)) (by decide) rfl rfl rfl_le rfl rfl_le rfl_le dX9_fills_28 ?_
      refine om_goto O (tgt := 39) dX9_fills_31 (by decide) ?_
      exact om_iret (st := []) O (om_eI hE h) rfl dX9_fills_39
def f_X9_dear_b34  (a0 : Nat) (σ : om_S) : Option (Int32 × om_S) := om_call (f_X9_error a0 (1 : Int32) σ) fun (r1o : Int32) (σ1o : om_S) => some (r1o, σ1o)
set_option maxRecDepth 100000 in
theorem g_X9_dear_b34 {x : om_X}   (O : om_Ok x RX9 "dear" cX9_dear 3 (some FieldType.int) 2 0 0)   {r : Int32} {τ : om_S} (hE : om_End x (some (vI r)) τ om_rf om_N 0 0)   {a0 : Nat} {σ : om_S} (ka0 : om_kc a0 = 9) (h : f_X9_dear_b34 a0 σ = some (r, τ)) : om_J x 34 [(0, vR (some a0))] [] σ om_rf om_N 0 0 := by
  unfold f_X9_dear_b34 at h
  refine om_aload_n O 0 dX9_dear_34 rfl rfl ?_
  refine om_iconst O (v := 1) dX9_dear_35 (by decide) ?_
  revert h; refine om_callR (fun r1o σ1o g1o h => ?_)
  refine cl_X9_61 O (st := []) (stk := [vI (1 : Int32), vR (some a0)]) (st2 := [vI r1o]) [vI (1 : Int32)] (fun l G => c_X9_error l G g1o) ka0 (om_lt ka0 (by decide)) (by decide) rfl rfl rfl_le rfl rfl_le rfl_le dX9_dear_36 ?_
  exact om_iret (st := []) O (om_eI hE h) rfl dX9_dear_39
def f_X9_dear  (a0 : Nat) (v1 : Int32) (v2 : Int32) (σ : om_S) : Option (Int32 × om_S) := if om_kc a0 = 9 then om_call (f_X9_isMemory a0 v1 σ) fun (r1o : Int32) (σ1o : om_S) => if r1o = 0 then (f_X9_dear_b34 a0 σ1o) else (om_call (f_X9_in v2 (0 : Int32) (99 : Int32) σ1o) fun (r2o : Int32) (σ2o : om_S) => if r2o = 0 then (f_X9_dear_b34 a0 σ2o) else (om_call (f_X9_change1 a0 (((8 : Int32) + ((5 : Int32) * v1)) + (4 : Int32)) v2 σ2o) fun (r3o : Int32) (σ3o : om_S) => some (r3o, σ3o))) else none
set_option maxRecDepth 100000 in
theorem c_X9_dear (l : Launch) (G : om_G) {a0 : Nat} {v1 : Int32} {v2 : Int32} {σ : om_S} {r : Int32} {τ : om_S} (h : f_X9_dear a0 v1 v2 σ = some (r, τ)) : om_D l G 2 yX9_dear cX9_dear 3 (some FieldType.int) 0 0 [vR (some a0), vI v1, vI v2] σ om_rf om_N (some (vI r)) τ om_rf om_N := by
  refine om_Dof (lv := [(0, vR (some a0)), (1, vI v1), (2, vI v2)]) (by decide) rfl_le rfl (fun x O hE => ?_)
  change om_Ok x RX9 "dear" cX9_dear 3 (some FieldType.int) 2 0 0 at O
  unfold f_X9_dear at h
  revert h; refine om_iteR (fun ka0 h => ?_)
  refine om_aload_n O 0 dX9_dear_0 rfl rfl ?_
  refine om_iload_n O 1 dX9_dear_1 rfl rfl ?_
  revert h; refine om_callR (fun r1o σ1o g1o h => ?_)
  refine cl_X9_168 O (st := []) (stk := [vI v1, vR (some a0)]) (st2 := [vI r1o]) [vI v1] (fun l G => c_X9_isMemory l G g1o) ka0 (om_lt ka0 (by decide)) (by decide) rfl rfl rfl_le rfl rfl_le rfl_le dX9_dear_2 ?_
  refine om_if_eq O (tgt := 34) dX9_dear_5 (by decide) (fun c1o => ?_) (fun c1o => ?_)
  · replace h := (if_pos c1o).symm.trans h
    refine om_drop (lv' := [(0, vR (some a0))]) [0] rfl ?_
    exact g_X9_dear_b34 O hE ka0 h
  · replace h := (if_neg c1o).symm.trans h
    refine om_iload_n O 2 dX9_dear_8 rfl rfl ?_
    refine om_iconst O (v := 0) dX9_dear_9 (by decide) ?_
    refine om_bipush O (v := 99) dX9_dear_10 (by decide) ?_
    revert h; refine om_callR (fun r2o σ2o g2o h => ?_)
    refine cl_X9_57 O (st := []) (stk := [vI (99 : Int32), vI (0 : Int32), vI v2]) (st2 := [vI r2o]) [vI v2, vI (0 : Int32), vI (99 : Int32)] (fun l G => c_X9_in l G g2o) (by decide) rfl rfl rfl_le rfl rfl_le rfl_le dX9_dear_12 ?_
    refine om_if_eq O (tgt := 34) dX9_dear_15 (by decide) (fun c2o => ?_) (fun c2o => ?_)
    · replace h := (if_pos c2o).symm.trans h
      refine om_drop (lv' := [(0, vR (some a0))]) [0] rfl ?_
      exact g_X9_dear_b34 O hE ka0 h
    · replace h := (if_neg c2o).symm.trans h
      refine om_aload_n O 0 dX9_dear_18 rfl rfl ?_
      refine om_bipush O (v := 8) dX9_dear_19 (by decide) ?_
      refine om_iconst O (v := 5) dX9_dear_21 (by decide) ?_
      refine om_iload_n O 1 dX9_dear_22 rfl rfl ?_
      refine om_imul O dX9_dear_23 ?_
      refine om_iadd O dX9_dear_24 ?_
      refine om_iconst O (v := 4) dX9_dear_25 (by decide) ?_
      refine om_iadd O dX9_dear_26 ?_
      refine om_iload_n O 2 dX9_dear_27 rfl rfl ?_
      revert h; refine om_callR (fun r3o σ3o g3o h => ?_)
      refine cl_X9_171 O (st := []) (stk := [vI v2, vI (((8 : Int32) + ((5 : Int32) * v1)) + (4 : Int32)), vR (some a0)]) (st2 := [vI r3o]) [vI (((8 : Int32) + ((5 : Int32) * v1)) + (4 : Int32)), vI v2] (fun l G => c_X9_change1 l G g3o) ka0 (om_lt ka0 (by decide)) (by decide) rfl rfl rfl_le rfl rfl_le rfl_le dX9_dear_28 ?_
      refine om_goto O (tgt := 39) dX9_dear_31 (by decide) ?_
      exact om_iret (st := []) O (om_eI hE h) rfl dX9_dear_39
def f_X9_trim_b15  (a0 : Nat) (σ : om_S) : Option (Int32 × om_S) := om_call (f_X9_error a0 (1 : Int32) σ) fun (r1o : Int32) (σ1o : om_S) => some (r1o, σ1o)
set_option maxRecDepth 100000 in
theorem g_X9_trim_b15 {x : om_X}   (O : om_Ok x RX9 "trim" cX9_trim 4 (some FieldType.int) 2 0 0)   {r : Int32} {τ : om_S} (hE : om_End x (some (vI r)) τ om_rf om_N 0 0)   {a0 : Nat} {σ : om_S} (ka0 : om_kc a0 = 9) (h : f_X9_trim_b15 a0 σ = some (r, τ)) : om_J x 15 [(0, vR (some a0))] [] σ om_rf om_N 0 0 := by
  unfold f_X9_trim_b15 at h
  refine om_aload_n O 0 dX9_trim_15 rfl rfl ?_
  refine om_iconst O (v := 1) dX9_trim_16 (by decide) ?_
  revert h; refine om_callR (fun r1o σ1o g1o h => ?_)
  refine cl_X9_61 O (st := []) (stk := [vI (1 : Int32), vR (some a0)]) (st2 := [vI r1o]) [vI (1 : Int32)] (fun l G => c_X9_error l G g1o) ka0 (om_lt ka0 (by decide)) (by decide) rfl rfl rfl_le rfl rfl_le rfl_le dX9_trim_17 ?_
  exact om_iret (st := []) O (om_eI hE h) rfl dX9_trim_20
def f_X9_trim  (a0 : Nat) (v1 : Int32) (v2 : Int32) (σ : om_S) : Option (Int32 × om_S) := if om_kc a0 = 9 then om_call (f_X9_isMemory a0 v1 σ) fun (r1o : Int32) (σ1o : om_S) => if r1o = 0 then (f_X9_trim_b15 a0 σ1o) else (om_call (f_X9_isKeeper v2 σ1o) fun (r2o : Int32) (σ2o : om_S) => if r2o = 0 then (f_X9_trim_b15 a0 σ2o) else (om_call (f_X9_its a0 v1 (2 : Int32) σ2o) fun (r3o : Int32) (σ3o : om_S) => if r3o = ((1 : Int32) <<< (v2 &&& 31)) then (om_call (f_X9_error a0 (3 : Int32) σ3o) fun (r4o : Int32) (σ4o : om_S) => some (r4o, σ4o)) else (om_do (f_X9_lays1 a0 v1 (2 : Int32) (r3o &&& (((1 : Int32) <<< (v2 &&& 31)) ^^^ (-1 : Int32))) σ3o) fun (σ5o : om_S) => some (((r3o >>> (v2 &&& 31)) &&& (1 : Int32)), σ5o)))) else none
set_option maxRecDepth 100000 in
theorem c_X9_trim (l : Launch) (G : om_G) {a0 : Nat} {v1 : Int32} {v2 : Int32} {σ : om_S} {r : Int32} {τ : om_S} (h : f_X9_trim a0 v1 v2 σ = some (r, τ)) : om_D l G 2 yX9_trim cX9_trim 4 (some FieldType.int) 0 0 [vR (some a0), vI v1, vI v2] σ om_rf om_N (some (vI r)) τ om_rf om_N := by
  refine om_Dof (lv := [(0, vR (some a0)), (1, vI v1), (2, vI v2)]) (by decide) rfl_le rfl (fun x O hE => ?_)
  change om_Ok x RX9 "trim" cX9_trim 4 (some FieldType.int) 2 0 0 at O
  unfold f_X9_trim at h
  revert h; refine om_iteR (fun ka0 h => ?_)
  refine om_aload_n O 0 dX9_trim_0 rfl rfl ?_
  refine om_iload_n O 1 dX9_trim_1 rfl rfl ?_
  revert h; refine om_callR (fun r1o σ1o g1o h => ?_)
  refine cl_X9_168 O (st := []) (stk := [vI v1, vR (some a0)]) (st2 := [vI r1o]) [vI v1] (fun l G => c_X9_isMemory l G g1o) ka0 (om_lt ka0 (by decide)) (by decide) rfl rfl rfl_le rfl rfl_le rfl_le dX9_trim_2 ?_
  refine om_if_eq O (tgt := 15) dX9_trim_5 (by decide) (fun c1o => ?_) (fun c1o => ?_)
  · replace h := (if_pos c1o).symm.trans h
    refine om_drop (lv' := [(0, vR (some a0))]) [0] rfl ?_
    exact g_X9_trim_b15 O hE ka0 h
  · replace h := (if_neg c1o).symm.trans h
    refine om_iload_n O 2 dX9_trim_8 rfl rfl ?_
    revert h; refine om_callR (fun r2o σ2o g2o h => ?_)
    refine cl_X9_177 O (st := []) (stk := [vI v2]) (st2 := [vI r2o]) [vI v2] (fun l G => c_X9_isKeeper l G g2o) (by decide) rfl rfl rfl_le rfl rfl_le rfl_le dX9_trim_9 ?_
    refine om_if_ne O (tgt := 21) dX9_trim_12 (by decide) (fun c2o => ?_) (fun c2o => ?_)
    · replace h := (if_pos c2o).symm.trans h
      refine om_drop (lv' := [(0, vR (some a0))]) [0] rfl ?_
      exact g_X9_trim_b15 O hE ka0 h
    · replace h := (if_neg c2o).symm.trans h
      refine om_aload_n O 0 dX9_trim_21 rfl rfl ?_
      refine om_iload_n O 1 dX9_trim_22 rfl rfl ?_
      refine om_iconst O (v := 2) dX9_trim_23 (by decide) ?_
      revert h; refine om_callR (fun r3o σ3o g3o h => ?_)
      refine cl_X9_120 O (st := []) (stk := [vI (2 : Int32), vI v1, vR (some a0)]) (st2 := [vI r3o]) [vI v1, vI (2 : Int32)] (fun l G => c_X9_its l G g3o) ka0 (om_lt ka0 (by decide)) (by decide) rfl rfl rfl_le rfl rfl_le rfl_le dX9_trim_24 ?_
      refine om_istore_n O (lv' := [(0, vR (some a0)), (1, vI v1), (2, vI v2), (3, vI r3o)]) [1, 2, 3, 0] rfl dX9_trim_27 rfl (by decide) rfl ?_
      refine om_iload_n O 3 dX9_trim_28 rfl rfl ?_
      refine om_iconst O (v := 1) dX9_trim_29 (by decide) ?_
      refine om_iload_n O 2 dX9_trim_30 rfl rfl ?_
      refine om_ishl O dX9_trim_31 ?_
      refine om_icmp_ne O (tgt := 41) dX9_trim_32 (by decide) (fun c3o => ?_) (fun c3o => ?_)
      · replace h := (if_pos c3o).symm.trans h
        refine om_aload_n O 0 dX9_trim_35 rfl rfl ?_
        refine om_iconst O (v := 3) dX9_trim_36 (by decide) ?_
        revert h; refine om_callR (fun r4o σ4o g4o h => ?_)
        refine cl_X9_61 O (st := []) (stk := [vI (3 : Int32), vR (some a0)]) (st2 := [vI r4o]) [vI (3 : Int32)] (fun l G => c_X9_error l G g4o) ka0 (om_lt ka0 (by decide)) (by decide) rfl rfl rfl_le rfl rfl_le rfl_le dX9_trim_37 ?_
        exact om_iret (st := []) O (om_eI hE h) rfl dX9_trim_40
      · replace h := (if_neg c3o).symm.trans h
        refine om_aload_n O 0 dX9_trim_41 rfl rfl ?_
        refine om_iload_n O 1 dX9_trim_42 rfl rfl ?_
        refine om_iconst O (v := 2) dX9_trim_43 (by decide) ?_
        refine om_iload_n O 3 dX9_trim_44 rfl rfl ?_
        refine om_iconst O (v := 1) dX9_trim_45 (by decide) ?_
        refine om_iload_n O 2 dX9_trim_46 rfl rfl ?_
        refine om_ishl O dX9_trim_47 ?_
        refine om_iconst O (v := -1) dX9_trim_48 (by decide) ?_
        refine om_ixor O dX9_trim_49 ?_
        refine om_iand O dX9_trim_50 ?_
        revert h; refine om_doR (fun σ5o g5o h => ?_)
        refine cl_X9_157 O (st := []) (stk := [vI (r3o &&& (((1 : Int32) <<< (v2 &&& 31)) ^^^ (-1 : Int32))), vI (2 : Int32), vI v1, vR (some a0)]) (st2 := []) [vI v1, vI (2 : Int32), vI (r3o &&& (((1 : Int32) <<< (v2 &&& 31)) ^^^ (-1 : Int32)))] (fun l G => c_X9_lays1 l G g5o) ka0 (om_lt ka0 (by decide)) (by decide) rfl rfl rfl_le rfl rfl_le rfl_le dX9_trim_51 ?_
        refine om_iload_n O 3 dX9_trim_54 rfl rfl ?_
        refine om_iload_n O 2 dX9_trim_55 rfl rfl ?_
        refine om_ishr O dX9_trim_56 ?_
        refine om_iconst O (v := 1) dX9_trim_57 (by decide) ?_
        refine om_iand O dX9_trim_58 ?_
        exact om_iret (st := []) O (om_eI hE h) rfl dX9_trim_59
def f_X9_tells_b15  (a0 : Nat) (σ : om_S) : Option (Int32 × om_S) := om_call (f_X9_error a0 (1 : Int32) σ) fun (r1o : Int32) (σ1o : om_S) => some (r1o, σ1o)
set_option maxRecDepth 100000 in
theorem g_X9_tells_b15 {x : om_X}   (O : om_Ok x RX9 "tells" cX9_tells 4 (some FieldType.int) 2 0 0)   {r : Int32} {τ : om_S} (hE : om_End x (some (vI r)) τ om_rf om_N 0 0)   {a0 : Nat} {σ : om_S} (ka0 : om_kc a0 = 9) (h : f_X9_tells_b15 a0 σ = some (r, τ)) : om_J x 15 [(0, vR (some a0))] [] σ om_rf om_N 0 0 := by
  unfold f_X9_tells_b15 at h
  refine om_aload_n O 0 dX9_tells_15 rfl rfl ?_
  refine om_iconst O (v := 1) dX9_tells_16 (by decide) ?_
  revert h; refine om_callR (fun r1o σ1o g1o h => ?_)
  refine cl_X9_61 O (st := []) (stk := [vI (1 : Int32), vR (some a0)]) (st2 := [vI r1o]) [vI (1 : Int32)] (fun l G => c_X9_error l G g1o) ka0 (om_lt ka0 (by decide)) (by decide) rfl rfl rfl_le rfl rfl_le rfl_le dX9_tells_17 ?_
  exact om_iret (st := []) O (om_eI hE h) rfl dX9_tells_20
def f_X9_tells  (a0 : Nat) (v1 : Int32) (v2 : Int32) (σ : om_S) : Option (Int32 × om_S) := if om_kc a0 = 9 then om_call (f_X9_isMemory a0 v1 σ) fun (r1o : Int32) (σ1o : om_S) => if r1o = 0 then (f_X9_tells_b15 a0 σ1o) else (om_call (f_X9_isKeeper v2 σ1o) fun (r2o : Int32) (σ2o : om_S) => if r2o = 0 then (f_X9_tells_b15 a0 σ2o) else (om_call (f_X9_its a0 v1 (2 : Int32) σ2o) fun (r3o : Int32) (σ3o : om_S) => om_do (f_X9_lays1 a0 v1 (2 : Int32) (r3o ||| ((1 : Int32) <<< (v2 &&& 31))) σ3o) fun (σ4o : om_S) => some (((r3o >>> (v2 &&& 31)) &&& (1 : Int32)), σ4o))) else none
set_option maxRecDepth 100000 in
theorem c_X9_tells (l : Launch) (G : om_G) {a0 : Nat} {v1 : Int32} {v2 : Int32} {σ : om_S} {r : Int32} {τ : om_S} (h : f_X9_tells a0 v1 v2 σ = some (r, τ)) : om_D l G 2 yX9_tells cX9_tells 4 (some FieldType.int) 0 0 [vR (some a0), vI v1, vI v2] σ om_rf om_N (some (vI r)) τ om_rf om_N := by
  refine om_Dof (lv := [(0, vR (some a0)), (1, vI v1), (2, vI v2)]) (by decide) rfl_le rfl (fun x O hE => ?_)
  change om_Ok x RX9 "tells" cX9_tells 4 (some FieldType.int) 2 0 0 at O
  unfold f_X9_tells at h
  revert h; refine om_iteR (fun ka0 h => ?_)
  refine om_aload_n O 0 dX9_tells_0 rfl rfl ?_
  refine om_iload_n O 1 dX9_tells_1 rfl rfl ?_
  revert h; refine om_callR (fun r1o σ1o g1o h => ?_)
  refine cl_X9_168 O (st := []) (stk := [vI v1, vR (some a0)]) (st2 := [vI r1o]) [vI v1] (fun l G => c_X9_isMemory l G g1o) ka0 (om_lt ka0 (by decide)) (by decide) rfl rfl rfl_le rfl rfl_le rfl_le dX9_tells_2 ?_
  refine om_if_eq O (tgt := 15) dX9_tells_5 (by decide) (fun c1o => ?_) (fun c1o => ?_)
  · replace h := (if_pos c1o).symm.trans h
    refine om_drop (lv' := [(0, vR (some a0))]) [0] rfl ?_
    exact g_X9_tells_b15 O hE ka0 h
  · replace h := (if_neg c1o).symm.trans h
    refine om_iload_n O 2 dX9_tells_8 rfl rfl ?_
    revert h; refine om_callR (fun r2o σ2o g2o h => ?_)
    refine cl_X9_177 O (st := []) (stk := [vI v2]) (st2 := [vI r2o]) [vI v2] (fun l G => c_X9_isKeeper l G g2o) (by decide) rfl rfl rfl_le rfl rfl_le rfl_le dX9_tells_9 ?_
    refine om_if_ne O (tgt := 21) dX9_tells_12 (by decide) (fun c2o => ?_) (fun c2o => ?_)
    · replace h := (if_pos c2o).symm.trans h
      refine om_drop (lv' := [(0, vR (some a0))]) [0] rfl ?_
      exact g_X9_tells_b15 O hE ka0 h
    · replace h := (if_neg c2o).symm.trans h
      refine om_aload_n O 0 dX9_tells_21 rfl rfl ?_
      refine om_iload_n O 1 dX9_tells_22 rfl rfl ?_
      refine om_iconst O (v := 2) dX9_tells_23 (by decide) ?_
      revert h; refine om_callR (fun r3o σ3o g3o h => ?_)
      refine cl_X9_120 O (st := []) (stk := [vI (2 : Int32), vI v1, vR (some a0)]) (st2 := [vI r3o]) [vI v1, vI (2 : Int32)] (fun l G => c_X9_its l G g3o) ka0 (om_lt ka0 (by decide)) (by decide) rfl rfl rfl_le rfl rfl_le rfl_le dX9_tells_24 ?_
      refine om_istore_n O (lv' := [(0, vR (some a0)), (1, vI v1), (2, vI v2), (3, vI r3o)]) [1, 2, 3, 0] rfl dX9_tells_27 rfl (by decide) rfl ?_
      refine om_aload_n O 0 dX9_tells_28 rfl rfl ?_
      refine om_iload_n O 1 dX9_tells_29 rfl rfl ?_
      refine om_iconst O (v := 2) dX9_tells_30 (by decide) ?_
      refine om_iload_n O 3 dX9_tells_31 rfl rfl ?_
      refine om_iconst O (v := 1) dX9_tells_32 (by decide) ?_
      refine om_iload_n O 2 dX9_tells_33 rfl rfl ?_
      refine om_ishl O dX9_tells_34 ?_
      refine om_ior O dX9_tells_35 ?_
      revert h; refine om_doR (fun σ4o g4o h => ?_)
      refine cl_X9_157 O (st := []) (stk := [vI (r3o ||| ((1 : Int32) <<< (v2 &&& 31))), vI (2 : Int32), vI v1, vR (some a0)]) (st2 := []) [vI v1, vI (2 : Int32), vI (r3o ||| ((1 : Int32) <<< (v2 &&& 31)))] (fun l G => c_X9_lays1 l G g4o) ka0 (om_lt ka0 (by decide)) (by decide) rfl rfl rfl_le rfl rfl_le rfl_le dX9_tells_36 ?_
      refine om_iload_n O 3 dX9_tells_39 rfl rfl ?_
      refine om_iload_n O 2 dX9_tells_40 rfl rfl ?_
      refine om_ishr O dX9_tells_41 ?_
      refine om_iconst O (v := 1) dX9_tells_42 (by decide) ?_
      refine om_iand O dX9_tells_43 ?_
      exact om_iret (st := []) O (om_eI hE h) rfl dX9_tells_44
def f_X9_blows  (a0 : Nat) (v1 : Int32) (σ : om_S) : Option (Int32 × om_S) := if om_kc a0 = 9 then om_call (f_X9_in v1 (0 : Int32) (9 : Int32) σ) fun (r1o : Int32) (σ1o : om_S) => if r1o = 0 then (om_call (f_X9_error a0 (1 : Int32) σ1o) fun (r2o : Int32) (σ2o : om_S) => some (r2o, σ2o)) else (om_call (f_X9_change1 a0 (0 : Int32) v1 σ1o) fun (r3o : Int32) (σ3o : om_S) => some (r3o, σ3o)) else none
set_option maxRecDepth 100000 in
theorem c_X9_blows (l : Launch) (G : om_G) {a0 : Nat} {v1 : Int32} {σ : om_S} {r : Int32} {τ : om_S} (h : f_X9_blows a0 v1 σ = some (r, τ)) : om_D l G 1 yX9_blows cX9_blows 2 (some FieldType.int) 0 0 [vR (some a0), vI v1] σ om_rf om_N (some (vI r)) τ om_rf om_N := by
  refine om_Dof (lv := [(0, vR (some a0)), (1, vI v1)]) (by decide) rfl_le rfl (fun x O hE => ?_)
  change om_Ok x RX9 "blows" cX9_blows 2 (some FieldType.int) 1 0 0 at O
  unfold f_X9_blows at h
  revert h; refine om_iteR (fun ka0 h => ?_)
  refine om_iload_n O 1 dX9_blows_0 rfl rfl ?_
  refine om_iconst O (v := 0) dX9_blows_1 (by decide) ?_
  refine om_bipush O (v := 9) dX9_blows_2 (by decide) ?_
  revert h; refine om_callR (fun r1o σ1o g1o h => ?_)
  refine cl_X9_57 O (st := []) (stk := [vI (9 : Int32), vI (0 : Int32), vI v1]) (st2 := [vI r1o]) [vI v1, vI (0 : Int32), vI (9 : Int32)] (fun l G => c_X9_in l G g1o) (by decide) rfl rfl rfl_le rfl rfl_le rfl_le dX9_blows_4 ?_
  refine om_if_eq O (tgt := 19) dX9_blows_7 (by decide) (fun c1o => ?_) (fun c1o => ?_)
  · replace h := (if_pos c1o).symm.trans h
    refine om_aload_n O 0 dX9_blows_19 rfl rfl ?_
    refine om_iconst O (v := 1) dX9_blows_20 (by decide) ?_
    revert h; refine om_callR (fun r2o σ2o g2o h => ?_)
    refine cl_X9_61 O (st := []) (stk := [vI (1 : Int32), vR (some a0)]) (st2 := [vI r2o]) [vI (1 : Int32)] (fun l G => c_X9_error l G g2o) ka0 (om_lt ka0 (by decide)) (by decide) rfl rfl rfl_le rfl rfl_le rfl_le dX9_blows_21 ?_
    exact om_iret (st := []) O (om_eI hE h) rfl dX9_blows_24
  · replace h := (if_neg c1o).symm.trans h
    refine om_aload_n O 0 dX9_blows_10 rfl rfl ?_
    refine om_iconst O (v := 0) dX9_blows_11 (by decide) ?_
    refine om_iload_n O 1 dX9_blows_12 rfl rfl ?_
    revert h; refine om_callR (fun r3o σ3o g3o h => ?_)
    refine cl_X9_171 O (st := []) (stk := [vI v1, vI (0 : Int32), vR (some a0)]) (st2 := [vI r3o]) [vI (0 : Int32), vI v1] (fun l G => c_X9_change1 l G g3o) ka0 (om_lt ka0 (by decide)) (by decide) rfl rfl rfl_le rfl rfl_le rfl_le dX9_blows_13 ?_
    refine om_goto O (tgt := 24) dX9_blows_16 (by decide) ?_
    exact om_iret (st := []) O (om_eI hE h) rfl dX9_blows_24
def f_X9_law  (a0 : Nat) (v1 : Int32) (v2 : Int32) (v3 : Int32) (v4 : Int32) (σ : om_S) : Option (Int32 × om_S) := if om_kc a0 = 9 then om_call (f_X9_in v1 (0 : Int32) (1 : Int32) σ) fun (r1o : Int32) (σ1o : om_S) => if r1o = 0 then (om_call (f_X9_error a0 (1 : Int32) σ1o) fun (r2o : Int32) (σ2o : om_S) => some (r2o, σ2o)) else (if v1 = 0 then (om_call (f_X9_lightTold a0 v2 v3 v4 σ1o) fun (r3o : Int32) (σ3o : om_S) => some (r3o, σ3o)) else (om_call (f_X9_wantedTold a0 v2 v3 v4 σ1o) fun (r4o : Int32) (σ4o : om_S) => some (r4o, σ4o))) else none
set_option maxRecDepth 100000 in
theorem c_X9_law (l : Launch) (G : om_G) {a0 : Nat} {v1 : Int32} {v2 : Int32} {v3 : Int32} {v4 : Int32} {σ : om_S} {r : Int32} {τ : om_S} (h : f_X9_law a0 v1 v2 v3 v4 σ = some (r, τ)) : om_D l G 3 yX9_law cX9_law 5 (some FieldType.int) 0 0 [vR (some a0), vI v1, vI v2, vI v3, vI v4] σ om_rf om_N (some (vI r)) τ om_rf om_N := by
  refine om_Dof (lv := [(0, vR (some a0)), (1, vI v1), (2, vI v2), (3, vI v3), (4, vI v4)]) (by decide) rfl_le rfl (fun x O hE => ?_)
  change om_Ok x RX9 "law" cX9_law 5 (some FieldType.int) 3 0 0 at O
  unfold f_X9_law at h
  revert h; refine om_iteR (fun ka0 h => ?_)
  refine om_iload_n O 1 dX9_law_0 rfl rfl ?_
  refine om_iconst O (v := 0) dX9_law_1 (by decide) ?_
  refine om_iconst O (v := 1) dX9_law_2 (by decide) ?_
  revert h; refine om_callR (fun r1o σ1o g1o h => ?_)
  refine cl_X9_57 O (st := []) (stk := [vI (1 : Int32), vI (0 : Int32), vI v1]) (st2 := [vI r1o]) [vI v1, vI (0 : Int32), vI (1 : Int32)] (fun l G => c_X9_in l G g1o) (by decide) rfl rfl rfl_le rfl rfl_le rfl_le dX9_law_3 ?_
  refine om_if_ne O (tgt := 15) dX9_law_6 (by decide) (fun c1o => ?_) (fun c1o => ?_)
  · replace h := (if_pos c1o).symm.trans h
    refine om_aload_n O 0 dX9_law_9 rfl rfl ?_
    refine om_iconst O (v := 1) dX9_law_10 (by decide) ?_
    revert h; refine om_callR (fun r2o σ2o g2o h => ?_)
    refine cl_X9_61 O (st := []) (stk := [vI (1 : Int32), vR (some a0)]) (st2 := [vI r2o]) [vI (1 : Int32)] (fun l G => c_X9_error l G g2o) ka0 (om_lt ka0 (by decide)) (by decide) rfl rfl rfl_le rfl rfl_le rfl_le dX9_law_11 ?_
    exact om_iret (st := []) O (om_eI hE h) rfl dX9_law_14
  · replace h := (if_neg c1o).symm.trans h
    refine om_iload_n O 1 dX9_law_15 rfl rfl ?_
    refine om_if_ne O (tgt := 30) dX9_law_16 (by decide) (fun c2o => ?_) (fun c2o => ?_)
    · replace h := (if_pos c2o).symm.trans h
      refine om_aload_n O 0 dX9_law_19 rfl rfl ?_
      refine om_iload_n O 2 dX9_law_20 rfl rfl ?_
      refine om_iload_n O 3 dX9_law_21 rfl rfl ?_
      refine om_iload O 4 dX9_law_22 rfl ?_
      revert h; refine om_callR (fun r3o σ3o g3o h => ?_)
      refine cl_X9_136 O (st := []) (stk := [vI v4, vI v3, vI v2, vR (some a0)]) (st2 := [vI r3o]) [vI v2, vI v3, vI v4] (fun l G => c_X9_lightTold l G g3o) ka0 (om_lt ka0 (by decide)) (by decide) rfl rfl rfl_le rfl rfl_le rfl_le dX9_law_24 ?_
      refine om_goto O (tgt := 38) dX9_law_27 (by decide) ?_
      exact om_iret (st := []) O (om_eI hE h) rfl dX9_law_38
    · replace h := (if_neg c2o).symm.trans h
      refine om_aload_n O 0 dX9_law_30 rfl rfl ?_
      refine om_iload_n O 2 dX9_law_31 rfl rfl ?_
      refine om_iload_n O 3 dX9_law_32 rfl rfl ?_
      refine om_iload O 4 dX9_law_33 rfl ?_
      revert h; refine om_callR (fun r4o σ4o g4o h => ?_)
      refine cl_X9_145 O (st := []) (stk := [vI v4, vI v3, vI v2, vR (some a0)]) (st2 := [vI r4o]) [vI v2, vI v3, vI v4] (fun l G => c_X9_wantedTold l G g4o) ka0 (om_lt ka0 (by decide)) (by decide) rfl rfl rfl_le rfl rfl_le rfl_le dX9_law_35 ?_
      exact om_iret (st := []) O (om_eI hE h) rfl dX9_law_38
def f_X9_whyNot  (a0 : Nat) (v1 : Int32) (v2 : Int32) (σ : om_S) : Option (Int32 × om_S) := if om_kc a0 = 9 then om_call (f_X9_in v1 (1 : Int32) v2 σ) fun (r1o : Int32) (σ1o : om_S) => if r1o = 0 then (some ((1 : Int32), σ1o)) else (om_ref (om_rf a0 0) 20 fun (t1o : Nat) => if om_in (1 : Int32) (om_al t1o) then if ((σ1o t1o (1 : Int32).toNatClampNeg) + v1) ≤ (9999 : Int32) then (some ((0 : Int32), σ1o)) else (some ((3 : Int32), σ1o)) else none) else none
set_option maxRecDepth 100000 in
theorem c_X9_whyNot (l : Launch) (G : om_G) {a0 : Nat} {v1 : Int32} {v2 : Int32} {σ : om_S} {r : Int32} {τ : om_S} (h : f_X9_whyNot a0 v1 v2 σ = some (r, τ)) : om_D l G 1 yX9_whyNot cX9_whyNot 3 (some FieldType.int) 0 0 [vR (some a0), vI v1, vI v2] σ om_rf om_N (some (vI r)) τ om_rf om_N := by
  refine om_Dof (lv := [(0, vR (some a0)), (1, vI v1), (2, vI v2)]) (by decide) rfl_le rfl (fun x O hE => ?_)
  change om_Ok x RX9 "whyNot" cX9_whyNot 3 (some FieldType.int) 1 0 0 at O
  unfold f_X9_whyNot at h
  revert h; refine om_iteR (fun ka0 h => ?_)
  refine om_iload_n O 1 dX9_whyNot_0 rfl rfl ?_
  refine om_iconst O (v := 1) dX9_whyNot_1 (by decide) ?_
  refine om_iload_n O 2 dX9_whyNot_2 rfl rfl ?_
  revert h; refine om_callR (fun r1o σ1o g1o h => ?_)
  refine cl_X9_57 O (st := []) (stk := [vI v2, vI (1 : Int32), vI v1]) (st2 := [vI r1o]) [vI v1, vI (1 : Int32), vI v2] (fun l G => c_X9_in l G g1o) (by decide) rfl rfl rfl_le rfl rfl_le rfl_le dX9_whyNot_3 ?_
  refine om_if_ne O (tgt := 13) dX9_whyNot_6 (by decide) (fun c1o => ?_) (fun c1o => ?_)
  · replace h := (if_pos c1o).symm.trans h
    refine om_iconst O (v := 1) dX9_whyNot_9 (by decide) ?_
    refine om_goto O (tgt := 32) dX9_whyNot_10 (by decide) ?_
    exact om_iret (st := []) O (om_eI hE h) rfl dX9_whyNot_32
  · replace h := (if_neg c1o).symm.trans h
    refine om_aload_n O 0 dX9_whyNot_13 rfl rfl ?_
    revert h; refine om_refR (fun t1o y1o k1o h => ?_)
    refine gf_X9_7 O ka0 (om_lt ka0 (by decide)) dX9_whyNot_14 ?_
    rw [y1o]
    refine om_iconst O (v := 1) dX9_whyNot_17 (by decide) ?_
    revert h; refine om_iteR (fun i1o h => ?_)
    refine om_iald O k1o (om_lt k1o (by decide)) i1o dX9_whyNot_18 ?_
    refine om_iload_n O 1 dX9_whyNot_19 rfl rfl ?_
    refine om_iadd O dX9_whyNot_20 ?_
    refine om_sipush O (v := 9999) dX9_whyNot_21 (by decide) ?_
    refine om_icmp_le O (tgt := 31) dX9_whyNot_24 (by decide) (fun c2o => ?_) (fun c2o => ?_)
    · replace h := (if_pos c2o).symm.trans h
      refine om_iconst O (v := 0) dX9_whyNot_31 (by decide) ?_
      exact om_iret (st := []) O (om_eI hE h) rfl dX9_whyNot_32
    · replace h := (if_neg c2o).symm.trans h
      refine om_iconst O (v := 3) dX9_whyNot_27 (by decide) ?_
      refine om_goto O (tgt := 32) dX9_whyNot_28 (by decide) ?_
      exact om_iret (st := []) O (om_eI hE h) rfl dX9_whyNot_32
def f_X9_nights  (a0 : Nat) (v1 : Int32) (σ : om_S) : Option (Int32 × om_S) := if om_kc a0 = 9 then om_call (f_X9_whyNot a0 v1 (60 : Int32) σ) fun (r1o : Int32) (σ1o : om_S) => if r1o = 0 then (om_call (f_X9_goes a0 v1 σ1o) fun (r2o : Int32) (σ2o : om_S) => some (r2o, σ2o)) else (om_call (f_X9_error a0 r1o σ1o) fun (r3o : Int32) (σ3o : om_S) => some (r3o, σ3o)) else none
set_option maxRecDepth 100000 in
theorem c_X9_nights (l : Launch) (G : om_G) {a0 : Nat} {v1 : Int32} {σ : om_S} {r : Int32} {τ : om_S} (h : f_X9_nights a0 v1 σ = some (r, τ)) : om_D l G 8 yX9_nights cX9_nights 3 (some FieldType.int) 0 0 [vR (some a0), vI v1] σ om_rf om_N (some (vI r)) τ om_rf om_N := by
  refine om_Dof (lv := [(0, vR (some a0)), (1, vI v1)]) (by decide) rfl_le rfl (fun x O hE => ?_)
  change om_Ok x RX9 "nights" cX9_nights 3 (some FieldType.int) 8 0 0 at O
  unfold f_X9_nights at h
  revert h; refine om_iteR (fun ka0 h => ?_)
  refine om_aload_n O 0 dX9_nights_0 rfl rfl ?_
  refine om_iload_n O 1 dX9_nights_1 rfl rfl ?_
  refine om_bipush O (v := 60) dX9_nights_2 (by decide) ?_
  revert h; refine om_callR (fun r1o σ1o g1o h => ?_)
  refine cl_X9_180 O (st := []) (stk := [vI (60 : Int32), vI v1, vR (some a0)]) (st2 := [vI r1o]) [vI v1, vI (60 : Int32)] (fun l G => c_X9_whyNot l G g1o) ka0 (om_lt ka0 (by decide)) (by decide) rfl rfl rfl_le rfl rfl_le rfl_le dX9_nights_4 ?_
  refine om_istore_n O (lv' := [(0, vR (some a0)), (1, vI v1), (2, vI r1o)]) [1, 2, 0] rfl dX9_nights_7 rfl (by decide) rfl ?_
  refine om_iload_n O 2 dX9_nights_8 rfl rfl ?_
  refine om_if_eq O (tgt := 20) dX9_nights_9 (by decide) (fun c1o => ?_) (fun c1o => ?_)
  · replace h := (if_pos c1o).symm.trans h
    refine om_aload_n O 0 dX9_nights_20 rfl rfl ?_
    refine om_iload_n O 1 dX9_nights_21 rfl rfl ?_
    revert h; refine om_callR (fun r2o σ2o g2o h => ?_)
    refine cl_X9_183 O (st := []) (stk := [vI v1, vR (some a0)]) (st2 := [vI r2o]) [vI v1] (fun l G => c_X9_goes l G g2o) ka0 (om_lt ka0 (by decide)) (by decide) rfl rfl rfl_le rfl rfl_le rfl_le dX9_nights_22 ?_
    exact om_iret (st := []) O (om_eI hE h) rfl dX9_nights_25
  · replace h := (if_neg c1o).symm.trans h
    refine om_aload_n O 0 dX9_nights_12 rfl rfl ?_
    refine om_iload_n O 2 dX9_nights_13 rfl rfl ?_
    revert h; refine om_callR (fun r3o σ3o g3o h => ?_)
    refine cl_X9_61 O (st := []) (stk := [vI r1o, vR (some a0)]) (st2 := [vI r3o]) [vI r1o] (fun l G => c_X9_error l G g3o) ka0 (om_lt ka0 (by decide)) (by decide) rfl rfl rfl_le rfl rfl_le rfl_le dX9_nights_14 ?_
    refine om_goto O (tgt := 25) dX9_nights_17 (by decide) ?_
    exact om_iret (st := []) O (om_eI hE h) rfl dX9_nights_25
def f_X9_weathers  (a0 : Nat) (σ : om_S) : Option om_S := if om_kc a0 = 9 then om_ref (om_rf a0 0) 20 fun (t1o : Nat) => om_call (f_X9_draw a0 σ) fun (r1o : Int32) (σ1o : om_S) => if om_in (0 : Int32) (om_al t1o) then om_let (om_w σ1o t1o (0 : Int32).toNatClampNeg (r1o - r1o / (10 : Int32) * (10 : Int32))) fun (σ2o : om_S) => om_ref (om_rf a0 0) 20 fun (t2o : Nat) => if om_in (6 : Int32) (om_al t2o) then if (σ2o t2o (6 : Int32).toNatClampNeg) ≤ 0 then (some σ2o) else (om_call (f_X9_draw a0 σ2o) fun (r2o : Int32) (σ3o : om_S) => if (r2o - r2o / (8 : Int32) * (8 : Int32)) = 0 then (om_call (f_X9_draw a0 σ3o) fun (r3o : Int32) (σ4o : om_S) => om_ref (om_rf a0 0) 20 fun (t3o : Nat) => if om_in (6 : Int32) (om_al t3o) then if ¬ (σ4o t3o (6 : Int32).toNatClampNeg) = 0 then om_let (r3o - r3o / (σ4o t3o (6 : Int32).toNatClampNeg) * (σ4o t3o (6 : Int32).toNatClampNeg)) fun (x1o : Int32) => om_call (f_X9_its a0 x1o (3 : Int32) σ4o) fun (r4o : Int32) (σ5o : om_S) => om_call (f_X9_draw a0 σ5o) fun (r5o : Int32) (σ6o : om_S) => om_call (f_X9_held (r4o + (r5o - r5o / (5 : Int32) * (5 : Int32))) (0 : Int32) (99 : Int32) σ6o) fun (r6o : Int32) (σ7o : om_S) => om_do (f_X9_lays1 a0 x1o (3 : Int32) r6o σ7o) fun (σ8o : om_S) => some σ8o else none else none) else (some σ3o)) else none else none else none
set_option maxRecDepth 100000 in
theorem c_X9_weathers (l : Launch) (G : om_G) {a0 : Nat} {σ : om_S} {τ : om_S} (h : f_X9_weathers a0 σ = some τ) : om_D l G 1 yX9_weathers cX9_weathers 2 none 0 0 [vR (some a0)] σ om_rf om_N none τ om_rf om_N := by
  refine om_Dof (lv := [(0, vR (some a0))]) (by decide) rfl_le rfl (fun x O hE => ?_)
  change om_Ok x RX9 "weathers" cX9_weathers 2 none 1 0 0 at O
  unfold f_X9_weathers at h
  revert h; refine om_iteR (fun ka0 h => ?_)
  refine om_aload_n O 0 dX9_weathers_0 rfl rfl ?_
  revert h; refine om_refR (fun t1o y1o k1o h => ?_)
  refine gf_X9_7 O ka0 (om_lt ka0 (by decide)) dX9_weathers_1 ?_
  rw [y1o]
  refine om_iconst O (v := 0) dX9_weathers_4 (by decide) ?_
  refine om_aload_n O 0 dX9_weathers_5 rfl rfl ?_
  revert h; refine om_callR (fun r1o σ1o g1o h => ?_)
  refine cl_X9_186 O (st := [vI (0 : Int32), vR (some t1o)]) (stk := [vR (some a0), vI (0 : Int32), vR (some t1o)]) (st2 := [vI r1o, vI (0 : Int32), vR (some t1o)]) [] (fun l G => c_X9_draw l G g1o) ka0 (om_lt ka0 (by decide)) (by decide) rfl rfl rfl_le rfl rfl_le rfl_le dX9_weathers_6 ?_
  refine om_bipush O (v := 10) dX9_weathers_9 (by decide) ?_
  refine om_irem O dX9_weathers_11 (by decide) ?_
  revert h; refine om_iteR (fun i1o h => ?_)
  revert h; refine om_letR (fun σ2o e1o h => ?_)
  refine om_iast O k1o (om_lt k1o (by decide)) i1o dX9_weathers_12 e1o ?_
  refine om_aload_n O 0 dX9_weathers_13 rfl rfl ?_
  revert h; refine om_refR (fun t2o y2o k2o h => ?_)
  refine gf_X9_7 O ka0 (om_lt ka0 (by decide)) dX9_weathers_14 ?_
  rw [y2o]
  refine om_bipush O (v := 6) dX9_weathers_17 (by decide) ?_
  revert h; refine om_iteR (fun i2o h => ?_)
  refine om_iald O k2o (om_lt k2o (by decide)) i2o dX9_weathers_19 ?_
  refine om_if_le O (tgt := 71) dX9_weathers_20 (by decide) (fun c1o => ?_) (fun c1o => ?_)
  · replace h := (if_pos c1o).symm.trans h
    exact om_vret (st := []) O (om_eV hE h) rfl dX9_weathers_71
  · replace h := (if_neg c1o).symm.trans h
    refine om_aload_n O 0 dX9_weathers_23 rfl rfl ?_
    revert h; refine om_callR (fun r2o σ3o g2o h => ?_)
    refine cl_X9_186 O (st := []) (stk := [vR (some a0)]) (st2 := [vI r2o]) [] (fun l G => c_X9_draw l G g2o) ka0 (om_lt ka0 (by decide)) (by decide) rfl rfl rfl_le rfl rfl_le rfl_le dX9_weathers_24 ?_
    refine om_bipush O (v := 8) dX9_weathers_27 (by decide) ?_
    refine om_irem O dX9_weathers_29 (by decide) ?_
    refine om_if_ne O (tgt := 71) dX9_weathers_30 (by decide) (fun c2o => ?_) (fun c2o => ?_)
    · replace h := (if_pos c2o).symm.trans h
      refine om_aload_n O 0 dX9_weathers_33 rfl rfl ?_
      revert h; refine om_callR (fun r3o σ4o g3o h => ?_)
      refine cl_X9_186 O (st := []) (stk := [vR (some a0)]) (st2 := [vI r3o]) [] (fun l G => c_X9_draw l G g3o) ka0 (om_lt ka0 (by decide)) (by decide) rfl rfl rfl_le rfl rfl_le rfl_le dX9_weathers_34 ?_
      refine om_aload_n O 0 dX9_weathers_37 rfl rfl ?_
      revert h; refine om_refR (fun t3o y3o k3o h => ?_)
      refine gf_X9_7 O ka0 (om_lt ka0 (by decide)) dX9_weathers_38 ?_
      rw [y3o]
      refine om_bipush O (v := 6) dX9_weathers_41 (by decide) ?_
      revert h; refine om_iteR (fun i3o h => ?_)
      refine om_iald O k3o (om_lt k3o (by decide)) i3o dX9_weathers_43 ?_
      revert h; refine om_iteR (fun z1o h => ?_)
      refine om_irem O dX9_weathers_44 z1o ?_
      revert h; refine om_letR (fun x1o e2o h => ?_)
      refine om_istore_n O (lv' := [(0, vR (some a0)), (1, vI x1o)]) [1, 0] e2o dX9_weathers_45 rfl (by decide) rfl ?_
      refine om_aload_n O 0 dX9_weathers_46 rfl rfl ?_
      refine om_iload_n O 1 dX9_weathers_47 rfl rfl ?_
      refine om_iconst O (v := 3) dX9_weathers_48 (by decide) ?_
      refine om_aload_n O 0 dX9_weathers_49 rfl rfl ?_
      refine om_iload_n O 1 dX9_weathers_50 rfl rfl ?_
      refine om_iconst O (v := 3) dX9_weathers_51 (by decide) ?_
      revert h; refine om_callR (fun r4o σ5o g4o h => ?_)
      refine cl_X9_120 O (st := [vI (3 : Int32), vI x1o, vR (some a0)]) (stk := [vI (3 : Int32), vI x1o, vR (some a0), vI (3 : Int32), vI x1o, vR (some a0)]) (st2 := [vI r4o, vI (3 : Int32), vI x1o, vR (some a0)]) [vI x1o, vI (3 : Int32)] (fun l G => c_X9_its l G g4o) ka0 (om_lt ka0 (by decide)) (by decide) rfl rfl rfl_le rfl rfl_le rfl_le dX9_weathers_52 ?_
      refine om_aload_n O 0 dX9_weathers_55 rfl rfl ?_
      revert h; refine om_callR (fun r5o σ6o g5o h => ?_)
      refine cl_X9_186 O (st := [vI r4o, vI (3 : Int32), vI x1o, vR (some a0)]) (stk := [vR (some a0), vI r4o, vI (3 : Int32), vI x1o, vR (some a0)]) (st2 := [vI r5o, vI r4o, vI (3 : Int32), vI x1o, vR (some a0)]) [] (fun l G => c_X9_draw l G g5o) ka0 (om_lt ka0 (by decide)) (by decide) rfl rfl rfl_le rfl rfl_le rfl_le dX9_weathers_56 ?_
      refine om_iconst O (v := 5) dX9_weathers_59 (by decide) ?_
      refine om_irem O dX9_weathers_60 (by decide) ?_
      refine om_iadd O dX9_weathers_61 ?_
      refine om_iconst O (v := 0) dX9_weathers_62 (by decide) ?_
      refine om_bipush O (v := 99) dX9_weathers_63 (by decide) ?_
      revert h; refine om_callR (fun r6o σ7o g6o h => ?_)
      refine cl_X9_127 O (st := [vI (3 : Int32), vI x1o, vR (some a0)]) (stk := [vI (99 : Int32), vI (0 : Int32), vI (r4o + (r5o - r5o / (5 : Int32) * (5 : Int32))), vI (3 : Int32), vI x1o, vR (some a0)]) (st2 := [vI r6o, vI (3 : Int32), vI x1o, vR (some a0)]) [vI (r4o + (r5o - r5o / (5 : Int32) * (5 : Int32))), vI (0 : Int32), vI (99 : Int32)] (fun l G => c_X9_held l G g6o) (by decide) rfl rfl rfl_le rfl rfl_le rfl_le dX9_weathers_65 ?_
      revert h; refine om_doR (fun σ8o g7o h => ?_)
      refine cl_X9_157 O (st := []) (stk := [vI r6o, vI (3 : Int32), vI x1o, vR (some a0)]) (st2 := []) [vI x1o, vI (3 : Int32), vI r6o] (fun l G => c_X9_lays1 l G g7o) ka0 (om_lt ka0 (by decide)) (by decide) rfl rfl rfl_le rfl rfl_le rfl_le dX9_weathers_68 ?_
      exact om_vret (st := []) O (om_eV hE h) rfl dX9_weathers_71
    · replace h := (if_neg c2o).symm.trans h
      exact om_vret (st := []) O (om_eV hE h) rfl dX9_weathers_71
def f_X9_loose_b46 (lp23 : Nat → Int32 → Int32 → Int32 → om_S → Option (Int32 × om_S)) (a0 : Nat) (v1 : Int32) (v4 : Int32) (s0 : Int32) (s1 : Int32) (σ : om_S) : Option (Int32 × om_S) := lp23 a0 v1 (s0 + s1) (v4 + 1) σ
set_option maxRecDepth 100000 in
theorem g_X9_loose_b46 {x : om_X}   (O : om_Ok x RX9 "loose" cX9_loose 5 (some FieldType.int) 7 0 0)   {r : Int32} {τ : om_S} (hE : om_End x (some (vI r)) τ om_rf om_N 0 0) {lp23 : Nat → Int32 → Int32 → Int32 → om_S → Option (Int32 × om_S)} (L23 : ∀ (a0 : Nat) (v1 : Int32) (v3 : Int32) (v4 : Int32) (σ : om_S) (ka0 : om_kc a0 = 9), lp23 a0 v1 v3 v4 σ = some (r, τ) → om_J x 23 [(0, vR (some a0)), (1, vI v1), (3, vI v3), (4, vI v4)] [] σ om_rf om_N 0 0) {a0 : Nat} {v1 : Int32} {v4 : Int32} {s0 : Int32} {s1 : Int32} {σ : om_S} (ka0 : om_kc a0 = 9) (h : f_X9_loose_b46 lp23 a0 v1 v4 s0 s1 σ = some (r, τ)) : om_J x 46 [(0, vR (some a0)), (1, vI v1), (4, vI v4)] [vI s1, vI s0] σ om_rf om_N 0 0 := by
  unfold f_X9_loose_b46 at h
  refine om_iadd O dX9_loose_46 ?_
  refine om_istore_n O (lv' := [(0, vR (some a0)), (1, vI v1), (3, vI (s0 + s1)), (4, vI v4)]) [1, 2, 0, 3] rfl dX9_loose_47 rfl (by decide) rfl ?_
  refine om_iinc O (v1 := (v4 + 1)) (lv' := [(0, vR (some a0)), (1, vI v1), (3, vI (s0 + s1)), (4, vI (v4 + 1))]) 3 [1, 2, 3, 0] rfl dX9_loose_48 rfl rfl (by decide) rfl ?_
  refine om_goto O (tgt := 23) dX9_loose_51 (by decide) ?_
  exact L23 _ _ _ _ _ ka0 h
def f_X9_loose_b23  : Nat → Nat → Int32 → Int32 → Int32 → om_S → Option (Int32 × om_S)
  | 0, _, _, _, _, _ => none
  | F + 1, a0, v1, v3, v4, σ => if v1 ≤ v4 then (some (v3, σ)) else (om_do (f_X9_weathers a0 σ) fun (σ1o : om_S) => om_call (f_X9_aNight a0 σ1o) fun (r1o : Int32) (σ2o : om_S) => if r1o = 0 then (f_X9_loose_b46 (f_X9_loose_b23 F) a0 v1 v4 v3 (0 : Int32) σ2o) else (f_X9_loose_b46 (f_X9_loose_b23 F) a0 v1 v4 v3 (1 : Int32) σ2o))
set_option maxRecDepth 100000 in
theorem g_X9_loose_b23 {x : om_X}   (O : om_Ok x RX9 "loose" cX9_loose 5 (some FieldType.int) 7 0 0)   {r : Int32} {τ : om_S} (hE : om_End x (some (vI r)) τ om_rf om_N 0 0)   : ∀ (F : Nat) (a0 : Nat) (v1 : Int32) (v3 : Int32) (v4 : Int32) (σ : om_S) (ka0 : om_kc a0 = 9), f_X9_loose_b23 F a0 v1 v3 v4 σ = some (r, τ) → om_J x 23 [(0, vR (some a0)), (1, vI v1), (3, vI v3), (4, vI v4)] [] σ om_rf om_N 0 0 := by
  intro F
  induction F with
  | zero =>
    intro a0 v1 v3 v4 σ ka0 h
    cases h
  | succ F ih =>
    intro a0 v1 v3 v4 σ ka0 h
    unfold f_X9_loose_b23 at h
    refine om_iload O 3 dX9_loose_23 rfl ?_
    refine om_iload_n O 1 dX9_loose_25 rfl rfl ?_
    refine om_icmp_ge O (tgt := 54) dX9_loose_26 (by decide) (fun c1o => ?_) (fun c1o => ?_)
    · replace h := (if_pos c1o).symm.trans h
      refine om_iload_n O 2 dX9_loose_54 rfl rfl ?_
      exact om_iret (st := []) O (om_eI hE h) rfl dX9_loose_55
    · replace h := (if_neg c1o).symm.trans h
      refine om_aload_n O 0 dX9_loose_29 rfl rfl ?_
      revert h; refine om_doR (fun σ1o g1o h => ?_)
      refine cl_X9_189 O (st := []) (stk := [vR (some a0)]) (st2 := []) [] (fun l G => c_X9_weathers l G g1o) ka0 (om_lt ka0 (by decide)) (by decide) rfl rfl rfl_le rfl rfl_le rfl_le dX9_loose_30 ?_
      refine om_iload_n O 2 dX9_loose_33 rfl rfl ?_
      refine om_aload_n O 0 dX9_loose_34 rfl rfl ?_
      revert h; refine om_callR (fun r1o σ2o g2o h => ?_)
      refine cl_X9_161 O (st := [vI v3]) (stk := [vR (some a0), vI v3]) (st2 := [vI r1o, vI v3]) [] (fun l G => c_X9_aNight l G g2o) ka0 (om_lt ka0 (by decide)) (by decide) rfl rfl rfl_le rfl rfl_le rfl_le dX9_loose_35 ?_
      refine om_if_eq O (tgt := 45) dX9_loose_38 (by decide) (fun c2o => ?_) (fun c2o => ?_)
      · replace h := (if_pos c2o).symm.trans h
        refine om_iconst O (v := 0) dX9_loose_45 (by decide) ?_
        refine om_drop (lv' := [(0, vR (some a0)), (1, vI v1), (4, vI v4)]) [0, 1, 3] rfl ?_
        exact g_X9_loose_b46 O hE ih ka0 h
      · replace h := (if_neg c2o).symm.trans h
        refine om_iconst O (v := 1) dX9_loose_41 (by decide) ?_
        refine om_goto O (tgt := 46) dX9_loose_42 (by decide) ?_
        refine om_drop (lv' := [(0, vR (some a0)), (1, vI v1), (4, vI v4)]) [0, 1, 3] rfl ?_
        exact g_X9_loose_b46 O hE ih ka0 h
def f_X9_loose  (a0 : Nat) (v1 : Int32) (σ : om_S) : Option (Int32 × om_S) := if om_kc a0 = 9 then om_call (f_X9_whyNot a0 v1 (30 : Int32) σ) fun (r1o : Int32) (σ1o : om_S) => if r1o = 0 then (f_X9_loose_b23 om_F a0 v1 (0 : Int32) (0 : Int32) σ1o) else (om_call (f_X9_error a0 r1o σ1o) fun (r2o : Int32) (σ2o : om_S) => some (r2o, σ2o)) else none
set_option maxRecDepth 100000 in
theorem c_X9_loose (l : Launch) (G : om_G) {a0 : Nat} {v1 : Int32} {σ : om_S} {r : Int32} {τ : om_S} (h : f_X9_loose a0 v1 σ = some (r, τ)) : om_D l G 7 yX9_loose cX9_loose 5 (some FieldType.int) 0 0 [vR (some a0), vI v1] σ om_rf om_N (some (vI r)) τ om_rf om_N := by
  refine om_Dof (lv := [(0, vR (some a0)), (1, vI v1)]) (by decide) rfl_le rfl (fun x O hE => ?_)
  change om_Ok x RX9 "loose" cX9_loose 5 (some FieldType.int) 7 0 0 at O
  unfold f_X9_loose at h
  revert h; refine om_iteR (fun ka0 h => ?_)
  refine om_aload_n O 0 dX9_loose_0 rfl rfl ?_
  refine om_iload_n O 1 dX9_loose_1 rfl rfl ?_
  refine om_bipush O (v := 30) dX9_loose_2 (by decide) ?_
  revert h; refine om_callR (fun r1o σ1o g1o h => ?_)
  refine cl_X9_180 O (st := []) (stk := [vI (30 : Int32), vI v1, vR (some a0)]) (st2 := [vI r1o]) [vI v1, vI (30 : Int32)] (fun l G => c_X9_whyNot l G g1o) ka0 (om_lt ka0 (by decide)) (by decide) rfl rfl rfl_le rfl rfl_le rfl_le dX9_loose_4 ?_
  refine om_istore_n O (lv' := [(0, vR (some a0)), (1, vI v1), (2, vI r1o)]) [1, 2, 0] rfl dX9_loose_7 rfl (by decide) rfl ?_
  refine om_iload_n O 2 dX9_loose_8 rfl rfl ?_
  refine om_if_eq O (tgt := 18) dX9_loose_9 (by decide) (fun c1o => ?_) (fun c1o => ?_)
  · replace h := (if_pos c1o).symm.trans h
    refine om_iconst O (v := 0) dX9_loose_18 (by decide) ?_
    refine om_istore_n O (lv' := [(0, vR (some a0)), (1, vI v1), (3, vI (0 : Int32))]) [1, 2, 0] rfl dX9_loose_19 rfl (by decide) rfl ?_
    refine om_iconst O (v := 0) dX9_loose_20 (by decide) ?_
    refine om_istore O (lv' := [(0, vR (some a0)), (1, vI v1), (3, vI (0 : Int32)), (4, vI (0 : Int32))]) [1, 2, 3, 0] rfl dX9_loose_21 (by decide) rfl ?_
    exact g_X9_loose_b23 O hE om_F _ _ _ _ _ ka0 h
  · replace h := (if_neg c1o).symm.trans h
    refine om_aload_n O 0 dX9_loose_12 rfl rfl ?_
    refine om_iload_n O 2 dX9_loose_13 rfl rfl ?_
    revert h; refine om_callR (fun r2o σ2o g2o h => ?_)
    refine cl_X9_61 O (st := []) (stk := [vI r1o, vR (some a0)]) (st2 := [vI r2o]) [vI r1o] (fun l G => c_X9_error l G g2o) ka0 (om_lt ka0 (by decide)) (by decide) rfl rfl rfl_le rfl rfl_le rfl_le dX9_loose_14 ?_
    exact om_iret (st := []) O (om_eI hE h) rfl dX9_loose_17
def f_X9_seed  (a0 : Nat) (v1 : Int32) (σ : om_S) : Option (Int32 × om_S) := if om_kc a0 = 9 then om_call (f_X9_change1 a0 (3 : Int32) v1 σ) fun (r1o : Int32) (σ1o : om_S) => some (r1o, σ1o) else none
set_option maxRecDepth 100000 in
theorem c_X9_seed (l : Launch) (G : om_G) {a0 : Nat} {v1 : Int32} {σ : om_S} {r : Int32} {τ : om_S} (h : f_X9_seed a0 v1 σ = some (r, τ)) : om_D l G 1 yX9_seed cX9_seed 2 (some FieldType.int) 0 0 [vR (some a0), vI v1] σ om_rf om_N (some (vI r)) τ om_rf om_N := by
  refine om_Dof (lv := [(0, vR (some a0)), (1, vI v1)]) (by decide) rfl_le rfl (fun x O hE => ?_)
  change om_Ok x RX9 "seed" cX9_seed 2 (some FieldType.int) 1 0 0 at O
  unfold f_X9_seed at h
  revert h; refine om_iteR (fun ka0 h => ?_)
  refine om_aload_n O 0 dX9_seed_0 rfl rfl ?_
  refine om_iconst O (v := 3) dX9_seed_1 (by decide) ?_
  refine om_iload_n O 1 dX9_seed_2 rfl rfl ?_
  revert h; refine om_callR (fun r1o σ1o g1o h => ?_)
  refine cl_X9_171 O (st := []) (stk := [vI v1, vI (3 : Int32), vR (some a0)]) (st2 := [vI r1o]) [vI (3 : Int32), vI v1] (fun l G => c_X9_change1 l G g1o) ka0 (om_lt ka0 (by decide)) (by decide) rfl rfl rfl_le rfl rfl_le rfl_le dX9_seed_3 ?_
  exact om_iret (st := []) O (om_eI hE h) rfl dX9_seed_6
def f_X9_tonight  (a0 : Nat) (v1 : Int32) (σ : om_S) : Option (Int32 × om_S) := if om_kc a0 = 9 then om_call (f_X9_in v1 (0 : Int32) (3 : Int32) σ) fun (r1o : Int32) (σ1o : om_S) => if r1o = 0 then (om_call (f_X9_error a0 (1 : Int32) σ1o) fun (r2o : Int32) (σ2o : om_S) => some (r2o, σ2o)) else (om_call (f_X9_tonightSet a0 σ1o) fun (r3o : Int32) (σ3o : om_S) => if v1 = (3 : Int32) then (om_call (f_X9_wanted a0 σ3o) fun (r4o : Int32) (σ4o : om_S) => some (r4o, σ4o)) else (if r3o = (-1 : Int32) then (om_call (f_X9_error a0 (2 : Int32) σ3o) fun (r5o : Int32) (σ5o : om_S) => some (r5o, σ5o)) else (if v1 = 0 then (some (r3o, σ3o)) else (if v1 = (1 : Int32) then (om_ref (om_rf a0 14) 20 fun (t1o : Nat) => if om_in r3o (om_al t1o) then some ((σ3o t1o r3o.toNatClampNeg), σ3o) else none) else (om_ref (om_rf a0 13) 20 fun (t2o : Nat) => if om_in r3o (om_al t2o) then some ((σ3o t2o r3o.toNatClampNeg), σ3o) else none))))) else none
set_option maxRecDepth 100000 in
theorem c_X9_tonight (l : Launch) (G : om_G) {a0 : Nat} {v1 : Int32} {σ : om_S} {r : Int32} {τ : om_S} (h : f_X9_tonight a0 v1 σ = some (r, τ)) : om_D l G 6 yX9_tonight cX9_tonight 3 (some FieldType.int) 0 0 [vR (some a0), vI v1] σ om_rf om_N (some (vI r)) τ om_rf om_N := by
  refine om_Dof (lv := [(0, vR (some a0)), (1, vI v1)]) (by decide) rfl_le rfl (fun x O hE => ?_)
  change om_Ok x RX9 "tonight" cX9_tonight 3 (some FieldType.int) 6 0 0 at O
  unfold f_X9_tonight at h
  revert h; refine om_iteR (fun ka0 h => ?_)
  refine om_iload_n O 1 dX9_tonight_0 rfl rfl ?_
  refine om_iconst O (v := 0) dX9_tonight_1 (by decide) ?_
  refine om_iconst O (v := 3) dX9_tonight_2 (by decide) ?_
  revert h; refine om_callR (fun r1o σ1o g1o h => ?_)
  refine cl_X9_57 O (st := []) (stk := [vI (3 : Int32), vI (0 : Int32), vI v1]) (st2 := [vI r1o]) [vI v1, vI (0 : Int32), vI (3 : Int32)] (fun l G => c_X9_in l G g1o) (by decide) rfl rfl rfl_le rfl rfl_le rfl_le dX9_tonight_3 ?_
  refine om_if_ne O (tgt := 15) dX9_tonight_6 (by decide) (fun c1o => ?_) (fun c1o => ?_)
  · replace h := (if_pos c1o).symm.trans h
    refine om_aload_n O 0 dX9_tonight_9 rfl rfl ?_
    refine om_iconst O (v := 1) dX9_tonight_10 (by decide) ?_
    revert h; refine om_callR (fun r2o σ2o g2o h => ?_)
    refine cl_X9_61 O (st := []) (stk := [vI (1 : Int32), vR (some a0)]) (st2 := [vI r2o]) [vI (1 : Int32)] (fun l G => c_X9_error l G g2o) ka0 (om_lt ka0 (by decide)) (by decide) rfl rfl rfl_le rfl rfl_le rfl_le dX9_tonight_11 ?_
    exact om_iret (st := []) O (om_eI hE h) rfl dX9_tonight_14
  · replace h := (if_neg c1o).symm.trans h
    refine om_aload_n O 0 dX9_tonight_15 rfl rfl ?_
    revert h; refine om_callR (fun r3o σ3o g3o h => ?_)
    refine cl_X9_154 O (st := []) (stk := [vR (some a0)]) (st2 := [vI r3o]) [] (fun l G => c_X9_tonightSet l G g3o) ka0 (om_lt ka0 (by decide)) (by decide) rfl rfl rfl_le rfl rfl_le rfl_le dX9_tonight_16 ?_
    refine om_istore_n O (lv' := [(0, vR (some a0)), (1, vI v1), (2, vI r3o)]) [1, 2, 0] rfl dX9_tonight_19 rfl (by decide) rfl ?_
    refine om_iload_n O 1 dX9_tonight_20 rfl rfl ?_
    refine om_iconst O (v := 3) dX9_tonight_21 (by decide) ?_
    refine om_icmp_ne O (tgt := 30) dX9_tonight_22 (by decide) (fun c2o => ?_) (fun c2o => ?_)
    · replace h := (if_pos c2o).symm.trans h
      refine om_aload_n O 0 dX9_tonight_25 rfl rfl ?_
      revert h; refine om_callR (fun r4o σ4o g4o h => ?_)
      refine cl_X9_148 O (st := []) (stk := [vR (some a0)]) (st2 := [vI r4o]) [] (fun l G => c_X9_wanted l G g4o) ka0 (om_lt ka0 (by decide)) (by decide) rfl rfl rfl_le rfl rfl_le rfl_le dX9_tonight_26 ?_
      exact om_iret (st := []) O (om_eI hE h) rfl dX9_tonight_29
    · replace h := (if_neg c2o).symm.trans h
      refine om_iload_n O 2 dX9_tonight_30 rfl rfl ?_
      refine om_iconst O (v := -1) dX9_tonight_31 (by decide) ?_
      refine om_icmp_ne O (tgt := 43) dX9_tonight_32 (by decide) (fun c3o => ?_) (fun c3o => ?_)
      · replace h := (if_pos c3o).symm.trans h
        refine om_aload_n O 0 dX9_tonight_35 rfl rfl ?_
        refine om_iconst O (v := 2) dX9_tonight_36 (by decide) ?_
        revert h; refine om_callR (fun r5o σ5o g5o h => ?_)
        refine cl_X9_61 O (st := []) (stk := [vI (2 : Int32), vR (some a0)]) (st2 := [vI r5o]) [vI (2 : Int32)] (fun l G => c_X9_error l G g5o) ka0 (om_lt ka0 (by decide)) (by decide) rfl rfl rfl_le rfl rfl_le rfl_le dX9_tonight_37 ?_
        refine om_goto O (tgt := 71) dX9_tonight_40 (by decide) ?_
        exact om_iret (st := []) O (om_eI hE h) rfl dX9_tonight_71
      · replace h := (if_neg c3o).symm.trans h
        refine om_iload_n O 1 dX9_tonight_43 rfl rfl ?_
        refine om_if_ne O (tgt := 51) dX9_tonight_44 (by decide) (fun c4o => ?_) (fun c4o => ?_)
        · replace h := (if_pos c4o).symm.trans h
          refine om_iload_n O 2 dX9_tonight_47 rfl rfl ?_
          refine om_goto O (tgt := 71) dX9_tonight_48 (by decide) ?_
          exact om_iret (st := []) O (om_eI hE h) rfl dX9_tonight_71
        · replace h := (if_neg c4o).symm.trans h
          refine om_iload_n O 1 dX9_tonight_51 rfl rfl ?_
          refine om_iconst O (v := 1) dX9_tonight_52 (by decide) ?_
          refine om_icmp_ne O (tgt := 65) dX9_tonight_53 (by decide) (fun c5o => ?_) (fun c5o => ?_)
          · replace h := (if_pos c5o).symm.trans h
            refine om_aload_n O 0 dX9_tonight_56 rfl rfl ?_
            revert h; refine om_refR (fun t1o y1o k1o h => ?_)
            refine gf_X9_38 O ka0 (om_lt ka0 (by decide)) dX9_tonight_57 ?_
            rw [y1o]
            refine om_iload_n O 2 dX9_tonight_60 rfl rfl ?_
            revert h; refine om_iteR (fun i1o h => ?_)
            refine om_iald O k1o (om_lt k1o (by decide)) i1o dX9_tonight_61 ?_
            refine om_goto O (tgt := 71) dX9_tonight_62 (by decide) ?_
            exact om_iret (st := []) O (om_eI hE h) rfl dX9_tonight_71
          · replace h := (if_neg c5o).symm.trans h
            refine om_aload_n O 0 dX9_tonight_65 rfl rfl ?_
            revert h; refine om_refR (fun t2o y2o k2o h => ?_)
            refine gf_X9_35 O ka0 (om_lt ka0 (by decide)) dX9_tonight_66 ?_
            rw [y2o]
            refine om_iload_n O 2 dX9_tonight_69 rfl rfl ?_
            revert h; refine om_iteR (fun i2o h => ?_)
            refine om_iald O k2o (om_lt k2o (by decide)) i2o dX9_tonight_70 ?_
            exact om_iret (st := []) O (om_eI hE h) rfl dX9_tonight_71
def f_X9_litNights_b25  (a0 : Nat) (v1 : Int32) (σ : om_S) : Option (Int32 × om_S) := om_do (f_X9_layBack a0 σ) fun (σ1o : om_S) => some (v1, σ1o)
set_option maxRecDepth 100000 in
theorem g_X9_litNights_b25 {x : om_X}   (O : om_Ok x RX9 "litNights" cX9_litNights 2 (some FieldType.int) 7 0 0)   {r : Int32} {τ : om_S} (hE : om_End x (some (vI r)) τ om_rf om_N 0 0)   {a0 : Nat} {v1 : Int32} {σ : om_S} (ka0 : om_kc a0 = 9) (h : f_X9_litNights_b25 a0 v1 σ = some (r, τ)) : om_J x 25 [(0, vR (some a0)), (1, vI v1)] [] σ om_rf om_N 0 0 := by
  unfold f_X9_litNights_b25 at h
  refine om_aload_n O 0 dX9_litNights_25 rfl rfl ?_
  revert h; refine om_doR (fun σ1o g1o h => ?_)
  refine cl_X9_195 O (st := []) (stk := [vR (some a0)]) (st2 := []) [] (fun l G => c_X9_layBack l G g1o) ka0 (om_lt ka0 (by decide)) (by decide) rfl rfl rfl_le rfl rfl_le rfl_le dX9_litNights_26 ?_
  refine om_iload_n O 1 dX9_litNights_29 rfl rfl ?_
  exact om_iret (st := []) O (om_eI hE h) rfl dX9_litNights_30
def f_X9_litNights_b6  : Nat → Nat → Int32 → om_S → Option (Int32 × om_S)
  | 0, _, _, _ => none
  | F + 1, a0, v1, σ => if (60 : Int32) ≤ v1 then (f_X9_litNights_b25 a0 v1 σ) else (om_call (f_X9_aNight a0 σ) fun (r1o : Int32) (σ1o : om_S) => if r1o = 0 then (f_X9_litNights_b25 a0 v1 σ1o) else ((f_X9_litNights_b6 F) a0 (v1 + 1) σ1o))
set_option maxRecDepth 100000 in
theorem g_X9_litNights_b6 {x : om_X}   (O : om_Ok x RX9 "litNights" cX9_litNights 2 (some FieldType.int) 7 0 0)   {r : Int32} {τ : om_S} (hE : om_End x (some (vI r)) τ om_rf om_N 0 0)   : ∀ (F : Nat) (a0 : Nat) (v1 : Int32) (σ : om_S) (ka0 : om_kc a0 = 9), f_X9_litNights_b6 F a0 v1 σ = some (r, τ) → om_J x 6 [(0, vR (some a0)), (1, vI v1)] [] σ om_rf om_N 0 0 := by
  intro F
  induction F with
  | zero =>
    intro a0 v1 σ ka0 h
    cases h
  | succ F ih =>
    intro a0 v1 σ ka0 h
    unfold f_X9_litNights_b6 at h
    refine om_iload_n O 1 dX9_litNights_6 rfl rfl ?_
    refine om_bipush O (v := 60) dX9_litNights_7 (by decide) ?_
    refine om_icmp_ge O (tgt := 25) dX9_litNights_9 (by decide) (fun c1o => ?_) (fun c1o => ?_)
    · replace h := (if_pos c1o).symm.trans h
      exact g_X9_litNights_b25 O hE ka0 h
    · replace h := (if_neg c1o).symm.trans h
      refine om_aload_n O 0 dX9_litNights_12 rfl rfl ?_
      revert h; refine om_callR (fun r1o σ1o g1o h => ?_)
      refine cl_X9_161 O (st := []) (stk := [vR (some a0)]) (st2 := [vI r1o]) [] (fun l G => c_X9_aNight l G g1o) ka0 (om_lt ka0 (by decide)) (by decide) rfl rfl rfl_le rfl rfl_le rfl_le dX9_litNights_13 ?_
      refine om_if_eq O (tgt := 25) dX9_litNights_16 (by decide) (fun c2o => ?_) (fun c2o => ?_)
      · replace h := (if_pos c2o).symm.trans h
        exact g_X9_litNights_b25 O hE ka0 h
      · replace h := (if_neg c2o).symm.trans h
        refine om_iinc O (v1 := (v1 + 1)) (lv' := [(0, vR (some a0)), (1, vI (v1 + 1))]) 1 [1, 0] rfl dX9_litNights_19 rfl rfl (by decide) rfl ?_
        refine om_goto O (tgt := 6) dX9_litNights_22 (by decide) ?_
        exact ih _ _ _ ka0 h
def f_X9_litNights  (a0 : Nat) (σ : om_S) : Option (Int32 × om_S) := if om_kc a0 = 9 then om_do (f_X9_layDown a0 σ) fun (σ1o : om_S) => f_X9_litNights_b6 om_F a0 (0 : Int32) σ1o else none
set_option maxRecDepth 100000 in
theorem c_X9_litNights (l : Launch) (G : om_G) {a0 : Nat} {σ : om_S} {r : Int32} {τ : om_S} (h : f_X9_litNights a0 σ = some (r, τ)) : om_D l G 7 yX9_litNights cX9_litNights 2 (some FieldType.int) 0 0 [vR (some a0)] σ om_rf om_N (some (vI r)) τ om_rf om_N := by
  refine om_Dof (lv := [(0, vR (some a0))]) (by decide) rfl_le rfl (fun x O hE => ?_)
  change om_Ok x RX9 "litNights" cX9_litNights 2 (some FieldType.int) 7 0 0 at O
  unfold f_X9_litNights at h
  revert h; refine om_iteR (fun ka0 h => ?_)
  refine om_aload_n O 0 dX9_litNights_0 rfl rfl ?_
  revert h; refine om_doR (fun σ1o g1o h => ?_)
  refine cl_X9_192 O (st := []) (stk := [vR (some a0)]) (st2 := []) [] (fun l G => c_X9_layDown l G g1o) ka0 (om_lt ka0 (by decide)) (by decide) rfl rfl rfl_le rfl rfl_le rfl_le dX9_litNights_1 ?_
  refine om_iconst O (v := 0) dX9_litNights_4 (by decide) ?_
  refine om_istore_n O (lv' := [(0, vR (some a0)), (1, vI (0 : Int32))]) [1, 0] rfl dX9_litNights_5 rfl (by decide) rfl ?_
  exact g_X9_litNights_b6 O hE om_F _ _ _ ka0 h
def f_X9_lasts  (a0 : Nat) (σ : om_S) : Option (Int32 × om_S) := if om_kc a0 = 9 then om_call (f_X9_litNights a0 σ) fun (r1o : Int32) (σ1o : om_S) => some (r1o, σ1o) else none
set_option maxRecDepth 100000 in
theorem c_X9_lasts (l : Launch) (G : om_G) {a0 : Nat} {σ : om_S} {r : Int32} {τ : om_S} (h : f_X9_lasts a0 σ = some (r, τ)) : om_D l G 8 yX9_lasts cX9_lasts 1 (some FieldType.int) 0 0 [vR (some a0)] σ om_rf om_N (some (vI r)) τ om_rf om_N := by
  refine om_Dof (lv := [(0, vR (some a0))]) (by decide) rfl_le rfl (fun x O hE => ?_)
  change om_Ok x RX9 "lasts" cX9_lasts 1 (some FieldType.int) 8 0 0 at O
  unfold f_X9_lasts at h
  revert h; refine om_iteR (fun ka0 h => ?_)
  refine om_aload_n O 0 dX9_lasts_0 rfl rfl ?_
  revert h; refine om_callR (fun r1o σ1o g1o h => ?_)
  refine cl_X9_198 O (st := []) (stk := [vR (some a0)]) (st2 := [vI r1o]) [] (fun l G => c_X9_litNights l G g1o) ka0 (om_lt ka0 (by decide)) (by decide) rfl rfl rfl_le rfl rfl_le rfl_le dX9_lasts_1 ?_
  exact om_iret (st := []) O (om_eI hE h) rfl dX9_lasts_4
def f_X9_without  (a0 : Nat) (v1 : Int32) (σ : om_S) : Option (Int32 × om_S) := if om_kc a0 = 9 then om_call (f_X9_isMemory a0 v1 σ) fun (r1o : Int32) (σ1o : om_S) => if r1o = 0 then (om_call (f_X9_error a0 (1 : Int32) σ1o) fun (r2o : Int32) (σ2o : om_S) => some (r2o, σ2o)) else (om_call (f_X9_litNights a0 σ1o) fun (r3o : Int32) (σ3o : om_S) => om_let (om_w σ3o a0 5 v1) fun (σ4o : om_S) => om_call (f_X9_litNights a0 σ4o) fun (r4o : Int32) (σ5o : om_S) => om_let (om_w σ5o a0 5 (-1 : Int32)) fun (σ6o : om_S) => some ((r3o - r4o), σ6o)) else none
set_option maxRecDepth 100000 in
theorem c_X9_without (l : Launch) (G : om_G) {a0 : Nat} {v1 : Int32} {σ : om_S} {r : Int32} {τ : om_S} (h : f_X9_without a0 v1 σ = some (r, τ)) : om_D l G 8 yX9_without cX9_without 4 (some FieldType.int) 0 0 [vR (some a0), vI v1] σ om_rf om_N (some (vI r)) τ om_rf om_N := by
  refine om_Dof (lv := [(0, vR (some a0)), (1, vI v1)]) (by decide) rfl_le rfl (fun x O hE => ?_)
  change om_Ok x RX9 "without" cX9_without 4 (some FieldType.int) 8 0 0 at O
  unfold f_X9_without at h
  revert h; refine om_iteR (fun ka0 h => ?_)
  refine om_aload_n O 0 dX9_without_0 rfl rfl ?_
  refine om_iload_n O 1 dX9_without_1 rfl rfl ?_
  revert h; refine om_callR (fun r1o σ1o g1o h => ?_)
  refine cl_X9_168 O (st := []) (stk := [vI v1, vR (some a0)]) (st2 := [vI r1o]) [vI v1] (fun l G => c_X9_isMemory l G g1o) ka0 (om_lt ka0 (by decide)) (by decide) rfl rfl rfl_le rfl rfl_le rfl_le dX9_without_2 ?_
  refine om_if_ne O (tgt := 14) dX9_without_5 (by decide) (fun c1o => ?_) (fun c1o => ?_)
  · replace h := (if_pos c1o).symm.trans h
    refine om_aload_n O 0 dX9_without_8 rfl rfl ?_
    refine om_iconst O (v := 1) dX9_without_9 (by decide) ?_
    revert h; refine om_callR (fun r2o σ2o g2o h => ?_)
    refine cl_X9_61 O (st := []) (stk := [vI (1 : Int32), vR (some a0)]) (st2 := [vI r2o]) [vI (1 : Int32)] (fun l G => c_X9_error l G g2o) ka0 (om_lt ka0 (by decide)) (by decide) rfl rfl rfl_le rfl rfl_le rfl_le dX9_without_10 ?_
    exact om_iret (st := []) O (om_eI hE h) rfl dX9_without_13
  · replace h := (if_neg c1o).symm.trans h
    refine om_aload_n O 0 dX9_without_14 rfl rfl ?_
    revert h; refine om_callR (fun r3o σ3o g3o h => ?_)
    refine cl_X9_198 O (st := []) (stk := [vR (some a0)]) (st2 := [vI r3o]) [] (fun l G => c_X9_litNights l G g3o) ka0 (om_lt ka0 (by decide)) (by decide) rfl rfl rfl_le rfl rfl_le rfl_le dX9_without_15 ?_
    refine om_istore_n O (lv' := [(0, vR (some a0)), (1, vI v1), (2, vI r3o)]) [1, 2, 0] rfl dX9_without_18 rfl (by decide) rfl ?_
    refine om_aload_n O 0 dX9_without_19 rfl rfl ?_
    refine om_iload_n O 1 dX9_without_20 rfl rfl ?_
    revert h; refine om_letR (fun σ4o e1o h => ?_)
    refine pf_X9_22 O (Or.inl rfl) ka0 (om_lt ka0 (by decide)) dX9_without_21 e1o ?_
    refine om_aload_n O 0 dX9_without_24 rfl rfl ?_
    revert h; refine om_callR (fun r4o σ5o g4o h => ?_)
    refine cl_X9_198 O (st := []) (stk := [vR (some a0)]) (st2 := [vI r4o]) [] (fun l G => c_X9_litNights l G g4o) ka0 (om_lt ka0 (by decide)) (by decide) rfl rfl rfl_le rfl rfl_le rfl_le dX9_without_25 ?_
    refine om_istore_n O (lv' := [(0, vR (some a0)), (2, vI r3o), (3, vI r4o)]) [1, 3, 0] rfl dX9_without_28 rfl (by decide) rfl ?_
    refine om_aload_n O 0 dX9_without_29 rfl rfl ?_
    refine om_iconst O (v := -1) dX9_without_30 (by decide) ?_
    revert h; refine om_letR (fun σ6o e2o h => ?_)
    refine pf_X9_22 O (Or.inl rfl) ka0 (om_lt ka0 (by decide)) dX9_without_31 e2o ?_
    refine om_iload_n O 1 dX9_without_34 rfl rfl ?_
    refine om_iload_n O 2 dX9_without_35 rfl rfl ?_
    refine om_isub O dX9_without_36 ?_
    exact om_iret (st := []) O (om_eI hE h) rfl dX9_without_37
def f_X9_then_b18  (a0 : Nat) (σ : om_S) : Option (Int32 × om_S) := om_call (f_X9_error a0 (1 : Int32) σ) fun (r1o : Int32) (σ1o : om_S) => some (r1o, σ1o)
set_option maxRecDepth 100000 in
theorem g_X9_then_b18 {x : om_X}   (O : om_Ok x RX9 "then" cX9_then 5 (some FieldType.int) 8 0 0)   {r : Int32} {τ : om_S} (hE : om_End x (some (vI r)) τ om_rf om_N 0 0)   {a0 : Nat} {σ : om_S} (ka0 : om_kc a0 = 9) (h : f_X9_then_b18 a0 σ = some (r, τ)) : om_J x 18 [(0, vR (some a0))] [] σ om_rf om_N 0 0 := by
  unfold f_X9_then_b18 at h
  refine om_aload_n O 0 dX9_then_18 rfl rfl ?_
  refine om_iconst O (v := 1) dX9_then_19 (by decide) ?_
  revert h; refine om_callR (fun r1o σ1o g1o h => ?_)
  refine cl_X9_61 O (st := []) (stk := [vI (1 : Int32), vR (some a0)]) (st2 := [vI r1o]) [vI (1 : Int32)] (fun l G => c_X9_error l G g1o) ka0 (om_lt ka0 (by decide)) (by decide) rfl rfl rfl_le rfl rfl_le rfl_le dX9_then_20 ?_
  exact om_iret (st := []) O (om_eI hE h) rfl dX9_then_23
def f_X9_then  (a0 : Nat) (v1 : Int32) (v2 : Int32) (σ : om_S) : Option (Int32 × om_S) := if om_kc a0 = 9 then om_call (f_X9_isMemory a0 v1 σ) fun (r1o : Int32) (σ1o : om_S) => if r1o = 0 then (f_X9_then_b18 a0 σ1o) else (om_call (f_X9_in v2 (0 : Int32) (60 : Int32) σ1o) fun (r2o : Int32) (σ2o : om_S) => if r2o = 0 then (f_X9_then_b18 a0 σ2o) else (om_do (f_X9_layDown a0 σ2o) fun (σ3o : om_S) => om_call (f_X9_goes a0 v2 σ3o) fun (r3o : Int32) (σ4o : om_S) => om_call (f_X9_its a0 v1 (3 : Int32) σ4o) fun (r4o : Int32) (σ5o : om_S) => om_do (f_X9_layBack a0 σ5o) fun (σ6o : om_S) => some (r4o, σ6o))) else none
set_option maxRecDepth 100000 in
theorem c_X9_then (l : Launch) (G : om_G) {a0 : Nat} {v1 : Int32} {v2 : Int32} {σ : om_S} {r : Int32} {τ : om_S} (h : f_X9_then a0 v1 v2 σ = some (r, τ)) : om_D l G 8 yX9_then cX9_then 5 (some FieldType.int) 0 0 [vR (some a0), vI v1, vI v2] σ om_rf om_N (some (vI r)) τ om_rf om_N := by
  refine om_Dof (lv := [(0, vR (some a0)), (1, vI v1), (2, vI v2)]) (by decide) rfl_le rfl (fun x O hE => ?_)
  change om_Ok x RX9 "then" cX9_then 5 (some FieldType.int) 8 0 0 at O
  unfold f_X9_then at h
  revert h; refine om_iteR (fun ka0 h => ?_)
  refine om_aload_n O 0 dX9_then_0 rfl rfl ?_
  refine om_iload_n O 1 dX9_then_1 rfl rfl ?_
  revert h; refine om_callR (fun r1o σ1o g1o h => ?_)
  refine cl_X9_168 O (st := []) (stk := [vI v1, vR (some a0)]) (st2 := [vI r1o]) [vI v1] (fun l G => c_X9_isMemory l G g1o) ka0 (om_lt ka0 (by decide)) (by decide) rfl rfl rfl_le rfl rfl_le rfl_le dX9_then_2 ?_
  refine om_if_eq O (tgt := 18) dX9_then_5 (by decide) (fun c1o => ?_) (fun c1o => ?_)
  · replace h := (if_pos c1o).symm.trans h
    refine om_drop (lv' := [(0, vR (some a0))]) [0] rfl ?_
    exact g_X9_then_b18 O hE ka0 h
  · replace h := (if_neg c1o).symm.trans h
    refine om_iload_n O 2 dX9_then_8 rfl rfl ?_
    refine om_iconst O (v := 0) dX9_then_9 (by decide) ?_
    refine om_bipush O (v := 60) dX9_then_10 (by decide) ?_
    revert h; refine om_callR (fun r2o σ2o g2o h => ?_)
    refine cl_X9_57 O (st := []) (stk := [vI (60 : Int32), vI (0 : Int32), vI v2]) (st2 := [vI r2o]) [vI v2, vI (0 : Int32), vI (60 : Int32)] (fun l G => c_X9_in l G g2o) (by decide) rfl rfl rfl_le rfl rfl_le rfl_le dX9_then_12 ?_
    refine om_if_ne O (tgt := 24) dX9_then_15 (by decide) (fun c2o => ?_) (fun c2o => ?_)
    · replace h := (if_pos c2o).symm.trans h
      refine om_drop (lv' := [(0, vR (some a0))]) [0] rfl ?_
      exact g_X9_then_b18 O hE ka0 h
    · replace h := (if_neg c2o).symm.trans h
      refine om_aload_n O 0 dX9_then_24 rfl rfl ?_
      revert h; refine om_doR (fun σ3o g3o h => ?_)
      refine cl_X9_192 O (st := []) (stk := [vR (some a0)]) (st2 := []) [] (fun l G => c_X9_layDown l G g3o) ka0 (om_lt ka0 (by decide)) (by decide) rfl rfl rfl_le rfl rfl_le rfl_le dX9_then_25 ?_
      refine om_aload_n O 0 dX9_then_28 rfl rfl ?_
      refine om_iload_n O 2 dX9_then_29 rfl rfl ?_
      revert h; refine om_callR (fun r3o σ4o g4o h => ?_)
      refine cl_X9_183 O (st := []) (stk := [vI v2, vR (some a0)]) (st2 := [vI r3o]) [vI v2] (fun l G => c_X9_goes l G g4o) ka0 (om_lt ka0 (by decide)) (by decide) rfl rfl rfl_le rfl rfl_le rfl_le dX9_then_30 ?_
      refine om_istore_n O (lv' := [(0, vR (some a0)), (1, vI v1)]) [1, 2] rfl dX9_then_33 rfl (by decide) rfl ?_
      refine om_aload_n O 0 dX9_then_34 rfl rfl ?_
      refine om_iload_n O 1 dX9_then_35 rfl rfl ?_
      refine om_iconst O (v := 3) dX9_then_36 (by decide) ?_
      revert h; refine om_callR (fun r4o σ5o g5o h => ?_)
      refine cl_X9_120 O (st := []) (stk := [vI (3 : Int32), vI v1, vR (some a0)]) (st2 := [vI r4o]) [vI v1, vI (3 : Int32)] (fun l G => c_X9_its l G g5o) ka0 (om_lt ka0 (by decide)) (by decide) rfl rfl rfl_le rfl rfl_le rfl_le dX9_then_37 ?_
      refine om_istore O (lv' := [(0, vR (some a0)), (4, vI r4o)]) [1, 0] rfl dX9_then_40 (by decide) rfl ?_
      refine om_aload_n O 0 dX9_then_42 rfl rfl ?_
      revert h; refine om_doR (fun σ6o g6o h => ?_)
      refine cl_X9_195 O (st := []) (stk := [vR (some a0)]) (st2 := []) [] (fun l G => c_X9_layBack l G g6o) ka0 (om_lt ka0 (by decide)) (by decide) rfl rfl rfl_le rfl rfl_le rfl_le dX9_then_43 ?_
      refine om_iload O 1 dX9_then_46 rfl ?_
      exact om_iret (st := []) O (om_eI hE h) rfl dX9_then_48
def f_X9_has_b71 (lp17 : Nat → Int32 → Int32 → Int32 → om_S → Option (Int32 × om_S)) (a0 : Nat) (v1 : Int32) (v3 : Int32) (s0 : Int32) (s1 : Int32) (σ : om_S) : Option (Int32 × om_S) := lp17 a0 v1 (s0 + s1) (v3 + 1) σ
set_option maxRecDepth 100000 in
theorem g_X9_has_b71 {x : om_X}   (O : om_Ok x RX9 "has" cX9_has 5 (some FieldType.int) 4 0 0)   {r : Int32} {τ : om_S} (hE : om_End x (some (vI r)) τ om_rf om_N 0 0) {lp17 : Nat → Int32 → Int32 → Int32 → om_S → Option (Int32 × om_S)} (L17 : ∀ (a0 : Nat) (v1 : Int32) (v2 : Int32) (v3 : Int32) (σ : om_S) (ka0 : om_kc a0 = 9), lp17 a0 v1 v2 v3 σ = some (r, τ) → om_J x 17 [(0, vR (some a0)), (1, vI v1), (2, vI v2), (3, vI v3)] [] σ om_rf om_N 0 0) {a0 : Nat} {v1 : Int32} {v3 : Int32} {s0 : Int32} {s1 : Int32} {σ : om_S} (ka0 : om_kc a0 = 9) (h : f_X9_has_b71 lp17 a0 v1 v3 s0 s1 σ = some (r, τ)) : om_J x 71 [(0, vR (some a0)), (1, vI v1), (3, vI v3)] [vI s1, vI s0] σ om_rf om_N 0 0 := by
  unfold f_X9_has_b71 at h
  refine om_iadd O dX9_has_71 ?_
  refine om_istore_n O (lv' := [(0, vR (some a0)), (1, vI v1), (2, vI (s0 + s1)), (3, vI v3)]) [1, 2, 0, 3] rfl dX9_has_72 rfl (by decide) rfl ?_
  refine om_iinc O (v1 := (v3 + 1)) (lv' := [(0, vR (some a0)), (1, vI v1), (2, vI (s0 + s1)), (3, vI (v3 + 1))]) 3 [1, 2, 3, 0] rfl dX9_has_73 rfl rfl (by decide) rfl ?_
  refine om_goto O (tgt := 17) dX9_has_76 (by decide) ?_
  exact L17 _ _ _ _ _ ka0 h
def f_X9_has_b17  : Nat → Nat → Int32 → Int32 → Int32 → om_S → Option (Int32 × om_S)
  | 0, _, _, _, _, _ => none
  | F + 1, a0, v1, v2, v3, σ => om_ref (om_rf a0 0) 20 fun (t1o : Nat) => if om_in (6 : Int32) (om_al t1o) then if (σ t1o (6 : Int32).toNatClampNeg) ≤ v3 then (some (v2, σ)) else (om_call (f_X9_its a0 v3 (2 : Int32) σ) fun (r1o : Int32) (σ1o : om_S) => if ((r1o >>> (v1 &&& 31)) &&& (1 : Int32)) = (1 : Int32) then (om_call (f_X9_its a0 v3 (3 : Int32) σ1o) fun (r2o : Int32) (σ2o : om_S) => om_call (f_X9_lightBy a0 v3 r1o σ2o) fun (r3o : Int32) (σ3o : om_S) => om_call (f_X9_manyIn r1o σ3o) fun (r4o : Int32) (σ4o : om_S) => if ¬ r4o = 0 then f_X9_has_b71 (f_X9_has_b17 F) a0 v1 v3 v2 ((r2o * r3o) / r4o) σ4o else none) else (f_X9_has_b71 (f_X9_has_b17 F) a0 v1 v3 v2 (0 : Int32) σ1o)) else none
set_option maxRecDepth 100000 in
theorem g_X9_has_b17 {x : om_X}   (O : om_Ok x RX9 "has" cX9_has 5 (some FieldType.int) 4 0 0)   {r : Int32} {τ : om_S} (hE : om_End x (some (vI r)) τ om_rf om_N 0 0)   : ∀ (F : Nat) (a0 : Nat) (v1 : Int32) (v2 : Int32) (v3 : Int32) (σ : om_S) (ka0 : om_kc a0 = 9), f_X9_has_b17 F a0 v1 v2 v3 σ = some (r, τ) → om_J x 17 [(0, vR (some a0)), (1, vI v1), (2, vI v2), (3, vI v3)] [] σ om_rf om_N 0 0 := by
  intro F
  induction F with
  | zero =>
    intro a0 v1 v2 v3 σ ka0 h
    cases h
  | succ F ih =>
    intro a0 v1 v2 v3 σ ka0 h
    unfold f_X9_has_b17 at h
    refine om_iload_n O 3 dX9_has_17 rfl rfl ?_
    refine om_aload_n O 0 dX9_has_18 rfl rfl ?_
    revert h; refine om_refR (fun t1o y1o k1o h => ?_)
    refine gf_X9_7 O ka0 (om_lt ka0 (by decide)) dX9_has_19 ?_
    rw [y1o]
    refine om_bipush O (v := 6) dX9_has_22 (by decide) ?_
    revert h; refine om_iteR (fun i1o h => ?_)
    refine om_iald O k1o (om_lt k1o (by decide)) i1o dX9_has_24 ?_
    refine om_icmp_ge O (tgt := 79) dX9_has_25 (by decide) (fun c1o => ?_) (fun c1o => ?_)
    · replace h := (if_pos c1o).symm.trans h
      refine om_iload_n O 2 dX9_has_79 rfl rfl ?_
      exact om_iret (st := []) O (om_eI hE h) rfl dX9_has_80
    · replace h := (if_neg c1o).symm.trans h
      refine om_aload_n O 0 dX9_has_28 rfl rfl ?_
      refine om_iload_n O 3 dX9_has_29 rfl rfl ?_
      refine om_iconst O (v := 2) dX9_has_30 (by decide) ?_
      revert h; refine om_callR (fun r1o σ1o g1o h => ?_)
      refine cl_X9_120 O (st := []) (stk := [vI (2 : Int32), vI v3, vR (some a0)]) (st2 := [vI r1o]) [vI v3, vI (2 : Int32)] (fun l G => c_X9_its l G g1o) ka0 (om_lt ka0 (by decide)) (by decide) rfl rfl rfl_le rfl rfl_le rfl_le dX9_has_31 ?_
      refine om_istore O (lv' := [(0, vR (some a0)), (1, vI v1), (2, vI v2), (3, vI v3), (4, vI r1o)]) [1, 2, 3, 4, 0] rfl dX9_has_34 (by decide) rfl ?_
      refine om_iload_n O 2 dX9_has_36 rfl rfl ?_
      refine om_iload O 4 dX9_has_37 rfl ?_
      refine om_iload_n O 1 dX9_has_39 rfl rfl ?_
      refine om_ishr O dX9_has_40 ?_
      refine om_iconst O (v := 1) dX9_has_41 (by decide) ?_
      refine om_iand O dX9_has_42 ?_
      refine om_iconst O (v := 1) dX9_has_43 (by decide) ?_
      refine om_icmp_ne O (tgt := 70) dX9_has_44 (by decide) (fun c2o => ?_) (fun c2o => ?_)
      · replace h := (if_pos c2o).symm.trans h
        refine om_aload_n O 0 dX9_has_47 rfl rfl ?_
        refine om_iload_n O 3 dX9_has_48 rfl rfl ?_
        refine om_iconst O (v := 3) dX9_has_49 (by decide) ?_
        revert h; refine om_callR (fun r2o σ2o g2o h => ?_)
        refine cl_X9_120 O (st := [vI v2]) (stk := [vI (3 : Int32), vI v3, vR (some a0), vI v2]) (st2 := [vI r2o, vI v2]) [vI v3, vI (3 : Int32)] (fun l G => c_X9_its l G g2o) ka0 (om_lt ka0 (by decide)) (by decide) rfl rfl rfl_le rfl rfl_le rfl_le dX9_has_50 ?_
        refine om_aload_n O 0 dX9_has_53 rfl rfl ?_
        refine om_iload_n O 3 dX9_has_54 rfl rfl ?_
        refine om_iload O 4 dX9_has_55 rfl ?_
        revert h; refine om_callR (fun r3o σ3o g3o h => ?_)
        refine cl_X9_139 O (st := [vI r2o, vI v2]) (stk := [vI r1o, vI v3, vR (some a0), vI r2o, vI v2]) (st2 := [vI r3o, vI r2o, vI v2]) [vI v3, vI r1o] (fun l G => c_X9_lightBy l G g3o) ka0 (om_lt ka0 (by decide)) (by decide) rfl rfl rfl_le rfl rfl_le rfl_le dX9_has_57 ?_
        refine om_imul O dX9_has_60 ?_
        refine om_iload O 4 dX9_has_61 rfl ?_
        revert h; refine om_callR (fun r4o σ4o g4o h => ?_)
        refine cl_X9_130 O (st := [vI (r2o * r3o), vI v2]) (stk := [vI r1o, vI (r2o * r3o), vI v2]) (st2 := [vI r4o, vI (r2o * r3o), vI v2]) [vI r1o] (fun l G => c_X9_manyIn l G g4o) (by decide) rfl rfl rfl_le rfl rfl_le rfl_le dX9_has_63 ?_
        revert h; refine om_iteR (fun z1o h => ?_)
        refine om_idiv O dX9_has_66 z1o ?_
        refine om_goto O (tgt := 71) dX9_has_67 (by decide) ?_
        refine om_drop (lv' := [(0, vR (some a0)), (1, vI v1), (3, vI v3)]) [0, 1, 3] rfl ?_
        exact g_X9_has_b71 O hE ih ka0 h
      · replace h := (if_neg c2o).symm.trans h
        refine om_iconst O (v := 0) dX9_has_70 (by decide) ?_
        refine om_drop (lv' := [(0, vR (some a0)), (1, vI v1), (3, vI v3)]) [0, 1, 3] rfl ?_
        exact g_X9_has_b71 O hE ih ka0 h
def f_X9_has  (a0 : Nat) (v1 : Int32) (σ : om_S) : Option (Int32 × om_S) := if om_kc a0 = 9 then om_call (f_X9_isKeeper v1 σ) fun (r1o : Int32) (σ1o : om_S) => if r1o = 0 then (om_call (f_X9_error a0 (1 : Int32) σ1o) fun (r2o : Int32) (σ2o : om_S) => some (r2o, σ2o)) else (f_X9_has_b17 om_F a0 v1 (0 : Int32) (0 : Int32) σ1o) else none
set_option maxRecDepth 100000 in
theorem c_X9_has (l : Launch) (G : om_G) {a0 : Nat} {v1 : Int32} {σ : om_S} {r : Int32} {τ : om_S} (h : f_X9_has a0 v1 σ = some (r, τ)) : om_D l G 4 yX9_has cX9_has 5 (some FieldType.int) 0 0 [vR (some a0), vI v1] σ om_rf om_N (some (vI r)) τ om_rf om_N := by
  refine om_Dof (lv := [(0, vR (some a0)), (1, vI v1)]) (by decide) rfl_le rfl (fun x O hE => ?_)
  change om_Ok x RX9 "has" cX9_has 5 (some FieldType.int) 4 0 0 at O
  unfold f_X9_has at h
  revert h; refine om_iteR (fun ka0 h => ?_)
  refine om_iload_n O 1 dX9_has_0 rfl rfl ?_
  revert h; refine om_callR (fun r1o σ1o g1o h => ?_)
  refine cl_X9_177 O (st := []) (stk := [vI v1]) (st2 := [vI r1o]) [vI v1] (fun l G => c_X9_isKeeper l G g1o) (by decide) rfl rfl rfl_le rfl rfl_le rfl_le dX9_has_1 ?_
  refine om_if_ne O (tgt := 13) dX9_has_4 (by decide) (fun c1o => ?_) (fun c1o => ?_)
  · replace h := (if_pos c1o).symm.trans h
    refine om_aload_n O 0 dX9_has_7 rfl rfl ?_
    refine om_iconst O (v := 1) dX9_has_8 (by decide) ?_
    revert h; refine om_callR (fun r2o σ2o g2o h => ?_)
    refine cl_X9_61 O (st := []) (stk := [vI (1 : Int32), vR (some a0)]) (st2 := [vI r2o]) [vI (1 : Int32)] (fun l G => c_X9_error l G g2o) ka0 (om_lt ka0 (by decide)) (by decide) rfl rfl rfl_le rfl rfl_le rfl_le dX9_has_9 ?_
    exact om_iret (st := []) O (om_eI hE h) rfl dX9_has_12
  · replace h := (if_neg c1o).symm.trans h
    refine om_iconst O (v := 0) dX9_has_13 (by decide) ?_
    refine om_istore_n O (lv' := [(0, vR (some a0)), (1, vI v1), (2, vI (0 : Int32))]) [1, 2, 0] rfl dX9_has_14 rfl (by decide) rfl ?_
    refine om_iconst O (v := 0) dX9_has_15 (by decide) ?_
    refine om_istore_n O (lv' := [(0, vR (some a0)), (1, vI v1), (2, vI (0 : Int32)), (3, vI (0 : Int32))]) [1, 2, 3, 0] rfl dX9_has_16 rfl (by decide) rfl ?_
    exact g_X9_has_b17 O hE om_F _ _ _ _ _ ka0 h
def f_X9_mixes_b17  (a0 : Nat) (σ : om_S) : Option (Int32 × om_S) := om_call (f_X9_error a0 (1 : Int32) σ) fun (r1o : Int32) (σ1o : om_S) => some (r1o, σ1o)
set_option maxRecDepth 100000 in
theorem g_X9_mixes_b17 {x : om_X}   (O : om_Ok x RX9 "mixes" cX9_mixes 5 (some FieldType.int) 5 0 0)   {r : Int32} {τ : om_S} (hE : om_End x (some (vI r)) τ om_rf om_N 0 0)   {a0 : Nat} {σ : om_S} (ka0 : om_kc a0 = 9) (h : f_X9_mixes_b17 a0 σ = some (r, τ)) : om_J x 17 [(0, vR (some a0))] [] σ om_rf om_N 0 0 := by
  unfold f_X9_mixes_b17 at h
  refine om_aload_n O 0 dX9_mixes_17 rfl rfl ?_
  refine om_iconst O (v := 1) dX9_mixes_18 (by decide) ?_
  revert h; refine om_callR (fun r1o σ1o g1o h => ?_)
  refine cl_X9_61 O (st := []) (stk := [vI (1 : Int32), vR (some a0)]) (st2 := [vI r1o]) [vI (1 : Int32)] (fun l G => c_X9_error l G g1o) ka0 (om_lt ka0 (by decide)) (by decide) rfl rfl rfl_le rfl rfl_le rfl_le dX9_mixes_19 ?_
  exact om_iret (st := []) O (om_eI hE h) rfl dX9_mixes_22
def f_X9_mixes_b57 (lp28 : Nat → Int32 → Int32 → Int32 → Int32 → om_S → Option (Int32 × om_S)) (a0 : Nat) (v1 : Int32) (v2 : Int32) (v4 : Int32) (s0 : Int32) (σ : om_S) : Option (Int32 × om_S) := lp28 a0 v1 v2 s0 (v4 + 1) σ
set_option maxRecDepth 100000 in
theorem g_X9_mixes_b57 {x : om_X}   (O : om_Ok x RX9 "mixes" cX9_mixes 5 (some FieldType.int) 5 0 0)   {r : Int32} {τ : om_S} (hE : om_End x (some (vI r)) τ om_rf om_N 0 0) {lp28 : Nat → Int32 → Int32 → Int32 → Int32 → om_S → Option (Int32 × om_S)} (L28 : ∀ (a0 : Nat) (v1 : Int32) (v2 : Int32) (v3 : Int32) (v4 : Int32) (σ : om_S) (ka0 : om_kc a0 = 9), lp28 a0 v1 v2 v3 v4 σ = some (r, τ) → om_J x 28 [(0, vR (some a0)), (1, vI v1), (2, vI v2), (3, vI v3), (4, vI v4)] [] σ om_rf om_N 0 0) {a0 : Nat} {v1 : Int32} {v2 : Int32} {v4 : Int32} {s0 : Int32} {σ : om_S} (ka0 : om_kc a0 = 9) (h : f_X9_mixes_b57 lp28 a0 v1 v2 v4 s0 σ = some (r, τ)) : om_J x 57 [(0, vR (some a0)), (1, vI v1), (2, vI v2), (4, vI v4)] [vI s0] σ om_rf om_N 0 0 := by
  unfold f_X9_mixes_b57 at h
  refine om_istore_n O (lv' := [(0, vR (some a0)), (1, vI v1), (2, vI v2), (3, vI s0), (4, vI v4)]) [1, 2, 3, 0, 4] rfl dX9_mixes_57 rfl (by decide) rfl ?_
  refine om_iinc O (v1 := (v4 + 1)) (lv' := [(0, vR (some a0)), (1, vI v1), (2, vI v2), (3, vI s0), (4, vI (v4 + 1))]) 4 [1, 2, 3, 4, 0] rfl dX9_mixes_58 rfl rfl (by decide) rfl ?_
  refine om_goto O (tgt := 28) dX9_mixes_61 (by decide) ?_
  exact L28 _ _ _ _ _ _ ka0 h
def f_X9_mixes_b28  : Nat → Nat → Int32 → Int32 → Int32 → Int32 → om_S → Option (Int32 × om_S)
  | 0, _, _, _, _, _, _ => none
  | F + 1, a0, v1, v2, v3, v4, σ => if (16 : Int32) ≤ v4 then (if v2 = 0 then (some (v3, σ)) else (om_call (f_X9_givesBy a0 v1 v3 σ) fun (r1o : Int32) (σ1o : om_S) => some (r1o, σ1o))) else (om_call (f_X9_givesBy a0 v1 v4 σ) fun (r2o : Int32) (σ2o : om_S) => om_call (f_X9_givesBy a0 v1 v3 σ2o) fun (r3o : Int32) (σ3o : om_S) => if r2o ≤ r3o then (f_X9_mixes_b57 (f_X9_mixes_b28 F) a0 v1 v2 v4 v3 σ3o) else (f_X9_mixes_b57 (f_X9_mixes_b28 F) a0 v1 v2 v4 v4 σ3o))
set_option maxRecDepth 100000 in
theorem g_X9_mixes_b28 {x : om_X}   (O : om_Ok x RX9 "mixes" cX9_mixes 5 (some FieldType.int) 5 0 0)   {r : Int32} {τ : om_S} (hE : om_End x (some (vI r)) τ om_rf om_N 0 0)   : ∀ (F : Nat) (a0 : Nat) (v1 : Int32) (v2 : Int32) (v3 : Int32) (v4 : Int32) (σ : om_S) (ka0 : om_kc a0 = 9), f_X9_mixes_b28 F a0 v1 v2 v3 v4 σ = some (r, τ) → om_J x 28 [(0, vR (some a0)), (1, vI v1), (2, vI v2), (3, vI v3), (4, vI v4)] [] σ om_rf om_N 0 0 := by
  intro F
  induction F with
  | zero =>
    intro a0 v1 v2 v3 v4 σ ka0 h
    cases h
  | succ F ih =>
    intro a0 v1 v2 v3 v4 σ ka0 h
    unfold f_X9_mixes_b28 at h
    refine om_iload O 4 dX9_mixes_28 rfl ?_
    refine om_bipush O (v := 16) dX9_mixes_30 (by decide) ?_
    refine om_icmp_ge O (tgt := 64) dX9_mixes_32 (by decide) (fun c1o => ?_) (fun c1o => ?_)
    · replace h := (if_pos c1o).symm.trans h
      refine om_iload_n O 2 dX9_mixes_64 rfl rfl ?_
      refine om_if_ne O (tgt := 72) dX9_mixes_65 (by decide) (fun c2o => ?_) (fun c2o => ?_)
      · replace h := (if_pos c2o).symm.trans h
        refine om_iload_n O 3 dX9_mixes_68 rfl rfl ?_
        refine om_goto O (tgt := 78) dX9_mixes_69 (by decide) ?_
        exact om_iret (st := []) O (om_eI hE h) rfl dX9_mixes_78
      · replace h := (if_neg c2o).symm.trans h
        refine om_aload_n O 0 dX9_mixes_72 rfl rfl ?_
        refine om_iload_n O 1 dX9_mixes_73 rfl rfl ?_
        refine om_iload_n O 3 dX9_mixes_74 rfl rfl ?_
        revert h; refine om_callR (fun r1o σ1o g1o h => ?_)
        refine cl_X9_151 O (st := []) (stk := [vI v3, vI v1, vR (some a0)]) (st2 := [vI r1o]) [vI v1, vI v3] (fun l G => c_X9_givesBy l G g1o) ka0 (om_lt ka0 (by decide)) (by decide) rfl rfl rfl_le rfl rfl_le rfl_le dX9_mixes_75 ?_
        exact om_iret (st := []) O (om_eI hE h) rfl dX9_mixes_78
    · replace h := (if_neg c1o).symm.trans h
      refine om_aload_n O 0 dX9_mixes_35 rfl rfl ?_
      refine om_iload_n O 1 dX9_mixes_36 rfl rfl ?_
      refine om_iload O 4 dX9_mixes_37 rfl ?_
      revert h; refine om_callR (fun r2o σ2o g2o h => ?_)
      refine cl_X9_151 O (st := []) (stk := [vI v4, vI v1, vR (some a0)]) (st2 := [vI r2o]) [vI v1, vI v4] (fun l G => c_X9_givesBy l G g2o) ka0 (om_lt ka0 (by decide)) (by decide) rfl rfl rfl_le rfl rfl_le rfl_le dX9_mixes_39 ?_
      refine om_aload_n O 0 dX9_mixes_42 rfl rfl ?_
      refine om_iload_n O 1 dX9_mixes_43 rfl rfl ?_
      refine om_iload_n O 3 dX9_mixes_44 rfl rfl ?_
      revert h; refine om_callR (fun r3o σ3o g3o h => ?_)
      refine cl_X9_151 O (st := [vI r2o]) (stk := [vI v3, vI v1, vR (some a0), vI r2o]) (st2 := [vI r3o, vI r2o]) [vI v1, vI v3] (fun l G => c_X9_givesBy l G g3o) ka0 (om_lt ka0 (by decide)) (by decide) rfl rfl rfl_le rfl rfl_le rfl_le dX9_mixes_45 ?_
      refine om_icmp_le O (tgt := 56) dX9_mixes_48 (by decide) (fun c3o => ?_) (fun c3o => ?_)
      · replace h := (if_pos c3o).symm.trans h
        refine om_iload_n O 3 dX9_mixes_56 rfl rfl ?_
        refine om_drop (lv' := [(0, vR (some a0)), (1, vI v1), (2, vI v2), (4, vI v4)]) [0, 1, 2, 4] rfl ?_
        exact g_X9_mixes_b57 O hE ih ka0 h
      · replace h := (if_neg c3o).symm.trans h
        refine om_iload O 4 dX9_mixes_51 rfl ?_
        refine om_goto O (tgt := 57) dX9_mixes_53 (by decide) ?_
        refine om_drop (lv' := [(0, vR (some a0)), (1, vI v1), (2, vI v2), (4, vI v4)]) [0, 1, 2, 4] rfl ?_
        exact g_X9_mixes_b57 O hE ih ka0 h
def f_X9_mixes  (a0 : Nat) (v1 : Int32) (v2 : Int32) (σ : om_S) : Option (Int32 × om_S) := if om_kc a0 = 9 then om_call (f_X9_isMemory a0 v1 σ) fun (r1o : Int32) (σ1o : om_S) => if r1o = 0 then (f_X9_mixes_b17 a0 σ1o) else (om_call (f_X9_in v2 (0 : Int32) (1 : Int32) σ1o) fun (r2o : Int32) (σ2o : om_S) => if r2o = 0 then (f_X9_mixes_b17 a0 σ2o) else (f_X9_mixes_b28 om_F a0 v1 v2 (1 : Int32) (2 : Int32) σ2o)) else none
set_option maxRecDepth 100000 in
theorem c_X9_mixes (l : Launch) (G : om_G) {a0 : Nat} {v1 : Int32} {v2 : Int32} {σ : om_S} {r : Int32} {τ : om_S} (h : f_X9_mixes a0 v1 v2 σ = some (r, τ)) : om_D l G 5 yX9_mixes cX9_mixes 5 (some FieldType.int) 0 0 [vR (some a0), vI v1, vI v2] σ om_rf om_N (some (vI r)) τ om_rf om_N := by
  refine om_Dof (lv := [(0, vR (some a0)), (1, vI v1), (2, vI v2)]) (by decide) rfl_le rfl (fun x O hE => ?_)
  change om_Ok x RX9 "mixes" cX9_mixes 5 (some FieldType.int) 5 0 0 at O
  unfold f_X9_mixes at h
  revert h; refine om_iteR (fun ka0 h => ?_)
  refine om_aload_n O 0 dX9_mixes_0 rfl rfl ?_
  refine om_iload_n O 1 dX9_mixes_1 rfl rfl ?_
  revert h; refine om_callR (fun r1o σ1o g1o h => ?_)
  refine cl_X9_168 O (st := []) (stk := [vI v1, vR (some a0)]) (st2 := [vI r1o]) [vI v1] (fun l G => c_X9_isMemory l G g1o) ka0 (om_lt ka0 (by decide)) (by decide) rfl rfl rfl_le rfl rfl_le rfl_le dX9_mixes_2 ?_
  refine om_if_eq O (tgt := 17) dX9_mixes_5 (by decide) (fun c1o => ?_) (fun c1o => ?_)
  · replace h := (if_pos c1o).symm.trans h
    refine om_drop (lv' := [(0, vR (some a0))]) [0] rfl ?_
    exact g_X9_mixes_b17 O hE ka0 h
  · replace h := (if_neg c1o).symm.trans h
    refine om_iload_n O 2 dX9_mixes_8 rfl rfl ?_
    refine om_iconst O (v := 0) dX9_mixes_9 (by decide) ?_
    refine om_iconst O (v := 1) dX9_mixes_10 (by decide) ?_
    revert h; refine om_callR (fun r2o σ2o g2o h => ?_)
    refine cl_X9_57 O (st := []) (stk := [vI (1 : Int32), vI (0 : Int32), vI v2]) (st2 := [vI r2o]) [vI v2, vI (0 : Int32), vI (1 : Int32)] (fun l G => c_X9_in l G g2o) (by decide) rfl rfl rfl_le rfl rfl_le rfl_le dX9_mixes_11 ?_
    refine om_if_ne O (tgt := 23) dX9_mixes_14 (by decide) (fun c2o => ?_) (fun c2o => ?_)
    · replace h := (if_pos c2o).symm.trans h
      refine om_drop (lv' := [(0, vR (some a0))]) [0] rfl ?_
      exact g_X9_mixes_b17 O hE ka0 h
    · replace h := (if_neg c2o).symm.trans h
      refine om_iconst O (v := 1) dX9_mixes_23 (by decide) ?_
      refine om_istore_n O (lv' := [(0, vR (some a0)), (1, vI v1), (2, vI v2), (3, vI (1 : Int32))]) [1, 2, 3, 0] rfl dX9_mixes_24 rfl (by decide) rfl ?_
      refine om_iconst O (v := 2) dX9_mixes_25 (by decide) ?_
      refine om_istore O (lv' := [(0, vR (some a0)), (1, vI v1), (2, vI v2), (3, vI (1 : Int32)), (4, vI (2 : Int32))]) [1, 2, 3, 4, 0] rfl dX9_mixes_26 (by decide) rfl ?_
      exact g_X9_mixes_b28 O hE om_F _ _ _ _ _ _ ka0 h
def f_X9_divisor_b4  : Nat → Int32 → Int32 → om_S → Option (Int32 × om_S)
  | 0, _, _, _ => none
  | F + 1, v2, v3, σ => if v3 = 0 then (some (v2, σ)) else (if ¬ v3 = 0 then (f_X9_divisor_b4 F) v3 (v2 - v2 / v3 * v3) σ else none)
set_option maxRecDepth 100000 in
theorem g_X9_divisor_b4 {x : om_X}   (O : om_Ok x RX9 "divisor" cX9_divisor 5 (some FieldType.int) 0 0 0)   {r : Int32} {τ : om_S} (hE : om_End x (some (vI r)) τ om_rf om_N 0 0)   : ∀ (F : Nat) (v2 : Int32) (v3 : Int32) (σ : om_S) , f_X9_divisor_b4 F v2 v3 σ = some (r, τ) → om_J x 4 [(2, vI v2), (3, vI v3)] [] σ om_rf om_N 0 0 := by
  intro F
  induction F with
  | zero =>
    intro v2 v3 σ  h
    cases h
  | succ F ih =>
    intro v2 v3 σ  h
    unfold f_X9_divisor_b4 at h
    refine om_iload_n O 1 dX9_divisor_4 rfl rfl ?_
    refine om_if_eq O (tgt := 21) dX9_divisor_5 (by decide) (fun c1o => ?_) (fun c1o => ?_)
    · replace h := (if_pos c1o).symm.trans h
      refine om_iload_n O 0 dX9_divisor_21 rfl rfl ?_
      exact om_iret (st := []) O (om_eI hE h) rfl dX9_divisor_22
    · replace h := (if_neg c1o).symm.trans h
      refine om_iload_n O 0 dX9_divisor_8 rfl rfl ?_
      refine om_iload_n O 1 dX9_divisor_9 rfl rfl ?_
      revert h; refine om_iteR (fun z1o h => ?_)
      refine om_irem O dX9_divisor_10 z1o ?_
      refine om_istore O (lv' := [(3, vI v3), (4, vI (v2 - v2 / v3 * v3))]) [2, 0] rfl dX9_divisor_11 (by decide) rfl ?_
      refine om_iload_n O 0 dX9_divisor_13 rfl rfl ?_
      refine om_istore_n O (lv' := [(2, vI v3), (4, vI (v2 - v2 / v3 * v3))]) [0, 2] rfl dX9_divisor_14 rfl (by decide) rfl ?_
      refine om_iload O 1 dX9_divisor_15 rfl ?_
      refine om_istore_n O (lv' := [(2, vI v3), (3, vI (v2 - v2 / v3 * v3))]) [1, 0] rfl dX9_divisor_17 rfl (by decide) rfl ?_
      refine om_goto O (tgt := 4) dX9_divisor_18 (by decide) ?_
      exact ih _ _ _ h
def f_X9_divisor  (v0 : Int32) (v1 : Int32) (σ : om_S) : Option (Int32 × om_S) := f_X9_divisor_b4 om_F v0 v1 σ
set_option maxRecDepth 100000 in
theorem c_X9_divisor (l : Launch) (G : om_G) {v0 : Int32} {v1 : Int32} {σ : om_S} {r : Int32} {τ : om_S} (h : f_X9_divisor v0 v1 σ = some (r, τ)) : om_D l G 0 yX9_divisor cX9_divisor 5 (some FieldType.int) 0 0 [vI v0, vI v1] σ om_rf om_N (some (vI r)) τ om_rf om_N := by
  refine om_Dof (lv := [(0, vI v0), (1, vI v1)]) (by decide) rfl_le rfl (fun x O hE => ?_)
  change om_Ok x RX9 "divisor" cX9_divisor 5 (some FieldType.int) 0 0 0 at O
  unfold f_X9_divisor at h
  refine om_iload_n O 0 dX9_divisor_0 rfl rfl ?_
  refine om_istore_n O (lv' := [(1, vI v1), (2, vI v0)]) [2, 0] rfl dX9_divisor_1 rfl (by decide) rfl ?_
  refine om_iload_n O 0 dX9_divisor_2 rfl rfl ?_
  refine om_istore_n O (lv' := [(2, vI v0), (3, vI v1)]) [2, 0] rfl dX9_divisor_3 rfl (by decide) rfl ?_
  exact g_X9_divisor_b4 O hE om_F _ _ _ h
def f_X9_odds_b56 (lp27 : Nat → Int32 → Int32 → Int32 → Int32 → om_S → Option (Int32 × om_S)) (a0 : Nat) (v1 : Int32) (v2 : Int32) (v4 : Int32) (s0 : Int32) (s1 : Int32) (σ : om_S) : Option (Int32 × om_S) := lp27 a0 v1 v2 (s0 + s1) (v4 + 1) σ
set_option maxRecDepth 100000 in
theorem g_X9_odds_b56 {x : om_X}   (O : om_Ok x RX9 "odds" cX9_odds 5 (some FieldType.int) 6 0 0)   {r : Int32} {τ : om_S} (hE : om_End x (some (vI r)) τ om_rf om_N 0 0) {lp27 : Nat → Int32 → Int32 → Int32 → Int32 → om_S → Option (Int32 × om_S)} (L27 : ∀ (a0 : Nat) (v1 : Int32) (v2 : Int32) (v3 : Int32) (v4 : Int32) (σ : om_S) (ka0 : om_kc a0 = 9), lp27 a0 v1 v2 v3 v4 σ = some (r, τ) → om_J x 27 [(0, vR (some a0)), (1, vI v1), (2, vI v2), (3, vI v3), (4, vI v4)] [] σ om_rf om_N 0 0) {a0 : Nat} {v1 : Int32} {v2 : Int32} {v4 : Int32} {s0 : Int32} {s1 : Int32} {σ : om_S} (ka0 : om_kc a0 = 9) (h : f_X9_odds_b56 lp27 a0 v1 v2 v4 s0 s1 σ = some (r, τ)) : om_J x 56 [(0, vR (some a0)), (1, vI v1), (2, vI v2), (4, vI v4)] [vI s1, vI s0] σ om_rf om_N 0 0 := by
  unfold f_X9_odds_b56 at h
  refine om_iadd O dX9_odds_56 ?_
  refine om_istore_n O (lv' := [(0, vR (some a0)), (1, vI v1), (2, vI v2), (3, vI (s0 + s1)), (4, vI v4)]) [1, 2, 3, 0, 4] rfl dX9_odds_57 rfl (by decide) rfl ?_
  refine om_iinc O (v1 := (v4 + 1)) (lv' := [(0, vR (some a0)), (1, vI v1), (2, vI v2), (3, vI (s0 + s1)), (4, vI (v4 + 1))]) 4 [1, 2, 3, 4, 0] rfl dX9_odds_58 rfl rfl (by decide) rfl ?_
  refine om_goto O (tgt := 27) dX9_odds_61 (by decide) ?_
  exact L27 _ _ _ _ _ _ ka0 h
def f_X9_odds_b27  : Nat → Nat → Int32 → Int32 → Int32 → Int32 → om_S → Option (Int32 × om_S)
  | 0, _, _, _, _, _, _ => none
  | F + 1, a0, v1, v2, v3, v4, σ => if (9 : Int32) < v4 then (om_ref (om_rf a0 0) 20 fun (t1o : Nat) => if om_in (0 : Int32) (om_al t1o) then om_let (om_w σ t1o (0 : Int32).toNatClampNeg v2) fun (σ1o : om_S) => om_call (f_X9_divisor v3 (10 : Int32) σ1o) fun (r1o : Int32) (σ2o : om_S) => if v1 = 0 then (if ¬ r1o = 0 then some ((v3 / r1o), σ2o) else none) else (if ¬ r1o = 0 then some (((10 : Int32) / r1o), σ2o) else none) else none) else (om_ref (om_rf a0 0) 20 fun (t2o : Nat) => if om_in (0 : Int32) (om_al t2o) then om_let (om_w σ t2o (0 : Int32).toNatClampNeg v4) fun (σ3o : om_S) => om_call (f_X9_tonightSet a0 σ3o) fun (r2o : Int32) (σ4o : om_S) => if r2o = (-1 : Int32) then (f_X9_odds_b56 (f_X9_odds_b27 F) a0 v1 v2 v4 v3 (0 : Int32) σ4o) else (f_X9_odds_b56 (f_X9_odds_b27 F) a0 v1 v2 v4 v3 (1 : Int32) σ4o) else none)
set_option maxRecDepth 100000 in
theorem g_X9_odds_b27 {x : om_X}   (O : om_Ok x RX9 "odds" cX9_odds 5 (some FieldType.int) 6 0 0)   {r : Int32} {τ : om_S} (hE : om_End x (some (vI r)) τ om_rf om_N 0 0)   : ∀ (F : Nat) (a0 : Nat) (v1 : Int32) (v2 : Int32) (v3 : Int32) (v4 : Int32) (σ : om_S) (ka0 : om_kc a0 = 9), f_X9_odds_b27 F a0 v1 v2 v3 v4 σ = some (r, τ) → om_J x 27 [(0, vR (some a0)), (1, vI v1), (2, vI v2), (3, vI v3), (4, vI v4)] [] σ om_rf om_N 0 0 := by
  intro F
  induction F with
  | zero =>
    intro a0 v1 v2 v3 v4 σ ka0 h
    cases h
  | succ F ih =>
    intro a0 v1 v2 v3 v4 σ ka0 h
    unfold f_X9_odds_b27 at h
    refine om_iload O 4 dX9_odds_27 rfl ?_
    refine om_bipush O (v := 9) dX9_odds_29 (by decide) ?_
    refine om_icmp_gt O (tgt := 64) dX9_odds_31 (by decide) (fun c1o => ?_) (fun c1o => ?_)
    · replace h := (if_pos c1o).symm.trans h
      refine om_aload_n O 0 dX9_odds_64 rfl rfl ?_
      revert h; refine om_refR (fun t1o y1o k1o h => ?_)
      refine gf_X9_7 O ka0 (om_lt ka0 (by decide)) dX9_odds_65 ?_
      rw [y1o]
      refine om_iconst O (v := 0) dX9_odds_68 (by decide) ?_
      refine om_iload_n O 2 dX9_odds_69 rfl rfl ?_
      revert h; refine om_iteR (fun i1o h => ?_)
      revert h; refine om_letR (fun σ1o e1o h => ?_)
      refine om_iast O k1o (om_lt k1o (by decide)) i1o dX9_odds_70 e1o ?_
      refine om_iload_n O 3 dX9_odds_71 rfl rfl ?_
      refine om_bipush O (v := 10) dX9_odds_72 (by decide) ?_
      revert h; refine om_callR (fun r1o σ2o g1o h => ?_)
      refine cl_X9_201 O (st := []) (stk := [vI (10 : Int32), vI v3]) (st2 := [vI r1o]) [vI v3, vI (10 : Int32)] (fun l G => c_X9_divisor l G g1o) (by decide) rfl rfl rfl_le rfl rfl_le rfl_le dX9_odds_74 ?_
      refine om_istore O (lv' := [(1, vI v1), (3, vI v3), (4, vI r1o)]) [2, 4, 0] rfl dX9_odds_77 (by decide) rfl ?_
      refine om_iload_n O 0 dX9_odds_79 rfl rfl ?_
      refine om_if_ne O (tgt := 90) dX9_odds_80 (by decide) (fun c2o => ?_) (fun c2o => ?_)
      · replace h := (if_pos c2o).symm.trans h
        refine om_iload_n O 1 dX9_odds_83 rfl rfl ?_
        refine om_iload O 2 dX9_odds_84 rfl ?_
        revert h; refine om_iteR (fun z1o h => ?_)
        refine om_idiv O dX9_odds_86 z1o ?_
        refine om_goto O (tgt := 95) dX9_odds_87 (by decide) ?_
        exact om_iret (st := []) O (om_eI hE h) rfl dX9_odds_95
      · replace h := (if_neg c2o).symm.trans h
        refine om_bipush O (v := 10) dX9_odds_90 (by decide) ?_
        refine om_iload O 2 dX9_odds_92 rfl ?_
        revert h; refine om_iteR (fun z2o h => ?_)
        refine om_idiv O dX9_odds_94 z2o ?_
        exact om_iret (st := []) O (om_eI hE h) rfl dX9_odds_95
    · replace h := (if_neg c1o).symm.trans h
      refine om_aload_n O 0 dX9_odds_34 rfl rfl ?_
      revert h; refine om_refR (fun t2o y2o k2o h => ?_)
      refine gf_X9_7 O ka0 (om_lt ka0 (by decide)) dX9_odds_35 ?_
      rw [y2o]
      refine om_iconst O (v := 0) dX9_odds_38 (by decide) ?_
      refine om_iload O 4 dX9_odds_39 rfl ?_
      revert h; refine om_iteR (fun i2o h => ?_)
      revert h; refine om_letR (fun σ3o e2o h => ?_)
      refine om_iast O k2o (om_lt k2o (by decide)) i2o dX9_odds_41 e2o ?_
      refine om_iload_n O 3 dX9_odds_42 rfl rfl ?_
      refine om_aload_n O 0 dX9_odds_43 rfl rfl ?_
      revert h; refine om_callR (fun r2o σ4o g2o h => ?_)
      refine cl_X9_154 O (st := [vI v3]) (stk := [vR (some a0), vI v3]) (st2 := [vI r2o, vI v3]) [] (fun l G => c_X9_tonightSet l G g2o) ka0 (om_lt ka0 (by decide)) (by decide) rfl rfl rfl_le rfl rfl_le rfl_le dX9_odds_44 ?_
      refine om_iconst O (v := -1) dX9_odds_47 (by decide) ?_
      refine om_icmp_eq O (tgt := 55) dX9_odds_48 (by decide) (fun c3o => ?_) (fun c3o => ?_)
      · replace h := (if_pos c3o).symm.trans h
        refine om_iconst O (v := 0) dX9_odds_55 (by decide) ?_
        refine om_drop (lv' := [(0, vR (some a0)), (1, vI v1), (2, vI v2), (4, vI v4)]) [0, 1, 2, 4] rfl ?_
        exact g_X9_odds_b56 O hE ih ka0 h
      · replace h := (if_neg c3o).symm.trans h
        refine om_iconst O (v := 1) dX9_odds_51 (by decide) ?_
        refine om_goto O (tgt := 56) dX9_odds_52 (by decide) ?_
        refine om_drop (lv' := [(0, vR (some a0)), (1, vI v1), (2, vI v2), (4, vI v4)]) [0, 1, 2, 4] rfl ?_
        exact g_X9_odds_b56 O hE ih ka0 h
def f_X9_odds  (a0 : Nat) (v1 : Int32) (σ : om_S) : Option (Int32 × om_S) := if om_kc a0 = 9 then om_call (f_X9_in v1 (0 : Int32) (1 : Int32) σ) fun (r1o : Int32) (σ1o : om_S) => if r1o = 0 then (om_call (f_X9_error a0 (1 : Int32) σ1o) fun (r2o : Int32) (σ2o : om_S) => some (r2o, σ2o)) else (om_ref (om_rf a0 0) 20 fun (t1o : Nat) => if om_in (0 : Int32) (om_al t1o) then om_let (σ1o t1o (0 : Int32).toNatClampNeg) fun (x1o : Int32) => f_X9_odds_b27 om_F a0 v1 x1o (0 : Int32) (0 : Int32) σ1o else none) else none
set_option maxRecDepth 100000 in
theorem c_X9_odds (l : Launch) (G : om_G) {a0 : Nat} {v1 : Int32} {σ : om_S} {r : Int32} {τ : om_S} (h : f_X9_odds a0 v1 σ = some (r, τ)) : om_D l G 6 yX9_odds cX9_odds 5 (some FieldType.int) 0 0 [vR (some a0), vI v1] σ om_rf om_N (some (vI r)) τ om_rf om_N := by
  refine om_Dof (lv := [(0, vR (some a0)), (1, vI v1)]) (by decide) rfl_le rfl (fun x O hE => ?_)
  change om_Ok x RX9 "odds" cX9_odds 5 (some FieldType.int) 6 0 0 at O
  unfold f_X9_odds at h
  revert h; refine om_iteR (fun ka0 h => ?_)
  refine om_iload_n O 1 dX9_odds_0 rfl rfl ?_
  refine om_iconst O (v := 0) dX9_odds_1 (by decide) ?_
  refine om_iconst O (v := 1) dX9_odds_2 (by decide) ?_
  revert h; refine om_callR (fun r1o σ1o g1o h => ?_)
  refine cl_X9_57 O (st := []) (stk := [vI (1 : Int32), vI (0 : Int32), vI v1]) (st2 := [vI r1o]) [vI v1, vI (0 : Int32), vI (1 : Int32)] (fun l G => c_X9_in l G g1o) (by decide) rfl rfl rfl_le rfl rfl_le rfl_le dX9_odds_3 ?_
  refine om_if_ne O (tgt := 15) dX9_odds_6 (by decide) (fun c1o => ?_) (fun c1o => ?_)
  · replace h := (if_pos c1o).symm.trans h
    refine om_aload_n O 0 dX9_odds_9 rfl rfl ?_
    refine om_iconst O (v := 1) dX9_odds_10 (by decide) ?_
    revert h; refine om_callR (fun r2o σ2o g2o h => ?_)
    refine cl_X9_61 O (st := []) (stk := [vI (1 : Int32), vR (some a0)]) (st2 := [vI r2o]) [vI (1 : Int32)] (fun l G => c_X9_error l G g2o) ka0 (om_lt ka0 (by decide)) (by decide) rfl rfl rfl_le rfl rfl_le rfl_le dX9_odds_11 ?_
    exact om_iret (st := []) O (om_eI hE h) rfl dX9_odds_14
  · replace h := (if_neg c1o).symm.trans h
    refine om_aload_n O 0 dX9_odds_15 rfl rfl ?_
    revert h; refine om_refR (fun t1o y1o k1o h => ?_)
    refine gf_X9_7 O ka0 (om_lt ka0 (by decide)) dX9_odds_16 ?_
    rw [y1o]
    refine om_iconst O (v := 0) dX9_odds_19 (by decide) ?_
    revert h; refine om_iteR (fun i1o h => ?_)
    refine om_iald O k1o (om_lt k1o (by decide)) i1o dX9_odds_20 ?_
    revert h; refine om_letR (fun x1o e1o h => ?_)
    refine om_istore_n O (lv' := [(0, vR (some a0)), (1, vI v1), (2, vI x1o)]) [1, 2, 0] e1o dX9_odds_21 rfl (by decide) rfl ?_
    refine om_iconst O (v := 0) dX9_odds_22 (by decide) ?_
    refine om_istore_n O (lv' := [(0, vR (some a0)), (1, vI v1), (2, vI x1o), (3, vI (0 : Int32))]) [1, 2, 3, 0] rfl dX9_odds_23 rfl (by decide) rfl ?_
    refine om_iconst O (v := 0) dX9_odds_24 (by decide) ?_
    refine om_istore O (lv' := [(0, vR (some a0)), (1, vI v1), (2, vI x1o), (3, vI (0 : Int32)), (4, vI (0 : Int32))]) [1, 2, 3, 4, 0] rfl dX9_odds_25 (by decide) rfl ?_
    exact g_X9_odds_b27 O hE om_F _ _ _ _ _ _ ka0 h
def f_X9_areLeftSo_b63 (lp24 : Nat → Int32 → Int32 → Int32 → om_S → Option (Int32 × om_S)) (a0 : Nat) (v1 : Int32) (v3 : Int32) (s0 : Int32) (σ : om_S) : Option (Int32 × om_S) := lp24 a0 v1 s0 (v3 + 1) σ
set_option maxRecDepth 100000 in
theorem g_X9_areLeftSo_b63 {x : om_X}   (O : om_Ok x RX9 "areLeftSo" cX9_areLeftSo 4 (some FieldType.boolean) 1 0 0)   {r : Int32} {τ : om_S} (hE : om_End x (some (vI r)) τ om_rf om_N 0 0) {lp24 : Nat → Int32 → Int32 → Int32 → om_S → Option (Int32 × om_S)} (L24 : ∀ (a0 : Nat) (v1 : Int32) (v2 : Int32) (v3 : Int32) (σ : om_S) (ka0 : om_kc a0 = 9), lp24 a0 v1 v2 v3 σ = some (r, τ) → om_J x 24 [(0, vR (some a0)), (1, vI v1), (2, vI v2), (3, vI v3)] [] σ om_rf om_N 0 0) {a0 : Nat} {v1 : Int32} {v3 : Int32} {s0 : Int32} {σ : om_S} (ka0 : om_kc a0 = 9) (h : f_X9_areLeftSo_b63 lp24 a0 v1 v3 s0 σ = some (r, τ)) : om_J x 63 [(0, vR (some a0)), (1, vI v1), (3, vI v3)] [vI s0] σ om_rf om_N 0 0 := by
  unfold f_X9_areLeftSo_b63 at h
  refine om_istore_n O (lv' := [(0, vR (some a0)), (1, vI v1), (2, vI s0), (3, vI v3)]) [1, 2, 0, 3] rfl dX9_areLeftSo_63 rfl (by decide) rfl ?_
  refine om_iinc O (v1 := (v3 + 1)) (lv' := [(0, vR (some a0)), (1, vI v1), (2, vI s0), (3, vI (v3 + 1))]) 3 [1, 2, 3, 0] rfl dX9_areLeftSo_64 rfl rfl (by decide) rfl ?_
  refine om_goto O (tgt := 24) dX9_areLeftSo_67 (by decide) ?_
  exact L24 _ _ _ _ _ ka0 h
def f_X9_areLeftSo_b24  : Nat → Nat → Int32 → Int32 → Int32 → om_S → Option (Int32 × om_S)
  | 0, _, _, _, _, _ => none
  | F + 1, a0, v1, v2, v3, σ => om_ref (om_rf a0 20) 20 fun (t1o : Nat) => if om_in v1 (om_al t1o) then if (σ t1o v1.toNatClampNeg) ≤ v3 then (if v2 = 0 ∨ v2 = 1 then some (v2, σ) else none) else (if v2 = 0 then (if v2 = 0 ∨ v2 = 1 then some (v2, σ) else none) else (om_call (f_X9_its a0 v3 (3 : Int32) σ) fun (r1o : Int32) (σ1o : om_S) => om_ref (om_rf a0 21) 20 fun (t2o : Nat) => if om_in (((24 : Int32) * v1) + v3) (om_al t2o) then if r1o = (σ1o t2o (((24 : Int32) * v1) + v3).toNatClampNeg) then (f_X9_areLeftSo_b63 (f_X9_areLeftSo_b24 F) a0 v1 v3 (1 : Int32) σ1o) else (f_X9_areLeftSo_b63 (f_X9_areLeftSo_b24 F) a0 v1 v3 (0 : Int32) σ1o) else none)) else none
set_option maxRecDepth 100000 in
theorem g_X9_areLeftSo_b24 {x : om_X}   (O : om_Ok x RX9 "areLeftSo" cX9_areLeftSo 4 (some FieldType.boolean) 1 0 0)   {r : Int32} {τ : om_S} (hE : om_End x (some (vI r)) τ om_rf om_N 0 0)   : ∀ (F : Nat) (a0 : Nat) (v1 : Int32) (v2 : Int32) (v3 : Int32) (σ : om_S) (ka0 : om_kc a0 = 9), f_X9_areLeftSo_b24 F a0 v1 v2 v3 σ = some (r, τ) → om_J x 24 [(0, vR (some a0)), (1, vI v1), (2, vI v2), (3, vI v3)] [] σ om_rf om_N 0 0 := by
  intro F
  induction F with
  | zero =>
    intro a0 v1 v2 v3 σ ka0 h
    cases h
  | succ F ih =>
    intro a0 v1 v2 v3 σ ka0 h
    unfold f_X9_areLeftSo_b24 at h
    refine om_iload_n O 3 dX9_areLeftSo_24 rfl rfl ?_
    refine om_aload_n O 0 dX9_areLeftSo_25 rfl rfl ?_
    revert h; refine om_refR (fun t1o y1o k1o h => ?_)
    refine gf_X9_47 O ka0 (om_lt ka0 (by decide)) dX9_areLeftSo_26 ?_
    rw [y1o]
    refine om_iload_n O 1 dX9_areLeftSo_29 rfl rfl ?_
    revert h; refine om_iteR (fun i1o h => ?_)
    refine om_iald O k1o (om_lt k1o (by decide)) i1o dX9_areLeftSo_30 ?_
    refine om_icmp_ge O (tgt := 70) dX9_areLeftSo_31 (by decide) (fun c1o => ?_) (fun c1o => ?_)
    · replace h := (if_pos c1o).symm.trans h
      refine om_iload_n O 2 dX9_areLeftSo_70 rfl rfl ?_
      revert h; refine om_iteR (fun z1o h => ?_)
      exact om_zret (st := []) O z1o (om_eI hE h) rfl dX9_areLeftSo_71
    · replace h := (if_neg c1o).symm.trans h
      refine om_iload_n O 2 dX9_areLeftSo_34 rfl rfl ?_
      refine om_if_eq O (tgt := 70) dX9_areLeftSo_35 (by decide) (fun c2o => ?_) (fun c2o => ?_)
      · replace h := (if_pos c2o).symm.trans h
        refine om_iload_n O 2 dX9_areLeftSo_70 rfl rfl ?_
        revert h; refine om_iteR (fun z2o h => ?_)
        exact om_zret (st := []) O z2o (om_eI hE h) rfl dX9_areLeftSo_71
      · replace h := (if_neg c2o).symm.trans h
        refine om_aload_n O 0 dX9_areLeftSo_38 rfl rfl ?_
        refine om_iload_n O 3 dX9_areLeftSo_39 rfl rfl ?_
        refine om_iconst O (v := 3) dX9_areLeftSo_40 (by decide) ?_
        revert h; refine om_callR (fun r1o σ1o g1o h => ?_)
        refine cl_X9_120 O (st := []) (stk := [vI (3 : Int32), vI v3, vR (some a0)]) (st2 := [vI r1o]) [vI v3, vI (3 : Int32)] (fun l G => c_X9_its l G g1o) ka0 (om_lt ka0 (by decide)) (by decide) rfl rfl rfl_le rfl rfl_le rfl_le dX9_areLeftSo_41 ?_
        refine om_aload_n O 0 dX9_areLeftSo_44 rfl rfl ?_
        revert h; refine om_refR (fun t2o y2o k2o h => ?_)
        refine gf_X9_50 O ka0 (om_lt ka0 (by decide)) dX9_areLeftSo_45 ?_
        rw [y2o]
        refine om_bipush O (v := 24) dX9_areLeftSo_48 (by decide) ?_
        refine om_iload_n O 1 dX9_areLeftSo_50 rfl rfl ?_
        refine om_imul O dX9_areLeftSo_51 ?_
        refine om_iload_n O 3 dX9_areLeftSo_52 rfl rfl ?_
        refine om_iadd O dX9_areLeftSo_53 ?_
        revert h; refine om_iteR (fun i2o h => ?_)
        refine om_iald O k2o (om_lt k2o (by decide)) i2o dX9_areLeftSo_54 ?_
        refine om_icmp_ne O (tgt := 62) dX9_areLeftSo_55 (by decide) (fun c3o => ?_) (fun c3o => ?_)
        · replace h := (if_pos c3o).symm.trans h
          refine om_iconst O (v := 1) dX9_areLeftSo_58 (by decide) ?_
          refine om_goto O (tgt := 63) dX9_areLeftSo_59 (by decide) ?_
          refine om_drop (lv' := [(0, vR (some a0)), (1, vI v1), (3, vI v3)]) [0, 1, 3] rfl ?_
          exact g_X9_areLeftSo_b63 O hE ih ka0 h
        · replace h := (if_neg c3o).symm.trans h
          refine om_iconst O (v := 0) dX9_areLeftSo_62 (by decide) ?_
          refine om_drop (lv' := [(0, vR (some a0)), (1, vI v1), (3, vI v3)]) [0, 1, 3] rfl ?_
          exact g_X9_areLeftSo_b63 O hE ih ka0 h
def f_X9_areLeftSo_b21  (a0 : Nat) (v1 : Int32) (s0 : Int32) (σ : om_S) : Option (Int32 × om_S) := f_X9_areLeftSo_b24 om_F a0 v1 s0 (0 : Int32) σ
set_option maxRecDepth 100000 in
theorem g_X9_areLeftSo_b21 {x : om_X}   (O : om_Ok x RX9 "areLeftSo" cX9_areLeftSo 4 (some FieldType.boolean) 1 0 0)   {r : Int32} {τ : om_S} (hE : om_End x (some (vI r)) τ om_rf om_N 0 0)   {a0 : Nat} {v1 : Int32} {s0 : Int32} {σ : om_S} (ka0 : om_kc a0 = 9) (h : f_X9_areLeftSo_b21 a0 v1 s0 σ = some (r, τ)) : om_J x 21 [(0, vR (some a0)), (1, vI v1)] [vI s0] σ om_rf om_N 0 0 := by
  unfold f_X9_areLeftSo_b21 at h
  refine om_istore_n O (lv' := [(0, vR (some a0)), (1, vI v1), (2, vI s0)]) [1, 2, 0] rfl dX9_areLeftSo_21 rfl (by decide) rfl ?_
  refine om_iconst O (v := 0) dX9_areLeftSo_22 (by decide) ?_
  refine om_istore_n O (lv' := [(0, vR (some a0)), (1, vI v1), (2, vI s0), (3, vI (0 : Int32))]) [1, 2, 3, 0] rfl dX9_areLeftSo_23 rfl (by decide) rfl ?_
  exact g_X9_areLeftSo_b24 O hE om_F _ _ _ _ _ ka0 h
def f_X9_areLeftSo  (a0 : Nat) (v1 : Int32) (σ : om_S) : Option (Int32 × om_S) := if om_kc a0 = 9 then om_ref (om_rf a0 20) 20 fun (t1o : Nat) => if om_in v1 (om_al t1o) then om_ref (om_rf a0 0) 20 fun (t2o : Nat) => if om_in (6 : Int32) (om_al t2o) then if (σ t2o (6 : Int32).toNatClampNeg) < (σ t1o v1.toNatClampNeg) then (f_X9_areLeftSo_b21 a0 v1 (0 : Int32) σ) else (f_X9_areLeftSo_b21 a0 v1 (1 : Int32) σ) else none else none else none
set_option maxRecDepth 100000 in
theorem c_X9_areLeftSo (l : Launch) (G : om_G) {a0 : Nat} {v1 : Int32} {σ : om_S} {r : Int32} {τ : om_S} (h : f_X9_areLeftSo a0 v1 σ = some (r, τ)) : om_D l G 1 yX9_areLeftSo cX9_areLeftSo 4 (some FieldType.boolean) 0 0 [vR (some a0), vI v1] σ om_rf om_N (some (vI r)) τ om_rf om_N := by
  refine om_Dof (lv := [(0, vR (some a0)), (1, vI v1)]) (by decide) rfl_le rfl (fun x O hE => ?_)
  change om_Ok x RX9 "areLeftSo" cX9_areLeftSo 4 (some FieldType.boolean) 1 0 0 at O
  unfold f_X9_areLeftSo at h
  revert h; refine om_iteR (fun ka0 h => ?_)
  refine om_aload_n O 0 dX9_areLeftSo_0 rfl rfl ?_
  revert h; refine om_refR (fun t1o y1o k1o h => ?_)
  refine gf_X9_47 O ka0 (om_lt ka0 (by decide)) dX9_areLeftSo_1 ?_
  rw [y1o]
  refine om_iload_n O 1 dX9_areLeftSo_4 rfl rfl ?_
  revert h; refine om_iteR (fun i1o h => ?_)
  refine om_iald O k1o (om_lt k1o (by decide)) i1o dX9_areLeftSo_5 ?_
  refine om_aload_n O 0 dX9_areLeftSo_6 rfl rfl ?_
  revert h; refine om_refR (fun t2o y2o k2o h => ?_)
  refine gf_X9_7 O ka0 (om_lt ka0 (by decide)) dX9_areLeftSo_7 ?_
  rw [y2o]
  refine om_bipush O (v := 6) dX9_areLeftSo_10 (by decide) ?_
  revert h; refine om_iteR (fun i2o h => ?_)
  refine om_iald O k2o (om_lt k2o (by decide)) i2o dX9_areLeftSo_12 ?_
  refine om_icmp_gt O (tgt := 20) dX9_areLeftSo_13 (by decide) (fun c1o => ?_) (fun c1o => ?_)
  · replace h := (if_pos c1o).symm.trans h
    refine om_iconst O (v := 0) dX9_areLeftSo_20 (by decide) ?_
    exact g_X9_areLeftSo_b21 O hE ka0 h
  · replace h := (if_neg c1o).symm.trans h
    refine om_iconst O (v := 1) dX9_areLeftSo_16 (by decide) ?_
    refine om_goto O (tgt := 21) dX9_areLeftSo_17 (by decide) ?_
    exact g_X9_areLeftSo_b21 O hE ka0 h
def f_X9_isSheet  (v0 : Int32) (σ : om_S) : Option (Int32 × om_S) := om_call (f_X9_in v0 (0 : Int32) (3 : Int32) σ) fun (r1o : Int32) (σ1o : om_S) => if r1o = 0 ∨ r1o = 1 then some (r1o, σ1o) else none
set_option maxRecDepth 100000 in
theorem c_X9_isSheet (l : Launch) (G : om_G) {v0 : Int32} {σ : om_S} {r : Int32} {τ : om_S} (h : f_X9_isSheet v0 σ = some (r, τ)) : om_D l G 1 yX9_isSheet cX9_isSheet 1 (some FieldType.boolean) 0 0 [vI v0] σ om_rf om_N (some (vI r)) τ om_rf om_N := by
  refine om_Dof (lv := [(0, vI v0)]) (by decide) rfl_le rfl (fun x O hE => ?_)
  change om_Ok x RX9 "isSheet" cX9_isSheet 1 (some FieldType.boolean) 1 0 0 at O
  unfold f_X9_isSheet at h
  refine om_iload_n O 0 dX9_isSheet_0 rfl rfl ?_
  refine om_iconst O (v := 0) dX9_isSheet_1 (by decide) ?_
  refine om_iconst O (v := 3) dX9_isSheet_2 (by decide) ?_
  revert h; refine om_callR (fun r1o σ1o g1o h => ?_)
  refine cl_X9_57 O (st := []) (stk := [vI (3 : Int32), vI (0 : Int32), vI v0]) (st2 := [vI r1o]) [vI v0, vI (0 : Int32), vI (3 : Int32)] (fun l G => c_X9_in l G g1o) (by decide) rfl rfl rfl_le rfl rfl_le rfl_le dX9_isSheet_3 ?_
  revert h; refine om_iteR (fun z1o h => ?_)
  exact om_zret (st := []) O z1o (om_eI hE h) rfl dX9_isSheet_6
def f_X9_lacks  (a0 : Nat) (v1 : Int32) (σ : om_S) : Option (Int32 × om_S) := if om_kc a0 = 9 then om_call (f_X9_isSheet v1 σ) fun (r1o : Int32) (σ1o : om_S) => if r1o = 0 then (some ((1 : Int32), σ1o)) else (om_ref (om_rf a0 19) 20 fun (t1o : Nat) => if om_in v1 (om_al t1o) then if (σ1o t1o v1.toNatClampNeg) = 0 then (some ((2 : Int32), σ1o)) else (some ((0 : Int32), σ1o)) else none) else none
set_option maxRecDepth 100000 in
theorem c_X9_lacks (l : Launch) (G : om_G) {a0 : Nat} {v1 : Int32} {σ : om_S} {r : Int32} {τ : om_S} (h : f_X9_lacks a0 v1 σ = some (r, τ)) : om_D l G 2 yX9_lacks cX9_lacks 2 (some FieldType.int) 0 0 [vR (some a0), vI v1] σ om_rf om_N (some (vI r)) τ om_rf om_N := by
  refine om_Dof (lv := [(0, vR (some a0)), (1, vI v1)]) (by decide) rfl_le rfl (fun x O hE => ?_)
  change om_Ok x RX9 "lacks" cX9_lacks 2 (some FieldType.int) 2 0 0 at O
  unfold f_X9_lacks at h
  revert h; refine om_iteR (fun ka0 h => ?_)
  refine om_iload_n O 1 dX9_lacks_0 rfl rfl ?_
  revert h; refine om_callR (fun r1o σ1o g1o h => ?_)
  refine cl_X9_242 O (st := []) (stk := [vI v1]) (st2 := [vI r1o]) [vI v1] (fun l G => c_X9_isSheet l G g1o) (by decide) rfl rfl rfl_le rfl rfl_le rfl_le dX9_lacks_1 ?_
  refine om_if_ne O (tgt := 11) dX9_lacks_4 (by decide) (fun c1o => ?_) (fun c1o => ?_)
  · replace h := (if_pos c1o).symm.trans h
    refine om_iconst O (v := 1) dX9_lacks_7 (by decide) ?_
    refine om_goto O (tgt := 25) dX9_lacks_8 (by decide) ?_
    exact om_iret (st := []) O (om_eI hE h) rfl dX9_lacks_25
  · replace h := (if_neg c1o).symm.trans h
    refine om_aload_n O 0 dX9_lacks_11 rfl rfl ?_
    revert h; refine om_refR (fun t1o y1o k1o h => ?_)
    refine gf_X9_44 O ka0 (om_lt ka0 (by decide)) dX9_lacks_12 ?_
    rw [y1o]
    refine om_iload_n O 1 dX9_lacks_15 rfl rfl ?_
    revert h; refine om_iteR (fun i1o h => ?_)
    refine om_iald O k1o (om_lt k1o (by decide)) i1o dX9_lacks_16 ?_
    refine om_if_ne O (tgt := 24) dX9_lacks_17 (by decide) (fun c2o => ?_) (fun c2o => ?_)
    · replace h := (if_pos c2o).symm.trans h
      refine om_iconst O (v := 2) dX9_lacks_20 (by decide) ?_
      refine om_goto O (tgt := 25) dX9_lacks_21 (by decide) ?_
      exact om_iret (st := []) O (om_eI hE h) rfl dX9_lacks_25
    · replace h := (if_neg c2o).symm.trans h
      refine om_iconst O (v := 0) dX9_lacks_24 (by decide) ?_
      exact om_iret (st := []) O (om_eI hE h) rfl dX9_lacks_25
def f_X9_fits_b48  (a0 : Nat) (v3 : Int32) (σ : om_S) : Option (Int32 × om_S) := om_do (f_X9_layBack a0 σ) fun (σ1o : om_S) => if v3 ≤ (60 : Int32) then (some (v3, σ1o)) else (om_call (f_X9_error a0 (2 : Int32) σ1o) fun (r1o : Int32) (σ2o : om_S) => some (r1o, σ2o))
set_option maxRecDepth 100000 in
theorem g_X9_fits_b48 {x : om_X}   (O : om_Ok x RX9 "fits" cX9_fits 5 (some FieldType.int) 7 0 0)   {r : Int32} {τ : om_S} (hE : om_End x (some (vI r)) τ om_rf om_N 0 0)   {a0 : Nat} {v3 : Int32} {σ : om_S} (ka0 : om_kc a0 = 9) (h : f_X9_fits_b48 a0 v3 σ = some (r, τ)) : om_J x 48 [(0, vR (some a0)), (3, vI v3)] [] σ om_rf om_N 0 0 := by
  unfold f_X9_fits_b48 at h
  refine om_aload_n O 0 dX9_fits_48 rfl rfl ?_
  revert h; refine om_doR (fun σ1o g1o h => ?_)
  refine cl_X9_195 O (st := []) (stk := [vR (some a0)]) (st2 := []) [] (fun l G => c_X9_layBack l G g1o) ka0 (om_lt ka0 (by decide)) (by decide) rfl rfl rfl_le rfl rfl_le rfl_le dX9_fits_49 ?_
  refine om_iload_n O 1 dX9_fits_52 rfl rfl ?_
  refine om_bipush O (v := 60) dX9_fits_53 (by decide) ?_
  refine om_icmp_le O (tgt := 66) dX9_fits_55 (by decide) (fun c1o => ?_) (fun c1o => ?_)
  · replace h := (if_pos c1o).symm.trans h
    refine om_iload_n O 1 dX9_fits_66 rfl rfl ?_
    exact om_iret (st := []) O (om_eI hE h) rfl dX9_fits_67
  · replace h := (if_neg c1o).symm.trans h
    refine om_aload_n O 0 dX9_fits_58 rfl rfl ?_
    refine om_iconst O (v := 2) dX9_fits_59 (by decide) ?_
    revert h; refine om_callR (fun r1o σ2o g2o h => ?_)
    refine cl_X9_61 O (st := []) (stk := [vI (2 : Int32), vR (some a0)]) (st2 := [vI r1o]) [vI (2 : Int32)] (fun l G => c_X9_error l G g2o) ka0 (om_lt ka0 (by decide)) (by decide) rfl rfl rfl_le rfl rfl_le rfl_le dX9_fits_60 ?_
    refine om_goto O (tgt := 67) dX9_fits_63 (by decide) ?_
    exact om_iret (st := []) O (om_eI hE h) rfl dX9_fits_67
def f_X9_fits_b22  : Nat → Nat → Int32 → Int32 → om_S → Option (Int32 × om_S)
  | 0, _, _, _, _ => none
  | F + 1, a0, v1, v3, σ => if (60 : Int32) < v3 then (f_X9_fits_b48 a0 v3 σ) else (om_call (f_X9_areLeftSo a0 v1 σ) fun (r1o : Int32) (σ1o : om_S) => if r1o = 0 then (om_call (f_X9_aNight a0 σ1o) fun (r2o : Int32) (σ2o : om_S) => (f_X9_fits_b22 F) a0 v1 (v3 + 1) σ2o) else (f_X9_fits_b48 a0 v3 σ1o))
set_option maxRecDepth 100000 in
theorem g_X9_fits_b22 {x : om_X}   (O : om_Ok x RX9 "fits" cX9_fits 5 (some FieldType.int) 7 0 0)   {r : Int32} {τ : om_S} (hE : om_End x (some (vI r)) τ om_rf om_N 0 0)   : ∀ (F : Nat) (a0 : Nat) (v1 : Int32) (v3 : Int32) (σ : om_S) (ka0 : om_kc a0 = 9), f_X9_fits_b22 F a0 v1 v3 σ = some (r, τ) → om_J x 22 [(0, vR (some a0)), (1, vI v1), (3, vI v3)] [] σ om_rf om_N 0 0 := by
  intro F
  induction F with
  | zero =>
    intro a0 v1 v3 σ ka0 h
    cases h
  | succ F ih =>
    intro a0 v1 v3 σ ka0 h
    unfold f_X9_fits_b22 at h
    refine om_iload_n O 2 dX9_fits_22 rfl rfl ?_
    refine om_bipush O (v := 60) dX9_fits_23 (by decide) ?_
    refine om_icmp_gt O (tgt := 48) dX9_fits_25 (by decide) (fun c1o => ?_) (fun c1o => ?_)
    · replace h := (if_pos c1o).symm.trans h
      refine om_drop (lv' := [(0, vR (some a0)), (3, vI v3)]) [0, 2] rfl ?_
      exact g_X9_fits_b48 O hE ka0 h
    · replace h := (if_neg c1o).symm.trans h
      refine om_aload_n O 0 dX9_fits_28 rfl rfl ?_
      refine om_iload_n O 1 dX9_fits_29 rfl rfl ?_
      revert h; refine om_callR (fun r1o σ1o g1o h => ?_)
      refine cl_X9_207 O (st := []) (stk := [vI v1, vR (some a0)]) (st2 := [vI r1o]) [vI v1] (fun l G => c_X9_areLeftSo l G g1o) ka0 (om_lt ka0 (by decide)) (by decide) rfl rfl rfl_le rfl rfl_le rfl_le dX9_fits_30 ?_
      refine om_if_ne O (tgt := 48) dX9_fits_33 (by decide) (fun c2o => ?_) (fun c2o => ?_)
      · replace h := (if_pos c2o).symm.trans h
        refine om_aload_n O 0 dX9_fits_36 rfl rfl ?_
        revert h; refine om_callR (fun r2o σ2o g2o h => ?_)
        refine cl_X9_161 O (st := []) (stk := [vR (some a0)]) (st2 := [vI r2o]) [] (fun l G => c_X9_aNight l G g2o) ka0 (om_lt ka0 (by decide)) (by decide) rfl rfl rfl_le rfl rfl_le rfl_le dX9_fits_37 ?_
        refine om_istore O (lv' := [(0, vR (some a0)), (1, vI v1), (3, vI v3)]) [1, 2, 3] rfl dX9_fits_40 (by decide) rfl ?_
        refine om_iinc O (v1 := (v3 + 1)) (lv' := [(0, vR (some a0)), (1, vI v1), (3, vI (v3 + 1))]) 2 [1, 2, 0] rfl dX9_fits_42 rfl rfl (by decide) rfl ?_
        refine om_goto O (tgt := 22) dX9_fits_45 (by decide) ?_
        exact ih _ _ _ _ ka0 h
      · replace h := (if_neg c2o).symm.trans h
        refine om_drop (lv' := [(0, vR (some a0)), (3, vI v3)]) [0, 2] rfl ?_
        exact g_X9_fits_b48 O hE ka0 h
def f_X9_fits  (a0 : Nat) (v1 : Int32) (σ : om_S) : Option (Int32 × om_S) := if om_kc a0 = 9 then om_call (f_X9_lacks a0 v1 σ) fun (r1o : Int32) (σ1o : om_S) => if r1o = 0 then (om_do (f_X9_layDown a0 σ1o) fun (σ2o : om_S) => f_X9_fits_b22 om_F a0 v1 (0 : Int32) σ2o) else (om_call (f_X9_error a0 r1o σ1o) fun (r2o : Int32) (σ3o : om_S) => some (r2o, σ3o)) else none
set_option maxRecDepth 100000 in
theorem c_X9_fits (l : Launch) (G : om_G) {a0 : Nat} {v1 : Int32} {σ : om_S} {r : Int32} {τ : om_S} (h : f_X9_fits a0 v1 σ = some (r, τ)) : om_D l G 7 yX9_fits cX9_fits 5 (some FieldType.int) 0 0 [vR (some a0), vI v1] σ om_rf om_N (some (vI r)) τ om_rf om_N := by
  refine om_Dof (lv := [(0, vR (some a0)), (1, vI v1)]) (by decide) rfl_le rfl (fun x O hE => ?_)
  change om_Ok x RX9 "fits" cX9_fits 5 (some FieldType.int) 7 0 0 at O
  unfold f_X9_fits at h
  revert h; refine om_iteR (fun ka0 h => ?_)
  refine om_aload_n O 0 dX9_fits_0 rfl rfl ?_
  refine om_iload_n O 1 dX9_fits_1 rfl rfl ?_
  revert h; refine om_callR (fun r1o σ1o g1o h => ?_)
  refine cl_X9_204 O (st := []) (stk := [vI v1, vR (some a0)]) (st2 := [vI r1o]) [vI v1] (fun l G => c_X9_lacks l G g1o) ka0 (om_lt ka0 (by decide)) (by decide) rfl rfl rfl_le rfl rfl_le rfl_le dX9_fits_2 ?_
  refine om_istore_n O (lv' := [(0, vR (some a0)), (1, vI v1), (2, vI r1o)]) [1, 2, 0] rfl dX9_fits_5 rfl (by decide) rfl ?_
  refine om_iload_n O 2 dX9_fits_6 rfl rfl ?_
  refine om_if_eq O (tgt := 16) dX9_fits_7 (by decide) (fun c1o => ?_) (fun c1o => ?_)
  · replace h := (if_pos c1o).symm.trans h
    refine om_aload_n O 0 dX9_fits_16 rfl rfl ?_
    revert h; refine om_doR (fun σ2o g2o h => ?_)
    refine cl_X9_192 O (st := []) (stk := [vR (some a0)]) (st2 := []) [] (fun l G => c_X9_layDown l G g2o) ka0 (om_lt ka0 (by decide)) (by decide) rfl rfl rfl_le rfl rfl_le rfl_le dX9_fits_17 ?_
    refine om_iconst O (v := 0) dX9_fits_20 (by decide) ?_
    refine om_istore_n O (lv' := [(0, vR (some a0)), (1, vI v1), (3, vI (0 : Int32))]) [1, 2, 0] rfl dX9_fits_21 rfl (by decide) rfl ?_
    exact g_X9_fits_b22 O hE om_F _ _ _ _ ka0 h
  · replace h := (if_neg c1o).symm.trans h
    refine om_aload_n O 0 dX9_fits_10 rfl rfl ?_
    refine om_iload_n O 2 dX9_fits_11 rfl rfl ?_
    revert h; refine om_callR (fun r2o σ3o g3o h => ?_)
    refine cl_X9_61 O (st := []) (stk := [vI r1o, vR (some a0)]) (st2 := [vI r2o]) [vI r1o] (fun l G => c_X9_error l G g3o) ka0 (om_lt ka0 (by decide)) (by decide) rfl rfl rfl_le rfl rfl_le rfl_le dX9_fits_12 ?_
    exact om_iret (st := []) O (om_eI hE h) rfl dX9_fits_15
def f_X9_starts  (a0 : Nat) (v1 : Int32) (σ : om_S) : Option om_S := if om_kc a0 = 9 then if (30 : Int32) ≤ (σ a0 15) then (some σ) else (om_ref (om_rf a0 16) 20 fun (t1o : Nat) => if om_in (σ a0 15) (om_al t1o) then om_let (om_w σ t1o (σ a0 15).toNatClampNeg v1) fun (σ1o : om_S) => om_let (om_w σ1o a0 15 ((σ1o a0 15) + (1 : Int32))) fun (σ2o : om_S) => some σ2o else none) else none
set_option maxRecDepth 100000 in
theorem c_X9_starts (l : Launch) (G : om_G) {a0 : Nat} {v1 : Int32} {σ : om_S} {τ : om_S} (h : f_X9_starts a0 v1 σ = some τ) : om_D l G 0 yX9_starts cX9_starts 2 none 0 0 [vR (some a0), vI v1] σ om_rf om_N none τ om_rf om_N := by
  refine om_Dof (lv := [(0, vR (some a0)), (1, vI v1)]) (by decide) rfl_le rfl (fun x O hE => ?_)
  change om_Ok x RX9 "starts" cX9_starts 2 none 0 0 0 at O
  unfold f_X9_starts at h
  revert h; refine om_iteR (fun ka0 h => ?_)
  refine om_aload_n O 0 dX9_starts_0 rfl rfl ?_
  refine gf_X9_210 O ka0 (om_lt ka0 (by decide)) dX9_starts_1 ?_
  refine om_bipush O (v := 30) dX9_starts_4 (by decide) ?_
  refine om_icmp_ge O (tgt := 29) dX9_starts_6 (by decide) (fun c1o => ?_) (fun c1o => ?_)
  · replace h := (if_pos c1o).symm.trans h
    exact om_vret (st := []) O (om_eV hE h) rfl dX9_starts_29
  · replace h := (if_neg c1o).symm.trans h
    refine om_aload_n O 0 dX9_starts_9 rfl rfl ?_
    revert h; refine om_refR (fun t1o y1o k1o h => ?_)
    refine gf_X9_41 O ka0 (om_lt ka0 (by decide)) dX9_starts_10 ?_
    rw [y1o]
    refine om_aload_n O 0 dX9_starts_13 rfl rfl ?_
    refine gf_X9_210 O ka0 (om_lt ka0 (by decide)) dX9_starts_14 ?_
    refine om_iload_n O 1 dX9_starts_17 rfl rfl ?_
    revert h; refine om_iteR (fun i1o h => ?_)
    revert h; refine om_letR (fun σ1o e1o h => ?_)
    refine om_iast O k1o (om_lt k1o (by decide)) i1o dX9_starts_18 e1o ?_
    refine om_aload_n O 0 dX9_starts_19 rfl rfl ?_
    refine om_dup O rfl dX9_starts_20 ?_
    refine gf_X9_210 O ka0 (om_lt ka0 (by decide)) dX9_starts_21 ?_
    refine om_iconst O (v := 1) dX9_starts_24 (by decide) ?_
    refine om_iadd O dX9_starts_25 ?_
    revert h; refine om_letR (fun σ2o e2o h => ?_)
    refine pf_X9_210 O (Or.inl rfl) ka0 (om_lt ka0 (by decide)) dX9_starts_26 e2o ?_
    exact om_vret (st := []) O (om_eV hE h) rfl dX9_starts_29
def f_X9_kindNow  (a0 : Nat) (σ : om_S) : Option (Int32 × om_S) := if om_kc a0 = 9 then om_call (f_X9_its a0 (σ a0 17) (0 : Int32) σ) fun (r1o : Int32) (σ1o : om_S) => some (r1o, σ1o) else none
set_option maxRecDepth 100000 in
theorem c_X9_kindNow (l : Launch) (G : om_G) {a0 : Nat} {σ : om_S} {r : Int32} {τ : om_S} (h : f_X9_kindNow a0 σ = some (r, τ)) : om_D l G 1 yX9_kindNow cX9_kindNow 1 (some FieldType.int) 0 0 [vR (some a0)] σ om_rf om_N (some (vI r)) τ om_rf om_N := by
  refine om_Dof (lv := [(0, vR (some a0))]) (by decide) rfl_le rfl (fun x O hE => ?_)
  change om_Ok x RX9 "kindNow" cX9_kindNow 1 (some FieldType.int) 1 0 0 at O
  unfold f_X9_kindNow at h
  revert h; refine om_iteR (fun ka0 h => ?_)
  refine om_aload_n O 0 dX9_kindNow_0 rfl rfl ?_
  refine om_aload_n O 0 dX9_kindNow_1 rfl rfl ?_
  refine gf_X9_213 O ka0 (om_lt ka0 (by decide)) dX9_kindNow_2 ?_
  refine om_iconst O (v := 0) dX9_kindNow_5 (by decide) ?_
  revert h; refine om_callR (fun r1o σ1o g1o h => ?_)
  refine cl_X9_120 O (st := []) (stk := [vI (0 : Int32), vI (σ a0 17), vR (some a0)]) (st2 := [vI r1o]) [vI (σ a0 17), vI (0 : Int32)] (fun l G => c_X9_its l G g1o) ka0 (om_lt ka0 (by decide)) (by decide) rfl rfl rfl_le rfl rfl_le rfl_le dX9_kindNow_6 ?_
  exact om_iret (st := []) O (om_eI hE h) rfl dX9_kindNow_9
def f_X9_mNow  (a0 : Nat) (σ : om_S) : Option (Int32 × om_S) := if om_kc a0 = 9 then om_call (f_X9_its a0 (σ a0 17) (1 : Int32) σ) fun (r1o : Int32) (σ1o : om_S) => some (r1o, σ1o) else none
set_option maxRecDepth 100000 in
theorem c_X9_mNow (l : Launch) (G : om_G) {a0 : Nat} {σ : om_S} {r : Int32} {τ : om_S} (h : f_X9_mNow a0 σ = some (r, τ)) : om_D l G 1 yX9_mNow cX9_mNow 1 (some FieldType.int) 0 0 [vR (some a0)] σ om_rf om_N (some (vI r)) τ om_rf om_N := by
  refine om_Dof (lv := [(0, vR (some a0))]) (by decide) rfl_le rfl (fun x O hE => ?_)
  change om_Ok x RX9 "mNow" cX9_mNow 1 (some FieldType.int) 1 0 0 at O
  unfold f_X9_mNow at h
  revert h; refine om_iteR (fun ka0 h => ?_)
  refine om_aload_n O 0 dX9_mNow_0 rfl rfl ?_
  refine om_aload_n O 0 dX9_mNow_1 rfl rfl ?_
  refine gf_X9_213 O ka0 (om_lt ka0 (by decide)) dX9_mNow_2 ?_
  refine om_iconst O (v := 1) dX9_mNow_5 (by decide) ?_
  revert h; refine om_callR (fun r1o σ1o g1o h => ?_)
  refine cl_X9_120 O (st := []) (stk := [vI (1 : Int32), vI (σ a0 17), vR (some a0)]) (st2 := [vI r1o]) [vI (σ a0 17), vI (1 : Int32)] (fun l G => c_X9_its l G g1o) ka0 (om_lt ka0 (by decide)) (by decide) rfl rfl rfl_le rfl rfl_le rfl_le dX9_mNow_6 ?_
  exact om_iret (st := []) O (om_eI hE h) rfl dX9_mNow_9
