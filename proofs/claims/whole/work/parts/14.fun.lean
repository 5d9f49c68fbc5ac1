def f_X9_whole_b9 (rc_whole : Nat → om_S → Option (Int32 × om_S)) (rc_both : Nat → om_S → Option (Int32 × om_S)) (rc_compared : Nat → om_S → Option (Int32 × om_S)) (rc_sum : Nat → om_S → Option (Int32 × om_S)) (rc_product : Nat → om_S → Option (Int32 × om_S)) (rc_one : Nat → om_S → Option (Int32 × om_S)) : Nat → Nat → om_S → Option (Int32 × om_S)
  | 0, _, _ => none
  | F + 1, a0, σ => om_call (f_X9_look a0 σ) fun (r1o : Int32) (σ1o : om_S) => if r1o = (124 : Int32) then (om_let (om_w σ1o a0 6 ((σ1o a0 6) + (1 : Int32))) fun (σ2o : om_S) => om_call (rc_both a0 σ2o) fun (r2o : Int32) (σ3o : om_S) => if r2o = 0 then (some ((0 : Int32), σ3o)) else (om_do (f_X9_step1 a0 (3 : Int32) (124 : Int32) σ3o) fun (σ4o : om_S) => (f_X9_whole_b9 rc_whole rc_both rc_compared rc_sum rc_product rc_one F) a0 σ4o)) else (some ((1 : Int32), σ1o))
set_option maxRecDepth 100000 in
theorem g_X9_whole_b9 {x : om_X} {kd : Nat} {rc_whole : Nat → om_S → Option (Int32 × om_S)} {rc_both : Nat → om_S → Option (Int32 × om_S)} {rc_compared : Nat → om_S → Option (Int32 × om_S)} {rc_sum : Nat → om_S → Option (Int32 × om_S)} {rc_product : Nat → om_S → Option (Int32 × om_S)} {rc_one : Nat → om_S → Option (Int32 × om_S)} (O : om_Ok x RX9 "whole" cX9_whole 1 (some FieldType.boolean) (kd + 1) 0 0)  (hkd : 1 ≤ kd) (H_whole : ∀ (a0 : Nat) (σ : om_S) (r : Int32) (τ : om_S), rc_whole a0 σ = some (r, τ) → ∀ (l : Launch) (G : om_G), om_D l G kd yX9_whole cX9_whole 1 (some FieldType.boolean) 0 0 [vR (some a0)] σ om_rf om_N (some (vI r)) τ om_rf om_N) (H_both : ∀ (a0 : Nat) (σ : om_S) (r : Int32) (τ : om_S), rc_both a0 σ = some (r, τ) → ∀ (l : Launch) (G : om_G), om_D l G kd yX9_both cX9_both 1 (some FieldType.boolean) 0 0 [vR (some a0)] σ om_rf om_N (some (vI r)) τ om_rf om_N) (H_compared : ∀ (a0 : Nat) (σ : om_S) (r : Int32) (τ : om_S), rc_compared a0 σ = some (r, τ) → ∀ (l : Launch) (G : om_G), om_D l G kd yX9_compared cX9_compared 2 (some FieldType.boolean) 0 0 [vR (some a0)] σ om_rf om_N (some (vI r)) τ om_rf om_N) (H_sum : ∀ (a0 : Nat) (σ : om_S) (r : Int32) (τ : om_S), rc_sum a0 σ = some (r, τ) → ∀ (l : Launch) (G : om_G), om_D l G kd yX9_sum cX9_sum 2 (some FieldType.boolean) 0 0 [vR (some a0)] σ om_rf om_N (some (vI r)) τ om_rf om_N) (H_product : ∀ (a0 : Nat) (σ : om_S) (r : Int32) (τ : om_S), rc_product a0 σ = some (r, τ) → ∀ (l : Launch) (G : om_G), om_D l G kd yX9_product cX9_product 2 (some FieldType.boolean) 0 0 [vR (some a0)] σ om_rf om_N (some (vI r)) τ om_rf om_N) (H_one : ∀ (a0 : Nat) (σ : om_S) (r : Int32) (τ : om_S), rc_one a0 σ = some (r, τ) → ∀ (l : Launch) (G : om_G), om_D l G kd yX9_one cX9_one 4 (some FieldType.boolean) 0 0 [vR (some a0)] σ om_rf om_N (some (vI r)) τ om_rf om_N) {r : Int32} {τ : om_S} (hE : om_End x (some (vI r)) τ om_rf om_N 0 0)   : ∀ (F : Nat) (a0 : Nat) (σ : om_S) (ka0 : om_kc a0 = 9), f_X9_whole_b9 rc_whole rc_both rc_compared rc_sum rc_product rc_one F a0 σ = some (r, τ) → om_J x 9 [(0, vR (some a0))] [] σ om_rf om_N 0 0 := by
  intro F
  induction F with
  | zero =>
    intro a0 σ ka0 h
    cases h
  | succ F ih =>
    intro a0 σ ka0 h
    unfold f_X9_whole_b9 at h
    refine om_aload_n O 0 dX9_whole_9 rfl rfl ?_
    revert h; refine om_callR (fun r1o σ1o g1o h => ?_)
    refine cl_X9_80 O (st := []) (stk := [vR (some a0)]) (st2 := [vI r1o]) [] (fun l G => c_X9_look l G g1o) ka0 (om_lt ka0 (by decide)) (by omega) rfl rfl rfl_le rfl rfl_le rfl_le dX9_whole_10 ?_
    refine om_bipush O (v := 124) dX9_whole_13 (by decide) ?_
    refine om_icmp_ne O (tgt := 47) dX9_whole_15 (by decide) (fun c1o => ?_) (fun c1o => ?_)
    · replace h := (if_pos c1o).symm.trans h
      refine om_aload_n O 0 dX9_whole_18 rfl rfl ?_
      refine om_dup O rfl dX9_whole_19 ?_
      refine gf_X9_67 O ka0 (om_lt ka0 (by decide)) dX9_whole_20 ?_
      refine om_iconst O (v := 1) dX9_whole_23 (by decide) ?_
      refine om_iadd O dX9_whole_24 ?_
      revert h; refine om_letR (fun σ2o e1o h => ?_)
      refine pf_X9_67 O (Or.inl rfl) ka0 (om_lt ka0 (by decide)) dX9_whole_25 e1o ?_
      refine om_aload_n O 0 dX9_whole_28 rfl rfl ?_
      revert h; refine om_callR (fun r2o σ3o g2o h => ?_)
      refine cl_X9_76 O (st := []) (stk := [vR (some a0)]) (st2 := [vI r2o]) [] (H_both _ _ _ _ g2o) ka0 (om_lt ka0 (by decide)) (Nat.le_refl _) rfl rfl rfl_le rfl rfl_le rfl_le dX9_whole_29 ?_
      refine om_if_ne O (tgt := 37) dX9_whole_32 (by decide) (fun c2o => ?_) (fun c2o => ?_)
      · replace h := (if_pos c2o).symm.trans h
        refine om_iconst O (v := 0) dX9_whole_35 (by decide) ?_
        exact om_zret (st := []) O (Or.inl rfl) (om_eI hE h) rfl dX9_whole_36
      · replace h := (if_neg c2o).symm.trans h
        refine om_aload_n O 0 dX9_whole_37 rfl rfl ?_
        refine om_iconst O (v := 3) dX9_whole_38 (by decide) ?_
        refine om_bipush O (v := 124) dX9_whole_39 (by decide) ?_
        revert h; refine om_doR (fun σ4o g3o h => ?_)
        refine cl_X9_84 O (st := []) (stk := [vI (124 : Int32), vI (3 : Int32), vR (some a0)]) (st2 := []) [vI (3 : Int32), vI (124 : Int32)] (fun l G => c_X9_step1 l G g3o) ka0 (om_lt ka0 (by decide)) (by omega) rfl rfl rfl_le rfl rfl_le rfl_le dX9_whole_41 ?_
        refine om_goto O (tgt := 9) dX9_whole_44 (by decide) ?_
        exact ih _ _ ka0 h
    · replace h := (if_neg c1o).symm.trans h
      refine om_iconst O (v := 1) dX9_whole_47 (by decide) ?_
      exact om_zret (st := []) O (Or.inr rfl) (om_eI hE h) rfl dX9_whole_48
def fo_X9_whole (rc_whole : Nat → om_S → Option (Int32 × om_S)) (rc_both : Nat → om_S → Option (Int32 × om_S)) (rc_compared : Nat → om_S → Option (Int32 × om_S)) (rc_sum : Nat → om_S → Option (Int32 × om_S)) (rc_product : Nat → om_S → Option (Int32 × om_S)) (rc_one : Nat → om_S → Option (Int32 × om_S)) (a0 : Nat) (σ : om_S) : Option (Int32 × om_S) := if om_kc a0 = 9 then om_call (rc_both a0 σ) fun (r1o : Int32) (σ1o : om_S) => if r1o = 0 then (some ((0 : Int32), σ1o)) else (f_X9_whole_b9 rc_whole rc_both rc_compared rc_sum rc_product rc_one om_F a0 σ1o) else none
set_option maxRecDepth 100000 in
theorem co_X9_whole {rc_whole : Nat → om_S → Option (Int32 × om_S)} {rc_both : Nat → om_S → Option (Int32 × om_S)} {rc_compared : Nat → om_S → Option (Int32 × om_S)} {rc_sum : Nat → om_S → Option (Int32 × om_S)} {rc_product : Nat → om_S → Option (Int32 × om_S)} {rc_one : Nat → om_S → Option (Int32 × om_S)} {kd : Nat} (hkd : 1 ≤ kd) (H_whole : ∀ (a0 : Nat) (σ : om_S) (r : Int32) (τ : om_S), rc_whole a0 σ = some (r, τ) → ∀ (l : Launch) (G : om_G), om_D l G kd yX9_whole cX9_whole 1 (some FieldType.boolean) 0 0 [vR (some a0)] σ om_rf om_N (some (vI r)) τ om_rf om_N) (H_both : ∀ (a0 : Nat) (σ : om_S) (r : Int32) (τ : om_S), rc_both a0 σ = some (r, τ) → ∀ (l : Launch) (G : om_G), om_D l G kd yX9_both cX9_both 1 (some FieldType.boolean) 0 0 [vR (some a0)] σ om_rf om_N (some (vI r)) τ om_rf om_N) (H_compared : ∀ (a0 : Nat) (σ : om_S) (r : Int32) (τ : om_S), rc_compared a0 σ = some (r, τ) → ∀ (l : Launch) (G : om_G), om_D l G kd yX9_compared cX9_compared 2 (some FieldType.boolean) 0 0 [vR (some a0)] σ om_rf om_N (some (vI r)) τ om_rf om_N) (H_sum : ∀ (a0 : Nat) (σ : om_S) (r : Int32) (τ : om_S), rc_sum a0 σ = some (r, τ) → ∀ (l : Launch) (G : om_G), om_D l G kd yX9_sum cX9_sum 2 (some FieldType.boolean) 0 0 [vR (some a0)] σ om_rf om_N (some (vI r)) τ om_rf om_N) (H_product : ∀ (a0 : Nat) (σ : om_S) (r : Int32) (τ : om_S), rc_product a0 σ = some (r, τ) → ∀ (l : Launch) (G : om_G), om_D l G kd yX9_product cX9_product 2 (some FieldType.boolean) 0 0 [vR (some a0)] σ om_rf om_N (some (vI r)) τ om_rf om_N) (H_one : ∀ (a0 : Nat) (σ : om_S) (r : Int32) (τ : om_S), rc_one a0 σ = some (r, τ) → ∀ (l : Launch) (G : om_G), om_D l G kd yX9_one cX9_one 4 (some FieldType.boolean) 0 0 [vR (some a0)] σ om_rf om_N (some (vI r)) τ om_rf om_N) (l : Launch) (G : om_G) {a0 : Nat} {σ : om_S} {r : Int32} {τ : om_S} (h : fo_X9_whole rc_whole rc_both rc_compared rc_sum rc_product rc_one a0 σ = some (r, τ)) : om_D l G (kd + 1) yX9_whole cX9_whole 1 (some FieldType.boolean) 0 0 [vR (some a0)] σ om_rf om_N (some (vI r)) τ om_rf om_N := by
  refine om_Dof (lv := [(0, vR (some a0))]) (by decide) rfl_le rfl (fun x O hE => ?_)
  change om_Ok x RX9 "whole" cX9_whole 1 (some FieldType.boolean) (kd + 1) 0 0 at O
  unfold fo_X9_whole at h
  revert h; refine om_iteR (fun ka0 h => ?_)
  refine om_aload_n O 0 dX9_whole_0 rfl rfl ?_
  revert h; refine om_callR (fun r1o σ1o g1o h => ?_)
  refine cl_X9_76 O (st := []) (stk := [vR (some a0)]) (st2 := [vI r1o]) [] (H_both _ _ _ _ g1o) ka0 (om_lt ka0 (by decide)) (Nat.le_refl _) rfl rfl rfl_le rfl rfl_le rfl_le dX9_whole_1 ?_
  refine om_if_ne O (tgt := 9) dX9_whole_4 (by decide) (fun c1o => ?_) (fun c1o => ?_)
  · replace h := (if_pos c1o).symm.trans h
    refine om_iconst O (v := 0) dX9_whole_7 (by decide) ?_
    exact om_zret (st := []) O (Or.inl rfl) (om_eI hE h) rfl dX9_whole_8
  · replace h := (if_neg c1o).symm.trans h
    exact g_X9_whole_b9 O hkd H_whole H_both H_compared H_sum H_product H_one hE om_F _ _ ka0 h
def f_X9_both_b9 (rc_whole : Nat → om_S → Option (Int32 × om_S)) (rc_both : Nat → om_S → Option (Int32 × om_S)) (rc_compared : Nat → om_S → Option (Int32 × om_S)) (rc_sum : Nat → om_S → Option (Int32 × om_S)) (rc_product : Nat → om_S → Option (Int32 × om_S)) (rc_one : Nat → om_S → Option (Int32 × om_S)) : Nat → Nat → om_S → Option (Int32 × om_S)
  | 0, _, _ => none
  | F + 1, a0, σ => om_call (f_X9_look a0 σ) fun (r1o : Int32) (σ1o : om_S) => if r1o = (38 : Int32) then (om_let (om_w σ1o a0 6 ((σ1o a0 6) + (1 : Int32))) fun (σ2o : om_S) => om_call (rc_compared a0 σ2o) fun (r2o : Int32) (σ3o : om_S) => if r2o = 0 then (some ((0 : Int32), σ3o)) else (om_do (f_X9_step1 a0 (3 : Int32) (38 : Int32) σ3o) fun (σ4o : om_S) => (f_X9_both_b9 rc_whole rc_both rc_compared rc_sum rc_product rc_one F) a0 σ4o)) else (some ((1 : Int32), σ1o))
set_option maxRecDepth 100000 in
theorem g_X9_both_b9 {x : om_X} {kd : Nat} {rc_whole : Nat → om_S → Option (Int32 × om_S)} {rc_both : Nat → om_S → Option (Int32 × om_S)} {rc_compared : Nat → om_S → Option (Int32 × om_S)} {rc_sum : Nat → om_S → Option (Int32 × om_S)} {rc_product : Nat → om_S → Option (Int32 × om_S)} {rc_one : Nat → om_S → Option (Int32 × om_S)} (O : om_Ok x RX9 "both" cX9_both 1 (some FieldType.boolean) (kd + 1) 0 0)  (hkd : 1 ≤ kd) (H_whole : ∀ (a0 : Nat) (σ : om_S) (r : Int32) (τ : om_S), rc_whole a0 σ = some (r, τ) → ∀ (l : Launch) (G : om_G), om_D l G kd yX9_whole cX9_whole 1 (some FieldType.boolean) 0 0 [vR (some a0)] σ om_rf om_N (some (vI r)) τ om_rf om_N) (H_both : ∀ (a0 : Nat) (σ : om_S) (r : Int32) (τ : om_S), rc_both a0 σ = some (r, τ) → ∀ (l : Launch) (G : om_G), om_D l G kd yX9_both cX9_both 1 (some FieldType.boolean) 0 0 [vR (some a0)] σ om_rf om_N (some (vI r)) τ om_rf om_N) (H_compared : ∀ (a0 : Nat) (σ : om_S) (r : Int32) (τ : om_S), rc_compared a0 σ = some (r, τ) → ∀ (l : Launch) (G : om_G), om_D l G kd yX9_compared cX9_compared 2 (some FieldType.boolean) 0 0 [vR (some a0)] σ om_rf om_N (some (vI r)) τ om_rf om_N) (H_sum : ∀ (a0 : Nat) (σ : om_S) (r : Int32) (τ : om_S), rc_sum a0 σ = some (r, τ) → ∀ (l : Launch) (G : om_G), om_D l G kd yX9_sum cX9_sum 2 (some FieldType.boolean) 0 0 [vR (some a0)] σ om_rf om_N (some (vI r)) τ om_rf om_N) (H_product : ∀ (a0 : Nat) (σ : om_S) (r : Int32) (τ : om_S), rc_product a0 σ = some (r, τ) → ∀ (l : Launch) (G : om_G), om_D l G kd yX9_product cX9_product 2 (some FieldType.boolean) 0 0 [vR (some a0)] σ om_rf om_N (some (vI r)) τ om_rf om_N) (H_one : ∀ (a0 : Nat) (σ : om_S) (r : Int32) (τ : om_S), rc_one a0 σ = some (r, τ) → ∀ (l : Launch) (G : om_G), om_D l G kd yX9_one cX9_one 4 (some FieldType.boolean) 0 0 [vR (some a0)] σ om_rf om_N (some (vI r)) τ om_rf om_N) {r : Int32} {τ : om_S} (hE : om_End x (some (vI r)) τ om_rf om_N 0 0)   : ∀ (F : Nat) (a0 : Nat) (σ : om_S) (ka0 : om_kc a0 = 9), f_X9_both_b9 rc_whole rc_both rc_compared rc_sum rc_product rc_one F a0 σ = some (r, τ) → om_J x 9 [(0, vR (some a0))] [] σ om_rf om_N 0 0 := by
  intro F
  induction F with
  | zero =>
    intro a0 σ ka0 h
    cases h
  | succ F ih =>
    intro a0 σ ka0 h
    unfold f_X9_both_b9 at h
    refine om_aload_n O 0 dX9_both_9 rfl rfl ?_
    revert h; refine om_callR (fun r1o σ1o g1o h => ?_)
    refine cl_X9_80 O (st := []) (stk := [vR (some a0)]) (st2 := [vI r1o]) [] (fun l G => c_X9_look l G g1o) ka0 (om_lt ka0 (by decide)) (by omega) rfl rfl rfl_le rfl rfl_le rfl_le dX9_both_10 ?_
    refine om_bipush O (v := 38) dX9_both_13 (by decide) ?_
    refine om_icmp_ne O (tgt := 47) dX9_both_15 (by decide) (fun c1o => ?_) (fun c1o => ?_)
    · replace h := (if_pos c1o).symm.trans h
      refine om_aload_n O 0 dX9_both_18 rfl rfl ?_
      refine om_dup O rfl dX9_both_19 ?_
      refine gf_X9_67 O ka0 (om_lt ka0 (by decide)) dX9_both_20 ?_
      refine om_iconst O (v := 1) dX9_both_23 (by decide) ?_
      refine om_iadd O dX9_both_24 ?_
      revert h; refine om_letR (fun σ2o e1o h => ?_)
      refine pf_X9_67 O (Or.inl rfl) ka0 (om_lt ka0 (by decide)) dX9_both_25 e1o ?_
      refine om_aload_n O 0 dX9_both_28 rfl rfl ?_
      revert h; refine om_callR (fun r2o σ3o g2o h => ?_)
      refine cl_X9_88 O (st := []) (stk := [vR (some a0)]) (st2 := [vI r2o]) [] (H_compared _ _ _ _ g2o) ka0 (om_lt ka0 (by decide)) (Nat.le_refl _) rfl rfl rfl_le rfl rfl_le rfl_le dX9_both_29 ?_
      refine om_if_ne O (tgt := 37) dX9_both_32 (by decide) (fun c2o => ?_) (fun c2o => ?_)
      · replace h := (if_pos c2o).symm.trans h
        refine om_iconst O (v := 0) dX9_both_35 (by decide) ?_
        exact om_zret (st := []) O (Or.inl rfl) (om_eI hE h) rfl dX9_both_36
      · replace h := (if_neg c2o).symm.trans h
        refine om_aload_n O 0 dX9_both_37 rfl rfl ?_
        refine om_iconst O (v := 3) dX9_both_38 (by decide) ?_
        refine om_bipush O (v := 38) dX9_both_39 (by decide) ?_
        revert h; refine om_doR (fun σ4o g3o h => ?_)
        refine cl_X9_84 O (st := []) (stk := [vI (38 : Int32), vI (3 : Int32), vR (some a0)]) (st2 := []) [vI (3 : Int32), vI (38 : Int32)] (fun l G => c_X9_step1 l G g3o) ka0 (om_lt ka0 (by decide)) (by omega) rfl rfl rfl_le rfl rfl_le rfl_le dX9_both_41 ?_
        refine om_goto O (tgt := 9) dX9_both_44 (by decide) ?_
        exact ih _ _ ka0 h
    · replace h := (if_neg c1o).symm.trans h
      refine om_iconst O (v := 1) dX9_both_47 (by decide) ?_
      exact om_zret (st := []) O (Or.inr rfl) (om_eI hE h) rfl dX9_both_48
def fo_X9_both (rc_whole : Nat → om_S → Option (Int32 × om_S)) (rc_both : Nat → om_S → Option (Int32 × om_S)) (rc_compared : Nat → om_S → Option (Int32 × om_S)) (rc_sum : Nat → om_S → Option (Int32 × om_S)) (rc_product : Nat → om_S → Option (Int32 × om_S)) (rc_one : Nat → om_S → Option (Int32 × om_S)) (a0 : Nat) (σ : om_S) : Option (Int32 × om_S) := if om_kc a0 = 9 then om_call (rc_compared a0 σ) fun (r1o : Int32) (σ1o : om_S) => if r1o = 0 then (some ((0 : Int32), σ1o)) else (f_X9_both_b9 rc_whole rc_both rc_compared rc_sum rc_product rc_one om_F a0 σ1o) else none
set_option maxRecDepth 100000 in
theorem co_X9_both {rc_whole : Nat → om_S → Option (Int32 × om_S)} {rc_both : Nat → om_S → Option (Int32 × om_S)} {rc_compared : Nat → om_S → Option (Int32 × om_S)} {rc_sum : Nat → om_S → Option (Int32 × om_S)} {rc_product : Nat → om_S → Option (Int32 × om_S)} {rc_one : Nat → om_S → Option (Int32 × om_S)} {kd : Nat} (hkd : 1 ≤ kd) (H_whole : ∀ (a0 : Nat) (σ : om_S) (r : Int32) (τ : om_S), rc_whole a0 σ = some (r, τ) → ∀ (l : Launch) (G : om_G), om_D l G kd yX9_whole cX9_whole 1 (some FieldType.boolean) 0 0 [vR (some a0)] σ om_rf om_N (some (vI r)) τ om_rf om_N) (H_both : ∀ (a0 : Nat) (σ : om_S) (r : Int32) (τ : om_S), rc_both a0 σ = some (r, τ) → ∀ (l : Launch) (G : om_G), om_D l G kd yX9_both cX9_both 1 (some FieldType.boolean) 0 0 [vR (some a0)] σ om_rf om_N (some (vI r)) τ om_rf om_N) (H_compared : ∀ (a0 : Nat) (σ : om_S) (r : Int32) (τ : om_S), rc_compared a0 σ = some (r, τ) → ∀ (l : Launch) (G : om_G), om_D l G kd yX9_compared cX9_compared 2 (some FieldType.boolean) 0 0 [vR (some a0)] σ om_rf om_N (some (vI r)) τ om_rf om_N) (H_sum : ∀ (a0 : Nat) (σ : om_S) (r : Int32) (τ : om_S), rc_sum a0 σ = some (r, τ) → ∀ (l : Launch) (G : om_G), om_D l G kd yX9_sum cX9_sum 2 (some FieldType.boolean) 0 0 [vR (some a0)] σ om_rf om_N (some (vI r)) τ om_rf om_N) (H_product : ∀ (a0 : Nat) (σ : om_S) (r : Int32) (τ : om_S), rc_product a0 σ = some (r, τ) → ∀ (l : Launch) (G : om_G), om_D l G kd yX9_product cX9_product 2 (some FieldType.boolean) 0 0 [vR (some a0)] σ om_rf om_N (some (vI r)) τ om_rf om_N) (H_one : ∀ (a0 : Nat) (σ : om_S) (r : Int32) (τ : om_S), rc_one a0 σ = some (r, τ) → ∀ (l : Launch) (G : om_G), om_D l G kd yX9_one cX9_one 4 (some FieldType.boolean) 0 0 [vR (some a0)] σ om_rf om_N (some (vI r)) τ om_rf om_N) (l : Launch) (G : om_G) {a0 : Nat} {σ : om_S} {r : Int32} {τ : om_S} (h : fo_X9_both rc_whole rc_both rc_compared rc_sum rc_product rc_one a0 σ = some (r, τ)) : om_D l G (kd + 1) yX9_both cX9_both 1 (some FieldType.boolean) 0 0 [vR (some a0)] σ om_rf om_N (some (vI r)) τ om_rf om_N := by
  refine om_Dof (lv := [(0, vR (some a0))]) (by decide) rfl_le rfl (fun x O hE => ?_)
  change om_Ok x RX9 "both" cX9_both 1 (some FieldType.boolean) (kd + 1) 0 0 at O
  unfold fo_X9_both at h
  revert h; refine om_iteR (fun ka0 h => ?_)
  refine om_aload_n O 0 dX9_both_0 rfl rfl ?_
  revert h; refine om_callR (fun r1o σ1o g1o h => ?_)
  refine cl_X9_88 O (st := []) (stk := [vR (some a0)]) (st2 := [vI r1o]) [] (H_compared _ _ _ _ g1o) ka0 (om_lt ka0 (by decide)) (Nat.le_refl _) rfl rfl rfl_le rfl rfl_le rfl_le dX9_both_1 ?_
  refine om_if_ne O (tgt := 9) dX9_both_4 (by decide) (fun c1o => ?_) (fun c1o => ?_)
  · replace h := (if_pos c1o).symm.trans h
    refine om_iconst O (v := 0) dX9_both_7 (by decide) ?_
    exact om_zret (st := []) O (Or.inl rfl) (om_eI hE h) rfl dX9_both_8
  · replace h := (if_neg c1o).symm.trans h
    exact g_X9_both_b9 O hkd H_whole H_both H_compared H_sum H_product H_one hE om_F _ _ ka0 h
def f_X9_compared_b34 (rc_whole : Nat → om_S → Option (Int32 × om_S)) (rc_both : Nat → om_S → Option (Int32 × om_S)) (rc_compared : Nat → om_S → Option (Int32 × om_S)) (rc_sum : Nat → om_S → Option (Int32 × om_S)) (rc_product : Nat → om_S → Option (Int32 × om_S)) (rc_one : Nat → om_S → Option (Int32 × om_S)) (a0 : Nat) (v1 : Int32) (σ : om_S) : Option (Int32 × om_S) := om_let (om_w σ a0 6 ((σ a0 6) + (1 : Int32))) fun (σ1o : om_S) => om_call (rc_sum a0 σ1o) fun (r1o : Int32) (σ2o : om_S) => if r1o = 0 then (some ((0 : Int32), σ2o)) else (om_do (f_X9_step1 a0 (3 : Int32) v1 σ2o) fun (σ3o : om_S) => some ((1 : Int32), σ3o))
set_option maxRecDepth 100000 in
theorem g_X9_compared_b34 {x : om_X} {kd : Nat} {rc_whole : Nat → om_S → Option (Int32 × om_S)} {rc_both : Nat → om_S → Option (Int32 × om_S)} {rc_compared : Nat → om_S → Option (Int32 × om_S)} {rc_sum : Nat → om_S → Option (Int32 × om_S)} {rc_product : Nat → om_S → Option (Int32 × om_S)} {rc_one : Nat → om_S → Option (Int32 × om_S)} (O : om_Ok x RX9 "compared" cX9_compared 2 (some FieldType.boolean) (kd + 1) 0 0)  (hkd : 1 ≤ kd) (H_whole : ∀ (a0 : Nat) (σ : om_S) (r : Int32) (τ : om_S), rc_whole a0 σ = some (r, τ) → ∀ (l : Launch) (G : om_G), om_D l G kd yX9_whole cX9_whole 1 (some FieldType.boolean) 0 0 [vR (some a0)] σ om_rf om_N (some (vI r)) τ om_rf om_N) (H_both : ∀ (a0 : Nat) (σ : om_S) (r : Int32) (τ : om_S), rc_both a0 σ = some (r, τ) → ∀ (l : Launch) (G : om_G), om_D l G kd yX9_both cX9_both 1 (some FieldType.boolean) 0 0 [vR (some a0)] σ om_rf om_N (some (vI r)) τ om_rf om_N) (H_compared : ∀ (a0 : Nat) (σ : om_S) (r : Int32) (τ : om_S), rc_compared a0 σ = some (r, τ) → ∀ (l : Launch) (G : om_G), om_D l G kd yX9_compared cX9_compared 2 (some FieldType.boolean) 0 0 [vR (some a0)] σ om_rf om_N (some (vI r)) τ om_rf om_N) (H_sum : ∀ (a0 : Nat) (σ : om_S) (r : Int32) (τ : om_S), rc_sum a0 σ = some (r, τ) → ∀ (l : Launch) (G : om_G), om_D l G kd yX9_sum cX9_sum 2 (some FieldType.boolean) 0 0 [vR (some a0)] σ om_rf om_N (some (vI r)) τ om_rf om_N) (H_product : ∀ (a0 : Nat) (σ : om_S) (r : Int32) (τ : om_S), rc_product a0 σ = some (r, τ) → ∀ (l : Launch) (G : om_G), om_D l G kd yX9_product cX9_product 2 (some FieldType.boolean) 0 0 [vR (some a0)] σ om_rf om_N (some (vI r)) τ om_rf om_N) (H_one : ∀ (a0 : Nat) (σ : om_S) (r : Int32) (τ : om_S), rc_one a0 σ = some (r, τ) → ∀ (l : Launch) (G : om_G), om_D l G kd yX9_one cX9_one 4 (some FieldType.boolean) 0 0 [vR (some a0)] σ om_rf om_N (some (vI r)) τ om_rf om_N) {r : Int32} {τ : om_S} (hE : om_End x (some (vI r)) τ om_rf om_N 0 0)   {a0 : Nat} {v1 : Int32} {σ : om_S} (ka0 : om_kc a0 = 9) (h : f_X9_compared_b34 rc_whole rc_both rc_compared rc_sum rc_product rc_one a0 v1 σ = some (r, τ)) : om_J x 34 [(0, vR (some a0)), (1, vI v1)] [] σ om_rf om_N 0 0 := by
  unfold f_X9_compared_b34 at h
  refine om_aload_n O 0 dX9_compared_34 rfl rfl ?_
  refine om_dup O rfl dX9_compared_35 ?_
  refine gf_X9_67 O ka0 (om_lt ka0 (by decide)) dX9_compared_36 ?_
  refine om_iconst O (v := 1) dX9_compared_39 (by decide) ?_
  refine om_iadd O dX9_compared_40 ?_
  revert h; refine om_letR (fun σ1o e1o h => ?_)
  refine pf_X9_67 O (Or.inl rfl) ka0 (om_lt ka0 (by decide)) dX9_compared_41 e1o ?_
  refine om_aload_n O 0 dX9_compared_44 rfl rfl ?_
  revert h; refine om_callR (fun r1o σ2o g1o h => ?_)
  refine cl_X9_91 O (st := []) (stk := [vR (some a0)]) (st2 := [vI r1o]) [] (H_sum _ _ _ _ g1o) ka0 (om_lt ka0 (by decide)) (Nat.le_refl _) rfl rfl rfl_le rfl rfl_le rfl_le dX9_compared_45 ?_
  refine om_if_ne O (tgt := 53) dX9_compared_48 (by decide) (fun c1o => ?_) (fun c1o => ?_)
  · replace h := (if_pos c1o).symm.trans h
    refine om_iconst O (v := 0) dX9_compared_51 (by decide) ?_
    exact om_zret (st := []) O (Or.inl rfl) (om_eI hE h) rfl dX9_compared_52
  · replace h := (if_neg c1o).symm.trans h
    refine om_aload_n O 0 dX9_compared_53 rfl rfl ?_
    refine om_iconst O (v := 3) dX9_compared_54 (by decide) ?_
    refine om_iload_n O 1 dX9_compared_55 rfl rfl ?_
    revert h; refine om_doR (fun σ3o g2o h => ?_)
    refine cl_X9_84 O (st := []) (stk := [vI v1, vI (3 : Int32), vR (some a0)]) (st2 := []) [vI (3 : Int32), vI v1] (fun l G => c_X9_step1 l G g2o) ka0 (om_lt ka0 (by decide)) (by omega) rfl rfl rfl_le rfl rfl_le rfl_le dX9_compared_56 ?_
    refine om_iconst O (v := 1) dX9_compared_59 (by decide) ?_
    exact om_zret (st := []) O (Or.inr rfl) (om_eI hE h) rfl dX9_compared_60
def fo_X9_compared (rc_whole : Nat → om_S → Option (Int32 × om_S)) (rc_both : Nat → om_S → Option (Int32 × om_S)) (rc_compared : Nat → om_S → Option (Int32 × om_S)) (rc_sum : Nat → om_S → Option (Int32 × om_S)) (rc_product : Nat → om_S → Option (Int32 × om_S)) (rc_one : Nat → om_S → Option (Int32 × om_S)) (a0 : Nat) (σ : om_S) : Option (Int32 × om_S) := if om_kc a0 = 9 then om_call (rc_sum a0 σ) fun (r1o : Int32) (σ1o : om_S) => if r1o = 0 then (some ((0 : Int32), σ1o)) else (om_call (f_X9_look a0 σ1o) fun (r2o : Int32) (σ2o : om_S) => if r2o = (60 : Int32) then (f_X9_compared_b34 rc_whole rc_both rc_compared rc_sum rc_product rc_one a0 r2o σ2o) else (if r2o = (61 : Int32) then (f_X9_compared_b34 rc_whole rc_both rc_compared rc_sum rc_product rc_one a0 r2o σ2o) else (if r2o = (62 : Int32) then (f_X9_compared_b34 rc_whole rc_both rc_compared rc_sum rc_product rc_one a0 r2o σ2o) else (some ((1 : Int32), σ2o))))) else none
set_option maxRecDepth 100000 in
theorem co_X9_compared {rc_whole : Nat → om_S → Option (Int32 × om_S)} {rc_both : Nat → om_S → Option (Int32 × om_S)} {rc_compared : Nat → om_S → Option (Int32 × om_S)} {rc_sum : Nat → om_S → Option (Int32 × om_S)} {rc_product : Nat → om_S → Option (Int32 × om_S)} {rc_one : Nat → om_S → Option (Int32 × om_S)} {kd : Nat} (hkd : 1 ≤ kd) (H_whole : ∀ (a0 : Nat) (σ : om_S) (r : Int32) (τ : om_S), rc_whole a0 σ = some (r, τ) → ∀ (l : Launch) (G : om_G), om_D l G kd yX9_whole cX9_whole 1 (some FieldType.boolean) 0 0 [vR (some a0)] σ om_rf om_N (some (vI r)) τ om_rf om_N) (H_both : ∀ (a0 : Nat) (σ : om_S) (r : Int32) (τ : om_S), rc_both a0 σ = some (r, τ) → ∀ (l : Launch) (G : om_G), om_D l G kd yX9_both cX9_both 1 (some FieldType.boolean) 0 0 [vR (some a0)] σ om_rf om_N (some (vI r)) τ om_rf om_N) (H_compared : ∀ (a0 : Nat) (σ : om_S) (r : Int32) (τ : om_S), rc_compared a0 σ = some (r, τ) → ∀ (l : Launch) (G : om_G), om_D l G kd yX9_compared cX9_compared 2 (some FieldType.boolean) 0 0 [vR (some a0)] σ om_rf om_N (some (vI r)) τ om_rf om_N) (H_sum : ∀ (a0 : Nat) (σ : om_S) (r : Int32) (τ : om_S), rc_sum a0 σ = some (r, τ) → ∀ (l : Launch) (G : om_G), om_D l G kd yX9_sum cX9_sum 2 (some FieldType.boolean) 0 0 [vR (some a0)] σ om_rf om_N (some (vI r)) τ om_rf om_N) (H_product : ∀ (a0 : Nat) (σ : om_S) (r : Int32) (τ : om_S), rc_product a0 σ = some (r, τ) → ∀ (l : Launch) (G : om_G), om_D l G kd yX9_product cX9_product 2 (some FieldType.boolean) 0 0 [vR (some a0)] σ om_rf om_N (some (vI r)) τ om_rf om_N) (H_one : ∀ (a0 : Nat) (σ : om_S) (r : Int32) (τ : om_S), rc_one a0 σ = some (r, τ) → ∀ (l : Launch) (G : om_G), om_D l G kd yX9_one cX9_one 4 (some FieldType.boolean) 0 0 [vR (some a0)] σ om_rf om_N (some (vI r)) τ om_rf om_N) (l : Launch) (G : om_G) {a0 : Nat} {σ : om_S} {r : Int32} {τ : om_S} (h : fo_X9_compared rc_whole rc_both rc_compared rc_sum rc_product rc_one a0 σ = some (r, τ)) : om_D l G (kd + 1) yX9_compared cX9_compared 2 (some FieldType.boolean) 0 0 [vR (some a0)] σ om_rf om_N (some (vI r)) τ om_rf om_N := by
  refine om_Dof (lv := [(0, vR (some a0))]) (by decide) rfl_le rfl (fun x O hE => ?_)
  change om_Ok x RX9 "compared" cX9_compared 2 (some FieldType.boolean) (kd + 1) 0 0 at O
  unfold fo_X9_compared at h
  revert h; refine om_iteR (fun ka0 h => ?_)
  refine om_aload_n O 0 dX9_compared_0 rfl rfl ?_
  revert h; refine om_callR (fun r1o σ1o g1o h => ?_)
  refine cl_X9_91 O (st := []) (stk := [vR (some a0)]) (st2 := [vI r1o]) [] (H_sum _ _ _ _ g1o) ka0 (om_lt ka0 (by decide)) (Nat.le_refl _) rfl rfl rfl_le rfl rfl_le rfl_le dX9_compared_1 ?_
  refine om_if_ne O (tgt := 9) dX9_compared_4 (by decide) (fun c1o => ?_) (fun c1o => ?_)
  · replace h := (if_pos c1o).symm.trans h
    refine om_iconst O (v := 0) dX9_compared_7 (by decide) ?_
    exact om_zret (st := []) O (Or.inl rfl) (om_eI hE h) rfl dX9_compared_8
  · replace h := (if_neg c1o).symm.trans h
    refine om_aload_n O 0 dX9_compared_9 rfl rfl ?_
    revert h; refine om_callR (fun r2o σ2o g2o h => ?_)
    refine cl_X9_80 O (st := []) (stk := [vR (some a0)]) (st2 := [vI r2o]) [] (fun l G => c_X9_look l G g2o) ka0 (om_lt ka0 (by decide)) (by omega) rfl rfl rfl_le rfl rfl_le rfl_le dX9_compared_10 ?_
    refine om_istore_n O (lv' := [(0, vR (some a0)), (1, vI r2o)]) [1, 0] rfl dX9_compared_13 rfl (by decide) rfl ?_
    refine om_iload_n O 1 dX9_compared_14 rfl rfl ?_
    refine om_bipush O (v := 60) dX9_compared_15 (by decide) ?_
    refine om_icmp_eq O (tgt := 34) dX9_compared_17 (by decide) (fun c2o => ?_) (fun c2o => ?_)
    · replace h := (if_pos c2o).symm.trans h
      exact g_X9_compared_b34 O hkd H_whole H_both H_compared H_sum H_product H_one hE ka0 h
    · replace h := (if_neg c2o).symm.trans h
      refine om_iload_n O 1 dX9_compared_20 rfl rfl ?_
      refine om_bipush O (v := 61) dX9_compared_21 (by decide) ?_
      refine om_icmp_eq O (tgt := 34) dX9_compared_23 (by decide) (fun c3o => ?_) (fun c3o => ?_)
      · replace h := (if_pos c3o).symm.trans h
        exact g_X9_compared_b34 O hkd H_whole H_both H_compared H_sum H_product H_one hE ka0 h
      · replace h := (if_neg c3o).symm.trans h
        refine om_iload_n O 1 dX9_compared_26 rfl rfl ?_
        refine om_bipush O (v := 62) dX9_compared_27 (by decide) ?_
        refine om_icmp_eq O (tgt := 34) dX9_compared_29 (by decide) (fun c4o => ?_) (fun c4o => ?_)
        · replace h := (if_pos c4o).symm.trans h
          exact g_X9_compared_b34 O hkd H_whole H_both H_compared H_sum H_product H_one hE ka0 h
        · replace h := (if_neg c4o).symm.trans h
          refine om_iconst O (v := 1) dX9_compared_32 (by decide) ?_
          exact om_zret (st := []) O (Or.inr rfl) (om_eI hE h) rfl dX9_compared_33
def f_X9_sum_b27 (rc_whole : Nat → om_S → Option (Int32 × om_S)) (rc_both : Nat → om_S → Option (Int32 × om_S)) (rc_compared : Nat → om_S → Option (Int32 × om_S)) (rc_sum : Nat → om_S → Option (Int32 × om_S)) (rc_product : Nat → om_S → Option (Int32 × om_S)) (rc_one : Nat → om_S → Option (Int32 × om_S)) (lp9 : Nat → om_S → Option (Int32 × om_S)) (a0 : Nat) (σ : om_S) : Option (Int32 × om_S) := om_call (f_X9_look a0 σ) fun (r1o : Int32) (σ1o : om_S) => om_let (om_w σ1o a0 6 ((σ1o a0 6) + (1 : Int32))) fun (σ2o : om_S) => om_call (rc_product a0 σ2o) fun (r2o : Int32) (σ3o : om_S) => if r2o = 0 then (some ((0 : Int32), σ3o)) else (om_do (f_X9_step1 a0 (3 : Int32) r1o σ3o) fun (σ4o : om_S) => lp9 a0 σ4o)
set_option maxRecDepth 100000 in
theorem g_X9_sum_b27 {x : om_X} {kd : Nat} {rc_whole : Nat → om_S → Option (Int32 × om_S)} {rc_both : Nat → om_S → Option (Int32 × om_S)} {rc_compared : Nat → om_S → Option (Int32 × om_S)} {rc_sum : Nat → om_S → Option (Int32 × om_S)} {rc_product : Nat → om_S → Option (Int32 × om_S)} {rc_one : Nat → om_S → Option (Int32 × om_S)} (O : om_Ok x RX9 "sum" cX9_sum 2 (some FieldType.boolean) (kd + 1) 0 0)  (hkd : 1 ≤ kd) (H_whole : ∀ (a0 : Nat) (σ : om_S) (r : Int32) (τ : om_S), rc_whole a0 σ = some (r, τ) → ∀ (l : Launch) (G : om_G), om_D l G kd yX9_whole cX9_whole 1 (some FieldType.boolean) 0 0 [vR (some a0)] σ om_rf om_N (some (vI r)) τ om_rf om_N) (H_both : ∀ (a0 : Nat) (σ : om_S) (r : Int32) (τ : om_S), rc_both a0 σ = some (r, τ) → ∀ (l : Launch) (G : om_G), om_D l G kd yX9_both cX9_both 1 (some FieldType.boolean) 0 0 [vR (some a0)] σ om_rf om_N (some (vI r)) τ om_rf om_N) (H_compared : ∀ (a0 : Nat) (σ : om_S) (r : Int32) (τ : om_S), rc_compared a0 σ = some (r, τ) → ∀ (l : Launch) (G : om_G), om_D l G kd yX9_compared cX9_compared 2 (some FieldType.boolean) 0 0 [vR (some a0)] σ om_rf om_N (some (vI r)) τ om_rf om_N) (H_sum : ∀ (a0 : Nat) (σ : om_S) (r : Int32) (τ : om_S), rc_sum a0 σ = some (r, τ) → ∀ (l : Launch) (G : om_G), om_D l G kd yX9_sum cX9_sum 2 (some FieldType.boolean) 0 0 [vR (some a0)] σ om_rf om_N (some (vI r)) τ om_rf om_N) (H_product : ∀ (a0 : Nat) (σ : om_S) (r : Int32) (τ : om_S), rc_product a0 σ = some (r, τ) → ∀ (l : Launch) (G : om_G), om_D l G kd yX9_product cX9_product 2 (some FieldType.boolean) 0 0 [vR (some a0)] σ om_rf om_N (some (vI r)) τ om_rf om_N) (H_one : ∀ (a0 : Nat) (σ : om_S) (r : Int32) (τ : om_S), rc_one a0 σ = some (r, τ) → ∀ (l : Launch) (G : om_G), om_D l G kd yX9_one cX9_one 4 (some FieldType.boolean) 0 0 [vR (some a0)] σ om_rf om_N (some (vI r)) τ om_rf om_N) {r : Int32} {τ : om_S} (hE : om_End x (some (vI r)) τ om_rf om_N 0 0) {lp9 : Nat → om_S → Option (Int32 × om_S)} (L9 : ∀ (a0 : Nat) (σ : om_S) (ka0 : om_kc a0 = 9), lp9 a0 σ = some (r, τ) → om_J x 9 [(0, vR (some a0))] [] σ om_rf om_N 0 0) {a0 : Nat} {σ : om_S} (ka0 : om_kc a0 = 9) (h : f_X9_sum_b27 rc_whole rc_both rc_compared rc_sum rc_product rc_one lp9 a0 σ = some (r, τ)) : om_J x 27 [(0, vR (some a0))] [] σ om_rf om_N 0 0 := by
  unfold f_X9_sum_b27 at h
  refine om_aload_n O 0 dX9_sum_27 rfl rfl ?_
  revert h; refine om_callR (fun r1o σ1o g1o h => ?_)
  refine cl_X9_80 O (st := []) (stk := [vR (some a0)]) (st2 := [vI r1o]) [] (fun l G => c_X9_look l G g1o) ka0 (om_lt ka0 (by decide)) (by omega) rfl rfl rfl_le rfl rfl_le rfl_le dX9_sum_28 ?_
  refine om_istore_n O (lv' := [(0, vR (some a0)), (1, vI r1o)]) [1, 0] rfl dX9_sum_31 rfl (by decide) rfl ?_
  refine om_aload_n O 0 dX9_sum_32 rfl rfl ?_
  refine om_dup O rfl dX9_sum_33 ?_
  refine gf_X9_67 O ka0 (om_lt ka0 (by decide)) dX9_sum_34 ?_
  refine om_iconst O (v := 1) dX9_sum_37 (by decide) ?_
  refine om_iadd O dX9_sum_38 ?_
  revert h; refine om_letR (fun σ2o e1o h => ?_)
  refine pf_X9_67 O (Or.inl rfl) ka0 (om_lt ka0 (by decide)) dX9_sum_39 e1o ?_
  refine om_aload_n O 0 dX9_sum_42 rfl rfl ?_
  revert h; refine om_callR (fun r2o σ3o g2o h => ?_)
  refine cl_X9_94 O (st := []) (stk := [vR (some a0)]) (st2 := [vI r2o]) [] (H_product _ _ _ _ g2o) ka0 (om_lt ka0 (by decide)) (Nat.le_refl _) rfl rfl rfl_le rfl rfl_le rfl_le dX9_sum_43 ?_
  refine om_if_ne O (tgt := 51) dX9_sum_46 (by decide) (fun c1o => ?_) (fun c1o => ?_)
  · replace h := (if_pos c1o).symm.trans h
    refine om_iconst O (v := 0) dX9_sum_49 (by decide) ?_
    exact om_zret (st := []) O (Or.inl rfl) (om_eI hE h) rfl dX9_sum_50
  · replace h := (if_neg c1o).symm.trans h
    refine om_aload_n O 0 dX9_sum_51 rfl rfl ?_
    refine om_iconst O (v := 3) dX9_sum_52 (by decide) ?_
    refine om_iload_n O 1 dX9_sum_53 rfl rfl ?_
    revert h; refine om_doR (fun σ4o g3o h => ?_)
    refine cl_X9_84 O (st := []) (stk := [vI r1o, vI (3 : Int32), vR (some a0)]) (st2 := []) [vI (3 : Int32), vI r1o] (fun l G => c_X9_step1 l G g3o) ka0 (om_lt ka0 (by decide)) (by omega) rfl rfl rfl_le rfl rfl_le rfl_le dX9_sum_54 ?_
    refine om_goto O (tgt := 9) dX9_sum_57 (by decide) ?_
    refine om_drop (lv' := [(0, vR (some a0))]) [0] rfl ?_
    exact L9 _ _ ka0 h
def f_X9_sum_b9 (rc_whole : Nat → om_S → Option (Int32 × om_S)) (rc_both : Nat → om_S → Option (Int32 × om_S)) (rc_compared : Nat → om_S → Option (Int32 × om_S)) (rc_sum : Nat → om_S → Option (Int32 × om_S)) (rc_product : Nat → om_S → Option (Int32 × om_S)) (rc_one : Nat → om_S → Option (Int32 × om_S)) : Nat → Nat → om_S → Option (Int32 × om_S)
  | 0, _, _ => none
  | F + 1, a0, σ => om_call (f_X9_look a0 σ) fun (r1o : Int32) (σ1o : om_S) => if r1o = (43 : Int32) then (f_X9_sum_b27 rc_whole rc_both rc_compared rc_sum rc_product rc_one (f_X9_sum_b9 rc_whole rc_both rc_compared rc_sum rc_product rc_one F) a0 σ1o) else (om_call (f_X9_look a0 σ1o) fun (r2o : Int32) (σ2o : om_S) => if r2o = (45 : Int32) then (f_X9_sum_b27 rc_whole rc_both rc_compared rc_sum rc_product rc_one (f_X9_sum_b9 rc_whole rc_both rc_compared rc_sum rc_product rc_one F) a0 σ2o) else (some ((1 : Int32), σ2o)))
set_option maxRecDepth 100000 in
theorem g_X9_sum_b9 {x : om_X} {kd : Nat} {rc_whole : Nat → om_S → Option (Int32 × om_S)} {rc_both : Nat → om_S → Option (Int32 × om_S)} {rc_compared : Nat → om_S → Option (Int32 × om_S)} {rc_sum : Nat → om_S → Option (Int32 × om_S)} {rc_product : Nat → om_S → Option (Int32 × om_S)} {rc_one : Nat → om_S → Option (Int32 × om_S)} (O : om_Ok x RX9 "sum" cX9_sum 2 (some FieldType.boolean) (kd + 1) 0 0)  (hkd : 1 ≤ kd) (H_whole : ∀ (a0 : Nat) (σ : om_S) (r : Int32) (τ : om_S), rc_whole a0 σ = some (r, τ) → ∀ (l : Launch) (G : om_G), om_D l G kd yX9_whole cX9_whole 1 (some FieldType.boolean) 0 0 [vR (some a0)] σ om_rf om_N (some (vI r)) τ om_rf om_N) (H_both : ∀ (a0 : Nat) (σ : om_S) (r : Int32) (τ : om_S), rc_both a0 σ = some (r, τ) → ∀ (l : Launch) (G : om_G), om_D l G kd yX9_both cX9_both 1 (some FieldType.boolean) 0 0 [vR (some a0)] σ om_rf om_N (some (vI r)) τ om_rf om_N) (H_compared : ∀ (a0 : Nat) (σ : om_S) (r : Int32) (τ : om_S), rc_compared a0 σ = some (r, τ) → ∀ (l : Launch) (G : om_G), om_D l G kd yX9_compared cX9_compared 2 (some FieldType.boolean) 0 0 [vR (some a0)] σ om_rf om_N (some (vI r)) τ om_rf om_N) (H_sum : ∀ (a0 : Nat) (σ : om_S) (r : Int32) (τ : om_S), rc_sum a0 σ = some (r, τ) → ∀ (l : Launch) (G : om_G), om_D l G kd yX9_sum cX9_sum 2 (some FieldType.boolean) 0 0 [vR (some a0)] σ om_rf om_N (some (vI r)) τ om_rf om_N) (H_product : ∀ (a0 : Nat) (σ : om_S) (r : Int32) (τ : om_S), rc_product a0 σ = some (r, τ) → ∀ (l : Launch) (G : om_G), om_D l G kd yX9_product cX9_product 2 (some FieldType.boolean) 0 0 [vR (some a0)] σ om_rf om_N (some (vI r)) τ om_rf om_N) (H_one : ∀ (a0 : Nat) (σ : om_S) (r : Int32) (τ : om_S), rc_one a0 σ = some (r, τ) → ∀ (l : Launch) (G : om_G), om_D l G kd yX9_one cX9_one 4 (some FieldType.boolean) 0 0 [vR (some a0)] σ om_rf om_N (some (vI r)) τ om_rf om_N) {r : Int32} {τ : om_S} (hE : om_End x (some (vI r)) τ om_rf om_N 0 0)   : ∀ (F : Nat) (a0 : Nat) (σ : om_S) (ka0 : om_kc a0 = 9), f_X9_sum_b9 rc_whole rc_both rc_compared rc_sum rc_product rc_one F a0 σ = some (r, τ) → om_J x 9 [(0, vR (some a0))] [] σ om_rf om_N 0 0 := by
  intro F
  induction F with
  | zero =>
    intro a0 σ ka0 h
    cases h
  | succ F ih =>
    intro a0 σ ka0 h
    unfold f_X9_sum_b9 at h
    refine om_aload_n O 0 dX9_sum_9 rfl rfl ?_
    revert h; refine om_callR (fun r1o σ1o g1o h => ?_)
    refine cl_X9_80 O (st := []) (stk := [vR (some a0)]) (st2 := [vI r1o]) [] (fun l G => c_X9_look l G g1o) ka0 (om_lt ka0 (by decide)) (by omega) rfl rfl rfl_le rfl rfl_le rfl_le dX9_sum_10 ?_
    refine om_bipush O (v := 43) dX9_sum_13 (by decide) ?_
    refine om_icmp_eq O (tgt := 27) dX9_sum_15 (by decide) (fun c1o => ?_) (fun c1o => ?_)
    · replace h := (if_pos c1o).symm.trans h
      exact g_X9_sum_b27 O hkd H_whole H_both H_compared H_sum H_product H_one hE ih ka0 h
    · replace h := (if_neg c1o).symm.trans h
      refine om_aload_n O 0 dX9_sum_18 rfl rfl ?_
      revert h; refine om_callR (fun r2o σ2o g2o h => ?_)
      refine cl_X9_80 O (st := []) (stk := [vR (some a0)]) (st2 := [vI r2o]) [] (fun l G => c_X9_look l G g2o) ka0 (om_lt ka0 (by decide)) (by omega) rfl rfl rfl_le rfl rfl_le rfl_le dX9_sum_19 ?_
      refine om_bipush O (v := 45) dX9_sum_22 (by decide) ?_
      refine om_icmp_ne O (tgt := 60) dX9_sum_24 (by decide) (fun c2o => ?_) (fun c2o => ?_)
      · replace h := (if_pos c2o).symm.trans h
        exact g_X9_sum_b27 O hkd H_whole H_both H_compared H_sum H_product H_one hE ih ka0 h
      · replace h := (if_neg c2o).symm.trans h
        refine om_iconst O (v := 1) dX9_sum_60 (by decide) ?_
        exact om_zret (st := []) O (Or.inr rfl) (om_eI hE h) rfl dX9_sum_61
def fo_X9_sum (rc_whole : Nat → om_S → Option (Int32 × om_S)) (rc_both : Nat → om_S → Option (Int32 × om_S)) (rc_compared : Nat → om_S → Option (Int32 × om_S)) (rc_sum : Nat → om_S → Option (Int32 × om_S)) (rc_product : Nat → om_S → Option (Int32 × om_S)) (rc_one : Nat → om_S → Option (Int32 × om_S)) (a0 : Nat) (σ : om_S) : Option (Int32 × om_S) := if om_kc a0 = 9 then om_call (rc_product a0 σ) fun (r1o : Int32) (σ1o : om_S) => if r1o = 0 then (some ((0 : Int32), σ1o)) else (f_X9_sum_b9 rc_whole rc_both rc_compared rc_sum rc_product rc_one om_F a0 σ1o) else none
set_option maxRecDepth 100000 in
theorem co_X9_sum {rc_whole : Nat → om_S → Option (Int32 × om_S)} {rc_both : Nat → om_S → Option (Int32 × om_S)} {rc_compared : Nat → om_S → Option (Int32 × om_S)} {rc_sum : Nat → om_S → Option (Int32 × om_S)} {rc_product : Nat → om_S → Option (Int32 × om_S)} {rc_one : Nat → om_S → Option (Int32 × om_S)} {kd : Nat} (hkd : 1 ≤ kd) (H_whole : ∀ (a0 : Nat) (σ : om_S) (r : Int32) (τ : om_S), rc_whole a0 σ = some (r, τ) → ∀ (l : Launch) (G : om_G), om_D l G kd yX9_whole cX9_whole 1 (some FieldType.boolean) 0 0 [vR (some a0)] σ om_rf om_N (some (vI r)) τ om_rf om_N) (H_both : ∀ (a0 : Nat) (σ : om_S) (r : Int32) (τ : om_S), rc_both a0 σ = some (r, τ) → ∀ (l : Launch) (G : om_G), om_D l G kd yX9_both cX9_both 1 (some FieldType.boolean) 0 0 [vR (some a0)] σ om_rf om_N (some (vI r)) τ om_rf om_N) (H_compared : ∀ (a0 : Nat) (σ : om_S) (r : Int32) (τ : om_S), rc_compared a0 σ = some (r, τ) → ∀ (l : Launch) (G : om_G), om_D l G kd yX9_compared cX9_compared 2 (some FieldType.boolean) 0 0 [vR (some a0)] σ om_rf om_N (some (vI r)) τ om_rf om_N) (H_sum : ∀ (a0 : Nat) (σ : om_S) (r : Int32) (τ : om_S), rc_sum a0 σ = some (r, τ) → ∀ (l : Launch) (G : om_G), om_D l G kd yX9_sum cX9_sum 2 (some FieldType.boolean) 0 0 [vR (some a0)] σ om_rf om_N (some (vI r)) τ om_rf om_N) (H_product : ∀ (a0 : Nat) (σ : om_S) (r : Int32) (τ : om_S), rc_product a0 σ = some (r, τ) → ∀ (l : Launch) (G : om_G), om_D l G kd yX9_product cX9_product 2 (some FieldType.boolean) 0 0 [vR (some a0)] σ om_rf om_N (some (vI r)) τ om_rf om_N) (H_one : ∀ (a0 : Nat) (σ : om_S) (r : Int32) (τ : om_S), rc_one a0 σ = some (r, τ) → ∀ (l : Launch) (G : om_G), om_D l G kd yX9_one cX9_one 4 (some FieldType.boolean) 0 0 [vR (some a0)] σ om_rf om_N (some (vI r)) τ om_rf om_N) (l : Launch) (G : om_G) {a0 : Nat} {σ : om_S} {r : Int32} {τ : om_S} (h : fo_X9_sum rc_whole rc_both rc_compared rc_sum rc_product rc_one a0 σ = some (r, τ)) : om_D l G (kd + 1) yX9_sum cX9_sum 2 (some FieldType.boolean) 0 0 [vR (some a0)] σ om_rf om_N (some (vI r)) τ om_rf om_N := by
  refine om_Dof (lv := [(0, vR (some a0))]) (by decide) rfl_le rfl (fun x O hE => ?_)
  change om_Ok x RX9 "sum" cX9_sum 2 (some FieldType.boolean) (kd + 1) 0 0 at O
  unfold fo_X9_sum at h
  revert h; refine om_iteR (fun ka0 h => ?_)
  refine om_aload_n O 0 dX9_sum_0 rfl rfl ?_
  revert h; refine om_callR (fun r1o σ1o g1o h => ?_)
  refine cl_X9_94 O (st := []) (stk := [vR (some a0)]) (st2 := [vI r1o]) [] (H_product _ _ _ _ g1o) ka0 (om_lt ka0 (by decide)) (Nat.le_refl _) rfl rfl rfl_le rfl rfl_le rfl_le dX9_sum_1 ?_
  refine om_if_ne O (tgt := 9) dX9_sum_4 (by decide) (fun c1o => ?_) (fun c1o => ?_)
  · replace h := (if_pos c1o).symm.trans h
    refine om_iconst O (v := 0) dX9_sum_7 (by decide) ?_
    exact om_zret (st := []) O (Or.inl rfl) (om_eI hE h) rfl dX9_sum_8
  · replace h := (if_neg c1o).symm.trans h
    exact g_X9_sum_b9 O hkd H_whole H_both H_compared H_sum H_product H_one hE om_F _ _ ka0 h
def f_X9_product_b36 (rc_whole : Nat → om_S → Option (Int32 × om_S)) (rc_both : Nat → om_S → Option (Int32 × om_S)) (rc_compared : Nat → om_S → Option (Int32 × om_S)) (rc_sum : Nat → om_S → Option (Int32 × om_S)) (rc_product : Nat → om_S → Option (Int32 × om_S)) (rc_one : Nat → om_S → Option (Int32 × om_S)) (lp9 : Nat → om_S → Option (Int32 × om_S)) (a0 : Nat) (σ : om_S) : Option (Int32 × om_S) := om_call (f_X9_look a0 σ) fun (r1o : Int32) (σ1o : om_S) => om_let (om_w σ1o a0 6 ((σ1o a0 6) + (1 : Int32))) fun (σ2o : om_S) => om_call (rc_one a0 σ2o) fun (r2o : Int32) (σ3o : om_S) => if r2o = 0 then (some ((0 : Int32), σ3o)) else (om_do (f_X9_step1 a0 (3 : Int32) r1o σ3o) fun (σ4o : om_S) => lp9 a0 σ4o)
set_option maxRecDepth 100000 in
theorem g_X9_product_b36 {x : om_X} {kd : Nat} {rc_whole : Nat → om_S → Option (Int32 × om_S)} {rc_both : Nat → om_S → Option (Int32 × om_S)} {rc_compared : Nat → om_S → Option (Int32 × om_S)} {rc_sum : Nat → om_S → Option (Int32 × om_S)} {rc_product : Nat → om_S → Option (Int32 × om_S)} {rc_one : Nat → om_S → Option (Int32 × om_S)} (O : om_Ok x RX9 "product" cX9_product 2 (some FieldType.boolean) (kd + 1) 0 0)  (hkd : 1 ≤ kd) (H_whole : ∀ (a0 : Nat) (σ : om_S) (r : Int32) (τ : om_S), rc_whole a0 σ = some (r, τ) → ∀ (l : Launch) (G : om_G), om_D l G kd yX9_whole cX9_whole 1 (some FieldType.boolean) 0 0 [vR (some a0)] σ om_rf om_N (some (vI r)) τ om_rf om_N) (H_both : ∀ (a0 : Nat) (σ : om_S) (r : Int32) (τ : om_S), rc_both a0 σ = some (r, τ) → ∀ (l : Launch) (G : om_G), om_D l G kd yX9_both cX9_both 1 (some FieldType.boolean) 0 0 [vR (some a0)] σ om_rf om_N (some (vI r)) τ om_rf om_N) (H_compared : ∀ (a0 : Nat) (σ : om_S) (r : Int32) (τ : om_S), rc_compared a0 σ = some (r, τ) → ∀ (l : Launch) (G : om_G), om_D l G kd yX9_compared cX9_compared 2 (some FieldType.boolean) 0 0 [vR (some a0)] σ om_rf om_N (some (vI r)) τ om_rf om_N) (H_sum : ∀ (a0 : Nat) (σ : om_S) (r : Int32) (τ : om_S), rc_sum a0 σ = some (r, τ) → ∀ (l : Launch) (G : om_G), om_D l G kd yX9_sum cX9_sum 2 (some FieldType.boolean) 0 0 [vR (some a0)] σ om_rf om_N (some (vI r)) τ om_rf om_N) (H_product : ∀ (a0 : Nat) (σ : om_S) (r : Int32) (τ : om_S), rc_product a0 σ = some (r, τ) → ∀ (l : Launch) (G : om_G), om_D l G kd yX9_product cX9_product 2 (some FieldType.boolean) 0 0 [vR (some a0)] σ om_rf om_N (some (vI r)) τ om_rf om_N) (H_one : ∀ (a0 : Nat) (σ : om_S) (r : Int32) (τ : om_S), rc_one a0 σ = some (r, τ) → ∀ (l : Launch) (G : om_G), om_D l G kd yX9_one cX9_one 4 (some FieldType.boolean) 0 0 [vR (some a0)] σ om_rf om_N (some (vI r)) τ om_rf om_N) {r : Int32} {τ : om_S} (hE : om_End x (some (vI r)) τ om_rf om_N 0 0) {lp9 : Nat → om_S → Option (Int32 × om_S)} (L9 : ∀ (a0 : Nat) (σ : om_S) (ka0 : om_kc a0 = 9), lp9 a0 σ = some (r, τ) → om_J x 9 [(0, vR (some a0))] [] σ om_rf om_N 0 0) {a0 : Nat} {σ : om_S} (ka0 : om_kc a0 = 9) (h : f_X9_product_b36 rc_whole rc_both rc_compared rc_sum rc_product rc_one lp9 a0 σ = some (r, τ)) : om_J x 36 [(0, vR (some a0))] [] σ om_rf om_N 0 0 := by
  unfold f_X9_product_b36 at h
  refine om_aload_n O 0 dX9_product_36 rfl rfl ?_
  revert h; refine om_callR (fun r1o σ1o g1o h => ?_)
  refine cl_X9_80 O (st := []) (stk := [vR (some a0)]) (st2 := [vI r1o]) [] (fun l G => c_X9_look l G g1o) ka0 (om_lt ka0 (by decide)) (by omega) rfl rfl rfl_le rfl rfl_le rfl_le dX9_product_37 ?_
  refine om_istore_n O (lv' := [(0, vR (some a0)), (1, vI r1o)]) [1, 0] rfl dX9_product_40 rfl (by decide) rfl ?_
  refine om_aload_n O 0 dX9_product_41 rfl rfl ?_
  refine om_dup O rfl dX9_product_42 ?_
  refine gf_X9_67 O ka0 (om_lt ka0 (by decide)) dX9_product_43 ?_
  refine om_iconst O (v := 1) dX9_product_46 (by decide) ?_
  refine om_iadd O dX9_product_47 ?_
  revert h; refine om_letR (fun σ2o e1o h => ?_)
  refine pf_X9_67 O (Or.inl rfl) ka0 (om_lt ka0 (by decide)) dX9_product_48 e1o ?_
  refine om_aload_n O 0 dX9_product_51 rfl rfl ?_
  revert h; refine om_callR (fun r2o σ3o g2o h => ?_)
  refine cl_X9_97 O (st := []) (stk := [vR (some a0)]) (st2 := [vI r2o]) [] (H_one _ _ _ _ g2o) ka0 (om_lt ka0 (by decide)) (Nat.le_refl _) rfl rfl rfl_le rfl rfl_le rfl_le dX9_product_52 ?_
  refine om_if_ne O (tgt := 60) dX9_product_55 (by decide) (fun c1o => ?_) (fun c1o => ?_)
  · replace h := (if_pos c1o).symm.trans h
    refine om_iconst O (v := 0) dX9_product_58 (by decide) ?_
    exact om_zret (st := []) O (Or.inl rfl) (om_eI hE h) rfl dX9_product_59
  · replace h := (if_neg c1o).symm.trans h
    refine om_aload_n O 0 dX9_product_60 rfl rfl ?_
    refine om_iconst O (v := 3) dX9_product_61 (by decide) ?_
    refine om_iload_n O 1 dX9_product_62 rfl rfl ?_
    revert h; refine om_doR (fun σ4o g3o h => ?_)
    refine cl_X9_84 O (st := []) (stk := [vI r1o, vI (3 : Int32), vR (some a0)]) (st2 := []) [vI (3 : Int32), vI r1o] (fun l G => c_X9_step1 l G g3o) ka0 (om_lt ka0 (by decide)) (by omega) rfl rfl rfl_le rfl rfl_le rfl_le dX9_product_63 ?_
    refine om_goto O (tgt := 9) dX9_product_66 (by decide) ?_
    refine om_drop (lv' := [(0, vR (some a0))]) [0] rfl ?_
    exact L9 _ _ ka0 h
def f_X9_product_b9 (rc_whole : Nat → om_S → Option (Int32 × om_S)) (rc_both : Nat → om_S → Option (Int32 × om_S)) (rc_compared : Nat → om_S → Option (Int32 × om_S)) (rc_sum : Nat → om_S → Option (Int32 × om_S)) (rc_product : Nat → om_S → Option (Int32 × om_S)) (rc_one : Nat → om_S → Option (Int32 × om_S)) : Nat → Nat → om_S → Option (Int32 × om_S)
  | 0, _, _ => none
  | F + 1, a0, σ => om_call (f_X9_look a0 σ) fun (r1o : Int32) (σ1o : om_S) => if r1o = (42 : Int32) then (f_X9_product_b36 rc_whole rc_both rc_compared rc_sum rc_product rc_one (f_X9_product_b9 rc_whole rc_both rc_compared rc_sum rc_product rc_one F) a0 σ1o) else (om_call (f_X9_look a0 σ1o) fun (r2o : Int32) (σ2o : om_S) => if r2o = (47 : Int32) then (f_X9_product_b36 rc_whole rc_both rc_compared rc_sum rc_product rc_one (f_X9_product_b9 rc_whole rc_both rc_compared rc_sum rc_product rc_one F) a0 σ2o) else (om_call (f_X9_look a0 σ2o) fun (r3o : Int32) (σ3o : om_S) => if r3o = (37 : Int32) then (f_X9_product_b36 rc_whole rc_both rc_compared rc_sum rc_product rc_one (f_X9_product_b9 rc_whole rc_both rc_compared rc_sum rc_product rc_one F) a0 σ3o) else (some ((1 : Int32), σ3o))))
set_option maxRecDepth 100000 in
theorem g_X9_product_b9 {x : om_X} {kd : Nat} {rc_whole : Nat → om_S → Option (Int32 × om_S)} {rc_both : Nat → om_S → Option (Int32 × om_S)} {rc_compared : Nat → om_S → Option (Int32 × om_S)} {rc_sum : Nat → om_S → Option (Int32 × om_S)} {rc_product : Nat → om_S → Option (Int32 × om_S)} {rc_one : Nat → om_S → Option (Int32 × om_S)} (O : om_Ok x RX9 "product" cX9_product 2 (some FieldType.boolean) (kd + 1) 0 0)  (hkd : 1 ≤ kd) (H_whole : ∀ (a0 : Nat) (σ : om_S) (r : Int32) (τ : om_S), rc_whole a0 σ = some (r, τ) → ∀ (l : Launch) (G : om_G), om_D l G kd yX9_whole cX9_whole 1 (some FieldType.boolean) 0 0 [vR (some a0)] σ om_rf om_N (some (vI r)) τ om_rf om_N) (H_both : ∀ (a0 : Nat) (σ : om_S) (r : Int32) (τ : om_S), rc_both a0 σ = some (r, τ) → ∀ (l : Launch) (G : om_G), om_D l G kd yX9_both cX9_both 1 (some FieldType.boolean) 0 0 [vR (some a0)] σ om_rf om_N (some (vI r)) τ om_rf om_N) (H_compared : ∀ (a0 : Nat) (σ : om_S) (r : Int32) (τ : om_S), rc_compared a0 σ = some (r, τ) → ∀ (l : Launch) (G : om_G), om_D l G kd yX9_compared cX9_compared 2 (some FieldType.boolean) 0 0 [vR (some a0)] σ om_rf om_N (some (vI r)) τ om_rf om_N) (H_sum : ∀ (a0 : Nat) (σ : om_S) (r : Int32) (τ : om_S), rc_sum a0 σ = some (r, τ) → ∀ (l : Launch) (G : om_G), om_D l G kd yX9_sum cX9_sum 2 (some FieldType.boolean) 0 0 [vR (some a0)] σ om_rf om_N (some (vI r)) τ om_rf om_N) (H_product : ∀ (a0 : Nat) (σ : om_S) (r : Int32) (τ : om_S), rc_product a0 σ = some (r, τ) → ∀ (l : Launch) (G : om_G), om_D l G kd yX9_product cX9_product 2 (some FieldType.boolean) 0 0 [vR (some a0)] σ om_rf om_N (some (vI r)) τ om_rf om_N) (H_one : ∀ (a0 : Nat) (σ : om_S) (r : Int32) (τ : om_S), rc_one a0 σ = some (r, τ) → ∀ (l : Launch) (G : om_G), om_D l G kd yX9_one cX9_one 4 (some FieldType.boolean) 0 0 [vR (some a0)] σ om_rf om_N (some (vI r)) τ om_rf om_N) {r : Int32} {τ : om_S} (hE : om_End x (some (vI r)) τ om_rf om_N 0 0)   : ∀ (F : Nat) (a0 : Nat) (σ : om_S) (ka0 : om_kc a0 = 9), f_X9_product_b9 rc_whole rc_both rc_compared rc_sum rc_product rc_one F a0 σ = some (r, τ) → om_J x 9 [(0, vR (some a0))] [] σ om_rf om_N 0 0 := by
  intro F
  induction F with
  | zero =>
    intro a0 σ ka0 h
    cases h
  | succ F ih =>
    intro a0 σ ka0 h
    unfold f_X9_product_b9 at h
    refine om_aload_n O 0 dX9_product_9 rfl rfl ?_
    revert h; refine om_callR (fun r1o σ1o g1o h => ?_)
    refine cl_X9_80 O (st := []) (stk := [vR (some a0)]) (st2 := [vI r1o]) [] (fun l G => c_X9_look l G g1o) ka0 (om_lt ka0 (by decide)) (by omega) rfl rfl rfl_le rfl rfl_le rfl_le dX9_product_10 ?_
    refine om_bipush O (v := 42) dX9_product_13 (by decide) ?_
    refine om_icmp_eq O (tgt := 36) dX9_product_15 (by decide) (fun c1o => ?_) (fun c1o => ?_)
    · replace h := (if_pos c1o).symm.trans h
      exact g_X9_product_b36 O hkd H_whole H_both H_compared H_sum H_product H_one hE ih ka0 h
    · replace h := (if_neg c1o).symm.trans h
      refine om_aload_n O 0 dX9_product_18 rfl rfl ?_
      revert h; refine om_callR (fun r2o σ2o g2o h => ?_)
      refine cl_X9_80 O (st := []) (stk := [vR (some a0)]) (st2 := [vI r2o]) [] (fun l G => c_X9_look l G g2o) ka0 (om_lt ka0 (by decide)) (by omega) rfl rfl rfl_le rfl rfl_le rfl_le dX9_product_19 ?_
      refine om_bipush O (v := 47) dX9_product_22 (by decide) ?_
      refine om_icmp_eq O (tgt := 36) dX9_product_24 (by decide) (fun c2o => ?_) (fun c2o => ?_)
      · replace h := (if_pos c2o).symm.trans h
        exact g_X9_product_b36 O hkd H_whole H_both H_compared H_sum H_product H_one hE ih ka0 h
      · replace h := (if_neg c2o).symm.trans h
        refine om_aload_n O 0 dX9_product_27 rfl rfl ?_
        revert h; refine om_callR (fun r3o σ3o g3o h => ?_)
        refine cl_X9_80 O (st := []) (stk := [vR (some a0)]) (st2 := [vI r3o]) [] (fun l G => c_X9_look l G g3o) ka0 (om_lt ka0 (by decide)) (by omega) rfl rfl rfl_le rfl rfl_le rfl_le dX9_product_28 ?_
        refine om_bipush O (v := 37) dX9_product_31 (by decide) ?_
        refine om_icmp_ne O (tgt := 69) dX9_product_33 (by decide) (fun c3o => ?_) (fun c3o => ?_)
        · replace h := (if_pos c3o).symm.trans h
          exact g_X9_product_b36 O hkd H_whole H_both H_compared H_sum H_product H_one hE ih ka0 h
        · replace h := (if_neg c3o).symm.trans h
          refine om_iconst O (v := 1) dX9_product_69 (by decide) ?_
          exact om_zret (st := []) O (Or.inr rfl) (om_eI hE h) rfl dX9_product_70
def fo_X9_product (rc_whole : Nat → om_S → Option (Int32 × om_S)) (rc_both : Nat → om_S → Option (Int32 × om_S)) (rc_compared : Nat → om_S → Option (Int32 × om_S)) (rc_sum : Nat → om_S → Option (Int32 × om_S)) (rc_product : Nat → om_S → Option (Int32 × om_S)) (rc_one : Nat → om_S → Option (Int32 × om_S)) (a0 : Nat) (σ : om_S) : Option (Int32 × om_S) := if om_kc a0 = 9 then om_call (rc_one a0 σ) fun (r1o : Int32) (σ1o : om_S) => if r1o = 0 then (some ((0 : Int32), σ1o)) else (f_X9_product_b9 rc_whole rc_both rc_compared rc_sum rc_product rc_one om_F a0 σ1o) else none
set_option maxRecDepth 100000 in
theorem co_X9_product {rc_whole : Nat → om_S → Option (Int32 × om_S)} {rc_both : Nat → om_S → Option (Int32 × om_S)} {rc_compared : Nat → om_S → Option (Int32 × om_S)} {rc_sum : Nat → om_S → Option (Int32 × om_S)} {rc_product : Nat → om_S → Option (Int32 × om_S)} {rc_one : Nat → om_S → Option (Int32 × om_S)} {kd : Nat} (hkd : 1 ≤ kd) (H_whole : ∀ (a0 : Nat) (σ : om_S) (r : Int32) (τ : om_S), rc_whole a0 σ = some (r, τ) → ∀ (l : Launch) (G : om_G), om_D l G kd yX9_whole cX9_whole 1 (some FieldType.boolean) 0 0 [vR (some a0)] σ om_rf om_N (some (vI r)) τ om_rf om_N) (H_both : ∀ (a0 : Nat) (σ : om_S) (r : Int32) (τ : om_S), rc_both a0 σ = some (r, τ) → ∀ (l : Launch) (G : om_G), om_D l G kd yX9_both cX9_both 1 (some FieldType.boolean) 0 0 [vR (some a0)] σ om_rf om_N (some (vI r)) τ om_rf om_N) (H_compared : ∀ (a0 : Nat) (σ : om_S) (r : Int32) (τ : om_S), rc_compared a0 σ = some (r, τ) → ∀ (l : Launch) (G : om_G), om_D l G kd yX9_compared cX9_compared 2 (some FieldType.boolean) 0 0 [vR (some a0)] σ om_rf om_N (some (vI r)) τ om_rf om_N) (H_sum : ∀ (a0 : Nat) (σ : om_S) (r : Int32) (τ : om_S), rc_sum a0 σ = some (r, τ) → ∀ (l : Launch) (G : om_G), om_D l G kd yX9_sum cX9_sum 2 (some FieldType.boolean) 0 0 [vR (some a0)] σ om_rf om_N (some (vI r)) τ om_rf om_N) (H_product : ∀ (a0 : Nat) (σ : om_S) (r : Int32) (τ : om_S), rc_product a0 σ = some (r, τ) → ∀ (l : Launch) (G : om_G), om_D l G kd yX9_product cX9_product 2 (some FieldType.boolean) 0 0 [vR (some a0)] σ om_rf om_N (some (vI r)) τ om_rf om_N) (H_one : ∀ (a0 : Nat) (σ : om_S) (r : Int32) (τ : om_S), rc_one a0 σ = some (r, τ) → ∀ (l : Launch) (G : om_G), om_D l G kd yX9_one cX9_one 4 (some FieldType.boolean) 0 0 [vR (some a0)] σ om_rf om_N (some (vI r)) τ om_rf om_N) (l : Launch) (G : om_G) {a0 : Nat} {σ : om_S} {r : Int32} {τ : om_S} (h : fo_X9_product rc_whole rc_both rc_compared rc_sum rc_product rc_one a0 σ = some (r, τ)) : om_D l G (kd + 1) yX9_product cX9_product 2 (some FieldType.boolean) 0 0 [vR (some a0)] σ om_rf om_N (some (vI r)) τ om_rf om_N := by
  refine om_Dof (lv := [(0, vR (some a0))]) (by decide) rfl_le rfl (fun x O hE => ?_)
  change om_Ok x RX9 "product" cX9_product 2 (some FieldType.boolean) (kd + 1) 0 0 at O
  unfold fo_X9_product at h
  revert h; refine om_iteR (fun ka0 h => ?_)
  refine om_aload_n O 0 dX9_product_0 rfl rfl ?_
  revert h; refine om_callR (fun r1o σ1o g1o h => ?_)
  refine cl_X9_97 O (st := []) (stk := [vR (some a0)]) (st2 := [vI r1o]) [] (H_one _ _ _ _ g1o) ka0 (om_lt ka0 (by decide)) (Nat.le_refl _) rfl rfl rfl_le rfl rfl_le rfl_le dX9_product_1 ?_
  refine om_if_ne O (tgt := 9) dX9_product_4 (by decide) (fun c1o => ?_) (fun c1o => ?_)
  · replace h := (if_pos c1o).symm.trans h
    refine om_iconst O (v := 0) dX9_product_7 (by decide) ?_
    exact om_zret (st := []) O (Or.inl rfl) (om_eI hE h) rfl dX9_product_8
  · replace h := (if_neg c1o).symm.trans h
    exact g_X9_product_b9 O hkd H_whole H_both H_compared H_sum H_product H_one hE om_F _ _ ka0 h
def f_X9_one_b94 (rc_whole : Nat → om_S → Option (Int32 × om_S)) (rc_both : Nat → om_S → Option (Int32 × om_S)) (rc_compared : Nat → om_S → Option (Int32 × om_S)) (rc_sum : Nat → om_S → Option (Int32 × om_S)) (rc_product : Nat → om_S → Option (Int32 × om_S)) (rc_one : Nat → om_S → Option (Int32 × om_S)) (a0 : Nat) (v2 : Int32) (σ : om_S) : Option (Int32 × om_S) := om_do (f_X9_step1 a0 (0 : Int32) v2 σ) fun (σ1o : om_S) => some ((1 : Int32), σ1o)
set_option maxRecDepth 100000 in
theorem g_X9_one_b94 {x : om_X} {kd : Nat} {rc_whole : Nat → om_S → Option (Int32 × om_S)} {rc_both : Nat → om_S → Option (Int32 × om_S)} {rc_compared : Nat → om_S → Option (Int32 × om_S)} {rc_sum : Nat → om_S → Option (Int32 × om_S)} {rc_product : Nat → om_S → Option (Int32 × om_S)} {rc_one : Nat → om_S → Option (Int32 × om_S)} (O : om_Ok x RX9 "one" cX9_one 4 (some FieldType.boolean) (kd + 1) 0 0)  (hkd : 1 ≤ kd) (H_whole : ∀ (a0 : Nat) (σ : om_S) (r : Int32) (τ : om_S), rc_whole a0 σ = some (r, τ) → ∀ (l : Launch) (G : om_G), om_D l G kd yX9_whole cX9_whole 1 (some FieldType.boolean) 0 0 [vR (some a0)] σ om_rf om_N (some (vI r)) τ om_rf om_N) (H_both : ∀ (a0 : Nat) (σ : om_S) (r : Int32) (τ : om_S), rc_both a0 σ = some (r, τ) → ∀ (l : Launch) (G : om_G), om_D l G kd yX9_both cX9_both 1 (some FieldType.boolean) 0 0 [vR (some a0)] σ om_rf om_N (some (vI r)) τ om_rf om_N) (H_compared : ∀ (a0 : Nat) (σ : om_S) (r : Int32) (τ : om_S), rc_compared a0 σ = some (r, τ) → ∀ (l : Launch) (G : om_G), om_D l G kd yX9_compared cX9_compared 2 (some FieldType.boolean) 0 0 [vR (some a0)] σ om_rf om_N (some (vI r)) τ om_rf om_N) (H_sum : ∀ (a0 : Nat) (σ : om_S) (r : Int32) (τ : om_S), rc_sum a0 σ = some (r, τ) → ∀ (l : Launch) (G : om_G), om_D l G kd yX9_sum cX9_sum 2 (some FieldType.boolean) 0 0 [vR (some a0)] σ om_rf om_N (some (vI r)) τ om_rf om_N) (H_product : ∀ (a0 : Nat) (σ : om_S) (r : Int32) (τ : om_S), rc_product a0 σ = some (r, τ) → ∀ (l : Launch) (G : om_G), om_D l G kd yX9_product cX9_product 2 (some FieldType.boolean) 0 0 [vR (some a0)] σ om_rf om_N (some (vI r)) τ om_rf om_N) (H_one : ∀ (a0 : Nat) (σ : om_S) (r : Int32) (τ : om_S), rc_one a0 σ = some (r, τ) → ∀ (l : Launch) (G : om_G), om_D l G kd yX9_one cX9_one 4 (some FieldType.boolean) 0 0 [vR (some a0)] σ om_rf om_N (some (vI r)) τ om_rf om_N) {r : Int32} {τ : om_S} (hE : om_End x (some (vI r)) τ om_rf om_N 0 0)   {a0 : Nat} {v2 : Int32} {σ : om_S} (ka0 : om_kc a0 = 9) (h : f_X9_one_b94 rc_whole rc_both rc_compared rc_sum rc_product rc_one a0 v2 σ = some (r, τ)) : om_J x 94 [(0, vR (some a0)), (2, vI v2)] [] σ om_rf om_N 0 0 := by
  unfold f_X9_one_b94 at h
  refine om_aload_n O 0 dX9_one_94 rfl rfl ?_
  refine om_iconst O (v := 0) dX9_one_95 (by decide) ?_
  refine om_iload_n O 1 dX9_one_96 rfl rfl ?_
  revert h; refine om_doR (fun σ1o g1o h => ?_)
  refine cl_X9_84 O (st := []) (stk := [vI v2, vI (0 : Int32), vR (some a0)]) (st2 := []) [vI (0 : Int32), vI v2] (fun l G => c_X9_step1 l G g1o) ka0 (om_lt ka0 (by decide)) (by omega) rfl rfl rfl_le rfl rfl_le rfl_le dX9_one_97 ?_
  refine om_iconst O (v := 1) dX9_one_100 (by decide) ?_
  exact om_zret (st := []) O (Or.inr rfl) (om_eI hE h) rfl dX9_one_101
def f_X9_one_b46 (rc_whole : Nat → om_S → Option (Int32 × om_S)) (rc_both : Nat → om_S → Option (Int32 × om_S)) (rc_compared : Nat → om_S → Option (Int32 × om_S)) (rc_sum : Nat → om_S → Option (Int32 × om_S)) (rc_product : Nat → om_S → Option (Int32 × om_S)) (rc_one : Nat → om_S → Option (Int32 × om_S)) : Nat → Nat → Int32 → Int32 → om_S → Option (Int32 × om_S)
  | 0, _, _, _, _ => none
  | F + 1, a0, v2, v3, σ => if (4 : Int32) ≤ v3 then (f_X9_one_b94 rc_whole rc_both rc_compared rc_sum rc_product rc_one a0 v2 σ) else (om_call (f_X9_look a0 σ) fun (r1o : Int32) (σ1o : om_S) => om_call (f_X9_in r1o (48 : Int32) (57 : Int32) σ1o) fun (r2o : Int32) (σ2o : om_S) => if r2o = 0 then (f_X9_one_b94 rc_whole rc_both rc_compared rc_sum rc_product rc_one a0 v2 σ2o) else (om_call (f_X9_look a0 σ2o) fun (r3o : Int32) (σ3o : om_S) => om_let ((((10 : Int32) * v2) + r3o) - (48 : Int32)) fun (x1o : Int32) => om_let (om_w σ3o a0 6 ((σ3o a0 6) + (1 : Int32))) fun (σ4o : om_S) => (f_X9_one_b46 rc_whole rc_both rc_compared rc_sum rc_product rc_one F) a0 x1o (v3 + 1) σ4o))
set_option maxRecDepth 100000 in
theorem g_X9_one_b46 {x : om_X} {kd : Nat} {rc_whole : Nat → om_S → Option (Int32 × om_S)} {rc_both : Nat → om_S → Option (Int32 × om_S)} {rc_compared : Nat → om_S → Option (Int32 × om_S)} {rc_sum : Nat → om_S → Option (Int32 × om_S)} {rc_product : Nat → om_S → Option (Int32 × om_S)} {rc_one : Nat → om_S → Option (Int32 × om_S)} (O : om_Ok x RX9 "one" cX9_one 4 (some FieldType.boolean) (kd + 1) 0 0)  (hkd : 1 ≤ kd) (H_whole : ∀ (a0 : Nat) (σ : om_S) (r : Int32) (τ : om_S), rc_whole a0 σ = some (r, τ) → ∀ (l : Launch) (G : om_G), om_D l G kd yX9_whole cX9_whole 1 (some FieldType.boolean) 0 0 [vR (some a0)] σ om_rf om_N (some (vI r)) τ om_rf om_N) (H_both : ∀ (a0 : Nat) (σ : om_S) (r : Int32) (τ : om_S), rc_both a0 σ = some (r, τ) → ∀ (l : Launch) (G : om_G), om_D l G kd yX9_both cX9_both 1 (some FieldType.boolean) 0 0 [vR (some a0)] σ om_rf om_N (some (vI r)) τ om_rf om_N) (H_compared : ∀ (a0 : Nat) (σ : om_S) (r : Int32) (τ : om_S), rc_compared a0 σ = some (r, τ) → ∀ (l : Launch) (G : om_G), om_D l G kd yX9_compared cX9_compared 2 (some FieldType.boolean) 0 0 [vR (some a0)] σ om_rf om_N (some (vI r)) τ om_rf om_N) (H_sum : ∀ (a0 : Nat) (σ : om_S) (r : Int32) (τ : om_S), rc_sum a0 σ = some (r, τ) → ∀ (l : Launch) (G : om_G), om_D l G kd yX9_sum cX9_sum 2 (some FieldType.boolean) 0 0 [vR (some a0)] σ om_rf om_N (some (vI r)) τ om_rf om_N) (H_product : ∀ (a0 : Nat) (σ : om_S) (r : Int32) (τ : om_S), rc_product a0 σ = some (r, τ) → ∀ (l : Launch) (G : om_G), om_D l G kd yX9_product cX9_product 2 (some FieldType.boolean) 0 0 [vR (some a0)] σ om_rf om_N (some (vI r)) τ om_rf om_N) (H_one : ∀ (a0 : Nat) (σ : om_S) (r : Int32) (τ : om_S), rc_one a0 σ = some (r, τ) → ∀ (l : Launch) (G : om_G), om_D l G kd yX9_one cX9_one 4 (some FieldType.boolean) 0 0 [vR (some a0)] σ om_rf om_N (some (vI r)) τ om_rf om_N) {r : Int32} {τ : om_S} (hE : om_End x (some (vI r)) τ om_rf om_N 0 0)   : ∀ (F : Nat) (a0 : Nat) (v2 : Int32) (v3 : Int32) (σ : om_S) (ka0 : om_kc a0 = 9), f_X9_one_b46 rc_whole rc_both rc_compared rc_sum rc_product rc_one F a0 v2 v3 σ = some (r, τ) → om_J x 46 [(0, vR (some a0)), (2, vI v2), (3, vI v3)] [] σ om_rf om_N 0 0 := by
  intro F
  induction F with
  | zero =>
    intro a0 v2 v3 σ ka0 h
    cases h
  | succ F ih =>
    intro a0 v2 v3 σ ka0 h
    unfold f_X9_one_b46 at h
    refine om_iload_n O 2 dX9_one_46 rfl rfl ?_
    refine om_iconst O (v := 4) dX9_one_47 (by decide) ?_
    refine om_icmp_ge O (tgt := 94) dX9_one_48 (by decide) (fun c1o => ?_) (fun c1o => ?_)
    · replace h := (if_pos c1o).symm.trans h
      refine om_drop (lv' := [(0, vR (some a0)), (2, vI v2)]) [0, 1] rfl ?_
      exact g_X9_one_b94 O hkd H_whole H_both H_compared H_sum H_product H_one hE ka0 h
    · replace h := (if_neg c1o).symm.trans h
      refine om_aload_n O 0 dX9_one_51 rfl rfl ?_
      revert h; refine om_callR (fun r1o σ1o g1o h => ?_)
      refine cl_X9_80 O (st := []) (stk := [vR (some a0)]) (st2 := [vI r1o]) [] (fun l G => c_X9_look l G g1o) ka0 (om_lt ka0 (by decide)) (by omega) rfl rfl rfl_le rfl rfl_le rfl_le dX9_one_52 ?_
      refine om_bipush O (v := 48) dX9_one_55 (by decide) ?_
      refine om_bipush O (v := 57) dX9_one_57 (by decide) ?_
      revert h; refine om_callR (fun r2o σ2o g2o h => ?_)
      refine cl_X9_57 O (st := []) (stk := [vI (57 : Int32), vI (48 : Int32), vI r1o]) (st2 := [vI r2o]) [vI r1o, vI (48 : Int32), vI (57 : Int32)] (fun l G => c_X9_in l G g2o) (by omega) rfl rfl rfl_le rfl rfl_le rfl_le dX9_one_59 ?_
      refine om_if_eq O (tgt := 94) dX9_one_62 (by decide) (fun c2o => ?_) (fun c2o => ?_)
      · replace h := (if_pos c2o).symm.trans h
        refine om_drop (lv' := [(0, vR (some a0)), (2, vI v2)]) [0, 1] rfl ?_
        exact g_X9_one_b94 O hkd H_whole H_both H_compared H_sum H_product H_one hE ka0 h
      · replace h := (if_neg c2o).symm.trans h
        refine om_bipush O (v := 10) dX9_one_65 (by decide) ?_
        refine om_iload_n O 1 dX9_one_67 rfl rfl ?_
        refine om_imul O dX9_one_68 ?_
        refine om_aload_n O 0 dX9_one_69 rfl rfl ?_
        revert h; refine om_callR (fun r3o σ3o g3o h => ?_)
        refine cl_X9_80 O (st := [vI ((10 : Int32) * v2)]) (stk := [vR (some a0), vI ((10 : Int32) * v2)]) (st2 := [vI r3o, vI ((10 : Int32) * v2)]) [] (fun l G => c_X9_look l G g3o) ka0 (om_lt ka0 (by decide)) (by omega) rfl rfl rfl_le rfl rfl_le rfl_le dX9_one_70 ?_
        refine om_iadd O dX9_one_73 ?_
        refine om_bipush O (v := 48) dX9_one_74 (by decide) ?_
        refine om_isub O dX9_one_76 ?_
        revert h; refine om_letR (fun x1o e1o h => ?_)
        refine om_istore_n O (lv' := [(0, vR (some a0)), (2, vI x1o), (3, vI v3)]) [1, 0, 2] e1o dX9_one_77 rfl (by decide) rfl ?_
        refine om_aload_n O 0 dX9_one_78 rfl rfl ?_
        refine om_dup O rfl dX9_one_79 ?_
        refine gf_X9_67 O ka0 (om_lt ka0 (by decide)) dX9_one_80 ?_
        refine om_iconst O (v := 1) dX9_one_83 (by decide) ?_
        refine om_iadd O dX9_one_84 ?_
        revert h; refine om_letR (fun σ4o e2o h => ?_)
        refine pf_X9_67 O (Or.inl rfl) ka0 (om_lt ka0 (by decide)) dX9_one_85 e2o ?_
        refine om_iinc O (v1 := (v3 + 1)) (lv' := [(0, vR (some a0)), (2, vI x1o), (3, vI (v3 + 1))]) 2 [1, 2, 0] rfl dX9_one_88 rfl rfl (by decide) rfl ?_
        refine om_goto O (tgt := 46) dX9_one_91 (by decide) ?_
        exact ih _ _ _ _ ka0 h
def fo_X9_one (rc_whole : Nat → om_S → Option (Int32 × om_S)) (rc_both : Nat → om_S → Option (Int32 × om_S)) (rc_compared : Nat → om_S → Option (Int32 × om_S)) (rc_sum : Nat → om_S → Option (Int32 × om_S)) (rc_product : Nat → om_S → Option (Int32 × om_S)) (rc_one : Nat → om_S → Option (Int32 × om_S)) (a0 : Nat) (σ : om_S) : Option (Int32 × om_S) := if om_kc a0 = 9 then om_call (f_X9_look a0 σ) fun (r1o : Int32) (σ1o : om_S) => om_call (f_X9_isName a0 r1o σ1o) fun (r2o : Int32) (σ2o : om_S) => if r2o = 0 then (om_call (f_X9_in r1o (48 : Int32) (57 : Int32) σ2o) fun (r3o : Int32) (σ3o : om_S) => if r3o = 0 then (if r1o = (33 : Int32) then (om_call (f_X9_opens a0 σ3o) fun (r4o : Int32) (σ4o : om_S) => if r4o = 0 then (some ((0 : Int32), σ4o)) else (om_call (rc_one a0 σ4o) fun (r5o : Int32) (σ5o : om_S) => if r5o = 0 then (some ((0 : Int32), σ5o)) else (om_let (om_w σ5o a0 7 ((σ5o a0 7) - (1 : Int32))) fun (σ6o : om_S) => om_do (f_X9_step1 a0 (2 : Int32) (0 : Int32) σ6o) fun (σ7o : om_S) => some ((1 : Int32), σ7o)))) else (if r1o = (40 : Int32) then (om_call (f_X9_opens a0 σ3o) fun (r6o : Int32) (σ8o : om_S) => if r6o = 0 then (some ((0 : Int32), σ8o)) else (om_call (rc_whole a0 σ8o) fun (r7o : Int32) (σ9o : om_S) => if r7o = 0 then (some ((0 : Int32), σ9o)) else (om_call (f_X9_look a0 σ9o) fun (r8o : Int32) (σ10o : om_S) => if r8o = (41 : Int32) then (om_let (om_w σ10o a0 6 ((σ10o a0 6) + (1 : Int32))) fun (σ11o : om_S) => om_let (om_w σ11o a0 7 ((σ11o a0 7) - (1 : Int32))) fun (σ12o : om_S) => some ((1 : Int32), σ12o)) else (some ((0 : Int32), σ10o))))) else (some ((0 : Int32), σ3o)))) else (f_X9_one_b46 rc_whole rc_both rc_compared rc_sum rc_product rc_one om_F a0 (0 : Int32) (0 : Int32) σ3o)) else (om_let (om_w σ2o a0 6 ((σ2o a0 6) + (1 : Int32))) fun (σ13o : om_S) => om_do (f_X9_step1 a0 (1 : Int32) r1o σ13o) fun (σ14o : om_S) => some ((1 : Int32), σ14o)) else none
set_option maxRecDepth 100000 in
theorem co_X9_one {rc_whole : Nat → om_S → Option (Int32 × om_S)} {rc_both : Nat → om_S → Option (Int32 × om_S)} {rc_compared : Nat → om_S → Option (Int32 × om_S)} {rc_sum : Nat → om_S → Option (Int32 × om_S)} {rc_product : Nat → om_S → Option (Int32 × om_S)} {rc_one : Nat → om_S → Option (Int32 × om_S)} {kd : Nat} (hkd : 1 ≤ kd) (H_whole : ∀ (a0 : Nat) (σ : om_S) (r : Int32) (τ : om_S), rc_whole a0 σ = some (r, τ) → ∀ (l : Launch) (G : om_G), om_D l G kd yX9_whole cX9_whole 1 (some FieldType.boolean) 0 0 [vR (some a0)] σ om_rf om_N (some (vI r)) τ om_rf om_N) (H_both : ∀ (a0 : Nat) (σ : om_S) (r : Int32) (τ : om_S), rc_both a0 σ = some (r, τ) → ∀ (l : Launch) (G : om_G), om_D l G kd yX9_both cX9_both 1 (some FieldType.boolean) 0 0 [vR (some a0)] σ om_rf om_N (some (vI r)) τ om_rf om_N) (H_compared : ∀ (a0 : Nat) (σ : om_S) (r : Int32) (τ : om_S), rc_compared a0 σ = some (r, τ) → ∀ (l : Launch) (G : om_G), om_D l G kd yX9_compared cX9_compared 2 (some FieldType.boolean) 0 0 [vR (some a0)] σ om_rf om_N (some (vI r)) τ om_rf om_N) (H_sum : ∀ (a0 : Nat) (σ : om_S) (r : Int32) (τ : om_S), rc_sum a0 σ = some (r, τ) → ∀ (l : Launch) (G : om_G), om_D l G kd yX9_sum cX9_sum 2 (some FieldType.boolean) 0 0 [vR (some a0)] σ om_rf om_N (some (vI r)) τ om_rf om_N) (H_product : ∀ (a0 : Nat) (σ : om_S) (r : Int32) (τ : om_S), rc_product a0 σ = some (r, τ) → ∀ (l : Launch) (G : om_G), om_D l G kd yX9_product cX9_product 2 (some FieldType.boolean) 0 0 [vR (some a0)] σ om_rf om_N (some (vI r)) τ om_rf om_N) (H_one : ∀ (a0 : Nat) (σ : om_S) (r : Int32) (τ : om_S), rc_one a0 σ = some (r, τ) → ∀ (l : Launch) (G : om_G), om_D l G kd yX9_one cX9_one 4 (some FieldType.boolean) 0 0 [vR (some a0)] σ om_rf om_N (some (vI r)) τ om_rf om_N) (l : Launch) (G : om_G) {a0 : Nat} {σ : om_S} {r : Int32} {τ : om_S} (h : fo_X9_one rc_whole rc_both rc_compared rc_sum rc_product rc_one a0 σ = some (r, τ)) : om_D l G (kd + 1) yX9_one cX9_one 4 (some FieldType.boolean) 0 0 [vR (some a0)] σ om_rf om_N (some (vI r)) τ om_rf om_N := by
  refine om_Dof (lv := [(0, vR (some a0))]) (by decide) rfl_le rfl (fun x O hE => ?_)
  change om_Ok x RX9 "one" cX9_one 4 (some FieldType.boolean) (kd + 1) 0 0 at O
  unfold fo_X9_one at h
  revert h; refine om_iteR (fun ka0 h => ?_)
  refine om_aload_n O 0 dX9_one_0 rfl rfl ?_
  revert h; refine om_callR (fun r1o σ1o g1o h => ?_)
  refine cl_X9_80 O (st := []) (stk := [vR (some a0)]) (st2 := [vI r1o]) [] (fun l G => c_X9_look l G g1o) ka0 (om_lt ka0 (by decide)) (by omega) rfl rfl rfl_le rfl rfl_le rfl_le dX9_one_1 ?_
  refine om_istore_n O (lv' := [(0, vR (some a0)), (1, vI r1o)]) [1, 0] rfl dX9_one_4 rfl (by decide) rfl ?_
  refine om_aload_n O 0 dX9_one_5 rfl rfl ?_
  refine om_iload_n O 1 dX9_one_6 rfl rfl ?_
  revert h; refine om_callR (fun r2o σ2o g2o h => ?_)
  refine cl_X9_103 O (st := []) (stk := [vI r1o, vR (some a0)]) (st2 := [vI r2o]) [vI r1o] (fun l G => c_X9_isName l G g2o) ka0 (om_lt ka0 (by decide)) (by omega) rfl rfl rfl_le rfl rfl_le rfl_le dX9_one_7 ?_
  refine om_if_eq O (tgt := 31) dX9_one_10 (by decide) (fun c1o => ?_) (fun c1o => ?_)
  · replace h := (if_pos c1o).symm.trans h
    refine om_iload_n O 1 dX9_one_31 rfl rfl ?_
    refine om_bipush O (v := 48) dX9_one_32 (by decide) ?_
    refine om_bipush O (v := 57) dX9_one_34 (by decide) ?_
    revert h; refine om_callR (fun r3o σ3o g3o h => ?_)
    refine cl_X9_57 O (st := []) (stk := [vI (57 : Int32), vI (48 : Int32), vI r1o]) (st2 := [vI r3o]) [vI r1o, vI (48 : Int32), vI (57 : Int32)] (fun l G => c_X9_in l G g3o) (by omega) rfl rfl rfl_le rfl rfl_le rfl_le dX9_one_36 ?_
    refine om_if_eq O (tgt := 102) dX9_one_39 (by decide) (fun c2o => ?_) (fun c2o => ?_)
    · replace h := (if_pos c2o).symm.trans h
      refine om_iload_n O 1 dX9_one_102 rfl rfl ?_
      refine om_bipush O (v := 33) dX9_one_103 (by decide) ?_
      refine om_icmp_ne O (tgt := 142) dX9_one_105 (by decide) (fun c3o => ?_) (fun c3o => ?_)
      · replace h := (if_pos c3o).symm.trans h
        refine om_aload_n O 0 dX9_one_108 rfl rfl ?_
        revert h; refine om_callR (fun r4o σ4o g4o h => ?_)
        refine cl_X9_107 O (st := []) (stk := [vR (some a0)]) (st2 := [vI r4o]) [] (fun l G => c_X9_opens l G g4o) ka0 (om_lt ka0 (by decide)) (by omega) rfl rfl rfl_le rfl rfl_le rfl_le dX9_one_109 ?_
        refine om_if_eq O (tgt := 122) dX9_one_112 (by decide) (fun c4o => ?_) (fun c4o => ?_)
        · replace h := (if_pos c4o).symm.trans h
          refine om_iconst O (v := 0) dX9_one_122 (by decide) ?_
          exact om_zret (st := []) O (Or.inl rfl) (om_eI hE h) rfl dX9_one_123
        · replace h := (if_neg c4o).symm.trans h
          refine om_aload_n O 0 dX9_one_115 rfl rfl ?_
          revert h; refine om_callR (fun r5o σ5o g5o h => ?_)
          refine cl_X9_97 O (st := []) (stk := [vR (some a0)]) (st2 := [vI r5o]) [] (H_one _ _ _ _ g5o) ka0 (om_lt ka0 (by decide)) (Nat.le_refl _) rfl rfl rfl_le rfl rfl_le rfl_le dX9_one_116 ?_
          refine om_if_ne O (tgt := 124) dX9_one_119 (by decide) (fun c5o => ?_) (fun c5o => ?_)
          · replace h := (if_pos c5o).symm.trans h
            refine om_iconst O (v := 0) dX9_one_122 (by decide) ?_
            exact om_zret (st := []) O (Or.inl rfl) (om_eI hE h) rfl dX9_one_123
          · replace h := (if_neg c5o).symm.trans h
            refine om_aload_n O 0 dX9_one_124 rfl rfl ?_
            refine om_dup O rfl dX9_one_125 ?_
            refine gf_X9_100 O ka0 (om_lt ka0 (by decide)) dX9_one_126 ?_
            refine om_iconst O (v := 1) dX9_one_129 (by decide) ?_
            refine om_isub O dX9_one_130 ?_
            revert h; refine om_letR (fun σ6o e1o h => ?_)
            refine pf_X9_100 O (Or.inl rfl) ka0 (om_lt ka0 (by decide)) dX9_one_131 e1o ?_
            refine om_aload_n O 0 dX9_one_134 rfl rfl ?_
            refine om_iconst O (v := 2) dX9_one_135 (by decide) ?_
            refine om_iconst O (v := 0) dX9_one_136 (by decide) ?_
            revert h; refine om_doR (fun σ7o g6o h => ?_)
            refine cl_X9_84 O (st := []) (stk := [vI (0 : Int32), vI (2 : Int32), vR (some a0)]) (st2 := []) [vI (2 : Int32), vI (0 : Int32)] (fun l G => c_X9_step1 l G g6o) ka0 (om_lt ka0 (by decide)) (by omega) rfl rfl rfl_le rfl rfl_le rfl_le dX9_one_137 ?_
            refine om_iconst O (v := 1) dX9_one_140 (by decide) ?_
            exact om_zret (st := []) O (Or.inr rfl) (om_eI hE h) rfl dX9_one_141
      · replace h := (if_neg c3o).symm.trans h
        refine om_iload_n O 1 dX9_one_142 rfl rfl ?_
        refine om_bipush O (v := 40) dX9_one_143 (by decide) ?_
        refine om_icmp_ne O (tgt := 171) dX9_one_145 (by decide) (fun c6o => ?_) (fun c6o => ?_)
        · replace h := (if_pos c6o).symm.trans h
          refine om_aload_n O 0 dX9_one_148 rfl rfl ?_
          revert h; refine om_callR (fun r6o σ8o g7o h => ?_)
          refine cl_X9_107 O (st := []) (stk := [vR (some a0)]) (st2 := [vI r6o]) [] (fun l G => c_X9_opens l G g7o) ka0 (om_lt ka0 (by decide)) (by omega) rfl rfl rfl_le rfl rfl_le rfl_le dX9_one_149 ?_
          refine om_if_eq O (tgt := 171) dX9_one_152 (by decide) (fun c7o => ?_) (fun c7o => ?_)
          · replace h := (if_pos c7o).symm.trans h
            refine om_iconst O (v := 0) dX9_one_171 (by decide) ?_
            exact om_zret (st := []) O (Or.inl rfl) (om_eI hE h) rfl dX9_one_172
          · replace h := (if_neg c7o).symm.trans h
            refine om_aload_n O 0 dX9_one_155 rfl rfl ?_
            revert h; refine om_callR (fun r7o σ9o g8o h => ?_)
            refine cl_X9_110 O (st := []) (stk := [vR (some a0)]) (st2 := [vI r7o]) [] (H_whole _ _ _ _ g8o) ka0 (om_lt ka0 (by decide)) (Nat.le_refl _) rfl rfl rfl_le rfl rfl_le rfl_le dX9_one_156 ?_
            refine om_if_eq O (tgt := 171) dX9_one_159 (by decide) (fun c8o => ?_) (fun c8o => ?_)
            · replace h := (if_pos c8o).symm.trans h
              refine om_iconst O (v := 0) dX9_one_171 (by decide) ?_
              exact om_zret (st := []) O (Or.inl rfl) (om_eI hE h) rfl dX9_one_172
            · replace h := (if_neg c8o).symm.trans h
              refine om_aload_n O 0 dX9_one_162 rfl rfl ?_
              revert h; refine om_callR (fun r8o σ10o g9o h => ?_)
              refine cl_X9_80 O (st := []) (stk := [vR (some a0)]) (st2 := [vI r8o]) [] (fun l G => c_X9_look l G g9o) ka0 (om_lt ka0 (by decide)) (by omega) rfl rfl rfl_le rfl rfl_le rfl_le dX9_one_163 ?_
              refine om_bipush O (v := 41) dX9_one_166 (by decide) ?_
              refine om_icmp_eq O (tgt := 173) dX9_one_168 (by decide) (fun c9o => ?_) (fun c9o => ?_)
              · replace h := (if_pos c9o).symm.trans h
                refine om_aload_n O 0 dX9_one_173 rfl rfl ?_
                refine om_dup O rfl dX9_one_174 ?_
                refine gf_X9_67 O ka0 (om_lt ka0 (by decide)) dX9_one_175 ?_
                refine om_iconst O (v := 1) dX9_one_178 (by decide) ?_
                refine om_iadd O dX9_one_179 ?_
                revert h; refine om_letR (fun σ11o e2o h => ?_)
                refine pf_X9_67 O (Or.inl rfl) ka0 (om_lt ka0 (by decide)) dX9_one_180 e2o ?_
                refine om_aload_n O 0 dX9_one_183 rfl rfl ?_
                refine om_dup O rfl dX9_one_184 ?_
                refine gf_X9_100 O ka0 (om_lt ka0 (by decide)) dX9_one_185 ?_
                refine om_iconst O (v := 1) dX9_one_188 (by decide) ?_
                refine om_isub O dX9_one_189 ?_
                revert h; refine om_letR (fun σ12o e3o h => ?_)
                refine pf_X9_100 O (Or.inl rfl) ka0 (om_lt ka0 (by decide)) dX9_one_190 e3o ?_
                refine om_iconst O (v := 1) dX9_one_193 (by decide) ?_
                exact om_zret (st := []) O (Or.inr rfl) (om_eI hE h) rfl dX9_one_194
              · replace h := (if_neg c9o).symm.trans h
                refine om_iconst O (v := 0) dX9_one_171 (by decide) ?_
                exact om_zret (st := []) O (Or.inl rfl) (om_eI hE h) rfl dX9_one_172
        · replace h := (if_neg c6o).symm.trans h
          refine om_iconst O (v := 0) dX9_one_171 (by decide) ?_
          exact om_zret (st := []) O (Or.inl rfl) (om_eI hE h) rfl dX9_one_172
    · replace h := (if_neg c2o).symm.trans h
      refine om_iconst O (v := 0) dX9_one_42 (by decide) ?_
      refine om_istore_n O (lv' := [(0, vR (some a0)), (2, vI (0 : Int32))]) [1, 0] rfl dX9_one_43 rfl (by decide) rfl ?_
      refine om_iconst O (v := 0) dX9_one_44 (by decide) ?_
      refine om_istore_n O (lv' := [(0, vR (some a0)), (2, vI (0 : Int32)), (3, vI (0 : Int32))]) [1, 2, 0] rfl dX9_one_45 rfl (by decide) rfl ?_
      exact g_X9_one_b46 O hkd H_whole H_both H_compared H_sum H_product H_one hE om_F _ _ _ _ ka0 h
  · replace h := (if_neg c1o).symm.trans h
    refine om_aload_n O 0 dX9_one_13 rfl rfl ?_
    refine om_dup O rfl dX9_one_14 ?_
    refine gf_X9_67 O ka0 (om_lt ka0 (by decide)) dX9_one_15 ?_
    refine om_iconst O (v := 1) dX9_one_18 (by decide) ?_
    refine om_iadd O dX9_one_19 ?_
    revert h; refine om_letR (fun σ13o e4o h => ?_)
    refine pf_X9_67 O (Or.inl rfl) ka0 (om_lt ka0 (by decide)) dX9_one_20 e4o ?_
    refine om_aload_n O 0 dX9_one_23 rfl rfl ?_
    refine om_iconst O (v := 1) dX9_one_24 (by decide) ?_
    refine om_iload_n O 1 dX9_one_25 rfl rfl ?_
    revert h; refine om_doR (fun σ14o g10o h => ?_)
    refine cl_X9_84 O (st := []) (stk := [vI r1o, vI (1 : Int32), vR (some a0)]) (st2 := []) [vI (1 : Int32), vI r1o] (fun l G => c_X9_step1 l G g10o) ka0 (om_lt ka0 (by decide)) (by omega) rfl rfl rfl_le rfl rfl_le rfl_le dX9_one_26 ?_
    refine om_iconst O (v := 1) dX9_one_29 (by decide) ?_
    exact om_zret (st := []) O (Or.inr rfl) (om_eI hE h) rfl dX9_one_30
def grp_X9_whole : Nat → (Nat → om_S → Option (Int32 × om_S)) × (Nat → om_S → Option (Int32 × om_S)) × (Nat → om_S → Option (Int32 × om_S)) × (Nat → om_S → Option (Int32 × om_S)) × (Nat → om_S → Option (Int32 × om_S)) × (Nat → om_S → Option (Int32 × om_S))
  | 0 => (fun _ _ => none, fun _ _ => none, fun _ _ => none, fun _ _ => none, fun _ _ => none, fun _ _ => none)
  | d + 1 => (fo_X9_whole (grp_X9_whole d).1 (grp_X9_whole d).2.1 (grp_X9_whole d).2.2.1 (grp_X9_whole d).2.2.2.1 (grp_X9_whole d).2.2.2.2.1 (grp_X9_whole d).2.2.2.2.2, fo_X9_both (grp_X9_whole d).1 (grp_X9_whole d).2.1 (grp_X9_whole d).2.2.1 (grp_X9_whole d).2.2.2.1 (grp_X9_whole d).2.2.2.2.1 (grp_X9_whole d).2.2.2.2.2, fo_X9_compared (grp_X9_whole d).1 (grp_X9_whole d).2.1 (grp_X9_whole d).2.2.1 (grp_X9_whole d).2.2.2.1 (grp_X9_whole d).2.2.2.2.1 (grp_X9_whole d).2.2.2.2.2, fo_X9_sum (grp_X9_whole d).1 (grp_X9_whole d).2.1 (grp_X9_whole d).2.2.1 (grp_X9_whole d).2.2.2.1 (grp_X9_whole d).2.2.2.2.1 (grp_X9_whole d).2.2.2.2.2, fo_X9_product (grp_X9_whole d).1 (grp_X9_whole d).2.1 (grp_X9_whole d).2.2.1 (grp_X9_whole d).2.2.2.1 (grp_X9_whole d).2.2.2.2.1 (grp_X9_whole d).2.2.2.2.2, fo_X9_one (grp_X9_whole d).1 (grp_X9_whole d).2.1 (grp_X9_whole d).2.2.1 (grp_X9_whole d).2.2.2.1 (grp_X9_whole d).2.2.2.2.1 (grp_X9_whole d).2.2.2.2.2)
def f_X9_whole : Nat → om_S → Option (Int32 × om_S) := (grp_X9_whole 60).1
def f_X9_both : Nat → om_S → Option (Int32 × om_S) := (grp_X9_whole 60).2.1
def f_X9_compared : Nat → om_S → Option (Int32 × om_S) := (grp_X9_whole 60).2.2.1
def f_X9_sum : Nat → om_S → Option (Int32 × om_S) := (grp_X9_whole 60).2.2.2.1
def f_X9_product : Nat → om_S → Option (Int32 × om_S) := (grp_X9_whole 60).2.2.2.2.1
def f_X9_one : Nat → om_S → Option (Int32 × om_S) := (grp_X9_whole 60).2.2.2.2.2
set_option maxRecDepth 100000 in
theorem cg_X9_whole : ∀ d : Nat, (∀ (a0 : Nat) (σ : om_S) (r : Int32) (τ : om_S), (grp_X9_whole d).1 a0 σ = some (r, τ) → ∀ (l : Launch) (G : om_G), om_D l G (1 + d) yX9_whole cX9_whole 1 (some FieldType.boolean) 0 0 [vR (some a0)] σ om_rf om_N (some (vI r)) τ om_rf om_N) ∧ (∀ (a0 : Nat) (σ : om_S) (r : Int32) (τ : om_S), (grp_X9_whole d).2.1 a0 σ = some (r, τ) → ∀ (l : Launch) (G : om_G), om_D l G (1 + d) yX9_both cX9_both 1 (some FieldType.boolean) 0 0 [vR (some a0)] σ om_rf om_N (some (vI r)) τ om_rf om_N) ∧ (∀ (a0 : Nat) (σ : om_S) (r : Int32) (τ : om_S), (grp_X9_whole d).2.2.1 a0 σ = some (r, τ) → ∀ (l : Launch) (G : om_G), om_D l G (1 + d) yX9_compared cX9_compared 2 (some FieldType.boolean) 0 0 [vR (some a0)] σ om_rf om_N (some (vI r)) τ om_rf om_N) ∧ (∀ (a0 : Nat) (σ : om_S) (r : Int32) (τ : om_S), (grp_X9_whole d).2.2.2.1 a0 σ = some (r, τ) → ∀ (l : Launch) (G : om_G), om_D l G (1 + d) yX9_sum cX9_sum 2 (some FieldType.boolean) 0 0 [vR (some a0)] σ om_rf om_N (some (vI r)) τ om_rf om_N) ∧ (∀ (a0 : Nat) (σ : om_S) (r : Int32) (τ : om_S), (grp_X9_whole d).2.2.2.2.1 a0 σ = some (r, τ) → ∀ (l : Launch) (G : om_G), om_D l G (1 + d) yX9_product cX9_product 2 (some FieldType.boolean) 0 0 [vR (some a0)] σ om_rf om_N (some (vI r)) τ om_rf om_N) ∧ (∀ (a0 : Nat) (σ : om_S) (r : Int32) (τ : om_S), (grp_X9_whole d).2.2.2.2.2 a0 σ = some (r, τ) → ∀ (l : Launch) (G : om_G), om_D l G (1 + d) yX9_one cX9_one 4 (some FieldType.boolean) 0 0 [vR (some a0)] σ om_rf om_N (some (vI r)) τ om_rf om_N) := by
  intro d
  induction d with
  | zero => exact ⟨fun _ _ _ _ h => absurd (show none = some _ from h) (by intro hh; cases hh), fun _ _ _ _ h => absurd (show none = some _ from h) (by intro hh; cases hh), fun _ _ _ _ h => absurd (show none = some _ from h) (by intro hh; cases hh), fun _ _ _ _ h => absurd (show none = some _ from h) (by intro hh; cases hh), fun _ _ _ _ h => absurd (show none = some _ from h) (by intro hh; cases hh), fun _ _ _ _ h => absurd (show none = some _ from h) (by intro hh; cases hh)⟩
  | succ d ih => exact ⟨fun _ _ _ _ h l G => co_X9_whole (kd := 1 + d) (by omega) ih.1 ih.2.1 ih.2.2.1 ih.2.2.2.1 ih.2.2.2.2.1 ih.2.2.2.2.2 l G h, fun _ _ _ _ h l G => co_X9_both (kd := 1 + d) (by omega) ih.1 ih.2.1 ih.2.2.1 ih.2.2.2.1 ih.2.2.2.2.1 ih.2.2.2.2.2 l G h, fun _ _ _ _ h l G => co_X9_compared (kd := 1 + d) (by omega) ih.1 ih.2.1 ih.2.2.1 ih.2.2.2.1 ih.2.2.2.2.1 ih.2.2.2.2.2 l G h, fun _ _ _ _ h l G => co_X9_sum (kd := 1 + d) (by omega) ih.1 ih.2.1 ih.2.2.1 ih.2.2.2.1 ih.2.2.2.2.1 ih.2.2.2.2.2 l G h, fun _ _ _ _ h l G => co_X9_product (kd := 1 + d) (by omega) ih.1 ih.2.1 ih.2.2.1 ih.2.2.2.1 ih.2.2.2.2.1 ih.2.2.2.2.2 l G h, fun _ _ _ _ h l G => co_X9_one (kd := 1 + d) (by omega) ih.1 ih.2.1 ih.2.2.1 ih.2.2.2.1 ih.2.2.2.2.1 ih.2.2.2.2.2 l G h⟩
set_option maxRecDepth 100000 in
theorem c_X9_whole (l : Launch) (G : om_G) {a0 : Nat} {σ : om_S} {r : Int32} {τ : om_S} (h : f_X9_whole a0 σ = some (r, τ)) : om_D l G 61 yX9_whole cX9_whole 1 (some FieldType.boolean) 0 0 [vR (some a0)] σ om_rf om_N (some (vI r)) τ om_rf om_N := (cg_X9_whole 60).1 _ _ _ _ h l G
set_option maxRecDepth 100000 in
theorem c_X9_both (l : Launch) (G : om_G) {a0 : Nat} {σ : om_S} {r : Int32} {τ : om_S} (h : f_X9_both a0 σ = some (r, τ)) : om_D l G 61 yX9_both cX9_both 1 (some FieldType.boolean) 0 0 [vR (some a0)] σ om_rf om_N (some (vI r)) τ om_rf om_N := (cg_X9_whole 60).2.1 _ _ _ _ h l G
set_option maxRecDepth 100000 in
theorem c_X9_compared (l : Launch) (G : om_G) {a0 : Nat} {σ : om_S} {r : Int32} {τ : om_S} (h : f_X9_compared a0 σ = some (r, τ)) : om_D l G 61 yX9_compared cX9_compared 2 (some FieldType.boolean) 0 0 [vR (some a0)] σ om_rf om_N (some (vI r)) τ om_rf om_N := (cg_X9_whole 60).2.2.1 _ _ _ _ h l G
set_option maxRecDepth 100000 in
theorem c_X9_sum (l : Launch) (G : om_G) {a0 : Nat} {σ : om_S} {r : Int32} {τ : om_S} (h : f_X9_sum a0 σ = some (r, τ)) : om_D l G 61 yX9_sum cX9_sum 2 (some FieldType.boolean) 0 0 [vR (some a0)] σ om_rf om_N (some (vI r)) τ om_rf om_N := (cg_X9_whole 60).2.2.2.1 _ _ _ _ h l G
set_option maxRecDepth 100000 in
theorem c_X9_product (l : Launch) (G : om_G) {a0 : Nat} {σ : om_S} {r : Int32} {τ : om_S} (h : f_X9_product a0 σ = some (r, τ)) : om_D l G 61 yX9_product cX9_product 2 (some FieldType.boolean) 0 0 [vR (some a0)] σ om_rf om_N (some (vI r)) τ om_rf om_N := (cg_X9_whole 60).2.2.2.2.1 _ _ _ _ h l G
set_option maxRecDepth 100000 in
theorem c_X9_one (l : Launch) (G : om_G) {a0 : Nat} {σ : om_S} {r : Int32} {τ : om_S} (h : f_X9_one a0 σ = some (r, τ)) : om_D l G 61 yX9_one cX9_one 4 (some FieldType.boolean) 0 0 [vR (some a0)] σ om_rf om_N (some (vI r)) τ om_rf om_N := (cg_X9_whole 60).2.2.2.2.2 _ _ _ _ h l G
def f_X9_hasText  (a0 : Nat) (v1 : Int32) (σ : om_S) : Option (Int32 × om_S) := if om_kc a0 = 9 then om_ref (om_rf a0 0) 20 fun (t1o : Nat) => if om_in ((53 : Int32) + ((125 : Int32) * v1)) (om_al t1o) then if (σ t1o ((53 : Int32) + ((125 : Int32) * v1)).toNatClampNeg) ≤ 0 then (some ((0 : Int32), σ)) else (some ((1 : Int32), σ)) else none else none
set_option maxRecDepth 100000 in
theorem c_X9_hasText (l : Launch) (G : om_G) {a0 : Nat} {v1 : Int32} {σ : om_S} {r : Int32} {τ : om_S} (h : f_X9_hasText a0 v1 σ = some (r, τ)) : om_D l G 0 yX9_hasText cX9_hasText 2 (some FieldType.boolean) 0 0 [vR (some a0), vI v1] σ om_rf om_N (some (vI r)) τ om_rf om_N := by
  refine om_Dof (lv := [(0, vR (some a0)), (1, vI v1)]) (by decide) rfl_le rfl (fun x O hE => ?_)
  change om_Ok x RX9 "hasText" cX9_hasText 2 (some FieldType.boolean) 0 0 0 at O
  unfold f_X9_hasText at h
  revert h; refine om_iteR (fun ka0 h => ?_)
  refine om_aload_n O 0 dX9_hasText_0 rfl rfl ?_
  revert h; refine om_refR (fun t1o y1o k1o h => ?_)
  refine gf_X9_7 O ka0 (om_lt ka0 (by decide)) dX9_hasText_1 ?_
  rw [y1o]
  refine om_bipush O (v := 53) dX9_hasText_4 (by decide) ?_
  refine om_bipush O (v := 125) dX9_hasText_6 (by decide) ?_
  refine om_iload_n O 1 dX9_hasText_8 rfl rfl ?_
  refine om_imul O dX9_hasText_9 ?_
  refine om_iadd O dX9_hasText_10 ?_
  revert h; refine om_iteR (fun i1o h => ?_)
  refine om_iald O k1o (om_lt k1o (by decide)) i1o dX9_hasText_11 ?_
  refine om_if_le O (tgt := 19) dX9_hasText_12 (by decide) (fun c1o => ?_) (fun c1o => ?_)
  · replace h := (if_pos c1o).symm.trans h
    refine om_iconst O (v := 0) dX9_hasText_19 (by decide) ?_
    exact om_zret (st := []) O (Or.inl rfl) (om_eI hE h) rfl dX9_hasText_20
  · replace h := (if_neg c1o).symm.trans h
    refine om_iconst O (v := 1) dX9_hasText_15 (by decide) ?_
    refine om_goto O (tgt := 20) dX9_hasText_16 (by decide) ?_
    exact om_zret (st := []) O (Or.inr rfl) (om_eI hE h) rfl dX9_hasText_20
def f_X9_text_b101  : Nat → Nat → Int32 → Int32 → om_S → Option (Int32 × om_S)
  | 0, _, _, _, _ => none
  | F + 1, a0, v3, v4, σ => if ((2 : Int32) * (σ a0 8)) ≤ v4 then (some ((1 : Int32), σ)) else (om_ref (om_rf a0 0) 20 fun (t1o : Nat) => om_ref (om_rf a0 10) 20 fun (t2o : Nat) => if om_in v4 (om_al t2o) then if om_in ((v3 + (1 : Int32)) + v4) (om_al t1o) then om_let (om_w σ t1o ((v3 + (1 : Int32)) + v4).toNatClampNeg (σ t2o v4.toNatClampNeg)) fun (σ1o : om_S) => (f_X9_text_b101 F) a0 v3 (v4 + 1) σ1o else none else none)
set_option maxRecDepth 100000 in
theorem g_X9_text_b101 {x : om_X}   (O : om_Ok x RX9 "text" cX9_text 5 (some FieldType.int) 62 0 0)   {r : Int32} {τ : om_S} (hE : om_End x (some (vI r)) τ om_rf om_N 0 0)   : ∀ (F : Nat) (a0 : Nat) (v3 : Int32) (v4 : Int32) (σ : om_S) (ka0 : om_kc a0 = 9), f_X9_text_b101 F a0 v3 v4 σ = some (r, τ) → om_J x 101 [(0, vR (some a0)), (3, vI v3), (4, vI v4)] [] σ om_rf om_N 0 0 := by
  intro F
  induction F with
  | zero =>
    intro a0 v3 v4 σ ka0 h
    cases h
  | succ F ih =>
    intro a0 v3 v4 σ ka0 h
    unfold f_X9_text_b101 at h
    refine om_iload O 2 dX9_text_101 rfl ?_
    refine om_iconst O (v := 2) dX9_text_103 (by decide) ?_
    refine om_aload_n O 0 dX9_text_104 rfl rfl ?_
    refine gf_X9_73 O ka0 (om_lt ka0 (by decide)) dX9_text_105 ?_
    refine om_imul O dX9_text_108 ?_
    refine om_icmp_ge O (tgt := 136) dX9_text_109 (by decide) (fun c1o => ?_) (fun c1o => ?_)
    · replace h := (if_pos c1o).symm.trans h
      refine om_iconst O (v := 1) dX9_text_136 (by decide) ?_
      exact om_iret (st := []) O (om_eI hE h) rfl dX9_text_137
    · replace h := (if_neg c1o).symm.trans h
      refine om_aload_n O 0 dX9_text_112 rfl rfl ?_
      revert h; refine om_refR (fun t1o y1o k1o h => ?_)
      refine gf_X9_7 O ka0 (om_lt ka0 (by decide)) dX9_text_113 ?_
      rw [y1o]
      refine om_iload_n O 1 dX9_text_116 rfl rfl ?_
      refine om_iconst O (v := 1) dX9_text_117 (by decide) ?_
      refine om_iadd O dX9_text_118 ?_
      refine om_iload O 2 dX9_text_119 rfl ?_
      refine om_iadd O dX9_text_121 ?_
      refine om_aload_n O 0 dX9_text_122 rfl rfl ?_
      revert h; refine om_refR (fun t2o y2o k2o h => ?_)
      refine gf_X9_26 O ka0 (om_lt ka0 (by decide)) dX9_text_123 ?_
      rw [y2o]
      refine om_iload O 2 dX9_text_126 rfl ?_
      revert h; refine om_iteR (fun i1o h => ?_)
      refine om_iald O k2o (om_lt k2o (by decide)) i1o dX9_text_128 ?_
      revert h; refine om_iteR (fun i2o h => ?_)
      revert h; refine om_letR (fun σ1o e1o h => ?_)
      refine om_iast O k1o (om_lt k1o (by decide)) i2o dX9_text_129 e1o ?_
      refine om_iinc O (v1 := (v4 + 1)) (lv' := [(0, vR (some a0)), (3, vI v3), (4, vI (v4 + 1))]) 2 [1, 2, 0] rfl dX9_text_130 rfl rfl (by decide) rfl ?_
      refine om_goto O (tgt := 101) dX9_text_133 (by decide) ?_
      exact ih _ _ _ _ ka0 h
def f_X9_text_b60  (a0 : Nat) (v1 : Int32) (s0 : Int32) (σ : om_S) : Option (Int32 × om_S) := om_ref (om_rf a0 0) 20 fun (t1o : Nat) => if om_in (4 : Int32) (om_al t1o) then om_let (om_w σ t1o (4 : Int32).toNatClampNeg (0 : Int32)) fun (σ1o : om_S) => if s0 = 0 then (some (((-10 : Int32) - (σ1o a0 6)), σ1o)) else (om_let ((53 : Int32) + ((125 : Int32) * v1)) fun (x1o : Int32) => om_ref (om_rf a0 0) 20 fun (t2o : Nat) => if om_in x1o (om_al t2o) then om_let (om_w σ1o t2o x1o.toNatClampNeg (σ1o a0 8)) fun (σ2o : om_S) => f_X9_text_b101 om_F a0 x1o (0 : Int32) σ2o else none) else none
set_option maxRecDepth 100000 in
theorem g_X9_text_b60 {x : om_X}   (O : om_Ok x RX9 "text" cX9_text 5 (some FieldType.int) 62 0 0)   {r : Int32} {τ : om_S} (hE : om_End x (some (vI r)) τ om_rf om_N 0 0)   {a0 : Nat} {v1 : Int32} {s0 : Int32} {σ : om_S} (ka0 : om_kc a0 = 9) (h : f_X9_text_b60 a0 v1 s0 σ = some (r, τ)) : om_J x 60 [(0, vR (some a0)), (1, vI v1)] [vI s0] σ om_rf om_N 0 0 := by
  unfold f_X9_text_b60 at h
  refine om_istore_n O (lv' := [(0, vR (some a0)), (1, vI v1), (2, vI s0)]) [1, 2, 0] rfl dX9_text_60 rfl (by decide) rfl ?_
  refine om_aload_n O 0 dX9_text_61 rfl rfl ?_
  revert h; refine om_refR (fun t1o y1o k1o h => ?_)
  refine gf_X9_7 O ka0 (om_lt ka0 (by decide)) dX9_text_62 ?_
  rw [y1o]
  refine om_iconst O (v := 4) dX9_text_65 (by decide) ?_
  refine om_iconst O (v := 0) dX9_text_66 (by decide) ?_
  revert h; refine om_iteR (fun i1o h => ?_)
  revert h; refine om_letR (fun σ1o e1o h => ?_)
  refine om_iast O k1o (om_lt k1o (by decide)) i1o dX9_text_67 e1o ?_
  refine om_iload_n O 2 dX9_text_68 rfl rfl ?_
  refine om_if_ne O (tgt := 80) dX9_text_69 (by decide) (fun c1o => ?_) (fun c1o => ?_)
  · replace h := (if_pos c1o).symm.trans h
    refine om_bipush O (v := -10) dX9_text_72 (by decide) ?_
    refine om_aload_n O 0 dX9_text_74 rfl rfl ?_
    refine gf_X9_67 O ka0 (om_lt ka0 (by decide)) dX9_text_75 ?_
    refine om_isub O dX9_text_78 ?_
    exact om_iret (st := []) O (om_eI hE h) rfl dX9_text_79
  · replace h := (if_neg c1o).symm.trans h
    refine om_bipush O (v := 53) dX9_text_80 (by decide) ?_
    refine om_bipush O (v := 125) dX9_text_82 (by decide) ?_
    refine om_iload_n O 1 dX9_text_84 rfl rfl ?_
    refine om_imul O dX9_text_85 ?_
    refine om_iadd O dX9_text_86 ?_
    revert h; refine om_letR (fun x1o e2o h => ?_)
    refine om_istore_n O (lv' := [(0, vR (some a0)), (3, vI x1o)]) [1, 0] e2o dX9_text_87 rfl (by decide) rfl ?_
    refine om_aload_n O 0 dX9_text_88 rfl rfl ?_
    revert h; refine om_refR (fun t2o y2o k2o h => ?_)
    refine gf_X9_7 O ka0 (om_lt ka0 (by decide)) dX9_text_89 ?_
    rw [y2o]
    refine om_iload_n O 1 dX9_text_92 rfl rfl ?_
    refine om_aload_n O 0 dX9_text_93 rfl rfl ?_
    refine gf_X9_73 O ka0 (om_lt ka0 (by decide)) dX9_text_94 ?_
    revert h; refine om_iteR (fun i2o h => ?_)
    revert h; refine om_letR (fun σ2o e3o h => ?_)
    refine om_iast O k2o (om_lt k2o (by decide)) i2o dX9_text_97 e3o ?_
    refine om_iconst O (v := 0) dX9_text_98 (by decide) ?_
    refine om_istore O (lv' := [(0, vR (some a0)), (3, vI x1o), (4, vI (0 : Int32))]) [1, 2, 0] rfl dX9_text_99 (by decide) rfl ?_
    exact g_X9_text_b101 O hE om_F _ _ _ _ ka0 h
def f_X9_text_b59  (a0 : Nat) (v1 : Int32) (σ : om_S) : Option (Int32 × om_S) := f_X9_text_b60 a0 v1 (0 : Int32) σ
set_option maxRecDepth 100000 in
theorem g_X9_text_b59 {x : om_X}   (O : om_Ok x RX9 "text" cX9_text 5 (some FieldType.int) 62 0 0)   {r : Int32} {τ : om_S} (hE : om_End x (some (vI r)) τ om_rf om_N 0 0)   {a0 : Nat} {v1 : Int32} {σ : om_S} (ka0 : om_kc a0 = 9) (h : f_X9_text_b59 a0 v1 σ = some (r, τ)) : om_J x 59 [(0, vR (some a0)), (1, vI v1)] [] σ om_rf om_N 0 0 := by
  unfold f_X9_text_b59 at h
  refine om_iconst O (v := 0) dX9_text_59 (by decide) ?_
  exact g_X9_text_b60 O hE ka0 h
def f_X9_text  (a0 : Nat) (v1 : Int32) (σ : om_S) : Option (Int32 × om_S) := if om_kc a0 = 9 then om_call (f_X9_in v1 (0 : Int32) (1 : Int32) σ) fun (r1o : Int32) (σ1o : om_S) => if r1o = 0 then (om_call (f_X9_error a0 (1 : Int32) σ1o) fun (r2o : Int32) (σ2o : om_S) => some (r2o, σ2o)) else (om_let (om_w σ1o a0 9 v1) fun (σ3o : om_S) => om_let (om_w σ3o a0 6 (0 : Int32)) fun (σ4o : om_S) => om_let (om_w σ4o a0 7 (0 : Int32)) fun (σ5o : om_S) => om_let (om_w σ5o a0 8 (0 : Int32)) fun (σ6o : om_S) => om_call (f_X9_whole a0 σ6o) fun (r3o : Int32) (σ7o : om_S) => if r3o = 0 then (f_X9_text_b59 a0 v1 σ7o) else (om_ref (om_rf a0 0) 20 fun (t1o : Nat) => if om_in (4 : Int32) (om_al t1o) then if (σ7o a0 6) = (σ7o t1o (4 : Int32).toNatClampNeg) then (f_X9_text_b60 a0 v1 (1 : Int32) σ7o) else (f_X9_text_b59 a0 v1 σ7o) else none)) else none
set_option maxRecDepth 100000 in
theorem c_X9_text (l : Launch) (G : om_G) {a0 : Nat} {v1 : Int32} {σ : om_S} {r : Int32} {τ : om_S} (h : f_X9_text a0 v1 σ = some (r, τ)) : om_D l G 62 yX9_text cX9_text 5 (some FieldType.int) 0 0 [vR (some a0), vI v1] σ om_rf om_N (some (vI r)) τ om_rf om_N := by
  refine om_Dof (lv := [(0, vR (some a0)), (1, vI v1)]) (by decide) rfl_le rfl (fun x O hE => ?_)
  change om_Ok x RX9 "text" cX9_text 5 (some FieldType.int) 62 0 0 at O
  unfold f_X9_text at h
  revert h; refine om_iteR (fun ka0 h => ?_)
  refine om_iload_n O 1 dX9_text_0 rfl rfl ?_
  refine om_iconst O (v := 0) dX9_text_1 (by decide) ?_
  refine om_iconst O (v := 1) dX9_text_2 (by decide) ?_
  revert h; refine om_callR (fun r1o σ1o g1o h => ?_)
  refine cl_X9_57 O (st := []) (stk := [vI (1 : Int32), vI (0 : Int32), vI v1]) (st2 := [vI r1o]) [vI v1, vI (0 : Int32), vI (1 : Int32)] (fun l G => c_X9_in l G g1o) (by decide) rfl rfl rfl_le rfl rfl_le rfl_le dX9_text_3 ?_
  refine om_if_ne O (tgt := 15) dX9_text_6 (by decide) (fun c1o => ?_) (fun c1o => ?_)
  · replace h := (if_pos c1o).symm.trans h
    refine om_aload_n O 0 dX9_text_9 rfl rfl ?_
    refine om_iconst O (v := 1) dX9_text_10 (by decide) ?_
    revert h; refine om_callR (fun r2o σ2o g2o h => ?_)
    refine cl_X9_61 O (st := []) (stk := [vI (1 : Int32), vR (some a0)]) (st2 := [vI r2o]) [vI (1 : Int32)] (fun l G => c_X9_error l G g2o) ka0 (om_lt ka0 (by decide)) (by decide) rfl rfl rfl_le rfl rfl_le rfl_le dX9_text_11 ?_
    exact om_iret (st := []) O (om_eI hE h) rfl dX9_text_14
  · replace h := (if_neg c1o).symm.trans h
    refine om_aload_n O 0 dX9_text_15 rfl rfl ?_
    refine om_iload_n O 1 dX9_text_16 rfl rfl ?_
    revert h; refine om_letR (fun σ3o e1o h => ?_)
    refine pf_X9_70 O (Or.inl rfl) ka0 (om_lt ka0 (by decide)) dX9_text_17 e1o ?_
    refine om_aload_n O 0 dX9_text_20 rfl rfl ?_
    refine om_iconst O (v := 0) dX9_text_21 (by decide) ?_
    revert h; refine om_letR (fun σ4o e2o h => ?_)
    refine pf_X9_67 O (Or.inl rfl) ka0 (om_lt ka0 (by decide)) dX9_text_22 e2o ?_
    refine om_aload_n O 0 dX9_text_25 rfl rfl ?_
    refine om_iconst O (v := 0) dX9_text_26 (by decide) ?_
    revert h; refine om_letR (fun σ5o e3o h => ?_)
    refine pf_X9_100 O (Or.inl rfl) ka0 (om_lt ka0 (by decide)) dX9_text_27 e3o ?_
    refine om_aload_n O 0 dX9_text_30 rfl rfl ?_
    refine om_iconst O (v := 0) dX9_text_31 (by decide) ?_
    revert h; refine om_letR (fun σ6o e4o h => ?_)
    refine pf_X9_73 O (Or.inl rfl) ka0 (om_lt ka0 (by decide)) dX9_text_32 e4o ?_
    refine om_aload_n O 0 dX9_text_35 rfl rfl ?_
    revert h; refine om_callR (fun r3o σ7o g3o h => ?_)
    refine cl_X9_110 O (st := []) (stk := [vR (some a0)]) (st2 := [vI r3o]) [] (fun l G => c_X9_whole l G g3o) ka0 (om_lt ka0 (by decide)) (by decide) rfl rfl rfl_le rfl rfl_le rfl_le dX9_text_36 ?_
    refine om_if_eq O (tgt := 59) dX9_text_39 (by decide) (fun c2o => ?_) (fun c2o => ?_)
    · replace h := (if_pos c2o).symm.trans h
      exact g_X9_text_b59 O hE ka0 h
    · replace h := (if_neg c2o).symm.trans h
      refine om_aload_n O 0 dX9_text_42 rfl rfl ?_
      refine gf_X9_67 O ka0 (om_lt ka0 (by decide)) dX9_text_43 ?_
      refine om_aload_n O 0 dX9_text_46 rfl rfl ?_
      revert h; refine om_refR (fun t1o y1o k1o h => ?_)
      refine gf_X9_7 O ka0 (om_lt ka0 (by decide)) dX9_text_47 ?_
      rw [y1o]
      refine om_iconst O (v := 4) dX9_text_50 (by decide) ?_
      revert h; refine om_iteR (fun i1o h => ?_)
      refine om_iald O k1o (om_lt k1o (by decide)) i1o dX9_text_51 ?_
      refine om_icmp_ne O (tgt := 59) dX9_text_52 (by decide) (fun c3o => ?_) (fun c3o => ?_)
      · replace h := (if_pos c3o).symm.trans h
        refine om_iconst O (v := 1) dX9_text_55 (by decide) ?_
        refine om_goto O (tgt := 60) dX9_text_56 (by decide) ?_
        exact g_X9_text_b60 O hE ka0 h
      · replace h := (if_neg c3o).symm.trans h
        exact g_X9_text_b59 O hE ka0 h
def f_X9_untell_b28  (a0 : Nat) (v1 : Int32) (s0 : Int32) (σ : om_S) : Option (Int32 × om_S) := om_ref (om_rf a0 0) 20 fun (t1o : Nat) => if om_in ((53 : Int32) + ((125 : Int32) * v1)) (om_al t1o) then om_let (om_w σ t1o ((53 : Int32) + ((125 : Int32) * v1)).toNatClampNeg (0 : Int32)) fun (σ1o : om_S) => some (s0, σ1o) else none
set_option maxRecDepth 100000 in
theorem g_X9_untell_b28 {x : om_X}   (O : om_Ok x RX9 "untell" cX9_untell 3 (some FieldType.int) 1 0 0)   {r : Int32} {τ : om_S} (hE : om_End x (some (vI r)) τ om_rf om_N 0 0)   {a0 : Nat} {v1 : Int32} {s0 : Int32} {σ : om_S} (ka0 : om_kc a0 = 9) (h : f_X9_untell_b28 a0 v1 s0 σ = some (r, τ)) : om_J x 28 [(0, vR (some a0)), (1, vI v1)] [vI s0] σ om_rf om_N 0 0 := by
  unfold f_X9_untell_b28 at h
  refine om_istore_n O (lv' := [(0, vR (some a0)), (1, vI v1), (2, vI s0)]) [1, 2, 0] rfl dX9_untell_28 rfl (by decide) rfl ?_
  refine om_aload_n O 0 dX9_untell_29 rfl rfl ?_
  revert h; refine om_refR (fun t1o y1o k1o h => ?_)
  refine gf_X9_7 O ka0 (om_lt ka0 (by decide)) dX9_untell_30 ?_
  rw [y1o]
  refine om_bipush O (v := 53) dX9_untell_33 (by decide) ?_
  refine om_bipush O (v := 125) dX9_untell_35 (by decide) ?_
  refine om_iload_n O 1 dX9_untell_37 rfl rfl ?_
  refine om_imul O dX9_untell_38 ?_
  refine om_iadd O dX9_untell_39 ?_
  refine om_iconst O (v := 0) dX9_untell_40 (by decide) ?_
  revert h; refine om_iteR (fun i1o h => ?_)
  revert h; refine om_letR (fun σ1o e1o h => ?_)
  refine om_iast O k1o (om_lt k1o (by decide)) i1o dX9_untell_41 e1o ?_
  refine om_iload_n O 2 dX9_untell_42 rfl rfl ?_
  exact om_iret (st := []) O (om_eI hE h) rfl dX9_untell_43
def f_X9_untell  (a0 : Nat) (v1 : Int32) (σ : om_S) : Option (Int32 × om_S) := if om_kc a0 = 9 then om_call (f_X9_in v1 (0 : Int32) (1 : Int32) σ) fun (r1o : Int32) (σ1o : om_S) => if r1o = 0 then (om_call (f_X9_error a0 (1 : Int32) σ1o) fun (r2o : Int32) (σ2o : om_S) => some (r2o, σ2o)) else (om_call (f_X9_hasText a0 v1 σ1o) fun (r3o : Int32) (σ3o : om_S) => if r3o = 0 then (f_X9_untell_b28 a0 v1 (0 : Int32) σ3o) else (f_X9_untell_b28 a0 v1 (1 : Int32) σ3o)) else none
set_option maxRecDepth 100000 in
theorem c_X9_untell (l : Launch) (G : om_G) {a0 : Nat} {v1 : Int32} {σ : om_S} {r : Int32} {τ : om_S} (h : f_X9_untell a0 v1 σ = some (r, τ)) : om_D l G 1 yX9_untell cX9_untell 3 (some FieldType.int) 0 0 [vR (some a0), vI v1] σ om_rf om_N (some (vI r)) τ om_rf om_N := by
  refine om_Dof (lv := [(0, vR (some a0)), (1, vI v1)]) (by decide) rfl_le rfl (fun x O hE => ?_)
  change om_Ok x RX9 "untell" cX9_untell 3 (some FieldType.int) 1 0 0 at O
  unfold f_X9_untell at h
  revert h; refine om_iteR (fun ka0 h => ?_)
  refine om_iload_n O 1 dX9_untell_0 rfl rfl ?_
  refine om_iconst O (v := 0) dX9_untell_1 (by decide) ?_
  refine om_iconst O (v := 1) dX9_untell_2 (by decide) ?_
  revert h; refine om_callR (fun r1o σ1o g1o h => ?_)
  refine cl_X9_57 O (st := []) (stk := [vI (1 : Int32), vI (0 : Int32), vI v1]) (st2 := [vI r1o]) [vI v1, vI (0 : Int32), vI (1 : Int32)] (fun l G => c_X9_in l G g1o) (by decide) rfl rfl rfl_le rfl rfl_le rfl_le dX9_untell_3 ?_
  refine om_if_ne O (tgt := 15) dX9_untell_6 (by decide) (fun c1o => ?_) (fun c1o => ?_)
  · replace h := (if_pos c1o).symm.trans h
    refine om_aload_n O 0 dX9_untell_9 rfl rfl ?_
    refine om_iconst O (v := 1) dX9_untell_10 (by decide) ?_
    revert h; refine om_callR (fun r2o σ2o g2o h => ?_)
    refine cl_X9_61 O (st := []) (stk := [vI (1 : Int32), vR (some a0)]) (st2 := [vI r2o]) [vI (1 : Int32)] (fun l G => c_X9_error l G g2o) ka0 (om_lt ka0 (by decide)) (by decide) rfl rfl rfl_le rfl rfl_le rfl_le dX9_untell_11 ?_
    exact om_iret (st := []) O (om_eI hE h) rfl dX9_untell_14
  · replace h := (if_neg c1o).symm.trans h
    refine om_aload_n O 0 dX9_untell_15 rfl rfl ?_
    refine om_iload_n O 1 dX9_untell_16 rfl rfl ?_
    revert h; refine om_callR (fun r3o σ3o g3o h => ?_)
    refine cl_X9_113 O (st := []) (stk := [vI v1, vR (some a0)]) (st2 := [vI r3o]) [vI v1] (fun l G => c_X9_hasText l G g3o) ka0 (om_lt ka0 (by decide)) (by decide) rfl rfl rfl_le rfl rfl_le rfl_le dX9_untell_17 ?_
    refine om_if_eq O (tgt := 27) dX9_untell_20 (by decide) (fun c2o => ?_) (fun c2o => ?_)
    · replace h := (if_pos c2o).symm.trans h
      refine om_iconst O (v := 0) dX9_untell_27 (by decide) ?_
      exact g_X9_untell_b28 O hE ka0 h
    · replace h := (if_neg c2o).symm.trans h
      refine om_iconst O (v := 1) dX9_untell_23 (by decide) ?_
      refine om_goto O (tgt := 28) dX9_untell_24 (by decide) ?_
      exact g_X9_untell_b28 O hE ka0 h
def f_X9_joined  (v0 : Int32) (v1 : Int32) (v2 : Int32) (σ : om_S) : Option (Int32 × om_S) := if v0 = 37 then (if v2 = 0 then (some ((0 : Int32), σ)) else (if v2 = (-1 : Int32) then (some ((0 : Int32), σ)) else (if ¬ v2 = 0 then some ((v1 - v1 / v2 * v2), σ) else none))) else (if v0 = 38 then (if v1 = 0 then (some ((0 : Int32), σ)) else (if v2 = 0 then (some ((0 : Int32), σ)) else (some ((1 : Int32), σ)))) else (if v0 = 42 then (some ((v1 * v2), σ)) else (if v0 = 43 then (some ((v1 + v2), σ)) else (if v0 = 45 then (some ((v1 - v2), σ)) else (if v0 = 47 then (if v2 = 0 then (some ((0 : Int32), σ)) else (if v2 = (-1 : Int32) then (some ((-v1), σ)) else (if ¬ v2 = 0 then some ((v1 / v2), σ) else none))) else (if v0 = 60 then (if v2 ≤ v1 then (some ((0 : Int32), σ)) else (some ((1 : Int32), σ))) else (if v0 = 61 then (if v1 = v2 then (some ((1 : Int32), σ)) else (some ((0 : Int32), σ))) else (if v0 = 62 then (if v1 ≤ v2 then (some ((0 : Int32), σ)) else (some ((1 : Int32), σ))) else (if v1 = 0 then (if v2 = 0 then (some ((0 : Int32), σ)) else (some ((1 : Int32), σ))) else (some ((1 : Int32), σ)))))))))))
set_option maxRecDepth 100000 in
theorem c_X9_joined (l : Launch) (G : om_G) {v0 : Int32} {v1 : Int32} {v2 : Int32} {σ : om_S} {r : Int32} {τ : om_S} (h : f_X9_joined v0 v1 v2 σ = some (r, τ)) : om_D l G 0 yX9_joined cX9_joined 3 (some FieldType.int) 0 0 [vI v0, vI v1, vI v2] σ om_rf om_N (some (vI r)) τ om_rf om_N := by
  refine om_Dof (lv := [(0, vI v0), (1, vI v1), (2, vI v2)]) (by decide) rfl_le rfl (fun x O hE => ?_)
  change om_Ok x RX9 "joined" cX9_joined 3 (some FieldType.int) 0 0 0 at O
  unfold f_X9_joined at h
  refine om_iload_n O 0 dX9_joined_0 rfl rfl ?_
  by_cases c1o : v0 = 37
  · replace h := (if_pos c1o).symm.trans h
    refine om_tblIn O (b := 37) (off := 153) (tgt := 154) dX9_joined_1 c1o (by decide) (by decide) (by decide +kernel) (by decide) ?_
    refine om_iload_n O 2 dX9_joined_154 rfl rfl ?_
    refine om_if_eq O (tgt := 163) dX9_joined_155 (by decide) (fun c2o => ?_) (fun c2o => ?_)
    · replace h := (if_pos c2o).symm.trans h
      refine om_iconst O (v := 0) dX9_joined_163 (by decide) ?_
      refine om_goto O (tgt := 170) dX9_joined_164 (by decide) ?_
      exact om_iret (st := []) O (om_eI hE h) rfl dX9_joined_170
    · replace h := (if_neg c2o).symm.trans h
      refine om_iload_n O 2 dX9_joined_158 rfl rfl ?_
      refine om_iconst O (v := -1) dX9_joined_159 (by decide) ?_
      refine om_icmp_ne O (tgt := 167) dX9_joined_160 (by decide) (fun c3o => ?_) (fun c3o => ?_)
      · replace h := (if_pos c3o).symm.trans h
        refine om_iconst O (v := 0) dX9_joined_163 (by decide) ?_
        refine om_goto O (tgt := 170) dX9_joined_164 (by decide) ?_
        exact om_iret (st := []) O (om_eI hE h) rfl dX9_joined_170
      · replace h := (if_neg c3o).symm.trans h
        refine om_iload_n O 1 dX9_joined_167 rfl rfl ?_
        refine om_iload_n O 2 dX9_joined_168 rfl rfl ?_
        revert h; refine om_iteR (fun z1o h => ?_)
        refine om_irem O dX9_joined_169 z1o ?_
        exact om_iret (st := []) O (om_eI hE h) rfl dX9_joined_170
  · replace h := (if_neg c1o).symm.trans h
    by_cases c4o : v0 = 38
    · replace h := (if_pos c4o).symm.trans h
      refine om_tblIn O (b := 38) (off := 203) (tgt := 204) dX9_joined_1 c4o (by decide) (by decide) (by decide +kernel) (by decide) ?_
      refine om_iload_n O 1 dX9_joined_204 rfl rfl ?_
      refine om_if_eq O (tgt := 216) dX9_joined_205 (by decide) (fun c5o => ?_) (fun c5o => ?_)
      · replace h := (if_pos c5o).symm.trans h
        refine om_iconst O (v := 0) dX9_joined_216 (by decide) ?_
        exact om_iret (st := []) O (om_eI hE h) rfl dX9_joined_217
      · replace h := (if_neg c5o).symm.trans h
        refine om_iload_n O 2 dX9_joined_208 rfl rfl ?_
        refine om_if_eq O (tgt := 216) dX9_joined_209 (by decide) (fun c6o => ?_) (fun c6o => ?_)
        · replace h := (if_pos c6o).symm.trans h
          refine om_iconst O (v := 0) dX9_joined_216 (by decide) ?_
          exact om_iret (st := []) O (om_eI hE h) rfl dX9_joined_217
        · replace h := (if_neg c6o).symm.trans h
          refine om_iconst O (v := 1) dX9_joined_212 (by decide) ?_
          refine om_goto O (tgt := 217) dX9_joined_213 (by decide) ?_
          exact om_iret (st := []) O (om_eI hE h) rfl dX9_joined_217
    · replace h := (if_neg c4o).symm.trans h
      by_cases c7o : v0 = 42
      · replace h := (if_pos c7o).symm.trans h
        refine om_tblIn O (b := 42) (off := 127) (tgt := 128) dX9_joined_1 c7o (by decide) (by decide) (by decide +kernel) (by decide) ?_
        refine om_iload_n O 1 dX9_joined_128 rfl rfl ?_
        refine om_iload_n O 2 dX9_joined_129 rfl rfl ?_
        refine om_imul O dX9_joined_130 ?_
        exact om_iret (st := []) O (om_eI hE h) rfl dX9_joined_131
      · replace h := (if_neg c7o).symm.trans h
        by_cases c8o : v0 = 43
        · replace h := (if_pos c8o).symm.trans h
          refine om_tblIn O (b := 43) (off := 119) (tgt := 120) dX9_joined_1 c8o (by decide) (by decide) (by decide +kernel) (by decide) ?_
          refine om_iload_n O 1 dX9_joined_120 rfl rfl ?_
          refine om_iload_n O 2 dX9_joined_121 rfl rfl ?_
          refine om_iadd O dX9_joined_122 ?_
          exact om_iret (st := []) O (om_eI hE h) rfl dX9_joined_123
        · replace h := (if_neg c8o).symm.trans h
          by_cases c9o : v0 = 45
          · replace h := (if_pos c9o).symm.trans h
            refine om_tblIn O (b := 45) (off := 123) (tgt := 124) dX9_joined_1 c9o (by decide) (by decide) (by decide +kernel) (by decide) ?_
            refine om_iload_n O 1 dX9_joined_124 rfl rfl ?_
            refine om_iload_n O 2 dX9_joined_125 rfl rfl ?_
            refine om_isub O dX9_joined_126 ?_
            exact om_iret (st := []) O (om_eI hE h) rfl dX9_joined_127
          · replace h := (if_neg c9o).symm.trans h
            by_cases c10o : v0 = 47
            · replace h := (if_pos c10o).symm.trans h
              refine om_tblIn O (b := 47) (off := 131) (tgt := 132) dX9_joined_1 c10o (by decide) (by decide) (by decide +kernel) (by decide) ?_
              refine om_iload_n O 2 dX9_joined_132 rfl rfl ?_
              refine om_if_ne O (tgt := 140) dX9_joined_133 (by decide) (fun c11o => ?_) (fun c11o => ?_)
              · replace h := (if_pos c11o).symm.trans h
                refine om_iconst O (v := 0) dX9_joined_136 (by decide) ?_
                refine om_goto O (tgt := 153) dX9_joined_137 (by decide) ?_
                exact om_iret (st := []) O (om_eI hE h) rfl dX9_joined_153
              · replace h := (if_neg c11o).symm.trans h
                refine om_iload_n O 2 dX9_joined_140 rfl rfl ?_
                refine om_iconst O (v := -1) dX9_joined_141 (by decide) ?_
                refine om_icmp_ne O (tgt := 150) dX9_joined_142 (by decide) (fun c12o => ?_) (fun c12o => ?_)
                · replace h := (if_pos c12o).symm.trans h
                  refine om_iload_n O 1 dX9_joined_145 rfl rfl ?_
                  refine om_ineg O dX9_joined_146 ?_
                  refine om_goto O (tgt := 153) dX9_joined_147 (by decide) ?_
                  exact om_iret (st := []) O (om_eI hE h) rfl dX9_joined_153
                · replace h := (if_neg c12o).symm.trans h
                  refine om_iload_n O 1 dX9_joined_150 rfl rfl ?_
                  refine om_iload_n O 2 dX9_joined_151 rfl rfl ?_
                  revert h; refine om_iteR (fun z2o h => ?_)
                  refine om_idiv O dX9_joined_152 z2o ?_
                  exact om_iret (st := []) O (om_eI hE h) rfl dX9_joined_153
            · replace h := (if_neg c10o).symm.trans h
              by_cases c13o : v0 = 60
              · replace h := (if_pos c13o).symm.trans h
                refine om_tblIn O (b := 60) (off := 170) (tgt := 171) dX9_joined_1 c13o (by decide) (by decide) (by decide +kernel) (by decide) ?_
                refine om_iload_n O 1 dX9_joined_171 rfl rfl ?_
                refine om_iload_n O 2 dX9_joined_172 rfl rfl ?_
                refine om_icmp_ge O (tgt := 180) dX9_joined_173 (by decide) (fun c14o => ?_) (fun c14o => ?_)
                · replace h := (if_pos c14o).symm.trans h
                  refine om_iconst O (v := 0) dX9_joined_180 (by decide) ?_
                  exact om_iret (st := []) O (om_eI hE h) rfl dX9_joined_181
                · replace h := (if_neg c14o).symm.trans h
                  refine om_iconst O (v := 1) dX9_joined_176 (by decide) ?_
                  refine om_goto O (tgt := 181) dX9_joined_177 (by decide) ?_
                  exact om_iret (st := []) O (om_eI hE h) rfl dX9_joined_181
              · replace h := (if_neg c13o).symm.trans h
                by_cases c15o : v0 = 61
                · replace h := (if_pos c15o).symm.trans h
                  refine om_tblIn O (b := 61) (off := 192) (tgt := 193) dX9_joined_1 c15o (by decide) (by decide) (by decide +kernel) (by decide) ?_
                  refine om_iload_n O 1 dX9_joined_193 rfl rfl ?_
                  refine om_iload_n O 2 dX9_joined_194 rfl rfl ?_
                  refine om_icmp_ne O (tgt := 202) dX9_joined_195 (by decide) (fun c16o => ?_) (fun c16o => ?_)
                  · replace h := (if_pos c16o).symm.trans h
                    refine om_iconst O (v := 1) dX9_joined_198 (by decide) ?_
                    refine om_goto O (tgt := 203) dX9_joined_199 (by decide) ?_
                    exact om_iret (st := []) O (om_eI hE h) rfl dX9_joined_203
                  · replace h := (if_neg c16o).symm.trans h
                    refine om_iconst O (v := 0) dX9_joined_202 (by decide) ?_
                    exact om_iret (st := []) O (om_eI hE h) rfl dX9_joined_203
                · replace h := (if_neg c15o).symm.trans h
                  by_cases c17o : v0 = 62
                  · replace h := (if_pos c17o).symm.trans h
                    refine om_tblIn O (b := 62) (off := 181) (tgt := 182) dX9_joined_1 c17o (by decide) (by decide) (by decide +kernel) (by decide) ?_
                    refine om_iload_n O 1 dX9_joined_182 rfl rfl ?_
                    refine om_iload_n O 2 dX9_joined_183 rfl rfl ?_
                    refine om_icmp_le O (tgt := 191) dX9_joined_184 (by decide) (fun c18o => ?_) (fun c18o => ?_)
                    · replace h := (if_pos c18o).symm.trans h
                      refine om_iconst O (v := 0) dX9_joined_191 (by decide) ?_
                      exact om_iret (st := []) O (om_eI hE h) rfl dX9_joined_192
                    · replace h := (if_neg c18o).symm.trans h
                      refine om_iconst O (v := 1) dX9_joined_187 (by decide) ?_
                      refine om_goto O (tgt := 192) dX9_joined_188 (by decide) ?_
                      exact om_iret (st := []) O (om_eI hE h) rfl dX9_joined_192
                  · replace h := (if_neg c17o).symm.trans h
                    refine om_tblDef O (tgt := 218) dX9_joined_1 (fun v hv h1 h2 => by
    have h3 : v = 37 ∨ v = 38 ∨ v = 39 ∨ v = 40 ∨ v = 41 ∨ v = 42 ∨ v = 43 ∨ v = 44 ∨ v = 45 ∨ v = 46 ∨ v = 47 ∨ v = 48 ∨ v = 49 ∨ v = 50 ∨ v = 51 ∨ v = 52 ∨ v = 53 ∨ v = 54 ∨ v = 55 ∨ v = 56 ∨ v = 57 ∨ v = 58 ∨ v = 59 ∨ v = 60 ∨ v = 61 ∨ v = 62 := by omega
    rcases h3 with rfl | rfl | rfl | rfl | rfl | rfl | rfl | rfl | rfl | rfl | rfl | rfl | rfl | rfl | rfl | rfl | rfl | rfl | rfl | rfl | rfl | rfl | rfl | rfl | rfl | rfl <;> first | rfl | exact absurd hv.symm (lv_neT (k := 37) c1o (by decide)) | exact absurd hv.symm (lv_neT (k := 38) c4o (by decide)) | exact absurd hv.symm (lv_neT (k := 42) c7o (by decide)) | exact absurd hv.symm (lv_neT (k := 43) c8o (by decide)) | exact absurd hv.symm (lv_neT (k := 45) c9o (by decide)) | exact absurd hv.symm (lv_neT (k := 47) c10o (by decide)) | exact absurd hv.symm (lv_neT (k := 60) c13o (by decide)) | exact absurd hv.symm (lv_neT (k := 61) c15o (by decide)) | exact absurd hv.symm (lv_neT (k := 62) c17o (by decide))) (by decide) ?_
                    refine om_iload_n O 1 dX9_joined_218 rfl rfl ?_
                    refine om_if_ne O (tgt := 226) dX9_joined_219 (by decide) (fun c19o => ?_) (fun c19o => ?_)
                    · replace h := (if_pos c19o).symm.trans h
                      refine om_iload_n O 2 dX9_joined_222 rfl rfl ?_
                      refine om_if_eq O (tgt := 230) dX9_joined_223 (by decide) (fun c20o => ?_) (fun c20o => ?_)
                      · replace h := (if_pos c20o).symm.trans h
                        refine om_iconst O (v := 0) dX9_joined_230 (by decide) ?_
                        exact om_iret (st := []) O (om_eI hE h) rfl dX9_joined_231
                      · replace h := (if_neg c20o).symm.trans h
                        refine om_iconst O (v := 1) dX9_joined_226 (by decide) ?_
                        refine om_goto O (tgt := 231) dX9_joined_227 (by decide) ?_
                        exact om_iret (st := []) O (om_eI hE h) rfl dX9_joined_231
                    · replace h := (if_neg c19o).symm.trans h
                      refine om_iconst O (v := 1) dX9_joined_226 (by decide) ?_
                      refine om_goto O (tgt := 231) dX9_joined_227 (by decide) ?_
                      exact om_iret (st := []) O (om_eI hE h) rfl dX9_joined_231
def f_X9_worked_b157 (lp13 : Nat → Int32 → Int32 → Int32 → om_S → Option (Int32 × om_S)) (a0 : Nat) (v2 : Int32) (v3 : Int32) (v4 : Int32) (σ : om_S) : Option (Int32 × om_S) := lp13 a0 v2 v3 (v4 + 1) σ
set_option maxRecDepth 100000 in
theorem g_X9_worked_b157 {x : om_X}   (O : om_Ok x RX9 "worked" cX9_worked 7 (some FieldType.int) 1 0 0)   {r : Int32} {τ : om_S} (hE : om_End x (some (vI r)) τ om_rf om_N 0 0) {lp13 : Nat → Int32 → Int32 → Int32 → om_S → Option (Int32 × om_S)} (L13 : ∀ (a0 : Nat) (v2 : Int32) (v3 : Int32) (v4 : Int32) (σ : om_S) (ka0 : om_kc a0 = 9), lp13 a0 v2 v3 v4 σ = some (r, τ) → om_J x 13 [(0, vR (some a0)), (2, vI v2), (3, vI v3), (4, vI v4)] [] σ om_rf om_N 0 0) {a0 : Nat} {v2 : Int32} {v3 : Int32} {v4 : Int32} {σ : om_S} (ka0 : om_kc a0 = 9) (h : f_X9_worked_b157 lp13 a0 v2 v3 v4 σ = some (r, τ)) : om_J x 157 [(0, vR (some a0)), (2, vI v2), (3, vI v3), (4, vI v4)] [] σ om_rf om_N 0 0 := by
  unfold f_X9_worked_b157 at h
  refine om_iinc O (v1 := (v4 + 1)) (lv' := [(0, vR (some a0)), (2, vI v2), (3, vI v3), (4, vI (v4 + 1))]) 3 [1, 2, 3, 0] rfl dX9_worked_157 rfl rfl (by decide) rfl ?_
  refine om_goto O (tgt := 13) dX9_worked_160 (by decide) ?_
  exact L13 _ _ _ _ _ ka0 h
def f_X9_worked_b87 (lp13 : Nat → Int32 → Int32 → Int32 → om_S → Option (Int32 × om_S)) (a0 : Nat) (v2 : Int32) (v3 : Int32) (v4 : Int32) (b0 : Nat) (s1 : Int32) (s2 : Int32) (σ : om_S) : Option (Int32 × om_S) := if om_in s1 (om_al b0) then om_let (om_w σ b0 s1.toNatClampNeg s2) fun (σ1o : om_S) => f_X9_worked_b157 lp13 a0 v2 (v3 + 1) v4 σ1o else none
set_option maxRecDepth 100000 in
theorem g_X9_worked_b87 {x : om_X}   (O : om_Ok x RX9 "worked" cX9_worked 7 (some FieldType.int) 1 0 0)   {r : Int32} {τ : om_S} (hE : om_End x (some (vI r)) τ om_rf om_N 0 0) {lp13 : Nat → Int32 → Int32 → Int32 → om_S → Option (Int32 × om_S)} (L13 : ∀ (a0 : Nat) (v2 : Int32) (v3 : Int32) (v4 : Int32) (σ : om_S) (ka0 : om_kc a0 = 9), lp13 a0 v2 v3 v4 σ = some (r, τ) → om_J x 13 [(0, vR (some a0)), (2, vI v2), (3, vI v3), (4, vI v4)] [] σ om_rf om_N 0 0) {a0 : Nat} {v2 : Int32} {v3 : Int32} {v4 : Int32} {b0 : Nat} {s1 : Int32} {s2 : Int32} {σ : om_S} (ka0 : om_kc a0 = 9) (kb0 : om_kc b0 = 20) (h : f_X9_worked_b87 lp13 a0 v2 v3 v4 b0 s1 s2 σ = some (r, τ)) : om_J x 87 [(0, vR (some a0)), (2, vI v2), (3, vI v3), (4, vI v4)] [vI s2, vI s1, vR (some b0)] σ om_rf om_N 0 0 := by
  unfold f_X9_worked_b87 at h
  revert h; refine om_iteR (fun i1o h => ?_)
  revert h; refine om_letR (fun σ1o e1o h => ?_)
  refine om_iast O kb0 (om_lt kb0 (by decide)) i1o dX9_worked_87 e1o ?_
  refine om_iinc O (v1 := (v3 + 1)) (lv' := [(0, vR (some a0)), (2, vI v2), (3, vI (v3 + 1)), (4, vI v4)]) 2 [1, 2, 0, 3] rfl dX9_worked_88 rfl rfl (by decide) rfl ?_
  refine om_goto O (tgt := 157) dX9_worked_91 (by decide) ?_
  exact g_X9_worked_b157 O hE L13 ka0 h
def f_X9_worked_b65 (lp13 : Nat → Int32 → Int32 → Int32 → om_S → Option (Int32 × om_S)) (a0 : Nat) (v2 : Int32) (v3 : Int32) (v4 : Int32) (v5 : Int32) (v6 : Int32) (σ : om_S) : Option (Int32 × om_S) := om_ref (om_rf a0 12) 20 fun (t1o : Nat) => if v5 = 0 then (f_X9_worked_b87 lp13 a0 v2 v3 v4 t1o v3 v6 σ) else (om_ref (om_rf a0 11) 20 fun (t2o : Nat) => if om_in v6 (om_al t2o) then f_X9_worked_b87 lp13 a0 v2 v3 v4 t1o v3 (σ t2o v6.toNatClampNeg) σ else none)
set_option maxRecDepth 100000 in
theorem g_X9_worked_b65 {x : om_X}   (O : om_Ok x RX9 "worked" cX9_worked 7 (some FieldType.int) 1 0 0)   {r : Int32} {τ : om_S} (hE : om_End x (some (vI r)) τ om_rf om_N 0 0) {lp13 : Nat → Int32 → Int32 → Int32 → om_S → Option (Int32 × om_S)} (L13 : ∀ (a0 : Nat) (v2 : Int32) (v3 : Int32) (v4 : Int32) (σ : om_S) (ka0 : om_kc a0 = 9), lp13 a0 v2 v3 v4 σ = some (r, τ) → om_J x 13 [(0, vR (some a0)), (2, vI v2), (3, vI v3), (4, vI v4)] [] σ om_rf om_N 0 0) {a0 : Nat} {v2 : Int32} {v3 : Int32} {v4 : Int32} {v5 : Int32} {v6 : Int32} {σ : om_S} (ka0 : om_kc a0 = 9) (h : f_X9_worked_b65 lp13 a0 v2 v3 v4 v5 v6 σ = some (r, τ)) : om_J x 65 [(0, vR (some a0)), (2, vI v2), (3, vI v3), (4, vI v4), (5, vI v5), (6, vI v6)] [] σ om_rf om_N 0 0 := by
  unfold f_X9_worked_b65 at h
  refine om_aload_n O 0 dX9_worked_65 rfl rfl ?_
  revert h; refine om_refR (fun t1o y1o k1o h => ?_)
  refine gf_X9_32 O ka0 (om_lt ka0 (by decide)) dX9_worked_66 ?_
  rw [y1o]
  refine om_iload_n O 2 dX9_worked_69 rfl rfl ?_
  refine om_iload O 4 dX9_worked_70 rfl ?_
  refine om_if_ne O (tgt := 80) dX9_worked_72 (by decide) (fun c1o => ?_) (fun c1o => ?_)
  · replace h := (if_pos c1o).symm.trans h
    refine om_iload O 5 dX9_worked_75 rfl ?_
    refine om_goto O (tgt := 87) dX9_worked_77 (by decide) ?_
    refine om_drop (lv' := [(0, vR (some a0)), (2, vI v2), (3, vI v3), (4, vI v4)]) [0, 1, 2, 3] rfl ?_
    exact g_X9_worked_b87 O hE L13 ka0 k1o h
  · replace h := (if_neg c1o).symm.trans h
    refine om_aload_n O 0 dX9_worked_80 rfl rfl ?_
    revert h; refine om_refR (fun t2o y2o k2o h => ?_)
    refine gf_X9_29 O ka0 (om_lt ka0 (by decide)) dX9_worked_81 ?_
    rw [y2o]
    refine om_iload O 5 dX9_worked_84 rfl ?_
    revert h; refine om_iteR (fun i1o h => ?_)
    refine om_iald O k2o (om_lt k2o (by decide)) i1o dX9_worked_86 ?_
    refine om_drop (lv' := [(0, vR (some a0)), (2, vI v2), (3, vI v3), (4, vI v4)]) [0, 1, 2, 3] rfl ?_
    exact g_X9_worked_b87 O hE L13 ka0 k1o h
def f_X9_worked_b123 (lp13 : Nat → Int32 → Int32 → Int32 → om_S → Option (Int32 × om_S)) (a0 : Nat) (v2 : Int32) (v3 : Int32) (v4 : Int32) (b0 : Nat) (s1 : Int32) (s2 : Int32) (σ : om_S) : Option (Int32 × om_S) := if om_in s1 (om_al b0) then om_let (om_w σ b0 s1.toNatClampNeg s2) fun (σ1o : om_S) => f_X9_worked_b157 lp13 a0 v2 v3 v4 σ1o else none
set_option maxRecDepth 100000 in
theorem g_X9_worked_b123 {x : om_X}   (O : om_Ok x RX9 "worked" cX9_worked 7 (some FieldType.int) 1 0 0)   {r : Int32} {τ : om_S} (hE : om_End x (some (vI r)) τ om_rf om_N 0 0) {lp13 : Nat → Int32 → Int32 → Int32 → om_S → Option (Int32 × om_S)} (L13 : ∀ (a0 : Nat) (v2 : Int32) (v3 : Int32) (v4 : Int32) (σ : om_S) (ka0 : om_kc a0 = 9), lp13 a0 v2 v3 v4 σ = some (r, τ) → om_J x 13 [(0, vR (some a0)), (2, vI v2), (3, vI v3), (4, vI v4)] [] σ om_rf om_N 0 0) {a0 : Nat} {v2 : Int32} {v3 : Int32} {v4 : Int32} {b0 : Nat} {s1 : Int32} {s2 : Int32} {σ : om_S} (ka0 : om_kc a0 = 9) (kb0 : om_kc b0 = 20) (h : f_X9_worked_b123 lp13 a0 v2 v3 v4 b0 s1 s2 σ = some (r, τ)) : om_J x 123 [(0, vR (some a0)), (2, vI v2), (3, vI v3), (4, vI v4)] [vI s2, vI s1, vR (some b0)] σ om_rf om_N 0 0 := by
  unfold f_X9_worked_b123 at h
  revert h; refine om_iteR (fun i1o h => ?_)
  revert h; refine om_letR (fun σ1o e1o h => ?_)
  refine om_iast O kb0 (om_lt kb0 (by decide)) i1o dX9_worked_123 e1o ?_
  refine om_goto O (tgt := 157) dX9_worked_124 (by decide) ?_
  exact g_X9_worked_b157 O hE L13 ka0 h
def f_X9_worked_b13  : Nat → Nat → Int32 → Int32 → Int32 → om_S → Option (Int32 × om_S)
  | 0, _, _, _, _, _ => none
  | F + 1, a0, v2, v3, v4, σ => om_ref (om_rf a0 0) 20 fun (t1o : Nat) => if om_in v2 (om_al t1o) then if (σ t1o v2.toNatClampNeg) ≤ v4 then (om_ref (om_rf a0 12) 20 fun (t2o : Nat) => if om_in (0 : Int32) (om_al t2o) then some ((σ t2o (0 : Int32).toNatClampNeg), σ) else none) else (om_ref (om_rf a0 0) 20 fun (t3o : Nat) => if om_in ((v2 + (1 : Int32)) + ((2 : Int32) * v4)) (om_al t3o) then om_let (σ t3o ((v2 + (1 : Int32)) + ((2 : Int32) * v4)).toNatClampNeg) fun (x1o : Int32) => om_ref (om_rf a0 0) 20 fun (t4o : Nat) => if om_in ((v2 + (2 : Int32)) + ((2 : Int32) * v4)) (om_al t4o) then om_let (σ t4o ((v2 + (2 : Int32)) + ((2 : Int32) * v4)).toNatClampNeg) fun (x2o : Int32) => if x1o = 0 then (f_X9_worked_b65 (f_X9_worked_b13 F) a0 v2 v3 v4 x1o x2o σ) else (if x1o = (1 : Int32) then (f_X9_worked_b65 (f_X9_worked_b13 F) a0 v2 v3 v4 x1o x2o σ) else (if x1o = (2 : Int32) then (om_ref (om_rf a0 12) 20 fun (t5o : Nat) => om_ref (om_rf a0 12) 20 fun (t6o : Nat) => if om_in (v3 - (1 : Int32)) (om_al t6o) then if (σ t6o (v3 - (1 : Int32)).toNatClampNeg) = 0 then (f_X9_worked_b123 (f_X9_worked_b13 F) a0 v2 v3 v4 t5o (v3 - (1 : Int32)) (1 : Int32) σ) else (f_X9_worked_b123 (f_X9_worked_b13 F) a0 v2 v3 v4 t5o (v3 - (1 : Int32)) (0 : Int32) σ) else none) else (om_ref (om_rf a0 12) 20 fun (t7o : Nat) => om_ref (om_rf a0 12) 20 fun (t8o : Nat) => if om_in ((v3 + (-1)) - (1 : Int32)) (om_al t8o) then om_ref (om_rf a0 12) 20 fun (t9o : Nat) => if om_in (v3 + (-1)) (om_al t9o) then om_call (f_X9_joined x2o (σ t8o ((v3 + (-1)) - (1 : Int32)).toNatClampNeg) (σ t9o (v3 + (-1)).toNatClampNeg) σ) fun (r1o : Int32) (σ1o : om_S) => if om_in ((v3 + (-1)) - (1 : Int32)) (om_al t7o) then om_let (om_w σ1o t7o ((v3 + (-1)) - (1 : Int32)).toNatClampNeg r1o) fun (σ2o : om_S) => f_X9_worked_b157 (f_X9_worked_b13 F) a0 v2 (v3 + (-1)) v4 σ2o else none else none else none))) else none else none) else none
set_option maxRecDepth 100000 in
theorem g_X9_worked_b13 {x : om_X}   (O : om_Ok x RX9 "worked" cX9_worked 7 (some FieldType.int) 1 0 0)   {r : Int32} {τ : om_S} (hE : om_End x (some (vI r)) τ om_rf om_N 0 0)   : ∀ (F : Nat) (a0 : Nat) (v2 : Int32) (v3 : Int32) (v4 : Int32) (σ : om_S) (ka0 : om_kc a0 = 9), f_X9_worked_b13 F a0 v2 v3 v4 σ = some (r, τ) → om_J x 13 [(0, vR (some a0)), (2, vI v2), (3, vI v3), (4, vI v4)] [] σ om_rf om_N 0 0 := by
  intro F
  induction F with
  | zero =>
    intro a0 v2 v3 v4 σ ka0 h
    cases h
  | succ F ih =>
    intro a0 v2 v3 v4 σ ka0 h
    unfold f_X9_worked_b13 at h
    refine om_iload O 3 dX9_worked_13 rfl ?_
    refine om_aload_n O 0 dX9_worked_15 rfl rfl ?_
    revert h; refine om_refR (fun t1o y1o k1o h => ?_)
    refine gf_X9_7 O ka0 (om_lt ka0 (by decide)) dX9_worked_16 ?_
    rw [y1o]
    refine om_iload_n O 1 dX9_worked_19 rfl rfl ?_
    revert h; refine om_iteR (fun i1o h => ?_)
    refine om_iald O k1o (om_lt k1o (by decide)) i1o dX9_worked_20 ?_
    refine om_icmp_ge O (tgt := 163) dX9_worked_21 (by decide) (fun c1o => ?_) (fun c1o => ?_)
    · replace h := (if_pos c1o).symm.trans h
      refine om_aload_n O 0 dX9_worked_163 rfl rfl ?_
      revert h; refine om_refR (fun t2o y2o k2o h => ?_)
      refine gf_X9_32 O ka0 (om_lt ka0 (by decide)) dX9_worked_164 ?_
      rw [y2o]
      refine om_iconst O (v := 0) dX9_worked_167 (by decide) ?_
      revert h; refine om_iteR (fun i2o h => ?_)
      refine om_iald O k2o (om_lt k2o (by decide)) i2o dX9_worked_168 ?_
      exact om_iret (st := []) O (om_eI hE h) rfl dX9_worked_169
    · replace h := (if_neg c1o).symm.trans h
      refine om_aload_n O 0 dX9_worked_24 rfl rfl ?_
      revert h; refine om_refR (fun t3o y3o k3o h => ?_)
      refine gf_X9_7 O ka0 (om_lt ka0 (by decide)) dX9_worked_25 ?_
      rw [y3o]
      refine om_iload_n O 1 dX9_worked_28 rfl rfl ?_
      refine om_iconst O (v := 1) dX9_worked_29 (by decide) ?_
      refine om_iadd O dX9_worked_30 ?_
      refine om_iconst O (v := 2) dX9_worked_31 (by decide) ?_
      refine om_iload O 3 dX9_worked_32 rfl ?_
      refine om_imul O dX9_worked_34 ?_
      refine om_iadd O dX9_worked_35 ?_
      revert h; refine om_iteR (fun i3o h => ?_)
      refine om_iald O k3o (om_lt k3o (by decide)) i3o dX9_worked_36 ?_
      revert h; refine om_letR (fun x1o e1o h => ?_)
      refine om_istore O (lv' := [(0, vR (some a0)), (2, vI v2), (3, vI v3), (4, vI v4), (5, vI x1o)]) [1, 2, 3, 4, 0] e1o dX9_worked_37 (by decide) rfl ?_
      refine om_aload_n O 0 dX9_worked_39 rfl rfl ?_
      revert h; refine om_refR (fun t4o y4o k4o h => ?_)
      refine gf_X9_7 O ka0 (om_lt ka0 (by decide)) dX9_worked_40 ?_
      rw [y4o]
      refine om_iload_n O 1 dX9_worked_43 rfl rfl ?_
      refine om_iconst O (v := 2) dX9_worked_44 (by decide) ?_
      refine om_iadd O dX9_worked_45 ?_
      refine om_iconst O (v := 2) dX9_worked_46 (by decide) ?_
      refine om_iload O 3 dX9_worked_47 rfl ?_
      refine om_imul O dX9_worked_49 ?_
      refine om_iadd O dX9_worked_50 ?_
      revert h; refine om_iteR (fun i4o h => ?_)
      refine om_iald O k4o (om_lt k4o (by decide)) i4o dX9_worked_51 ?_
      revert h; refine om_letR (fun x2o e2o h => ?_)
      refine om_istore O (lv' := [(0, vR (some a0)), (2, vI v2), (3, vI v3), (4, vI v4), (5, vI x1o), (6, vI x2o)]) [1, 2, 3, 4, 5, 0] e2o dX9_worked_52 (by decide) rfl ?_
      refine om_iload O 4 dX9_worked_54 rfl ?_
      refine om_if_eq O (tgt := 65) dX9_worked_56 (by decide) (fun c2o => ?_) (fun c2o => ?_)
      · replace h := (if_pos c2o).symm.trans h
        exact g_X9_worked_b65 O hE ih ka0 h
      · replace h := (if_neg c2o).symm.trans h
        refine om_iload O 4 dX9_worked_59 rfl ?_
        refine om_iconst O (v := 1) dX9_worked_61 (by decide) ?_
        refine om_icmp_ne O (tgt := 94) dX9_worked_62 (by decide) (fun c3o => ?_) (fun c3o => ?_)
        · replace h := (if_pos c3o).symm.trans h
          exact g_X9_worked_b65 O hE ih ka0 h
        · replace h := (if_neg c3o).symm.trans h
          refine om_iload O 4 dX9_worked_94 rfl ?_
          refine om_iconst O (v := 2) dX9_worked_96 (by decide) ?_
          refine om_icmp_ne O (tgt := 127) dX9_worked_97 (by decide) (fun c4o => ?_) (fun c4o => ?_)
          · replace h := (if_pos c4o).symm.trans h
            refine om_aload_n O 0 dX9_worked_100 rfl rfl ?_
            revert h; refine om_refR (fun t5o y5o k5o h => ?_)
            refine gf_X9_32 O ka0 (om_lt ka0 (by decide)) dX9_worked_101 ?_
            rw [y5o]
            refine om_iload_n O 2 dX9_worked_104 rfl rfl ?_
            refine om_iconst O (v := 1) dX9_worked_105 (by decide) ?_
            refine om_isub O dX9_worked_106 ?_
            refine om_aload_n O 0 dX9_worked_107 rfl rfl ?_
            revert h; refine om_refR (fun t6o y6o k6o h => ?_)
            refine gf_X9_32 O ka0 (om_lt ka0 (by decide)) dX9_worked_108 ?_
            rw [y6o]
            refine om_iload_n O 2 dX9_worked_111 rfl rfl ?_
            refine om_iconst O (v := 1) dX9_worked_112 (by decide) ?_
            refine om_isub O dX9_worked_113 ?_
            revert h; refine om_iteR (fun i5o h => ?_)
            refine om_iald O k6o (om_lt k6o (by decide)) i5o dX9_worked_114 ?_
            refine om_if_ne O (tgt := 122) dX9_worked_115 (by decide) (fun c5o => ?_) (fun c5o => ?_)
            · replace h := (if_pos c5o).symm.trans h
              refine om_iconst O (v := 1) dX9_worked_118 (by decide) ?_
              refine om_goto O (tgt := 123) dX9_worked_119 (by decide) ?_
              refine om_drop (lv' := [(0, vR (some a0)), (2, vI v2), (3, vI v3), (4, vI v4)]) [0, 1, 2, 3] rfl ?_
              exact g_X9_worked_b123 O hE ih ka0 k5o h
            · replace h := (if_neg c5o).symm.trans h
              refine om_iconst O (v := 0) dX9_worked_122 (by decide) ?_
              refine om_drop (lv' := [(0, vR (some a0)), (2, vI v2), (3, vI v3), (4, vI v4)]) [0, 1, 2, 3] rfl ?_
              exact g_X9_worked_b123 O hE ih ka0 k5o h
          · replace h := (if_neg c4o).symm.trans h
            refine om_iinc O (v1 := (v3 + (-1))) (lv' := [(0, vR (some a0)), (2, vI v2), (3, vI (v3 + (-1))), (4, vI v4), (6, vI x2o)]) 2 [1, 2, 0, 3, 5] rfl dX9_worked_127 rfl (congrArg (fun y => v3 + y) (by decide)) (by decide) rfl ?_
            refine om_aload_n O 0 dX9_worked_130 rfl rfl ?_
            revert h; refine om_refR (fun t7o y7o k7o h => ?_)
            refine gf_X9_32 O ka0 (om_lt ka0 (by decide)) dX9_worked_131 ?_
            rw [y7o]
            refine om_iload_n O 2 dX9_worked_134 rfl rfl ?_
            refine om_iconst O (v := 1) dX9_worked_135 (by decide) ?_
            refine om_isub O dX9_worked_136 ?_
            refine om_iload O 4 dX9_worked_137 rfl ?_
            refine om_aload_n O 0 dX9_worked_139 rfl rfl ?_
            revert h; refine om_refR (fun t8o y8o k8o h => ?_)
            refine gf_X9_32 O ka0 (om_lt ka0 (by decide)) dX9_worked_140 ?_
            rw [y8o]
            refine om_iload_n O 2 dX9_worked_143 rfl rfl ?_
            refine om_iconst O (v := 1) dX9_worked_144 (by decide) ?_
            refine om_isub O dX9_worked_145 ?_
            revert h; refine om_iteR (fun i6o h => ?_)
            refine om_iald O k8o (om_lt k8o (by decide)) i6o dX9_worked_146 ?_
            refine om_aload_n O 0 dX9_worked_147 rfl rfl ?_
            revert h; refine om_refR (fun t9o y9o k9o h => ?_)
            refine gf_X9_32 O ka0 (om_lt ka0 (by decide)) dX9_worked_148 ?_
            rw [y9o]
            refine om_iload_n O 2 dX9_worked_151 rfl rfl ?_
            revert h; refine om_iteR (fun i7o h => ?_)
            refine om_iald O k9o (om_lt k9o (by decide)) i7o dX9_worked_152 ?_
            revert h; refine om_callR (fun r1o σ1o g1o h => ?_)
            refine cl_X9_116 O (st := [vI ((v3 + (-1)) - (1 : Int32)), vR (some t7o)]) (stk := [vI (σ t9o (v3 + (-1)).toNatClampNeg), vI (σ t8o ((v3 + (-1)) - (1 : Int32)).toNatClampNeg), vI x2o, vI ((v3 + (-1)) - (1 : Int32)), vR (some t7o)]) (st2 := [vI r1o, vI ((v3 + (-1)) - (1 : Int32)), vR (some t7o)]) [vI x2o, vI (σ t8o ((v3 + (-1)) - (1 : Int32)).toNatClampNeg), vI (σ t9o (v3 + (-1)).toNatClampNeg)] (fun l G => c_X9_joined l G g1o) (by decide) rfl rfl rfl_le rfl rfl_le rfl_le dX9_worked_153 ?_
            revert h; refine om_iteR (fun i8o h => ?_)
            revert h; refine om_letR (fun σ2o e3o h => ?_)
            refine om_iast O k7o (om_lt k7o (by decide)) i8o dX9_worked_156 e3o ?_
            refine om_drop (lv' := [(0, vR (some a0)), (2, vI v2), (3, vI (v3 + (-1))), (4, vI v4)]) [0, 1, 2, 3] rfl ?_
            exact g_X9_worked_b157 O hE ih ka0 h
def f_X9_worked  (a0 : Nat) (v1 : Int32) (σ : om_S) : Option (Int32 × om_S) := if om_kc a0 = 9 then om_let ((53 : Int32) + ((125 : Int32) * v1)) fun (x1o : Int32) => f_X9_worked_b13 om_F a0 x1o (0 : Int32) (0 : Int32) σ else none
set_option maxRecDepth 100000 in
theorem c_X9_worked (l : Launch) (G : om_G) {a0 : Nat} {v1 : Int32} {σ : om_S} {r : Int32} {τ : om_S} (h : f_X9_worked a0 v1 σ = some (r, τ)) : om_D l G 1 yX9_worked cX9_worked 7 (some FieldType.int) 0 0 [vR (some a0), vI v1] σ om_rf om_N (some (vI r)) τ om_rf om_N := by
  refine om_Dof (lv := [(0, vR (some a0)), (1, vI v1)]) (by decide) rfl_le rfl (fun x O hE => ?_)
  change om_Ok x RX9 "worked" cX9_worked 7 (some FieldType.int) 1 0 0 at O
  unfold f_X9_worked at h
  revert h; refine om_iteR (fun ka0 h => ?_)
  refine om_bipush O (v := 53) dX9_worked_0 (by decide) ?_
  refine om_bipush O (v := 125) dX9_worked_2 (by decide) ?_
  refine om_iload_n O 1 dX9_worked_4 rfl rfl ?_
  refine om_imul O dX9_worked_5 ?_
  refine om_iadd O dX9_worked_6 ?_
  revert h; refine om_letR (fun x1o e1o h => ?_)
  refine om_istore_n O (lv' := [(0, vR (some a0)), (2, vI x1o)]) [1, 0] e1o dX9_worked_7 rfl (by decide) rfl ?_
  refine om_iconst O (v := 0) dX9_worked_8 (by decide) ?_
  refine om_istore_n O (lv' := [(0, vR (some a0)), (2, vI x1o), (3, vI (0 : Int32))]) [1, 2, 0] rfl dX9_worked_9 rfl (by decide) rfl ?_
  refine om_iconst O (v := 0) dX9_worked_10 (by decide) ?_
  refine om_istore O (lv' := [(0, vR (some a0)), (2, vI x1o), (3, vI (0 : Int32)), (4, vI (0 : Int32))]) [1, 2, 3, 0] rfl dX9_worked_11 (by decide) rfl ?_
  exact g_X9_worked_b13 O hE om_F _ _ _ _ _ ka0 h
def f_X9_burnsOf  (a0 : Nat) (v1 : Int32) (v2 : Int32) (σ : om_S) : Option (Int32 × om_S) := if om_kc a0 = 9 then om_call (f_X9_its a0 v1 (1 : Int32) σ) fun (r1o : Int32) (σ1o : om_S) => om_call (f_X9_its a0 v1 (0 : Int32) σ1o) fun (r2o : Int32) (σ2o : om_S) => if r2o = 1 then (some ((((10 : Int32) + r1o) + (5 : Int32)), σ2o)) else (if r2o = 2 then (some (((2 : Int32) * ((10 : Int32) + r1o)), σ2o)) else (if r2o = 3 then (some ((((10 : Int32) + r1o) / (2 : Int32)), σ2o)) else (if r2o = 4 then (some (((((10 : Int32) + r1o) + (5 : Int32)) + ((10 : Int32) * (v2 - (1 : Int32)))), σ2o)) else (if r2o = 5 then (om_ref (om_rf a0 0) 20 fun (t1o : Nat) => if om_in (1 : Int32) (om_al t1o) then some ((((2 : Int32) * ((10 : Int32) + r1o)) + ((σ2o t1o (1 : Int32).toNatClampNeg) - (σ2o t1o (1 : Int32).toNatClampNeg) / (5 : Int32) * (5 : Int32))), σ2o) else none) else (if r2o = 6 then (om_call (f_X9_its a0 v1 (3 : Int32) σ2o) fun (r3o : Int32) (σ3o : om_S) => some (((4 : Int32) + (r3o / (10 : Int32))), σ3o)) else (some (((10 : Int32) + r1o), σ2o))))))) else none
set_option maxRecDepth 100000 in
theorem c_X9_burnsOf (l : Launch) (G : om_G) {a0 : Nat} {v1 : Int32} {v2 : Int32} {σ : om_S} {r : Int32} {τ : om_S} (h : f_X9_burnsOf a0 v1 v2 σ = some (r, τ)) : om_D l G 1 yX9_burnsOf cX9_burnsOf 4 (some FieldType.int) 0 0 [vR (some a0), vI v1, vI v2] σ om_rf om_N (some (vI r)) τ om_rf om_N := by
  refine om_Dof (lv := [(0, vR (some a0)), (1, vI v1), (2, vI v2)]) (by decide) rfl_le rfl (fun x O hE => ?_)
  change om_Ok x RX9 "burnsOf" cX9_burnsOf 4 (some FieldType.int) 1 0 0 at O
  unfold f_X9_burnsOf at h
  revert h; refine om_iteR (fun ka0 h => ?_)
  refine om_bipush O (v := 10) dX9_burnsOf_0 (by decide) ?_
  refine om_aload_n O 0 dX9_burnsOf_2 rfl rfl ?_
  refine om_iload_n O 1 dX9_burnsOf_3 rfl rfl ?_
  refine om_iconst O (v := 1) dX9_burnsOf_4 (by decide) ?_
  revert h; refine om_callR (fun r1o σ1o g1o h => ?_)
  refine cl_X9_120 O (st := [vI (10 : Int32)]) (stk := [vI (1 : Int32), vI v1, vR (some a0), vI (10 : Int32)]) (st2 := [vI r1o, vI (10 : Int32)]) [vI v1, vI (1 : Int32)] (fun l G => c_X9_its l G g1o) ka0 (om_lt ka0 (by decide)) (by decide) rfl rfl rfl_le rfl rfl_le rfl_le dX9_burnsOf_5 ?_
  refine om_iadd O dX9_burnsOf_8 ?_
  refine om_istore_n O (lv' := [(0, vR (some a0)), (1, vI v1), (2, vI v2), (3, vI ((10 : Int32) + r1o))]) [1, 2, 3, 0] rfl dX9_burnsOf_9 rfl (by decide) rfl ?_
  refine om_aload_n O 0 dX9_burnsOf_10 rfl rfl ?_
  refine om_iload_n O 1 dX9_burnsOf_11 rfl rfl ?_
  refine om_iconst O (v := 0) dX9_burnsOf_12 (by decide) ?_
  revert h; refine om_callR (fun r2o σ2o g2o h => ?_)
  refine cl_X9_120 O (st := []) (stk := [vI (0 : Int32), vI v1, vR (some a0)]) (st2 := [vI r2o]) [vI v1, vI (0 : Int32)] (fun l G => c_X9_its l G g2o) ka0 (om_lt ka0 (by decide)) (by decide) rfl rfl rfl_le rfl rfl_le rfl_le dX9_burnsOf_13 ?_
  by_cases c1o : r2o = 1
  · replace h := (if_pos c1o).symm.trans h
    refine om_tblIn O (b := 1) (off := 40) (tgt := 56) dX9_burnsOf_16 c1o (by decide) (by decide) (by decide +kernel) (by decide) ?_
    refine om_iload_n O 3 dX9_burnsOf_56 rfl rfl ?_
    refine om_iconst O (v := 5) dX9_burnsOf_57 (by decide) ?_
    refine om_iadd O dX9_burnsOf_58 ?_
    exact om_iret (st := []) O (om_eI hE h) rfl dX9_burnsOf_59
  · replace h := (if_neg c1o).symm.trans h
    by_cases c2o : r2o = 2
    · replace h := (if_pos c2o).symm.trans h
      refine om_tblIn O (b := 2) (off := 44) (tgt := 60) dX9_burnsOf_16 c2o (by decide) (by decide) (by decide +kernel) (by decide) ?_
      refine om_iconst O (v := 2) dX9_burnsOf_60 (by decide) ?_
      refine om_iload_n O 3 dX9_burnsOf_61 rfl rfl ?_
      refine om_imul O dX9_burnsOf_62 ?_
      exact om_iret (st := []) O (om_eI hE h) rfl dX9_burnsOf_63
    · replace h := (if_neg c2o).symm.trans h
      by_cases c3o : r2o = 3
      · replace h := (if_pos c3o).symm.trans h
        refine om_tblIn O (b := 3) (off := 48) (tgt := 64) dX9_burnsOf_16 c3o (by decide) (by decide) (by decide +kernel) (by decide) ?_
        refine om_iload_n O 3 dX9_burnsOf_64 rfl rfl ?_
        refine om_iconst O (v := 2) dX9_burnsOf_65 (by decide) ?_
        refine om_idiv O dX9_burnsOf_66 (by decide) ?_
        exact om_iret (st := []) O (om_eI hE h) rfl dX9_burnsOf_67
      · replace h := (if_neg c3o).symm.trans h
        by_cases c4o : r2o = 4
        · replace h := (if_pos c4o).symm.trans h
          refine om_tblIn O (b := 4) (off := 52) (tgt := 68) dX9_burnsOf_16 c4o (by decide) (by decide) (by decide +kernel) (by decide) ?_
          refine om_iload_n O 3 dX9_burnsOf_68 rfl rfl ?_
          refine om_iconst O (v := 5) dX9_burnsOf_69 (by decide) ?_
          refine om_iadd O dX9_burnsOf_70 ?_
          refine om_bipush O (v := 10) dX9_burnsOf_71 (by decide) ?_
          refine om_iload_n O 2 dX9_burnsOf_73 rfl rfl ?_
          refine om_iconst O (v := 1) dX9_burnsOf_74 (by decide) ?_
          refine om_isub O dX9_burnsOf_75 ?_
          refine om_imul O dX9_burnsOf_76 ?_
          refine om_iadd O dX9_burnsOf_77 ?_
          exact om_iret (st := []) O (om_eI hE h) rfl dX9_burnsOf_78
        · replace h := (if_neg c4o).symm.trans h
          by_cases c5o : r2o = 5
          · replace h := (if_pos c5o).symm.trans h
            refine om_tblIn O (b := 5) (off := 63) (tgt := 79) dX9_burnsOf_16 c5o (by decide) (by decide) (by decide +kernel) (by decide) ?_
            refine om_iconst O (v := 2) dX9_burnsOf_79 (by decide) ?_
            refine om_iload_n O 3 dX9_burnsOf_80 rfl rfl ?_
            refine om_imul O dX9_burnsOf_81 ?_
            refine om_aload_n O 0 dX9_burnsOf_82 rfl rfl ?_
            revert h; refine om_refR (fun t1o y1o k1o h => ?_)
            refine gf_X9_7 O ka0 (om_lt ka0 (by decide)) dX9_burnsOf_83 ?_
            rw [y1o]
            refine om_iconst O (v := 1) dX9_burnsOf_86 (by decide) ?_
            revert h; refine om_iteR (fun i1o h => ?_)
            refine om_iald O k1o (om_lt k1o (by decide)) i1o dX9_burnsOf_87 ?_
            refine om_iconst O (v := 5) dX9_burnsOf_88 (by decide) ?_
            refine om_irem O dX9_burnsOf_89 (by decide) ?_
            refine om_iadd O dX9_burnsOf_90 ?_
            exact om_iret (st := []) O (om_eI hE h) rfl dX9_burnsOf_91
          · replace h := (if_neg c5o).symm.trans h
            by_cases c6o : r2o = 6
            · replace h := (if_pos c6o).symm.trans h
              refine om_tblIn O (b := 6) (off := 76) (tgt := 92) dX9_burnsOf_16 c6o (by decide) (by decide) (by decide +kernel) (by decide) ?_
              refine om_iconst O (v := 4) dX9_burnsOf_92 (by decide) ?_
              refine om_aload_n O 0 dX9_burnsOf_93 rfl rfl ?_
              refine om_iload_n O 1 dX9_burnsOf_94 rfl rfl ?_
              refine om_iconst O (v := 3) dX9_burnsOf_95 (by decide) ?_
              revert h; refine om_callR (fun r3o σ3o g3o h => ?_)
              refine cl_X9_120 O (st := [vI (4 : Int32)]) (stk := [vI (3 : Int32), vI v1, vR (some a0), vI (4 : Int32)]) (st2 := [vI r3o, vI (4 : Int32)]) [vI v1, vI (3 : Int32)] (fun l G => c_X9_its l G g3o) ka0 (om_lt ka0 (by decide)) (by decide) rfl rfl rfl_le rfl rfl_le rfl_le dX9_burnsOf_96 ?_
              refine om_bipush O (v := 10) dX9_burnsOf_99 (by decide) ?_
              refine om_idiv O dX9_burnsOf_101 (by decide) ?_
              refine om_iadd O dX9_burnsOf_102 ?_
              exact om_iret (st := []) O (om_eI hE h) rfl dX9_burnsOf_103
            · replace h := (if_neg c6o).symm.trans h
              refine om_tblDef O (tgt := 104) dX9_burnsOf_16 (fun v hv h1 h2 => by
    have h3 : v = 1 ∨ v = 2 ∨ v = 3 ∨ v = 4 ∨ v = 5 ∨ v = 6 := by omega
    rcases h3 with rfl | rfl | rfl | rfl | rfl | rfl <;> first | rfl | exact absurd hv.symm (lv_neT (k := 1) c1o (by decide)) | exact absurd hv.symm (lv_neT (k := 2) c2o (by decide)) | exact absurd hv.symm (lv_neT (k := 3) c3o (by decide)) | exact absurd hv.symm (lv_neT (k := 4) c4o (by decide)) | exact absurd hv.symm (lv_neT (k := 5) c5o (by decide)) | exact absurd hv.symm (lv_neT (k := 6) c6o (by decide))) (by decide) ?_
              refine om_iload_n O 3 dX9_burnsOf_104 rfl rfl ?_
              exact om_iret (st := []) O (om_eI hE h) rfl dX9_burnsOf_105
def f_X9_smokeOf_b19  (a0 : Nat) (v1 : Int32) (v2 : Int32) (v3 : Int32) (s0 : Int32) (σ : om_S) : Option (Int32 × om_S) := om_call (f_X9_its a0 v1 (0 : Int32) σ) fun (r1o : Int32) (σ1o : om_S) => if r1o = 1 then (some ((v3 + s0), σ1o)) else (if r1o = 2 then (some ((0 : Int32), σ1o)) else (if r1o = 3 then (om_call (f_X9_its a0 v1 (1 : Int32) σ1o) fun (r2o : Int32) (σ2o : om_S) => some (((v3 + r2o) + (2 : Int32)), σ2o)) else (if r1o = 4 then (some (((v3 + s0) + v2), σ1o)) else (if r1o = 5 then (om_ref (om_rf a0 0) 20 fun (t1o : Nat) => if om_in (0 : Int32) (om_al t1o) then some ((σ1o t1o (0 : Int32).toNatClampNeg), σ1o) else none) else (if r1o = 6 then (some ((0 : Int32), σ1o)) else (some (v3, σ1o)))))))
set_option maxRecDepth 100000 in
theorem g_X9_smokeOf_b19 {x : om_X}   (O : om_Ok x RX9 "smokeOf" cX9_smokeOf 5 (some FieldType.int) 1 0 0)   {r : Int32} {τ : om_S} (hE : om_End x (some (vI r)) τ om_rf om_N 0 0)   {a0 : Nat} {v1 : Int32} {v2 : Int32} {v3 : Int32} {s0 : Int32} {σ : om_S} (ka0 : om_kc a0 = 9) (h : f_X9_smokeOf_b19 a0 v1 v2 v3 s0 σ = some (r, τ)) : om_J x 19 [(0, vR (some a0)), (1, vI v1), (2, vI v2), (3, vI v3)] [vI s0] σ om_rf om_N 0 0 := by
  unfold f_X9_smokeOf_b19 at h
  refine om_istore O (lv' := [(0, vR (some a0)), (1, vI v1), (2, vI v2), (3, vI v3), (4, vI s0)]) [1, 2, 3, 4, 0] rfl dX9_smokeOf_19 (by decide) rfl ?_
  refine om_aload_n O 0 dX9_smokeOf_21 rfl rfl ?_
  refine om_iload_n O 1 dX9_smokeOf_22 rfl rfl ?_
  refine om_iconst O (v := 0) dX9_smokeOf_23 (by decide) ?_
  revert h; refine om_callR (fun r1o σ1o g1o h => ?_)
  refine cl_X9_120 O (st := []) (stk := [vI (0 : Int32), vI v1, vR (some a0)]) (st2 := [vI r1o]) [vI v1, vI (0 : Int32)] (fun l G => c_X9_its l G g1o) ka0 (om_lt ka0 (by decide)) (by decide) rfl rfl rfl_le rfl rfl_le rfl_le dX9_smokeOf_24 ?_
  by_cases c1o : r1o = 1
  · replace h := (if_pos c1o).symm.trans h
    refine om_tblIn O (b := 1) (off := 37) (tgt := 64) dX9_smokeOf_27 c1o (by decide) (by decide) (by decide +kernel) (by decide) ?_
    refine om_iload_n O 3 dX9_smokeOf_64 rfl rfl ?_
    refine om_iload O 4 dX9_smokeOf_65 rfl ?_
    refine om_iadd O dX9_smokeOf_67 ?_
    exact om_iret (st := []) O (om_eI hE h) rfl dX9_smokeOf_68
  · replace h := (if_neg c1o).symm.trans h
    by_cases c2o : r1o = 2
    · replace h := (if_pos c2o).symm.trans h
      refine om_tblIn O (b := 2) (off := 42) (tgt := 69) dX9_smokeOf_27 c2o (by decide) (by decide) (by decide +kernel) (by decide) ?_
      refine om_iconst O (v := 0) dX9_smokeOf_69 (by decide) ?_
      exact om_iret (st := []) O (om_eI hE h) rfl dX9_smokeOf_70
    · replace h := (if_neg c2o).symm.trans h
      by_cases c3o : r1o = 3
      · replace h := (if_pos c3o).symm.trans h
        refine om_tblIn O (b := 3) (off := 44) (tgt := 71) dX9_smokeOf_27 c3o (by decide) (by decide) (by decide +kernel) (by decide) ?_
        refine om_iload_n O 3 dX9_smokeOf_71 rfl rfl ?_
        refine om_aload_n O 0 dX9_smokeOf_72 rfl rfl ?_
        refine om_iload_n O 1 dX9_smokeOf_73 rfl rfl ?_
        refine om_iconst O (v := 1) dX9_smokeOf_74 (by decide) ?_
        revert h; refine om_callR (fun r2o σ2o g2o h => ?_)
        refine cl_X9_120 O (st := [vI v3]) (stk := [vI (1 : Int32), vI v1, vR (some a0), vI v3]) (st2 := [vI r2o, vI v3]) [vI v1, vI (1 : Int32)] (fun l G => c_X9_its l G g2o) ka0 (om_lt ka0 (by decide)) (by decide) rfl rfl rfl_le rfl rfl_le rfl_le dX9_smokeOf_75 ?_
        refine om_iadd O dX9_smokeOf_78 ?_
        refine om_iconst O (v := 2) dX9_smokeOf_79 (by decide) ?_
        refine om_iadd O dX9_smokeOf_80 ?_
        exact om_iret (st := []) O (om_eI hE h) rfl dX9_smokeOf_81
      · replace h := (if_neg c3o).symm.trans h
        by_cases c4o : r1o = 4
        · replace h := (if_pos c4o).symm.trans h
          refine om_tblIn O (b := 4) (off := 55) (tgt := 82) dX9_smokeOf_27 c4o (by decide) (by decide) (by decide +kernel) (by decide) ?_
          refine om_iload_n O 3 dX9_smokeOf_82 rfl rfl ?_
          refine om_iload O 4 dX9_smokeOf_83 rfl ?_
          refine om_iadd O dX9_smokeOf_85 ?_
          refine om_iload_n O 2 dX9_smokeOf_86 rfl rfl ?_
          refine om_iadd O dX9_smokeOf_87 ?_
          exact om_iret (st := []) O (om_eI hE h) rfl dX9_smokeOf_88
        · replace h := (if_neg c4o).symm.trans h
          by_cases c5o : r1o = 5
          · replace h := (if_pos c5o).symm.trans h
            refine om_tblIn O (b := 5) (off := 62) (tgt := 89) dX9_smokeOf_27 c5o (by decide) (by decide) (by decide +kernel) (by decide) ?_
            refine om_aload_n O 0 dX9_smokeOf_89 rfl rfl ?_
            revert h; refine om_refR (fun t1o y1o k1o h => ?_)
            refine gf_X9_7 O ka0 (om_lt ka0 (by decide)) dX9_smokeOf_90 ?_
            rw [y1o]
            refine om_iconst O (v := 0) dX9_smokeOf_93 (by decide) ?_
            revert h; refine om_iteR (fun i1o h => ?_)
            refine om_iald O k1o (om_lt k1o (by decide)) i1o dX9_smokeOf_94 ?_
            exact om_iret (st := []) O (om_eI hE h) rfl dX9_smokeOf_95
          · replace h := (if_neg c5o).symm.trans h
            by_cases c6o : r1o = 6
            · replace h := (if_pos c6o).symm.trans h
              refine om_tblIn O (b := 6) (off := 42) (tgt := 69) dX9_smokeOf_27 c6o (by decide) (by decide) (by decide +kernel) (by decide) ?_
              refine om_iconst O (v := 0) dX9_smokeOf_69 (by decide) ?_
              exact om_iret (st := []) O (om_eI hE h) rfl dX9_smokeOf_70
            · replace h := (if_neg c6o).symm.trans h
              refine om_tblDef O (tgt := 96) dX9_smokeOf_27 (fun v hv h1 h2 => by
    have h3 : v = 1 ∨ v = 2 ∨ v = 3 ∨ v = 4 ∨ v = 5 ∨ v = 6 := by omega
    rcases h3 with rfl | rfl | rfl | rfl | rfl | rfl <;> first | rfl | exact absurd hv.symm (lv_neT (k := 1) c1o (by decide)) | exact absurd hv.symm (lv_neT (k := 2) c2o (by decide)) | exact absurd hv.symm (lv_neT (k := 3) c3o (by decide)) | exact absurd hv.symm (lv_neT (k := 4) c4o (by decide)) | exact absurd hv.symm (lv_neT (k := 5) c5o (by decide)) | exact absurd hv.symm (lv_neT (k := 6) c6o (by decide))) (by decide) ?_
              refine om_iload_n O 3 dX9_smokeOf_96 rfl rfl ?_
              exact om_iret (st := []) O (om_eI hE h) rfl dX9_smokeOf_97
def f_X9_smokeOf  (a0 : Nat) (v1 : Int32) (v2 : Int32) (σ : om_S) : Option (Int32 × om_S) := if om_kc a0 = 9 then om_ref (om_rf a0 0) 20 fun (t1o : Nat) => if om_in (0 : Int32) (om_al t1o) then om_let ((σ t1o (0 : Int32).toNatClampNeg) / (3 : Int32)) fun (x1o : Int32) => if v2 ≤ (2 : Int32) then (f_X9_smokeOf_b19 a0 v1 v2 x1o (0 : Int32) σ) else (f_X9_smokeOf_b19 a0 v1 v2 x1o (3 : Int32) σ) else none else none
set_option maxRecDepth 100000 in
theorem c_X9_smokeOf (l : Launch) (G : om_G) {a0 : Nat} {v1 : Int32} {v2 : Int32} {σ : om_S} {r : Int32} {τ : om_S} (h : f_X9_smokeOf a0 v1 v2 σ = some (r, τ)) : om_D l G 1 yX9_smokeOf cX9_smokeOf 5 (some FieldType.int) 0 0 [vR (some a0), vI v1, vI v2] σ om_rf om_N (some (vI r)) τ om_rf om_N := by
  refine om_Dof (lv := [(0, vR (some a0)), (1, vI v1), (2, vI v2)]) (by decide) rfl_le rfl (fun x O hE => ?_)
  change om_Ok x RX9 "smokeOf" cX9_smokeOf 5 (some FieldType.int) 1 0 0 at O
  unfold f_X9_smokeOf at h
  revert h; refine om_iteR (fun ka0 h => ?_)
  refine om_aload_n O 0 dX9_smokeOf_0 rfl rfl ?_
  revert h; refine om_refR (fun t1o y1o k1o h => ?_)
  refine gf_X9_7 O ka0 (om_lt ka0 (by decide)) dX9_smokeOf_1 ?_
  rw [y1o]
  refine om_iconst O (v := 0) dX9_smokeOf_4 (by decide) ?_
  revert h; refine om_iteR (fun i1o h => ?_)
  refine om_iald O k1o (om_lt k1o (by decide)) i1o dX9_smokeOf_5 ?_
  refine om_iconst O (v := 3) dX9_smokeOf_6 (by decide) ?_
  refine om_idiv O dX9_smokeOf_7 (by decide) ?_
  revert h; refine om_letR (fun x1o e1o h => ?_)
  refine om_istore_n O (lv' := [(0, vR (some a0)), (1, vI v1), (2, vI v2), (3, vI x1o)]) [1, 2, 3, 0] e1o dX9_smokeOf_8 rfl (by decide) rfl ?_
  refine om_iload_n O 2 dX9_smokeOf_9 rfl rfl ?_
  refine om_iconst O (v := 2) dX9_smokeOf_10 (by decide) ?_
  refine om_icmp_le O (tgt := 18) dX9_smokeOf_11 (by decide) (fun c1o => ?_) (fun c1o => ?_)
  · replace h := (if_pos c1o).symm.trans h
    refine om_iconst O (v := 0) dX9_smokeOf_18 (by decide) ?_
    exact g_X9_smokeOf_b19 O hE ka0 h
  · replace h := (if_neg c1o).symm.trans h
    refine om_iconst O (v := 3) dX9_smokeOf_14 (by decide) ?_
    refine om_goto O (tgt := 19) dX9_smokeOf_15 (by decide) ?_
    exact g_X9_smokeOf_b19 O hE ka0 h
def f_X9_lightTold_b41  (s0 : Int32) (σ : om_S) : Option (Int32 × om_S) := om_call (f_X9_held s0 (0 : Int32) (99 : Int32) σ) fun (r1o : Int32) (σ1o : om_S) => some (r1o, σ1o)
set_option maxRecDepth 100000 in
theorem g_X9_lightTold_b41 {x : om_X}   (O : om_Ok x RX9 "lightTold" cX9_lightTold 4 (some FieldType.int) 2 0 0)   {r : Int32} {τ : om_S} (hE : om_End x (some (vI r)) τ om_rf om_N 0 0)   {s0 : Int32} {σ : om_S}  (h : f_X9_lightTold_b41 s0 σ = some (r, τ)) : om_J x 41 [] [vI s0] σ om_rf om_N 0 0 := by
  unfold f_X9_lightTold_b41 at h
  refine om_iconst O (v := 0) dX9_lightTold_41 (by decide) ?_
  refine om_bipush O (v := 99) dX9_lightTold_42 (by decide) ?_
  revert h; refine om_callR (fun r1o σ1o g1o h => ?_)
  refine cl_X9_127 O (st := []) (stk := [vI (99 : Int32), vI (0 : Int32), vI s0]) (st2 := [vI r1o]) [vI s0, vI (0 : Int32), vI (99 : Int32)] (fun l G => c_X9_held l G g1o) (by decide) rfl rfl rfl_le rfl rfl_le rfl_le dX9_lightTold_44 ?_
  exact om_iret (st := []) O (om_eI hE h) rfl dX9_lightTold_47
def f_X9_lightTold  (a0 : Nat) (v1 : Int32) (v2 : Int32) (v3 : Int32) (σ : om_S) : Option (Int32 × om_S) := if om_kc a0 = 9 then om_ref (om_rf a0 11) 20 fun (t1o : Nat) => if om_in (108 : Int32) (om_al t1o) then om_let (om_w σ t1o (108 : Int32).toNatClampNeg v1) fun (σ1o : om_S) => om_ref (om_rf a0 11) 20 fun (t2o : Nat) => if om_in (111 : Int32) (om_al t2o) then om_let (om_w σ1o t2o (111 : Int32).toNatClampNeg v2) fun (σ2o : om_S) => om_ref (om_rf a0 11) 20 fun (t3o : Nat) => if om_in (110 : Int32) (om_al t3o) then om_let (om_w σ2o t3o (110 : Int32).toNatClampNeg v3) fun (σ3o : om_S) => om_call (f_X9_hasText a0 (0 : Int32) σ3o) fun (r1o : Int32) (σ4o : om_S) => if r1o = 0 then (f_X9_lightTold_b41 v1 σ4o) else (om_call (f_X9_worked a0 (0 : Int32) σ4o) fun (r2o : Int32) (σ5o : om_S) => f_X9_lightTold_b41 r2o σ5o) else none else none else none else none
set_option maxRecDepth 100000 in
theorem c_X9_lightTold (l : Launch) (G : om_G) {a0 : Nat} {v1 : Int32} {v2 : Int32} {v3 : Int32} {σ : om_S} {r : Int32} {τ : om_S} (h : f_X9_lightTold a0 v1 v2 v3 σ = some (r, τ)) : om_D l G 2 yX9_lightTold cX9_lightTold 4 (some FieldType.int) 0 0 [vR (some a0), vI v1, vI v2, vI v3] σ om_rf om_N (some (vI r)) τ om_rf om_N := by
  refine om_Dof (lv := [(0, vR (some a0)), (1, vI v1), (2, vI v2), (3, vI v3)]) (by decide) rfl_le rfl (fun x O hE => ?_)
  change om_Ok x RX9 "lightTold" cX9_lightTold 4 (some FieldType.int) 2 0 0 at O
  unfold f_X9_lightTold at h
  revert h; refine om_iteR (fun ka0 h => ?_)
  refine om_aload_n O 0 dX9_lightTold_0 rfl rfl ?_
  revert h; refine om_refR (fun t1o y1o k1o h => ?_)
  refine gf_X9_29 O ka0 (om_lt ka0 (by decide)) dX9_lightTold_1 ?_
  rw [y1o]
  refine om_bipush O (v := 108) dX9_lightTold_4 (by decide) ?_
  refine om_iload_n O 1 dX9_lightTold_6 rfl rfl ?_
  revert h; refine om_iteR (fun i1o h => ?_)
  revert h; refine om_letR (fun σ1o e1o h => ?_)
  refine om_iast O k1o (om_lt k1o (by decide)) i1o dX9_lightTold_7 e1o ?_
  refine om_aload_n O 0 dX9_lightTold_8 rfl rfl ?_
  revert h; refine om_refR (fun t2o y2o k2o h => ?_)
  refine gf_X9_29 O ka0 (om_lt ka0 (by decide)) dX9_lightTold_9 ?_
  rw [y2o]
  refine om_bipush O (v := 111) dX9_lightTold_12 (by decide) ?_
  refine om_iload_n O 2 dX9_lightTold_14 rfl rfl ?_
  revert h; refine om_iteR (fun i2o h => ?_)
  revert h; refine om_letR (fun σ2o e2o h => ?_)
  refine om_iast O k2o (om_lt k2o (by decide)) i2o dX9_lightTold_15 e2o ?_
  refine om_aload_n O 0 dX9_lightTold_16 rfl rfl ?_
  revert h; refine om_refR (fun t3o y3o k3o h => ?_)
  refine gf_X9_29 O ka0 (om_lt ka0 (by decide)) dX9_lightTold_17 ?_
  rw [y3o]
  refine om_bipush O (v := 110) dX9_lightTold_20 (by decide) ?_
  refine om_iload_n O 3 dX9_lightTold_22 rfl rfl ?_
  revert h; refine om_iteR (fun i3o h => ?_)
  revert h; refine om_letR (fun σ3o e3o h => ?_)
  refine om_iast O k3o (om_lt k3o (by decide)) i3o dX9_lightTold_23 e3o ?_
  refine om_aload_n O 0 dX9_lightTold_24 rfl rfl ?_
  refine om_iconst O (v := 0) dX9_lightTold_25 (by decide) ?_
  revert h; refine om_callR (fun r1o σ4o g1o h => ?_)
  refine cl_X9_113 O (st := []) (stk := [vI (0 : Int32), vR (some a0)]) (st2 := [vI r1o]) [vI (0 : Int32)] (fun l G => c_X9_hasText l G g1o) ka0 (om_lt ka0 (by decide)) (by decide) rfl rfl rfl_le rfl rfl_le rfl_le dX9_lightTold_26 ?_
  refine om_if_eq O (tgt := 40) dX9_lightTold_29 (by decide) (fun c1o => ?_) (fun c1o => ?_)
  · replace h := (if_pos c1o).symm.trans h
    refine om_iload_n O 1 dX9_lightTold_40 rfl rfl ?_
    refine om_drop (lv' := []) [] rfl ?_
    exact g_X9_lightTold_b41 O hE h
  · replace h := (if_neg c1o).symm.trans h
    refine om_aload_n O 0 dX9_lightTold_32 rfl rfl ?_
    refine om_iconst O (v := 0) dX9_lightTold_33 (by decide) ?_
    revert h; refine om_callR (fun r2o σ5o g2o h => ?_)
    refine cl_X9_124 O (st := []) (stk := [vI (0 : Int32), vR (some a0)]) (st2 := [vI r2o]) [vI (0 : Int32)] (fun l G => c_X9_worked l G g2o) ka0 (om_lt ka0 (by decide)) (by decide) rfl rfl rfl_le rfl rfl_le rfl_le dX9_lightTold_34 ?_
    refine om_goto O (tgt := 41) dX9_lightTold_37 (by decide) ?_
    refine om_drop (lv' := []) [] rfl ?_
    exact g_X9_lightTold_b41 O hE h
def f_X9_wantedTold_b45  (s0 : Int32) (σ : om_S) : Option (Int32 × om_S) := om_call (f_X9_held s0 (0 : Int32) (199 : Int32) σ) fun (r1o : Int32) (σ1o : om_S) => some (r1o, σ1o)
set_option maxRecDepth 100000 in
theorem g_X9_wantedTold_b45 {x : om_X}   (O : om_Ok x RX9 "wantedTold" cX9_wantedTold 4 (some FieldType.int) 2 0 0)   {r : Int32} {τ : om_S} (hE : om_End x (some (vI r)) τ om_rf om_N 0 0)   {s0 : Int32} {σ : om_S}  (h : f_X9_wantedTold_b45 s0 σ = some (r, τ)) : om_J x 45 [] [vI s0] σ om_rf om_N 0 0 := by
  unfold f_X9_wantedTold_b45 at h
  refine om_iconst O (v := 0) dX9_wantedTold_45 (by decide) ?_
  refine om_sipush O (v := 199) dX9_wantedTold_46 (by decide) ?_
  revert h; refine om_callR (fun r1o σ1o g1o h => ?_)
  refine cl_X9_127 O (st := []) (stk := [vI (199 : Int32), vI (0 : Int32), vI s0]) (st2 := [vI r1o]) [vI s0, vI (0 : Int32), vI (199 : Int32)] (fun l G => c_X9_held l G g1o) (by decide) rfl rfl rfl_le rfl rfl_le rfl_le dX9_wantedTold_49 ?_
  exact om_iret (st := []) O (om_eI hE h) rfl dX9_wantedTold_52
def f_X9_wantedTold  (a0 : Nat) (v1 : Int32) (v2 : Int32) (v3 : Int32) (σ : om_S) : Option (Int32 × om_S) := if om_kc a0 = 9 then om_ref (om_rf a0 11) 20 fun (t1o : Nat) => if om_in (119 : Int32) (om_al t1o) then om_let (om_w σ t1o (119 : Int32).toNatClampNeg v1) fun (σ1o : om_S) => om_ref (om_rf a0 11) 20 fun (t2o : Nat) => if om_in (100 : Int32) (om_al t2o) then om_let (om_w σ1o t2o (100 : Int32).toNatClampNeg v2) fun (σ2o : om_S) => om_ref (om_rf a0 11) 20 fun (t3o : Nat) => if om_in (107 : Int32) (om_al t3o) then om_let (om_w σ2o t3o (107 : Int32).toNatClampNeg v3) fun (σ3o : om_S) => om_call (f_X9_hasText a0 (1 : Int32) σ3o) fun (r1o : Int32) (σ4o : om_S) => if r1o = 0 then (f_X9_wantedTold_b45 ((5 : Int32) + ((3 : Int32) * v1)) σ4o) else (om_call (f_X9_worked a0 (1 : Int32) σ4o) fun (r2o : Int32) (σ5o : om_S) => f_X9_wantedTold_b45 r2o σ5o) else none else none else none else none
set_option maxRecDepth 100000 in
theorem c_X9_wantedTold (l : Launch) (G : om_G) {a0 : Nat} {v1 : Int32} {v2 : Int32} {v3 : Int32} {σ : om_S} {r : Int32} {τ : om_S} (h : f_X9_wantedTold a0 v1 v2 v3 σ = some (r, τ)) : om_D l G 2 yX9_wantedTold cX9_wantedTold 4 (some FieldType.int) 0 0 [vR (some a0), vI v1, vI v2, vI v3] σ om_rf om_N (some (vI r)) τ om_rf om_N := by
  refine om_Dof (lv := [(0, vR (some a0)), (1, vI v1), (2, vI v2), (3, vI v3)]) (by decide) rfl_le rfl (fun x O hE => ?_)
  change om_Ok x RX9 "wantedTold" cX9_wantedTold 4 (some FieldType.int) 2 0 0 at O
  unfold f_X9_wantedTold at h
  revert h; refine om_iteR (fun ka0 h => ?_)
  refine om_aload_n O 0 dX9_wantedTold_0 rfl rfl ?_
  revert h; refine om_refR (fun t1o y1o k1o h => ?_)
  refine gf_X9_29 O ka0 (om_lt ka0 (by decide)) dX9_wantedTold_1 ?_
  rw [y1o]
  refine om_bipush O (v := 119) dX9_wantedTold_4 (by decide) ?_
  refine om_iload_n O 1 dX9_wantedTold_6 rfl rfl ?_
  revert h; refine om_iteR (fun i1o h => ?_)
  revert h; refine om_letR (fun σ1o e1o h => ?_)
  refine om_iast O k1o (om_lt k1o (by decide)) i1o dX9_wantedTold_7 e1o ?_
  refine om_aload_n O 0 dX9_wantedTold_8 rfl rfl ?_
  revert h; refine om_refR (fun t2o y2o k2o h => ?_)
  refine gf_X9_29 O ka0 (om_lt ka0 (by decide)) dX9_wantedTold_9 ?_
  rw [y2o]
  refine om_bipush O (v := 100) dX9_wantedTold_12 (by decide) ?_
  refine om_iload_n O 2 dX9_wantedTold_14 rfl rfl ?_
  revert h; refine om_iteR (fun i2o h => ?_)
  revert h; refine om_letR (fun σ2o e2o h => ?_)
  refine om_iast O k2o (om_lt k2o (by decide)) i2o dX9_wantedTold_15 e2o ?_
  refine om_aload_n O 0 dX9_wantedTold_16 rfl rfl ?_
  revert h; refine om_refR (fun t3o y3o k3o h => ?_)
  refine gf_X9_29 O ka0 (om_lt ka0 (by decide)) dX9_wantedTold_17 ?_
  rw [y3o]
  refine om_bipush O (v := 107) dX9_wantedTold_20 (by decide) ?_
  refine om_iload_n O 3 dX9_wantedTold_22 rfl rfl ?_
  revert h; refine om_iteR (fun i3o h => ?_)
  revert h; refine om_letR (fun σ3o e3o h => ?_)
  refine om_iast O k3o (om_lt k3o (by decide)) i3o dX9_wantedTold_23 e3o ?_
  refine om_aload_n O 0 dX9_wantedTold_24 rfl rfl ?_
  refine om_iconst O (v := 1) dX9_wantedTold_25 (by decide) ?_
  revert h; refine om_callR (fun r1o σ4o g1o h => ?_)
  refine cl_X9_113 O (st := []) (stk := [vI (1 : Int32), vR (some a0)]) (st2 := [vI r1o]) [vI (1 : Int32)] (fun l G => c_X9_hasText l G g1o) ka0 (om_lt ka0 (by decide)) (by decide) rfl rfl rfl_le rfl rfl_le rfl_le dX9_wantedTold_26 ?_
  refine om_if_eq O (tgt := 40) dX9_wantedTold_29 (by decide) (fun c1o => ?_) (fun c1o => ?_)
  · replace h := (if_pos c1o).symm.trans h
    refine om_iconst O (v := 5) dX9_wantedTold_40 (by decide) ?_
    refine om_iconst O (v := 3) dX9_wantedTold_41 (by decide) ?_
    refine om_iload_n O 1 dX9_wantedTold_42 rfl rfl ?_
    refine om_imul O dX9_wantedTold_43 ?_
    refine om_iadd O dX9_wantedTold_44 ?_
    refine om_drop (lv' := []) [] rfl ?_
    exact g_X9_wantedTold_b45 O hE h
  · replace h := (if_neg c1o).symm.trans h
    refine om_aload_n O 0 dX9_wantedTold_32 rfl rfl ?_
    refine om_iconst O (v := 1) dX9_wantedTold_33 (by decide) ?_
    revert h; refine om_callR (fun r2o σ5o g2o h => ?_)
    refine cl_X9_124 O (st := []) (stk := [vI (1 : Int32), vR (some a0)]) (st2 := [vI r2o]) [vI (1 : Int32)] (fun l G => c_X9_worked l G g2o) ka0 (om_lt ka0 (by decide)) (by decide) rfl rfl rfl_le rfl rfl_le rfl_le dX9_wantedTold_34 ?_
    refine om_goto O (tgt := 45) dX9_wantedTold_37 (by decide) ?_
    refine om_drop (lv' := []) [] rfl ?_
    exact g_X9_wantedTold_b45 O hE h
def f_X9_lightBy  (a0 : Nat) (v1 : Int32) (v2 : Int32) (σ : om_S) : Option (Int32 × om_S) := if om_kc a0 = 9 then om_call (f_X9_manyIn v2 σ) fun (r1o : Int32) (σ1o : om_S) => om_call (f_X9_burnsOf a0 v1 r1o σ1o) fun (r2o : Int32) (σ2o : om_S) => om_ref (om_rf a0 0) 20 fun (t1o : Nat) => if om_in (1 : Int32) (om_al t1o) then om_call (f_X9_lightTold a0 r2o r1o ((σ2o t1o (1 : Int32).toNatClampNeg) - (σ2o t1o (1 : Int32).toNatClampNeg) / (7 : Int32) * (7 : Int32)) σ2o) fun (r3o : Int32) (σ3o : om_S) => some (r3o, σ3o) else none else none
set_option maxRecDepth 100000 in
theorem c_X9_lightBy (l : Launch) (G : om_G) {a0 : Nat} {v1 : Int32} {v2 : Int32} {σ : om_S} {r : Int32} {τ : om_S} (h : f_X9_lightBy a0 v1 v2 σ = some (r, τ)) : om_D l G 3 yX9_lightBy cX9_lightBy 4 (some FieldType.int) 0 0 [vR (some a0), vI v1, vI v2] σ om_rf om_N (some (vI r)) τ om_rf om_N := by
  refine om_Dof (lv := [(0, vR (some a0)), (1, vI v1), (2, vI v2)]) (by decide) rfl_le rfl (fun x O hE => ?_)
  change om_Ok x RX9 "lightBy" cX9_lightBy 4 (some FieldType.int) 3 0 0 at O
  unfold f_X9_lightBy at h
  revert h; refine om_iteR (fun ka0 h => ?_)
  refine om_iload_n O 2 dX9_lightBy_0 rfl rfl ?_
  revert h; refine om_callR (fun r1o σ1o g1o h => ?_)
  refine cl_X9_130 O (st := []) (stk := [vI v2]) (st2 := [vI r1o]) [vI v2] (fun l G => c_X9_manyIn l G g1o) (by decide) rfl rfl rfl_le rfl rfl_le rfl_le dX9_lightBy_1 ?_
  refine om_istore_n O (lv' := [(0, vR (some a0)), (1, vI v1), (3, vI r1o)]) [1, 2, 0] rfl dX9_lightBy_4 rfl (by decide) rfl ?_
  refine om_aload_n O 0 dX9_lightBy_5 rfl rfl ?_
  refine om_aload_n O 0 dX9_lightBy_6 rfl rfl ?_
  refine om_iload_n O 1 dX9_lightBy_7 rfl rfl ?_
  refine om_iload_n O 2 dX9_lightBy_8 rfl rfl ?_
  revert h; refine om_callR (fun r2o σ2o g2o h => ?_)
  refine cl_X9_133 O (st := [vR (some a0)]) (stk := [vI r1o, vI v1, vR (some a0), vR (some a0)]) (st2 := [vI r2o, vR (some a0)]) [vI v1, vI r1o] (fun l G => c_X9_burnsOf l G g2o) ka0 (om_lt ka0 (by decide)) (by decide) rfl rfl rfl_le rfl rfl_le rfl_le dX9_lightBy_9 ?_
  refine om_iload_n O 2 dX9_lightBy_12 rfl rfl ?_
  refine om_aload_n O 0 dX9_lightBy_13 rfl rfl ?_
  revert h; refine om_refR (fun t1o y1o k1o h => ?_)
  refine gf_X9_7 O ka0 (om_lt ka0 (by decide)) dX9_lightBy_14 ?_
  rw [y1o]
  refine om_iconst O (v := 1) dX9_lightBy_17 (by decide) ?_
  revert h; refine om_iteR (fun i1o h => ?_)
  refine om_iald O k1o (om_lt k1o (by decide)) i1o dX9_lightBy_18 ?_
  refine om_bipush O (v := 7) dX9_lightBy_19 (by decide) ?_
  refine om_irem O dX9_lightBy_21 (by decide) ?_
  revert h; refine om_callR (fun r3o σ3o g3o h => ?_)
  refine cl_X9_136 O (st := []) (stk := [vI ((σ2o t1o (1 : Int32).toNatClampNeg) - (σ2o t1o (1 : Int32).toNatClampNeg) / (7 : Int32) * (7 : Int32)), vI r1o, vI r2o, vR (some a0)]) (st2 := [vI r3o]) [vI r2o, vI r1o, vI ((σ2o t1o (1 : Int32).toNatClampNeg) - (σ2o t1o (1 : Int32).toNatClampNeg) / (7 : Int32) * (7 : Int32))] (fun l G => c_X9_lightTold l G g3o) ka0 (om_lt ka0 (by decide)) (by decide) rfl rfl rfl_le rfl rfl_le rfl_le dX9_lightBy_22 ?_
  exact om_iret (st := []) O (om_eI hE h) rfl dX9_lightBy_25
def f_X9_givesBy  (a0 : Nat) (v1 : Int32) (v2 : Int32) (σ : om_S) : Option (Int32 × om_S) := if om_kc a0 = 9 then om_call (f_X9_lightBy a0 v1 v2 σ) fun (r1o : Int32) (σ1o : om_S) => om_call (f_X9_manyIn v2 σ1o) fun (r2o : Int32) (σ2o : om_S) => om_call (f_X9_smokeOf a0 v1 r2o σ2o) fun (r3o : Int32) (σ3o : om_S) => some ((r1o - r3o), σ3o) else none
set_option maxRecDepth 100000 in
theorem c_X9_givesBy (l : Launch) (G : om_G) {a0 : Nat} {v1 : Int32} {v2 : Int32} {σ : om_S} {r : Int32} {τ : om_S} (h : f_X9_givesBy a0 v1 v2 σ = some (r, τ)) : om_D l G 4 yX9_givesBy cX9_givesBy 3 (some FieldType.int) 0 0 [vR (some a0), vI v1, vI v2] σ om_rf om_N (some (vI r)) τ om_rf om_N := by
  refine om_Dof (lv := [(0, vR (some a0)), (1, vI v1), (2, vI v2)]) (by decide) rfl_le rfl (fun x O hE => ?_)
  change om_Ok x RX9 "givesBy" cX9_givesBy 3 (some FieldType.int) 4 0 0 at O
  unfold f_X9_givesBy at h
  revert h; refine om_iteR (fun ka0 h => ?_)
  refine om_aload_n O 0 dX9_givesBy_0 rfl rfl ?_
  refine om_iload_n O 1 dX9_givesBy_1 rfl rfl ?_
  refine om_iload_n O 2 dX9_givesBy_2 rfl rfl ?_
  revert h; refine om_callR (fun r1o σ1o g1o h => ?_)
  refine cl_X9_139 O (st := []) (stk := [vI v2, vI v1, vR (some a0)]) (st2 := [vI r1o]) [vI v1, vI v2] (fun l G => c_X9_lightBy l G g1o) ka0 (om_lt ka0 (by decide)) (by decide) rfl rfl rfl_le rfl rfl_le rfl_le dX9_givesBy_3 ?_
  refine om_aload_n O 0 dX9_givesBy_6 rfl rfl ?_
  refine om_iload_n O 1 dX9_givesBy_7 rfl rfl ?_
  refine om_iload_n O 2 dX9_givesBy_8 rfl rfl ?_
  revert h; refine om_callR (fun r2o σ2o g2o h => ?_)
  refine cl_X9_130 O (st := [vI v1, vR (some a0), vI r1o]) (stk := [vI v2, vI v1, vR (some a0), vI r1o]) (st2 := [vI r2o, vI v1, vR (some a0), vI r1o]) [vI v2] (fun l G => c_X9_manyIn l G g2o) (by decide) rfl rfl rfl_le rfl rfl_le rfl_le dX9_givesBy_9 ?_
  revert h; refine om_callR (fun r3o σ3o g3o h => ?_)
  refine cl_X9_142 O (st := [vI r1o]) (stk := [vI r2o, vI v1, vR (some a0), vI r1o]) (st2 := [vI r3o, vI r1o]) [vI v1, vI r2o] (fun l G => c_X9_smokeOf l G g3o) ka0 (om_lt ka0 (by decide)) (by decide) rfl rfl rfl_le rfl rfl_le rfl_le dX9_givesBy_12 ?_
  refine om_isub O dX9_givesBy_15 ?_
  exact om_iret (st := []) O (om_eI hE h) rfl dX9_givesBy_16
def f_X9_wanted_b35 (lp4 : Nat → Int32 → Int32 → om_S → Option (Int32 × om_S)) (a0 : Nat) (v2 : Int32) (s0 : Int32) (s1 : Int32) (σ : om_S) : Option (Int32 × om_S) := lp4 a0 (s0 ||| s1) (v2 + 1) σ
set_option maxRecDepth 100000 in
theorem g_X9_wanted_b35 {x : om_X}   (O : om_Ok x RX9 "wanted" cX9_wanted 3 (some FieldType.int) 3 0 0)   {r : Int32} {τ : om_S} (hE : om_End x (some (vI r)) τ om_rf om_N 0 0) {lp4 : Nat → Int32 → Int32 → om_S → Option (Int32 × om_S)} (L4 : ∀ (a0 : Nat) (v1 : Int32) (v2 : Int32) (σ : om_S) (ka0 : om_kc a0 = 9), lp4 a0 v1 v2 σ = some (r, τ) → om_J x 4 [(0, vR (some a0)), (1, vI v1), (2, vI v2)] [] σ om_rf om_N 0 0) {a0 : Nat} {v2 : Int32} {s0 : Int32} {s1 : Int32} {σ : om_S} (ka0 : om_kc a0 = 9) (h : f_X9_wanted_b35 lp4 a0 v2 s0 s1 σ = some (r, τ)) : om_J x 35 [(0, vR (some a0)), (2, vI v2)] [vI s1, vI s0] σ om_rf om_N 0 0 := by
  unfold f_X9_wanted_b35 at h
  refine om_ior O dX9_wanted_35 ?_
  refine om_istore_n O (lv' := [(0, vR (some a0)), (1, vI (s0 ||| s1)), (2, vI v2)]) [1, 0, 2] rfl dX9_wanted_36 rfl (by decide) rfl ?_
  refine om_iinc O (v1 := (v2 + 1)) (lv' := [(0, vR (some a0)), (1, vI (s0 ||| s1)), (2, vI (v2 + 1))]) 2 [1, 2, 0] rfl dX9_wanted_37 rfl rfl (by decide) rfl ?_
  refine om_goto O (tgt := 4) dX9_wanted_40 (by decide) ?_
  exact L4 _ _ _ _ ka0 h
def f_X9_wanted_b4  : Nat → Nat → Int32 → Int32 → om_S → Option (Int32 × om_S)
  | 0, _, _, _, _ => none
  | F + 1, a0, v1, v2, σ => om_ref (om_rf a0 0) 20 fun (t1o : Nat) => if om_in (6 : Int32) (om_al t1o) then if (σ t1o (6 : Int32).toNatClampNeg) ≤ v2 then (om_ref (om_rf a0 0) 20 fun (t2o : Nat) => if om_in (0 : Int32) (om_al t2o) then om_ref (om_rf a0 0) 20 fun (t3o : Nat) => if om_in (1 : Int32) (om_al t3o) then om_call (f_X9_manyIn v1 σ) fun (r1o : Int32) (σ1o : om_S) => om_call (f_X9_wantedTold a0 (σ t2o (0 : Int32).toNatClampNeg) ((σ t3o (1 : Int32).toNatClampNeg) - (σ t3o (1 : Int32).toNatClampNeg) / (7 : Int32) * (7 : Int32)) r1o σ1o) fun (r2o : Int32) (σ2o : om_S) => some (r2o, σ2o) else none else none) else (om_call (f_X9_its a0 v2 (3 : Int32) σ) fun (r3o : Int32) (σ3o : om_S) => if r3o ≤ 0 then (f_X9_wanted_b35 (f_X9_wanted_b4 F) a0 v2 v1 (0 : Int32) σ3o) else (om_call (f_X9_its a0 v2 (2 : Int32) σ3o) fun (r4o : Int32) (σ4o : om_S) => f_X9_wanted_b35 (f_X9_wanted_b4 F) a0 v2 v1 r4o σ4o)) else none
set_option maxRecDepth 100000 in
theorem g_X9_wanted_b4 {x : om_X}   (O : om_Ok x RX9 "wanted" cX9_wanted 3 (some FieldType.int) 3 0 0)   {r : Int32} {τ : om_S} (hE : om_End x (some (vI r)) τ om_rf om_N 0 0)   : ∀ (F : Nat) (a0 : Nat) (v1 : Int32) (v2 : Int32) (σ : om_S) (ka0 : om_kc a0 = 9), f_X9_wanted_b4 F a0 v1 v2 σ = some (r, τ) → om_J x 4 [(0, vR (some a0)), (1, vI v1), (2, vI v2)] [] σ om_rf om_N 0 0 := by
  intro F
  induction F with
  | zero =>
    intro a0 v1 v2 σ ka0 h
    cases h
  | succ F ih =>
    intro a0 v1 v2 σ ka0 h
    unfold f_X9_wanted_b4 at h
    refine om_iload_n O 2 dX9_wanted_4 rfl rfl ?_
    refine om_aload_n O 0 dX9_wanted_5 rfl rfl ?_
    revert h; refine om_refR (fun t1o y1o k1o h => ?_)
    refine gf_X9_7 O ka0 (om_lt ka0 (by decide)) dX9_wanted_6 ?_
    rw [y1o]
    refine om_bipush O (v := 6) dX9_wanted_9 (by decide) ?_
    revert h; refine om_iteR (fun i1o h => ?_)
    refine om_iald O k1o (om_lt k1o (by decide)) i1o dX9_wanted_11 ?_
    refine om_icmp_ge O (tgt := 43) dX9_wanted_12 (by decide) (fun c1o => ?_) (fun c1o => ?_)
    · replace h := (if_pos c1o).symm.trans h
      refine om_aload_n O 0 dX9_wanted_43 rfl rfl ?_
      refine om_aload_n O 0 dX9_wanted_44 rfl rfl ?_
      revert h; refine om_refR (fun t2o y2o k2o h => ?_)
      refine gf_X9_7 O ka0 (om_lt ka0 (by decide)) dX9_wanted_45 ?_
      rw [y2o]
      refine om_iconst O (v := 0) dX9_wanted_48 (by decide) ?_
      revert h; refine om_iteR (fun i2o h => ?_)
      refine om_iald O k2o (om_lt k2o (by decide)) i2o dX9_wanted_49 ?_
      refine om_aload_n O 0 dX9_wanted_50 rfl rfl ?_
      revert h; refine om_refR (fun t3o y3o k3o h => ?_)
      refine gf_X9_7 O ka0 (om_lt ka0 (by decide)) dX9_wanted_51 ?_
      rw [y3o]
      refine om_iconst O (v := 1) dX9_wanted_54 (by decide) ?_
      revert h; refine om_iteR (fun i3o h => ?_)
      refine om_iald O k3o (om_lt k3o (by decide)) i3o dX9_wanted_55 ?_
      refine om_bipush O (v := 7) dX9_wanted_56 (by decide) ?_
      refine om_irem O dX9_wanted_58 (by decide) ?_
      refine om_iload_n O 1 dX9_wanted_59 rfl rfl ?_
      revert h; refine om_callR (fun r1o σ1o g1o h => ?_)
      refine cl_X9_130 O (st := [vI ((σ t3o (1 : Int32).toNatClampNeg) - (σ t3o (1 : Int32).toNatClampNeg) / (7 : Int32) * (7 : Int32)), vI (σ t2o (0 : Int32).toNatClampNeg), vR (some a0)]) (stk := [vI v1, vI ((σ t3o (1 : Int32).toNatClampNeg) - (σ t3o (1 : Int32).toNatClampNeg) / (7 : Int32) * (7 : Int32)), vI (σ t2o (0 : Int32).toNatClampNeg), vR (some a0)]) (st2 := [vI r1o, vI ((σ t3o (1 : Int32).toNatClampNeg) - (σ t3o (1 : Int32).toNatClampNeg) / (7 : Int32) * (7 : Int32)), vI (σ t2o (0 : Int32).toNatClampNeg), vR (some a0)]) [vI v1] (fun l G => c_X9_manyIn l G g1o) (by decide) rfl rfl rfl_le rfl rfl_le rfl_le dX9_wanted_60 ?_
      revert h; refine om_callR (fun r2o σ2o g2o h => ?_)
      refine cl_X9_145 O (st := []) (stk := [vI r1o, vI ((σ t3o (1 : Int32).toNatClampNeg) - (σ t3o (1 : Int32).toNatClampNeg) / (7 : Int32) * (7 : Int32)), vI (σ t2o (0 : Int32).toNatClampNeg), vR (some a0)]) (st2 := [vI r2o]) [vI (σ t2o (0 : Int32).toNatClampNeg), vI ((σ t3o (1 : Int32).toNatClampNeg) - (σ t3o (1 : Int32).toNatClampNeg) / (7 : Int32) * (7 : Int32)), vI r1o] (fun l G => c_X9_wantedTold l G g2o) ka0 (om_lt ka0 (by decide)) (by decide) rfl rfl rfl_le rfl rfl_le rfl_le dX9_wanted_63 ?_
      exact om_iret (st := []) O (om_eI hE h) rfl dX9_wanted_66
    · replace h := (if_neg c1o).symm.trans h
      refine om_iload_n O 1 dX9_wanted_15 rfl rfl ?_
      refine om_aload_n O 0 dX9_wanted_16 rfl rfl ?_
      refine om_iload_n O 2 dX9_wanted_17 rfl rfl ?_
      refine om_iconst O (v := 3) dX9_wanted_18 (by decide) ?_
      revert h; refine om_callR (fun r3o σ3o g3o h => ?_)
      refine cl_X9_120 O (st := [vI v1]) (stk := [vI (3 : Int32), vI v2, vR (some a0), vI v1]) (st2 := [vI r3o, vI v1]) [vI v2, vI (3 : Int32)] (fun l G => c_X9_its l G g3o) ka0 (om_lt ka0 (by decide)) (by decide) rfl rfl rfl_le rfl rfl_le rfl_le dX9_wanted_19 ?_
      refine om_if_le O (tgt := 34) dX9_wanted_22 (by decide) (fun c2o => ?_) (fun c2o => ?_)
      · replace h := (if_pos c2o).symm.trans h
        refine om_iconst O (v := 0) dX9_wanted_34 (by decide) ?_
        refine om_drop (lv' := [(0, vR (some a0)), (2, vI v2)]) [0, 2] rfl ?_
        exact g_X9_wanted_b35 O hE ih ka0 h
      · replace h := (if_neg c2o).symm.trans h
        refine om_aload_n O 0 dX9_wanted_25 rfl rfl ?_
        refine om_iload_n O 2 dX9_wanted_26 rfl rfl ?_
        refine om_iconst O (v := 2) dX9_wanted_27 (by decide) ?_
        revert h; refine om_callR (fun r4o σ4o g4o h => ?_)
        refine cl_X9_120 O (st := [vI v1]) (stk := [vI (2 : Int32), vI v2, vR (some a0), vI v1]) (st2 := [vI r4o, vI v1]) [vI v2, vI (2 : Int32)] (fun l G => c_X9_its l G g4o) ka0 (om_lt ka0 (by decide)) (by decide) rfl rfl rfl_le rfl rfl_le rfl_le dX9_wanted_28 ?_
        refine om_goto O (tgt := 35) dX9_wanted_31 (by decide) ?_
        refine om_drop (lv' := [(0, vR (some a0)), (2, vI v2)]) [0, 2] rfl ?_
        exact g_X9_wanted_b35 O hE ih ka0 h
def f_X9_wanted  (a0 : Nat) (σ : om_S) : Option (Int32 × om_S) := if om_kc a0 = 9 then f_X9_wanted_b4 om_F a0 (0 : Int32) (0 : Int32) σ else none
set_option maxRecDepth 100000 in
theorem c_X9_wanted (l : Launch) (G : om_G) {a0 : Nat} {σ : om_S} {r : Int32} {τ : om_S} (h : f_X9_wanted a0 σ = some (r, τ)) : om_D l G 3 yX9_wanted cX9_wanted 3 (some FieldType.int) 0 0 [vR (some a0)] σ om_rf om_N (some (vI r)) τ om_rf om_N := by
  refine om_Dof (lv := [(0, vR (some a0))]) (by decide) rfl_le rfl (fun x O hE => ?_)
  change om_Ok x RX9 "wanted" cX9_wanted 3 (some FieldType.int) 3 0 0 at O
  unfold f_X9_wanted at h
  revert h; refine om_iteR (fun ka0 h => ?_)
  refine om_iconst O (v := 0) dX9_wanted_0 (by decide) ?_
  refine om_istore_n O (lv' := [(0, vR (some a0)), (1, vI (0 : Int32))]) [1, 0] rfl dX9_wanted_1 rfl (by decide) rfl ?_
  refine om_iconst O (v := 0) dX9_wanted_2 (by decide) ?_
  refine om_istore_n O (lv' := [(0, vR (some a0)), (1, vI (0 : Int32)), (2, vI (0 : Int32))]) [1, 2, 0] rfl dX9_wanted_3 rfl (by decide) rfl ?_
  exact g_X9_wanted_b4 O hE om_F _ _ _ _ ka0 h
def f_X9_tonightSet_b239 (lp166 : Nat → Int32 → Int32 → Int32 → Int32 → om_S → Option (Int32 × om_S)) (a0 : Nat) (v1 : Int32) (v2 : Int32) (v4 : Int32) (s0 : Int32) (σ : om_S) : Option (Int32 × om_S) := lp166 a0 v1 v2 s0 (v4 + 1) σ
set_option maxRecDepth 100000 in
theorem g_X9_tonightSet_b239 {x : om_X}   (O : om_Ok x RX9 "tonightSet" cX9_tonightSet 6 (some FieldType.int) 5 0 0)   {r : Int32} {τ : om_S} (hE : om_End x (some (vI r)) τ om_rf om_N 0 0) {lp166 : Nat → Int32 → Int32 → Int32 → Int32 → om_S → Option (Int32 × om_S)} (L166 : ∀ (a0 : Nat) (v1 : Int32) (v2 : Int32) (v3 : Int32) (v4 : Int32) (σ : om_S) (ka0 : om_kc a0 = 9), lp166 a0 v1 v2 v3 v4 σ = some (r, τ) → om_J x 166 [(0, vR (some a0)), (1, vI v1), (2, vI v2), (3, vI v3), (4, vI v4)] [] σ om_rf om_N 0 0) {a0 : Nat} {v1 : Int32} {v2 : Int32} {v4 : Int32} {s0 : Int32} {σ : om_S} (ka0 : om_kc a0 = 9) (h : f_X9_tonightSet_b239 lp166 a0 v1 v2 v4 s0 σ = some (r, τ)) : om_J x 239 [(0, vR (some a0)), (1, vI v1), (2, vI v2), (4, vI v4)] [vI s0] σ om_rf om_N 0 0 := by
  unfold f_X9_tonightSet_b239 at h
  refine om_istore_n O (lv' := [(0, vR (some a0)), (1, vI v1), (2, vI v2), (3, vI s0), (4, vI v4)]) [1, 2, 3, 0, 4] rfl dX9_tonightSet_239 rfl (by decide) rfl ?_
  refine om_iinc O (v1 := (v4 + 1)) (lv' := [(0, vR (some a0)), (1, vI v1), (2, vI v2), (3, vI s0), (4, vI (v4 + 1))]) 4 [1, 2, 3, 4, 0] rfl dX9_tonightSet_240 rfl rfl (by decide) rfl ?_
  refine om_goto O (tgt := 166) dX9_tonightSet_243 (by decide) ?_
  exact L166 _ _ _ _ _ _ ka0 h
def f_X9_tonightSet_b238 (lp166 : Nat → Int32 → Int32 → Int32 → Int32 → om_S → Option (Int32 × om_S)) (a0 : Nat) (v1 : Int32) (v2 : Int32) (v3 : Int32) (v4 : Int32) (σ : om_S) : Option (Int32 × om_S) := f_X9_tonightSet_b239 lp166 a0 v1 v2 v4 v3 σ
set_option maxRecDepth 100000 in
theorem g_X9_tonightSet_b238 {x : om_X}   (O : om_Ok x RX9 "tonightSet" cX9_tonightSet 6 (some FieldType.int) 5 0 0)   {r : Int32} {τ : om_S} (hE : om_End x (some (vI r)) τ om_rf om_N 0 0) {lp166 : Nat → Int32 → Int32 → Int32 → Int32 → om_S → Option (Int32 × om_S)} (L166 : ∀ (a0 : Nat) (v1 : Int32) (v2 : Int32) (v3 : Int32) (v4 : Int32) (σ : om_S) (ka0 : om_kc a0 = 9), lp166 a0 v1 v2 v3 v4 σ = some (r, τ) → om_J x 166 [(0, vR (some a0)), (1, vI v1), (2, vI v2), (3, vI v3), (4, vI v4)] [] σ om_rf om_N 0 0) {a0 : Nat} {v1 : Int32} {v2 : Int32} {v3 : Int32} {v4 : Int32} {σ : om_S} (ka0 : om_kc a0 = 9) (h : f_X9_tonightSet_b238 lp166 a0 v1 v2 v3 v4 σ = some (r, τ)) : om_J x 238 [(0, vR (some a0)), (1, vI v1), (2, vI v2), (3, vI v3), (4, vI v4)] [] σ om_rf om_N 0 0 := by
  unfold f_X9_tonightSet_b238 at h
  refine om_iload_n O 3 dX9_tonightSet_238 rfl rfl ?_
  refine om_drop (lv' := [(0, vR (some a0)), (1, vI v1), (2, vI v2), (4, vI v4)]) [0, 1, 2, 4] rfl ?_
  exact g_X9_tonightSet_b239 O hE L166 ka0 h
def f_X9_tonightSet_b233 (lp166 : Nat → Int32 → Int32 → Int32 → Int32 → om_S → Option (Int32 × om_S)) (a0 : Nat) (v1 : Int32) (v2 : Int32) (v4 : Int32) (σ : om_S) : Option (Int32 × om_S) := f_X9_tonightSet_b239 lp166 a0 v1 v2 v4 v4 σ
set_option maxRecDepth 100000 in
theorem g_X9_tonightSet_b233 {x : om_X}   (O : om_Ok x RX9 "tonightSet" cX9_tonightSet 6 (some FieldType.int) 5 0 0)   {r : Int32} {τ : om_S} (hE : om_End x (some (vI r)) τ om_rf om_N 0 0) {lp166 : Nat → Int32 → Int32 → Int32 → Int32 → om_S → Option (Int32 × om_S)} (L166 : ∀ (a0 : Nat) (v1 : Int32) (v2 : Int32) (v3 : Int32) (v4 : Int32) (σ : om_S) (ka0 : om_kc a0 = 9), lp166 a0 v1 v2 v3 v4 σ = some (r, τ) → om_J x 166 [(0, vR (some a0)), (1, vI v1), (2, vI v2), (3, vI v3), (4, vI v4)] [] σ om_rf om_N 0 0) {a0 : Nat} {v1 : Int32} {v2 : Int32} {v4 : Int32} {σ : om_S} (ka0 : om_kc a0 = 9) (h : f_X9_tonightSet_b233 lp166 a0 v1 v2 v4 σ = some (r, τ)) : om_J x 233 [(0, vR (some a0)), (1, vI v1), (2, vI v2), (4, vI v4)] [] σ om_rf om_N 0 0 := by
  unfold f_X9_tonightSet_b233 at h
  refine om_iload O 3 dX9_tonightSet_233 rfl ?_
  refine om_goto O (tgt := 239) dX9_tonightSet_235 (by decide) ?_
  exact g_X9_tonightSet_b239 O hE L166 ka0 h
def f_X9_tonightSet_b205 (lp166 : Nat → Int32 → Int32 → Int32 → Int32 → om_S → Option (Int32 × om_S)) (a0 : Nat) (v1 : Int32) (v2 : Int32) (v3 : Int32) (v4 : Int32) (s0 : Int32) (σ : om_S) : Option (Int32 × om_S) := if s0 = 0 then (f_X9_tonightSet_b238 lp166 a0 v1 v2 v3 v4 σ) else (if v3 = (-1 : Int32) then (f_X9_tonightSet_b233 lp166 a0 v1 v2 v4 σ) else (om_ref (om_rf a0 14) 20 fun (t1o : Nat) => if om_in v4 (om_al t1o) then om_ref (om_rf a0 14) 20 fun (t2o : Nat) => if om_in v3 (om_al t2o) then if (σ t2o v3.toNatClampNeg) ≤ (σ t1o v4.toNatClampNeg) then (f_X9_tonightSet_b238 lp166 a0 v1 v2 v3 v4 σ) else (f_X9_tonightSet_b233 lp166 a0 v1 v2 v4 σ) else none else none))
set_option maxRecDepth 100000 in
theorem g_X9_tonightSet_b205 {x : om_X}   (O : om_Ok x RX9 "tonightSet" cX9_tonightSet 6 (some FieldType.int) 5 0 0)   {r : Int32} {τ : om_S} (hE : om_End x (some (vI r)) τ om_rf om_N 0 0) {lp166 : Nat → Int32 → Int32 → Int32 → Int32 → om_S → Option (Int32 × om_S)} (L166 : ∀ (a0 : Nat) (v1 : Int32) (v2 : Int32) (v3 : Int32) (v4 : Int32) (σ : om_S) (ka0 : om_kc a0 = 9), lp166 a0 v1 v2 v3 v4 σ = some (r, τ) → om_J x 166 [(0, vR (some a0)), (1, vI v1), (2, vI v2), (3, vI v3), (4, vI v4)] [] σ om_rf om_N 0 0) {a0 : Nat} {v1 : Int32} {v2 : Int32} {v3 : Int32} {v4 : Int32} {s0 : Int32} {σ : om_S} (ka0 : om_kc a0 = 9) (h : f_X9_tonightSet_b205 lp166 a0 v1 v2 v3 v4 s0 σ = some (r, τ)) : om_J x 205 [(0, vR (some a0)), (1, vI v1), (2, vI v2), (3, vI v3), (4, vI v4)] [vI s0] σ om_rf om_N 0 0 := by
  unfold f_X9_tonightSet_b205 at h
  refine om_istore O (lv' := [(0, vR (some a0)), (1, vI v1), (2, vI v2), (3, vI v3), (4, vI v4), (5, vI s0)]) [1, 2, 3, 4, 5, 0] rfl dX9_tonightSet_205 (by decide) rfl ?_
  refine om_iload O 5 dX9_tonightSet_207 rfl ?_
  refine om_if_eq O (tgt := 238) dX9_tonightSet_209 (by decide) (fun c1o => ?_) (fun c1o => ?_)
  · replace h := (if_pos c1o).symm.trans h
    refine om_drop (lv' := [(0, vR (some a0)), (1, vI v1), (2, vI v2), (3, vI v3), (4, vI v4)]) [0, 1, 2, 3, 4] rfl ?_
    exact g_X9_tonightSet_b238 O hE L166 ka0 h
  · replace h := (if_neg c1o).symm.trans h
    refine om_iload_n O 3 dX9_tonightSet_212 rfl rfl ?_
    refine om_iconst O (v := -1) dX9_tonightSet_213 (by decide) ?_
    refine om_icmp_eq O (tgt := 233) dX9_tonightSet_214 (by decide) (fun c2o => ?_) (fun c2o => ?_)
    · replace h := (if_pos c2o).symm.trans h
      refine om_drop (lv' := [(0, vR (some a0)), (1, vI v1), (2, vI v2), (4, vI v4)]) [0, 1, 2, 4] rfl ?_
      exact g_X9_tonightSet_b233 O hE L166 ka0 h
    · replace h := (if_neg c2o).symm.trans h
      refine om_aload_n O 0 dX9_tonightSet_217 rfl rfl ?_
      revert h; refine om_refR (fun t1o y1o k1o h => ?_)
      refine gf_X9_38 O ka0 (om_lt ka0 (by decide)) dX9_tonightSet_218 ?_
      rw [y1o]
      refine om_iload O 4 dX9_tonightSet_221 rfl ?_
      revert h; refine om_iteR (fun i1o h => ?_)
      refine om_iald O k1o (om_lt k1o (by decide)) i1o dX9_tonightSet_223 ?_
      refine om_aload_n O 0 dX9_tonightSet_224 rfl rfl ?_
      revert h; refine om_refR (fun t2o y2o k2o h => ?_)
      refine gf_X9_38 O ka0 (om_lt ka0 (by decide)) dX9_tonightSet_225 ?_
      rw [y2o]
      refine om_iload_n O 3 dX9_tonightSet_228 rfl rfl ?_
      revert h; refine om_iteR (fun i2o h => ?_)
      refine om_iald O k2o (om_lt k2o (by decide)) i2o dX9_tonightSet_229 ?_
      refine om_icmp_ge O (tgt := 238) dX9_tonightSet_230 (by decide) (fun c3o => ?_) (fun c3o => ?_)
      · replace h := (if_pos c3o).symm.trans h
        refine om_drop (lv' := [(0, vR (some a0)), (1, vI v1), (2, vI v2), (3, vI v3), (4, vI v4)]) [0, 1, 2, 3, 4] rfl ?_
        exact g_X9_tonightSet_b238 O hE L166 ka0 h
      · replace h := (if_neg c3o).symm.trans h
        refine om_drop (lv' := [(0, vR (some a0)), (1, vI v1), (2, vI v2), (4, vI v4)]) [0, 1, 2, 4] rfl ?_
        exact g_X9_tonightSet_b233 O hE L166 ka0 h
def f_X9_tonightSet_b204 (lp166 : Nat → Int32 → Int32 → Int32 → Int32 → om_S → Option (Int32 × om_S)) (a0 : Nat) (v1 : Int32) (v2 : Int32) (v3 : Int32) (v4 : Int32) (σ : om_S) : Option (Int32 × om_S) := f_X9_tonightSet_b205 lp166 a0 v1 v2 v3 v4 (0 : Int32) σ
set_option maxRecDepth 100000 in
theorem g_X9_tonightSet_b204 {x : om_X}   (O : om_Ok x RX9 "tonightSet" cX9_tonightSet 6 (some FieldType.int) 5 0 0)   {r : Int32} {τ : om_S} (hE : om_End x (some (vI r)) τ om_rf om_N 0 0) {lp166 : Nat → Int32 → Int32 → Int32 → Int32 → om_S → Option (Int32 × om_S)} (L166 : ∀ (a0 : Nat) (v1 : Int32) (v2 : Int32) (v3 : Int32) (v4 : Int32) (σ : om_S) (ka0 : om_kc a0 = 9), lp166 a0 v1 v2 v3 v4 σ = some (r, τ) → om_J x 166 [(0, vR (some a0)), (1, vI v1), (2, vI v2), (3, vI v3), (4, vI v4)] [] σ om_rf om_N 0 0) {a0 : Nat} {v1 : Int32} {v2 : Int32} {v3 : Int32} {v4 : Int32} {σ : om_S} (ka0 : om_kc a0 = 9) (h : f_X9_tonightSet_b204 lp166 a0 v1 v2 v3 v4 σ = some (r, τ)) : om_J x 204 [(0, vR (some a0)), (1, vI v1), (2, vI v2), (3, vI v3), (4, vI v4)] [] σ om_rf om_N 0 0 := by
  unfold f_X9_tonightSet_b204 at h
  refine om_iconst O (v := 0) dX9_tonightSet_204 (by decide) ?_
  exact g_X9_tonightSet_b205 O hE L166 ka0 h
def f_X9_tonightSet_b166  : Nat → Nat → Int32 → Int32 → Int32 → Int32 → om_S → Option (Int32 × om_S)
  | 0, _, _, _, _, _, _ => none
  | F + 1, a0, v1, v2, v3, v4, σ => om_ref (om_rf a0 0) 20 fun (t1o : Nat) => if om_in (6 : Int32) (om_al t1o) then if ((1 : Int32) <<< ((σ t1o (6 : Int32).toNatClampNeg) &&& 31)) ≤ v4 then (some (v3, σ)) else (if (v4 &&& (v1 ^^^ (-1 : Int32))) = 0 then (om_ref (om_rf a0 13) 20 fun (t2o : Nat) => if om_in v4 (om_al t2o) then if (σ t2o v4.toNatClampNeg) < v2 then (f_X9_tonightSet_b204 (f_X9_tonightSet_b166 F) a0 v1 v2 v3 v4 σ) else (f_X9_tonightSet_b205 (f_X9_tonightSet_b166 F) a0 v1 v2 v3 v4 (1 : Int32) σ) else none) else (f_X9_tonightSet_b204 (f_X9_tonightSet_b166 F) a0 v1 v2 v3 v4 σ)) else none
set_option maxRecDepth 100000 in
theorem g_X9_tonightSet_b166 {x : om_X}   (O : om_Ok x RX9 "tonightSet" cX9_tonightSet 6 (some FieldType.int) 5 0 0)   {r : Int32} {τ : om_S} (hE : om_End x (some (vI r)) τ om_rf om_N 0 0)   : ∀ (F : Nat) (a0 : Nat) (v1 : Int32) (v2 : Int32) (v3 : Int32) (v4 : Int32) (σ : om_S) (ka0 : om_kc a0 = 9), f_X9_tonightSet_b166 F a0 v1 v2 v3 v4 σ = some (r, τ) → om_J x 166 [(0, vR (some a0)), (1, vI v1), (2, vI v2), (3, vI v3), (4, vI v4)] [] σ om_rf om_N 0 0 := by
  intro F
  induction F with
  | zero =>
    intro a0 v1 v2 v3 v4 σ ka0 h
    cases h
  | succ F ih =>
    intro a0 v1 v2 v3 v4 σ ka0 h
    unfold f_X9_tonightSet_b166 at h
    refine om_iload O 4 dX9_tonightSet_166 rfl ?_
    refine om_iconst O (v := 1) dX9_tonightSet_168 (by decide) ?_
    refine om_aload_n O 0 dX9_tonightSet_169 rfl rfl ?_
    revert h; refine om_refR (fun t1o y1o k1o h => ?_)
    refine gf_X9_7 O ka0 (om_lt ka0 (by decide)) dX9_tonightSet_170 ?_
    rw [y1o]
    refine om_bipush O (v := 6) dX9_tonightSet_173 (by decide) ?_
    revert h; refine om_iteR (fun i1o h => ?_)
    refine om_iald O k1o (om_lt k1o (by decide)) i1o dX9_tonightSet_175 ?_
    refine om_ishl O dX9_tonightSet_176 ?_
    refine om_icmp_ge O (tgt := 246) dX9_tonightSet_177 (by decide) (fun c1o => ?_) (fun c1o => ?_)
    · replace h := (if_pos c1o).symm.trans h
      refine om_iload_n O 3 dX9_tonightSet_246 rfl rfl ?_
      exact om_iret (st := []) O (om_eI hE h) rfl dX9_tonightSet_247
    · replace h := (if_neg c1o).symm.trans h
      refine om_iload O 4 dX9_tonightSet_180 rfl ?_
      refine om_iload_n O 1 dX9_tonightSet_182 rfl rfl ?_
      refine om_iconst O (v := -1) dX9_tonightSet_183 (by decide) ?_
      refine om_ixor O dX9_tonightSet_184 ?_
      refine om_iand O dX9_tonightSet_185 ?_
      refine om_if_ne O (tgt := 204) dX9_tonightSet_186 (by decide) (fun c2o => ?_) (fun c2o => ?_)
      · replace h := (if_pos c2o).symm.trans h
        refine om_aload_n O 0 dX9_tonightSet_189 rfl rfl ?_
        revert h; refine om_refR (fun t2o y2o k2o h => ?_)
        refine gf_X9_35 O ka0 (om_lt ka0 (by decide)) dX9_tonightSet_190 ?_
        rw [y2o]
        refine om_iload O 4 dX9_tonightSet_193 rfl ?_
        revert h; refine om_iteR (fun i2o h => ?_)
        refine om_iald O k2o (om_lt k2o (by decide)) i2o dX9_tonightSet_195 ?_
        refine om_iload_n O 2 dX9_tonightSet_196 rfl rfl ?_
        refine om_icmp_lt O (tgt := 204) dX9_tonightSet_197 (by decide) (fun c3o => ?_) (fun c3o => ?_)
        · replace h := (if_pos c3o).symm.trans h
          exact g_X9_tonightSet_b204 O hE ih ka0 h
        · replace h := (if_neg c3o).symm.trans h
          refine om_iconst O (v := 1) dX9_tonightSet_200 (by decide) ?_
          refine om_goto O (tgt := 205) dX9_tonightSet_201 (by decide) ?_
          exact g_X9_tonightSet_b205 O hE ih ka0 h
      · replace h := (if_neg c2o).symm.trans h
        exact g_X9_tonightSet_b204 O hE ih ka0 h
def f_X9_tonightSet_b95 (lp55 : Nat → Int32 → Int32 → Int32 → om_S → Option (Int32 × om_S)) : Nat → Nat → Int32 → Int32 → Int32 → Int32 → Int32 → om_S → Option (Int32 × om_S)
  | 0, _, _, _, _, _, _, _ => none
  | F + 1, a0, v1, v2, v3, v4, v5, σ => if ((1 : Int32) <<< (v3 &&& 31)) ≤ v5 then (lp55 a0 v1 v2 (v3 + 1) σ) else (om_ref (om_rf a0 13) 20 fun (t1o : Nat) => om_ref (om_rf a0 13) 20 fun (t2o : Nat) => if om_in v5 (om_al t2o) then if om_in (v5 + ((1 : Int32) <<< (v3 &&& 31))) (om_al t1o) then om_let (om_w σ t1o (v5 + ((1 : Int32) <<< (v3 &&& 31))).toNatClampNeg ((σ t2o v5.toNatClampNeg) + v4)) fun (σ1o : om_S) => om_ref (om_rf a0 14) 20 fun (t3o : Nat) => om_ref (om_rf a0 14) 20 fun (t4o : Nat) => if om_in v5 (om_al t4o) then om_call (f_X9_its a0 v3 (4 : Int32) σ1o) fun (r1o : Int32) (σ2o : om_S) => if om_in (v5 + ((1 : Int32) <<< (v3 &&& 31))) (om_al t3o) then om_let (om_w σ2o t3o (v5 + ((1 : Int32) <<< (v3 &&& 31))).toNatClampNeg ((σ1o t4o v5.toNatClampNeg) + r1o)) fun (σ3o : om_S) => (f_X9_tonightSet_b95 lp55 F) a0 v1 v2 v3 v4 (v5 + 1) σ3o else none else none else none else none)
set_option maxRecDepth 100000 in
theorem g_X9_tonightSet_b95 {x : om_X}   (O : om_Ok x RX9 "tonightSet" cX9_tonightSet 6 (some FieldType.int) 5 0 0)   {r : Int32} {τ : om_S} (hE : om_End x (some (vI r)) τ om_rf om_N 0 0) {lp55 : Nat → Int32 → Int32 → Int32 → om_S → Option (Int32 × om_S)} (L55 : ∀ (a0 : Nat) (v1 : Int32) (v2 : Int32) (v3 : Int32) (σ : om_S) (ka0 : om_kc a0 = 9), lp55 a0 v1 v2 v3 σ = some (r, τ) → om_J x 55 [(0, vR (some a0)), (1, vI v1), (2, vI v2), (3, vI v3)] [] σ om_rf om_N 0 0) : ∀ (F : Nat) (a0 : Nat) (v1 : Int32) (v2 : Int32) (v3 : Int32) (v4 : Int32) (v5 : Int32) (σ : om_S) (ka0 : om_kc a0 = 9), f_X9_tonightSet_b95 lp55 F a0 v1 v2 v3 v4 v5 σ = some (r, τ) → om_J x 95 [(0, vR (some a0)), (1, vI v1), (2, vI v2), (3, vI v3), (4, vI v4), (5, vI v5)] [] σ om_rf om_N 0 0 := by
  intro F
  induction F with
  | zero =>
    intro a0 v1 v2 v3 v4 v5 σ ka0 h
    cases h
  | succ F ih =>
    intro a0 v1 v2 v3 v4 v5 σ ka0 h
    unfold f_X9_tonightSet_b95 at h
    refine om_iload O 5 dX9_tonightSet_95 rfl ?_
    refine om_iconst O (v := 1) dX9_tonightSet_97 (by decide) ?_
    refine om_iload_n O 3 dX9_tonightSet_98 rfl rfl ?_
    refine om_ishl O dX9_tonightSet_99 ?_
    refine om_icmp_ge O (tgt := 155) dX9_tonightSet_100 (by decide) (fun c1o => ?_) (fun c1o => ?_)
    · replace h := (if_pos c1o).symm.trans h
      refine om_iinc O (v1 := (v3 + 1)) (lv' := [(0, vR (some a0)), (1, vI v1), (2, vI v2), (3, vI (v3 + 1))]) 3 [1, 2, 3, 0] rfl dX9_tonightSet_155 rfl rfl (by decide) rfl ?_
      refine om_goto O (tgt := 55) dX9_tonightSet_158 (by decide) ?_
      exact L55 _ _ _ _ _ ka0 h
    · replace h := (if_neg c1o).symm.trans h
      refine om_aload_n O 0 dX9_tonightSet_103 rfl rfl ?_
      revert h; refine om_refR (fun t1o y1o k1o h => ?_)
      refine gf_X9_35 O ka0 (om_lt ka0 (by decide)) dX9_tonightSet_104 ?_
      rw [y1o]
      refine om_iload O 5 dX9_tonightSet_107 rfl ?_
      refine om_iconst O (v := 1) dX9_tonightSet_109 (by decide) ?_
      refine om_iload_n O 3 dX9_tonightSet_110 rfl rfl ?_
      refine om_ishl O dX9_tonightSet_111 ?_
      refine om_iadd O dX9_tonightSet_112 ?_
      refine om_aload_n O 0 dX9_tonightSet_113 rfl rfl ?_
      revert h; refine om_refR (fun t2o y2o k2o h => ?_)
      refine gf_X9_35 O ka0 (om_lt ka0 (by decide)) dX9_tonightSet_114 ?_
      rw [y2o]
      refine om_iload O 5 dX9_tonightSet_117 rfl ?_
      revert h; refine om_iteR (fun i1o h => ?_)
      refine om_iald O k2o (om_lt k2o (by decide)) i1o dX9_tonightSet_119 ?_
      refine om_iload O 4 dX9_tonightSet_120 rfl ?_
      refine om_iadd O dX9_tonightSet_122 ?_
      revert h; refine om_iteR (fun i2o h => ?_)
      revert h; refine om_letR (fun σ1o e1o h => ?_)
      refine om_iast O k1o (om_lt k1o (by decide)) i2o dX9_tonightSet_123 e1o ?_
      refine om_aload_n O 0 dX9_tonightSet_124 rfl rfl ?_
      revert h; refine om_refR (fun t3o y3o k3o h => ?_)
      refine gf_X9_38 O ka0 (om_lt ka0 (by decide)) dX9_tonightSet_125 ?_
      rw [y3o]
      refine om_iload O 5 dX9_tonightSet_128 rfl ?_
      refine om_iconst O (v := 1) dX9_tonightSet_130 (by decide) ?_
      refine om_iload_n O 3 dX9_tonightSet_131 rfl rfl ?_
      refine om_ishl O dX9_tonightSet_132 ?_
      refine om_iadd O dX9_tonightSet_133 ?_
      refine om_aload_n O 0 dX9_tonightSet_134 rfl rfl ?_
      revert h; refine om_refR (fun t4o y4o k4o h => ?_)
      refine gf_X9_38 O ka0 (om_lt ka0 (by decide)) dX9_tonightSet_135 ?_
      rw [y4o]
      refine om_iload O 5 dX9_tonightSet_138 rfl ?_
      revert h; refine om_iteR (fun i3o h => ?_)
      refine om_iald O k4o (om_lt k4o (by decide)) i3o dX9_tonightSet_140 ?_
      refine om_aload_n O 0 dX9_tonightSet_141 rfl rfl ?_
      refine om_iload_n O 3 dX9_tonightSet_142 rfl rfl ?_
      refine om_iconst O (v := 4) dX9_tonightSet_143 (by decide) ?_
      revert h; refine om_callR (fun r1o σ2o g1o h => ?_)
      refine cl_X9_120 O (st := [vI (σ1o t4o v5.toNatClampNeg), vI (v5 + ((1 : Int32) <<< (v3 &&& 31))), vR (some t3o)]) (stk := [vI (4 : Int32), vI v3, vR (some a0), vI (σ1o t4o v5.toNatClampNeg), vI (v5 + ((1 : Int32) <<< (v3 &&& 31))), vR (some t3o)]) (st2 := [vI r1o, vI (σ1o t4o v5.toNatClampNeg), vI (v5 + ((1 : Int32) <<< (v3 &&& 31))), vR (some t3o)]) [vI v3, vI (4 : Int32)] (fun l G => c_X9_its l G g1o) ka0 (om_lt ka0 (by decide)) (by decide) rfl rfl rfl_le rfl rfl_le rfl_le dX9_tonightSet_144 ?_
      refine om_iadd O dX9_tonightSet_147 ?_
      revert h; refine om_iteR (fun i4o h => ?_)
      revert h; refine om_letR (fun σ3o e2o h => ?_)
      refine om_iast O k3o (om_lt k3o (by decide)) i4o dX9_tonightSet_148 e2o ?_
      refine om_iinc O (v1 := (v5 + 1)) (lv' := [(0, vR (some a0)), (1, vI v1), (2, vI v2), (3, vI v3), (4, vI v4), (5, vI (v5 + 1))]) 5 [1, 2, 3, 4, 5, 0] rfl dX9_tonightSet_149 rfl rfl (by decide) rfl ?_
      refine om_goto O (tgt := 95) dX9_tonightSet_152 (by decide) ?_
      exact ih _ _ _ _ _ _ _ ka0 h
def f_X9_tonightSet_b90 (lp55 : Nat → Int32 → Int32 → Int32 → om_S → Option (Int32 × om_S)) (a0 : Nat) (v1 : Int32) (v2 : Int32) (v3 : Int32) (s0 : Int32) (σ : om_S) : Option (Int32 × om_S) := f_X9_tonightSet_b95 lp55 om_F a0 v1 v2 v3 s0 (0 : Int32) σ
set_option maxRecDepth 100000 in
theorem g_X9_tonightSet_b90 {x : om_X}   (O : om_Ok x RX9 "tonightSet" cX9_tonightSet 6 (some FieldType.int) 5 0 0)   {r : Int32} {τ : om_S} (hE : om_End x (some (vI r)) τ om_rf om_N 0 0) {lp55 : Nat → Int32 → Int32 → Int32 → om_S → Option (Int32 × om_S)} (L55 : ∀ (a0 : Nat) (v1 : Int32) (v2 : Int32) (v3 : Int32) (σ : om_S) (ka0 : om_kc a0 = 9), lp55 a0 v1 v2 v3 σ = some (r, τ) → om_J x 55 [(0, vR (some a0)), (1, vI v1), (2, vI v2), (3, vI v3)] [] σ om_rf om_N 0 0) {a0 : Nat} {v1 : Int32} {v2 : Int32} {v3 : Int32} {s0 : Int32} {σ : om_S} (ka0 : om_kc a0 = 9) (h : f_X9_tonightSet_b90 lp55 a0 v1 v2 v3 s0 σ = some (r, τ)) : om_J x 90 [(0, vR (some a0)), (1, vI v1), (2, vI v2), (3, vI v3)] [vI s0] σ om_rf om_N 0 0 := by
  unfold f_X9_tonightSet_b90 at h
  refine om_istore O (lv' := [(0, vR (some a0)), (1, vI v1), (2, vI v2), (3, vI v3), (4, vI s0)]) [1, 2, 3, 4, 0] rfl dX9_tonightSet_90 (by decide) rfl ?_
  refine om_iconst O (v := 0) dX9_tonightSet_92 (by decide) ?_
  refine om_istore O (lv' := [(0, vR (some a0)), (1, vI v1), (2, vI v2), (3, vI v3), (4, vI s0), (5, vI (0 : Int32))]) [1, 2, 3, 4, 5, 0] rfl dX9_tonightSet_93 (by decide) rfl ?_
  exact g_X9_tonightSet_b95 O hE L55 om_F _ _ _ _ _ _ _ ka0 h
def f_X9_tonightSet_b55  : Nat → Nat → Int32 → Int32 → Int32 → om_S → Option (Int32 × om_S)
  | 0, _, _, _, _, _ => none
  | F + 1, a0, v1, v2, v3, σ => om_ref (om_rf a0 0) 20 fun (t1o : Nat) => if om_in (6 : Int32) (om_al t1o) then if (σ t1o (6 : Int32).toNatClampNeg) ≤ v3 then (f_X9_tonightSet_b166 om_F a0 v1 v2 (-1 : Int32) (0 : Int32) σ) else (if ((v1 >>> (v3 &&& 31)) &&& (1 : Int32)) = (1 : Int32) then (om_call (f_X9_its a0 v3 (2 : Int32) σ) fun (r1o : Int32) (σ1o : om_S) => om_call (f_X9_givesBy a0 v3 r1o σ1o) fun (r2o : Int32) (σ2o : om_S) => f_X9_tonightSet_b90 (f_X9_tonightSet_b55 F) a0 v1 v2 v3 r2o σ2o) else (f_X9_tonightSet_b90 (f_X9_tonightSet_b55 F) a0 v1 v2 v3 (0 : Int32) σ)) else none
set_option maxRecDepth 100000 in
theorem g_X9_tonightSet_b55 {x : om_X}   (O : om_Ok x RX9 "tonightSet" cX9_tonightSet 6 (some FieldType.int) 5 0 0)   {r : Int32} {τ : om_S} (hE : om_End x (some (vI r)) τ om_rf om_N 0 0)   : ∀ (F : Nat) (a0 : Nat) (v1 : Int32) (v2 : Int32) (v3 : Int32) (σ : om_S) (ka0 : om_kc a0 = 9), f_X9_tonightSet_b55 F a0 v1 v2 v3 σ = some (r, τ) → om_J x 55 [(0, vR (some a0)), (1, vI v1), (2, vI v2), (3, vI v3)] [] σ om_rf om_N 0 0 := by
  intro F
  induction F with
  | zero =>
    intro a0 v1 v2 v3 σ ka0 h
    cases h
  | succ F ih =>
    intro a0 v1 v2 v3 σ ka0 h
    unfold f_X9_tonightSet_b55 at h
    refine om_iload_n O 3 dX9_tonightSet_55 rfl rfl ?_
    refine om_aload_n O 0 dX9_tonightSet_56 rfl rfl ?_
    revert h; refine om_refR (fun t1o y1o k1o h => ?_)
    refine gf_X9_7 O ka0 (om_lt ka0 (by decide)) dX9_tonightSet_57 ?_
    rw [y1o]
    refine om_bipush O (v := 6) dX9_tonightSet_60 (by decide) ?_
    revert h; refine om_iteR (fun i1o h => ?_)
    refine om_iald O k1o (om_lt k1o (by decide)) i1o dX9_tonightSet_62 ?_
    refine om_icmp_ge O (tgt := 161) dX9_tonightSet_63 (by decide) (fun c1o => ?_) (fun c1o => ?_)
    · replace h := (if_pos c1o).symm.trans h
      refine om_iconst O (v := -1) dX9_tonightSet_161 (by decide) ?_
      refine om_istore_n O (lv' := [(0, vR (some a0)), (1, vI v1), (2, vI v2), (3, vI (-1 : Int32))]) [1, 2, 3, 0] rfl dX9_tonightSet_162 rfl (by decide) rfl ?_
      refine om_iconst O (v := 0) dX9_tonightSet_163 (by decide) ?_
      refine om_istore O (lv' := [(0, vR (some a0)), (1, vI v1), (2, vI v2), (3, vI (-1 : Int32)), (4, vI (0 : Int32))]) [1, 2, 3, 4, 0] rfl dX9_tonightSet_164 (by decide) rfl ?_
      exact g_X9_tonightSet_b166 O hE om_F _ _ _ _ _ _ ka0 h
    · replace h := (if_neg c1o).symm.trans h
      refine om_iload_n O 1 dX9_tonightSet_66 rfl rfl ?_
      refine om_iload_n O 3 dX9_tonightSet_67 rfl rfl ?_
      refine om_ishr O dX9_tonightSet_68 ?_
      refine om_iconst O (v := 1) dX9_tonightSet_69 (by decide) ?_
      refine om_iand O dX9_tonightSet_70 ?_
      refine om_iconst O (v := 1) dX9_tonightSet_71 (by decide) ?_
      refine om_icmp_ne O (tgt := 89) dX9_tonightSet_72 (by decide) (fun c2o => ?_) (fun c2o => ?_)
      · replace h := (if_pos c2o).symm.trans h
        refine om_aload_n O 0 dX9_tonightSet_75 rfl rfl ?_
        refine om_iload_n O 3 dX9_tonightSet_76 rfl rfl ?_
        refine om_aload_n O 0 dX9_tonightSet_77 rfl rfl ?_
        refine om_iload_n O 3 dX9_tonightSet_78 rfl rfl ?_
        refine om_iconst O (v := 2) dX9_tonightSet_79 (by decide) ?_
        revert h; refine om_callR (fun r1o σ1o g1o h => ?_)
        refine cl_X9_120 O (st := [vI v3, vR (some a0)]) (stk := [vI (2 : Int32), vI v3, vR (some a0), vI v3, vR (some a0)]) (st2 := [vI r1o, vI v3, vR (some a0)]) [vI v3, vI (2 : Int32)] (fun l G => c_X9_its l G g1o) ka0 (om_lt ka0 (by decide)) (by decide) rfl rfl rfl_le rfl rfl_le rfl_le dX9_tonightSet_80 ?_
        revert h; refine om_callR (fun r2o σ2o g2o h => ?_)
        refine cl_X9_151 O (st := []) (stk := [vI r1o, vI v3, vR (some a0)]) (st2 := [vI r2o]) [vI v3, vI r1o] (fun l G => c_X9_givesBy l G g2o) ka0 (om_lt ka0 (by decide)) (by decide) rfl rfl rfl_le rfl rfl_le rfl_le dX9_tonightSet_83 ?_
        refine om_goto O (tgt := 90) dX9_tonightSet_86 (by decide) ?_
        exact g_X9_tonightSet_b90 O hE ih ka0 h
      · replace h := (if_neg c2o).symm.trans h
        refine om_iconst O (v := 0) dX9_tonightSet_89 (by decide) ?_
        exact g_X9_tonightSet_b90 O hE ih ka0 h
def f_X9_tonightSet_b40 (lp4 : Nat → Int32 → Int32 → om_S → Option (Int32 × om_S)) (a0 : Nat) (v2 : Int32) (s0 : Int32) (s1 : Int32) (σ : om_S) : Option (Int32 × om_S) := lp4 a0 (s0 ||| s1) (v2 + 1) σ
set_option maxRecDepth 100000 in
theorem g_X9_tonightSet_b40 {x : om_X}   (O : om_Ok x RX9 "tonightSet" cX9_tonightSet 6 (some FieldType.int) 5 0 0)   {r : Int32} {τ : om_S} (hE : om_End x (some (vI r)) τ om_rf om_N 0 0) {lp4 : Nat → Int32 → Int32 → om_S → Option (Int32 × om_S)} (L4 : ∀ (a0 : Nat) (v1 : Int32) (v2 : Int32) (σ : om_S) (ka0 : om_kc a0 = 9), lp4 a0 v1 v2 σ = some (r, τ) → om_J x 4 [(0, vR (some a0)), (1, vI v1), (2, vI v2)] [] σ om_rf om_N 0 0) {a0 : Nat} {v2 : Int32} {s0 : Int32} {s1 : Int32} {σ : om_S} (ka0 : om_kc a0 = 9) (h : f_X9_tonightSet_b40 lp4 a0 v2 s0 s1 σ = some (r, τ)) : om_J x 40 [(0, vR (some a0)), (2, vI v2)] [vI s1, vI s0] σ om_rf om_N 0 0 := by
  unfold f_X9_tonightSet_b40 at h
  refine om_ior O dX9_tonightSet_40 ?_
  refine om_istore_n O (lv' := [(0, vR (some a0)), (1, vI (s0 ||| s1)), (2, vI v2)]) [1, 0, 2] rfl dX9_tonightSet_41 rfl (by decide) rfl ?_
  refine om_iinc O (v1 := (v2 + 1)) (lv' := [(0, vR (some a0)), (1, vI (s0 ||| s1)), (2, vI (v2 + 1))]) 2 [1, 2, 0] rfl dX9_tonightSet_42 rfl rfl (by decide) rfl ?_
  refine om_goto O (tgt := 4) dX9_tonightSet_45 (by decide) ?_
  exact L4 _ _ _ _ ka0 h
def f_X9_tonightSet_b39 (lp4 : Nat → Int32 → Int32 → om_S → Option (Int32 × om_S)) (a0 : Nat) (v2 : Int32) (s0 : Int32) (σ : om_S) : Option (Int32 × om_S) := f_X9_tonightSet_b40 lp4 a0 v2 s0 (0 : Int32) σ
set_option maxRecDepth 100000 in
theorem g_X9_tonightSet_b39 {x : om_X}   (O : om_Ok x RX9 "tonightSet" cX9_tonightSet 6 (some FieldType.int) 5 0 0)   {r : Int32} {τ : om_S} (hE : om_End x (some (vI r)) τ om_rf om_N 0 0) {lp4 : Nat → Int32 → Int32 → om_S → Option (Int32 × om_S)} (L4 : ∀ (a0 : Nat) (v1 : Int32) (v2 : Int32) (σ : om_S) (ka0 : om_kc a0 = 9), lp4 a0 v1 v2 σ = some (r, τ) → om_J x 4 [(0, vR (some a0)), (1, vI v1), (2, vI v2)] [] σ om_rf om_N 0 0) {a0 : Nat} {v2 : Int32} {s0 : Int32} {σ : om_S} (ka0 : om_kc a0 = 9) (h : f_X9_tonightSet_b39 lp4 a0 v2 s0 σ = some (r, τ)) : om_J x 39 [(0, vR (some a0)), (2, vI v2)] [vI s0] σ om_rf om_N 0 0 := by
  unfold f_X9_tonightSet_b39 at h
  refine om_iconst O (v := 0) dX9_tonightSet_39 (by decide) ?_
  exact g_X9_tonightSet_b40 O hE L4 ka0 h
def f_X9_tonightSet_b4  : Nat → Nat → Int32 → Int32 → om_S → Option (Int32 × om_S)
  | 0, _, _, _, _ => none
  | F + 1, a0, v1, v2, σ => om_ref (om_rf a0 0) 20 fun (t1o : Nat) => if om_in (6 : Int32) (om_al t1o) then if (σ t1o (6 : Int32).toNatClampNeg) ≤ v2 then (om_call (f_X9_wanted a0 σ) fun (r1o : Int32) (σ1o : om_S) => f_X9_tonightSet_b55 om_F a0 v1 r1o (0 : Int32) σ1o) else (om_call (f_X9_its a0 v2 (3 : Int32) σ) fun (r2o : Int32) (σ2o : om_S) => if r2o ≤ 0 then (f_X9_tonightSet_b39 (f_X9_tonightSet_b4 F) a0 v2 v1 σ2o) else (if v2 = (σ2o a0 5) then (f_X9_tonightSet_b39 (f_X9_tonightSet_b4 F) a0 v2 v1 σ2o) else (f_X9_tonightSet_b40 (f_X9_tonightSet_b4 F) a0 v2 v1 ((1 : Int32) <<< (v2 &&& 31)) σ2o))) else none
set_option maxRecDepth 100000 in
theorem g_X9_tonightSet_b4 {x : om_X}   (O : om_Ok x RX9 "tonightSet" cX9_tonightSet 6 (some FieldType.int) 5 0 0)   {r : Int32} {τ : om_S} (hE : om_End x (some (vI r)) τ om_rf om_N 0 0)   : ∀ (F : Nat) (a0 : Nat) (v1 : Int32) (v2 : Int32) (σ : om_S) (ka0 : om_kc a0 = 9), f_X9_tonightSet_b4 F a0 v1 v2 σ = some (r, τ) → om_J x 4 [(0, vR (some a0)), (1, vI v1), (2, vI v2)] [] σ om_rf om_N 0 0 := by
  intro F
  induction F with
  | zero =>
    intro a0 v1 v2 σ ka0 h
    cases h
  | succ F ih =>
    intro a0 v1 v2 σ ka0 h
    unfold f_X9_tonightSet_b4 at h
    refine om_iload_n O 2 dX9_tonightSet_4 rfl rfl ?_
    refine om_aload_n O 0 dX9_tonightSet_5 rfl rfl ?_
    revert h; refine om_refR (fun t1o y1o k1o h => ?_)
    refine gf_X9_7 O ka0 (om_lt ka0 (by decide)) dX9_tonightSet_6 ?_
    rw [y1o]
    refine om_bipush O (v := 6) dX9_tonightSet_9 (by decide) ?_
    revert h; refine om_iteR (fun i1o h => ?_)
    refine om_iald O k1o (om_lt k1o (by decide)) i1o dX9_tonightSet_11 ?_
    refine om_icmp_ge O (tgt := 48) dX9_tonightSet_12 (by decide) (fun c1o => ?_) (fun c1o => ?_)
    · replace h := (if_pos c1o).symm.trans h
      refine om_aload_n O 0 dX9_tonightSet_48 rfl rfl ?_
      revert h; refine om_callR (fun r1o σ1o g1o h => ?_)
      refine cl_X9_148 O (st := []) (stk := [vR (some a0)]) (st2 := [vI r1o]) [] (fun l G => c_X9_wanted l G g1o) ka0 (om_lt ka0 (by decide)) (by decide) rfl rfl rfl_le rfl rfl_le rfl_le dX9_tonightSet_49 ?_
      refine om_istore_n O (lv' := [(0, vR (some a0)), (1, vI v1), (2, vI r1o)]) [1, 2, 0] rfl dX9_tonightSet_52 rfl (by decide) rfl ?_
      refine om_iconst O (v := 0) dX9_tonightSet_53 (by decide) ?_
      refine om_istore_n O (lv' := [(0, vR (some a0)), (1, vI v1), (2, vI r1o), (3, vI (0 : Int32))]) [1, 2, 3, 0] rfl dX9_tonightSet_54 rfl (by decide) rfl ?_
      exact g_X9_tonightSet_b55 O hE om_F _ _ _ _ _ ka0 h
    · replace h := (if_neg c1o).symm.trans h
      refine om_iload_n O 1 dX9_tonightSet_15 rfl rfl ?_
      refine om_aload_n O 0 dX9_tonightSet_16 rfl rfl ?_
      refine om_iload_n O 2 dX9_tonightSet_17 rfl rfl ?_
      refine om_iconst O (v := 3) dX9_tonightSet_18 (by decide) ?_
      revert h; refine om_callR (fun r2o σ2o g2o h => ?_)
      refine cl_X9_120 O (st := [vI v1]) (stk := [vI (3 : Int32), vI v2, vR (some a0), vI v1]) (st2 := [vI r2o, vI v1]) [vI v2, vI (3 : Int32)] (fun l G => c_X9_its l G g2o) ka0 (om_lt ka0 (by decide)) (by decide) rfl rfl rfl_le rfl rfl_le rfl_le dX9_tonightSet_19 ?_
      refine om_if_le O (tgt := 39) dX9_tonightSet_22 (by decide) (fun c2o => ?_) (fun c2o => ?_)
      · replace h := (if_pos c2o).symm.trans h
        refine om_drop (lv' := [(0, vR (some a0)), (2, vI v2)]) [0, 2] rfl ?_
        exact g_X9_tonightSet_b39 O hE ih ka0 h
      · replace h := (if_neg c2o).symm.trans h
        refine om_iload_n O 2 dX9_tonightSet_25 rfl rfl ?_
        refine om_aload_n O 0 dX9_tonightSet_26 rfl rfl ?_
        refine gf_X9_22 O ka0 (om_lt ka0 (by decide)) dX9_tonightSet_27 ?_
        refine om_icmp_eq O (tgt := 39) dX9_tonightSet_30 (by decide) (fun c3o => ?_) (fun c3o => ?_)
        · replace h := (if_pos c3o).symm.trans h
          refine om_drop (lv' := [(0, vR (some a0)), (2, vI v2)]) [0, 2] rfl ?_
          exact g_X9_tonightSet_b39 O hE ih ka0 h
        · replace h := (if_neg c3o).symm.trans h
          refine om_iconst O (v := 1) dX9_tonightSet_33 (by decide) ?_
          refine om_iload_n O 2 dX9_tonightSet_34 rfl rfl ?_
          refine om_ishl O dX9_tonightSet_35 ?_
          refine om_goto O (tgt := 40) dX9_tonightSet_36 (by decide) ?_
          refine om_drop (lv' := [(0, vR (some a0)), (2, vI v2)]) [0, 2] rfl ?_
          exact g_X9_tonightSet_b40 O hE ih ka0 h
def f_X9_tonightSet  (a0 : Nat) (σ : om_S) : Option (Int32 × om_S) := if om_kc a0 = 9 then f_X9_tonightSet_b4 om_F a0 (0 : Int32) (0 : Int32) σ else none
set_option maxRecDepth 100000 in
theorem c_X9_tonightSet (l : Launch) (G : om_G) {a0 : Nat} {σ : om_S} {r : Int32} {τ : om_S} (h : f_X9_tonightSet a0 σ = some (r, τ)) : om_D l G 5 yX9_tonightSet cX9_tonightSet 6 (some FieldType.int) 0 0 [vR (some a0)] σ om_rf om_N (some (vI r)) τ om_rf om_N := by
  refine om_Dof (lv := [(0, vR (some a0))]) (by decide) rfl_le rfl (fun x O hE => ?_)
  change om_Ok x RX9 "tonightSet" cX9_tonightSet 6 (some FieldType.int) 5 0 0 at O
  unfold f_X9_tonightSet at h
  revert h; refine om_iteR (fun ka0 h => ?_)
  refine om_iconst O (v := 0) dX9_tonightSet_0 (by decide) ?_
  refine om_istore_n O (lv' := [(0, vR (some a0)), (1, vI (0 : Int32))]) [1, 0] rfl dX9_tonightSet_1 rfl (by decide) rfl ?_
  refine om_iconst O (v := 0) dX9_tonightSet_2 (by decide) ?_
  refine om_istore_n O (lv' := [(0, vR (some a0)), (1, vI (0 : Int32)), (2, vI (0 : Int32))]) [1, 2, 0] rfl dX9_tonightSet_3 rfl (by decide) rfl ?_
  exact g_X9_tonightSet_b4 O hE om_F _ _ _ _ ka0 h
