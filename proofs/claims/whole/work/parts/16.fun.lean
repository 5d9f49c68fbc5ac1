def fo_X9_glowsAs (rc_glowsAs : Nat → Int32 → Int32 → om_S → Option (Int32 × om_S)) (a0 : Nat) (v1 : Int32) (v2 : Int32) (σ : om_S) : Option (Int32 × om_S) := if om_kc a0 = 9 then if v1 = 0 then (om_do (f_X9_starts a0 (10 : Int32) σ) fun (σ1o : om_S) => some ((v2 + (σ1o a0 17)), σ1o)) else (if v1 = 1 then (om_do (f_X9_starts a0 (20 : Int32) σ) fun (σ2o : om_S) => om_call (f_X9_above (1 : Int32) σ2o) fun (r1o : Int32) (σ3o : om_S) => om_call (rc_glowsAs a0 r1o v2 σ3o) fun (r2o : Int32) (σ4o : om_S) => some ((r2o - (4 : Int32)), σ4o)) else (if v1 = 4 then (om_do (f_X9_starts a0 (50 : Int32) σ) fun (σ5o : om_S) => om_call (f_X9_above (4 : Int32) σ5o) fun (r3o : Int32) (σ6o : om_S) => om_call (rc_glowsAs a0 r3o v2 σ6o) fun (r4o : Int32) (σ7o : om_S) => some ((r4o * (3 : Int32)), σ7o)) else (if v1 = 6 then (om_do (f_X9_starts a0 (70 : Int32) σ) fun (σ8o : om_S) => some ((9 : Int32), σ8o)) else (om_call (f_X9_above v1 σ) fun (r5o : Int32) (σ9o : om_S) => om_call (rc_glowsAs a0 r5o v2 σ9o) fun (r6o : Int32) (σ10o : om_S) => some (r6o, σ10o))))) else none
set_option maxRecDepth 100000 in
theorem co_X9_glowsAs {rc_glowsAs : Nat → Int32 → Int32 → om_S → Option (Int32 × om_S)} {kd : Nat} (hkd : 1 ≤ kd) (H_glowsAs : ∀ (a0 : Nat) (v1 : Int32) (v2 : Int32) (σ : om_S) (r : Int32) (τ : om_S), rc_glowsAs a0 v1 v2 σ = some (r, τ) → ∀ (l : Launch) (G : om_G), om_D l G kd yX9_glowsAs cX9_glowsAs 3 (some FieldType.int) 0 0 [vR (some a0), vI v1, vI v2] σ om_rf om_N (some (vI r)) τ om_rf om_N) (l : Launch) (G : om_G) {a0 : Nat} {v1 : Int32} {v2 : Int32} {σ : om_S} {r : Int32} {τ : om_S} (h : fo_X9_glowsAs rc_glowsAs a0 v1 v2 σ = some (r, τ)) : om_D l G (kd + 1) yX9_glowsAs cX9_glowsAs 3 (some FieldType.int) 0 0 [vR (some a0), vI v1, vI v2] σ om_rf om_N (some (vI r)) τ om_rf om_N := by
  refine om_Dof (lv := [(0, vR (some a0)), (1, vI v1), (2, vI v2)]) (by decide) rfl_le rfl (fun x O hE => ?_)
  change om_Ok x RX9 "glowsAs" cX9_glowsAs 3 (some FieldType.int) (kd + 1) 0 0 at O
  unfold fo_X9_glowsAs at h
  revert h; refine om_iteR (fun ka0 h => ?_)
  refine om_iload_n O 1 dX9_glowsAs_0 rfl rfl ?_
  by_cases c1o : v1 = 0
  · replace h := (if_pos c1o).symm.trans h
    refine om_tblIn O (b := 0) (off := 43) (tgt := 44) dX9_glowsAs_1 c1o (by decide) (by decide) (by decide +kernel) (by decide) ?_
    refine om_aload_n O 0 dX9_glowsAs_44 rfl rfl ?_
    refine om_bipush O (v := 10) dX9_glowsAs_45 (by decide) ?_
    revert h; refine om_doR (fun σ1o g1o h => ?_)
    refine cl_X9_216 O (st := []) (stk := [vI (10 : Int32), vR (some a0)]) (st2 := []) [vI (10 : Int32)] (fun l G => c_X9_starts l G g1o) ka0 (om_lt ka0 (by decide)) (by omega) rfl rfl rfl_le rfl rfl_le rfl_le dX9_glowsAs_47 ?_
    refine om_iload_n O 2 dX9_glowsAs_50 rfl rfl ?_
    refine om_aload_n O 0 dX9_glowsAs_51 rfl rfl ?_
    refine gf_X9_213 O ka0 (om_lt ka0 (by decide)) dX9_glowsAs_52 ?_
    refine om_iadd O dX9_glowsAs_55 ?_
    exact om_iret (st := []) O (om_eI hE h) rfl dX9_glowsAs_56
  · replace h := (if_neg c1o).symm.trans h
    by_cases c2o : v1 = 1
    · replace h := (if_pos c2o).symm.trans h
      refine om_tblIn O (b := 1) (off := 56) (tgt := 57) dX9_glowsAs_1 c2o (by decide) (by decide) (by decide +kernel) (by decide) ?_
      refine om_aload_n O 0 dX9_glowsAs_57 rfl rfl ?_
      refine om_bipush O (v := 20) dX9_glowsAs_58 (by decide) ?_
      revert h; refine om_doR (fun σ2o g2o h => ?_)
      refine cl_X9_216 O (st := []) (stk := [vI (20 : Int32), vR (some a0)]) (st2 := []) [vI (20 : Int32)] (fun l G => c_X9_starts l G g2o) ka0 (om_lt ka0 (by decide)) (by omega) rfl rfl rfl_le rfl rfl_le rfl_le dX9_glowsAs_60 ?_
      refine om_aload_n O 0 dX9_glowsAs_63 rfl rfl ?_
      refine om_iconst O (v := 1) dX9_glowsAs_64 (by decide) ?_
      revert h; refine om_callR (fun r1o σ3o g3o h => ?_)
      refine cl_X9_174 O (st := [vR (some a0)]) (stk := [vI (1 : Int32), vR (some a0)]) (st2 := [vI r1o, vR (some a0)]) [vI (1 : Int32)] (fun l G => c_X9_above l G g3o) (by omega) rfl rfl rfl_le rfl rfl_le rfl_le dX9_glowsAs_65 ?_
      refine om_iload_n O 2 dX9_glowsAs_68 rfl rfl ?_
      revert h; refine om_callR (fun r2o σ4o g4o h => ?_)
      refine cl_X9_220 O (st := []) (stk := [vI v2, vI r1o, vR (some a0)]) (st2 := [vI r2o]) [vI r1o, vI v2] (H_glowsAs _ _ _ _ _ _ g4o) ka0 (om_lt ka0 (by decide)) (Nat.le_refl _) rfl rfl rfl_le rfl rfl_le rfl_le dX9_glowsAs_69 ?_
      refine om_iconst O (v := 4) dX9_glowsAs_72 (by decide) ?_
      refine om_isub O dX9_glowsAs_73 ?_
      exact om_iret (st := []) O (om_eI hE h) rfl dX9_glowsAs_74
    · replace h := (if_neg c2o).symm.trans h
      by_cases c3o : v1 = 4
      · replace h := (if_pos c3o).symm.trans h
        refine om_tblIn O (b := 4) (off := 74) (tgt := 75) dX9_glowsAs_1 c3o (by decide) (by decide) (by decide +kernel) (by decide) ?_
        refine om_aload_n O 0 dX9_glowsAs_75 rfl rfl ?_
        refine om_bipush O (v := 50) dX9_glowsAs_76 (by decide) ?_
        revert h; refine om_doR (fun σ5o g5o h => ?_)
        refine cl_X9_216 O (st := []) (stk := [vI (50 : Int32), vR (some a0)]) (st2 := []) [vI (50 : Int32)] (fun l G => c_X9_starts l G g5o) ka0 (om_lt ka0 (by decide)) (by omega) rfl rfl rfl_le rfl rfl_le rfl_le dX9_glowsAs_78 ?_
        refine om_aload_n O 0 dX9_glowsAs_81 rfl rfl ?_
        refine om_iconst O (v := 4) dX9_glowsAs_82 (by decide) ?_
        revert h; refine om_callR (fun r3o σ6o g6o h => ?_)
        refine cl_X9_174 O (st := [vR (some a0)]) (stk := [vI (4 : Int32), vR (some a0)]) (st2 := [vI r3o, vR (some a0)]) [vI (4 : Int32)] (fun l G => c_X9_above l G g6o) (by omega) rfl rfl rfl_le rfl rfl_le rfl_le dX9_glowsAs_83 ?_
        refine om_iload_n O 2 dX9_glowsAs_86 rfl rfl ?_
        revert h; refine om_callR (fun r4o σ7o g7o h => ?_)
        refine cl_X9_220 O (st := []) (stk := [vI v2, vI r3o, vR (some a0)]) (st2 := [vI r4o]) [vI r3o, vI v2] (H_glowsAs _ _ _ _ _ _ g7o) ka0 (om_lt ka0 (by decide)) (Nat.le_refl _) rfl rfl rfl_le rfl rfl_le rfl_le dX9_glowsAs_87 ?_
        refine om_iconst O (v := 3) dX9_glowsAs_90 (by decide) ?_
        refine om_imul O dX9_glowsAs_91 ?_
        exact om_iret (st := []) O (om_eI hE h) rfl dX9_glowsAs_92
      · replace h := (if_neg c3o).symm.trans h
        by_cases c4o : v1 = 6
        · replace h := (if_pos c4o).symm.trans h
          refine om_tblIn O (b := 6) (off := 92) (tgt := 93) dX9_glowsAs_1 c4o (by decide) (by decide) (by decide +kernel) (by decide) ?_
          refine om_aload_n O 0 dX9_glowsAs_93 rfl rfl ?_
          refine om_bipush O (v := 70) dX9_glowsAs_94 (by decide) ?_
          revert h; refine om_doR (fun σ8o g8o h => ?_)
          refine cl_X9_216 O (st := []) (stk := [vI (70 : Int32), vR (some a0)]) (st2 := []) [vI (70 : Int32)] (fun l G => c_X9_starts l G g8o) ka0 (om_lt ka0 (by decide)) (by omega) rfl rfl rfl_le rfl rfl_le rfl_le dX9_glowsAs_96 ?_
          refine om_bipush O (v := 9) dX9_glowsAs_99 (by decide) ?_
          exact om_iret (st := []) O (om_eI hE h) rfl dX9_glowsAs_101
        · replace h := (if_neg c4o).symm.trans h
          refine om_tblDef O (tgt := 102) dX9_glowsAs_1 (fun v hv h1 h2 => by
    have h3 : v = 0 ∨ v = 1 ∨ v = 2 ∨ v = 3 ∨ v = 4 ∨ v = 5 ∨ v = 6 := by omega
    rcases h3 with rfl | rfl | rfl | rfl | rfl | rfl | rfl <;> first | rfl | exact absurd hv.symm (lv_neT (k := 0) c1o (by decide)) | exact absurd hv.symm (lv_neT (k := 1) c2o (by decide)) | exact absurd hv.symm (lv_neT (k := 4) c3o (by decide)) | exact absurd hv.symm (lv_neT (k := 6) c4o (by decide))) (by decide) ?_
          refine om_aload_n O 0 dX9_glowsAs_102 rfl rfl ?_
          refine om_iload_n O 1 dX9_glowsAs_103 rfl rfl ?_
          revert h; refine om_callR (fun r5o σ9o g9o h => ?_)
          refine cl_X9_174 O (st := [vR (some a0)]) (stk := [vI v1, vR (some a0)]) (st2 := [vI r5o, vR (some a0)]) [vI v1] (fun l G => c_X9_above l G g9o) (by omega) rfl rfl rfl_le rfl rfl_le rfl_le dX9_glowsAs_104 ?_
          refine om_iload_n O 2 dX9_glowsAs_107 rfl rfl ?_
          revert h; refine om_callR (fun r6o σ10o g10o h => ?_)
          refine cl_X9_220 O (st := []) (stk := [vI v2, vI r5o, vR (some a0)]) (st2 := [vI r6o]) [vI r5o, vI v2] (H_glowsAs _ _ _ _ _ _ g10o) ka0 (om_lt ka0 (by decide)) (Nat.le_refl _) rfl rfl rfl_le rfl rfl_le rfl_le dX9_glowsAs_108 ?_
          exact om_iret (st := []) O (om_eI hE h) rfl dX9_glowsAs_111
def grp_X9_glowsAs : Nat → (Nat → Int32 → Int32 → om_S → Option (Int32 × om_S))
  | 0 => (fun _ _ _ _ => none)
  | d + 1 => (fo_X9_glowsAs (grp_X9_glowsAs d))
def f_X9_glowsAs : Nat → Int32 → Int32 → om_S → Option (Int32 × om_S) := (grp_X9_glowsAs 12)
set_option maxRecDepth 100000 in
theorem cg_X9_glowsAs : ∀ d : Nat, (∀ (a0 : Nat) (v1 : Int32) (v2 : Int32) (σ : om_S) (r : Int32) (τ : om_S), (grp_X9_glowsAs d) a0 v1 v2 σ = some (r, τ) → ∀ (l : Launch) (G : om_G), om_D l G (1 + d) yX9_glowsAs cX9_glowsAs 3 (some FieldType.int) 0 0 [vR (some a0), vI v1, vI v2] σ om_rf om_N (some (vI r)) τ om_rf om_N) := by
  intro d
  induction d with
  | zero => exact fun _ _ _ _ _ _ h => absurd (show none = some _ from h) (by intro hh; cases hh)
  | succ d ih => exact fun _ _ _ _ _ _ h l G => co_X9_glowsAs (kd := 1 + d) (by omega) ih l G h
set_option maxRecDepth 100000 in
theorem c_X9_glowsAs (l : Launch) (G : om_G) {a0 : Nat} {v1 : Int32} {v2 : Int32} {σ : om_S} {r : Int32} {τ : om_S} (h : f_X9_glowsAs a0 v1 v2 σ = some (r, τ)) : om_D l G 13 yX9_glowsAs cX9_glowsAs 3 (some FieldType.int) 0 0 [vR (some a0), vI v1, vI v2] σ om_rf om_N (some (vI r)) τ om_rf om_N := (cg_X9_glowsAs 12) _ _ _ _ _ _ h l G
def fo_X9_turnsAs (rc_turnsAs : Nat → Int32 → Int32 → om_S → Option (Int32 × om_S)) (a0 : Nat) (v1 : Int32) (v2 : Int32) (σ : om_S) : Option (Int32 × om_S) := if om_kc a0 = 9 then if v1 = 0 then (om_do (f_X9_starts a0 (11 : Int32) σ) fun (σ1o : om_S) => om_call (f_X9_kindNow a0 σ1o) fun (r1o : Int32) (σ2o : om_S) => om_call (f_X9_glowsAs a0 r1o v2 σ2o) fun (r2o : Int32) (σ3o : om_S) => some ((r2o * (2 : Int32)), σ3o)) else (if v1 = 2 then (om_do (f_X9_starts a0 (30 : Int32) σ) fun (σ4o : om_S) => om_call (f_X9_above (2 : Int32) σ4o) fun (r3o : Int32) (σ5o : om_S) => om_call (rc_turnsAs a0 r3o v2 σ5o) fun (r4o : Int32) (σ6o : om_S) => some (((0 : Int32) - r4o), σ6o)) else (if v1 = 5 then (om_do (f_X9_starts a0 (60 : Int32) σ) fun (σ7o : om_S) => om_call (f_X9_above (5 : Int32) σ7o) fun (r5o : Int32) (σ8o : om_S) => om_call (rc_turnsAs a0 r5o (v2 + (1 : Int32)) σ8o) fun (r6o : Int32) (σ9o : om_S) => some (r6o, σ9o)) else (if v1 = 6 then (om_do (f_X9_starts a0 (71 : Int32) σ) fun (σ10o : om_S) => om_call (f_X9_above (6 : Int32) σ10o) fun (r7o : Int32) (σ11o : om_S) => om_call (rc_turnsAs a0 r7o v2 σ11o) fun (r8o : Int32) (σ12o : om_S) => om_call (f_X9_mNow a0 σ12o) fun (r9o : Int32) (σ13o : om_S) => some ((r8o + r9o), σ13o)) else (om_call (f_X9_above v1 σ) fun (r10o : Int32) (σ14o : om_S) => om_call (rc_turnsAs a0 r10o v2 σ14o) fun (r11o : Int32) (σ15o : om_S) => some (r11o, σ15o))))) else none
set_option maxRecDepth 100000 in
theorem co_X9_turnsAs {rc_turnsAs : Nat → Int32 → Int32 → om_S → Option (Int32 × om_S)} {kd : Nat} (hkd : 14 ≤ kd) (H_turnsAs : ∀ (a0 : Nat) (v1 : Int32) (v2 : Int32) (σ : om_S) (r : Int32) (τ : om_S), rc_turnsAs a0 v1 v2 σ = some (r, τ) → ∀ (l : Launch) (G : om_G), om_D l G kd yX9_turnsAs cX9_turnsAs 3 (some FieldType.int) 0 0 [vR (some a0), vI v1, vI v2] σ om_rf om_N (some (vI r)) τ om_rf om_N) (l : Launch) (G : om_G) {a0 : Nat} {v1 : Int32} {v2 : Int32} {σ : om_S} {r : Int32} {τ : om_S} (h : fo_X9_turnsAs rc_turnsAs a0 v1 v2 σ = some (r, τ)) : om_D l G (kd + 1) yX9_turnsAs cX9_turnsAs 3 (some FieldType.int) 0 0 [vR (some a0), vI v1, vI v2] σ om_rf om_N (some (vI r)) τ om_rf om_N := by
  refine om_Dof (lv := [(0, vR (some a0)), (1, vI v1), (2, vI v2)]) (by decide) rfl_le rfl (fun x O hE => ?_)
  change om_Ok x RX9 "turnsAs" cX9_turnsAs 3 (some FieldType.int) (kd + 1) 0 0 at O
  unfold fo_X9_turnsAs at h
  revert h; refine om_iteR (fun ka0 h => ?_)
  refine om_iload_n O 1 dX9_turnsAs_0 rfl rfl ?_
  by_cases c1o : v1 = 0
  · replace h := (if_pos c1o).symm.trans h
    refine om_tblIn O (b := 0) (off := 43) (tgt := 44) dX9_turnsAs_1 c1o (by decide) (by decide) (by decide +kernel) (by decide) ?_
    refine om_aload_n O 0 dX9_turnsAs_44 rfl rfl ?_
    refine om_bipush O (v := 11) dX9_turnsAs_45 (by decide) ?_
    revert h; refine om_doR (fun σ1o g1o h => ?_)
    refine cl_X9_216 O (st := []) (stk := [vI (11 : Int32), vR (some a0)]) (st2 := []) [vI (11 : Int32)] (fun l G => c_X9_starts l G g1o) ka0 (om_lt ka0 (by decide)) (by omega) rfl rfl rfl_le rfl rfl_le rfl_le dX9_turnsAs_47 ?_
    refine om_aload_n O 0 dX9_turnsAs_50 rfl rfl ?_
    refine om_aload_n O 0 dX9_turnsAs_51 rfl rfl ?_
    revert h; refine om_callR (fun r1o σ2o g2o h => ?_)
    refine cl_X9_223 O (st := [vR (some a0)]) (stk := [vR (some a0), vR (some a0)]) (st2 := [vI r1o, vR (some a0)]) [] (fun l G => c_X9_kindNow l G g2o) ka0 (om_lt ka0 (by decide)) (by omega) rfl rfl rfl_le rfl rfl_le rfl_le dX9_turnsAs_52 ?_
    refine om_iload_n O 2 dX9_turnsAs_55 rfl rfl ?_
    revert h; refine om_callR (fun r2o σ3o g3o h => ?_)
    refine cl_X9_220 O (st := []) (stk := [vI v2, vI r1o, vR (some a0)]) (st2 := [vI r2o]) [vI r1o, vI v2] (fun l G => c_X9_glowsAs l G g3o) ka0 (om_lt ka0 (by decide)) (by omega) rfl rfl rfl_le rfl rfl_le rfl_le dX9_turnsAs_56 ?_
    refine om_iconst O (v := 2) dX9_turnsAs_59 (by decide) ?_
    refine om_imul O dX9_turnsAs_60 ?_
    exact om_iret (st := []) O (om_eI hE h) rfl dX9_turnsAs_61
  · replace h := (if_neg c1o).symm.trans h
    by_cases c2o : v1 = 2
    · replace h := (if_pos c2o).symm.trans h
      refine om_tblIn O (b := 2) (off := 61) (tgt := 62) dX9_turnsAs_1 c2o (by decide) (by decide) (by decide +kernel) (by decide) ?_
      refine om_aload_n O 0 dX9_turnsAs_62 rfl rfl ?_
      refine om_bipush O (v := 30) dX9_turnsAs_63 (by decide) ?_
      revert h; refine om_doR (fun σ4o g4o h => ?_)
      refine cl_X9_216 O (st := []) (stk := [vI (30 : Int32), vR (some a0)]) (st2 := []) [vI (30 : Int32)] (fun l G => c_X9_starts l G g4o) ka0 (om_lt ka0 (by decide)) (by omega) rfl rfl rfl_le rfl rfl_le rfl_le dX9_turnsAs_65 ?_
      refine om_iconst O (v := 0) dX9_turnsAs_68 (by decide) ?_
      refine om_aload_n O 0 dX9_turnsAs_69 rfl rfl ?_
      refine om_iconst O (v := 2) dX9_turnsAs_70 (by decide) ?_
      revert h; refine om_callR (fun r3o σ5o g5o h => ?_)
      refine cl_X9_174 O (st := [vR (some a0), vI (0 : Int32)]) (stk := [vI (2 : Int32), vR (some a0), vI (0 : Int32)]) (st2 := [vI r3o, vR (some a0), vI (0 : Int32)]) [vI (2 : Int32)] (fun l G => c_X9_above l G g5o) (by omega) rfl rfl rfl_le rfl rfl_le rfl_le dX9_turnsAs_71 ?_
      refine om_iload_n O 2 dX9_turnsAs_74 rfl rfl ?_
      revert h; refine om_callR (fun r4o σ6o g6o h => ?_)
      refine cl_X9_226 O (st := [vI (0 : Int32)]) (stk := [vI v2, vI r3o, vR (some a0), vI (0 : Int32)]) (st2 := [vI r4o, vI (0 : Int32)]) [vI r3o, vI v2] (H_turnsAs _ _ _ _ _ _ g6o) ka0 (om_lt ka0 (by decide)) (Nat.le_refl _) rfl rfl rfl_le rfl rfl_le rfl_le dX9_turnsAs_75 ?_
      refine om_isub O dX9_turnsAs_78 ?_
      exact om_iret (st := []) O (om_eI hE h) rfl dX9_turnsAs_79
    · replace h := (if_neg c2o).symm.trans h
      by_cases c3o : v1 = 5
      · replace h := (if_pos c3o).symm.trans h
        refine om_tblIn O (b := 5) (off := 79) (tgt := 80) dX9_turnsAs_1 c3o (by decide) (by decide) (by decide +kernel) (by decide) ?_
        refine om_aload_n O 0 dX9_turnsAs_80 rfl rfl ?_
        refine om_bipush O (v := 60) dX9_turnsAs_81 (by decide) ?_
        revert h; refine om_doR (fun σ7o g7o h => ?_)
        refine cl_X9_216 O (st := []) (stk := [vI (60 : Int32), vR (some a0)]) (st2 := []) [vI (60 : Int32)] (fun l G => c_X9_starts l G g7o) ka0 (om_lt ka0 (by decide)) (by omega) rfl rfl rfl_le rfl rfl_le rfl_le dX9_turnsAs_83 ?_
        refine om_aload_n O 0 dX9_turnsAs_86 rfl rfl ?_
        refine om_iconst O (v := 5) dX9_turnsAs_87 (by decide) ?_
        revert h; refine om_callR (fun r5o σ8o g8o h => ?_)
        refine cl_X9_174 O (st := [vR (some a0)]) (stk := [vI (5 : Int32), vR (some a0)]) (st2 := [vI r5o, vR (some a0)]) [vI (5 : Int32)] (fun l G => c_X9_above l G g8o) (by omega) rfl rfl rfl_le rfl rfl_le rfl_le dX9_turnsAs_88 ?_
        refine om_iload_n O 2 dX9_turnsAs_91 rfl rfl ?_
        refine om_iconst O (v := 1) dX9_turnsAs_92 (by decide) ?_
        refine om_iadd O dX9_turnsAs_93 ?_
        revert h; refine om_callR (fun r6o σ9o g9o h => ?_)
        refine cl_X9_226 O (st := []) (stk := [vI (v2 + (1 : Int32)), vI r5o, vR (some a0)]) (st2 := [vI r6o]) [vI r5o, vI (v2 + (1 : Int32))] (H_turnsAs _ _ _ _ _ _ g9o) ka0 (om_lt ka0 (by decide)) (Nat.le_refl _) rfl rfl rfl_le rfl rfl_le rfl_le dX9_turnsAs_94 ?_
        exact om_iret (st := []) O (om_eI hE h) rfl dX9_turnsAs_97
      · replace h := (if_neg c3o).symm.trans h
        by_cases c4o : v1 = 6
        · replace h := (if_pos c4o).symm.trans h
          refine om_tblIn O (b := 6) (off := 97) (tgt := 98) dX9_turnsAs_1 c4o (by decide) (by decide) (by decide +kernel) (by decide) ?_
          refine om_aload_n O 0 dX9_turnsAs_98 rfl rfl ?_
          refine om_bipush O (v := 71) dX9_turnsAs_99 (by decide) ?_
          revert h; refine om_doR (fun σ10o g10o h => ?_)
          refine cl_X9_216 O (st := []) (stk := [vI (71 : Int32), vR (some a0)]) (st2 := []) [vI (71 : Int32)] (fun l G => c_X9_starts l G g10o) ka0 (om_lt ka0 (by decide)) (by omega) rfl rfl rfl_le rfl rfl_le rfl_le dX9_turnsAs_101 ?_
          refine om_aload_n O 0 dX9_turnsAs_104 rfl rfl ?_
          refine om_bipush O (v := 6) dX9_turnsAs_105 (by decide) ?_
          revert h; refine om_callR (fun r7o σ11o g11o h => ?_)
          refine cl_X9_174 O (st := [vR (some a0)]) (stk := [vI (6 : Int32), vR (some a0)]) (st2 := [vI r7o, vR (some a0)]) [vI (6 : Int32)] (fun l G => c_X9_above l G g11o) (by omega) rfl rfl rfl_le rfl rfl_le rfl_le dX9_turnsAs_107 ?_
          refine om_iload_n O 2 dX9_turnsAs_110 rfl rfl ?_
          revert h; refine om_callR (fun r8o σ12o g12o h => ?_)
          refine cl_X9_226 O (st := []) (stk := [vI v2, vI r7o, vR (some a0)]) (st2 := [vI r8o]) [vI r7o, vI v2] (H_turnsAs _ _ _ _ _ _ g12o) ka0 (om_lt ka0 (by decide)) (Nat.le_refl _) rfl rfl rfl_le rfl rfl_le rfl_le dX9_turnsAs_111 ?_
          refine om_aload_n O 0 dX9_turnsAs_114 rfl rfl ?_
          revert h; refine om_callR (fun r9o σ13o g13o h => ?_)
          refine cl_X9_229 O (st := [vI r8o]) (stk := [vR (some a0), vI r8o]) (st2 := [vI r9o, vI r8o]) [] (fun l G => c_X9_mNow l G g13o) ka0 (om_lt ka0 (by decide)) (by omega) rfl rfl rfl_le rfl rfl_le rfl_le dX9_turnsAs_115 ?_
          refine om_iadd O dX9_turnsAs_118 ?_
          exact om_iret (st := []) O (om_eI hE h) rfl dX9_turnsAs_119
        · replace h := (if_neg c4o).symm.trans h
          refine om_tblDef O (tgt := 120) dX9_turnsAs_1 (fun v hv h1 h2 => by
    have h3 : v = 0 ∨ v = 1 ∨ v = 2 ∨ v = 3 ∨ v = 4 ∨ v = 5 ∨ v = 6 := by omega
    rcases h3 with rfl | rfl | rfl | rfl | rfl | rfl | rfl <;> first | rfl | exact absurd hv.symm (lv_neT (k := 0) c1o (by decide)) | exact absurd hv.symm (lv_neT (k := 2) c2o (by decide)) | exact absurd hv.symm (lv_neT (k := 5) c3o (by decide)) | exact absurd hv.symm (lv_neT (k := 6) c4o (by decide))) (by decide) ?_
          refine om_aload_n O 0 dX9_turnsAs_120 rfl rfl ?_
          refine om_iload_n O 1 dX9_turnsAs_121 rfl rfl ?_
          revert h; refine om_callR (fun r10o σ14o g14o h => ?_)
          refine cl_X9_174 O (st := [vR (some a0)]) (stk := [vI v1, vR (some a0)]) (st2 := [vI r10o, vR (some a0)]) [vI v1] (fun l G => c_X9_above l G g14o) (by omega) rfl rfl rfl_le rfl rfl_le rfl_le dX9_turnsAs_122 ?_
          refine om_iload_n O 2 dX9_turnsAs_125 rfl rfl ?_
          revert h; refine om_callR (fun r11o σ15o g15o h => ?_)
          refine cl_X9_226 O (st := []) (stk := [vI v2, vI r10o, vR (some a0)]) (st2 := [vI r11o]) [vI r10o, vI v2] (H_turnsAs _ _ _ _ _ _ g15o) ka0 (om_lt ka0 (by decide)) (Nat.le_refl _) rfl rfl rfl_le rfl rfl_le rfl_le dX9_turnsAs_126 ?_
          exact om_iret (st := []) O (om_eI hE h) rfl dX9_turnsAs_129
def grp_X9_turnsAs : Nat → (Nat → Int32 → Int32 → om_S → Option (Int32 × om_S))
  | 0 => (fun _ _ _ _ => none)
  | d + 1 => (fo_X9_turnsAs (grp_X9_turnsAs d))
def f_X9_turnsAs : Nat → Int32 → Int32 → om_S → Option (Int32 × om_S) := (grp_X9_turnsAs 12)
set_option maxRecDepth 100000 in
theorem cg_X9_turnsAs : ∀ d : Nat, (∀ (a0 : Nat) (v1 : Int32) (v2 : Int32) (σ : om_S) (r : Int32) (τ : om_S), (grp_X9_turnsAs d) a0 v1 v2 σ = some (r, τ) → ∀ (l : Launch) (G : om_G), om_D l G (14 + d) yX9_turnsAs cX9_turnsAs 3 (some FieldType.int) 0 0 [vR (some a0), vI v1, vI v2] σ om_rf om_N (some (vI r)) τ om_rf om_N) := by
  intro d
  induction d with
  | zero => exact fun _ _ _ _ _ _ h => absurd (show none = some _ from h) (by intro hh; cases hh)
  | succ d ih => exact fun _ _ _ _ _ _ h l G => co_X9_turnsAs (kd := 14 + d) (by omega) ih l G h
set_option maxRecDepth 100000 in
theorem c_X9_turnsAs (l : Launch) (G : om_G) {a0 : Nat} {v1 : Int32} {v2 : Int32} {σ : om_S} {r : Int32} {τ : om_S} (h : f_X9_turnsAs a0 v1 v2 σ = some (r, τ)) : om_D l G 26 yX9_turnsAs cX9_turnsAs 3 (some FieldType.int) 0 0 [vR (some a0), vI v1, vI v2] σ om_rf om_N (some (vI r)) τ om_rf om_N := (cg_X9_turnsAs 12) _ _ _ _ _ _ h l G
def fo_X9_guttersAs (rc_guttersAs : Nat → Int32 → Int32 → om_S → Option (Int32 × om_S)) (a0 : Nat) (v1 : Int32) (v2 : Int32) (σ : om_S) : Option (Int32 × om_S) := if om_kc a0 = 9 then if v1 = 0 then (om_do (f_X9_starts a0 (12 : Int32) σ) fun (σ1o : om_S) => om_call (f_X9_kindNow a0 σ1o) fun (r1o : Int32) (σ2o : om_S) => om_call (f_X9_turnsAs a0 r1o v2 σ2o) fun (r2o : Int32) (σ3o : om_S) => om_call (f_X9_mNow a0 σ3o) fun (r3o : Int32) (σ4o : om_S) => some ((r2o - r3o), σ4o)) else (if v1 = 3 then (om_do (f_X9_starts a0 (40 : Int32) σ) fun (σ5o : om_S) => om_call (f_X9_above (3 : Int32) σ5o) fun (r4o : Int32) (σ6o : om_S) => om_call (rc_guttersAs a0 r4o (v2 / (2 : Int32)) σ6o) fun (r5o : Int32) (σ7o : om_S) => some (r5o, σ7o)) else (if v1 = 4 then (om_do (f_X9_starts a0 (51 : Int32) σ) fun (σ8o : om_S) => om_call (f_X9_above (4 : Int32) σ8o) fun (r6o : Int32) (σ9o : om_S) => om_call (rc_guttersAs a0 r6o v2 σ9o) fun (r7o : Int32) (σ10o : om_S) => some ((r7o ^^^ (σ10o a0 17)), σ10o)) else (om_call (f_X9_above v1 σ) fun (r8o : Int32) (σ11o : om_S) => om_call (rc_guttersAs a0 r8o v2 σ11o) fun (r9o : Int32) (σ12o : om_S) => some (r9o, σ12o)))) else none
set_option maxRecDepth 100000 in
theorem co_X9_guttersAs {rc_guttersAs : Nat → Int32 → Int32 → om_S → Option (Int32 × om_S)} {kd : Nat} (hkd : 27 ≤ kd) (H_guttersAs : ∀ (a0 : Nat) (v1 : Int32) (v2 : Int32) (σ : om_S) (r : Int32) (τ : om_S), rc_guttersAs a0 v1 v2 σ = some (r, τ) → ∀ (l : Launch) (G : om_G), om_D l G kd yX9_guttersAs cX9_guttersAs 3 (some FieldType.int) 0 0 [vR (some a0), vI v1, vI v2] σ om_rf om_N (some (vI r)) τ om_rf om_N) (l : Launch) (G : om_G) {a0 : Nat} {v1 : Int32} {v2 : Int32} {σ : om_S} {r : Int32} {τ : om_S} (h : fo_X9_guttersAs rc_guttersAs a0 v1 v2 σ = some (r, τ)) : om_D l G (kd + 1) yX9_guttersAs cX9_guttersAs 3 (some FieldType.int) 0 0 [vR (some a0), vI v1, vI v2] σ om_rf om_N (some (vI r)) τ om_rf om_N := by
  refine om_Dof (lv := [(0, vR (some a0)), (1, vI v1), (2, vI v2)]) (by decide) rfl_le rfl (fun x O hE => ?_)
  change om_Ok x RX9 "guttersAs" cX9_guttersAs 3 (some FieldType.int) (kd + 1) 0 0 at O
  unfold fo_X9_guttersAs at h
  revert h; refine om_iteR (fun ka0 h => ?_)
  refine om_iload_n O 1 dX9_guttersAs_0 rfl rfl ?_
  by_cases c1o : v1 = 0
  · replace h := (if_pos c1o).symm.trans h
    refine om_tblIn O (b := 0) (off := 35) (tgt := 36) dX9_guttersAs_1 c1o (by decide) (by decide) (by decide +kernel) (by decide) ?_
    refine om_aload_n O 0 dX9_guttersAs_36 rfl rfl ?_
    refine om_bipush O (v := 12) dX9_guttersAs_37 (by decide) ?_
    revert h; refine om_doR (fun σ1o g1o h => ?_)
    refine cl_X9_216 O (st := []) (stk := [vI (12 : Int32), vR (some a0)]) (st2 := []) [vI (12 : Int32)] (fun l G => c_X9_starts l G g1o) ka0 (om_lt ka0 (by decide)) (by omega) rfl rfl rfl_le rfl rfl_le rfl_le dX9_guttersAs_39 ?_
    refine om_aload_n O 0 dX9_guttersAs_42 rfl rfl ?_
    refine om_aload_n O 0 dX9_guttersAs_43 rfl rfl ?_
    revert h; refine om_callR (fun r1o σ2o g2o h => ?_)
    refine cl_X9_223 O (st := [vR (some a0)]) (stk := [vR (some a0), vR (some a0)]) (st2 := [vI r1o, vR (some a0)]) [] (fun l G => c_X9_kindNow l G g2o) ka0 (om_lt ka0 (by decide)) (by omega) rfl rfl rfl_le rfl rfl_le rfl_le dX9_guttersAs_44 ?_
    refine om_iload_n O 2 dX9_guttersAs_47 rfl rfl ?_
    revert h; refine om_callR (fun r2o σ3o g3o h => ?_)
    refine cl_X9_226 O (st := []) (stk := [vI v2, vI r1o, vR (some a0)]) (st2 := [vI r2o]) [vI r1o, vI v2] (fun l G => c_X9_turnsAs l G g3o) ka0 (om_lt ka0 (by decide)) (by omega) rfl rfl rfl_le rfl rfl_le rfl_le dX9_guttersAs_48 ?_
    refine om_aload_n O 0 dX9_guttersAs_51 rfl rfl ?_
    revert h; refine om_callR (fun r3o σ4o g4o h => ?_)
    refine cl_X9_229 O (st := [vI r2o]) (stk := [vR (some a0), vI r2o]) (st2 := [vI r3o, vI r2o]) [] (fun l G => c_X9_mNow l G g4o) ka0 (om_lt ka0 (by decide)) (by omega) rfl rfl rfl_le rfl rfl_le rfl_le dX9_guttersAs_52 ?_
    refine om_isub O dX9_guttersAs_55 ?_
    exact om_iret (st := []) O (om_eI hE h) rfl dX9_guttersAs_56
  · replace h := (if_neg c1o).symm.trans h
    by_cases c2o : v1 = 3
    · replace h := (if_pos c2o).symm.trans h
      refine om_tblIn O (b := 3) (off := 56) (tgt := 57) dX9_guttersAs_1 c2o (by decide) (by decide) (by decide +kernel) (by decide) ?_
      refine om_aload_n O 0 dX9_guttersAs_57 rfl rfl ?_
      refine om_bipush O (v := 40) dX9_guttersAs_58 (by decide) ?_
      revert h; refine om_doR (fun σ5o g5o h => ?_)
      refine cl_X9_216 O (st := []) (stk := [vI (40 : Int32), vR (some a0)]) (st2 := []) [vI (40 : Int32)] (fun l G => c_X9_starts l G g5o) ka0 (om_lt ka0 (by decide)) (by omega) rfl rfl rfl_le rfl rfl_le rfl_le dX9_guttersAs_60 ?_
      refine om_aload_n O 0 dX9_guttersAs_63 rfl rfl ?_
      refine om_iconst O (v := 3) dX9_guttersAs_64 (by decide) ?_
      revert h; refine om_callR (fun r4o σ6o g6o h => ?_)
      refine cl_X9_174 O (st := [vR (some a0)]) (stk := [vI (3 : Int32), vR (some a0)]) (st2 := [vI r4o, vR (some a0)]) [vI (3 : Int32)] (fun l G => c_X9_above l G g6o) (by omega) rfl rfl rfl_le rfl rfl_le rfl_le dX9_guttersAs_65 ?_
      refine om_iload_n O 2 dX9_guttersAs_68 rfl rfl ?_
      refine om_iconst O (v := 2) dX9_guttersAs_69 (by decide) ?_
      refine om_idiv O dX9_guttersAs_70 (by decide) ?_
      revert h; refine om_callR (fun r5o σ7o g7o h => ?_)
      refine cl_X9_232 O (st := []) (stk := [vI (v2 / (2 : Int32)), vI r4o, vR (some a0)]) (st2 := [vI r5o]) [vI r4o, vI (v2 / (2 : Int32))] (H_guttersAs _ _ _ _ _ _ g7o) ka0 (om_lt ka0 (by decide)) (Nat.le_refl _) rfl rfl rfl_le rfl rfl_le rfl_le dX9_guttersAs_71 ?_
      exact om_iret (st := []) O (om_eI hE h) rfl dX9_guttersAs_74
    · replace h := (if_neg c2o).symm.trans h
      by_cases c3o : v1 = 4
      · replace h := (if_pos c3o).symm.trans h
        refine om_tblIn O (b := 4) (off := 74) (tgt := 75) dX9_guttersAs_1 c3o (by decide) (by decide) (by decide +kernel) (by decide) ?_
        refine om_aload_n O 0 dX9_guttersAs_75 rfl rfl ?_
        refine om_bipush O (v := 51) dX9_guttersAs_76 (by decide) ?_
        revert h; refine om_doR (fun σ8o g8o h => ?_)
        refine cl_X9_216 O (st := []) (stk := [vI (51 : Int32), vR (some a0)]) (st2 := []) [vI (51 : Int32)] (fun l G => c_X9_starts l G g8o) ka0 (om_lt ka0 (by decide)) (by omega) rfl rfl rfl_le rfl rfl_le rfl_le dX9_guttersAs_78 ?_
        refine om_aload_n O 0 dX9_guttersAs_81 rfl rfl ?_
        refine om_iconst O (v := 4) dX9_guttersAs_82 (by decide) ?_
        revert h; refine om_callR (fun r6o σ9o g9o h => ?_)
        refine cl_X9_174 O (st := [vR (some a0)]) (stk := [vI (4 : Int32), vR (some a0)]) (st2 := [vI r6o, vR (some a0)]) [vI (4 : Int32)] (fun l G => c_X9_above l G g9o) (by omega) rfl rfl rfl_le rfl rfl_le rfl_le dX9_guttersAs_83 ?_
        refine om_iload_n O 2 dX9_guttersAs_86 rfl rfl ?_
        revert h; refine om_callR (fun r7o σ10o g10o h => ?_)
        refine cl_X9_232 O (st := []) (stk := [vI v2, vI r6o, vR (some a0)]) (st2 := [vI r7o]) [vI r6o, vI v2] (H_guttersAs _ _ _ _ _ _ g10o) ka0 (om_lt ka0 (by decide)) (Nat.le_refl _) rfl rfl rfl_le rfl rfl_le rfl_le dX9_guttersAs_87 ?_
        refine om_aload_n O 0 dX9_guttersAs_90 rfl rfl ?_
        refine gf_X9_213 O ka0 (om_lt ka0 (by decide)) dX9_guttersAs_91 ?_
        refine om_ixor O dX9_guttersAs_94 ?_
        exact om_iret (st := []) O (om_eI hE h) rfl dX9_guttersAs_95
      · replace h := (if_neg c3o).symm.trans h
        refine om_tblDef O (tgt := 96) dX9_guttersAs_1 (fun v hv h1 h2 => by
    have h3 : v = 0 ∨ v = 1 ∨ v = 2 ∨ v = 3 ∨ v = 4 := by omega
    rcases h3 with rfl | rfl | rfl | rfl | rfl <;> first | rfl | exact absurd hv.symm (lv_neT (k := 0) c1o (by decide)) | exact absurd hv.symm (lv_neT (k := 3) c2o (by decide)) | exact absurd hv.symm (lv_neT (k := 4) c3o (by decide))) (by decide) ?_
        refine om_aload_n O 0 dX9_guttersAs_96 rfl rfl ?_
        refine om_iload_n O 1 dX9_guttersAs_97 rfl rfl ?_
        revert h; refine om_callR (fun r8o σ11o g11o h => ?_)
        refine cl_X9_174 O (st := [vR (some a0)]) (stk := [vI v1, vR (some a0)]) (st2 := [vI r8o, vR (some a0)]) [vI v1] (fun l G => c_X9_above l G g11o) (by omega) rfl rfl rfl_le rfl rfl_le rfl_le dX9_guttersAs_98 ?_
        refine om_iload_n O 2 dX9_guttersAs_101 rfl rfl ?_
        revert h; refine om_callR (fun r9o σ12o g12o h => ?_)
        refine cl_X9_232 O (st := []) (stk := [vI v2, vI r8o, vR (some a0)]) (st2 := [vI r9o]) [vI r8o, vI v2] (H_guttersAs _ _ _ _ _ _ g12o) ka0 (om_lt ka0 (by decide)) (Nat.le_refl _) rfl rfl rfl_le rfl rfl_le rfl_le dX9_guttersAs_102 ?_
        exact om_iret (st := []) O (om_eI hE h) rfl dX9_guttersAs_105
def grp_X9_guttersAs : Nat → (Nat → Int32 → Int32 → om_S → Option (Int32 × om_S))
  | 0 => (fun _ _ _ _ => none)
  | d + 1 => (fo_X9_guttersAs (grp_X9_guttersAs d))
def f_X9_guttersAs : Nat → Int32 → Int32 → om_S → Option (Int32 × om_S) := (grp_X9_guttersAs 12)
set_option maxRecDepth 100000 in
theorem cg_X9_guttersAs : ∀ d : Nat, (∀ (a0 : Nat) (v1 : Int32) (v2 : Int32) (σ : om_S) (r : Int32) (τ : om_S), (grp_X9_guttersAs d) a0 v1 v2 σ = some (r, τ) → ∀ (l : Launch) (G : om_G), om_D l G (27 + d) yX9_guttersAs cX9_guttersAs 3 (some FieldType.int) 0 0 [vR (some a0), vI v1, vI v2] σ om_rf om_N (some (vI r)) τ om_rf om_N) := by
  intro d
  induction d with
  | zero => exact fun _ _ _ _ _ _ h => absurd (show none = some _ from h) (by intro hh; cases hh)
  | succ d ih => exact fun _ _ _ _ _ _ h l G => co_X9_guttersAs (kd := 27 + d) (by omega) ih l G h
set_option maxRecDepth 100000 in
theorem c_X9_guttersAs (l : Launch) (G : om_G) {a0 : Nat} {v1 : Int32} {v2 : Int32} {σ : om_S} {r : Int32} {τ : om_S} (h : f_X9_guttersAs a0 v1 v2 σ = some (r, τ)) : om_D l G 39 yX9_guttersAs cX9_guttersAs 3 (some FieldType.int) 0 0 [vR (some a0), vI v1, vI v2] σ om_rf om_N (some (vI r)) τ om_rf om_N := (cg_X9_guttersAs 12) _ _ _ _ _ _ h l G
def f_X9_partsAs_b54 (rc_partsAs : Nat → Int32 → Int32 → om_S → Option (Int32 × om_S)) (v2 : Int32) (v3 : Int32) (b0 : Nat) (s1 : Int32) (σ : om_S) : Option (Int32 × om_S) := if s1 = 0 ∨ s1 = 1 then om_let (om_w σ b0 18 s1) fun (σ1o : om_S) => if v3 = 0 then (some ((0 : Int32), σ1o)) else (if v3 = (-1 : Int32) then (some ((-v2), σ1o)) else (if ¬ v3 = 0 then some ((v2 / v3), σ1o) else none)) else none
set_option maxRecDepth 100000 in
theorem g_X9_partsAs_b54 {x : om_X} {kd : Nat} {rc_partsAs : Nat → Int32 → Int32 → om_S → Option (Int32 × om_S)} (O : om_Ok x RX9 "partsAs" cX9_partsAs 5 (some FieldType.int) (kd + 1) 0 0)  (hkd : 27 ≤ kd) (H_partsAs : ∀ (a0 : Nat) (v1 : Int32) (v2 : Int32) (σ : om_S) (r : Int32) (τ : om_S), rc_partsAs a0 v1 v2 σ = some (r, τ) → ∀ (l : Launch) (G : om_G), om_D l G kd yX9_partsAs cX9_partsAs 5 (some FieldType.int) 0 0 [vR (some a0), vI v1, vI v2] σ om_rf om_N (some (vI r)) τ om_rf om_N) {r : Int32} {τ : om_S} (hE : om_End x (some (vI r)) τ om_rf om_N 0 0)   {v2 : Int32} {v3 : Int32} {b0 : Nat} {s1 : Int32} {σ : om_S} (kb0 : om_kc b0 = 9) (h : f_X9_partsAs_b54 rc_partsAs v2 v3 b0 s1 σ = some (r, τ)) : om_J x 54 [(2, vI v2), (3, vI v3)] [vI s1, vR (some b0)] σ om_rf om_N 0 0 := by
  unfold f_X9_partsAs_b54 at h
  revert h; refine om_iteR (fun z1o h => ?_)
  revert h; refine om_letR (fun σ1o e1o h => ?_)
  refine pf_X9_235 O (Or.inr ⟨rfl, z1o⟩) kb0 (om_lt kb0 (by decide)) dX9_partsAs_54 e1o ?_
  refine om_iload_n O 1 dX9_partsAs_57 rfl rfl ?_
  refine om_if_ne O (tgt := 65) dX9_partsAs_58 (by decide) (fun c1o => ?_) (fun c1o => ?_)
  · replace h := (if_pos c1o).symm.trans h
    refine om_iconst O (v := 0) dX9_partsAs_61 (by decide) ?_
    refine om_goto O (tgt := 78) dX9_partsAs_62 (by decide) ?_
    exact om_iret (st := []) O (om_eI hE h) rfl dX9_partsAs_78
  · replace h := (if_neg c1o).symm.trans h
    refine om_iload_n O 1 dX9_partsAs_65 rfl rfl ?_
    refine om_iconst O (v := -1) dX9_partsAs_66 (by decide) ?_
    refine om_icmp_ne O (tgt := 75) dX9_partsAs_67 (by decide) (fun c2o => ?_) (fun c2o => ?_)
    · replace h := (if_pos c2o).symm.trans h
      refine om_iload_n O 0 dX9_partsAs_70 rfl rfl ?_
      refine om_ineg O dX9_partsAs_71 ?_
      refine om_goto O (tgt := 78) dX9_partsAs_72 (by decide) ?_
      exact om_iret (st := []) O (om_eI hE h) rfl dX9_partsAs_78
    · replace h := (if_neg c2o).symm.trans h
      refine om_iload_n O 0 dX9_partsAs_75 rfl rfl ?_
      refine om_iload_n O 1 dX9_partsAs_76 rfl rfl ?_
      revert h; refine om_iteR (fun z2o h => ?_)
      refine om_idiv O dX9_partsAs_77 z2o ?_
      exact om_iret (st := []) O (om_eI hE h) rfl dX9_partsAs_78
def fo_X9_partsAs (rc_partsAs : Nat → Int32 → Int32 → om_S → Option (Int32 × om_S)) (a0 : Nat) (v1 : Int32) (v2 : Int32) (σ : om_S) : Option (Int32 × om_S) := if om_kc a0 = 9 then if v1 = 0 then (om_do (f_X9_starts a0 (13 : Int32) σ) fun (σ1o : om_S) => om_call (f_X9_mNow a0 σ1o) fun (r1o : Int32) (σ2o : om_S) => if (r1o - (σ2o a0 17)) = 0 then (f_X9_partsAs_b54 rc_partsAs v2 (r1o - (σ2o a0 17)) a0 (1 : Int32) σ2o) else (f_X9_partsAs_b54 rc_partsAs v2 (r1o - (σ2o a0 17)) a0 (0 : Int32) σ2o)) else (if v1 = 1 then (om_do (f_X9_starts a0 (21 : Int32) σ) fun (σ3o : om_S) => om_call (f_X9_above (1 : Int32) σ3o) fun (r2o : Int32) (σ4o : om_S) => om_call (rc_partsAs a0 r2o v2 σ4o) fun (r3o : Int32) (σ5o : om_S) => if (σ5o a0 18) = 0 then (om_call (f_X9_kindNow a0 σ5o) fun (r4o : Int32) (σ6o : om_S) => om_call (f_X9_turnsAs a0 r4o (1 : Int32) σ6o) fun (r5o : Int32) (σ7o : om_S) => some ((r3o + r5o), σ7o)) else (some ((0 : Int32), σ5o))) else (om_call (f_X9_above v1 σ) fun (r6o : Int32) (σ8o : om_S) => om_call (rc_partsAs a0 r6o v2 σ8o) fun (r7o : Int32) (σ9o : om_S) => some (r7o, σ9o))) else none
set_option maxRecDepth 100000 in
theorem co_X9_partsAs {rc_partsAs : Nat → Int32 → Int32 → om_S → Option (Int32 × om_S)} {kd : Nat} (hkd : 27 ≤ kd) (H_partsAs : ∀ (a0 : Nat) (v1 : Int32) (v2 : Int32) (σ : om_S) (r : Int32) (τ : om_S), rc_partsAs a0 v1 v2 σ = some (r, τ) → ∀ (l : Launch) (G : om_G), om_D l G kd yX9_partsAs cX9_partsAs 5 (some FieldType.int) 0 0 [vR (some a0), vI v1, vI v2] σ om_rf om_N (some (vI r)) τ om_rf om_N) (l : Launch) (G : om_G) {a0 : Nat} {v1 : Int32} {v2 : Int32} {σ : om_S} {r : Int32} {τ : om_S} (h : fo_X9_partsAs rc_partsAs a0 v1 v2 σ = some (r, τ)) : om_D l G (kd + 1) yX9_partsAs cX9_partsAs 5 (some FieldType.int) 0 0 [vR (some a0), vI v1, vI v2] σ om_rf om_N (some (vI r)) τ om_rf om_N := by
  refine om_Dof (lv := [(0, vR (some a0)), (1, vI v1), (2, vI v2)]) (by decide) rfl_le rfl (fun x O hE => ?_)
  change om_Ok x RX9 "partsAs" cX9_partsAs 5 (some FieldType.int) (kd + 1) 0 0 at O
  unfold fo_X9_partsAs at h
  revert h; refine om_iteR (fun ka0 h => ?_)
  refine om_iload_n O 1 dX9_partsAs_0 rfl rfl ?_
  by_cases c1o : v1 = 0
  · replace h := (if_pos c1o).symm.trans h
    refine om_lookup O (off := 27) (tgt := 28) dX9_partsAs_1 (by decide +kernel) (by rw [c1o]; decide +kernel) (by decide) ?_
    refine om_aload_n O 0 dX9_partsAs_28 rfl rfl ?_
    refine om_bipush O (v := 13) dX9_partsAs_29 (by decide) ?_
    revert h; refine om_doR (fun σ1o g1o h => ?_)
    refine cl_X9_216 O (st := []) (stk := [vI (13 : Int32), vR (some a0)]) (st2 := []) [vI (13 : Int32)] (fun l G => c_X9_starts l G g1o) ka0 (om_lt ka0 (by decide)) (by omega) rfl rfl rfl_le rfl rfl_le rfl_le dX9_partsAs_31 ?_
    refine om_aload_n O 0 dX9_partsAs_34 rfl rfl ?_
    revert h; refine om_callR (fun r1o σ2o g2o h => ?_)
    refine cl_X9_229 O (st := []) (stk := [vR (some a0)]) (st2 := [vI r1o]) [] (fun l G => c_X9_mNow l G g2o) ka0 (om_lt ka0 (by decide)) (by omega) rfl rfl rfl_le rfl rfl_le rfl_le dX9_partsAs_35 ?_
    refine om_aload_n O 0 dX9_partsAs_38 rfl rfl ?_
    refine gf_X9_213 O ka0 (om_lt ka0 (by decide)) dX9_partsAs_39 ?_
    refine om_isub O dX9_partsAs_42 ?_
    refine om_istore_n O (lv' := [(0, vR (some a0)), (2, vI v2), (3, vI (r1o - (σ2o a0 17)))]) [1, 3, 0] rfl dX9_partsAs_43 rfl (by decide) rfl ?_
    refine om_aload_n O 0 dX9_partsAs_44 rfl rfl ?_
    refine om_iload_n O 2 dX9_partsAs_45 rfl rfl ?_
    refine om_if_ne O (tgt := 53) dX9_partsAs_46 (by decide) (fun c2o => ?_) (fun c2o => ?_)
    · replace h := (if_pos c2o).symm.trans h
      refine om_iconst O (v := 1) dX9_partsAs_49 (by decide) ?_
      refine om_goto O (tgt := 54) dX9_partsAs_50 (by decide) ?_
      refine om_drop (lv' := [(2, vI v2), (3, vI (r1o - (σ2o a0 17)))]) [1, 2] rfl ?_
      exact g_X9_partsAs_b54 O hkd H_partsAs hE ka0 h
    · replace h := (if_neg c2o).symm.trans h
      refine om_iconst O (v := 0) dX9_partsAs_53 (by decide) ?_
      refine om_drop (lv' := [(2, vI v2), (3, vI (r1o - (σ2o a0 17)))]) [1, 2] rfl ?_
      exact g_X9_partsAs_b54 O hkd H_partsAs hE ka0 h
  · replace h := (if_neg c1o).symm.trans h
    by_cases c3o : v1 = 1
    · replace h := (if_pos c3o).symm.trans h
      refine om_lookup O (off := 78) (tgt := 79) dX9_partsAs_1 (by decide +kernel) (by rw [c3o]; decide +kernel) (by decide) ?_
      refine om_aload_n O 0 dX9_partsAs_79 rfl rfl ?_
      refine om_bipush O (v := 21) dX9_partsAs_80 (by decide) ?_
      revert h; refine om_doR (fun σ3o g3o h => ?_)
      refine cl_X9_216 O (st := []) (stk := [vI (21 : Int32), vR (some a0)]) (st2 := []) [vI (21 : Int32)] (fun l G => c_X9_starts l G g3o) ka0 (om_lt ka0 (by decide)) (by omega) rfl rfl rfl_le rfl rfl_le rfl_le dX9_partsAs_82 ?_
      refine om_aload_n O 0 dX9_partsAs_85 rfl rfl ?_
      refine om_iconst O (v := 1) dX9_partsAs_86 (by decide) ?_
      revert h; refine om_callR (fun r2o σ4o g4o h => ?_)
      refine cl_X9_174 O (st := [vR (some a0)]) (stk := [vI (1 : Int32), vR (some a0)]) (st2 := [vI r2o, vR (some a0)]) [vI (1 : Int32)] (fun l G => c_X9_above l G g4o) (by omega) rfl rfl rfl_le rfl rfl_le rfl_le dX9_partsAs_87 ?_
      refine om_iload_n O 2 dX9_partsAs_90 rfl rfl ?_
      revert h; refine om_callR (fun r3o σ5o g5o h => ?_)
      refine cl_X9_239 O (st := []) (stk := [vI v2, vI r2o, vR (some a0)]) (st2 := [vI r3o]) [vI r2o, vI v2] (H_partsAs _ _ _ _ _ _ g5o) ka0 (om_lt ka0 (by decide)) (Nat.le_refl _) rfl rfl rfl_le rfl rfl_le rfl_le dX9_partsAs_91 ?_
      refine om_istore O (lv' := [(0, vR (some a0)), (4, vI r3o)]) [1, 0] rfl dX9_partsAs_94 (by decide) rfl ?_
      refine om_aload_n O 0 dX9_partsAs_96 rfl rfl ?_
      refine gf_X9_235 O ka0 (om_lt ka0 (by decide)) dX9_partsAs_97 ?_
      refine om_if_eq O (tgt := 107) dX9_partsAs_100 (by decide) (fun c4o => ?_) (fun c4o => ?_)
      · replace h := (if_pos c4o).symm.trans h
        refine om_iload O 1 dX9_partsAs_107 rfl ?_
        refine om_aload_n O 0 dX9_partsAs_109 rfl rfl ?_
        refine om_aload_n O 0 dX9_partsAs_110 rfl rfl ?_
        revert h; refine om_callR (fun r4o σ6o g6o h => ?_)
        refine cl_X9_223 O (st := [vR (some a0), vI r3o]) (stk := [vR (some a0), vR (some a0), vI r3o]) (st2 := [vI r4o, vR (some a0), vI r3o]) [] (fun l G => c_X9_kindNow l G g6o) ka0 (om_lt ka0 (by decide)) (by omega) rfl rfl rfl_le rfl rfl_le rfl_le dX9_partsAs_111 ?_
        refine om_iconst O (v := 1) dX9_partsAs_114 (by decide) ?_
        revert h; refine om_callR (fun r5o σ7o g7o h => ?_)
        refine cl_X9_226 O (st := [vI r3o]) (stk := [vI (1 : Int32), vI r4o, vR (some a0), vI r3o]) (st2 := [vI r5o, vI r3o]) [vI r4o, vI (1 : Int32)] (fun l G => c_X9_turnsAs l G g7o) ka0 (om_lt ka0 (by decide)) (by omega) rfl rfl rfl_le rfl rfl_le rfl_le dX9_partsAs_115 ?_
        refine om_iadd O dX9_partsAs_118 ?_
        exact om_iret (st := []) O (om_eI hE h) rfl dX9_partsAs_119
      · replace h := (if_neg c4o).symm.trans h
        refine om_iconst O (v := 0) dX9_partsAs_103 (by decide) ?_
        refine om_goto O (tgt := 119) dX9_partsAs_104 (by decide) ?_
        exact om_iret (st := []) O (om_eI hE h) rfl dX9_partsAs_119
    · replace h := (if_neg c3o).symm.trans h
      refine om_lookup O (off := 119) (tgt := 120) dX9_partsAs_1 (by decide +kernel) ((lv_osw (k := 0) c1o (by decide)).trans ((lv_osw (k := 1) c3o (by decide)).trans rfl)) (by decide) ?_
      refine om_aload_n O 0 dX9_partsAs_120 rfl rfl ?_
      refine om_iload_n O 1 dX9_partsAs_121 rfl rfl ?_
      revert h; refine om_callR (fun r6o σ8o g8o h => ?_)
      refine cl_X9_174 O (st := [vR (some a0)]) (stk := [vI v1, vR (some a0)]) (st2 := [vI r6o, vR (some a0)]) [vI v1] (fun l G => c_X9_above l G g8o) (by omega) rfl rfl rfl_le rfl rfl_le rfl_le dX9_partsAs_122 ?_
      refine om_iload_n O 2 dX9_partsAs_125 rfl rfl ?_
      revert h; refine om_callR (fun r7o σ9o g9o h => ?_)
      refine cl_X9_239 O (st := []) (stk := [vI v2, vI r6o, vR (some a0)]) (st2 := [vI r7o]) [vI r6o, vI v2] (H_partsAs _ _ _ _ _ _ g9o) ka0 (om_lt ka0 (by decide)) (Nat.le_refl _) rfl rfl rfl_le rfl rfl_le rfl_le dX9_partsAs_126 ?_
      exact om_iret (st := []) O (om_eI hE h) rfl dX9_partsAs_129
def grp_X9_partsAs : Nat → (Nat → Int32 → Int32 → om_S → Option (Int32 × om_S))
  | 0 => (fun _ _ _ _ => none)
  | d + 1 => (fo_X9_partsAs (grp_X9_partsAs d))
def f_X9_partsAs : Nat → Int32 → Int32 → om_S → Option (Int32 × om_S) := (grp_X9_partsAs 12)
set_option maxRecDepth 100000 in
theorem cg_X9_partsAs : ∀ d : Nat, (∀ (a0 : Nat) (v1 : Int32) (v2 : Int32) (σ : om_S) (r : Int32) (τ : om_S), (grp_X9_partsAs d) a0 v1 v2 σ = some (r, τ) → ∀ (l : Launch) (G : om_G), om_D l G (27 + d) yX9_partsAs cX9_partsAs 5 (some FieldType.int) 0 0 [vR (some a0), vI v1, vI v2] σ om_rf om_N (some (vI r)) τ om_rf om_N) := by
  intro d
  induction d with
  | zero => exact fun _ _ _ _ _ _ h => absurd (show none = some _ from h) (by intro hh; cases hh)
  | succ d ih => exact fun _ _ _ _ _ _ h l G => co_X9_partsAs (kd := 27 + d) (by omega) ih l G h
set_option maxRecDepth 100000 in
theorem c_X9_partsAs (l : Launch) (G : om_G) {a0 : Nat} {v1 : Int32} {v2 : Int32} {σ : om_S} {r : Int32} {τ : om_S} (h : f_X9_partsAs a0 v1 v2 σ = some (r, τ)) : om_D l G 39 yX9_partsAs cX9_partsAs 5 (some FieldType.int) 0 0 [vR (some a0), vI v1, vI v2] σ om_rf om_N (some (vI r)) τ om_rf om_N := (cg_X9_partsAs 12) _ _ _ _ _ _ h l G
def f_X9_voice_b17  (a0 : Nat) (σ : om_S) : Option (Int32 × om_S) := om_call (f_X9_error a0 (1 : Int32) σ) fun (r1o : Int32) (σ1o : om_S) => some (r1o, σ1o)
set_option maxRecDepth 100000 in
theorem g_X9_voice_b17 {x : om_X}   (O : om_Ok x RX9 "voice" cX9_voice 6 (some FieldType.int) 40 0 0)   {r : Int32} {τ : om_S} (hE : om_End x (some (vI r)) τ om_rf om_N 0 0)   {a0 : Nat} {σ : om_S} (ka0 : om_kc a0 = 9) (h : f_X9_voice_b17 a0 σ = some (r, τ)) : om_J x 17 [(0, vR (some a0))] [] σ om_rf om_N 0 0 := by
  unfold f_X9_voice_b17 at h
  refine om_aload_n O 0 dX9_voice_17 rfl rfl ?_
  refine om_iconst O (v := 1) dX9_voice_18 (by decide) ?_
  revert h; refine om_callR (fun r1o σ1o g1o h => ?_)
  refine cl_X9_61 O (st := []) (stk := [vI (1 : Int32), vR (some a0)]) (st2 := [vI r1o]) [vI (1 : Int32)] (fun l G => c_X9_error l G g1o) ka0 (om_lt ka0 (by decide)) (by decide) rfl rfl rfl_le rfl rfl_le rfl_le dX9_voice_19 ?_
  exact om_iret (st := []) O (om_eI hE h) rfl dX9_voice_22
def f_X9_voice_b95  (a0 : Nat) (s0 : Int32) (σ : om_S) : Option (Int32 × om_S) := if (σ a0 18) = 0 then (some (s0, σ)) else (om_call (f_X9_error a0 (6 : Int32) σ) fun (r1o : Int32) (σ1o : om_S) => some (r1o, σ1o))
set_option maxRecDepth 100000 in
theorem g_X9_voice_b95 {x : om_X}   (O : om_Ok x RX9 "voice" cX9_voice 6 (some FieldType.int) 40 0 0)   {r : Int32} {τ : om_S} (hE : om_End x (some (vI r)) τ om_rf om_N 0 0)   {a0 : Nat} {s0 : Int32} {σ : om_S} (ka0 : om_kc a0 = 9) (h : f_X9_voice_b95 a0 s0 σ = some (r, τ)) : om_J x 95 [(0, vR (some a0))] [vI s0] σ om_rf om_N 0 0 := by
  unfold f_X9_voice_b95 at h
  refine om_istore O (lv' := [(0, vR (some a0)), (5, vI s0)]) [1, 0] rfl dX9_voice_95 (by decide) rfl ?_
  refine om_aload_n O 0 dX9_voice_97 rfl rfl ?_
  refine gf_X9_235 O ka0 (om_lt ka0 (by decide)) dX9_voice_98 ?_
  refine om_if_eq O (tgt := 113) dX9_voice_101 (by decide) (fun c1o => ?_) (fun c1o => ?_)
  · replace h := (if_pos c1o).symm.trans h
    refine om_iload O 1 dX9_voice_113 rfl ?_
    exact om_iret (st := []) O (om_eI hE h) rfl dX9_voice_115
  · replace h := (if_neg c1o).symm.trans h
    refine om_aload_n O 0 dX9_voice_104 rfl rfl ?_
    refine om_bipush O (v := 6) dX9_voice_105 (by decide) ?_
    revert h; refine om_callR (fun r1o σ1o g1o h => ?_)
    refine cl_X9_61 O (st := []) (stk := [vI (6 : Int32), vR (some a0)]) (st2 := [vI r1o]) [vI (6 : Int32)] (fun l G => c_X9_error l G g1o) ka0 (om_lt ka0 (by decide)) (by decide) rfl rfl rfl_le rfl rfl_le rfl_le dX9_voice_107 ?_
    refine om_goto O (tgt := 115) dX9_voice_110 (by decide) ?_
    exact om_iret (st := []) O (om_eI hE h) rfl dX9_voice_115
def f_X9_voice  (a0 : Nat) (v1 : Int32) (v2 : Int32) (v3 : Int32) (σ : om_S) : Option (Int32 × om_S) := if om_kc a0 = 9 then om_call (f_X9_isMemory a0 v1 σ) fun (r1o : Int32) (σ1o : om_S) => if r1o = 0 then (f_X9_voice_b17 a0 σ1o) else (om_call (f_X9_in v2 (0 : Int32) (3 : Int32) σ1o) fun (r2o : Int32) (σ2o : om_S) => if r2o = 0 then (f_X9_voice_b17 a0 σ2o) else (om_let (om_w σ2o a0 15 (0 : Int32)) fun (σ3o : om_S) => om_let (om_w σ3o a0 17 v1) fun (σ4o : om_S) => om_let (om_w σ4o a0 18 (0 : Int32)) fun (σ5o : om_S) => om_call (f_X9_kindNow a0 σ5o) fun (r3o : Int32) (σ6o : om_S) => if v2 = 0 then (om_call (f_X9_glowsAs a0 r3o v3 σ6o) fun (r4o : Int32) (σ7o : om_S) => f_X9_voice_b95 a0 r4o σ7o) else (if v2 = (1 : Int32) then (om_call (f_X9_turnsAs a0 r3o v3 σ6o) fun (r5o : Int32) (σ8o : om_S) => f_X9_voice_b95 a0 r5o σ8o) else (if v2 = (2 : Int32) then (om_call (f_X9_guttersAs a0 r3o v3 σ6o) fun (r6o : Int32) (σ9o : om_S) => f_X9_voice_b95 a0 r6o σ9o) else (om_call (f_X9_partsAs a0 r3o v3 σ6o) fun (r7o : Int32) (σ10o : om_S) => f_X9_voice_b95 a0 r7o σ10o))))) else none
set_option maxRecDepth 100000 in
theorem c_X9_voice (l : Launch) (G : om_G) {a0 : Nat} {v1 : Int32} {v2 : Int32} {v3 : Int32} {σ : om_S} {r : Int32} {τ : om_S} (h : f_X9_voice a0 v1 v2 v3 σ = some (r, τ)) : om_D l G 40 yX9_voice cX9_voice 6 (some FieldType.int) 0 0 [vR (some a0), vI v1, vI v2, vI v3] σ om_rf om_N (some (vI r)) τ om_rf om_N := by
  refine om_Dof (lv := [(0, vR (some a0)), (1, vI v1), (2, vI v2), (3, vI v3)]) (by decide) rfl_le rfl (fun x O hE => ?_)
  change om_Ok x RX9 "voice" cX9_voice 6 (some FieldType.int) 40 0 0 at O
  unfold f_X9_voice at h
  revert h; refine om_iteR (fun ka0 h => ?_)
  refine om_aload_n O 0 dX9_voice_0 rfl rfl ?_
  refine om_iload_n O 1 dX9_voice_1 rfl rfl ?_
  revert h; refine om_callR (fun r1o σ1o g1o h => ?_)
  refine cl_X9_168 O (st := []) (stk := [vI v1, vR (some a0)]) (st2 := [vI r1o]) [vI v1] (fun l G => c_X9_isMemory l G g1o) ka0 (om_lt ka0 (by decide)) (by decide) rfl rfl rfl_le rfl rfl_le rfl_le dX9_voice_2 ?_
  refine om_if_eq O (tgt := 17) dX9_voice_5 (by decide) (fun c1o => ?_) (fun c1o => ?_)
  · replace h := (if_pos c1o).symm.trans h
    refine om_drop (lv' := [(0, vR (some a0))]) [0] rfl ?_
    exact g_X9_voice_b17 O hE ka0 h
  · replace h := (if_neg c1o).symm.trans h
    refine om_iload_n O 2 dX9_voice_8 rfl rfl ?_
    refine om_iconst O (v := 0) dX9_voice_9 (by decide) ?_
    refine om_iconst O (v := 3) dX9_voice_10 (by decide) ?_
    revert h; refine om_callR (fun r2o σ2o g2o h => ?_)
    refine cl_X9_57 O (st := []) (stk := [vI (3 : Int32), vI (0 : Int32), vI v2]) (st2 := [vI r2o]) [vI v2, vI (0 : Int32), vI (3 : Int32)] (fun l G => c_X9_in l G g2o) (by decide) rfl rfl rfl_le rfl rfl_le rfl_le dX9_voice_11 ?_
    refine om_if_ne O (tgt := 23) dX9_voice_14 (by decide) (fun c2o => ?_) (fun c2o => ?_)
    · replace h := (if_pos c2o).symm.trans h
      refine om_drop (lv' := [(0, vR (some a0))]) [0] rfl ?_
      exact g_X9_voice_b17 O hE ka0 h
    · replace h := (if_neg c2o).symm.trans h
      refine om_aload_n O 0 dX9_voice_23 rfl rfl ?_
      refine om_iconst O (v := 0) dX9_voice_24 (by decide) ?_
      revert h; refine om_letR (fun σ3o e1o h => ?_)
      refine pf_X9_210 O (Or.inl rfl) ka0 (om_lt ka0 (by decide)) dX9_voice_25 e1o ?_
      refine om_aload_n O 0 dX9_voice_28 rfl rfl ?_
      refine om_iload_n O 1 dX9_voice_29 rfl rfl ?_
      revert h; refine om_letR (fun σ4o e2o h => ?_)
      refine pf_X9_213 O (Or.inl rfl) ka0 (om_lt ka0 (by decide)) dX9_voice_30 e2o ?_
      refine om_aload_n O 0 dX9_voice_33 rfl rfl ?_
      refine om_iconst O (v := 0) dX9_voice_34 (by decide) ?_
      revert h; refine om_letR (fun σ5o e3o h => ?_)
      refine pf_X9_235 O (Or.inr ⟨rfl, Or.inl rfl⟩) ka0 (om_lt ka0 (by decide)) dX9_voice_35 e3o ?_
      refine om_aload_n O 0 dX9_voice_38 rfl rfl ?_
      revert h; refine om_callR (fun r3o σ6o g3o h => ?_)
      refine cl_X9_223 O (st := []) (stk := [vR (some a0)]) (st2 := [vI r3o]) [] (fun l G => c_X9_kindNow l G g3o) ka0 (om_lt ka0 (by decide)) (by decide) rfl rfl rfl_le rfl rfl_le rfl_le dX9_voice_39 ?_
      refine om_istore O (lv' := [(0, vR (some a0)), (2, vI v2), (3, vI v3), (4, vI r3o)]) [1, 3, 4, 0] rfl dX9_voice_42 (by decide) rfl ?_
      refine om_iload_n O 1 dX9_voice_44 rfl rfl ?_
      refine om_if_ne O (tgt := 58) dX9_voice_45 (by decide) (fun c3o => ?_) (fun c3o => ?_)
      · replace h := (if_pos c3o).symm.trans h
        refine om_aload_n O 0 dX9_voice_48 rfl rfl ?_
        refine om_iload O 3 dX9_voice_49 rfl ?_
        refine om_iload_n O 2 dX9_voice_51 rfl rfl ?_
        revert h; refine om_callR (fun r4o σ7o g4o h => ?_)
        refine cl_X9_220 O (st := []) (stk := [vI v3, vI r3o, vR (some a0)]) (st2 := [vI r4o]) [vI r3o, vI v3] (fun l G => c_X9_glowsAs l G g4o) ka0 (om_lt ka0 (by decide)) (by decide) rfl rfl rfl_le rfl rfl_le rfl_le dX9_voice_52 ?_
        refine om_goto O (tgt := 95) dX9_voice_55 (by decide) ?_
        refine om_drop (lv' := [(0, vR (some a0))]) [0] rfl ?_
        exact g_X9_voice_b95 O hE ka0 h
      · replace h := (if_neg c3o).symm.trans h
        refine om_iload_n O 1 dX9_voice_58 rfl rfl ?_
        refine om_iconst O (v := 1) dX9_voice_59 (by decide) ?_
        refine om_icmp_ne O (tgt := 73) dX9_voice_60 (by decide) (fun c4o => ?_) (fun c4o => ?_)
        · replace h := (if_pos c4o).symm.trans h
          refine om_aload_n O 0 dX9_voice_63 rfl rfl ?_
          refine om_iload O 3 dX9_voice_64 rfl ?_
          refine om_iload_n O 2 dX9_voice_66 rfl rfl ?_
          revert h; refine om_callR (fun r5o σ8o g5o h => ?_)
          refine cl_X9_226 O (st := []) (stk := [vI v3, vI r3o, vR (some a0)]) (st2 := [vI r5o]) [vI r3o, vI v3] (fun l G => c_X9_turnsAs l G g5o) ka0 (om_lt ka0 (by decide)) (by decide) rfl rfl rfl_le rfl rfl_le rfl_le dX9_voice_67 ?_
          refine om_goto O (tgt := 95) dX9_voice_70 (by decide) ?_
          refine om_drop (lv' := [(0, vR (some a0))]) [0] rfl ?_
          exact g_X9_voice_b95 O hE ka0 h
        · replace h := (if_neg c4o).symm.trans h
          refine om_iload_n O 1 dX9_voice_73 rfl rfl ?_
          refine om_iconst O (v := 2) dX9_voice_74 (by decide) ?_
          refine om_icmp_ne O (tgt := 88) dX9_voice_75 (by decide) (fun c5o => ?_) (fun c5o => ?_)
          · replace h := (if_pos c5o).symm.trans h
            refine om_aload_n O 0 dX9_voice_78 rfl rfl ?_
            refine om_iload O 3 dX9_voice_79 rfl ?_
            refine om_iload_n O 2 dX9_voice_81 rfl rfl ?_
            revert h; refine om_callR (fun r6o σ9o g6o h => ?_)
            refine cl_X9_232 O (st := []) (stk := [vI v3, vI r3o, vR (some a0)]) (st2 := [vI r6o]) [vI r3o, vI v3] (fun l G => c_X9_guttersAs l G g6o) ka0 (om_lt ka0 (by decide)) (by decide) rfl rfl rfl_le rfl rfl_le rfl_le dX9_voice_82 ?_
            refine om_goto O (tgt := 95) dX9_voice_85 (by decide) ?_
            refine om_drop (lv' := [(0, vR (some a0))]) [0] rfl ?_
            exact g_X9_voice_b95 O hE ka0 h
          · replace h := (if_neg c5o).symm.trans h
            refine om_aload_n O 0 dX9_voice_88 rfl rfl ?_
            refine om_iload O 3 dX9_voice_89 rfl ?_
            refine om_iload_n O 2 dX9_voice_91 rfl rfl ?_
            revert h; refine om_callR (fun r7o σ10o g7o h => ?_)
            refine cl_X9_239 O (st := []) (stk := [vI v3, vI r3o, vR (some a0)]) (st2 := [vI r7o]) [vI r3o, vI v3] (fun l G => c_X9_partsAs l G g7o) ka0 (om_lt ka0 (by decide)) (by decide) rfl rfl rfl_le rfl rfl_le rfl_le dX9_voice_92 ?_
            refine om_drop (lv' := [(0, vR (some a0))]) [0] rfl ?_
            exact g_X9_voice_b95 O hE ka0 h
def f_X9_body  (a0 : Nat) (v1 : Int32) (σ : om_S) : Option (Int32 × om_S) := if om_kc a0 = 9 then om_call (f_X9_in v1 (0 : Int32) ((σ a0 15) - (1 : Int32)) σ) fun (r1o : Int32) (σ1o : om_S) => if r1o = 0 then (om_call (f_X9_error a0 (2 : Int32) σ1o) fun (r2o : Int32) (σ2o : om_S) => some (r2o, σ2o)) else (om_ref (om_rf a0 16) 20 fun (t1o : Nat) => if om_in v1 (om_al t1o) then some ((σ1o t1o v1.toNatClampNeg), σ1o) else none) else none
set_option maxRecDepth 100000 in
theorem c_X9_body (l : Launch) (G : om_G) {a0 : Nat} {v1 : Int32} {σ : om_S} {r : Int32} {τ : om_S} (h : f_X9_body a0 v1 σ = some (r, τ)) : om_D l G 1 yX9_body cX9_body 2 (some FieldType.int) 0 0 [vR (some a0), vI v1] σ om_rf om_N (some (vI r)) τ om_rf om_N := by
  refine om_Dof (lv := [(0, vR (some a0)), (1, vI v1)]) (by decide) rfl_le rfl (fun x O hE => ?_)
  change om_Ok x RX9 "body" cX9_body 2 (some FieldType.int) 1 0 0 at O
  unfold f_X9_body at h
  revert h; refine om_iteR (fun ka0 h => ?_)
  refine om_iload_n O 1 dX9_body_0 rfl rfl ?_
  refine om_iconst O (v := 0) dX9_body_1 (by decide) ?_
  refine om_aload_n O 0 dX9_body_2 rfl rfl ?_
  refine gf_X9_210 O ka0 (om_lt ka0 (by decide)) dX9_body_3 ?_
  refine om_iconst O (v := 1) dX9_body_6 (by decide) ?_
  refine om_isub O dX9_body_7 ?_
  revert h; refine om_callR (fun r1o σ1o g1o h => ?_)
  refine cl_X9_57 O (st := []) (stk := [vI ((σ a0 15) - (1 : Int32)), vI (0 : Int32), vI v1]) (st2 := [vI r1o]) [vI v1, vI (0 : Int32), vI ((σ a0 15) - (1 : Int32))] (fun l G => c_X9_in l G g1o) (by decide) rfl rfl rfl_le rfl rfl_le rfl_le dX9_body_8 ?_
  refine om_if_eq O (tgt := 23) dX9_body_11 (by decide) (fun c1o => ?_) (fun c1o => ?_)
  · replace h := (if_pos c1o).symm.trans h
    refine om_aload_n O 0 dX9_body_23 rfl rfl ?_
    refine om_iconst O (v := 2) dX9_body_24 (by decide) ?_
    revert h; refine om_callR (fun r2o σ2o g2o h => ?_)
    refine cl_X9_61 O (st := []) (stk := [vI (2 : Int32), vR (some a0)]) (st2 := [vI r2o]) [vI (2 : Int32)] (fun l G => c_X9_error l G g2o) ka0 (om_lt ka0 (by decide)) (by decide) rfl rfl rfl_le rfl rfl_le rfl_le dX9_body_25 ?_
    exact om_iret (st := []) O (om_eI hE h) rfl dX9_body_28
  · replace h := (if_neg c1o).symm.trans h
    refine om_aload_n O 0 dX9_body_14 rfl rfl ?_
    revert h; refine om_refR (fun t1o y1o k1o h => ?_)
    refine gf_X9_41 O ka0 (om_lt ka0 (by decide)) dX9_body_15 ?_
    rw [y1o]
    refine om_iload_n O 1 dX9_body_18 rfl rfl ?_
    revert h; refine om_iteR (fun i1o h => ?_)
    refine om_iald O k1o (om_lt k1o (by decide)) i1o dX9_body_19 ?_
    refine om_goto O (tgt := 28) dX9_body_20 (by decide) ?_
    exact om_iret (st := []) O (om_eI hE h) rfl dX9_body_28
def f_X9_sheet_b29  (a0 : Nat) (σ : om_S) : Option (Int32 × om_S) := om_call (f_X9_error a0 (1 : Int32) σ) fun (r1o : Int32) (σ1o : om_S) => some (r1o, σ1o)
set_option maxRecDepth 100000 in
theorem g_X9_sheet_b29 {x : om_X}   (O : om_Ok x RX9 "sheet" cX9_sheet 5 (some FieldType.int) 2 0 0)   {r : Int32} {τ : om_S} (hE : om_End x (some (vI r)) τ om_rf om_N 0 0)   {a0 : Nat} {σ : om_S} (ka0 : om_kc a0 = 9) (h : f_X9_sheet_b29 a0 σ = some (r, τ)) : om_J x 29 [(0, vR (some a0))] [] σ om_rf om_N 0 0 := by
  unfold f_X9_sheet_b29 at h
  refine om_aload_n O 0 dX9_sheet_29 rfl rfl ?_
  refine om_iconst O (v := 1) dX9_sheet_30 (by decide) ?_
  revert h; refine om_callR (fun r1o σ1o g1o h => ?_)
  refine cl_X9_61 O (st := []) (stk := [vI (1 : Int32), vR (some a0)]) (st2 := [vI r1o]) [vI (1 : Int32)] (fun l G => c_X9_error l G g1o) ka0 (om_lt ka0 (by decide)) (by decide) rfl rfl rfl_le rfl rfl_le rfl_le dX9_sheet_31 ?_
  exact om_iret (st := []) O (om_eI hE h) rfl dX9_sheet_34
def f_X9_sheet_b90  : Nat → Nat → Int32 → Int32 → om_S → Option (Int32 × om_S)
  | 0, _, _, _, _ => none
  | F + 1, a0, v1, v4, σ => if (24 : Int32) ≤ v4 then (some ((1 : Int32), σ)) else (om_ref (om_rf a0 21) 20 fun (t1o : Nat) => if om_in (((24 : Int32) * v1) + v4) (om_al t1o) then om_let (om_w σ t1o (((24 : Int32) * v1) + v4).toNatClampNeg (0 : Int32)) fun (σ1o : om_S) => (f_X9_sheet_b90 F) a0 v1 (v4 + 1) σ1o else none)
set_option maxRecDepth 100000 in
theorem g_X9_sheet_b90 {x : om_X}   (O : om_Ok x RX9 "sheet" cX9_sheet 5 (some FieldType.int) 2 0 0)   {r : Int32} {τ : om_S} (hE : om_End x (some (vI r)) τ om_rf om_N 0 0)   : ∀ (F : Nat) (a0 : Nat) (v1 : Int32) (v4 : Int32) (σ : om_S) (ka0 : om_kc a0 = 9), f_X9_sheet_b90 F a0 v1 v4 σ = some (r, τ) → om_J x 90 [(0, vR (some a0)), (1, vI v1), (4, vI v4)] [] σ om_rf om_N 0 0 := by
  intro F
  induction F with
  | zero =>
    intro a0 v1 v4 σ ka0 h
    cases h
  | succ F ih =>
    intro a0 v1 v4 σ ka0 h
    unfold f_X9_sheet_b90 at h
    refine om_iload O 2 dX9_sheet_90 rfl ?_
    refine om_bipush O (v := 24) dX9_sheet_92 (by decide) ?_
    refine om_icmp_ge O (tgt := 116) dX9_sheet_94 (by decide) (fun c1o => ?_) (fun c1o => ?_)
    · replace h := (if_pos c1o).symm.trans h
      refine om_iconst O (v := 1) dX9_sheet_116 (by decide) ?_
      exact om_iret (st := []) O (om_eI hE h) rfl dX9_sheet_117
    · replace h := (if_neg c1o).symm.trans h
      refine om_aload_n O 0 dX9_sheet_97 rfl rfl ?_
      revert h; refine om_refR (fun t1o y1o k1o h => ?_)
      refine gf_X9_50 O ka0 (om_lt ka0 (by decide)) dX9_sheet_98 ?_
      rw [y1o]
      refine om_bipush O (v := 24) dX9_sheet_101 (by decide) ?_
      refine om_iload_n O 1 dX9_sheet_103 rfl rfl ?_
      refine om_imul O dX9_sheet_104 ?_
      refine om_iload O 2 dX9_sheet_105 rfl ?_
      refine om_iadd O dX9_sheet_107 ?_
      refine om_iconst O (v := 0) dX9_sheet_108 (by decide) ?_
      revert h; refine om_iteR (fun i1o h => ?_)
      revert h; refine om_letR (fun σ1o e1o h => ?_)
      refine om_iast O k1o (om_lt k1o (by decide)) i1o dX9_sheet_109 e1o ?_
      refine om_iinc O (v1 := (v4 + 1)) (lv' := [(0, vR (some a0)), (1, vI v1), (4, vI (v4 + 1))]) 2 [1, 2, 0] rfl dX9_sheet_110 rfl rfl (by decide) rfl ?_
      refine om_goto O (tgt := 90) dX9_sheet_113 (by decide) ?_
      exact ih _ _ _ _ ka0 h
def f_X9_sheet_b86  (a0 : Nat) (v1 : Int32) (b0 : Nat) (s1 : Int32) (s2 : Int32) (σ : om_S) : Option (Int32 × om_S) := if om_in s1 (om_al b0) then om_let (om_w σ b0 s1.toNatClampNeg s2) fun (σ1o : om_S) => f_X9_sheet_b90 om_F a0 v1 (0 : Int32) σ1o else none
set_option maxRecDepth 100000 in
theorem g_X9_sheet_b86 {x : om_X}   (O : om_Ok x RX9 "sheet" cX9_sheet 5 (some FieldType.int) 2 0 0)   {r : Int32} {τ : om_S} (hE : om_End x (some (vI r)) τ om_rf om_N 0 0)   {a0 : Nat} {v1 : Int32} {b0 : Nat} {s1 : Int32} {s2 : Int32} {σ : om_S} (ka0 : om_kc a0 = 9) (kb0 : om_kc b0 = 20) (h : f_X9_sheet_b86 a0 v1 b0 s1 s2 σ = some (r, τ)) : om_J x 86 [(0, vR (some a0)), (1, vI v1)] [vI s2, vI s1, vR (some b0)] σ om_rf om_N 0 0 := by
  unfold f_X9_sheet_b86 at h
  revert h; refine om_iteR (fun i1o h => ?_)
  revert h; refine om_letR (fun σ1o e1o h => ?_)
  refine om_iast O kb0 (om_lt kb0 (by decide)) i1o dX9_sheet_86 e1o ?_
  refine om_iconst O (v := 0) dX9_sheet_87 (by decide) ?_
  refine om_istore O (lv' := [(0, vR (some a0)), (1, vI v1), (4, vI (0 : Int32))]) [1, 2, 0] rfl dX9_sheet_88 (by decide) rfl ?_
  exact g_X9_sheet_b90 O hE om_F _ _ _ _ ka0 h
def f_X9_sheet_b65  (a0 : Nat) (v1 : Int32) (v2 : Int32) (v3 : Int32) (σ : om_S) : Option (Int32 × om_S) := om_ref (om_rf a0 19) 20 fun (t1o : Nat) => if om_in v1 (om_al t1o) then om_let (om_w σ t1o v1.toNatClampNeg v2) fun (σ1o : om_S) => om_ref (om_rf a0 20) 20 fun (t2o : Nat) => if v2 = 0 then (f_X9_sheet_b86 a0 v1 t2o v1 (0 : Int32) σ1o) else (f_X9_sheet_b86 a0 v1 t2o v1 v3 σ1o) else none
set_option maxRecDepth 100000 in
theorem g_X9_sheet_b65 {x : om_X}   (O : om_Ok x RX9 "sheet" cX9_sheet 5 (some FieldType.int) 2 0 0)   {r : Int32} {τ : om_S} (hE : om_End x (some (vI r)) τ om_rf om_N 0 0)   {a0 : Nat} {v1 : Int32} {v2 : Int32} {v3 : Int32} {σ : om_S} (ka0 : om_kc a0 = 9) (h : f_X9_sheet_b65 a0 v1 v2 v3 σ = some (r, τ)) : om_J x 65 [(0, vR (some a0)), (1, vI v1), (2, vI v2), (3, vI v3)] [] σ om_rf om_N 0 0 := by
  unfold f_X9_sheet_b65 at h
  refine om_aload_n O 0 dX9_sheet_65 rfl rfl ?_
  revert h; refine om_refR (fun t1o y1o k1o h => ?_)
  refine gf_X9_44 O ka0 (om_lt ka0 (by decide)) dX9_sheet_66 ?_
  rw [y1o]
  refine om_iload_n O 1 dX9_sheet_69 rfl rfl ?_
  refine om_iload_n O 2 dX9_sheet_70 rfl rfl ?_
  revert h; refine om_iteR (fun i1o h => ?_)
  revert h; refine om_letR (fun σ1o e1o h => ?_)
  refine om_iast O k1o (om_lt k1o (by decide)) i1o dX9_sheet_71 e1o ?_
  refine om_aload_n O 0 dX9_sheet_72 rfl rfl ?_
  revert h; refine om_refR (fun t2o y2o k2o h => ?_)
  refine gf_X9_47 O ka0 (om_lt ka0 (by decide)) dX9_sheet_73 ?_
  rw [y2o]
  refine om_iload_n O 1 dX9_sheet_76 rfl rfl ?_
  refine om_iload_n O 2 dX9_sheet_77 rfl rfl ?_
  refine om_if_ne O (tgt := 85) dX9_sheet_78 (by decide) (fun c1o => ?_) (fun c1o => ?_)
  · replace h := (if_pos c1o).symm.trans h
    refine om_iconst O (v := 0) dX9_sheet_81 (by decide) ?_
    refine om_goto O (tgt := 86) dX9_sheet_82 (by decide) ?_
    refine om_drop (lv' := [(0, vR (some a0)), (1, vI v1)]) [0, 1] rfl ?_
    exact g_X9_sheet_b86 O hE ka0 k2o h
  · replace h := (if_neg c1o).symm.trans h
    refine om_iload_n O 3 dX9_sheet_85 rfl rfl ?_
    refine om_drop (lv' := [(0, vR (some a0)), (1, vI v1)]) [0, 1] rfl ?_
    exact g_X9_sheet_b86 O hE ka0 k2o h
def f_X9_sheet_b49  (a0 : Nat) (v1 : Int32) (v2 : Int32) (v3 : Int32) (σ : om_S) : Option (Int32 × om_S) := if v2 = 0 then (f_X9_sheet_b65 a0 v1 v2 v3 σ) else (if v3 ≤ (24 : Int32) then (f_X9_sheet_b65 a0 v1 v2 v3 σ) else (om_call (f_X9_error a0 (1 : Int32) σ) fun (r1o : Int32) (σ1o : om_S) => some (r1o, σ1o)))
set_option maxRecDepth 100000 in
theorem g_X9_sheet_b49 {x : om_X}   (O : om_Ok x RX9 "sheet" cX9_sheet 5 (some FieldType.int) 2 0 0)   {r : Int32} {τ : om_S} (hE : om_End x (some (vI r)) τ om_rf om_N 0 0)   {a0 : Nat} {v1 : Int32} {v2 : Int32} {v3 : Int32} {σ : om_S} (ka0 : om_kc a0 = 9) (h : f_X9_sheet_b49 a0 v1 v2 v3 σ = some (r, τ)) : om_J x 49 [(0, vR (some a0)), (1, vI v1), (2, vI v2), (3, vI v3)] [] σ om_rf om_N 0 0 := by
  unfold f_X9_sheet_b49 at h
  refine om_iload_n O 2 dX9_sheet_49 rfl rfl ?_
  refine om_if_eq O (tgt := 65) dX9_sheet_50 (by decide) (fun c1o => ?_) (fun c1o => ?_)
  · replace h := (if_pos c1o).symm.trans h
    exact g_X9_sheet_b65 O hE ka0 h
  · replace h := (if_neg c1o).symm.trans h
    refine om_iload_n O 3 dX9_sheet_53 rfl rfl ?_
    refine om_bipush O (v := 24) dX9_sheet_54 (by decide) ?_
    refine om_icmp_le O (tgt := 65) dX9_sheet_56 (by decide) (fun c2o => ?_) (fun c2o => ?_)
    · replace h := (if_pos c2o).symm.trans h
      exact g_X9_sheet_b65 O hE ka0 h
    · replace h := (if_neg c2o).symm.trans h
      refine om_aload_n O 0 dX9_sheet_59 rfl rfl ?_
      refine om_iconst O (v := 1) dX9_sheet_60 (by decide) ?_
      revert h; refine om_callR (fun r1o σ1o g1o h => ?_)
      refine cl_X9_61 O (st := []) (stk := [vI (1 : Int32), vR (some a0)]) (st2 := [vI r1o]) [vI (1 : Int32)] (fun l G => c_X9_error l G g1o) ka0 (om_lt ka0 (by decide)) (by decide) rfl rfl rfl_le rfl rfl_le rfl_le dX9_sheet_61 ?_
      exact om_iret (st := []) O (om_eI hE h) rfl dX9_sheet_64
def f_X9_sheet_b35  (a0 : Nat) (v1 : Int32) (v2 : Int32) (v3 : Int32) (σ : om_S) : Option (Int32 × om_S) := if v2 = 0 then (f_X9_sheet_b49 a0 v1 v2 v3 σ) else (if 0 ≤ v3 then (f_X9_sheet_b49 a0 v1 v2 v3 σ) else (om_call (f_X9_error a0 (3 : Int32) σ) fun (r1o : Int32) (σ1o : om_S) => some (r1o, σ1o)))
set_option maxRecDepth 100000 in
theorem g_X9_sheet_b35 {x : om_X}   (O : om_Ok x RX9 "sheet" cX9_sheet 5 (some FieldType.int) 2 0 0)   {r : Int32} {τ : om_S} (hE : om_End x (some (vI r)) τ om_rf om_N 0 0)   {a0 : Nat} {v1 : Int32} {v2 : Int32} {v3 : Int32} {σ : om_S} (ka0 : om_kc a0 = 9) (h : f_X9_sheet_b35 a0 v1 v2 v3 σ = some (r, τ)) : om_J x 35 [(0, vR (some a0)), (1, vI v1), (2, vI v2), (3, vI v3)] [] σ om_rf om_N 0 0 := by
  unfold f_X9_sheet_b35 at h
  refine om_iload_n O 2 dX9_sheet_35 rfl rfl ?_
  refine om_if_eq O (tgt := 49) dX9_sheet_36 (by decide) (fun c1o => ?_) (fun c1o => ?_)
  · replace h := (if_pos c1o).symm.trans h
    exact g_X9_sheet_b49 O hE ka0 h
  · replace h := (if_neg c1o).symm.trans h
    refine om_iload_n O 3 dX9_sheet_39 rfl rfl ?_
    refine om_if_ge O (tgt := 49) dX9_sheet_40 (by decide) (fun c2o => ?_) (fun c2o => ?_)
    · replace h := (if_pos c2o).symm.trans h
      exact g_X9_sheet_b49 O hE ka0 h
    · replace h := (if_neg c2o).symm.trans h
      refine om_aload_n O 0 dX9_sheet_43 rfl rfl ?_
      refine om_iconst O (v := 3) dX9_sheet_44 (by decide) ?_
      revert h; refine om_callR (fun r1o σ1o g1o h => ?_)
      refine cl_X9_61 O (st := []) (stk := [vI (3 : Int32), vR (some a0)]) (st2 := [vI r1o]) [vI (3 : Int32)] (fun l G => c_X9_error l G g1o) ka0 (om_lt ka0 (by decide)) (by decide) rfl rfl rfl_le rfl rfl_le rfl_le dX9_sheet_45 ?_
      exact om_iret (st := []) O (om_eI hE h) rfl dX9_sheet_48
def f_X9_sheet  (a0 : Nat) (v1 : Int32) (v2 : Int32) (v3 : Int32) (σ : om_S) : Option (Int32 × om_S) := if om_kc a0 = 9 then om_call (f_X9_isSheet v1 σ) fun (r1o : Int32) (σ1o : om_S) => if r1o = 0 then (f_X9_sheet_b29 a0 σ1o) else (if v2 = 0 then (f_X9_sheet_b35 a0 v1 v2 v3 σ1o) else (if v2 = (8 : Int32) then (f_X9_sheet_b35 a0 v1 v2 v3 σ1o) else (if v2 = (16 : Int32) then (f_X9_sheet_b35 a0 v1 v2 v3 σ1o) else (if v2 = (32 : Int32) then (f_X9_sheet_b35 a0 v1 v2 v3 σ1o) else (f_X9_sheet_b29 a0 σ1o))))) else none
set_option maxRecDepth 100000 in
theorem c_X9_sheet (l : Launch) (G : om_G) {a0 : Nat} {v1 : Int32} {v2 : Int32} {v3 : Int32} {σ : om_S} {r : Int32} {τ : om_S} (h : f_X9_sheet a0 v1 v2 v3 σ = some (r, τ)) : om_D l G 2 yX9_sheet cX9_sheet 5 (some FieldType.int) 0 0 [vR (some a0), vI v1, vI v2, vI v3] σ om_rf om_N (some (vI r)) τ om_rf om_N := by
  refine om_Dof (lv := [(0, vR (some a0)), (1, vI v1), (2, vI v2), (3, vI v3)]) (by decide) rfl_le rfl (fun x O hE => ?_)
  change om_Ok x RX9 "sheet" cX9_sheet 5 (some FieldType.int) 2 0 0 at O
  unfold f_X9_sheet at h
  revert h; refine om_iteR (fun ka0 h => ?_)
  refine om_iload_n O 1 dX9_sheet_0 rfl rfl ?_
  revert h; refine om_callR (fun r1o σ1o g1o h => ?_)
  refine cl_X9_242 O (st := []) (stk := [vI v1]) (st2 := [vI r1o]) [vI v1] (fun l G => c_X9_isSheet l G g1o) (by decide) rfl rfl rfl_le rfl rfl_le rfl_le dX9_sheet_1 ?_
  refine om_if_eq O (tgt := 29) dX9_sheet_4 (by decide) (fun c1o => ?_) (fun c1o => ?_)
  · replace h := (if_pos c1o).symm.trans h
    refine om_drop (lv' := [(0, vR (some a0))]) [0] rfl ?_
    exact g_X9_sheet_b29 O hE ka0 h
  · replace h := (if_neg c1o).symm.trans h
    refine om_iload_n O 2 dX9_sheet_7 rfl rfl ?_
    refine om_if_eq O (tgt := 35) dX9_sheet_8 (by decide) (fun c2o => ?_) (fun c2o => ?_)
    · replace h := (if_pos c2o).symm.trans h
      exact g_X9_sheet_b35 O hE ka0 h
    · replace h := (if_neg c2o).symm.trans h
      refine om_iload_n O 2 dX9_sheet_11 rfl rfl ?_
      refine om_bipush O (v := 8) dX9_sheet_12 (by decide) ?_
      refine om_icmp_eq O (tgt := 35) dX9_sheet_14 (by decide) (fun c3o => ?_) (fun c3o => ?_)
      · replace h := (if_pos c3o).symm.trans h
        exact g_X9_sheet_b35 O hE ka0 h
      · replace h := (if_neg c3o).symm.trans h
        refine om_iload_n O 2 dX9_sheet_17 rfl rfl ?_
        refine om_bipush O (v := 16) dX9_sheet_18 (by decide) ?_
        refine om_icmp_eq O (tgt := 35) dX9_sheet_20 (by decide) (fun c4o => ?_) (fun c4o => ?_)
        · replace h := (if_pos c4o).symm.trans h
          exact g_X9_sheet_b35 O hE ka0 h
        · replace h := (if_neg c4o).symm.trans h
          refine om_iload_n O 2 dX9_sheet_23 rfl rfl ?_
          refine om_bipush O (v := 32) dX9_sheet_24 (by decide) ?_
          refine om_icmp_eq O (tgt := 35) dX9_sheet_26 (by decide) (fun c5o => ?_) (fun c5o => ?_)
          · replace h := (if_pos c5o).symm.trans h
            exact g_X9_sheet_b35 O hE ka0 h
          · replace h := (if_neg c5o).symm.trans h
            refine om_drop (lv' := [(0, vR (some a0))]) [0] rfl ?_
            exact g_X9_sheet_b29 O hE ka0 h
def f_X9_put  (a0 : Nat) (v1 : Int32) (v2 : Int32) (v3 : Int32) (σ : om_S) : Option (Int32 × om_S) := if om_kc a0 = 9 then om_call (f_X9_isSheet v1 σ) fun (r1o : Int32) (σ1o : om_S) => if r1o = 0 then (om_call (f_X9_error a0 (1 : Int32) σ1o) fun (r2o : Int32) (σ2o : om_S) => some (r2o, σ2o)) else (om_ref (om_rf a0 19) 20 fun (t1o : Nat) => if om_in v1 (om_al t1o) then if (σ1o t1o v1.toNatClampNeg) = 0 then (om_call (f_X9_error a0 (2 : Int32) σ1o) fun (r3o : Int32) (σ3o : om_S) => some (r3o, σ3o)) else (om_ref (om_rf a0 20) 20 fun (t2o : Nat) => if om_in v1 (om_al t2o) then om_call (f_X9_in v2 (0 : Int32) ((σ1o t2o v1.toNatClampNeg) - (1 : Int32)) σ1o) fun (r4o : Int32) (σ4o : om_S) => if r4o = 0 then (om_call (f_X9_error a0 (1 : Int32) σ4o) fun (r5o : Int32) (σ5o : om_S) => some (r5o, σ5o)) else (om_ref (om_rf a0 19) 20 fun (t3o : Nat) => if om_in v1 (om_al t3o) then om_let ((32 : Int32) - (σ4o t3o v1.toNatClampNeg)) fun (x1o : Int32) => om_ref (om_rf a0 21) 20 fun (t4o : Nat) => if om_in (((24 : Int32) * v1) + v2) (om_al t4o) then om_let (om_w σ4o t4o (((24 : Int32) * v1) + v2).toNatClampNeg ((v3 <<< (x1o &&& 31)) >>> (x1o &&& 31))) fun (σ6o : om_S) => some ((1 : Int32), σ6o) else none else none) else none) else none) else none
set_option maxRecDepth 100000 in
theorem c_X9_put (l : Launch) (G : om_G) {a0 : Nat} {v1 : Int32} {v2 : Int32} {v3 : Int32} {σ : om_S} {r : Int32} {τ : om_S} (h : f_X9_put a0 v1 v2 v3 σ = some (r, τ)) : om_D l G 2 yX9_put cX9_put 5 (some FieldType.int) 0 0 [vR (some a0), vI v1, vI v2, vI v3] σ om_rf om_N (some (vI r)) τ om_rf om_N := by
  refine om_Dof (lv := [(0, vR (some a0)), (1, vI v1), (2, vI v2), (3, vI v3)]) (by decide) rfl_le rfl (fun x O hE => ?_)
  change om_Ok x RX9 "put" cX9_put 5 (some FieldType.int) 2 0 0 at O
  unfold f_X9_put at h
  revert h; refine om_iteR (fun ka0 h => ?_)
  refine om_iload_n O 1 dX9_put_0 rfl rfl ?_
  revert h; refine om_callR (fun r1o σ1o g1o h => ?_)
  refine cl_X9_242 O (st := []) (stk := [vI v1]) (st2 := [vI r1o]) [vI v1] (fun l G => c_X9_isSheet l G g1o) (by decide) rfl rfl rfl_le rfl rfl_le rfl_le dX9_put_1 ?_
  refine om_if_ne O (tgt := 13) dX9_put_4 (by decide) (fun c1o => ?_) (fun c1o => ?_)
  · replace h := (if_pos c1o).symm.trans h
    refine om_aload_n O 0 dX9_put_7 rfl rfl ?_
    refine om_iconst O (v := 1) dX9_put_8 (by decide) ?_
    revert h; refine om_callR (fun r2o σ2o g2o h => ?_)
    refine cl_X9_61 O (st := []) (stk := [vI (1 : Int32), vR (some a0)]) (st2 := [vI r2o]) [vI (1 : Int32)] (fun l G => c_X9_error l G g2o) ka0 (om_lt ka0 (by decide)) (by decide) rfl rfl rfl_le rfl rfl_le rfl_le dX9_put_9 ?_
    exact om_iret (st := []) O (om_eI hE h) rfl dX9_put_12
  · replace h := (if_neg c1o).symm.trans h
    refine om_aload_n O 0 dX9_put_13 rfl rfl ?_
    revert h; refine om_refR (fun t1o y1o k1o h => ?_)
    refine gf_X9_44 O ka0 (om_lt ka0 (by decide)) dX9_put_14 ?_
    rw [y1o]
    refine om_iload_n O 1 dX9_put_17 rfl rfl ?_
    revert h; refine om_iteR (fun i1o h => ?_)
    refine om_iald O k1o (om_lt k1o (by decide)) i1o dX9_put_18 ?_
    refine om_if_ne O (tgt := 28) dX9_put_19 (by decide) (fun c2o => ?_) (fun c2o => ?_)
    · replace h := (if_pos c2o).symm.trans h
      refine om_aload_n O 0 dX9_put_22 rfl rfl ?_
      refine om_iconst O (v := 2) dX9_put_23 (by decide) ?_
      revert h; refine om_callR (fun r3o σ3o g3o h => ?_)
      refine cl_X9_61 O (st := []) (stk := [vI (2 : Int32), vR (some a0)]) (st2 := [vI r3o]) [vI (2 : Int32)] (fun l G => c_X9_error l G g3o) ka0 (om_lt ka0 (by decide)) (by decide) rfl rfl rfl_le rfl rfl_le rfl_le dX9_put_24 ?_
      exact om_iret (st := []) O (om_eI hE h) rfl dX9_put_27
    · replace h := (if_neg c2o).symm.trans h
      refine om_iload_n O 2 dX9_put_28 rfl rfl ?_
      refine om_iconst O (v := 0) dX9_put_29 (by decide) ?_
      refine om_aload_n O 0 dX9_put_30 rfl rfl ?_
      revert h; refine om_refR (fun t2o y2o k2o h => ?_)
      refine gf_X9_47 O ka0 (om_lt ka0 (by decide)) dX9_put_31 ?_
      rw [y2o]
      refine om_iload_n O 1 dX9_put_34 rfl rfl ?_
      revert h; refine om_iteR (fun i2o h => ?_)
      refine om_iald O k2o (om_lt k2o (by decide)) i2o dX9_put_35 ?_
      refine om_iconst O (v := 1) dX9_put_36 (by decide) ?_
      refine om_isub O dX9_put_37 ?_
      revert h; refine om_callR (fun r4o σ4o g4o h => ?_)
      refine cl_X9_57 O (st := []) (stk := [vI ((σ1o t2o v1.toNatClampNeg) - (1 : Int32)), vI (0 : Int32), vI v2]) (st2 := [vI r4o]) [vI v2, vI (0 : Int32), vI ((σ1o t2o v1.toNatClampNeg) - (1 : Int32))] (fun l G => c_X9_in l G g4o) (by decide) rfl rfl rfl_le rfl rfl_le rfl_le dX9_put_38 ?_
      refine om_if_ne O (tgt := 50) dX9_put_41 (by decide) (fun c3o => ?_) (fun c3o => ?_)
      · replace h := (if_pos c3o).symm.trans h
        refine om_aload_n O 0 dX9_put_44 rfl rfl ?_
        refine om_iconst O (v := 1) dX9_put_45 (by decide) ?_
        revert h; refine om_callR (fun r5o σ5o g5o h => ?_)
        refine cl_X9_61 O (st := []) (stk := [vI (1 : Int32), vR (some a0)]) (st2 := [vI r5o]) [vI (1 : Int32)] (fun l G => c_X9_error l G g5o) ka0 (om_lt ka0 (by decide)) (by decide) rfl rfl rfl_le rfl rfl_le rfl_le dX9_put_46 ?_
        exact om_iret (st := []) O (om_eI hE h) rfl dX9_put_49
      · replace h := (if_neg c3o).symm.trans h
        refine om_bipush O (v := 32) dX9_put_50 (by decide) ?_
        refine om_aload_n O 0 dX9_put_52 rfl rfl ?_
        revert h; refine om_refR (fun t3o y3o k3o h => ?_)
        refine gf_X9_44 O ka0 (om_lt ka0 (by decide)) dX9_put_53 ?_
        rw [y3o]
        refine om_iload_n O 1 dX9_put_56 rfl rfl ?_
        revert h; refine om_iteR (fun i3o h => ?_)
        refine om_iald O k3o (om_lt k3o (by decide)) i3o dX9_put_57 ?_
        refine om_isub O dX9_put_58 ?_
        revert h; refine om_letR (fun x1o e1o h => ?_)
        refine om_istore O (lv' := [(0, vR (some a0)), (1, vI v1), (2, vI v2), (3, vI v3), (4, vI x1o)]) [1, 2, 3, 4, 0] e1o dX9_put_59 (by decide) rfl ?_
        refine om_aload_n O 0 dX9_put_61 rfl rfl ?_
        revert h; refine om_refR (fun t4o y4o k4o h => ?_)
        refine gf_X9_50 O ka0 (om_lt ka0 (by decide)) dX9_put_62 ?_
        rw [y4o]
        refine om_bipush O (v := 24) dX9_put_65 (by decide) ?_
        refine om_iload_n O 1 dX9_put_67 rfl rfl ?_
        refine om_imul O dX9_put_68 ?_
        refine om_iload_n O 2 dX9_put_69 rfl rfl ?_
        refine om_iadd O dX9_put_70 ?_
        refine om_iload_n O 3 dX9_put_71 rfl rfl ?_
        refine om_iload O 4 dX9_put_72 rfl ?_
        refine om_ishl O dX9_put_74 ?_
        refine om_iload O 4 dX9_put_75 rfl ?_
        refine om_ishr O dX9_put_77 ?_
        revert h; refine om_iteR (fun i4o h => ?_)
        revert h; refine om_letR (fun σ6o e2o h => ?_)
        refine om_iast O k4o (om_lt k4o (by decide)) i4o dX9_put_78 e2o ?_
        refine om_iconst O (v := 1) dX9_put_79 (by decide) ?_
        exact om_iret (st := []) O (om_eI hE h) rfl dX9_put_80
def f_X9_move_b14  (a0 : Nat) (σ : om_S) : Option (Int32 × om_S) := om_call (f_X9_error a0 (1 : Int32) σ) fun (r1o : Int32) (σ1o : om_S) => some (r1o, σ1o)
set_option maxRecDepth 100000 in
theorem g_X9_move_b14 {x : om_X}   (O : om_Ok x RX9 "move" cX9_move 7 (some FieldType.int) 2 0 0)   {r : Int32} {τ : om_S} (hE : om_End x (some (vI r)) τ om_rf om_N 0 0)   {a0 : Nat} {σ : om_S} (ka0 : om_kc a0 = 9) (h : f_X9_move_b14 a0 σ = some (r, τ)) : om_J x 14 [(0, vR (some a0))] [] σ om_rf om_N 0 0 := by
  unfold f_X9_move_b14 at h
  refine om_aload_n O 0 dX9_move_14 rfl rfl ?_
  refine om_iconst O (v := 1) dX9_move_15 (by decide) ?_
  revert h; refine om_callR (fun r1o σ1o g1o h => ?_)
  refine cl_X9_61 O (st := []) (stk := [vI (1 : Int32), vR (some a0)]) (st2 := [vI r1o]) [vI (1 : Int32)] (fun l G => c_X9_error l G g1o) ka0 (om_lt ka0 (by decide)) (by decide) rfl rfl rfl_le rfl rfl_le rfl_le dX9_move_16 ?_
  exact om_iret (st := []) O (om_eI hE h) rfl dX9_move_19
def f_X9_move_b38  (a0 : Nat) (σ : om_S) : Option (Int32 × om_S) := om_call (f_X9_error a0 (2 : Int32) σ) fun (r1o : Int32) (σ1o : om_S) => some (r1o, σ1o)
set_option maxRecDepth 100000 in
theorem g_X9_move_b38 {x : om_X}   (O : om_Ok x RX9 "move" cX9_move 7 (some FieldType.int) 2 0 0)   {r : Int32} {τ : om_S} (hE : om_End x (some (vI r)) τ om_rf om_N 0 0)   {a0 : Nat} {σ : om_S} (ka0 : om_kc a0 = 9) (h : f_X9_move_b38 a0 σ = some (r, τ)) : om_J x 38 [(0, vR (some a0))] [] σ om_rf om_N 0 0 := by
  unfold f_X9_move_b38 at h
  refine om_aload_n O 0 dX9_move_38 rfl rfl ?_
  refine om_iconst O (v := 2) dX9_move_39 (by decide) ?_
  revert h; refine om_callR (fun r1o σ1o g1o h => ?_)
  refine cl_X9_61 O (st := []) (stk := [vI (2 : Int32), vR (some a0)]) (st2 := [vI r1o]) [vI (2 : Int32)] (fun l G => c_X9_error l G g1o) ka0 (om_lt ka0 (by decide)) (by decide) rfl rfl rfl_le rfl rfl_le rfl_le dX9_move_40 ?_
  exact om_iret (st := []) O (om_eI hE h) rfl dX9_move_43
def f_X9_move_b106  (a0 : Nat) (σ : om_S) : Option (Int32 × om_S) := om_call (f_X9_error a0 (1 : Int32) σ) fun (r1o : Int32) (σ1o : om_S) => some (r1o, σ1o)
set_option maxRecDepth 100000 in
theorem g_X9_move_b106 {x : om_X}   (O : om_Ok x RX9 "move" cX9_move 7 (some FieldType.int) 2 0 0)   {r : Int32} {τ : om_S} (hE : om_End x (some (vI r)) τ om_rf om_N 0 0)   {a0 : Nat} {σ : om_S} (ka0 : om_kc a0 = 9) (h : f_X9_move_b106 a0 σ = some (r, τ)) : om_J x 106 [(0, vR (some a0))] [] σ om_rf om_N 0 0 := by
  unfold f_X9_move_b106 at h
  refine om_aload_n O 0 dX9_move_106 rfl rfl ?_
  refine om_iconst O (v := 1) dX9_move_107 (by decide) ?_
  revert h; refine om_callR (fun r1o σ1o g1o h => ?_)
  refine cl_X9_61 O (st := []) (stk := [vI (1 : Int32), vR (some a0)]) (st2 := [vI r1o]) [vI (1 : Int32)] (fun l G => c_X9_error l G g1o) ka0 (om_lt ka0 (by decide)) (by decide) rfl rfl rfl_le rfl rfl_le rfl_le dX9_move_108 ?_
  exact om_iret (st := []) O (om_eI hE h) rfl dX9_move_111
def f_X9_move_b152  : Nat → Nat → Int32 → Int32 → Int32 → Int32 → om_S → Option (Int32 × om_S)
  | 0, _, _, _, _, _, _ => none
  | F + 1, a0, v3, v4, v5, v6, σ => if v5 ≤ v6 then (some (v5, σ)) else (om_ref (om_rf a0 21) 20 fun (t1o : Nat) => om_ref (om_rf a0 22) 20 fun (t2o : Nat) => if om_in v6 (om_al t2o) then if om_in ((((24 : Int32) * v3) + v4) + v6) (om_al t1o) then om_let (om_w σ t1o ((((24 : Int32) * v3) + v4) + v6).toNatClampNeg (σ t2o v6.toNatClampNeg)) fun (σ1o : om_S) => (f_X9_move_b152 F) a0 v3 v4 v5 (v6 + 1) σ1o else none else none)
set_option maxRecDepth 100000 in
theorem g_X9_move_b152 {x : om_X}   (O : om_Ok x RX9 "move" cX9_move 7 (some FieldType.int) 2 0 0)   {r : Int32} {τ : om_S} (hE : om_End x (some (vI r)) τ om_rf om_N 0 0)   : ∀ (F : Nat) (a0 : Nat) (v3 : Int32) (v4 : Int32) (v5 : Int32) (v6 : Int32) (σ : om_S) (ka0 : om_kc a0 = 9), f_X9_move_b152 F a0 v3 v4 v5 v6 σ = some (r, τ) → om_J x 152 [(0, vR (some a0)), (3, vI v3), (4, vI v4), (5, vI v5), (6, vI v6)] [] σ om_rf om_N 0 0 := by
  intro F
  induction F with
  | zero =>
    intro a0 v3 v4 v5 v6 σ ka0 h
    cases h
  | succ F ih =>
    intro a0 v3 v4 v5 v6 σ ka0 h
    unfold f_X9_move_b152 at h
    refine om_iload O 4 dX9_move_152 rfl ?_
    refine om_iload O 3 dX9_move_154 rfl ?_
    refine om_icmp_ge O (tgt := 187) dX9_move_156 (by decide) (fun c1o => ?_) (fun c1o => ?_)
    · replace h := (if_pos c1o).symm.trans h
      refine om_iload O 3 dX9_move_187 rfl ?_
      exact om_iret (st := []) O (om_eI hE h) rfl dX9_move_189
    · replace h := (if_neg c1o).symm.trans h
      refine om_aload_n O 0 dX9_move_159 rfl rfl ?_
      revert h; refine om_refR (fun t1o y1o k1o h => ?_)
      refine gf_X9_50 O ka0 (om_lt ka0 (by decide)) dX9_move_160 ?_
      rw [y1o]
      refine om_bipush O (v := 24) dX9_move_163 (by decide) ?_
      refine om_iload_n O 1 dX9_move_165 rfl rfl ?_
      refine om_imul O dX9_move_166 ?_
      refine om_iload O 2 dX9_move_167 rfl ?_
      refine om_iadd O dX9_move_169 ?_
      refine om_iload O 4 dX9_move_170 rfl ?_
      refine om_iadd O dX9_move_172 ?_
      refine om_aload_n O 0 dX9_move_173 rfl rfl ?_
      revert h; refine om_refR (fun t2o y2o k2o h => ?_)
      refine gf_X9_53 O ka0 (om_lt ka0 (by decide)) dX9_move_174 ?_
      rw [y2o]
      refine om_iload O 4 dX9_move_177 rfl ?_
      revert h; refine om_iteR (fun i1o h => ?_)
      refine om_iald O k2o (om_lt k2o (by decide)) i1o dX9_move_179 ?_
      revert h; refine om_iteR (fun i2o h => ?_)
      revert h; refine om_letR (fun σ1o e1o h => ?_)
      refine om_iast O k1o (om_lt k1o (by decide)) i2o dX9_move_180 e1o ?_
      refine om_iinc O (v1 := (v6 + 1)) (lv' := [(0, vR (some a0)), (3, vI v3), (4, vI v4), (5, vI v5), (6, vI (v6 + 1))]) 4 [1, 2, 3, 4, 0] rfl dX9_move_181 rfl rfl (by decide) rfl ?_
      refine om_goto O (tgt := 152) dX9_move_184 (by decide) ?_
      exact ih _ _ _ _ _ _ ka0 h
def f_X9_move_b115  : Nat → Nat → Int32 → Int32 → Int32 → Int32 → Int32 → Int32 → om_S → Option (Int32 × om_S)
  | 0, _, _, _, _, _, _, _, _ => none
  | F + 1, a0, v1, v2, v3, v4, v5, v6, σ => if v5 ≤ v6 then (f_X9_move_b152 om_F a0 v3 v4 v5 (0 : Int32) σ) else (om_ref (om_rf a0 22) 20 fun (t1o : Nat) => om_ref (om_rf a0 21) 20 fun (t2o : Nat) => if om_in ((((24 : Int32) * v1) + v2) + v6) (om_al t2o) then if om_in v6 (om_al t1o) then om_let (om_w σ t1o v6.toNatClampNeg (σ t2o ((((24 : Int32) * v1) + v2) + v6).toNatClampNeg)) fun (σ1o : om_S) => (f_X9_move_b115 F) a0 v1 v2 v3 v4 v5 (v6 + 1) σ1o else none else none)
set_option maxRecDepth 100000 in
theorem g_X9_move_b115 {x : om_X}   (O : om_Ok x RX9 "move" cX9_move 7 (some FieldType.int) 2 0 0)   {r : Int32} {τ : om_S} (hE : om_End x (some (vI r)) τ om_rf om_N 0 0)   : ∀ (F : Nat) (a0 : Nat) (v1 : Int32) (v2 : Int32) (v3 : Int32) (v4 : Int32) (v5 : Int32) (v6 : Int32) (σ : om_S) (ka0 : om_kc a0 = 9), f_X9_move_b115 F a0 v1 v2 v3 v4 v5 v6 σ = some (r, τ) → om_J x 115 [(0, vR (some a0)), (1, vI v1), (2, vI v2), (3, vI v3), (4, vI v4), (5, vI v5), (6, vI v6)] [] σ om_rf om_N 0 0 := by
  intro F
  induction F with
  | zero =>
    intro a0 v1 v2 v3 v4 v5 v6 σ ka0 h
    cases h
  | succ F ih =>
    intro a0 v1 v2 v3 v4 v5 v6 σ ka0 h
    unfold f_X9_move_b115 at h
    refine om_iload O 6 dX9_move_115 rfl ?_
    refine om_iload O 5 dX9_move_117 rfl ?_
    refine om_icmp_ge O (tgt := 149) dX9_move_119 (by decide) (fun c1o => ?_) (fun c1o => ?_)
    · replace h := (if_pos c1o).symm.trans h
      refine om_iconst O (v := 0) dX9_move_149 (by decide) ?_
      refine om_istore O (lv' := [(0, vR (some a0)), (3, vI v3), (4, vI v4), (5, vI v5), (6, vI (0 : Int32))]) [1, 4, 5, 6, 0] rfl dX9_move_150 (by decide) rfl ?_
      exact g_X9_move_b152 O hE om_F _ _ _ _ _ _ ka0 h
    · replace h := (if_neg c1o).symm.trans h
      refine om_aload_n O 0 dX9_move_122 rfl rfl ?_
      revert h; refine om_refR (fun t1o y1o k1o h => ?_)
      refine gf_X9_53 O ka0 (om_lt ka0 (by decide)) dX9_move_123 ?_
      rw [y1o]
      refine om_iload O 6 dX9_move_126 rfl ?_
      refine om_aload_n O 0 dX9_move_128 rfl rfl ?_
      revert h; refine om_refR (fun t2o y2o k2o h => ?_)
      refine gf_X9_50 O ka0 (om_lt ka0 (by decide)) dX9_move_129 ?_
      rw [y2o]
      refine om_bipush O (v := 24) dX9_move_132 (by decide) ?_
      refine om_iload_n O 1 dX9_move_134 rfl rfl ?_
      refine om_imul O dX9_move_135 ?_
      refine om_iload_n O 2 dX9_move_136 rfl rfl ?_
      refine om_iadd O dX9_move_137 ?_
      refine om_iload O 6 dX9_move_138 rfl ?_
      refine om_iadd O dX9_move_140 ?_
      revert h; refine om_iteR (fun i1o h => ?_)
      refine om_iald O k2o (om_lt k2o (by decide)) i1o dX9_move_141 ?_
      revert h; refine om_iteR (fun i2o h => ?_)
      revert h; refine om_letR (fun σ1o e1o h => ?_)
      refine om_iast O k1o (om_lt k1o (by decide)) i2o dX9_move_142 e1o ?_
      refine om_iinc O (v1 := (v6 + 1)) (lv' := [(0, vR (some a0)), (1, vI v1), (2, vI v2), (3, vI v3), (4, vI v4), (5, vI v5), (6, vI (v6 + 1))]) 6 [1, 2, 3, 4, 5, 6, 0] rfl dX9_move_143 rfl rfl (by decide) rfl ?_
      refine om_goto O (tgt := 115) dX9_move_146 (by decide) ?_
      exact ih _ _ _ _ _ _ _ _ ka0 h
def f_X9_move  (a0 : Nat) (v1 : Int32) (v2 : Int32) (v3 : Int32) (v4 : Int32) (v5 : Int32) (σ : om_S) : Option (Int32 × om_S) := if om_kc a0 = 9 then om_call (f_X9_isSheet v1 σ) fun (r1o : Int32) (σ1o : om_S) => if r1o = 0 then (f_X9_move_b14 a0 σ1o) else (om_call (f_X9_isSheet v3 σ1o) fun (r2o : Int32) (σ2o : om_S) => if r2o = 0 then (f_X9_move_b14 a0 σ2o) else (om_ref (om_rf a0 19) 20 fun (t1o : Nat) => if om_in v1 (om_al t1o) then if (σ2o t1o v1.toNatClampNeg) = 0 then (f_X9_move_b38 a0 σ2o) else (om_ref (om_rf a0 19) 20 fun (t2o : Nat) => if om_in v3 (om_al t2o) then if (σ2o t2o v3.toNatClampNeg) = 0 then (f_X9_move_b38 a0 σ2o) else (om_ref (om_rf a0 19) 20 fun (t3o : Nat) => if om_in v1 (om_al t3o) then om_ref (om_rf a0 19) 20 fun (t4o : Nat) => if om_in v3 (om_al t4o) then if (σ2o t3o v1.toNatClampNeg) = (σ2o t4o v3.toNatClampNeg) then (if v5 < 0 then (f_X9_move_b106 a0 σ2o) else (if v2 < 0 then (f_X9_move_b106 a0 σ2o) else (if v4 < 0 then (f_X9_move_b106 a0 σ2o) else (om_ref (om_rf a0 20) 20 fun (t5o : Nat) => if om_in v1 (om_al t5o) then if ((σ2o t5o v1.toNatClampNeg) - v5) < v2 then (f_X9_move_b106 a0 σ2o) else (om_ref (om_rf a0 20) 20 fun (t6o : Nat) => if om_in v3 (om_al t6o) then if v4 ≤ ((σ2o t6o v3.toNatClampNeg) - v5) then (f_X9_move_b115 om_F a0 v1 v2 v3 v4 v5 (0 : Int32) σ2o) else (f_X9_move_b106 a0 σ2o) else none) else none)))) else (om_call (f_X9_error a0 (5 : Int32) σ2o) fun (r3o : Int32) (σ3o : om_S) => some (r3o, σ3o)) else none else none) else none) else none)) else none
set_option maxRecDepth 100000 in
theorem c_X9_move (l : Launch) (G : om_G) {a0 : Nat} {v1 : Int32} {v2 : Int32} {v3 : Int32} {v4 : Int32} {v5 : Int32} {σ : om_S} {r : Int32} {τ : om_S} (h : f_X9_move a0 v1 v2 v3 v4 v5 σ = some (r, τ)) : om_D l G 2 yX9_move cX9_move 7 (some FieldType.int) 0 0 [vR (some a0), vI v1, vI v2, vI v3, vI v4, vI v5] σ om_rf om_N (some (vI r)) τ om_rf om_N := by
  refine om_Dof (lv := [(0, vR (some a0)), (1, vI v1), (2, vI v2), (3, vI v3), (4, vI v4), (5, vI v5)]) (by decide) rfl_le rfl (fun x O hE => ?_)
  change om_Ok x RX9 "move" cX9_move 7 (some FieldType.int) 2 0 0 at O
  unfold f_X9_move at h
  revert h; refine om_iteR (fun ka0 h => ?_)
  refine om_iload_n O 1 dX9_move_0 rfl rfl ?_
  revert h; refine om_callR (fun r1o σ1o g1o h => ?_)
  refine cl_X9_242 O (st := []) (stk := [vI v1]) (st2 := [vI r1o]) [vI v1] (fun l G => c_X9_isSheet l G g1o) (by decide) rfl rfl rfl_le rfl rfl_le rfl_le dX9_move_1 ?_
  refine om_if_eq O (tgt := 14) dX9_move_4 (by decide) (fun c1o => ?_) (fun c1o => ?_)
  · replace h := (if_pos c1o).symm.trans h
    refine om_drop (lv' := [(0, vR (some a0))]) [0] rfl ?_
    exact g_X9_move_b14 O hE ka0 h
  · replace h := (if_neg c1o).symm.trans h
    refine om_iload_n O 3 dX9_move_7 rfl rfl ?_
    revert h; refine om_callR (fun r2o σ2o g2o h => ?_)
    refine cl_X9_242 O (st := []) (stk := [vI v3]) (st2 := [vI r2o]) [vI v3] (fun l G => c_X9_isSheet l G g2o) (by decide) rfl rfl rfl_le rfl rfl_le rfl_le dX9_move_8 ?_
    refine om_if_ne O (tgt := 20) dX9_move_11 (by decide) (fun c2o => ?_) (fun c2o => ?_)
    · replace h := (if_pos c2o).symm.trans h
      refine om_drop (lv' := [(0, vR (some a0))]) [0] rfl ?_
      exact g_X9_move_b14 O hE ka0 h
    · replace h := (if_neg c2o).symm.trans h
      refine om_aload_n O 0 dX9_move_20 rfl rfl ?_
      revert h; refine om_refR (fun t1o y1o k1o h => ?_)
      refine gf_X9_44 O ka0 (om_lt ka0 (by decide)) dX9_move_21 ?_
      rw [y1o]
      refine om_iload_n O 1 dX9_move_24 rfl rfl ?_
      revert h; refine om_iteR (fun i1o h => ?_)
      refine om_iald O k1o (om_lt k1o (by decide)) i1o dX9_move_25 ?_
      refine om_if_eq O (tgt := 38) dX9_move_26 (by decide) (fun c3o => ?_) (fun c3o => ?_)
      · replace h := (if_pos c3o).symm.trans h
        refine om_drop (lv' := [(0, vR (some a0))]) [0] rfl ?_
        exact g_X9_move_b38 O hE ka0 h
      · replace h := (if_neg c3o).symm.trans h
        refine om_aload_n O 0 dX9_move_29 rfl rfl ?_
        revert h; refine om_refR (fun t2o y2o k2o h => ?_)
        refine gf_X9_44 O ka0 (om_lt ka0 (by decide)) dX9_move_30 ?_
        rw [y2o]
        refine om_iload_n O 3 dX9_move_33 rfl rfl ?_
        revert h; refine om_iteR (fun i2o h => ?_)
        refine om_iald O k2o (om_lt k2o (by decide)) i2o dX9_move_34 ?_
        refine om_if_ne O (tgt := 44) dX9_move_35 (by decide) (fun c4o => ?_) (fun c4o => ?_)
        · replace h := (if_pos c4o).symm.trans h
          refine om_drop (lv' := [(0, vR (some a0))]) [0] rfl ?_
          exact g_X9_move_b38 O hE ka0 h
        · replace h := (if_neg c4o).symm.trans h
          refine om_aload_n O 0 dX9_move_44 rfl rfl ?_
          revert h; refine om_refR (fun t3o y3o k3o h => ?_)
          refine gf_X9_44 O ka0 (om_lt ka0 (by decide)) dX9_move_45 ?_
          rw [y3o]
          refine om_iload_n O 1 dX9_move_48 rfl rfl ?_
          revert h; refine om_iteR (fun i3o h => ?_)
          refine om_iald O k3o (om_lt k3o (by decide)) i3o dX9_move_49 ?_
          refine om_aload_n O 0 dX9_move_50 rfl rfl ?_
          revert h; refine om_refR (fun t4o y4o k4o h => ?_)
          refine gf_X9_44 O ka0 (om_lt ka0 (by decide)) dX9_move_51 ?_
          rw [y4o]
          refine om_iload_n O 3 dX9_move_54 rfl rfl ?_
          revert h; refine om_iteR (fun i4o h => ?_)
          refine om_iald O k4o (om_lt k4o (by decide)) i4o dX9_move_55 ?_
          refine om_icmp_eq O (tgt := 65) dX9_move_56 (by decide) (fun c5o => ?_) (fun c5o => ?_)
          · replace h := (if_pos c5o).symm.trans h
            refine om_iload O 5 dX9_move_65 rfl ?_
            refine om_if_lt O (tgt := 106) dX9_move_67 (by decide) (fun c6o => ?_) (fun c6o => ?_)
            · replace h := (if_pos c6o).symm.trans h
              refine om_drop (lv' := [(0, vR (some a0))]) [0] rfl ?_
              exact g_X9_move_b106 O hE ka0 h
            · replace h := (if_neg c6o).symm.trans h
              refine om_iload_n O 2 dX9_move_70 rfl rfl ?_
              refine om_if_lt O (tgt := 106) dX9_move_71 (by decide) (fun c7o => ?_) (fun c7o => ?_)
              · replace h := (if_pos c7o).symm.trans h
                refine om_drop (lv' := [(0, vR (some a0))]) [0] rfl ?_
                exact g_X9_move_b106 O hE ka0 h
              · replace h := (if_neg c7o).symm.trans h
                refine om_iload O 4 dX9_move_74 rfl ?_
                refine om_if_lt O (tgt := 106) dX9_move_76 (by decide) (fun c8o => ?_) (fun c8o => ?_)
                · replace h := (if_pos c8o).symm.trans h
                  refine om_drop (lv' := [(0, vR (some a0))]) [0] rfl ?_
                  exact g_X9_move_b106 O hE ka0 h
                · replace h := (if_neg c8o).symm.trans h
                  refine om_iload_n O 2 dX9_move_79 rfl rfl ?_
                  refine om_aload_n O 0 dX9_move_80 rfl rfl ?_
                  revert h; refine om_refR (fun t5o y5o k5o h => ?_)
                  refine gf_X9_47 O ka0 (om_lt ka0 (by decide)) dX9_move_81 ?_
                  rw [y5o]
                  refine om_iload_n O 1 dX9_move_84 rfl rfl ?_
                  revert h; refine om_iteR (fun i5o h => ?_)
                  refine om_iald O k5o (om_lt k5o (by decide)) i5o dX9_move_85 ?_
                  refine om_iload O 5 dX9_move_86 rfl ?_
                  refine om_isub O dX9_move_88 ?_
                  refine om_icmp_gt O (tgt := 106) dX9_move_89 (by decide) (fun c9o => ?_) (fun c9o => ?_)
                  · replace h := (if_pos c9o).symm.trans h
                    refine om_drop (lv' := [(0, vR (some a0))]) [0] rfl ?_
                    exact g_X9_move_b106 O hE ka0 h
                  · replace h := (if_neg c9o).symm.trans h
                    refine om_iload O 4 dX9_move_92 rfl ?_
                    refine om_aload_n O 0 dX9_move_94 rfl rfl ?_
                    revert h; refine om_refR (fun t6o y6o k6o h => ?_)
                    refine gf_X9_47 O ka0 (om_lt ka0 (by decide)) dX9_move_95 ?_
                    rw [y6o]
                    refine om_iload_n O 3 dX9_move_98 rfl rfl ?_
                    revert h; refine om_iteR (fun i6o h => ?_)
                    refine om_iald O k6o (om_lt k6o (by decide)) i6o dX9_move_99 ?_
                    refine om_iload O 5 dX9_move_100 rfl ?_
                    refine om_isub O dX9_move_102 ?_
                    refine om_icmp_le O (tgt := 112) dX9_move_103 (by decide) (fun c10o => ?_) (fun c10o => ?_)
                    · replace h := (if_pos c10o).symm.trans h
                      refine om_iconst O (v := 0) dX9_move_112 (by decide) ?_
                      refine om_istore O (lv' := [(0, vR (some a0)), (1, vI v1), (2, vI v2), (3, vI v3), (4, vI v4), (5, vI v5), (6, vI (0 : Int32))]) [1, 2, 3, 4, 5, 6, 0] rfl dX9_move_113 (by decide) rfl ?_
                      exact g_X9_move_b115 O hE om_F _ _ _ _ _ _ _ _ ka0 h
                    · replace h := (if_neg c10o).symm.trans h
                      refine om_drop (lv' := [(0, vR (some a0))]) [0] rfl ?_
                      exact g_X9_move_b106 O hE ka0 h
          · replace h := (if_neg c5o).symm.trans h
            refine om_aload_n O 0 dX9_move_59 rfl rfl ?_
            refine om_iconst O (v := 5) dX9_move_60 (by decide) ?_
            revert h; refine om_callR (fun r3o σ3o g3o h => ?_)
            refine cl_X9_61 O (st := []) (stk := [vI (5 : Int32), vR (some a0)]) (st2 := [vI r3o]) [vI (5 : Int32)] (fun l G => c_X9_error l G g3o) ka0 (om_lt ka0 (by decide)) (by decide) rfl rfl rfl_le rfl rfl_le rfl_le dX9_move_61 ?_
            exact om_iret (st := []) O (om_eI hE h) rfl dX9_move_64
def f_X9_dears_b18  : Nat → Nat → Int32 → Int32 → om_S → Option (Int32 × om_S)
  | 0, _, _, _, _ => none
  | F + 1, a0, v1, v3, σ => om_ref (om_rf a0 20) 20 fun (t1o : Nat) => if om_in v1 (om_al t1o) then if (σ t1o v1.toNatClampNeg) ≤ v3 then (some (v3, σ)) else (om_call (f_X9_isMemory a0 v3 σ) fun (r1o : Int32) (σ1o : om_S) => if r1o = 0 then (some (v3, σ1o)) else (om_ref (om_rf a0 21) 20 fun (t2o : Nat) => if om_in (((24 : Int32) * v1) + v3) (om_al t2o) then om_call (f_X9_in (σ1o t2o (((24 : Int32) * v1) + v3).toNatClampNeg) (0 : Int32) (99 : Int32) σ1o) fun (r2o : Int32) (σ2o : om_S) => if r2o = 0 then (some (v3, σ2o)) else (om_ref (om_rf a0 21) 20 fun (t3o : Nat) => if om_in (((24 : Int32) * v1) + v3) (om_al t3o) then om_do (f_X9_lays1 a0 v3 (4 : Int32) (σ2o t3o (((24 : Int32) * v1) + v3).toNatClampNeg) σ2o) fun (σ3o : om_S) => (f_X9_dears_b18 F) a0 v1 (v3 + 1) σ3o else none) else none)) else none
set_option maxRecDepth 100000 in
theorem g_X9_dears_b18 {x : om_X}   (O : om_Ok x RX9 "dears" cX9_dears 4 (some FieldType.int) 3 0 0)   {r : Int32} {τ : om_S} (hE : om_End x (some (vI r)) τ om_rf om_N 0 0)   : ∀ (F : Nat) (a0 : Nat) (v1 : Int32) (v3 : Int32) (σ : om_S) (ka0 : om_kc a0 = 9), f_X9_dears_b18 F a0 v1 v3 σ = some (r, τ) → om_J x 18 [(0, vR (some a0)), (1, vI v1), (3, vI v3)] [] σ om_rf om_N 0 0 := by
  intro F
  induction F with
  | zero =>
    intro a0 v1 v3 σ ka0 h
    cases h
  | succ F ih =>
    intro a0 v1 v3 σ ka0 h
    unfold f_X9_dears_b18 at h
    refine om_iload_n O 2 dX9_dears_18 rfl rfl ?_
    refine om_aload_n O 0 dX9_dears_19 rfl rfl ?_
    revert h; refine om_refR (fun t1o y1o k1o h => ?_)
    refine gf_X9_47 O ka0 (om_lt ka0 (by decide)) dX9_dears_20 ?_
    rw [y1o]
    refine om_iload_n O 1 dX9_dears_23 rfl rfl ?_
    revert h; refine om_iteR (fun i1o h => ?_)
    refine om_iald O k1o (om_lt k1o (by decide)) i1o dX9_dears_24 ?_
    refine om_icmp_ge O (tgt := 79) dX9_dears_25 (by decide) (fun c1o => ?_) (fun c1o => ?_)
    · replace h := (if_pos c1o).symm.trans h
      refine om_iload_n O 2 dX9_dears_79 rfl rfl ?_
      exact om_iret (st := []) O (om_eI hE h) rfl dX9_dears_80
    · replace h := (if_neg c1o).symm.trans h
      refine om_aload_n O 0 dX9_dears_28 rfl rfl ?_
      refine om_iload_n O 2 dX9_dears_29 rfl rfl ?_
      revert h; refine om_callR (fun r1o σ1o g1o h => ?_)
      refine cl_X9_168 O (st := []) (stk := [vI v3, vR (some a0)]) (st2 := [vI r1o]) [vI v3] (fun l G => c_X9_isMemory l G g1o) ka0 (om_lt ka0 (by decide)) (by decide) rfl rfl rfl_le rfl rfl_le rfl_le dX9_dears_30 ?_
      refine om_if_eq O (tgt := 79) dX9_dears_33 (by decide) (fun c2o => ?_) (fun c2o => ?_)
      · replace h := (if_pos c2o).symm.trans h
        refine om_iload_n O 2 dX9_dears_79 rfl rfl ?_
        exact om_iret (st := []) O (om_eI hE h) rfl dX9_dears_80
      · replace h := (if_neg c2o).symm.trans h
        refine om_aload_n O 0 dX9_dears_36 rfl rfl ?_
        revert h; refine om_refR (fun t2o y2o k2o h => ?_)
        refine gf_X9_50 O ka0 (om_lt ka0 (by decide)) dX9_dears_37 ?_
        rw [y2o]
        refine om_bipush O (v := 24) dX9_dears_40 (by decide) ?_
        refine om_iload_n O 1 dX9_dears_42 rfl rfl ?_
        refine om_imul O dX9_dears_43 ?_
        refine om_iload_n O 2 dX9_dears_44 rfl rfl ?_
        refine om_iadd O dX9_dears_45 ?_
        revert h; refine om_iteR (fun i2o h => ?_)
        refine om_iald O k2o (om_lt k2o (by decide)) i2o dX9_dears_46 ?_
        refine om_iconst O (v := 0) dX9_dears_47 (by decide) ?_
        refine om_bipush O (v := 99) dX9_dears_48 (by decide) ?_
        revert h; refine om_callR (fun r2o σ2o g2o h => ?_)
        refine cl_X9_57 O (st := []) (stk := [vI (99 : Int32), vI (0 : Int32), vI (σ1o t2o (((24 : Int32) * v1) + v3).toNatClampNeg)]) (st2 := [vI r2o]) [vI (σ1o t2o (((24 : Int32) * v1) + v3).toNatClampNeg), vI (0 : Int32), vI (99 : Int32)] (fun l G => c_X9_in l G g2o) (by decide) rfl rfl rfl_le rfl rfl_le rfl_le dX9_dears_50 ?_
        refine om_if_eq O (tgt := 79) dX9_dears_53 (by decide) (fun c3o => ?_) (fun c3o => ?_)
        · replace h := (if_pos c3o).symm.trans h
          refine om_iload_n O 2 dX9_dears_79 rfl rfl ?_
          exact om_iret (st := []) O (om_eI hE h) rfl dX9_dears_80
        · replace h := (if_neg c3o).symm.trans h
          refine om_aload_n O 0 dX9_dears_56 rfl rfl ?_
          refine om_iload_n O 2 dX9_dears_57 rfl rfl ?_
          refine om_iconst O (v := 4) dX9_dears_58 (by decide) ?_
          refine om_aload_n O 0 dX9_dears_59 rfl rfl ?_
          revert h; refine om_refR (fun t3o y3o k3o h => ?_)
          refine gf_X9_50 O ka0 (om_lt ka0 (by decide)) dX9_dears_60 ?_
          rw [y3o]
          refine om_bipush O (v := 24) dX9_dears_63 (by decide) ?_
          refine om_iload_n O 1 dX9_dears_65 rfl rfl ?_
          refine om_imul O dX9_dears_66 ?_
          refine om_iload_n O 2 dX9_dears_67 rfl rfl ?_
          refine om_iadd O dX9_dears_68 ?_
          revert h; refine om_iteR (fun i3o h => ?_)
          refine om_iald O k3o (om_lt k3o (by decide)) i3o dX9_dears_69 ?_
          revert h; refine om_doR (fun σ3o g3o h => ?_)
          refine cl_X9_157 O (st := []) (stk := [vI (σ2o t3o (((24 : Int32) * v1) + v3).toNatClampNeg), vI (4 : Int32), vI v3, vR (some a0)]) (st2 := []) [vI v3, vI (4 : Int32), vI (σ2o t3o (((24 : Int32) * v1) + v3).toNatClampNeg)] (fun l G => c_X9_lays1 l G g3o) ka0 (om_lt ka0 (by decide)) (by decide) rfl rfl rfl_le rfl rfl_le rfl_le dX9_dears_70 ?_
          refine om_iinc O (v1 := (v3 + 1)) (lv' := [(0, vR (some a0)), (1, vI v1), (3, vI (v3 + 1))]) 2 [1, 2, 0] rfl dX9_dears_73 rfl rfl (by decide) rfl ?_
          refine om_goto O (tgt := 18) dX9_dears_76 (by decide) ?_
          exact ih _ _ _ _ ka0 h
def f_X9_dears  (a0 : Nat) (v1 : Int32) (σ : om_S) : Option (Int32 × om_S) := if om_kc a0 = 9 then om_call (f_X9_lacks a0 v1 σ) fun (r1o : Int32) (σ1o : om_S) => if r1o = 0 then (f_X9_dears_b18 om_F a0 v1 (0 : Int32) σ1o) else (om_call (f_X9_error a0 r1o σ1o) fun (r2o : Int32) (σ2o : om_S) => some (r2o, σ2o)) else none
set_option maxRecDepth 100000 in
theorem c_X9_dears (l : Launch) (G : om_G) {a0 : Nat} {v1 : Int32} {σ : om_S} {r : Int32} {τ : om_S} (h : f_X9_dears a0 v1 σ = some (r, τ)) : om_D l G 3 yX9_dears cX9_dears 4 (some FieldType.int) 0 0 [vR (some a0), vI v1] σ om_rf om_N (some (vI r)) τ om_rf om_N := by
  refine om_Dof (lv := [(0, vR (some a0)), (1, vI v1)]) (by decide) rfl_le rfl (fun x O hE => ?_)
  change om_Ok x RX9 "dears" cX9_dears 4 (some FieldType.int) 3 0 0 at O
  unfold f_X9_dears at h
  revert h; refine om_iteR (fun ka0 h => ?_)
  refine om_aload_n O 0 dX9_dears_0 rfl rfl ?_
  refine om_iload_n O 1 dX9_dears_1 rfl rfl ?_
  revert h; refine om_callR (fun r1o σ1o g1o h => ?_)
  refine cl_X9_204 O (st := []) (stk := [vI v1, vR (some a0)]) (st2 := [vI r1o]) [vI v1] (fun l G => c_X9_lacks l G g1o) ka0 (om_lt ka0 (by decide)) (by decide) rfl rfl rfl_le rfl rfl_le rfl_le dX9_dears_2 ?_
  refine om_istore_n O (lv' := [(0, vR (some a0)), (1, vI v1), (2, vI r1o)]) [1, 2, 0] rfl dX9_dears_5 rfl (by decide) rfl ?_
  refine om_iload_n O 2 dX9_dears_6 rfl rfl ?_
  refine om_if_eq O (tgt := 16) dX9_dears_7 (by decide) (fun c1o => ?_) (fun c1o => ?_)
  · replace h := (if_pos c1o).symm.trans h
    refine om_iconst O (v := 0) dX9_dears_16 (by decide) ?_
    refine om_istore_n O (lv' := [(0, vR (some a0)), (1, vI v1), (3, vI (0 : Int32))]) [1, 2, 0] rfl dX9_dears_17 rfl (by decide) rfl ?_
    exact g_X9_dears_b18 O hE om_F _ _ _ _ ka0 h
  · replace h := (if_neg c1o).symm.trans h
    refine om_aload_n O 0 dX9_dears_10 rfl rfl ?_
    refine om_iload_n O 2 dX9_dears_11 rfl rfl ?_
    revert h; refine om_callR (fun r2o σ2o g2o h => ?_)
    refine cl_X9_61 O (st := []) (stk := [vI r1o, vR (some a0)]) (st2 := [vI r2o]) [vI r1o] (fun l G => c_X9_error l G g2o) ka0 (om_lt ka0 (by decide)) (by decide) rfl rfl rfl_le rfl rfl_le rfl_le dX9_dears_12 ?_
    exact om_iret (st := []) O (om_eI hE h) rfl dX9_dears_15
def f_X9_judge_b18  : Nat → Nat → Int32 → Int32 → om_S → Option (Int32 × om_S)
  | 0, _, _, _, _ => none
  | F + 1, a0, v1, v3, σ => om_ref (om_rf a0 20) 20 fun (t1o : Nat) => if om_in v1 (om_al t1o) then if (σ t1o v1.toNatClampNeg) ≤ v3 then (some (v3, σ)) else (om_call (f_X9_isMemory a0 v3 σ) fun (r1o : Int32) (σ1o : om_S) => if r1o = 0 then (some (v3, σ1o)) else (om_call (f_X9_its a0 v3 (2 : Int32) σ1o) fun (r2o : Int32) (σ2o : om_S) => om_call (f_X9_lightBy a0 v3 r2o σ2o) fun (r3o : Int32) (σ3o : om_S) => om_ref (om_rf a0 21) 20 fun (t2o : Nat) => if om_in (((24 : Int32) * v1) + v3) (om_al t2o) then if r3o = (σ3o t2o (((24 : Int32) * v1) + v3).toNatClampNeg) then ((f_X9_judge_b18 F) a0 v1 (v3 + 1) σ3o) else (some (v3, σ3o)) else none)) else none
set_option maxRecDepth 100000 in
theorem g_X9_judge_b18 {x : om_X}   (O : om_Ok x RX9 "judge" cX9_judge 4 (some FieldType.int) 4 0 0)   {r : Int32} {τ : om_S} (hE : om_End x (some (vI r)) τ om_rf om_N 0 0)   : ∀ (F : Nat) (a0 : Nat) (v1 : Int32) (v3 : Int32) (σ : om_S) (ka0 : om_kc a0 = 9), f_X9_judge_b18 F a0 v1 v3 σ = some (r, τ) → om_J x 18 [(0, vR (some a0)), (1, vI v1), (3, vI v3)] [] σ om_rf om_N 0 0 := by
  intro F
  induction F with
  | zero =>
    intro a0 v1 v3 σ ka0 h
    cases h
  | succ F ih =>
    intro a0 v1 v3 σ ka0 h
    unfold f_X9_judge_b18 at h
    refine om_iload_n O 2 dX9_judge_18 rfl rfl ?_
    refine om_aload_n O 0 dX9_judge_19 rfl rfl ?_
    revert h; refine om_refR (fun t1o y1o k1o h => ?_)
    refine gf_X9_47 O ka0 (om_lt ka0 (by decide)) dX9_judge_20 ?_
    rw [y1o]
    refine om_iload_n O 1 dX9_judge_23 rfl rfl ?_
    revert h; refine om_iteR (fun i1o h => ?_)
    refine om_iald O k1o (om_lt k1o (by decide)) i1o dX9_judge_24 ?_
    refine om_icmp_ge O (tgt := 67) dX9_judge_25 (by decide) (fun c1o => ?_) (fun c1o => ?_)
    · replace h := (if_pos c1o).symm.trans h
      refine om_iload_n O 2 dX9_judge_67 rfl rfl ?_
      exact om_iret (st := []) O (om_eI hE h) rfl dX9_judge_68
    · replace h := (if_neg c1o).symm.trans h
      refine om_aload_n O 0 dX9_judge_28 rfl rfl ?_
      refine om_iload_n O 2 dX9_judge_29 rfl rfl ?_
      revert h; refine om_callR (fun r1o σ1o g1o h => ?_)
      refine cl_X9_168 O (st := []) (stk := [vI v3, vR (some a0)]) (st2 := [vI r1o]) [vI v3] (fun l G => c_X9_isMemory l G g1o) ka0 (om_lt ka0 (by decide)) (by decide) rfl rfl rfl_le rfl rfl_le rfl_le dX9_judge_30 ?_
      refine om_if_eq O (tgt := 67) dX9_judge_33 (by decide) (fun c2o => ?_) (fun c2o => ?_)
      · replace h := (if_pos c2o).symm.trans h
        refine om_iload_n O 2 dX9_judge_67 rfl rfl ?_
        exact om_iret (st := []) O (om_eI hE h) rfl dX9_judge_68
      · replace h := (if_neg c2o).symm.trans h
        refine om_aload_n O 0 dX9_judge_36 rfl rfl ?_
        refine om_iload_n O 2 dX9_judge_37 rfl rfl ?_
        refine om_aload_n O 0 dX9_judge_38 rfl rfl ?_
        refine om_iload_n O 2 dX9_judge_39 rfl rfl ?_
        refine om_iconst O (v := 2) dX9_judge_40 (by decide) ?_
        revert h; refine om_callR (fun r2o σ2o g2o h => ?_)
        refine cl_X9_120 O (st := [vI v3, vR (some a0)]) (stk := [vI (2 : Int32), vI v3, vR (some a0), vI v3, vR (some a0)]) (st2 := [vI r2o, vI v3, vR (some a0)]) [vI v3, vI (2 : Int32)] (fun l G => c_X9_its l G g2o) ka0 (om_lt ka0 (by decide)) (by decide) rfl rfl rfl_le rfl rfl_le rfl_le dX9_judge_41 ?_
        revert h; refine om_callR (fun r3o σ3o g3o h => ?_)
        refine cl_X9_139 O (st := []) (stk := [vI r2o, vI v3, vR (some a0)]) (st2 := [vI r3o]) [vI v3, vI r2o] (fun l G => c_X9_lightBy l G g3o) ka0 (om_lt ka0 (by decide)) (by decide) rfl rfl rfl_le rfl rfl_le rfl_le dX9_judge_44 ?_
        refine om_aload_n O 0 dX9_judge_47 rfl rfl ?_
        revert h; refine om_refR (fun t2o y2o k2o h => ?_)
        refine gf_X9_50 O ka0 (om_lt ka0 (by decide)) dX9_judge_48 ?_
        rw [y2o]
        refine om_bipush O (v := 24) dX9_judge_51 (by decide) ?_
        refine om_iload_n O 1 dX9_judge_53 rfl rfl ?_
        refine om_imul O dX9_judge_54 ?_
        refine om_iload_n O 2 dX9_judge_55 rfl rfl ?_
        refine om_iadd O dX9_judge_56 ?_
        revert h; refine om_iteR (fun i2o h => ?_)
        refine om_iald O k2o (om_lt k2o (by decide)) i2o dX9_judge_57 ?_
        refine om_icmp_ne O (tgt := 67) dX9_judge_58 (by decide) (fun c3o => ?_) (fun c3o => ?_)
        · replace h := (if_pos c3o).symm.trans h
          refine om_iinc O (v1 := (v3 + 1)) (lv' := [(0, vR (some a0)), (1, vI v1), (3, vI (v3 + 1))]) 2 [1, 2, 0] rfl dX9_judge_61 rfl rfl (by decide) rfl ?_
          refine om_goto O (tgt := 18) dX9_judge_64 (by decide) ?_
          exact ih _ _ _ _ ka0 h
        · replace h := (if_neg c3o).symm.trans h
          refine om_iload_n O 2 dX9_judge_67 rfl rfl ?_
          exact om_iret (st := []) O (om_eI hE h) rfl dX9_judge_68
def f_X9_judge  (a0 : Nat) (v1 : Int32) (σ : om_S) : Option (Int32 × om_S) := if om_kc a0 = 9 then om_call (f_X9_lacks a0 v1 σ) fun (r1o : Int32) (σ1o : om_S) => if r1o = 0 then (f_X9_judge_b18 om_F a0 v1 (0 : Int32) σ1o) else (om_call (f_X9_error a0 r1o σ1o) fun (r2o : Int32) (σ2o : om_S) => some (r2o, σ2o)) else none
set_option maxRecDepth 100000 in
theorem c_X9_judge (l : Launch) (G : om_G) {a0 : Nat} {v1 : Int32} {σ : om_S} {r : Int32} {τ : om_S} (h : f_X9_judge a0 v1 σ = some (r, τ)) : om_D l G 4 yX9_judge cX9_judge 4 (some FieldType.int) 0 0 [vR (some a0), vI v1] σ om_rf om_N (some (vI r)) τ om_rf om_N := by
  refine om_Dof (lv := [(0, vR (some a0)), (1, vI v1)]) (by decide) rfl_le rfl (fun x O hE => ?_)
  change om_Ok x RX9 "judge" cX9_judge 4 (some FieldType.int) 4 0 0 at O
  unfold f_X9_judge at h
  revert h; refine om_iteR (fun ka0 h => ?_)
  refine om_aload_n O 0 dX9_judge_0 rfl rfl ?_
  refine om_iload_n O 1 dX9_judge_1 rfl rfl ?_
  revert h; refine om_callR (fun r1o σ1o g1o h => ?_)
  refine cl_X9_204 O (st := []) (stk := [vI v1, vR (some a0)]) (st2 := [vI r1o]) [vI v1] (fun l G => c_X9_lacks l G g1o) ka0 (om_lt ka0 (by decide)) (by decide) rfl rfl rfl_le rfl rfl_le rfl_le dX9_judge_2 ?_
  refine om_istore_n O (lv' := [(0, vR (some a0)), (1, vI v1), (2, vI r1o)]) [1, 2, 0] rfl dX9_judge_5 rfl (by decide) rfl ?_
  refine om_iload_n O 2 dX9_judge_6 rfl rfl ?_
  refine om_if_eq O (tgt := 16) dX9_judge_7 (by decide) (fun c1o => ?_) (fun c1o => ?_)
  · replace h := (if_pos c1o).symm.trans h
    refine om_iconst O (v := 0) dX9_judge_16 (by decide) ?_
    refine om_istore_n O (lv' := [(0, vR (some a0)), (1, vI v1), (3, vI (0 : Int32))]) [1, 2, 0] rfl dX9_judge_17 rfl (by decide) rfl ?_
    exact g_X9_judge_b18 O hE om_F _ _ _ _ ka0 h
  · replace h := (if_neg c1o).symm.trans h
    refine om_aload_n O 0 dX9_judge_10 rfl rfl ?_
    refine om_iload_n O 2 dX9_judge_11 rfl rfl ?_
    revert h; refine om_callR (fun r2o σ2o g2o h => ?_)
    refine cl_X9_61 O (st := []) (stk := [vI r1o, vR (some a0)]) (st2 := [vI r2o]) [vI r1o] (fun l G => c_X9_error l G g2o) ka0 (om_lt ka0 (by decide)) (by decide) rfl rfl rfl_le rfl rfl_le rfl_le dX9_judge_12 ?_
    exact om_iret (st := []) O (om_eI hE h) rfl dX9_judge_15
def f_X9_image  (a0 : Nat) (σ : om_S) : Option (Int32 × om_S) := if om_kc a0 = 9 then om_ref (om_rf a0 0) 20 fun (t1o : Nat) => om_ref (om_rf a0 1) 20 fun (t2o : Nat) => om_do (f_X9_copyAll t1o t2o σ) fun (σ1o : om_S) => om_let (om_w σ1o a0 3 ((σ1o a0 3) + (1 : Int32))) fun (σ2o : om_S) => some ((σ2o a0 3), σ2o) else none
set_option maxRecDepth 100000 in
theorem c_X9_image (l : Launch) (G : om_G) {a0 : Nat} {σ : om_S} {r : Int32} {τ : om_S} (h : f_X9_image a0 σ = some (r, τ)) : om_D l G 1 yX9_image cX9_image 1 (some FieldType.int) 0 0 [vR (some a0)] σ om_rf om_N (some (vI r)) τ om_rf om_N := by
  refine om_Dof (lv := [(0, vR (some a0))]) (by decide) rfl_le rfl (fun x O hE => ?_)
  change om_Ok x RX9 "image" cX9_image 1 (some FieldType.int) 1 0 0 at O
  unfold f_X9_image at h
  revert h; refine om_iteR (fun ka0 h => ?_)
  refine om_aload_n O 0 dX9_image_0 rfl rfl ?_
  revert h; refine om_refR (fun t1o y1o k1o h => ?_)
  refine gf_X9_7 O ka0 (om_lt ka0 (by decide)) dX9_image_1 ?_
  rw [y1o]
  refine om_aload_n O 0 dX9_image_4 rfl rfl ?_
  revert h; refine om_refR (fun t2o y2o k2o h => ?_)
  refine gf_X9_13 O ka0 (om_lt ka0 (by decide)) dX9_image_5 ?_
  rw [y2o]
  revert h; refine om_doR (fun σ1o g1o h => ?_)
  refine cl_X9_245 O (st := []) (stk := [vR (some t2o), vR (some t1o)]) (st2 := []) [vR (some t1o), vR (some t2o)] (fun l G => c_X9_copyAll l G g1o) (by decide) rfl rfl rfl_le rfl rfl_le rfl_le dX9_image_8 ?_
  refine om_aload_n O 0 dX9_image_11 rfl rfl ?_
  refine om_dup O rfl dX9_image_12 ?_
  refine gf_X9_249 O ka0 (om_lt ka0 (by decide)) dX9_image_13 ?_
  refine om_iconst O (v := 1) dX9_image_16 (by decide) ?_
  refine om_iadd O dX9_image_17 ?_
  revert h; refine om_letR (fun σ2o e1o h => ?_)
  refine pf_X9_249 O (Or.inl rfl) ka0 (om_lt ka0 (by decide)) dX9_image_18 e1o ?_
  refine om_aload_n O 0 dX9_image_21 rfl rfl ?_
  refine gf_X9_249 O ka0 (om_lt ka0 (by decide)) dX9_image_22 ?_
  exact om_iret (st := []) O (om_eI hE h) rfl dX9_image_25
def f_X9_restore  (a0 : Nat) (σ : om_S) : Option (Int32 × om_S) := if om_kc a0 = 9 then if (σ a0 3) = 0 then (om_call (f_X9_error a0 (2 : Int32) σ) fun (r1o : Int32) (σ1o : om_S) => some (r1o, σ1o)) else (om_ref (om_rf a0 1) 20 fun (t1o : Nat) => om_ref (om_rf a0 0) 20 fun (t2o : Nat) => om_do (f_X9_copyAll t1o t2o σ) fun (σ2o : om_S) => om_ref (om_rf a0 0) 20 fun (t3o : Nat) => if om_in (1 : Int32) (om_al t3o) then some ((σ2o t3o (1 : Int32).toNatClampNeg), σ2o) else none) else none
set_option maxRecDepth 100000 in
theorem c_X9_restore (l : Launch) (G : om_G) {a0 : Nat} {σ : om_S} {r : Int32} {τ : om_S} (h : f_X9_restore a0 σ = some (r, τ)) : om_D l G 1 yX9_restore cX9_restore 1 (some FieldType.int) 0 0 [vR (some a0)] σ om_rf om_N (some (vI r)) τ om_rf om_N := by
  refine om_Dof (lv := [(0, vR (some a0))]) (by decide) rfl_le rfl (fun x O hE => ?_)
  change om_Ok x RX9 "restore" cX9_restore 1 (some FieldType.int) 1 0 0 at O
  unfold f_X9_restore at h
  revert h; refine om_iteR (fun ka0 h => ?_)
  refine om_aload_n O 0 dX9_restore_0 rfl rfl ?_
  refine gf_X9_249 O ka0 (om_lt ka0 (by decide)) dX9_restore_1 ?_
  refine om_if_ne O (tgt := 13) dX9_restore_4 (by decide) (fun c1o => ?_) (fun c1o => ?_)
  · replace h := (if_pos c1o).symm.trans h
    refine om_aload_n O 0 dX9_restore_7 rfl rfl ?_
    refine om_iconst O (v := 2) dX9_restore_8 (by decide) ?_
    revert h; refine om_callR (fun r1o σ1o g1o h => ?_)
    refine cl_X9_61 O (st := []) (stk := [vI (2 : Int32), vR (some a0)]) (st2 := [vI r1o]) [vI (2 : Int32)] (fun l G => c_X9_error l G g1o) ka0 (om_lt ka0 (by decide)) (by decide) rfl rfl rfl_le rfl rfl_le rfl_le dX9_restore_9 ?_
    exact om_iret (st := []) O (om_eI hE h) rfl dX9_restore_12
  · replace h := (if_neg c1o).symm.trans h
    refine om_aload_n O 0 dX9_restore_13 rfl rfl ?_
    revert h; refine om_refR (fun t1o y1o k1o h => ?_)
    refine gf_X9_13 O ka0 (om_lt ka0 (by decide)) dX9_restore_14 ?_
    rw [y1o]
    refine om_aload_n O 0 dX9_restore_17 rfl rfl ?_
    revert h; refine om_refR (fun t2o y2o k2o h => ?_)
    refine gf_X9_7 O ka0 (om_lt ka0 (by decide)) dX9_restore_18 ?_
    rw [y2o]
    revert h; refine om_doR (fun σ2o g2o h => ?_)
    refine cl_X9_245 O (st := []) (stk := [vR (some t2o), vR (some t1o)]) (st2 := []) [vR (some t1o), vR (some t2o)] (fun l G => c_X9_copyAll l G g2o) (by decide) rfl rfl rfl_le rfl rfl_le rfl_le dX9_restore_21 ?_
    refine om_aload_n O 0 dX9_restore_24 rfl rfl ?_
    revert h; refine om_refR (fun t3o y3o k3o h => ?_)
    refine gf_X9_7 O ka0 (om_lt ka0 (by decide)) dX9_restore_25 ?_
    rw [y3o]
    refine om_iconst O (v := 1) dX9_restore_28 (by decide) ?_
    revert h; refine om_iteR (fun i1o h => ?_)
    refine om_iald O k3o (om_lt k3o (by decide)) i1o dX9_restore_29 ?_
    exact om_iret (st := []) O (om_eI hE h) rfl dX9_restore_30
def f_X9_tell  (a0 : Nat) (v1 : Int32) (σ : om_S) : Option (Int32 × om_S) := if om_kc a0 = 9 then om_ref (om_rf a0 0) 20 fun (t1o : Nat) => if om_in (5 : Int32) (om_al t1o) then if (σ t1o (5 : Int32).toNatClampNeg) = (24 : Int32) then (om_call (f_X9_error a0 (4 : Int32) σ) fun (r1o : Int32) (σ1o : om_S) => some (r1o, σ1o)) else (om_ref (om_rf a0 0) 20 fun (t2o : Nat) => om_ref (om_rf a0 0) 20 fun (t3o : Nat) => if om_in (5 : Int32) (om_al t3o) then if om_in ((363 : Int32) + (σ t3o (5 : Int32).toNatClampNeg)) (om_al t2o) then om_let (om_w σ t2o ((363 : Int32) + (σ t3o (5 : Int32).toNatClampNeg)).toNatClampNeg v1) fun (σ2o : om_S) => om_ref (om_rf a0 0) 20 fun (t4o : Nat) => if om_in (5 : Int32) (om_al t4o) then if om_in (5 : Int32) (om_al t4o) then om_let (om_w σ2o t4o (5 : Int32).toNatClampNeg ((σ2o t4o (5 : Int32).toNatClampNeg) + (1 : Int32))) fun (σ3o : om_S) => om_ref (om_rf a0 0) 20 fun (t5o : Nat) => if om_in (5 : Int32) (om_al t5o) then some ((σ3o t5o (5 : Int32).toNatClampNeg), σ3o) else none else none else none else none else none) else none else none
set_option maxRecDepth 100000 in
theorem c_X9_tell (l : Launch) (G : om_G) {a0 : Nat} {v1 : Int32} {σ : om_S} {r : Int32} {τ : om_S} (h : f_X9_tell a0 v1 σ = some (r, τ)) : om_D l G 1 yX9_tell cX9_tell 2 (some FieldType.int) 0 0 [vR (some a0), vI v1] σ om_rf om_N (some (vI r)) τ om_rf om_N := by
  refine om_Dof (lv := [(0, vR (some a0)), (1, vI v1)]) (by decide) rfl_le rfl (fun x O hE => ?_)
  change om_Ok x RX9 "tell" cX9_tell 2 (some FieldType.int) 1 0 0 at O
  unfold f_X9_tell at h
  revert h; refine om_iteR (fun ka0 h => ?_)
  refine om_aload_n O 0 dX9_tell_0 rfl rfl ?_
  revert h; refine om_refR (fun t1o y1o k1o h => ?_)
  refine gf_X9_7 O ka0 (om_lt ka0 (by decide)) dX9_tell_1 ?_
  rw [y1o]
  refine om_iconst O (v := 5) dX9_tell_4 (by decide) ?_
  revert h; refine om_iteR (fun i1o h => ?_)
  refine om_iald O k1o (om_lt k1o (by decide)) i1o dX9_tell_5 ?_
  refine om_bipush O (v := 24) dX9_tell_6 (by decide) ?_
  refine om_icmp_ne O (tgt := 17) dX9_tell_8 (by decide) (fun c1o => ?_) (fun c1o => ?_)
  · replace h := (if_pos c1o).symm.trans h
    refine om_aload_n O 0 dX9_tell_11 rfl rfl ?_
    refine om_iconst O (v := 4) dX9_tell_12 (by decide) ?_
    revert h; refine om_callR (fun r1o σ1o g1o h => ?_)
    refine cl_X9_61 O (st := []) (stk := [vI (4 : Int32), vR (some a0)]) (st2 := [vI r1o]) [vI (4 : Int32)] (fun l G => c_X9_error l G g1o) ka0 (om_lt ka0 (by decide)) (by decide) rfl rfl rfl_le rfl rfl_le rfl_le dX9_tell_13 ?_
    exact om_iret (st := []) O (om_eI hE h) rfl dX9_tell_16
  · replace h := (if_neg c1o).symm.trans h
    refine om_aload_n O 0 dX9_tell_17 rfl rfl ?_
    revert h; refine om_refR (fun t2o y2o k2o h => ?_)
    refine gf_X9_7 O ka0 (om_lt ka0 (by decide)) dX9_tell_18 ?_
    rw [y2o]
    refine om_sipush O (v := 363) dX9_tell_21 (by decide) ?_
    refine om_aload_n O 0 dX9_tell_24 rfl rfl ?_
    revert h; refine om_refR (fun t3o y3o k3o h => ?_)
    refine gf_X9_7 O ka0 (om_lt ka0 (by decide)) dX9_tell_25 ?_
    rw [y3o]
    refine om_iconst O (v := 5) dX9_tell_28 (by decide) ?_
    revert h; refine om_iteR (fun i2o h => ?_)
    refine om_iald O k3o (om_lt k3o (by decide)) i2o dX9_tell_29 ?_
    refine om_iadd O dX9_tell_30 ?_
    refine om_iload_n O 1 dX9_tell_31 rfl rfl ?_
    revert h; refine om_iteR (fun i3o h => ?_)
    revert h; refine om_letR (fun σ2o e1o h => ?_)
    refine om_iast O k2o (om_lt k2o (by decide)) i3o dX9_tell_32 e1o ?_
    refine om_aload_n O 0 dX9_tell_33 rfl rfl ?_
    revert h; refine om_refR (fun t4o y4o k4o h => ?_)
    refine gf_X9_7 O ka0 (om_lt ka0 (by decide)) dX9_tell_34 ?_
    rw [y4o]
    refine om_iconst O (v := 5) dX9_tell_37 (by decide) ?_
    refine om_dup2 O rfl rfl dX9_tell_38 ?_
    revert h; refine om_iteR (fun i4o h => ?_)
    refine om_iald O k4o (om_lt k4o (by decide)) i4o dX9_tell_39 ?_
    refine om_iconst O (v := 1) dX9_tell_40 (by decide) ?_
    refine om_iadd O dX9_tell_41 ?_
    revert h; refine om_iteR (fun i5o h => ?_)
    revert h; refine om_letR (fun σ3o e2o h => ?_)
    refine om_iast O k4o (om_lt k4o (by decide)) i5o dX9_tell_42 e2o ?_
    refine om_aload_n O 0 dX9_tell_43 rfl rfl ?_
    revert h; refine om_refR (fun t5o y5o k5o h => ?_)
    refine gf_X9_7 O ka0 (om_lt ka0 (by decide)) dX9_tell_44 ?_
    rw [y5o]
    refine om_iconst O (v := 5) dX9_tell_47 (by decide) ?_
    revert h; refine om_iteR (fun i6o h => ?_)
    refine om_iald O k5o (om_lt k5o (by decide)) i6o dX9_tell_48 ?_
    exact om_iret (st := []) O (om_eI hE h) rfl dX9_tell_49
def f_X9_check_b16  : Nat → Nat → Int32 → Int32 → om_S → Option (Int32 × om_S)
  | 0, _, _, _, _ => none
  | F + 1, a0, v1, v2, σ => if v1 ≤ v2 then (some ((0 : Int32), σ)) else (om_call (f_X9_isMemory a0 v2 σ) fun (r1o : Int32) (σ1o : om_S) => if r1o = 0 then (some (((1 : Int32) + v2), σ1o)) else (om_ref (om_rf a0 0) 20 fun (t1o : Nat) => if om_in ((363 : Int32) + v2) (om_al t1o) then om_call (f_X9_its a0 v2 (3 : Int32) σ1o) fun (r2o : Int32) (σ2o : om_S) => if (σ1o t1o ((363 : Int32) + v2).toNatClampNeg) = r2o then ((f_X9_check_b16 F) a0 v1 (v2 + 1) σ2o) else (some (((1 : Int32) + v2), σ2o)) else none))
set_option maxRecDepth 100000 in
theorem g_X9_check_b16 {x : om_X}   (O : om_Ok x RX9 "check" cX9_check 3 (some FieldType.int) 2 0 0)   {r : Int32} {τ : om_S} (hE : om_End x (some (vI r)) τ om_rf om_N 0 0)   : ∀ (F : Nat) (a0 : Nat) (v1 : Int32) (v2 : Int32) (σ : om_S) (ka0 : om_kc a0 = 9), f_X9_check_b16 F a0 v1 v2 σ = some (r, τ) → om_J x 16 [(0, vR (some a0)), (1, vI v1), (2, vI v2)] [] σ om_rf om_N 0 0 := by
  intro F
  induction F with
  | zero =>
    intro a0 v1 v2 σ ka0 h
    cases h
  | succ F ih =>
    intro a0 v1 v2 σ ka0 h
    unfold f_X9_check_b16 at h
    refine om_iload_n O 2 dX9_check_16 rfl rfl ?_
    refine om_iload_n O 1 dX9_check_17 rfl rfl ?_
    refine om_icmp_ge O (tgt := 58) dX9_check_18 (by decide) (fun c1o => ?_) (fun c1o => ?_)
    · replace h := (if_pos c1o).symm.trans h
      refine om_iconst O (v := 0) dX9_check_58 (by decide) ?_
      exact om_iret (st := []) O (om_eI hE h) rfl dX9_check_59
    · replace h := (if_neg c1o).symm.trans h
      refine om_aload_n O 0 dX9_check_21 rfl rfl ?_
      refine om_iload_n O 2 dX9_check_22 rfl rfl ?_
      revert h; refine om_callR (fun r1o σ1o g1o h => ?_)
      refine cl_X9_168 O (st := []) (stk := [vI v2, vR (some a0)]) (st2 := [vI r1o]) [vI v2] (fun l G => c_X9_isMemory l G g1o) ka0 (om_lt ka0 (by decide)) (by decide) rfl rfl rfl_le rfl rfl_le rfl_le dX9_check_23 ?_
      refine om_if_eq O (tgt := 48) dX9_check_26 (by decide) (fun c2o => ?_) (fun c2o => ?_)
      · replace h := (if_pos c2o).symm.trans h
        refine om_iconst O (v := 1) dX9_check_48 (by decide) ?_
        refine om_iload_n O 2 dX9_check_49 rfl rfl ?_
        refine om_iadd O dX9_check_50 ?_
        exact om_iret (st := []) O (om_eI hE h) rfl dX9_check_51
      · replace h := (if_neg c2o).symm.trans h
        refine om_aload_n O 0 dX9_check_29 rfl rfl ?_
        revert h; refine om_refR (fun t1o y1o k1o h => ?_)
        refine gf_X9_7 O ka0 (om_lt ka0 (by decide)) dX9_check_30 ?_
        rw [y1o]
        refine om_sipush O (v := 363) dX9_check_33 (by decide) ?_
        refine om_iload_n O 2 dX9_check_36 rfl rfl ?_
        refine om_iadd O dX9_check_37 ?_
        revert h; refine om_iteR (fun i1o h => ?_)
        refine om_iald O k1o (om_lt k1o (by decide)) i1o dX9_check_38 ?_
        refine om_aload_n O 0 dX9_check_39 rfl rfl ?_
        refine om_iload_n O 2 dX9_check_40 rfl rfl ?_
        refine om_iconst O (v := 3) dX9_check_41 (by decide) ?_
        revert h; refine om_callR (fun r2o σ2o g2o h => ?_)
        refine cl_X9_120 O (st := [vI (σ1o t1o ((363 : Int32) + v2).toNatClampNeg)]) (stk := [vI (3 : Int32), vI v2, vR (some a0), vI (σ1o t1o ((363 : Int32) + v2).toNatClampNeg)]) (st2 := [vI r2o, vI (σ1o t1o ((363 : Int32) + v2).toNatClampNeg)]) [vI v2, vI (3 : Int32)] (fun l G => c_X9_its l G g2o) ka0 (om_lt ka0 (by decide)) (by decide) rfl rfl rfl_le rfl rfl_le rfl_le dX9_check_42 ?_
        refine om_icmp_eq O (tgt := 52) dX9_check_45 (by decide) (fun c3o => ?_) (fun c3o => ?_)
        · replace h := (if_pos c3o).symm.trans h
          refine om_iinc O (v1 := (v2 + 1)) (lv' := [(0, vR (some a0)), (1, vI v1), (2, vI (v2 + 1))]) 2 [1, 2, 0] rfl dX9_check_52 rfl rfl (by decide) rfl ?_
          refine om_goto O (tgt := 16) dX9_check_55 (by decide) ?_
          exact ih _ _ _ _ ka0 h
        · replace h := (if_neg c3o).symm.trans h
          refine om_iconst O (v := 1) dX9_check_48 (by decide) ?_
          refine om_iload_n O 2 dX9_check_49 rfl rfl ?_
          refine om_iadd O dX9_check_50 ?_
          exact om_iret (st := []) O (om_eI hE h) rfl dX9_check_51
def f_X9_check  (a0 : Nat) (σ : om_S) : Option (Int32 × om_S) := if om_kc a0 = 9 then om_ref (om_rf a0 0) 20 fun (t1o : Nat) => if om_in (5 : Int32) (om_al t1o) then om_let (σ t1o (5 : Int32).toNatClampNeg) fun (x1o : Int32) => om_ref (om_rf a0 0) 20 fun (t2o : Nat) => if om_in (5 : Int32) (om_al t2o) then om_let (om_w σ t2o (5 : Int32).toNatClampNeg (0 : Int32)) fun (σ1o : om_S) => f_X9_check_b16 om_F a0 x1o (0 : Int32) σ1o else none else none else none
set_option maxRecDepth 100000 in
theorem c_X9_check (l : Launch) (G : om_G) {a0 : Nat} {σ : om_S} {r : Int32} {τ : om_S} (h : f_X9_check a0 σ = some (r, τ)) : om_D l G 2 yX9_check cX9_check 3 (some FieldType.int) 0 0 [vR (some a0)] σ om_rf om_N (some (vI r)) τ om_rf om_N := by
  refine om_Dof (lv := [(0, vR (some a0))]) (by decide) rfl_le rfl (fun x O hE => ?_)
  change om_Ok x RX9 "check" cX9_check 3 (some FieldType.int) 2 0 0 at O
  unfold f_X9_check at h
  revert h; refine om_iteR (fun ka0 h => ?_)
  refine om_aload_n O 0 dX9_check_0 rfl rfl ?_
  revert h; refine om_refR (fun t1o y1o k1o h => ?_)
  refine gf_X9_7 O ka0 (om_lt ka0 (by decide)) dX9_check_1 ?_
  rw [y1o]
  refine om_iconst O (v := 5) dX9_check_4 (by decide) ?_
  revert h; refine om_iteR (fun i1o h => ?_)
  refine om_iald O k1o (om_lt k1o (by decide)) i1o dX9_check_5 ?_
  revert h; refine om_letR (fun x1o e1o h => ?_)
  refine om_istore_n O (lv' := [(0, vR (some a0)), (1, vI x1o)]) [1, 0] e1o dX9_check_6 rfl (by decide) rfl ?_
  refine om_aload_n O 0 dX9_check_7 rfl rfl ?_
  revert h; refine om_refR (fun t2o y2o k2o h => ?_)
  refine gf_X9_7 O ka0 (om_lt ka0 (by decide)) dX9_check_8 ?_
  rw [y2o]
  refine om_iconst O (v := 5) dX9_check_11 (by decide) ?_
  refine om_iconst O (v := 0) dX9_check_12 (by decide) ?_
  revert h; refine om_iteR (fun i2o h => ?_)
  revert h; refine om_letR (fun σ1o e2o h => ?_)
  refine om_iast O k2o (om_lt k2o (by decide)) i2o dX9_check_13 e2o ?_
  refine om_iconst O (v := 0) dX9_check_14 (by decide) ?_
  refine om_istore_n O (lv' := [(0, vR (some a0)), (1, vI x1o), (2, vI (0 : Int32))]) [1, 2, 0] rfl dX9_check_15 rfl (by decide) rfl ?_
  exact g_X9_check_b16 O hE om_F _ _ _ _ ka0 h
def f_X9_count  (a0 : Nat) (v1 : Int32) (σ : om_S) : Option (Int32 × om_S) := if om_kc a0 = 9 then if v1 = 0 then (om_ref (om_rf a0 0) 20 fun (t1o : Nat) => if om_in (6 : Int32) (om_al t1o) then some ((σ t1o (6 : Int32).toNatClampNeg), σ) else none) else (if v1 = 1 then (om_ref (om_rf a0 0) 20 fun (t2o : Nat) => if om_in (0 : Int32) (om_al t2o) then some ((σ t2o (0 : Int32).toNatClampNeg), σ) else none) else (if v1 = 2 then (om_ref (om_rf a0 0) 20 fun (t3o : Nat) => if om_in (1 : Int32) (om_al t3o) then some ((σ t3o (1 : Int32).toNatClampNeg), σ) else none) else (if v1 = 3 then (om_ref (om_rf a0 0) 20 fun (t4o : Nat) => if om_in (2 : Int32) (om_al t4o) then some ((σ t4o (2 : Int32).toNatClampNeg), σ) else none) else (if v1 = 4 then (om_ref (om_rf a0 0) 20 fun (t5o : Nat) => if om_in (4 : Int32) (om_al t5o) then some ((σ t5o (4 : Int32).toNatClampNeg), σ) else none) else (if v1 = 5 then (om_ref (om_rf a0 0) 20 fun (t6o : Nat) => if om_in (5 : Int32) (om_al t6o) then some ((σ t6o (5 : Int32).toNatClampNeg), σ) else none) else (if v1 = 6 then (some ((σ a0 15), σ)) else (if v1 = 7 then (om_ref (om_rf a0 0) 20 fun (t7o : Nat) => if om_in (3 : Int32) (om_al t7o) then some ((σ t7o (3 : Int32).toNatClampNeg), σ) else none) else (om_call (f_X9_error a0 (1 : Int32) σ) fun (r1o : Int32) (σ1o : om_S) => some (r1o, σ1o))))))))) else none
set_option maxRecDepth 100000 in
theorem c_X9_count (l : Launch) (G : om_G) {a0 : Nat} {v1 : Int32} {σ : om_S} {r : Int32} {τ : om_S} (h : f_X9_count a0 v1 σ = some (r, τ)) : om_D l G 1 yX9_count cX9_count 2 (some FieldType.int) 0 0 [vR (some a0), vI v1] σ om_rf om_N (some (vI r)) τ om_rf om_N := by
  refine om_Dof (lv := [(0, vR (some a0)), (1, vI v1)]) (by decide) rfl_le rfl (fun x O hE => ?_)
  change om_Ok x RX9 "count" cX9_count 2 (some FieldType.int) 1 0 0 at O
  unfold f_X9_count at h
  revert h; refine om_iteR (fun ka0 h => ?_)
  refine om_iload_n O 1 dX9_count_0 rfl rfl ?_
  by_cases c1o : v1 = 0
  · replace h := (if_pos c1o).symm.trans h
    refine om_tblIn O (b := 0) (off := 47) (tgt := 48) dX9_count_1 c1o (by decide) (by decide) (by decide +kernel) (by decide) ?_
    refine om_aload_n O 0 dX9_count_48 rfl rfl ?_
    revert h; refine om_refR (fun t1o y1o k1o h => ?_)
    refine gf_X9_7 O ka0 (om_lt ka0 (by decide)) dX9_count_49 ?_
    rw [y1o]
    refine om_bipush O (v := 6) dX9_count_52 (by decide) ?_
    revert h; refine om_iteR (fun i1o h => ?_)
    refine om_iald O k1o (om_lt k1o (by decide)) i1o dX9_count_54 ?_
    exact om_iret (st := []) O (om_eI hE h) rfl dX9_count_55
  · replace h := (if_neg c1o).symm.trans h
    by_cases c2o : v1 = 1
    · replace h := (if_pos c2o).symm.trans h
      refine om_tblIn O (b := 1) (off := 55) (tgt := 56) dX9_count_1 c2o (by decide) (by decide) (by decide +kernel) (by decide) ?_
      refine om_aload_n O 0 dX9_count_56 rfl rfl ?_
      revert h; refine om_refR (fun t2o y2o k2o h => ?_)
      refine gf_X9_7 O ka0 (om_lt ka0 (by decide)) dX9_count_57 ?_
      rw [y2o]
      refine om_iconst O (v := 0) dX9_count_60 (by decide) ?_
      revert h; refine om_iteR (fun i2o h => ?_)
      refine om_iald O k2o (om_lt k2o (by decide)) i2o dX9_count_61 ?_
      exact om_iret (st := []) O (om_eI hE h) rfl dX9_count_62
    · replace h := (if_neg c2o).symm.trans h
      by_cases c3o : v1 = 2
      · replace h := (if_pos c3o).symm.trans h
        refine om_tblIn O (b := 2) (off := 62) (tgt := 63) dX9_count_1 c3o (by decide) (by decide) (by decide +kernel) (by decide) ?_
        refine om_aload_n O 0 dX9_count_63 rfl rfl ?_
        revert h; refine om_refR (fun t3o y3o k3o h => ?_)
        refine gf_X9_7 O ka0 (om_lt ka0 (by decide)) dX9_count_64 ?_
        rw [y3o]
        refine om_iconst O (v := 1) dX9_count_67 (by decide) ?_
        revert h; refine om_iteR (fun i3o h => ?_)
        refine om_iald O k3o (om_lt k3o (by decide)) i3o dX9_count_68 ?_
        exact om_iret (st := []) O (om_eI hE h) rfl dX9_count_69
      · replace h := (if_neg c3o).symm.trans h
        by_cases c4o : v1 = 3
        · replace h := (if_pos c4o).symm.trans h
          refine om_tblIn O (b := 3) (off := 69) (tgt := 70) dX9_count_1 c4o (by decide) (by decide) (by decide +kernel) (by decide) ?_
          refine om_aload_n O 0 dX9_count_70 rfl rfl ?_
          revert h; refine om_refR (fun t4o y4o k4o h => ?_)
          refine gf_X9_7 O ka0 (om_lt ka0 (by decide)) dX9_count_71 ?_
          rw [y4o]
          refine om_iconst O (v := 2) dX9_count_74 (by decide) ?_
          revert h; refine om_iteR (fun i4o h => ?_)
          refine om_iald O k4o (om_lt k4o (by decide)) i4o dX9_count_75 ?_
          exact om_iret (st := []) O (om_eI hE h) rfl dX9_count_76
        · replace h := (if_neg c4o).symm.trans h
          by_cases c5o : v1 = 4
          · replace h := (if_pos c5o).symm.trans h
            refine om_tblIn O (b := 4) (off := 76) (tgt := 77) dX9_count_1 c5o (by decide) (by decide) (by decide +kernel) (by decide) ?_
            refine om_aload_n O 0 dX9_count_77 rfl rfl ?_
            revert h; refine om_refR (fun t5o y5o k5o h => ?_)
            refine gf_X9_7 O ka0 (om_lt ka0 (by decide)) dX9_count_78 ?_
            rw [y5o]
            refine om_iconst O (v := 4) dX9_count_81 (by decide) ?_
            revert h; refine om_iteR (fun i5o h => ?_)
            refine om_iald O k5o (om_lt k5o (by decide)) i5o dX9_count_82 ?_
            exact om_iret (st := []) O (om_eI hE h) rfl dX9_count_83
          · replace h := (if_neg c5o).symm.trans h
            by_cases c6o : v1 = 5
            · replace h := (if_pos c6o).symm.trans h
              refine om_tblIn O (b := 5) (off := 83) (tgt := 84) dX9_count_1 c6o (by decide) (by decide) (by decide +kernel) (by decide) ?_
              refine om_aload_n O 0 dX9_count_84 rfl rfl ?_
              revert h; refine om_refR (fun t6o y6o k6o h => ?_)
              refine gf_X9_7 O ka0 (om_lt ka0 (by decide)) dX9_count_85 ?_
              rw [y6o]
              refine om_iconst O (v := 5) dX9_count_88 (by decide) ?_
              revert h; refine om_iteR (fun i6o h => ?_)
              refine om_iald O k6o (om_lt k6o (by decide)) i6o dX9_count_89 ?_
              exact om_iret (st := []) O (om_eI hE h) rfl dX9_count_90
            · replace h := (if_neg c6o).symm.trans h
              by_cases c7o : v1 = 6
              · replace h := (if_pos c7o).symm.trans h
                refine om_tblIn O (b := 6) (off := 90) (tgt := 91) dX9_count_1 c7o (by decide) (by decide) (by decide +kernel) (by decide) ?_
                refine om_aload_n O 0 dX9_count_91 rfl rfl ?_
                refine gf_X9_210 O ka0 (om_lt ka0 (by decide)) dX9_count_92 ?_
                exact om_iret (st := []) O (om_eI hE h) rfl dX9_count_95
              · replace h := (if_neg c7o).symm.trans h
                by_cases c8o : v1 = 7
                · replace h := (if_pos c8o).symm.trans h
                  refine om_tblIn O (b := 7) (off := 95) (tgt := 96) dX9_count_1 c8o (by decide) (by decide) (by decide +kernel) (by decide) ?_
                  refine om_aload_n O 0 dX9_count_96 rfl rfl ?_
                  revert h; refine om_refR (fun t7o y7o k7o h => ?_)
                  refine gf_X9_7 O ka0 (om_lt ka0 (by decide)) dX9_count_97 ?_
                  rw [y7o]
                  refine om_iconst O (v := 3) dX9_count_100 (by decide) ?_
                  revert h; refine om_iteR (fun i7o h => ?_)
                  refine om_iald O k7o (om_lt k7o (by decide)) i7o dX9_count_101 ?_
                  exact om_iret (st := []) O (om_eI hE h) rfl dX9_count_102
                · replace h := (if_neg c8o).symm.trans h
                  refine om_tblDef O (tgt := 103) dX9_count_1 (fun v hv h1 h2 => by
    have h3 : v = 0 ∨ v = 1 ∨ v = 2 ∨ v = 3 ∨ v = 4 ∨ v = 5 ∨ v = 6 ∨ v = 7 := by omega
    rcases h3 with rfl | rfl | rfl | rfl | rfl | rfl | rfl | rfl <;> first | rfl | exact absurd hv.symm (lv_neT (k := 0) c1o (by decide)) | exact absurd hv.symm (lv_neT (k := 1) c2o (by decide)) | exact absurd hv.symm (lv_neT (k := 2) c3o (by decide)) | exact absurd hv.symm (lv_neT (k := 3) c4o (by decide)) | exact absurd hv.symm (lv_neT (k := 4) c5o (by decide)) | exact absurd hv.symm (lv_neT (k := 5) c6o (by decide)) | exact absurd hv.symm (lv_neT (k := 6) c7o (by decide)) | exact absurd hv.symm (lv_neT (k := 7) c8o (by decide))) (by decide) ?_
                  refine om_aload_n O 0 dX9_count_103 rfl rfl ?_
                  refine om_iconst O (v := 1) dX9_count_104 (by decide) ?_
                  revert h; refine om_callR (fun r1o σ1o g1o h => ?_)
                  refine cl_X9_61 O (st := []) (stk := [vI (1 : Int32), vR (some a0)]) (st2 := [vI r1o]) [vI (1 : Int32)] (fun l G => c_X9_error l G g1o) ka0 (om_lt ka0 (by decide)) (by decide) rfl rfl rfl_le rfl rfl_le rfl_le dX9_count_105 ?_
                  exact om_iret (st := []) O (om_eI hE h) rfl dX9_count_108
def f_X9_told  (a0 : Nat) (v1 : Int32) (σ : om_S) : Option (Int32 × om_S) := if om_kc a0 = 9 then om_call (f_X9_in v1 (1 : Int32) (6 : Int32) σ) fun (r1o : Int32) (σ1o : om_S) => if r1o = 0 then (om_call (f_X9_error a0 (1 : Int32) σ1o) fun (r2o : Int32) (σ2o : om_S) => some (r2o, σ2o)) else (om_ref (om_rf a0 4) 20 fun (t1o : Nat) => if om_in v1 (om_al t1o) then some ((σ1o t1o v1.toNatClampNeg), σ1o) else none) else none
set_option maxRecDepth 100000 in
theorem c_X9_told (l : Launch) (G : om_G) {a0 : Nat} {v1 : Int32} {σ : om_S} {r : Int32} {τ : om_S} (h : f_X9_told a0 v1 σ = some (r, τ)) : om_D l G 1 yX9_told cX9_told 2 (some FieldType.int) 0 0 [vR (some a0), vI v1] σ om_rf om_N (some (vI r)) τ om_rf om_N := by
  refine om_Dof (lv := [(0, vR (some a0)), (1, vI v1)]) (by decide) rfl_le rfl (fun x O hE => ?_)
  change om_Ok x RX9 "told" cX9_told 2 (some FieldType.int) 1 0 0 at O
  unfold f_X9_told at h
  revert h; refine om_iteR (fun ka0 h => ?_)
  refine om_iload_n O 1 dX9_told_0 rfl rfl ?_
  refine om_iconst O (v := 1) dX9_told_1 (by decide) ?_
  refine om_bipush O (v := 6) dX9_told_2 (by decide) ?_
  revert h; refine om_callR (fun r1o σ1o g1o h => ?_)
  refine cl_X9_57 O (st := []) (stk := [vI (6 : Int32), vI (1 : Int32), vI v1]) (st2 := [vI r1o]) [vI v1, vI (1 : Int32), vI (6 : Int32)] (fun l G => c_X9_in l G g1o) (by decide) rfl rfl rfl_le rfl rfl_le rfl_le dX9_told_4 ?_
  refine om_if_eq O (tgt := 19) dX9_told_7 (by decide) (fun c1o => ?_) (fun c1o => ?_)
  · replace h := (if_pos c1o).symm.trans h
    refine om_aload_n O 0 dX9_told_19 rfl rfl ?_
    refine om_iconst O (v := 1) dX9_told_20 (by decide) ?_
    revert h; refine om_callR (fun r2o σ2o g2o h => ?_)
    refine cl_X9_61 O (st := []) (stk := [vI (1 : Int32), vR (some a0)]) (st2 := [vI r2o]) [vI (1 : Int32)] (fun l G => c_X9_error l G g2o) ka0 (om_lt ka0 (by decide)) (by decide) rfl rfl rfl_le rfl rfl_le rfl_le dX9_told_21 ?_
    exact om_iret (st := []) O (om_eI hE h) rfl dX9_told_24
  · replace h := (if_neg c1o).symm.trans h
    refine om_aload_n O 0 dX9_told_10 rfl rfl ?_
    revert h; refine om_refR (fun t1o y1o k1o h => ?_)
    refine gf_X9_19 O ka0 (om_lt ka0 (by decide)) dX9_told_11 ?_
    rw [y1o]
    refine om_iload_n O 1 dX9_told_14 rfl rfl ?_
    revert h; refine om_iteR (fun i1o h => ?_)
    refine om_iald O k1o (om_lt k1o (by decide)) i1o dX9_told_15 ?_
    refine om_goto O (tgt := 24) dX9_told_16 (by decide) ?_
    exact om_iret (st := []) O (om_eI hE h) rfl dX9_told_24
